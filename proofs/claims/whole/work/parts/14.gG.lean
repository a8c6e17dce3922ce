-- ===== X6_shore
abbrev W_X6_shore (E : Env0) (a_t : Nat) (a_now : Nat) (a_refused : Nat) (a_kept : Nat) (a_mind : Nat) (a_tape : Nat) (a_words : Nat) (a_wCell : Nat) (a_wFaces : Nat) (a_wTurns : Nat) (a_wSign : Nat) (a_wBy : Nat) (a_wFell : Nat) (a_telling : Nat) (a_holds : Nat) (a_sizes : Nat) (a_elements : Nat) (a_moved : Nat) (a_above : Nat) (a_out : Nat) (a_first : Nat) (c_t : Nat → Int32) (c_now : Nat → Int32) : va_W := [(a_t, .inr (6, [.ref a_refused, .ref a_now, .ref a_kept, .ref a_mind, .int (c_t 4), .ref a_tape, .int (c_t 6), .int (c_t 7), .int (c_t 8), .int (c_t 9), .ref a_words, .ref a_wCell, .ref a_wFaces, .ref a_wTurns, .ref a_wSign, .ref a_wBy, .ref a_wFell, .int (c_t 17), .ref a_telling, .ref a_holds, .ref a_sizes, .ref a_elements, .ref a_moved, .ref a_above, .ref a_out, .ref a_first])), (a_now, .inl (eI E, 97, .inl c_now))]
abbrev r_X6_shore : Room := { frames := 3, cells := 0, slots := 0, locals := 73 }
theorem hd_X6_shore : yX6_shore.cls ≠ "java/lang/invoke/MethodHandle" ∧ yX6_shore.cls ≠ "java/lang/invoke/VarHandle" ∧ (parseMethodDescriptor yX6_shore.desc).map (fun d => d.parameters.length) = some 0 := by decide +kernel
theorem hV_X6_shore : yX6_shore.cls = RX6 ∧ yX6_shore.cls ≠ "java/lang/invoke/MethodHandle" ∧ yX6_shore.cls ≠ "java/lang/invoke/VarHandle" ∧ (parseMethodDescriptor yX6_shore.desc).map (fun d => d.parameters.length) = some 0 := ⟨rfl, hd_X6_shore⟩
section
variable {p : Program} {l : Launch} {e : Env} {s : State} {m : MethodId} {args : Array Value} {below : List Frame} {meth : Method} {c : Code} {E : Env0} {A : Nat → Prop}
set_option maxRecDepth 100000 in
set_option maxHeartbeats 4000000 in
theorem w_X6_shore_b40 (X : Ctx p m meth c cX6_shore 3 ((some .int)) s args wsX6_shore RX6 E A) (a_t : Nat) (a_now : Nat) (a_refused : Nat) (a_kept : Nat) (a_mind : Nat) (a_tape : Nat) (a_words : Nat) (a_wCell : Nat) (a_wFaces : Nat) (a_wTurns : Nat) (a_wSign : Nat) (a_wBy : Nat) (a_wFell : Nat) (a_telling : Nat) (a_holds : Nat) (a_sizes : Nat) (a_elements : Nat) (a_moved : Nat) (a_above : Nat) (a_out : Nat) (a_first : Nat) (c_t : Nat → Int32) (c_now : Nat → Int32) (res : Int32) (k4 : Int32 → Int32 → Option (Int32)) (hk4 : ∀ (l1 : Int32) (l2 : Int32) (ls : Array Slot) (H : Heap) (locs : List Loc), k4 l1 l2 = some res → va_P E.1 vwCl (W_X6_shore E a_t a_now a_refused a_kept a_mind a_tape a_words a_wCell a_wFaces a_wTurns a_wSign a_wBy a_wFell a_telling a_holds a_sizes a_elements a_moved a_above a_out a_first c_t c_now) H → va_D A (W_X6_shore E a_t a_now a_refused a_kept a_mind a_tape a_words a_wCell a_wFaces a_wTurns a_wSign a_wBy a_wFell a_telling a_holds a_sizes a_elements a_moved a_above a_out a_first c_t c_now) → va_S A s.heap H locs → lv_has ls 3 [(0, .ref a_t), (1, .int l1), (2, .int l2)] → W p l e r_X6_shore s m args below meth c H locs 0 0 (MQ below (qI E A res (W_X6_shore E a_t a_now a_refused a_kept a_mind a_tape a_words a_wCell a_wFaces a_wTurns a_wSign a_wBy a_wFell a_telling a_holds a_sizes a_elements a_moved a_above a_out a_first c_t c_now)) args s 0 0 A) (F0 m 4 ls [])) (l2 : Int32) (s0 : Int32) (s1 : Int32) (ls : Array Slot) (H : Heap) (locs : List Loc) (h : f_X6_shore_b40 c_t c_now k4 l2 s0 s1 = some res) (hP : va_P E.1 vwCl (W_X6_shore E a_t a_now a_refused a_kept a_mind a_tape a_words a_wCell a_wFaces a_wTurns a_wSign a_wBy a_wFell a_telling a_holds a_sizes a_elements a_moved a_above a_out a_first c_t c_now) H) (hD : va_D A (W_X6_shore E a_t a_now a_refused a_kept a_mind a_tape a_words a_wCell a_wFaces a_wTurns a_wSign a_wBy a_wFell a_telling a_holds a_sizes a_elements a_moved a_above a_out a_first c_t c_now)) (hS : va_S A s.heap H locs) (hl : lv_has ls 3 [(0, .ref a_t), (2, .int l2)]) : W p l e r_X6_shore s m args below meth c H locs 0 0 (MQ below (qI E A res (W_X6_shore E a_t a_now a_refused a_kept a_mind a_tape a_words a_wCell a_wFaces a_wTurns a_wSign a_wBy a_wFell a_telling a_holds a_sizes a_elements a_moved a_above a_out a_first c_t c_now)) args s 0 0 A) (F0 m 40 ls [.int s0, .int s1]) := by
  obtain ⟨hx, hb, hml, hr, hlk, hown, hts, hG, hA⟩ := id X
  have hK := hG.1
  have hN := hG.2.1
  unfold f_X6_shore_b40 at h
  refine lv_iadd hx hb dX6_shore_40 ?_
  refine lv_istore_n (lv' := [(1, .int (s1 + s0)), (0, .ref a_t), (2, .int l2)]) hx hb dX6_shore_41 rfl hl (by decide) rfl (fun ls hl => ?_)
  refine lv_iinc (v := (l2 + (1 : Int32))) (lv' := [(2, .int (l2 + (1 : Int32))), (1, .int (s1 + s0)), (0, .ref a_t)]) hx hb dX6_shore_42 hl (k := 2) rfl rfl (by decide) rfl (fun ls hl => ?_)
  refine lv_goto (tgt := 4) hx hb dX6_shore_45 (by decide) ?_
  exact hk4 (s1 + s0) (l2 + (1 : Int32)) _ _ _ h hP hD hS (lv_sub hl [2, 1, 0] rfl)
set_option maxRecDepth 100000 in
set_option maxHeartbeats 4000000 in
theorem w_X6_shore_b39 (X : Ctx p m meth c cX6_shore 3 ((some .int)) s args wsX6_shore RX6 E A) (a_t : Nat) (a_now : Nat) (a_refused : Nat) (a_kept : Nat) (a_mind : Nat) (a_tape : Nat) (a_words : Nat) (a_wCell : Nat) (a_wFaces : Nat) (a_wTurns : Nat) (a_wSign : Nat) (a_wBy : Nat) (a_wFell : Nat) (a_telling : Nat) (a_holds : Nat) (a_sizes : Nat) (a_elements : Nat) (a_moved : Nat) (a_above : Nat) (a_out : Nat) (a_first : Nat) (c_t : Nat → Int32) (c_now : Nat → Int32) (res : Int32) (k4 : Int32 → Int32 → Option (Int32)) (hk4 : ∀ (l1 : Int32) (l2 : Int32) (ls : Array Slot) (H : Heap) (locs : List Loc), k4 l1 l2 = some res → va_P E.1 vwCl (W_X6_shore E a_t a_now a_refused a_kept a_mind a_tape a_words a_wCell a_wFaces a_wTurns a_wSign a_wBy a_wFell a_telling a_holds a_sizes a_elements a_moved a_above a_out a_first c_t c_now) H → va_D A (W_X6_shore E a_t a_now a_refused a_kept a_mind a_tape a_words a_wCell a_wFaces a_wTurns a_wSign a_wBy a_wFell a_telling a_holds a_sizes a_elements a_moved a_above a_out a_first c_t c_now) → va_S A s.heap H locs → lv_has ls 3 [(0, .ref a_t), (1, .int l1), (2, .int l2)] → W p l e r_X6_shore s m args below meth c H locs 0 0 (MQ below (qI E A res (W_X6_shore E a_t a_now a_refused a_kept a_mind a_tape a_words a_wCell a_wFaces a_wTurns a_wSign a_wBy a_wFell a_telling a_holds a_sizes a_elements a_moved a_above a_out a_first c_t c_now)) args s 0 0 A) (F0 m 4 ls [])) (l2 : Int32) (s0 : Int32) (ls : Array Slot) (H : Heap) (locs : List Loc) (h : f_X6_shore_b39 c_t c_now k4 l2 s0 = some res) (hP : va_P E.1 vwCl (W_X6_shore E a_t a_now a_refused a_kept a_mind a_tape a_words a_wCell a_wFaces a_wTurns a_wSign a_wBy a_wFell a_telling a_holds a_sizes a_elements a_moved a_above a_out a_first c_t c_now) H) (hD : va_D A (W_X6_shore E a_t a_now a_refused a_kept a_mind a_tape a_words a_wCell a_wFaces a_wTurns a_wSign a_wBy a_wFell a_telling a_holds a_sizes a_elements a_moved a_above a_out a_first c_t c_now)) (hS : va_S A s.heap H locs) (hl : lv_has ls 3 [(0, .ref a_t), (2, .int l2)]) : W p l e r_X6_shore s m args below meth c H locs 0 0 (MQ below (qI E A res (W_X6_shore E a_t a_now a_refused a_kept a_mind a_tape a_words a_wCell a_wFaces a_wTurns a_wSign a_wBy a_wFell a_telling a_holds a_sizes a_elements a_moved a_above a_out a_first c_t c_now)) args s 0 0 A) (F0 m 39 ls [.int s0]) := by
  obtain ⟨hx, hb, hml, hr, hlk, hown, hts, hG, hA⟩ := id X
  have hK := hG.1
  have hN := hG.2.1
  unfold f_X6_shore_b39 at h
  refine lv_iconst (v := (0 : Int32)) hx hb dX6_shore_39 (by decide) ?_
  exact w_X6_shore_b40 X a_t a_now a_refused a_kept a_mind a_tape a_words a_wCell a_wFaces a_wTurns a_wSign a_wBy a_wFell a_telling a_holds a_sizes a_elements a_moved a_above a_out a_first c_t c_now res k4 hk4 l2 (0 : Int32) s0 _ _ _ h hP hD hS (lv_sub hl [0, 1] rfl)
set_option maxRecDepth 100000 in
set_option maxHeartbeats 4000000 in
theorem w_X6_shore_b4 (X : Ctx p m meth c cX6_shore 3 ((some .int)) s args wsX6_shore RX6 E A) (a_t : Nat) (a_now : Nat) (a_refused : Nat) (a_kept : Nat) (a_mind : Nat) (a_tape : Nat) (a_words : Nat) (a_wCell : Nat) (a_wFaces : Nat) (a_wTurns : Nat) (a_wSign : Nat) (a_wBy : Nat) (a_wFell : Nat) (a_telling : Nat) (a_holds : Nat) (a_sizes : Nat) (a_elements : Nat) (a_moved : Nat) (a_above : Nat) (a_out : Nat) (a_first : Nat) (c_t : Nat → Int32) (c_now : Nat → Int32) (res : Int32) : ∀ (n : Nat) (l1 : Int32) (l2 : Int32) (ls : Array Slot) (H : Heap) (locs : List Loc), f_X6_shore_b4 c_t c_now n l1 l2 = some res → va_P E.1 vwCl (W_X6_shore E a_t a_now a_refused a_kept a_mind a_tape a_words a_wCell a_wFaces a_wTurns a_wSign a_wBy a_wFell a_telling a_holds a_sizes a_elements a_moved a_above a_out a_first c_t c_now) H → va_D A (W_X6_shore E a_t a_now a_refused a_kept a_mind a_tape a_words a_wCell a_wFaces a_wTurns a_wSign a_wBy a_wFell a_telling a_holds a_sizes a_elements a_moved a_above a_out a_first c_t c_now) → va_S A s.heap H locs → lv_has ls 3 [(0, .ref a_t), (1, .int l1), (2, .int l2)] → W p l e r_X6_shore s m args below meth c H locs 0 0 (MQ below (qI E A res (W_X6_shore E a_t a_now a_refused a_kept a_mind a_tape a_words a_wCell a_wFaces a_wTurns a_wSign a_wBy a_wFell a_telling a_holds a_sizes a_elements a_moved a_above a_out a_first c_t c_now)) args s 0 0 A) (F0 m 4 ls []) := by
  obtain ⟨hx, hb, hml, hr, hlk, hown, hts, hG, hA⟩ := id X
  have hK := hG.1
  have hN := hG.2.1
  intro n
  induction n with
  | zero =>
    intro l1 l2 ls H locs h
    exact absurd (show (none : Option (Int32)) = some res from h) (by intro q; cases q)
  | succ n ih =>
    intro l1 l2 ls H locs h hP hD hS hl
    rw [f_X6_shore_b4] at h
    refine lv_iload_n hx hb dX6_shore_4 rfl (lv_at hl 2 rfl) ?_
    refine lv_bipush (v := (67 : Int32)) hx hb dX6_shore_5 (by decide) ?_
    refine lv_icmp_ge (tgt := 48) hx hb dX6_shore_7 (by decide) (fun hc7 => ?_) (fun hc7 => ?_)
    · have h := if_t h hc7
      refine lv_iload_n hx hb dX6_shore_48 rfl (lv_at hl 1 rfl) ?_
      obtain rfl := Option.some.inj h
      exact ret_i X dX6_shore_49 hP hD hS rfl
    · have h := if_f h hc7
      refine lv_iload_n hx hb dX6_shore_10 rfl (lv_at hl 1 rfl) ?_
      refine lv_aload_n hx hb dX6_shore_11 rfl (lv_at hl 0 rfl) ?_
      refine lv_iload_n hx hb dX6_shore_12 rfl (lv_at hl 2 rfl) ?_
      obtain ⟨v1, hv1, h⟩ := bind_of h
      refine after_i X (run_V X (c_X6_isCell l E a_t a_now a_refused a_kept a_mind a_tape a_words a_wCell a_wFaces a_wTurns a_wSign a_wBy a_wFell a_telling a_holds a_sizes a_elements a_moved a_above a_out a_first l2 c_t c_now H.size v1 hv1) (cwV 1 hts gX6_shore_X6_isCell rfl rfl rfl hV_X6_isCell ⟨(Nat.le_of_ble_eq_true rfl), (Nat.le_of_ble_eq_true rfl)⟩) hP hD hS [0, 1] rfl rfl hl.1 (ci := 6) rfl rfl rfl (rest := [.int l1]) rfl rfl (Nat.le_of_ble_eq_true rfl) dX6_shore_13) hP hD hS [0, 1] [] [0, 1] rfl rfl rfl (by decide) rfl (ws1 := (W_X6_shore E a_t a_now a_refused a_kept a_mind a_tape a_words a_wCell a_wFaces a_wTurns a_wSign a_wBy a_wFell a_telling a_holds a_sizes a_elements a_moved a_above a_out a_first c_t c_now)) rfl (fun H locs hP hD hS => ?_)
      refine lv_if_eq (tgt := 39) hx hb dX6_shore_16 (by decide) (fun hc16 => ?_) (fun hc16 => ?_)
      · have h := if_t h hc16
        exact w_X6_shore_b39 X a_t a_now a_refused a_kept a_mind a_tape a_words a_wCell a_wFaces a_wTurns a_wSign a_wBy a_wFell a_telling a_holds a_sizes a_elements a_moved a_above a_out a_first c_t c_now res (f_X6_shore_b4 c_t c_now n) ih l2 l1 _ _ _ h hP hD hS (lv_sub hl [0, 2] rfl)
      · have h := if_f h hc16
        refine lv_aload_n hx hb dX6_shore_19 rfl (lv_at hl 0 rfl) ?_
        refine lv_iload_n hx hb dX6_shore_20 rfl (lv_at hl 2 rfl) ?_
        obtain ⟨v2, hv2, h⟩ := bind_of h
        refine after_i X (run_V X (c_X6_hasPond l E a_t a_now a_refused a_kept a_mind a_tape a_words a_wCell a_wFaces a_wTurns a_wSign a_wBy a_wFell a_telling a_holds a_sizes a_elements a_moved a_above a_out a_first l2 c_t c_now H.size v2 hv2) (cwV 1 hts gX6_shore_X6_hasPond rfl rfl rfl hV_X6_hasPond ⟨(Nat.le_of_ble_eq_true rfl), (Nat.le_of_ble_eq_true rfl)⟩) hP hD hS [0, 1] rfl rfl hl.1 (ci := 6) rfl rfl rfl (rest := [.int l1]) rfl rfl (Nat.le_of_ble_eq_true rfl) dX6_shore_21) hP hD hS [0, 1] [] [0, 1] rfl rfl rfl (by decide) rfl (ws1 := (W_X6_shore E a_t a_now a_refused a_kept a_mind a_tape a_words a_wCell a_wFaces a_wTurns a_wSign a_wBy a_wFell a_telling a_holds a_sizes a_elements a_moved a_above a_out a_first c_t c_now)) rfl (fun H locs hP hD hS => ?_)
        refine lv_if_ne (tgt := 39) hx hb dX6_shore_24 (by decide) (fun hc24 => ?_) (fun hc24 => ?_)
        · have h := if_f h hc24
          exact w_X6_shore_b39 X a_t a_now a_refused a_kept a_mind a_tape a_words a_wCell a_wFaces a_wTurns a_wSign a_wBy a_wFell a_telling a_holds a_sizes a_elements a_moved a_above a_out a_first c_t c_now res (f_X6_shore_b4 c_t c_now n) ih l2 l1 _ _ _ h hP hD hS (lv_sub hl [0, 2] rfl)
        · have h := if_t h hc24
          refine lv_aload_n hx hb dX6_shore_27 rfl (lv_at hl 0 rfl) ?_
          refine lv_iload_n hx hb dX6_shore_28 rfl (lv_at hl 2 rfl) ?_
          obtain ⟨v3, hv3, h⟩ := bind_of h
          refine after_i X (run_V X (c_X6_isShore l E a_t a_now a_refused a_kept a_mind a_tape a_words a_wCell a_wFaces a_wTurns a_wSign a_wBy a_wFell a_telling a_holds a_sizes a_elements a_moved a_above a_out a_first l2 c_t c_now H.size v3 hv3) (cwV 1 hts gX6_shore_X6_isShore rfl rfl rfl hV_X6_isShore ⟨(Nat.le_of_ble_eq_true rfl), (Nat.le_of_ble_eq_true rfl)⟩) hP hD hS [0, 1] rfl rfl hl.1 (ci := 6) rfl rfl rfl (rest := [.int l1]) rfl rfl (Nat.le_of_ble_eq_true rfl) dX6_shore_29) hP hD hS [0, 1] [] [0, 1] rfl rfl rfl (by decide) rfl (ws1 := (W_X6_shore E a_t a_now a_refused a_kept a_mind a_tape a_words a_wCell a_wFaces a_wTurns a_wSign a_wBy a_wFell a_telling a_holds a_sizes a_elements a_moved a_above a_out a_first c_t c_now)) rfl (fun H locs hP hD hS => ?_)
          refine lv_if_eq (tgt := 39) hx hb dX6_shore_32 (by decide) (fun hc32 => ?_) (fun hc32 => ?_)
          · have h := if_t h hc32
            exact w_X6_shore_b39 X a_t a_now a_refused a_kept a_mind a_tape a_words a_wCell a_wFaces a_wTurns a_wSign a_wBy a_wFell a_telling a_holds a_sizes a_elements a_moved a_above a_out a_first c_t c_now res (f_X6_shore_b4 c_t c_now n) ih l2 l1 _ _ _ h hP hD hS (lv_sub hl [0, 2] rfl)
          · have h := if_f h hc32
            refine lv_iconst (v := (1 : Int32)) hx hb dX6_shore_35 (by decide) ?_
            refine lv_goto (tgt := 40) hx hb dX6_shore_36 (by decide) ?_
            exact w_X6_shore_b40 X a_t a_now a_refused a_kept a_mind a_tape a_words a_wCell a_wFaces a_wTurns a_wSign a_wBy a_wFell a_telling a_holds a_sizes a_elements a_moved a_above a_out a_first c_t c_now res (f_X6_shore_b4 c_t c_now n) ih l2 (1 : Int32) l1 _ _ _ h hP hD hS (lv_sub hl [0, 2] rfl)
set_option maxRecDepth 100000 in
set_option maxHeartbeats 4000000 in
theorem w_X6_shore (X : Ctx p m meth c cX6_shore 3 ((some .int)) s args wsX6_shore RX6 E A) (a_t : Nat) (a_now : Nat) (a_refused : Nat) (a_kept : Nat) (a_mind : Nat) (a_tape : Nat) (a_words : Nat) (a_wCell : Nat) (a_wFaces : Nat) (a_wTurns : Nat) (a_wSign : Nat) (a_wBy : Nat) (a_wFell : Nat) (a_telling : Nat) (a_holds : Nat) (a_sizes : Nat) (a_elements : Nat) (a_moved : Nat) (a_above : Nat) (a_out : Nat) (a_first : Nat) (c_t : Nat → Int32) (c_now : Nat → Int32) (res : Int32) (ls : Array Slot) (H : Heap) (locs : List Loc) (h : f_X6_shore c_t c_now = some res) (hP : va_P E.1 vwCl (W_X6_shore E a_t a_now a_refused a_kept a_mind a_tape a_words a_wCell a_wFaces a_wTurns a_wSign a_wBy a_wFell a_telling a_holds a_sizes a_elements a_moved a_above a_out a_first c_t c_now) H) (hD : va_D A (W_X6_shore E a_t a_now a_refused a_kept a_mind a_tape a_words a_wCell a_wFaces a_wTurns a_wSign a_wBy a_wFell a_telling a_holds a_sizes a_elements a_moved a_above a_out a_first c_t c_now)) (hS : va_S A s.heap H locs) (hl : lv_has ls 3 [(0, .ref a_t)]) : W p l e r_X6_shore s m args below meth c H locs 0 0 (MQ below (qI E A res (W_X6_shore E a_t a_now a_refused a_kept a_mind a_tape a_words a_wCell a_wFaces a_wTurns a_wSign a_wBy a_wFell a_telling a_holds a_sizes a_elements a_moved a_above a_out a_first c_t c_now)) args s 0 0 A) (F0 m 0 ls []) := by
  obtain ⟨hx, hb, hml, hr, hlk, hown, hts, hG, hA⟩ := id X
  have hK := hG.1
  have hN := hG.2.1
  unfold f_X6_shore at h
  refine lv_iconst (v := (0 : Int32)) hx hb dX6_shore_0 (by decide) ?_
  refine lv_istore_n (lv' := [(1, .int (0 : Int32)), (0, .ref a_t)]) hx hb dX6_shore_1 rfl hl (by decide) rfl (fun ls hl => ?_)
  refine lv_iconst (v := (0 : Int32)) hx hb dX6_shore_2 (by decide) ?_
  refine lv_istore_n (lv' := [(2, .int (0 : Int32)), (1, .int (0 : Int32)), (0, .ref a_t)]) hx hb dX6_shore_3 rfl hl (by decide) rfl (fun ls hl => ?_)
  exact w_X6_shore_b4 X a_t a_now a_refused a_kept a_mind a_tape a_words a_wCell a_wFaces a_wTurns a_wSign a_wBy a_wFell a_telling a_holds a_sizes a_elements a_moved a_above a_out a_first c_t c_now res FU (0 : Int32) (0 : Int32) _ _ _ h hP hD hS (lv_sub hl [2, 1, 0] rfl)
end
set_option maxRecDepth 100000 in
theorem c_X6_shore (l : Launch) (E : Env0) (a_t : Nat) (a_now : Nat) (a_refused : Nat) (a_kept : Nat) (a_mind : Nat) (a_tape : Nat) (a_words : Nat) (a_wCell : Nat) (a_wFaces : Nat) (a_wTurns : Nat) (a_wSign : Nat) (a_wBy : Nat) (a_wFell : Nat) (a_telling : Nat) (a_holds : Nat) (a_sizes : Nat) (a_elements : Nat) (a_moved : Nat) (a_above : Nat) (a_out : Nat) (a_first : Nat) (c_t : Nat → Int32) (c_now : Nat → Int32) (sz : Nat) (res : Int32) (h : f_X6_shore c_t c_now = some res) : Met l yX6_shore wsX6_shore r_X6_shore (cPre E [.ref a_t] (W_X6_shore E a_t a_now a_refused a_kept a_mind a_tape a_words a_wCell a_wFaces a_wTurns a_wSign a_wBy a_wFell a_telling a_holds a_sizes a_elements a_moved a_above a_out a_first c_t c_now) sz) (qI E (va_A (W_X6_shore E a_t a_now a_refused a_kept a_mind a_tape a_words a_wCell a_wFaces a_wTurns a_wSign a_wBy a_wFell a_telling a_holds a_sizes a_elements a_moved a_above a_out a_first c_t c_now) sz) res (W_X6_shore E a_t a_now a_refused a_kept a_mind a_tape a_words a_wCell a_wFaces a_wTurns a_wSign a_wBy a_wFell a_telling a_holds a_sizes a_elements a_moved a_above a_out a_first c_t c_now)) 0 0 (va_A (W_X6_shore E a_t a_now a_refused a_kept a_mind a_tape a_words a_wCell a_wFaces a_wTurns a_wSign a_wBy a_wFell a_telling a_holds a_sizes a_elements a_moved a_above a_out a_first c_t c_now) sz) :=
  met_of (Qc := fun A => qI E A res (W_X6_shore E a_t a_now a_refused a_kept a_mind a_tape a_words a_wCell a_wFaces a_wTurns a_wSign a_wBy a_wFell a_telling a_holds a_sizes a_elements a_moved a_above a_out a_first c_t c_now)) (by decide) rfl (Nat.le_of_ble_eq_true rfl) (fun p e s m args below meth c X hP hD hS ls hl => w_X6_shore X a_t a_now a_refused a_kept a_mind a_tape a_words a_wCell a_wFaces a_wTurns a_wSign a_wBy a_wFell a_telling a_holds a_sizes a_elements a_moved a_above a_out a_first c_t c_now res ls _ _ h hP hD hS hl)
-- ===== X6_weigh
abbrev W_X6_weigh (E : Env0) (a_t : Nat) (a_now : Nat) (a_refused : Nat) (a_kept : Nat) (a_mind : Nat) (a_tape : Nat) (a_words : Nat) (a_wCell : Nat) (a_wFaces : Nat) (a_wTurns : Nat) (a_wSign : Nat) (a_wBy : Nat) (a_wFell : Nat) (a_telling : Nat) (a_holds : Nat) (a_sizes : Nat) (a_elements : Nat) (a_moved : Nat) (a_above : Nat) (a_out : Nat) (a_first : Nat) (c_t : Nat → Int32) (c_now : Nat → Int32) : va_W := [(a_t, .inr (6, [.ref a_refused, .ref a_now, .ref a_kept, .ref a_mind, .int (c_t 4), .ref a_tape, .int (c_t 6), .int (c_t 7), .int (c_t 8), .int (c_t 9), .ref a_words, .ref a_wCell, .ref a_wFaces, .ref a_wTurns, .ref a_wSign, .ref a_wBy, .ref a_wFell, .int (c_t 17), .ref a_telling, .ref a_holds, .ref a_sizes, .ref a_elements, .ref a_moved, .ref a_above, .ref a_out, .ref a_first])), (a_now, .inl (eI E, 97, .inl c_now))]
abbrev r_X6_weigh : Room := { frames := 1, cells := 0, slots := 0, locals := 21 }
theorem hd_X6_weigh : yX6_weigh.cls ≠ "java/lang/invoke/MethodHandle" ∧ yX6_weigh.cls ≠ "java/lang/invoke/VarHandle" ∧ (parseMethodDescriptor yX6_weigh.desc).map (fun d => d.parameters.length) = some 1 := by decide +kernel
theorem hV_X6_weigh : yX6_weigh.cls = RX6 ∧ yX6_weigh.cls ≠ "java/lang/invoke/MethodHandle" ∧ yX6_weigh.cls ≠ "java/lang/invoke/VarHandle" ∧ (parseMethodDescriptor yX6_weigh.desc).map (fun d => d.parameters.length) = some 1 := ⟨rfl, hd_X6_weigh⟩
section
variable {p : Program} {l : Launch} {e : Env} {s : State} {m : MethodId} {args : Array Value} {below : List Frame} {meth : Method} {c : Code} {E : Env0} {A : Nat → Prop}
set_option maxRecDepth 100000 in
set_option maxHeartbeats 4000000 in
theorem w_X6_weigh_b31 (X : Ctx p m meth c cX6_weigh 4 ((some .int)) s args wsX6_weigh RX6 E A) (a_t : Nat) (a_now : Nat) (a_refused : Nat) (a_kept : Nat) (a_mind : Nat) (a_tape : Nat) (a_words : Nat) (a_wCell : Nat) (a_wFaces : Nat) (a_wTurns : Nat) (a_wSign : Nat) (a_wBy : Nat) (a_wFell : Nat) (a_telling : Nat) (a_holds : Nat) (a_sizes : Nat) (a_elements : Nat) (a_moved : Nat) (a_above : Nat) (a_out : Nat) (a_first : Nat) (c_t : Nat → Int32) (c_now : Nat → Int32) (res : Int32) (k4 : Int32 → Int32 → Int32 → Option (Int32)) (hk4 : ∀ (l1 : Int32) (l2 : Int32) (l3 : Int32) (ls : Array Slot) (H : Heap) (locs : List Loc), k4 l1 l2 l3 = some res → va_P E.1 vwCl (W_X6_weigh E a_t a_now a_refused a_kept a_mind a_tape a_words a_wCell a_wFaces a_wTurns a_wSign a_wBy a_wFell a_telling a_holds a_sizes a_elements a_moved a_above a_out a_first c_t c_now) H → va_D A (W_X6_weigh E a_t a_now a_refused a_kept a_mind a_tape a_words a_wCell a_wFaces a_wTurns a_wSign a_wBy a_wFell a_telling a_holds a_sizes a_elements a_moved a_above a_out a_first c_t c_now) → va_S A s.heap H locs → lv_has ls 4 [(0, .ref a_t), (1, .int l1), (2, .int l2), (3, .int l3)] → W p l e r_X6_weigh s m args below meth c H locs 0 0 (MQ below (qI E A res (W_X6_weigh E a_t a_now a_refused a_kept a_mind a_tape a_words a_wCell a_wFaces a_wTurns a_wSign a_wBy a_wFell a_telling a_holds a_sizes a_elements a_moved a_above a_out a_first c_t c_now)) args s 0 0 A) (F0 m 4 ls [])) (l1 : Int32) (l3 : Int32) (s0 : Int32) (s1 : Int32) (ls : Array Slot) (H : Heap) (locs : List Loc) (h : f_X6_weigh_b31 c_t c_now k4 l1 l3 s0 s1 = some res) (hP : va_P E.1 vwCl (W_X6_weigh E a_t a_now a_refused a_kept a_mind a_tape a_words a_wCell a_wFaces a_wTurns a_wSign a_wBy a_wFell a_telling a_holds a_sizes a_elements a_moved a_above a_out a_first c_t c_now) H) (hD : va_D A (W_X6_weigh E a_t a_now a_refused a_kept a_mind a_tape a_words a_wCell a_wFaces a_wTurns a_wSign a_wBy a_wFell a_telling a_holds a_sizes a_elements a_moved a_above a_out a_first c_t c_now)) (hS : va_S A s.heap H locs) (hl : lv_has ls 4 [(0, .ref a_t), (1, .int l1), (3, .int l3)]) : W p l e r_X6_weigh s m args below meth c H locs 0 0 (MQ below (qI E A res (W_X6_weigh E a_t a_now a_refused a_kept a_mind a_tape a_words a_wCell a_wFaces a_wTurns a_wSign a_wBy a_wFell a_telling a_holds a_sizes a_elements a_moved a_above a_out a_first c_t c_now)) args s 0 0 A) (F0 m 31 ls [.int s0, .int s1]) := by
  obtain ⟨hx, hb, hml, hr, hlk, hown, hts, hG, hA⟩ := id X
  have hK := hG.1
  have hN := hG.2.1
  unfold f_X6_weigh_b31 at h
  refine lv_iadd hx hb dX6_weigh_31 ?_
  refine lv_istore_n (lv' := [(2, .int (s1 + s0)), (0, .ref a_t), (1, .int l1), (3, .int l3)]) hx hb dX6_weigh_32 rfl hl (by decide) rfl (fun ls hl => ?_)
  refine lv_iinc (v := (l3 + (1 : Int32))) (lv' := [(3, .int (l3 + (1 : Int32))), (2, .int (s1 + s0)), (0, .ref a_t), (1, .int l1)]) hx hb dX6_weigh_33 hl (k := 3) rfl rfl (by decide) rfl (fun ls hl => ?_)
  refine lv_goto (tgt := 4) hx hb dX6_weigh_36 (by decide) ?_
  exact hk4 l1 (s1 + s0) (l3 + (1 : Int32)) _ _ _ h hP hD hS (lv_sub hl [2, 3, 1, 0] rfl)
set_option maxRecDepth 100000 in
set_option maxHeartbeats 4000000 in
theorem w_X6_weigh_b4 (X : Ctx p m meth c cX6_weigh 4 ((some .int)) s args wsX6_weigh RX6 E A) (a_t : Nat) (a_now : Nat) (a_refused : Nat) (a_kept : Nat) (a_mind : Nat) (a_tape : Nat) (a_words : Nat) (a_wCell : Nat) (a_wFaces : Nat) (a_wTurns : Nat) (a_wSign : Nat) (a_wBy : Nat) (a_wFell : Nat) (a_telling : Nat) (a_holds : Nat) (a_sizes : Nat) (a_elements : Nat) (a_moved : Nat) (a_above : Nat) (a_out : Nat) (a_first : Nat) (c_t : Nat → Int32) (c_now : Nat → Int32) (res : Int32) : ∀ (n : Nat) (l1 : Int32) (l2 : Int32) (l3 : Int32) (ls : Array Slot) (H : Heap) (locs : List Loc), f_X6_weigh_b4 c_t c_now n l1 l2 l3 = some res → va_P E.1 vwCl (W_X6_weigh E a_t a_now a_refused a_kept a_mind a_tape a_words a_wCell a_wFaces a_wTurns a_wSign a_wBy a_wFell a_telling a_holds a_sizes a_elements a_moved a_above a_out a_first c_t c_now) H → va_D A (W_X6_weigh E a_t a_now a_refused a_kept a_mind a_tape a_words a_wCell a_wFaces a_wTurns a_wSign a_wBy a_wFell a_telling a_holds a_sizes a_elements a_moved a_above a_out a_first c_t c_now) → va_S A s.heap H locs → lv_has ls 4 [(0, .ref a_t), (1, .int l1), (2, .int l2), (3, .int l3)] → W p l e r_X6_weigh s m args below meth c H locs 0 0 (MQ below (qI E A res (W_X6_weigh E a_t a_now a_refused a_kept a_mind a_tape a_words a_wCell a_wFaces a_wTurns a_wSign a_wBy a_wFell a_telling a_holds a_sizes a_elements a_moved a_above a_out a_first c_t c_now)) args s 0 0 A) (F0 m 4 ls []) := by
  obtain ⟨hx, hb, hml, hr, hlk, hown, hts, hG, hA⟩ := id X
  have hK := hG.1
  have hN := hG.2.1
  intro n
  induction n with
  | zero =>
    intro l1 l2 l3 ls H locs h
    exact absurd (show (none : Option (Int32)) = some res from h) (by intro q; cases q)
  | succ n ih =>
    intro l1 l2 l3 ls H locs h hP hD hS hl
    rw [f_X6_weigh_b4] at h
    refine lv_iload_n hx hb dX6_weigh_4 rfl (lv_at hl 3 rfl) ?_
    refine lv_aload_n hx hb dX6_weigh_5 rfl (lv_at hl 0 rfl) ?_
    obtain ⟨v1, hv1, h⟩ := bind_of h
    refine after_i X (run_V X (c_X6_many l E a_t a_now a_refused a_kept a_mind a_tape a_words a_wCell a_wFaces a_wTurns a_wSign a_wBy a_wFell a_telling a_holds a_sizes a_elements a_moved a_above a_out a_first c_t c_now H.size v1 hv1) (cwV 0 hts gX6_weigh_X6_many rfl rfl rfl hV_X6_many ⟨(Nat.le_of_ble_eq_true rfl), (Nat.le_of_ble_eq_true rfl)⟩) hP hD hS [0, 1] rfl rfl hl.1 (ci := 6) rfl rfl rfl (rest := [.int l3]) rfl rfl (Nat.le_of_ble_eq_true rfl) dX6_weigh_6) hP hD hS [0, 1] [] [0, 1] rfl rfl rfl (by decide) rfl (ws1 := (W_X6_weigh E a_t a_now a_refused a_kept a_mind a_tape a_words a_wCell a_wFaces a_wTurns a_wSign a_wBy a_wFell a_telling a_holds a_sizes a_elements a_moved a_above a_out a_first c_t c_now)) rfl (fun H locs hP hD hS => ?_)
    refine lv_icmp_ge (tgt := 39) hx hb dX6_weigh_9 (by decide) (fun hc9 => ?_) (fun hc9 => ?_)
    · have h := if_t h hc9
      refine lv_iload_n hx hb dX6_weigh_39 rfl (lv_at hl 2 rfl) ?_
      obtain rfl := Option.some.inj h
      exact ret_i X dX6_weigh_40 hP hD hS rfl
    · have h := if_f h hc9
      refine lv_iload_n hx hb dX6_weigh_12 rfl (lv_at hl 2 rfl) ?_
      refine lv_aload_n hx hb dX6_weigh_13 rfl (lv_at hl 0 rfl) ?_
      refine lv_iload_n hx hb dX6_weigh_14 rfl (lv_at hl 3 rfl) ?_
      obtain ⟨v2, hv2, h⟩ := bind_of h
      refine after_i X (run_V X (c_X6_isFor l E a_t a_now a_refused a_kept a_mind a_tape a_words a_wCell a_wFaces a_wTurns a_wSign a_wBy a_wFell a_telling a_holds a_sizes a_elements a_moved a_above a_out a_first l3 c_t c_now H.size v2 hv2) (cwV 1 hts gX6_weigh_X6_isFor rfl rfl rfl hV_X6_isFor ⟨(Nat.le_of_ble_eq_true rfl), (Nat.le_of_ble_eq_true rfl)⟩) hP hD hS [0, 1] rfl rfl hl.1 (ci := 6) rfl rfl rfl (rest := [.int l2]) rfl rfl (Nat.le_of_ble_eq_true rfl) dX6_weigh_15) hP hD hS [0, 1] [] [0, 1] rfl rfl rfl (by decide) rfl (ws1 := (W_X6_weigh E a_t a_now a_refused a_kept a_mind a_tape a_words a_wCell a_wFaces a_wTurns a_wSign a_wBy a_wFell a_telling a_holds a_sizes a_elements a_moved a_above a_out a_first c_t c_now)) rfl (fun H locs hP hD hS => ?_)
      refine lv_iload_n hx hb dX6_weigh_18 rfl (lv_at hl 1 rfl) ?_
      refine lv_icmp_ne (tgt := 30) hx hb dX6_weigh_19 (by decide) (fun hc19 => ?_) (fun hc19 => ?_)
      · have h := if_f h hc19
        refine lv_iconst (v := (0 : Int32)) hx hb dX6_weigh_30 (by decide) ?_
        exact w_X6_weigh_b31 X a_t a_now a_refused a_kept a_mind a_tape a_words a_wCell a_wFaces a_wTurns a_wSign a_wBy a_wFell a_telling a_holds a_sizes a_elements a_moved a_above a_out a_first c_t c_now res (f_X6_weigh_b4 c_t c_now n) ih l1 l3 (0 : Int32) l2 _ _ _ h hP hD hS (lv_sub hl [0, 1, 3] rfl)
      · have h := if_t h hc19
        refine lv_aload_n hx hb dX6_weigh_22 rfl (lv_at hl 0 rfl) ?_
        refine lv_iload_n hx hb dX6_weigh_23 rfl (lv_at hl 3 rfl) ?_
        obtain ⟨v3, hv3, h⟩ := bind_of h
        refine after_i X (run_V X (c_X6_a l E a_t a_now a_refused a_kept a_mind a_tape a_words a_wCell a_wFaces a_wTurns a_wSign a_wBy a_wFell a_telling a_holds a_sizes a_elements a_moved a_above a_out a_first l3 c_t c_now H.size v3 hv3) (cwV 1 hts gX6_weigh_X6_a rfl rfl rfl hV_X6_a ⟨(Nat.le_of_ble_eq_true rfl), (Nat.le_of_ble_eq_true rfl)⟩) hP hD hS [0, 1] rfl rfl hl.1 (ci := 6) rfl rfl rfl (rest := [.int l2]) rfl rfl (Nat.le_of_ble_eq_true rfl) dX6_weigh_24) hP hD hS [0, 1] [] [0, 1] rfl rfl rfl (by decide) rfl (ws1 := (W_X6_weigh E a_t a_now a_refused a_kept a_mind a_tape a_words a_wCell a_wFaces a_wTurns a_wSign a_wBy a_wFell a_telling a_holds a_sizes a_elements a_moved a_above a_out a_first c_t c_now)) rfl (fun H locs hP hD hS => ?_)
        refine lv_goto (tgt := 31) hx hb dX6_weigh_27 (by decide) ?_
        exact w_X6_weigh_b31 X a_t a_now a_refused a_kept a_mind a_tape a_words a_wCell a_wFaces a_wTurns a_wSign a_wBy a_wFell a_telling a_holds a_sizes a_elements a_moved a_above a_out a_first c_t c_now res (f_X6_weigh_b4 c_t c_now n) ih l1 l3 v3 l2 _ _ _ h hP hD hS (lv_sub hl [0, 1, 3] rfl)
set_option maxRecDepth 100000 in
set_option maxHeartbeats 4000000 in
theorem w_X6_weigh (X : Ctx p m meth c cX6_weigh 4 ((some .int)) s args wsX6_weigh RX6 E A) (a_t : Nat) (a_now : Nat) (a_refused : Nat) (a_kept : Nat) (a_mind : Nat) (a_tape : Nat) (a_words : Nat) (a_wCell : Nat) (a_wFaces : Nat) (a_wTurns : Nat) (a_wSign : Nat) (a_wBy : Nat) (a_wFell : Nat) (a_telling : Nat) (a_holds : Nat) (a_sizes : Nat) (a_elements : Nat) (a_moved : Nat) (a_above : Nat) (a_out : Nat) (a_first : Nat) (c_t : Nat → Int32) (c_now : Nat → Int32) (res : Int32) (l1 : Int32) (ls : Array Slot) (H : Heap) (locs : List Loc) (h : f_X6_weigh l1 c_t c_now = some res) (hP : va_P E.1 vwCl (W_X6_weigh E a_t a_now a_refused a_kept a_mind a_tape a_words a_wCell a_wFaces a_wTurns a_wSign a_wBy a_wFell a_telling a_holds a_sizes a_elements a_moved a_above a_out a_first c_t c_now) H) (hD : va_D A (W_X6_weigh E a_t a_now a_refused a_kept a_mind a_tape a_words a_wCell a_wFaces a_wTurns a_wSign a_wBy a_wFell a_telling a_holds a_sizes a_elements a_moved a_above a_out a_first c_t c_now)) (hS : va_S A s.heap H locs) (hl : lv_has ls 4 [(0, .ref a_t), (1, .int l1)]) : W p l e r_X6_weigh s m args below meth c H locs 0 0 (MQ below (qI E A res (W_X6_weigh E a_t a_now a_refused a_kept a_mind a_tape a_words a_wCell a_wFaces a_wTurns a_wSign a_wBy a_wFell a_telling a_holds a_sizes a_elements a_moved a_above a_out a_first c_t c_now)) args s 0 0 A) (F0 m 0 ls []) := by
  obtain ⟨hx, hb, hml, hr, hlk, hown, hts, hG, hA⟩ := id X
  have hK := hG.1
  have hN := hG.2.1
  unfold f_X6_weigh at h
  refine lv_iconst (v := (0 : Int32)) hx hb dX6_weigh_0 (by decide) ?_
  refine lv_istore_n (lv' := [(2, .int (0 : Int32)), (0, .ref a_t), (1, .int l1)]) hx hb dX6_weigh_1 rfl hl (by decide) rfl (fun ls hl => ?_)
  refine lv_iconst (v := (0 : Int32)) hx hb dX6_weigh_2 (by decide) ?_
  refine lv_istore_n (lv' := [(3, .int (0 : Int32)), (2, .int (0 : Int32)), (0, .ref a_t), (1, .int l1)]) hx hb dX6_weigh_3 rfl hl (by decide) rfl (fun ls hl => ?_)
  exact w_X6_weigh_b4 X a_t a_now a_refused a_kept a_mind a_tape a_words a_wCell a_wFaces a_wTurns a_wSign a_wBy a_wFell a_telling a_holds a_sizes a_elements a_moved a_above a_out a_first c_t c_now res FU l1 (0 : Int32) (0 : Int32) _ _ _ h hP hD hS (lv_sub hl [2, 3, 1, 0] rfl)
end
set_option maxRecDepth 100000 in
theorem c_X6_weigh (l : Launch) (E : Env0) (a_t : Nat) (a_now : Nat) (a_refused : Nat) (a_kept : Nat) (a_mind : Nat) (a_tape : Nat) (a_words : Nat) (a_wCell : Nat) (a_wFaces : Nat) (a_wTurns : Nat) (a_wSign : Nat) (a_wBy : Nat) (a_wFell : Nat) (a_telling : Nat) (a_holds : Nat) (a_sizes : Nat) (a_elements : Nat) (a_moved : Nat) (a_above : Nat) (a_out : Nat) (a_first : Nat) (l1 : Int32) (c_t : Nat → Int32) (c_now : Nat → Int32) (sz : Nat) (res : Int32) (h : f_X6_weigh l1 c_t c_now = some res) : Met l yX6_weigh wsX6_weigh r_X6_weigh (cPre E [.ref a_t, .int l1] (W_X6_weigh E a_t a_now a_refused a_kept a_mind a_tape a_words a_wCell a_wFaces a_wTurns a_wSign a_wBy a_wFell a_telling a_holds a_sizes a_elements a_moved a_above a_out a_first c_t c_now) sz) (qI E (va_A (W_X6_weigh E a_t a_now a_refused a_kept a_mind a_tape a_words a_wCell a_wFaces a_wTurns a_wSign a_wBy a_wFell a_telling a_holds a_sizes a_elements a_moved a_above a_out a_first c_t c_now) sz) res (W_X6_weigh E a_t a_now a_refused a_kept a_mind a_tape a_words a_wCell a_wFaces a_wTurns a_wSign a_wBy a_wFell a_telling a_holds a_sizes a_elements a_moved a_above a_out a_first c_t c_now)) 0 0 (va_A (W_X6_weigh E a_t a_now a_refused a_kept a_mind a_tape a_words a_wCell a_wFaces a_wTurns a_wSign a_wBy a_wFell a_telling a_holds a_sizes a_elements a_moved a_above a_out a_first c_t c_now) sz) :=
  met_of (Qc := fun A => qI E A res (W_X6_weigh E a_t a_now a_refused a_kept a_mind a_tape a_words a_wCell a_wFaces a_wTurns a_wSign a_wBy a_wFell a_telling a_holds a_sizes a_elements a_moved a_above a_out a_first c_t c_now)) (by decide) rfl (Nat.le_of_ble_eq_true rfl) (fun p e s m args below meth c X hP hD hS ls hl => w_X6_weigh X a_t a_now a_refused a_kept a_mind a_tape a_words a_wCell a_wFaces a_wTurns a_wSign a_wBy a_wFell a_telling a_holds a_sizes a_elements a_moved a_above a_out a_first c_t c_now res l1 ls _ _ h hP hD hS hl)
-- ===== X6_bloc
abbrev W_X6_bloc (E : Env0) (a_t : Nat) (a_now : Nat) (a_refused : Nat) (a_kept : Nat) (a_mind : Nat) (a_tape : Nat) (a_words : Nat) (a_wCell : Nat) (a_wFaces : Nat) (a_wTurns : Nat) (a_wSign : Nat) (a_wBy : Nat) (a_wFell : Nat) (a_telling : Nat) (a_holds : Nat) (a_sizes : Nat) (a_elements : Nat) (a_moved : Nat) (a_above : Nat) (a_out : Nat) (a_first : Nat) (c_t : Nat → Int32) (c_now : Nat → Int32) (c_refused : Nat → Int32) : va_W := [(a_t, .inr (6, [.ref a_refused, .ref a_now, .ref a_kept, .ref a_mind, .int (c_t 4), .ref a_tape, .int (c_t 6), .int (c_t 7), .int (c_t 8), .int (c_t 9), .ref a_words, .ref a_wCell, .ref a_wFaces, .ref a_wTurns, .ref a_wSign, .ref a_wBy, .ref a_wFell, .int (c_t 17), .ref a_telling, .ref a_holds, .ref a_sizes, .ref a_elements, .ref a_moved, .ref a_above, .ref a_out, .ref a_first])), (a_now, .inl (eI E, 97, .inl c_now)), (a_refused, .inl (eI E, 7, .inl c_refused))]
abbrev r_X6_bloc : Room := { frames := 2, cells := 0, slots := 0, locals := 44 }
theorem hd_X6_bloc : yX6_bloc.cls ≠ "java/lang/invoke/MethodHandle" ∧ yX6_bloc.cls ≠ "java/lang/invoke/VarHandle" ∧ (parseMethodDescriptor yX6_bloc.desc).map (fun d => d.parameters.length) = some 1 := by decide +kernel
theorem hV_X6_bloc : yX6_bloc.cls = RX6 ∧ yX6_bloc.cls ≠ "java/lang/invoke/MethodHandle" ∧ yX6_bloc.cls ≠ "java/lang/invoke/VarHandle" ∧ (parseMethodDescriptor yX6_bloc.desc).map (fun d => d.parameters.length) = some 1 := ⟨rfl, hd_X6_bloc⟩
section
variable {p : Program} {l : Launch} {e : Env} {s : State} {m : MethodId} {args : Array Value} {below : List Frame} {meth : Method} {c : Code} {E : Env0} {A : Nat → Prop}
set_option maxRecDepth 100000 in
set_option maxHeartbeats 4000000 in
theorem w_X6_bloc (X : Ctx p m meth c cX6_bloc 2 ((some .int)) s args wsX6_bloc RX6 E A) (a_t : Nat) (a_now : Nat) (a_refused : Nat) (a_kept : Nat) (a_mind : Nat) (a_tape : Nat) (a_words : Nat) (a_wCell : Nat) (a_wFaces : Nat) (a_wTurns : Nat) (a_wSign : Nat) (a_wBy : Nat) (a_wFell : Nat) (a_telling : Nat) (a_holds : Nat) (a_sizes : Nat) (a_elements : Nat) (a_moved : Nat) (a_above : Nat) (a_out : Nat) (a_first : Nat) (c_t : Nat → Int32) (c_now : Nat → Int32) (res : Int32 × (Nat → Int32)) (c_refused : Nat → Int32) (l1 : Int32) (ls : Array Slot) (H : Heap) (locs : List Loc) (h : f_X6_bloc l1 c_t c_now c_refused = some res) (hP : va_P E.1 vwCl (W_X6_bloc E a_t a_now a_refused a_kept a_mind a_tape a_words a_wCell a_wFaces a_wTurns a_wSign a_wBy a_wFell a_telling a_holds a_sizes a_elements a_moved a_above a_out a_first c_t c_now c_refused) H) (hD : va_D A (W_X6_bloc E a_t a_now a_refused a_kept a_mind a_tape a_words a_wCell a_wFaces a_wTurns a_wSign a_wBy a_wFell a_telling a_holds a_sizes a_elements a_moved a_above a_out a_first c_t c_now c_refused)) (hS : va_S A s.heap H locs) (hl : lv_has ls 2 [(0, .ref a_t), (1, .int l1)]) : W p l e r_X6_bloc s m args below meth c H locs 0 0 (MQ below (qI E A (res.1) (W_X6_bloc E a_t a_now a_refused a_kept a_mind a_tape a_words a_wCell a_wFaces a_wTurns a_wSign a_wBy a_wFell a_telling a_holds a_sizes a_elements a_moved a_above a_out a_first c_t c_now (res.2))) args s 0 0 A) (F0 m 0 ls []) := by
  obtain ⟨hx, hb, hml, hr, hlk, hown, hts, hG, hA⟩ := id X
  have hK := hG.1
  have hN := hG.2.1
  unfold f_X6_bloc at h
  refine lv_iload_n hx hb dX6_bloc_0 rfl (lv_at hl 1 rfl) ?_
  refine lv_i2l (v := (l1.toInt64)) hx hb dX6_bloc_1 rfl ?_
  refine lv_lconst (v := (0 : Int64)) hx hb dX6_bloc_2 (by decide) ?_
  refine lv_lconst (v := (1 : Int64)) hx hb dX6_bloc_3 (by decide) ?_
  obtain ⟨v1, hv1, h⟩ := bind_of h
  refine after_i X (run_S X (c_X6_isIn l E (l1.toInt64) (0 : Int64) (1 : Int64) H.size v1 hv1) (va_cwS 3 hts gX6_bloc_X6_isIn rfl rfl rfl hd_X6_isIn ⟨(Nat.le_of_ble_eq_true rfl), (Nat.le_of_ble_eq_true rfl)⟩) hP hD hS [] rfl rfl hl.1 (rest := []) rfl rfl (Nat.le_of_ble_eq_true rfl) dX6_bloc_4) hP hD hS [] [0, 1, 2] [0, 1, 2] rfl rfl rfl (by decide) rfl (ws1 := (W_X6_bloc E a_t a_now a_refused a_kept a_mind a_tape a_words a_wCell a_wFaces a_wTurns a_wSign a_wBy a_wFell a_telling a_holds a_sizes a_elements a_moved a_above a_out a_first c_t c_now c_refused)) rfl (fun H locs hP hD hS => ?_)
  refine lv_if_eq (tgt := 18) hx hb dX6_bloc_7 (by decide) (fun hc7 => ?_) (fun hc7 => ?_)
  · have h := if_t h hc7
    refine lv_aload_n hx hb dX6_bloc_18 rfl (lv_at hl 0 rfl) ?_
    refine lv_bipush (v := (-2 : Int32)) hx hb dX6_bloc_19 (by decide) ?_
    obtain ⟨v2, hv2, h⟩ := bind_of h
    refine after_i X (run_V X (c_X6_refuse l E a_t a_refused a_now a_kept a_mind a_tape a_words a_wCell a_wFaces a_wTurns a_wSign a_wBy a_wFell a_telling a_holds a_sizes a_elements a_moved a_above a_out a_first (-2 : Int32) c_t c_refused H.size v2 hv2) (cwV 1 hts gX6_bloc_X6_refuse rfl rfl rfl hV_X6_refuse ⟨(Nat.le_of_ble_eq_true rfl), (Nat.le_of_ble_eq_true rfl)⟩) hP hD hS [0, 2] rfl rfl hl.1 (ci := 6) rfl rfl rfl (rest := []) rfl rfl (Nat.le_of_ble_eq_true rfl) dX6_bloc_21) hP hD hS [0, 2] [1] [1, 0, 2] rfl rfl rfl (by decide) rfl (ws1 := (W_X6_bloc E a_t a_now a_refused a_kept a_mind a_tape a_words a_wCell a_wFaces a_wTurns a_wSign a_wBy a_wFell a_telling a_holds a_sizes a_elements a_moved a_above a_out a_first c_t c_now (v2.2))) rfl (fun H locs hP hD hS => ?_)
    obtain rfl := Option.some.inj h
    exact ret_i X dX6_bloc_24 hP hD hS rfl
  · have h := if_f h hc7
    refine lv_aload_n hx hb dX6_bloc_10 rfl (lv_at hl 0 rfl) ?_
    refine lv_iload_n hx hb dX6_bloc_11 rfl (lv_at hl 1 rfl) ?_
    obtain ⟨v3, hv3, h⟩ := bind_of h
    refine after_i X (run_V X (c_X6_weigh l E a_t a_now a_refused a_kept a_mind a_tape a_words a_wCell a_wFaces a_wTurns a_wSign a_wBy a_wFell a_telling a_holds a_sizes a_elements a_moved a_above a_out a_first l1 c_t c_now H.size v3 hv3) (cwV 1 hts gX6_bloc_X6_weigh rfl rfl rfl hV_X6_weigh ⟨(Nat.le_of_ble_eq_true rfl), (Nat.le_of_ble_eq_true rfl)⟩) hP hD hS [0, 1] rfl rfl hl.1 (ci := 6) rfl rfl rfl (rest := []) rfl rfl (Nat.le_of_ble_eq_true rfl) dX6_bloc_12) hP hD hS [0, 1] [2] [1, 2, 0] rfl rfl rfl (by decide) rfl (ws1 := (W_X6_bloc E a_t a_now a_refused a_kept a_mind a_tape a_words a_wCell a_wFaces a_wTurns a_wSign a_wBy a_wFell a_telling a_holds a_sizes a_elements a_moved a_above a_out a_first c_t c_now c_refused)) rfl (fun H locs hP hD hS => ?_)
    refine lv_goto (tgt := 24) hx hb dX6_bloc_15 (by decide) ?_
    obtain rfl := Option.some.inj h
    exact ret_i X dX6_bloc_24 hP hD hS rfl
end
set_option maxRecDepth 100000 in
theorem c_X6_bloc (l : Launch) (E : Env0) (a_t : Nat) (a_now : Nat) (a_refused : Nat) (a_kept : Nat) (a_mind : Nat) (a_tape : Nat) (a_words : Nat) (a_wCell : Nat) (a_wFaces : Nat) (a_wTurns : Nat) (a_wSign : Nat) (a_wBy : Nat) (a_wFell : Nat) (a_telling : Nat) (a_holds : Nat) (a_sizes : Nat) (a_elements : Nat) (a_moved : Nat) (a_above : Nat) (a_out : Nat) (a_first : Nat) (l1 : Int32) (c_t : Nat → Int32) (c_now : Nat → Int32) (c_refused : Nat → Int32) (sz : Nat) (res : Int32 × (Nat → Int32)) (h : f_X6_bloc l1 c_t c_now c_refused = some res) : Met l yX6_bloc wsX6_bloc r_X6_bloc (cPre E [.ref a_t, .int l1] (W_X6_bloc E a_t a_now a_refused a_kept a_mind a_tape a_words a_wCell a_wFaces a_wTurns a_wSign a_wBy a_wFell a_telling a_holds a_sizes a_elements a_moved a_above a_out a_first c_t c_now c_refused) sz) (qI E (va_A (W_X6_bloc E a_t a_now a_refused a_kept a_mind a_tape a_words a_wCell a_wFaces a_wTurns a_wSign a_wBy a_wFell a_telling a_holds a_sizes a_elements a_moved a_above a_out a_first c_t c_now c_refused) sz) (res.1) (W_X6_bloc E a_t a_now a_refused a_kept a_mind a_tape a_words a_wCell a_wFaces a_wTurns a_wSign a_wBy a_wFell a_telling a_holds a_sizes a_elements a_moved a_above a_out a_first c_t c_now (res.2))) 0 0 (va_A (W_X6_bloc E a_t a_now a_refused a_kept a_mind a_tape a_words a_wCell a_wFaces a_wTurns a_wSign a_wBy a_wFell a_telling a_holds a_sizes a_elements a_moved a_above a_out a_first c_t c_now c_refused) sz) :=
  met_of (Qc := fun A => qI E A (res.1) (W_X6_bloc E a_t a_now a_refused a_kept a_mind a_tape a_words a_wCell a_wFaces a_wTurns a_wSign a_wBy a_wFell a_telling a_holds a_sizes a_elements a_moved a_above a_out a_first c_t c_now (res.2))) (by decide) rfl (Nat.le_of_ble_eq_true rfl) (fun p e s m args below meth c X hP hD hS ls hl => w_X6_bloc X a_t a_now a_refused a_kept a_mind a_tape a_words a_wCell a_wFaces a_wTurns a_wSign a_wBy a_wFell a_telling a_holds a_sizes a_elements a_moved a_above a_out a_first c_t c_now res c_refused l1 ls _ _ h hP hD hS hl)
-- ===== X6_carries
abbrev W_X6_carries (E : Env0) (a_t : Nat) (a_now : Nat) (a_refused : Nat) (a_kept : Nat) (a_mind : Nat) (a_tape : Nat) (a_words : Nat) (a_wCell : Nat) (a_wFaces : Nat) (a_wTurns : Nat) (a_wSign : Nat) (a_wBy : Nat) (a_wFell : Nat) (a_telling : Nat) (a_holds : Nat) (a_sizes : Nat) (a_elements : Nat) (a_moved : Nat) (a_above : Nat) (a_out : Nat) (a_first : Nat) (c_t : Nat → Int32) (c_now : Nat → Int32) : va_W := [(a_t, .inr (6, [.ref a_refused, .ref a_now, .ref a_kept, .ref a_mind, .int (c_t 4), .ref a_tape, .int (c_t 6), .int (c_t 7), .int (c_t 8), .int (c_t 9), .ref a_words, .ref a_wCell, .ref a_wFaces, .ref a_wTurns, .ref a_wSign, .ref a_wBy, .ref a_wFell, .int (c_t 17), .ref a_telling, .ref a_holds, .ref a_sizes, .ref a_elements, .ref a_moved, .ref a_above, .ref a_out, .ref a_first])), (a_now, .inl (eI E, 97, .inl c_now))]
abbrev r_X6_carries : Room := { frames := 2, cells := 0, slots := 0, locals := 44 }
theorem hd_X6_carries : yX6_carries.cls ≠ "java/lang/invoke/MethodHandle" ∧ yX6_carries.cls ≠ "java/lang/invoke/VarHandle" ∧ (parseMethodDescriptor yX6_carries.desc).map (fun d => d.parameters.length) = some 0 := by decide +kernel
theorem hV_X6_carries : yX6_carries.cls = RX6 ∧ yX6_carries.cls ≠ "java/lang/invoke/MethodHandle" ∧ yX6_carries.cls ≠ "java/lang/invoke/VarHandle" ∧ (parseMethodDescriptor yX6_carries.desc).map (fun d => d.parameters.length) = some 0 := ⟨rfl, hd_X6_carries⟩
theorem iX6_carries_X6 : ∀ w ∈ wsX60, w ∈ wsX6_carries := fun _ h => List.mem_cons_of_mem _ (List.mem_append_right _ (h))
section
variable {p : Program} {l : Launch} {e : Env} {s : State} {m : MethodId} {args : Array Value} {below : List Frame} {meth : Method} {c : Code} {E : Env0} {A : Nat → Prop}
set_option maxRecDepth 100000 in
set_option maxHeartbeats 4000000 in
theorem w_X6_carries (X : Ctx p m meth c cX6_carries 2 ((some .int)) s args wsX6_carries RX6 E A) (a_t : Nat) (a_now : Nat) (a_refused : Nat) (a_kept : Nat) (a_mind : Nat) (a_tape : Nat) (a_words : Nat) (a_wCell : Nat) (a_wFaces : Nat) (a_wTurns : Nat) (a_wSign : Nat) (a_wBy : Nat) (a_wFell : Nat) (a_telling : Nat) (a_holds : Nat) (a_sizes : Nat) (a_elements : Nat) (a_moved : Nat) (a_above : Nat) (a_out : Nat) (a_first : Nat) (c_t : Nat → Int32) (c_now : Nat → Int32) (res : Int32) (ls : Array Slot) (H : Heap) (locs : List Loc) (h : f_X6_carries c_t c_now = some res) (hP : va_P E.1 vwCl (W_X6_carries E a_t a_now a_refused a_kept a_mind a_tape a_words a_wCell a_wFaces a_wTurns a_wSign a_wBy a_wFell a_telling a_holds a_sizes a_elements a_moved a_above a_out a_first c_t c_now) H) (hD : va_D A (W_X6_carries E a_t a_now a_refused a_kept a_mind a_tape a_words a_wCell a_wFaces a_wTurns a_wSign a_wBy a_wFell a_telling a_holds a_sizes a_elements a_moved a_above a_out a_first c_t c_now)) (hS : va_S A s.heap H locs) (hl : lv_has ls 2 [(0, .ref a_t)]) : W p l e r_X6_carries s m args below meth c H locs 0 0 (MQ below (qI E A res (W_X6_carries E a_t a_now a_refused a_kept a_mind a_tape a_words a_wCell a_wFaces a_wTurns a_wSign a_wBy a_wFell a_telling a_holds a_sizes a_elements a_moved a_above a_out a_first c_t c_now)) args s 0 0 A) (F0 m 0 ls []) := by
  obtain ⟨hx, hb, hml, hr, hlk, hown, hts, hG, hA⟩ := id X
  have hK := hG.1
  have hN := hG.2.1
  unfold f_X6_carries at h
  refine lv_aload_n hx hb dX6_carries_0 rfl (lv_at hl 0 rfl) ?_
  refine lv_iconst (v := (1 : Int32)) hx hb dX6_carries_1 (by decide) ?_
  obtain ⟨v1, hv1, h⟩ := bind_of h
  refine after_i X (run_V X (c_X6_weigh l E a_t a_now a_refused a_kept a_mind a_tape a_words a_wCell a_wFaces a_wTurns a_wSign a_wBy a_wFell a_telling a_holds a_sizes a_elements a_moved a_above a_out a_first (1 : Int32) c_t c_now H.size v1 hv1) (cwV 1 hts gX6_carries_X6_weigh rfl rfl rfl hV_X6_weigh ⟨(Nat.le_of_ble_eq_true rfl), (Nat.le_of_ble_eq_true rfl)⟩) hP hD hS [0, 1] rfl rfl hl.1 (ci := 6) rfl rfl rfl (rest := []) rfl rfl (Nat.le_of_ble_eq_true rfl) dX6_carries_2) hP hD hS [0, 1] [] [0, 1] rfl rfl rfl (by decide) rfl (ws1 := (W_X6_carries E a_t a_now a_refused a_kept a_mind a_tape a_words a_wCell a_wFaces a_wTurns a_wSign a_wBy a_wFell a_telling a_holds a_sizes a_elements a_moved a_above a_out a_first c_t c_now)) rfl (fun H locs hP hD hS => ?_)
  refine lv_aload_n hx hb dX6_carries_5 rfl (lv_at hl 0 rfl) ?_
  refine lv_iconst (v := (0 : Int32)) hx hb dX6_carries_6 (by decide) ?_
  obtain ⟨v2, hv2, h⟩ := bind_of h
  refine after_i X (run_V X (c_X6_weigh l E a_t a_now a_refused a_kept a_mind a_tape a_words a_wCell a_wFaces a_wTurns a_wSign a_wBy a_wFell a_telling a_holds a_sizes a_elements a_moved a_above a_out a_first (0 : Int32) c_t c_now H.size v2 hv2) (cwV 1 hts gX6_carries_X6_weigh rfl rfl rfl hV_X6_weigh ⟨(Nat.le_of_ble_eq_true rfl), (Nat.le_of_ble_eq_true rfl)⟩) hP hD hS [0, 1] rfl rfl hl.1 (ci := 6) rfl rfl rfl (rest := [.int v1]) rfl rfl (Nat.le_of_ble_eq_true rfl) dX6_carries_7) hP hD hS [0, 1] [] [0, 1] rfl rfl rfl (by decide) rfl (ws1 := (W_X6_carries E a_t a_now a_refused a_kept a_mind a_tape a_words a_wCell a_wFaces a_wTurns a_wSign a_wBy a_wFell a_telling a_holds a_sizes a_elements a_moved a_above a_out a_first c_t c_now)) rfl (fun H locs hP hD hS => ?_)
  refine lv_isub hx hb dX6_carries_10 ?_
  refine lv_istore_n (lv' := [(1, .int (v1 - v2)), (0, .ref a_t)]) hx hb dX6_carries_11 rfl hl (by decide) rfl (fun ls hl => ?_)
  refine lv_iload_n hx hb dX6_carries_12 rfl (lv_at hl 0 rfl) ?_
  refine lv_if_le (tgt := 20) hx hb dX6_carries_13 (by decide) (fun hc13 => ?_) (fun hc13 => ?_)
  · have h := if_t h hc13
    refine lv_iload_n hx hb dX6_carries_20 rfl (lv_at hl 0 rfl) ?_
    refine lv_if_ge (tgt := 28) hx hb dX6_carries_21 (by decide) (fun hc21 => ?_) (fun hc21 => ?_)
    · have h := if_t h hc21
      refine lv_aload_n hx hb dX6_carries_28 rfl (lv_at hl 1 rfl) ?_
      refine va_get (D := E.1) (ci := 6) (v := .ref a_now) (C := RX6) (T := TX6) (N := 26) hx hb hts iX6_carries_X6 hown hK hP 0 rfl rfl 1 (by decide) (hts (.fieldLink RX6 17 "LeftIsAgreedOnModel" "now" "[I") (List.mem_of_getElem? (i := 1) rfl)) (fun _ h9 => h9) rfl dX6_carries_29 ?_
      refine lv_bipush (v := (91 : Int32)) hx hb dX6_carries_32 (by decide) ?_
      refine ld_i X hP 1 rfl (inb.vp (by decide)) (v := (c_now 91)) rfl dX6_carries_34 ?_
      obtain rfl := Option.some.inj h
      exact ret_i X dX6_carries_35 hP hD hS rfl
    · have h := if_f h hc21
      refine lv_iconst (v := (0 : Int32)) hx hb dX6_carries_24 (by decide) ?_
      refine lv_goto (tgt := 35) hx hb dX6_carries_25 (by decide) ?_
      obtain rfl := Option.some.inj h
      exact ret_i X dX6_carries_35 hP hD hS rfl
  · have h := if_f h hc13
    refine lv_iconst (v := (1 : Int32)) hx hb dX6_carries_16 (by decide) ?_
    refine lv_goto (tgt := 35) hx hb dX6_carries_17 (by decide) ?_
    obtain rfl := Option.some.inj h
    exact ret_i X dX6_carries_35 hP hD hS rfl
end
set_option maxRecDepth 100000 in
theorem c_X6_carries (l : Launch) (E : Env0) (a_t : Nat) (a_now : Nat) (a_refused : Nat) (a_kept : Nat) (a_mind : Nat) (a_tape : Nat) (a_words : Nat) (a_wCell : Nat) (a_wFaces : Nat) (a_wTurns : Nat) (a_wSign : Nat) (a_wBy : Nat) (a_wFell : Nat) (a_telling : Nat) (a_holds : Nat) (a_sizes : Nat) (a_elements : Nat) (a_moved : Nat) (a_above : Nat) (a_out : Nat) (a_first : Nat) (c_t : Nat → Int32) (c_now : Nat → Int32) (sz : Nat) (res : Int32) (h : f_X6_carries c_t c_now = some res) : Met l yX6_carries wsX6_carries r_X6_carries (cPre E [.ref a_t] (W_X6_carries E a_t a_now a_refused a_kept a_mind a_tape a_words a_wCell a_wFaces a_wTurns a_wSign a_wBy a_wFell a_telling a_holds a_sizes a_elements a_moved a_above a_out a_first c_t c_now) sz) (qI E (va_A (W_X6_carries E a_t a_now a_refused a_kept a_mind a_tape a_words a_wCell a_wFaces a_wTurns a_wSign a_wBy a_wFell a_telling a_holds a_sizes a_elements a_moved a_above a_out a_first c_t c_now) sz) res (W_X6_carries E a_t a_now a_refused a_kept a_mind a_tape a_words a_wCell a_wFaces a_wTurns a_wSign a_wBy a_wFell a_telling a_holds a_sizes a_elements a_moved a_above a_out a_first c_t c_now)) 0 0 (va_A (W_X6_carries E a_t a_now a_refused a_kept a_mind a_tape a_words a_wCell a_wFaces a_wTurns a_wSign a_wBy a_wFell a_telling a_holds a_sizes a_elements a_moved a_above a_out a_first c_t c_now) sz) :=
  met_of (Qc := fun A => qI E A res (W_X6_carries E a_t a_now a_refused a_kept a_mind a_tape a_words a_wCell a_wFaces a_wTurns a_wSign a_wBy a_wFell a_telling a_holds a_sizes a_elements a_moved a_above a_out a_first c_t c_now)) (by decide) rfl (Nat.le_of_ble_eq_true rfl) (fun p e s m args below meth c X hP hD hS ls hl => w_X6_carries X a_t a_now a_refused a_kept a_mind a_tape a_words a_wCell a_wFaces a_wTurns a_wSign a_wBy a_wFell a_telling a_holds a_sizes a_elements a_moved a_above a_out a_first c_t c_now res ls _ _ h hP hD hS hl)
-- ===== X6_power
abbrev W_X6_power (E : Env0) (a_t : Nat) (a_now : Nat) (a_refused : Nat) (a_kept : Nat) (a_mind : Nat) (a_tape : Nat) (a_words : Nat) (a_wCell : Nat) (a_wFaces : Nat) (a_wTurns : Nat) (a_wSign : Nat) (a_wBy : Nat) (a_wFell : Nat) (a_telling : Nat) (a_holds : Nat) (a_sizes : Nat) (a_elements : Nat) (a_moved : Nat) (a_above : Nat) (a_out : Nat) (a_first : Nat) (c_t : Nat → Int32) (c_now : Nat → Int32) : va_W := [(a_t, .inr (6, [.ref a_refused, .ref a_now, .ref a_kept, .ref a_mind, .int (c_t 4), .ref a_tape, .int (c_t 6), .int (c_t 7), .int (c_t 8), .int (c_t 9), .ref a_words, .ref a_wCell, .ref a_wFaces, .ref a_wTurns, .ref a_wSign, .ref a_wBy, .ref a_wFell, .int (c_t 17), .ref a_telling, .ref a_holds, .ref a_sizes, .ref a_elements, .ref a_moved, .ref a_above, .ref a_out, .ref a_first])), (a_now, .inl (eI E, 97, .inl c_now))]
abbrev r_X6_power : Room := { frames := 2, cells := 0, slots := 0, locals := 44 }
theorem hd_X6_power : yX6_power.cls ≠ "java/lang/invoke/MethodHandle" ∧ yX6_power.cls ≠ "java/lang/invoke/VarHandle" ∧ (parseMethodDescriptor yX6_power.desc).map (fun d => d.parameters.length) = some 1 := by decide +kernel
theorem hV_X6_power : yX6_power.cls = RX6 ∧ yX6_power.cls ≠ "java/lang/invoke/MethodHandle" ∧ yX6_power.cls ≠ "java/lang/invoke/VarHandle" ∧ (parseMethodDescriptor yX6_power.desc).map (fun d => d.parameters.length) = some 1 := ⟨rfl, hd_X6_power⟩
section
variable {p : Program} {l : Launch} {e : Env} {s : State} {m : MethodId} {args : Array Value} {below : List Frame} {meth : Method} {c : Code} {E : Env0} {A : Nat → Prop}
set_option maxRecDepth 100000 in
set_option maxHeartbeats 4000000 in
theorem w_X6_power_b107 (X : Ctx p m meth c cX6_power 7 ((some .int)) s args wsX6_power RX6 E A) (a_t : Nat) (a_now : Nat) (a_refused : Nat) (a_kept : Nat) (a_mind : Nat) (a_tape : Nat) (a_words : Nat) (a_wCell : Nat) (a_wFaces : Nat) (a_wTurns : Nat) (a_wSign : Nat) (a_wBy : Nat) (a_wFell : Nat) (a_telling : Nat) (a_holds : Nat) (a_sizes : Nat) (a_elements : Nat) (a_moved : Nat) (a_above : Nat) (a_out : Nat) (a_first : Nat) (c_t : Nat → Int32) (c_now : Nat → Int32) (res : Int32) (k17 : Int32 → Int32 → Int32 → Int32 → Option (Int32)) (hk17 : ∀ (l1 : Int32) (l2 : Int32) (l3 : Int32) (l4 : Int32) (ls : Array Slot) (H : Heap) (locs : List Loc), k17 l1 l2 l3 l4 = some res → va_P E.1 vwCl (W_X6_power E a_t a_now a_refused a_kept a_mind a_tape a_words a_wCell a_wFaces a_wTurns a_wSign a_wBy a_wFell a_telling a_holds a_sizes a_elements a_moved a_above a_out a_first c_t c_now) H → va_D A (W_X6_power E a_t a_now a_refused a_kept a_mind a_tape a_words a_wCell a_wFaces a_wTurns a_wSign a_wBy a_wFell a_telling a_holds a_sizes a_elements a_moved a_above a_out a_first c_t c_now) → va_S A s.heap H locs → lv_has ls 7 [(0, .ref a_t), (1, .int l1), (2, .int l2), (3, .int l3), (4, .int l4)] → W p l e r_X6_power s m args below meth c H locs 0 0 (MQ below (qI E A res (W_X6_power E a_t a_now a_refused a_kept a_mind a_tape a_words a_wCell a_wFaces a_wTurns a_wSign a_wBy a_wFell a_telling a_holds a_sizes a_elements a_moved a_above a_out a_first c_t c_now)) args s 0 0 A) (F0 m 17 ls [])) (l1 : Int32) (l2 : Int32) (l3 : Int32) (l4 : Int32) (ls : Array Slot) (H : Heap) (locs : List Loc) (h : f_X6_power_b107 c_t c_now k17 l1 l2 l3 l4 = some res) (hP : va_P E.1 vwCl (W_X6_power E a_t a_now a_refused a_kept a_mind a_tape a_words a_wCell a_wFaces a_wTurns a_wSign a_wBy a_wFell a_telling a_holds a_sizes a_elements a_moved a_above a_out a_first c_t c_now) H) (hD : va_D A (W_X6_power E a_t a_now a_refused a_kept a_mind a_tape a_words a_wCell a_wFaces a_wTurns a_wSign a_wBy a_wFell a_telling a_holds a_sizes a_elements a_moved a_above a_out a_first c_t c_now)) (hS : va_S A s.heap H locs) (hl : lv_has ls 7 [(0, .ref a_t), (1, .int l1), (2, .int l2), (3, .int l3), (4, .int l4)]) : W p l e r_X6_power s m args below meth c H locs 0 0 (MQ below (qI E A res (W_X6_power E a_t a_now a_refused a_kept a_mind a_tape a_words a_wCell a_wFaces a_wTurns a_wSign a_wBy a_wFell a_telling a_holds a_sizes a_elements a_moved a_above a_out a_first c_t c_now)) args s 0 0 A) (F0 m 107 ls []) := by
  obtain ⟨hx, hb, hml, hr, hlk, hown, hts, hG, hA⟩ := id X
  have hK := hG.1
  have hN := hG.2.1
  unfold f_X6_power_b107 at h
  refine lv_iinc (v := (l4 + (1 : Int32))) (lv' := [(4, .int (l4 + (1 : Int32))), (0, .ref a_t), (1, .int l1), (2, .int l2), (3, .int l3)]) hx hb dX6_power_107 hl (k := 4) rfl rfl (by decide) rfl (fun ls hl => ?_)
  refine lv_goto (tgt := 17) hx hb dX6_power_110 (by decide) ?_
  exact hk17 l1 l2 l3 (l4 + (1 : Int32)) _ _ _ h hP hD hS (lv_sub hl [1, 2, 3, 4, 0] rfl)
set_option maxRecDepth 100000 in
set_option maxHeartbeats 4000000 in
theorem w_X6_power_b105 (X : Ctx p m meth c cX6_power 7 ((some .int)) s args wsX6_power RX6 E A) (a_t : Nat) (a_now : Nat) (a_refused : Nat) (a_kept : Nat) (a_mind : Nat) (a_tape : Nat) (a_words : Nat) (a_wCell : Nat) (a_wFaces : Nat) (a_wTurns : Nat) (a_wSign : Nat) (a_wBy : Nat) (a_wFell : Nat) (a_telling : Nat) (a_holds : Nat) (a_sizes : Nat) (a_elements : Nat) (a_moved : Nat) (a_above : Nat) (a_out : Nat) (a_first : Nat) (c_t : Nat → Int32) (c_now : Nat → Int32) (res : Int32) (k17 : Int32 → Int32 → Int32 → Int32 → Option (Int32)) (hk17 : ∀ (l1 : Int32) (l2 : Int32) (l3 : Int32) (l4 : Int32) (ls : Array Slot) (H : Heap) (locs : List Loc), k17 l1 l2 l3 l4 = some res → va_P E.1 vwCl (W_X6_power E a_t a_now a_refused a_kept a_mind a_tape a_words a_wCell a_wFaces a_wTurns a_wSign a_wBy a_wFell a_telling a_holds a_sizes a_elements a_moved a_above a_out a_first c_t c_now) H → va_D A (W_X6_power E a_t a_now a_refused a_kept a_mind a_tape a_words a_wCell a_wFaces a_wTurns a_wSign a_wBy a_wFell a_telling a_holds a_sizes a_elements a_moved a_above a_out a_first c_t c_now) → va_S A s.heap H locs → lv_has ls 7 [(0, .ref a_t), (1, .int l1), (2, .int l2), (3, .int l3), (4, .int l4)] → W p l e r_X6_power s m args below meth c H locs 0 0 (MQ below (qI E A res (W_X6_power E a_t a_now a_refused a_kept a_mind a_tape a_words a_wCell a_wFaces a_wTurns a_wSign a_wBy a_wFell a_telling a_holds a_sizes a_elements a_moved a_above a_out a_first c_t c_now)) args s 0 0 A) (F0 m 17 ls [])) (l1 : Int32) (l2 : Int32) (l4 : Int32) (s0 : Int32) (s1 : Int32) (ls : Array Slot) (H : Heap) (locs : List Loc) (h : f_X6_power_b105 c_t c_now k17 l1 l2 l4 s0 s1 = some res) (hP : va_P E.1 vwCl (W_X6_power E a_t a_now a_refused a_kept a_mind a_tape a_words a_wCell a_wFaces a_wTurns a_wSign a_wBy a_wFell a_telling a_holds a_sizes a_elements a_moved a_above a_out a_first c_t c_now) H) (hD : va_D A (W_X6_power E a_t a_now a_refused a_kept a_mind a_tape a_words a_wCell a_wFaces a_wTurns a_wSign a_wBy a_wFell a_telling a_holds a_sizes a_elements a_moved a_above a_out a_first c_t c_now)) (hS : va_S A s.heap H locs) (hl : lv_has ls 7 [(0, .ref a_t), (1, .int l1), (2, .int l2), (4, .int l4)]) : W p l e r_X6_power s m args below meth c H locs 0 0 (MQ below (qI E A res (W_X6_power E a_t a_now a_refused a_kept a_mind a_tape a_words a_wCell a_wFaces a_wTurns a_wSign a_wBy a_wFell a_telling a_holds a_sizes a_elements a_moved a_above a_out a_first c_t c_now)) args s 0 0 A) (F0 m 105 ls [.int s0, .int s1]) := by
  obtain ⟨hx, hb, hml, hr, hlk, hown, hts, hG, hA⟩ := id X
  have hK := hG.1
  have hN := hG.2.1
  unfold f_X6_power_b105 at h
  refine lv_iadd hx hb dX6_power_105 ?_
  refine lv_istore_n (lv' := [(3, .int (s1 + s0)), (0, .ref a_t), (1, .int l1), (2, .int l2), (4, .int l4)]) hx hb dX6_power_106 rfl hl (by decide) rfl (fun ls hl => ?_)
  exact w_X6_power_b107 X a_t a_now a_refused a_kept a_mind a_tape a_words a_wCell a_wFaces a_wTurns a_wSign a_wBy a_wFell a_telling a_holds a_sizes a_elements a_moved a_above a_out a_first c_t c_now res k17 hk17 l1 l2 (s1 + s0) l4 _ _ _ h hP hD hS (lv_sub hl [1, 2, 3, 0, 4] rfl)
set_option maxRecDepth 100000 in
set_option maxHeartbeats 4000000 in
theorem w_X6_power_b104 (X : Ctx p m meth c cX6_power 7 ((some .int)) s args wsX6_power RX6 E A) (a_t : Nat) (a_now : Nat) (a_refused : Nat) (a_kept : Nat) (a_mind : Nat) (a_tape : Nat) (a_words : Nat) (a_wCell : Nat) (a_wFaces : Nat) (a_wTurns : Nat) (a_wSign : Nat) (a_wBy : Nat) (a_wFell : Nat) (a_telling : Nat) (a_holds : Nat) (a_sizes : Nat) (a_elements : Nat) (a_moved : Nat) (a_above : Nat) (a_out : Nat) (a_first : Nat) (c_t : Nat → Int32) (c_now : Nat → Int32) (res : Int32) (k17 : Int32 → Int32 → Int32 → Int32 → Option (Int32)) (hk17 : ∀ (l1 : Int32) (l2 : Int32) (l3 : Int32) (l4 : Int32) (ls : Array Slot) (H : Heap) (locs : List Loc), k17 l1 l2 l3 l4 = some res → va_P E.1 vwCl (W_X6_power E a_t a_now a_refused a_kept a_mind a_tape a_words a_wCell a_wFaces a_wTurns a_wSign a_wBy a_wFell a_telling a_holds a_sizes a_elements a_moved a_above a_out a_first c_t c_now) H → va_D A (W_X6_power E a_t a_now a_refused a_kept a_mind a_tape a_words a_wCell a_wFaces a_wTurns a_wSign a_wBy a_wFell a_telling a_holds a_sizes a_elements a_moved a_above a_out a_first c_t c_now) → va_S A s.heap H locs → lv_has ls 7 [(0, .ref a_t), (1, .int l1), (2, .int l2), (3, .int l3), (4, .int l4)] → W p l e r_X6_power s m args below meth c H locs 0 0 (MQ below (qI E A res (W_X6_power E a_t a_now a_refused a_kept a_mind a_tape a_words a_wCell a_wFaces a_wTurns a_wSign a_wBy a_wFell a_telling a_holds a_sizes a_elements a_moved a_above a_out a_first c_t c_now)) args s 0 0 A) (F0 m 17 ls [])) (l1 : Int32) (l2 : Int32) (l4 : Int32) (s0 : Int32) (ls : Array Slot) (H : Heap) (locs : List Loc) (h : f_X6_power_b104 c_t c_now k17 l1 l2 l4 s0 = some res) (hP : va_P E.1 vwCl (W_X6_power E a_t a_now a_refused a_kept a_mind a_tape a_words a_wCell a_wFaces a_wTurns a_wSign a_wBy a_wFell a_telling a_holds a_sizes a_elements a_moved a_above a_out a_first c_t c_now) H) (hD : va_D A (W_X6_power E a_t a_now a_refused a_kept a_mind a_tape a_words a_wCell a_wFaces a_wTurns a_wSign a_wBy a_wFell a_telling a_holds a_sizes a_elements a_moved a_above a_out a_first c_t c_now)) (hS : va_S A s.heap H locs) (hl : lv_has ls 7 [(0, .ref a_t), (1, .int l1), (2, .int l2), (4, .int l4)]) : W p l e r_X6_power s m args below meth c H locs 0 0 (MQ below (qI E A res (W_X6_power E a_t a_now a_refused a_kept a_mind a_tape a_words a_wCell a_wFaces a_wTurns a_wSign a_wBy a_wFell a_telling a_holds a_sizes a_elements a_moved a_above a_out a_first c_t c_now)) args s 0 0 A) (F0 m 104 ls [.int s0]) := by
  obtain ⟨hx, hb, hml, hr, hlk, hown, hts, hG, hA⟩ := id X
  have hK := hG.1
  have hN := hG.2.1
  unfold f_X6_power_b104 at h
  refine lv_iconst (v := (0 : Int32)) hx hb dX6_power_104 (by decide) ?_
  exact w_X6_power_b105 X a_t a_now a_refused a_kept a_mind a_tape a_words a_wCell a_wFaces a_wTurns a_wSign a_wBy a_wFell a_telling a_holds a_sizes a_elements a_moved a_above a_out a_first c_t c_now res k17 hk17 l1 l2 l4 (0 : Int32) s0 _ _ _ h hP hD hS (lv_sub hl [0, 1, 2, 3] rfl)
set_option maxRecDepth 100000 in
set_option maxHeartbeats 4000000 in
theorem w_X6_power_b43 (X : Ctx p m meth c cX6_power 7 ((some .int)) s args wsX6_power RX6 E A) (a_t : Nat) (a_now : Nat) (a_refused : Nat) (a_kept : Nat) (a_mind : Nat) (a_tape : Nat) (a_words : Nat) (a_wCell : Nat) (a_wFaces : Nat) (a_wTurns : Nat) (a_wSign : Nat) (a_wBy : Nat) (a_wFell : Nat) (a_telling : Nat) (a_holds : Nat) (a_sizes : Nat) (a_elements : Nat) (a_moved : Nat) (a_above : Nat) (a_out : Nat) (a_first : Nat) (c_t : Nat → Int32) (c_now : Nat → Int32) (res : Int32) (k17 : Int32 → Int32 → Int32 → Int32 → Option (Int32)) (hk17 : ∀ (l1 : Int32) (l2 : Int32) (l3 : Int32) (l4 : Int32) (ls : Array Slot) (H : Heap) (locs : List Loc), k17 l1 l2 l3 l4 = some res → va_P E.1 vwCl (W_X6_power E a_t a_now a_refused a_kept a_mind a_tape a_words a_wCell a_wFaces a_wTurns a_wSign a_wBy a_wFell a_telling a_holds a_sizes a_elements a_moved a_above a_out a_first c_t c_now) H → va_D A (W_X6_power E a_t a_now a_refused a_kept a_mind a_tape a_words a_wCell a_wFaces a_wTurns a_wSign a_wBy a_wFell a_telling a_holds a_sizes a_elements a_moved a_above a_out a_first c_t c_now) → va_S A s.heap H locs → lv_has ls 7 [(0, .ref a_t), (1, .int l1), (2, .int l2), (3, .int l3), (4, .int l4)] → W p l e r_X6_power s m args below meth c H locs 0 0 (MQ below (qI E A res (W_X6_power E a_t a_now a_refused a_kept a_mind a_tape a_words a_wCell a_wFaces a_wTurns a_wSign a_wBy a_wFell a_telling a_holds a_sizes a_elements a_moved a_above a_out a_first c_t c_now)) args s 0 0 A) (F0 m 17 ls [])) : ∀ (n : Nat) (l1 : Int32) (l2 : Int32) (l3 : Int32) (l4 : Int32) (l5 : Int32) (l6 : Int32) (ls : Array Slot) (H : Heap) (locs : List Loc), f_X6_power_b43 c_t c_now k17 n l1 l2 l3 l4 l5 l6 = some res → va_P E.1 vwCl (W_X6_power E a_t a_now a_refused a_kept a_mind a_tape a_words a_wCell a_wFaces a_wTurns a_wSign a_wBy a_wFell a_telling a_holds a_sizes a_elements a_moved a_above a_out a_first c_t c_now) H → va_D A (W_X6_power E a_t a_now a_refused a_kept a_mind a_tape a_words a_wCell a_wFaces a_wTurns a_wSign a_wBy a_wFell a_telling a_holds a_sizes a_elements a_moved a_above a_out a_first c_t c_now) → va_S A s.heap H locs → lv_has ls 7 [(0, .ref a_t), (1, .int l1), (2, .int l2), (3, .int l3), (4, .int l4), (5, .int l5), (6, .int l6)] → W p l e r_X6_power s m args below meth c H locs 0 0 (MQ below (qI E A res (W_X6_power E a_t a_now a_refused a_kept a_mind a_tape a_words a_wCell a_wFaces a_wTurns a_wSign a_wBy a_wFell a_telling a_holds a_sizes a_elements a_moved a_above a_out a_first c_t c_now)) args s 0 0 A) (F0 m 43 ls []) := by
  obtain ⟨hx, hb, hml, hr, hlk, hown, hts, hG, hA⟩ := id X
  have hK := hG.1
  have hN := hG.2.1
  intro n
  induction n with
  | zero =>
    intro l1 l2 l3 l4 l5 l6 ls H locs h
    exact absurd (show (none : Option (Int32)) = some res from h) (by intro q; cases q)
  | succ n ih =>
    intro l1 l2 l3 l4 l5 l6 ls H locs h hP hD hS hl
    rw [f_X6_power_b43] at h
    refine lv_iload hx hb dX6_power_43 (lv_at hl 6 rfl) ?_
    refine lv_aload_n hx hb dX6_power_45 rfl (lv_at hl 0 rfl) ?_
    obtain ⟨v1, hv1, h⟩ := bind_of h
    refine after_i X (run_V X (c_X6_many l E a_t a_now a_refused a_kept a_mind a_tape a_words a_wCell a_wFaces a_wTurns a_wSign a_wBy a_wFell a_telling a_holds a_sizes a_elements a_moved a_above a_out a_first c_t c_now H.size v1 hv1) (cwV 0 hts gX6_power_X6_many rfl rfl rfl hV_X6_many ⟨(Nat.le_of_ble_eq_true rfl), (Nat.le_of_ble_eq_true rfl)⟩) hP hD hS [0, 1] rfl rfl hl.1 (ci := 6) rfl rfl rfl (rest := [.int l6]) rfl rfl (Nat.le_of_ble_eq_true rfl) dX6_power_46) hP hD hS [0, 1] [] [0, 1] rfl rfl rfl (by decide) rfl (ws1 := (W_X6_power E a_t a_now a_refused a_kept a_mind a_tape a_words a_wCell a_wFaces a_wTurns a_wSign a_wBy a_wFell a_telling a_holds a_sizes a_elements a_moved a_above a_out a_first c_t c_now)) rfl (fun H locs hP hD hS => ?_)
    refine lv_icmp_ge (tgt := 77) hx hb dX6_power_49 (by decide) (fun hc49 => ?_) (fun hc49 => ?_)
    · have h := if_t h hc49
      refine lv_iload_n hx hb dX6_power_77 rfl (lv_at hl 3 rfl) ?_
      refine lv_iconst (v := (2 : Int32)) hx hb dX6_power_78 (by decide) ?_
      refine lv_iload hx hb dX6_power_79 (lv_at hl 5 rfl) ?_
      refine lv_imul hx hb dX6_power_81 ?_
      refine lv_iload_n hx hb dX6_power_82 rfl (lv_at hl 2 rfl) ?_
      refine lv_icmp_gt (tgt := 104) hx hb dX6_power_83 (by decide) (fun hc83 => ?_) (fun hc83 => ?_)
      · have h := if_t h hc83
        exact w_X6_power_b104 X a_t a_now a_refused a_kept a_mind a_tape a_words a_wCell a_wFaces a_wTurns a_wSign a_wBy a_wFell a_telling a_holds a_sizes a_elements a_moved a_above a_out a_first c_t c_now res k17 hk17 l1 l2 l4 l3 _ _ _ h hP hD hS (lv_sub hl [0, 1, 2, 4] rfl)
      · have h := if_f h hc83
        refine lv_iconst (v := (2 : Int32)) hx hb dX6_power_86 (by decide) ?_
        refine lv_iload hx hb dX6_power_87 (lv_at hl 5 rfl) ?_
        refine lv_aload_n hx hb dX6_power_89 rfl (lv_at hl 0 rfl) ?_
        refine lv_iload_n hx hb dX6_power_90 rfl (lv_at hl 1 rfl) ?_
        obtain ⟨v2, hv2, h⟩ := bind_of h
        refine after_i X (run_V X (c_X6_a l E a_t a_now a_refused a_kept a_mind a_tape a_words a_wCell a_wFaces a_wTurns a_wSign a_wBy a_wFell a_telling a_holds a_sizes a_elements a_moved a_above a_out a_first l1 c_t c_now H.size v2 hv2) (cwV 1 hts gX6_power_X6_a rfl rfl rfl hV_X6_a ⟨(Nat.le_of_ble_eq_true rfl), (Nat.le_of_ble_eq_true rfl)⟩) hP hD hS [0, 1] rfl rfl hl.1 (ci := 6) rfl rfl rfl (rest := [.int l5, .int (2 : Int32), .int l3]) rfl rfl (Nat.le_of_ble_eq_true rfl) dX6_power_91) hP hD hS [0, 1] [] [0, 1] rfl rfl rfl (by decide) rfl (ws1 := (W_X6_power E a_t a_now a_refused a_kept a_mind a_tape a_words a_wCell a_wFaces a_wTurns a_wSign a_wBy a_wFell a_telling a_holds a_sizes a_elements a_moved a_above a_out a_first c_t c_now)) rfl (fun H locs hP hD hS => ?_)
        refine lv_iadd hx hb dX6_power_94 ?_
        refine lv_imul hx hb dX6_power_95 ?_
        refine lv_iload_n hx hb dX6_power_96 rfl (lv_at hl 2 rfl) ?_
        refine lv_icmp_le (tgt := 104) hx hb dX6_power_97 (by decide) (fun hc97 => ?_) (fun hc97 => ?_)
        · have h := if_t h hc97
          exact w_X6_power_b104 X a_t a_now a_refused a_kept a_mind a_tape a_words a_wCell a_wFaces a_wTurns a_wSign a_wBy a_wFell a_telling a_holds a_sizes a_elements a_moved a_above a_out a_first c_t c_now res k17 hk17 l1 l2 l4 l3 _ _ _ h hP hD hS (lv_sub hl [0, 1, 2, 4] rfl)
        · have h := if_f h hc97
          refine lv_iconst (v := (1 : Int32)) hx hb dX6_power_100 (by decide) ?_
          refine lv_goto (tgt := 105) hx hb dX6_power_101 (by decide) ?_
          exact w_X6_power_b105 X a_t a_now a_refused a_kept a_mind a_tape a_words a_wCell a_wFaces a_wTurns a_wSign a_wBy a_wFell a_telling a_holds a_sizes a_elements a_moved a_above a_out a_first c_t c_now res k17 hk17 l1 l2 l4 (1 : Int32) l3 _ _ _ h hP hD hS (lv_sub hl [0, 1, 2, 4] rfl)
    · have h := if_f h hc49
      refine lv_iload hx hb dX6_power_52 (lv_at hl 5 rfl) ?_
      refine lv_iload hx hb dX6_power_54 (lv_at hl 4 rfl) ?_
      refine lv_iload hx hb dX6_power_56 (lv_at hl 6 rfl) ?_
      refine lv_ishr hx hb dX6_power_58 ?_
      refine lv_iconst (v := (1 : Int32)) hx hb dX6_power_59 (by decide) ?_
      refine lv_iand hx hb dX6_power_60 ?_
      refine lv_aload_n hx hb dX6_power_61 rfl (lv_at hl 0 rfl) ?_
      refine lv_iload hx hb dX6_power_62 (lv_at hl 6 rfl) ?_
      obtain ⟨v3, hv3, h⟩ := bind_of h
      refine after_i X (run_V X (c_X6_a l E a_t a_now a_refused a_kept a_mind a_tape a_words a_wCell a_wFaces a_wTurns a_wSign a_wBy a_wFell a_telling a_holds a_sizes a_elements a_moved a_above a_out a_first l6 c_t c_now H.size v3 hv3) (cwV 1 hts gX6_power_X6_a rfl rfl rfl hV_X6_a ⟨(Nat.le_of_ble_eq_true rfl), (Nat.le_of_ble_eq_true rfl)⟩) hP hD hS [0, 1] rfl rfl hl.1 (ci := 6) rfl rfl rfl (rest := [.int ((l4 >>> (l6 &&& 31)) &&& (1 : Int32)), .int l5]) rfl rfl (Nat.le_of_ble_eq_true rfl) dX6_power_64) hP hD hS [0, 1] [] [0, 1] rfl rfl rfl (by decide) rfl (ws1 := (W_X6_power E a_t a_now a_refused a_kept a_mind a_tape a_words a_wCell a_wFaces a_wTurns a_wSign a_wBy a_wFell a_telling a_holds a_sizes a_elements a_moved a_above a_out a_first c_t c_now)) rfl (fun H locs hP hD hS => ?_)
      refine lv_imul hx hb dX6_power_67 ?_
      refine lv_iadd hx hb dX6_power_68 ?_
      refine lv_istore (lv' := [(5, .int (l5 + (((l4 >>> (l6 &&& 31)) &&& (1 : Int32)) * v3))), (0, .ref a_t), (1, .int l1), (2, .int l2), (3, .int l3), (4, .int l4), (6, .int l6)]) hx hb dX6_power_69 hl (by decide) rfl (fun ls hl => ?_)
      refine lv_iinc (v := (l6 + (1 : Int32))) (lv' := [(6, .int (l6 + (1 : Int32))), (5, .int (l5 + (((l4 >>> (l6 &&& 31)) &&& (1 : Int32)) * v3))), (0, .ref a_t), (1, .int l1), (2, .int l2), (3, .int l3), (4, .int l4)]) hx hb dX6_power_71 hl (k := 6) rfl rfl (by decide) rfl (fun ls hl => ?_)
      refine lv_goto (tgt := 43) hx hb dX6_power_74 (by decide) ?_
      exact ih l1 l2 l3 l4 (l5 + (((l4 >>> (l6 &&& 31)) &&& (1 : Int32)) * v3)) (l6 + (1 : Int32)) _ _ _ h hP hD hS (lv_sub hl [2, 3, 4, 5, 6, 1, 0] rfl)
set_option maxRecDepth 100000 in
set_option maxHeartbeats 4000000 in
theorem w_X6_power_b17 (X : Ctx p m meth c cX6_power 7 ((some .int)) s args wsX6_power RX6 E A) (a_t : Nat) (a_now : Nat) (a_refused : Nat) (a_kept : Nat) (a_mind : Nat) (a_tape : Nat) (a_words : Nat) (a_wCell : Nat) (a_wFaces : Nat) (a_wTurns : Nat) (a_wSign : Nat) (a_wBy : Nat) (a_wFell : Nat) (a_telling : Nat) (a_holds : Nat) (a_sizes : Nat) (a_elements : Nat) (a_moved : Nat) (a_above : Nat) (a_out : Nat) (a_first : Nat) (c_t : Nat → Int32) (c_now : Nat → Int32) (res : Int32) : ∀ (n : Nat) (l1 : Int32) (l2 : Int32) (l3 : Int32) (l4 : Int32) (ls : Array Slot) (H : Heap) (locs : List Loc), f_X6_power_b17 c_t c_now n l1 l2 l3 l4 = some res → va_P E.1 vwCl (W_X6_power E a_t a_now a_refused a_kept a_mind a_tape a_words a_wCell a_wFaces a_wTurns a_wSign a_wBy a_wFell a_telling a_holds a_sizes a_elements a_moved a_above a_out a_first c_t c_now) H → va_D A (W_X6_power E a_t a_now a_refused a_kept a_mind a_tape a_words a_wCell a_wFaces a_wTurns a_wSign a_wBy a_wFell a_telling a_holds a_sizes a_elements a_moved a_above a_out a_first c_t c_now) → va_S A s.heap H locs → lv_has ls 7 [(0, .ref a_t), (1, .int l1), (2, .int l2), (3, .int l3), (4, .int l4)] → W p l e r_X6_power s m args below meth c H locs 0 0 (MQ below (qI E A res (W_X6_power E a_t a_now a_refused a_kept a_mind a_tape a_words a_wCell a_wFaces a_wTurns a_wSign a_wBy a_wFell a_telling a_holds a_sizes a_elements a_moved a_above a_out a_first c_t c_now)) args s 0 0 A) (F0 m 17 ls []) := by
  obtain ⟨hx, hb, hml, hr, hlk, hown, hts, hG, hA⟩ := id X
  have hK := hG.1
  have hN := hG.2.1
  intro n
  induction n with
  | zero =>
    intro l1 l2 l3 l4 ls H locs h
    exact absurd (show (none : Option (Int32)) = some res from h) (by intro q; cases q)
  | succ n ih =>
    intro l1 l2 l3 l4 ls H locs h hP hD hS hl
    rw [f_X6_power_b17] at h
    refine lv_iload hx hb dX6_power_17 (lv_at hl 4 rfl) ?_
    refine lv_iconst (v := (1 : Int32)) hx hb dX6_power_19 (by decide) ?_
    refine lv_aload_n hx hb dX6_power_20 rfl (lv_at hl 0 rfl) ?_
    obtain ⟨v1, hv1, h⟩ := bind_of h
    refine after_i X (run_V X (c_X6_many l E a_t a_now a_refused a_kept a_mind a_tape a_words a_wCell a_wFaces a_wTurns a_wSign a_wBy a_wFell a_telling a_holds a_sizes a_elements a_moved a_above a_out a_first c_t c_now H.size v1 hv1) (cwV 0 hts gX6_power_X6_many rfl rfl rfl hV_X6_many ⟨(Nat.le_of_ble_eq_true rfl), (Nat.le_of_ble_eq_true rfl)⟩) hP hD hS [0, 1] rfl rfl hl.1 (ci := 6) rfl rfl rfl (rest := [.int (1 : Int32), .int l4]) rfl rfl (Nat.le_of_ble_eq_true rfl) dX6_power_21) hP hD hS [0, 1] [] [0, 1] rfl rfl rfl (by decide) rfl (ws1 := (W_X6_power E a_t a_now a_refused a_kept a_mind a_tape a_words a_wCell a_wFaces a_wTurns a_wSign a_wBy a_wFell a_telling a_holds a_sizes a_elements a_moved a_above a_out a_first c_t c_now)) rfl (fun H locs hP hD hS => ?_)
    refine lv_ishl hx hb dX6_power_24 ?_
    refine lv_icmp_ge (tgt := 113) hx hb dX6_power_25 (by decide) (fun hc25 => ?_) (fun hc25 => ?_)
    · have h := if_t h hc25
      refine lv_iload_n hx hb dX6_power_113 rfl (lv_at hl 3 rfl) ?_
      obtain rfl := Option.some.inj h
      exact ret_i X dX6_power_114 hP hD hS rfl
    · have h := if_f h hc25
      refine lv_iload hx hb dX6_power_28 (lv_at hl 4 rfl) ?_
      refine lv_iload_n hx hb dX6_power_30 rfl (lv_at hl 1 rfl) ?_
      refine lv_ishr hx hb dX6_power_31 ?_
      refine lv_iconst (v := (1 : Int32)) hx hb dX6_power_32 (by decide) ?_
      refine lv_iand hx hb dX6_power_33 ?_
      refine lv_if_ne (tgt := 107) hx hb dX6_power_34 (by decide) (fun hc34 => ?_) (fun hc34 => ?_)
      · have h := if_f h hc34
        exact w_X6_power_b107 X a_t a_now a_refused a_kept a_mind a_tape a_words a_wCell a_wFaces a_wTurns a_wSign a_wBy a_wFell a_telling a_holds a_sizes a_elements a_moved a_above a_out a_first c_t c_now res (f_X6_power_b17 c_t c_now n) ih l1 l2 l3 l4 _ _ _ h hP hD hS (lv_sub hl [0, 1, 2, 3, 4] rfl)
      · have h := if_t h hc34
        refine lv_iconst (v := (0 : Int32)) hx hb dX6_power_37 (by decide) ?_
        refine lv_istore (lv' := [(5, .int (0 : Int32)), (0, .ref a_t), (1, .int l1), (2, .int l2), (3, .int l3), (4, .int l4)]) hx hb dX6_power_38 hl (by decide) rfl (fun ls hl => ?_)
        refine lv_iconst (v := (0 : Int32)) hx hb dX6_power_40 (by decide) ?_
        refine lv_istore (lv' := [(6, .int (0 : Int32)), (5, .int (0 : Int32)), (0, .ref a_t), (1, .int l1), (2, .int l2), (3, .int l3), (4, .int l4)]) hx hb dX6_power_41 hl (by decide) rfl (fun ls hl => ?_)
        exact w_X6_power_b43 X a_t a_now a_refused a_kept a_mind a_tape a_words a_wCell a_wFaces a_wTurns a_wSign a_wBy a_wFell a_telling a_holds a_sizes a_elements a_moved a_above a_out a_first c_t c_now res (f_X6_power_b17 c_t c_now n) ih FU l1 l2 l3 l4 (0 : Int32) (0 : Int32) _ _ _ h hP hD hS (lv_sub hl [2, 3, 4, 5, 6, 1, 0] rfl)
set_option maxRecDepth 100000 in
set_option maxHeartbeats 4000000 in
theorem w_X6_power (X : Ctx p m meth c cX6_power 7 ((some .int)) s args wsX6_power RX6 E A) (a_t : Nat) (a_now : Nat) (a_refused : Nat) (a_kept : Nat) (a_mind : Nat) (a_tape : Nat) (a_words : Nat) (a_wCell : Nat) (a_wFaces : Nat) (a_wTurns : Nat) (a_wSign : Nat) (a_wBy : Nat) (a_wFell : Nat) (a_telling : Nat) (a_holds : Nat) (a_sizes : Nat) (a_elements : Nat) (a_moved : Nat) (a_above : Nat) (a_out : Nat) (a_first : Nat) (c_t : Nat → Int32) (c_now : Nat → Int32) (res : Int32) (l1 : Int32) (ls : Array Slot) (H : Heap) (locs : List Loc) (h : f_X6_power l1 c_t c_now = some res) (hP : va_P E.1 vwCl (W_X6_power E a_t a_now a_refused a_kept a_mind a_tape a_words a_wCell a_wFaces a_wTurns a_wSign a_wBy a_wFell a_telling a_holds a_sizes a_elements a_moved a_above a_out a_first c_t c_now) H) (hD : va_D A (W_X6_power E a_t a_now a_refused a_kept a_mind a_tape a_words a_wCell a_wFaces a_wTurns a_wSign a_wBy a_wFell a_telling a_holds a_sizes a_elements a_moved a_above a_out a_first c_t c_now)) (hS : va_S A s.heap H locs) (hl : lv_has ls 7 [(0, .ref a_t), (1, .int l1)]) : W p l e r_X6_power s m args below meth c H locs 0 0 (MQ below (qI E A res (W_X6_power E a_t a_now a_refused a_kept a_mind a_tape a_words a_wCell a_wFaces a_wTurns a_wSign a_wBy a_wFell a_telling a_holds a_sizes a_elements a_moved a_above a_out a_first c_t c_now)) args s 0 0 A) (F0 m 0 ls []) := by
  obtain ⟨hx, hb, hml, hr, hlk, hown, hts, hG, hA⟩ := id X
  have hK := hG.1
  have hN := hG.2.1
  unfold f_X6_power at h
  refine lv_aload_n hx hb dX6_power_0 rfl (lv_at hl 0 rfl) ?_
  refine lv_iconst (v := (0 : Int32)) hx hb dX6_power_1 (by decide) ?_
  obtain ⟨v1, hv1, h⟩ := bind_of h
  refine after_i X (run_V X (c_X6_weigh l E a_t a_now a_refused a_kept a_mind a_tape a_words a_wCell a_wFaces a_wTurns a_wSign a_wBy a_wFell a_telling a_holds a_sizes a_elements a_moved a_above a_out a_first (0 : Int32) c_t c_now H.size v1 hv1) (cwV 1 hts gX6_power_X6_weigh rfl rfl rfl hV_X6_weigh ⟨(Nat.le_of_ble_eq_true rfl), (Nat.le_of_ble_eq_true rfl)⟩) hP hD hS [0, 1] rfl rfl hl.1 (ci := 6) rfl rfl rfl (rest := []) rfl rfl (Nat.le_of_ble_eq_true rfl) dX6_power_2) hP hD hS [0, 1] [] [0, 1] rfl rfl rfl (by decide) rfl (ws1 := (W_X6_power E a_t a_now a_refused a_kept a_mind a_tape a_words a_wCell a_wFaces a_wTurns a_wSign a_wBy a_wFell a_telling a_holds a_sizes a_elements a_moved a_above a_out a_first c_t c_now)) rfl (fun H locs hP hD hS => ?_)
  refine lv_aload_n hx hb dX6_power_5 rfl (lv_at hl 0 rfl) ?_
  refine lv_iconst (v := (1 : Int32)) hx hb dX6_power_6 (by decide) ?_
  obtain ⟨v2, hv2, h⟩ := bind_of h
  refine after_i X (run_V X (c_X6_weigh l E a_t a_now a_refused a_kept a_mind a_tape a_words a_wCell a_wFaces a_wTurns a_wSign a_wBy a_wFell a_telling a_holds a_sizes a_elements a_moved a_above a_out a_first (1 : Int32) c_t c_now H.size v2 hv2) (cwV 1 hts gX6_power_X6_weigh rfl rfl rfl hV_X6_weigh ⟨(Nat.le_of_ble_eq_true rfl), (Nat.le_of_ble_eq_true rfl)⟩) hP hD hS [0, 1] rfl rfl hl.1 (ci := 6) rfl rfl rfl (rest := [.int v1]) rfl rfl (Nat.le_of_ble_eq_true rfl) dX6_power_7) hP hD hS [0, 1] [] [0, 1] rfl rfl rfl (by decide) rfl (ws1 := (W_X6_power E a_t a_now a_refused a_kept a_mind a_tape a_words a_wCell a_wFaces a_wTurns a_wSign a_wBy a_wFell a_telling a_holds a_sizes a_elements a_moved a_above a_out a_first c_t c_now)) rfl (fun H locs hP hD hS => ?_)
  refine lv_iadd hx hb dX6_power_10 ?_
  refine lv_istore_n (lv' := [(2, .int (v1 + v2)), (0, .ref a_t), (1, .int l1)]) hx hb dX6_power_11 rfl hl (by decide) rfl (fun ls hl => ?_)
  refine lv_iconst (v := (0 : Int32)) hx hb dX6_power_12 (by decide) ?_
  refine lv_istore_n (lv' := [(3, .int (0 : Int32)), (2, .int (v1 + v2)), (0, .ref a_t), (1, .int l1)]) hx hb dX6_power_13 rfl hl (by decide) rfl (fun ls hl => ?_)
  refine lv_iconst (v := (0 : Int32)) hx hb dX6_power_14 (by decide) ?_
  refine lv_istore (lv' := [(4, .int (0 : Int32)), (3, .int (0 : Int32)), (2, .int (v1 + v2)), (0, .ref a_t), (1, .int l1)]) hx hb dX6_power_15 hl (by decide) rfl (fun ls hl => ?_)
  exact w_X6_power_b17 X a_t a_now a_refused a_kept a_mind a_tape a_words a_wCell a_wFaces a_wTurns a_wSign a_wBy a_wFell a_telling a_holds a_sizes a_elements a_moved a_above a_out a_first c_t c_now res FU l1 (v1 + v2) (0 : Int32) (0 : Int32) _ _ _ h hP hD hS (lv_sub hl [3, 4, 2, 1, 0] rfl)
end
set_option maxRecDepth 100000 in
theorem c_X6_power (l : Launch) (E : Env0) (a_t : Nat) (a_now : Nat) (a_refused : Nat) (a_kept : Nat) (a_mind : Nat) (a_tape : Nat) (a_words : Nat) (a_wCell : Nat) (a_wFaces : Nat) (a_wTurns : Nat) (a_wSign : Nat) (a_wBy : Nat) (a_wFell : Nat) (a_telling : Nat) (a_holds : Nat) (a_sizes : Nat) (a_elements : Nat) (a_moved : Nat) (a_above : Nat) (a_out : Nat) (a_first : Nat) (l1 : Int32) (c_t : Nat → Int32) (c_now : Nat → Int32) (sz : Nat) (res : Int32) (h : f_X6_power l1 c_t c_now = some res) : Met l yX6_power wsX6_power r_X6_power (cPre E [.ref a_t, .int l1] (W_X6_power E a_t a_now a_refused a_kept a_mind a_tape a_words a_wCell a_wFaces a_wTurns a_wSign a_wBy a_wFell a_telling a_holds a_sizes a_elements a_moved a_above a_out a_first c_t c_now) sz) (qI E (va_A (W_X6_power E a_t a_now a_refused a_kept a_mind a_tape a_words a_wCell a_wFaces a_wTurns a_wSign a_wBy a_wFell a_telling a_holds a_sizes a_elements a_moved a_above a_out a_first c_t c_now) sz) res (W_X6_power E a_t a_now a_refused a_kept a_mind a_tape a_words a_wCell a_wFaces a_wTurns a_wSign a_wBy a_wFell a_telling a_holds a_sizes a_elements a_moved a_above a_out a_first c_t c_now)) 0 0 (va_A (W_X6_power E a_t a_now a_refused a_kept a_mind a_tape a_words a_wCell a_wFaces a_wTurns a_wSign a_wBy a_wFell a_telling a_holds a_sizes a_elements a_moved a_above a_out a_first c_t c_now) sz) :=
  met_of (Qc := fun A => qI E A res (W_X6_power E a_t a_now a_refused a_kept a_mind a_tape a_words a_wCell a_wFaces a_wTurns a_wSign a_wBy a_wFell a_telling a_holds a_sizes a_elements a_moved a_above a_out a_first c_t c_now)) (by decide) rfl (Nat.le_of_ble_eq_true rfl) (fun p e s m args below meth c X hP hD hS ls hl => w_X6_power X a_t a_now a_refused a_kept a_mind a_tape a_words a_wCell a_wFaces a_wTurns a_wSign a_wBy a_wFell a_telling a_holds a_sizes a_elements a_moved a_above a_out a_first c_t c_now res l1 ls _ _ h hP hD hS hl)
-- ===== X6_personOf
abbrev W_X6_personOf (E : Env0) (a_t : Nat) (a_now : Nat) (a_refused : Nat) (a_kept : Nat) (a_mind : Nat) (a_tape : Nat) (a_words : Nat) (a_wCell : Nat) (a_wFaces : Nat) (a_wTurns : Nat) (a_wSign : Nat) (a_wBy : Nat) (a_wFell : Nat) (a_telling : Nat) (a_holds : Nat) (a_sizes : Nat) (a_elements : Nat) (a_moved : Nat) (a_above : Nat) (a_out : Nat) (a_first : Nat) (c_t : Nat → Int32) (c_now : Nat → Int32) (c_refused : Nat → Int32) : va_W := [(a_t, .inr (6, [.ref a_refused, .ref a_now, .ref a_kept, .ref a_mind, .int (c_t 4), .ref a_tape, .int (c_t 6), .int (c_t 7), .int (c_t 8), .int (c_t 9), .ref a_words, .ref a_wCell, .ref a_wFaces, .ref a_wTurns, .ref a_wSign, .ref a_wBy, .ref a_wFell, .int (c_t 17), .ref a_telling, .ref a_holds, .ref a_sizes, .ref a_elements, .ref a_moved, .ref a_above, .ref a_out, .ref a_first])), (a_now, .inl (eI E, 97, .inl c_now)), (a_refused, .inl (eI E, 7, .inl c_refused))]
abbrev r_X6_personOf : Room := { frames := 3, cells := 0, slots := 0, locals := 70 }
theorem hd_X6_personOf : yX6_personOf.cls ≠ "java/lang/invoke/MethodHandle" ∧ yX6_personOf.cls ≠ "java/lang/invoke/VarHandle" ∧ (parseMethodDescriptor yX6_personOf.desc).map (fun d => d.parameters.length) = some 2 := by decide +kernel
theorem hV_X6_personOf : yX6_personOf.cls = RX6 ∧ yX6_personOf.cls ≠ "java/lang/invoke/MethodHandle" ∧ yX6_personOf.cls ≠ "java/lang/invoke/VarHandle" ∧ (parseMethodDescriptor yX6_personOf.desc).map (fun d => d.parameters.length) = some 2 := ⟨rfl, hd_X6_personOf⟩
theorem iX6_personOf_X6 : ∀ w ∈ wsX60, w ∈ wsX6_personOf := fun _ h => List.mem_cons_of_mem _ (List.mem_append_right _ (h))
section
variable {p : Program} {l : Launch} {e : Env} {s : State} {m : MethodId} {args : Array Value} {below : List Frame} {meth : Method} {c : Code} {E : Env0} {A : Nat → Prop}
set_option maxRecDepth 100000 in
set_option maxHeartbeats 4000000 in
theorem w_X6_personOf_b20 (X : Ctx p m meth c cX6_personOf 3 ((some .int)) s args wsX6_personOf RX6 E A) (a_t : Nat) (a_now : Nat) (a_refused : Nat) (a_kept : Nat) (a_mind : Nat) (a_tape : Nat) (a_words : Nat) (a_wCell : Nat) (a_wFaces : Nat) (a_wTurns : Nat) (a_wSign : Nat) (a_wBy : Nat) (a_wFell : Nat) (a_telling : Nat) (a_holds : Nat) (a_sizes : Nat) (a_elements : Nat) (a_moved : Nat) (a_above : Nat) (a_out : Nat) (a_first : Nat) (c_t : Nat → Int32) (c_now : Nat → Int32) (res : Int32 × (Nat → Int32)) (c_refused : Nat → Int32) (ls : Array Slot) (H : Heap) (locs : List Loc) (h : f_X6_personOf_b20 c_t c_now c_refused = some res) (hP : va_P E.1 vwCl (W_X6_personOf E a_t a_now a_refused a_kept a_mind a_tape a_words a_wCell a_wFaces a_wTurns a_wSign a_wBy a_wFell a_telling a_holds a_sizes a_elements a_moved a_above a_out a_first c_t c_now c_refused) H) (hD : va_D A (W_X6_personOf E a_t a_now a_refused a_kept a_mind a_tape a_words a_wCell a_wFaces a_wTurns a_wSign a_wBy a_wFell a_telling a_holds a_sizes a_elements a_moved a_above a_out a_first c_t c_now c_refused)) (hS : va_S A s.heap H locs) (hl : lv_has ls 3 [(0, .ref a_t)]) : W p l e r_X6_personOf s m args below meth c H locs 0 0 (MQ below (qI E A (res.1) (W_X6_personOf E a_t a_now a_refused a_kept a_mind a_tape a_words a_wCell a_wFaces a_wTurns a_wSign a_wBy a_wFell a_telling a_holds a_sizes a_elements a_moved a_above a_out a_first c_t c_now (res.2))) args s 0 0 A) (F0 m 20 ls []) := by
  obtain ⟨hx, hb, hml, hr, hlk, hown, hts, hG, hA⟩ := id X
  have hK := hG.1
  have hN := hG.2.1
  unfold f_X6_personOf_b20 at h
  refine lv_aload_n hx hb dX6_personOf_20 rfl (lv_at hl 0 rfl) ?_
  refine lv_bipush (v := (-2 : Int32)) hx hb dX6_personOf_21 (by decide) ?_
  obtain ⟨v1, hv1, h⟩ := bind_of h
  refine after_i X (run_V X (c_X6_refuse l E a_t a_refused a_now a_kept a_mind a_tape a_words a_wCell a_wFaces a_wTurns a_wSign a_wBy a_wFell a_telling a_holds a_sizes a_elements a_moved a_above a_out a_first (-2 : Int32) c_t c_refused H.size v1 hv1) (cwV 1 hts gX6_personOf_X6_refuse rfl rfl rfl hV_X6_refuse ⟨(Nat.le_of_ble_eq_true rfl), (Nat.le_of_ble_eq_true rfl)⟩) hP hD hS [0, 2] rfl rfl hl.1 (ci := 6) rfl rfl rfl (rest := []) rfl rfl (Nat.le_of_ble_eq_true rfl) dX6_personOf_23) hP hD hS [0, 2] [1] [1, 0, 2] rfl rfl rfl (by decide) rfl (ws1 := (W_X6_personOf E a_t a_now a_refused a_kept a_mind a_tape a_words a_wCell a_wFaces a_wTurns a_wSign a_wBy a_wFell a_telling a_holds a_sizes a_elements a_moved a_above a_out a_first c_t c_now (v1.2))) rfl (fun H locs hP hD hS => ?_)
  obtain rfl := Option.some.inj h
  exact ret_i X dX6_personOf_26 hP hD hS rfl
set_option maxRecDepth 100000 in
set_option maxHeartbeats 4000000 in
theorem w_X6_personOf (X : Ctx p m meth c cX6_personOf 3 ((some .int)) s args wsX6_personOf RX6 E A) (a_t : Nat) (a_now : Nat) (a_refused : Nat) (a_kept : Nat) (a_mind : Nat) (a_tape : Nat) (a_words : Nat) (a_wCell : Nat) (a_wFaces : Nat) (a_wTurns : Nat) (a_wSign : Nat) (a_wBy : Nat) (a_wFell : Nat) (a_telling : Nat) (a_holds : Nat) (a_sizes : Nat) (a_elements : Nat) (a_moved : Nat) (a_above : Nat) (a_out : Nat) (a_first : Nat) (c_t : Nat → Int32) (c_now : Nat → Int32) (res : Int32 × (Nat → Int32)) (c_refused : Nat → Int32) (l1 : Int32) (l2 : Int32) (ls : Array Slot) (H : Heap) (locs : List Loc) (h : f_X6_personOf l1 l2 c_t c_now c_refused = some res) (hP : va_P E.1 vwCl (W_X6_personOf E a_t a_now a_refused a_kept a_mind a_tape a_words a_wCell a_wFaces a_wTurns a_wSign a_wBy a_wFell a_telling a_holds a_sizes a_elements a_moved a_above a_out a_first c_t c_now c_refused) H) (hD : va_D A (W_X6_personOf E a_t a_now a_refused a_kept a_mind a_tape a_words a_wCell a_wFaces a_wTurns a_wSign a_wBy a_wFell a_telling a_holds a_sizes a_elements a_moved a_above a_out a_first c_t c_now c_refused)) (hS : va_S A s.heap H locs) (hl : lv_has ls 3 [(0, .ref a_t), (1, .int l1), (2, .int l2)]) : W p l e r_X6_personOf s m args below meth c H locs 0 0 (MQ below (qI E A (res.1) (W_X6_personOf E a_t a_now a_refused a_kept a_mind a_tape a_words a_wCell a_wFaces a_wTurns a_wSign a_wBy a_wFell a_telling a_holds a_sizes a_elements a_moved a_above a_out a_first c_t c_now (res.2))) args s 0 0 A) (F0 m 0 ls []) := by
  obtain ⟨hx, hb, hml, hr, hlk, hown, hts, hG, hA⟩ := id X
  have hK := hG.1
  have hN := hG.2.1
  unfold f_X6_personOf at h
  refine lv_aload_n hx hb dX6_personOf_0 rfl (lv_at hl 0 rfl) ?_
  refine lv_iload_n hx hb dX6_personOf_1 rfl (lv_at hl 1 rfl) ?_
  obtain ⟨v1, hv1, h⟩ := bind_of h
  refine after_i X (run_V X (c_X6_isPerson l E a_t a_now a_refused a_kept a_mind a_tape a_words a_wCell a_wFaces a_wTurns a_wSign a_wBy a_wFell a_telling a_holds a_sizes a_elements a_moved a_above a_out a_first l1 c_t c_now H.size v1 hv1) (cwV 1 hts gX6_personOf_X6_isPerson rfl rfl rfl hV_X6_isPerson ⟨(Nat.le_of_ble_eq_true rfl), (Nat.le_of_ble_eq_true rfl)⟩) hP hD hS [0, 1] rfl rfl hl.1 (ci := 6) rfl rfl rfl (rest := []) rfl rfl (Nat.le_of_ble_eq_true rfl) dX6_personOf_2) hP hD hS [0, 1] [2] [1, 2, 0] rfl rfl rfl (by decide) rfl (ws1 := (W_X6_personOf E a_t a_now a_refused a_kept a_mind a_tape a_words a_wCell a_wFaces a_wTurns a_wSign a_wBy a_wFell a_telling a_holds a_sizes a_elements a_moved a_above a_out a_first c_t c_now c_refused)) rfl (fun H locs hP hD hS => ?_)
  refine lv_if_eq (tgt := 20) hx hb dX6_personOf_5 (by decide) (fun hc5 => ?_) (fun hc5 => ?_)
  · have h := if_t h hc5
    exact w_X6_personOf_b20 X a_t a_now a_refused a_kept a_mind a_tape a_words a_wCell a_wFaces a_wTurns a_wSign a_wBy a_wFell a_telling a_holds a_sizes a_elements a_moved a_above a_out a_first c_t c_now res c_refused _ _ _ h hP hD hS (lv_sub hl [0] rfl)
  · have h := if_f h hc5
    refine lv_iload_n hx hb dX6_personOf_8 rfl (lv_at hl 2 rfl) ?_
    refine lv_i2l (v := (l2.toInt64)) hx hb dX6_personOf_9 rfl ?_
    refine lv_lconst (v := (0 : Int64)) hx hb dX6_personOf_10 (by decide) ?_
    refine lv_ldc2 (v := (5 : Int64)) hx hb hown (hts (.constantLong RX6 110 (5)) (List.mem_of_getElem? (i := 1) rfl)) dX6_personOf_11 ?_
    obtain ⟨v2, hv2, h⟩ := bind_of h
    refine after_i X (run_S X (c_X6_isIn l E (l2.toInt64) (0 : Int64) (5 : Int64) H.size v2 hv2) (va_cwS 3 hts gX6_personOf_X6_isIn rfl rfl rfl hd_X6_isIn ⟨(Nat.le_of_ble_eq_true rfl), (Nat.le_of_ble_eq_true rfl)⟩) hP hD hS [] rfl rfl hl.1 (rest := []) rfl rfl (Nat.le_of_ble_eq_true rfl) dX6_personOf_14) hP hD hS [] [0, 1, 2] [0, 1, 2] rfl rfl rfl (by decide) rfl (ws1 := (W_X6_personOf E a_t a_now a_refused a_kept a_mind a_tape a_words a_wCell a_wFaces a_wTurns a_wSign a_wBy a_wFell a_telling a_holds a_sizes a_elements a_moved a_above a_out a_first c_t c_now c_refused)) rfl (fun H locs hP hD hS => ?_)
    refine lv_if_ne (tgt := 27) hx hb dX6_personOf_17 (by decide) (fun hc17 => ?_) (fun hc17 => ?_)
    · have h := if_f h hc17
      refine lv_iload_n hx hb dX6_personOf_27 rfl (lv_at hl 2 rfl) ?_
      refine lv_iconst (v := (5 : Int32)) hx hb dX6_personOf_28 (by decide) ?_
      refine lv_icmp_ge (tgt := 45) hx hb dX6_personOf_29 (by decide) (fun hc29 => ?_) (fun hc29 => ?_)
      · have h := if_t h hc29
        refine lv_aload_n hx hb dX6_personOf_45 rfl (lv_at hl 0 rfl) ?_
        refine lv_iload_n hx hb dX6_personOf_46 rfl (lv_at hl 1 rfl) ?_
        obtain ⟨v3, hv3, h⟩ := bind_of h
        refine after_i X (run_V X (c_X6_power l E a_t a_now a_refused a_kept a_mind a_tape a_words a_wCell a_wFaces a_wTurns a_wSign a_wBy a_wFell a_telling a_holds a_sizes a_elements a_moved a_above a_out a_first l1 c_t c_now H.size v3 hv3) (cwV 1 hts gX6_personOf_X6_power rfl rfl rfl hV_X6_power ⟨(Nat.le_of_ble_eq_true rfl), (Nat.le_of_ble_eq_true rfl)⟩) hP hD hS [0, 1] rfl rfl hl.1 (ci := 6) rfl rfl rfl (rest := []) rfl rfl (Nat.le_of_ble_eq_true rfl) dX6_personOf_47) hP hD hS [0, 1] [2] [1, 2, 0] rfl rfl rfl (by decide) rfl (ws1 := (W_X6_personOf E a_t a_now a_refused a_kept a_mind a_tape a_words a_wCell a_wFaces a_wTurns a_wSign a_wBy a_wFell a_telling a_holds a_sizes a_elements a_moved a_above a_out a_first c_t c_now c_refused)) rfl (fun H locs hP hD hS => ?_)
        obtain rfl := Option.some.inj h
        exact ret_i X dX6_personOf_50 hP hD hS rfl
      · have h := if_f h hc29
        refine lv_aload_n hx hb dX6_personOf_32 rfl (lv_at hl 0 rfl) ?_
        refine va_get (D := E.1) (ci := 6) (v := .ref a_now) (C := RX6) (T := TX6) (N := 26) hx hb hts iX6_personOf_X6 hown hK hP 0 rfl rfl 1 (by decide) (hts (.fieldLink RX6 17 "LeftIsAgreedOnModel" "now" "[I") (List.mem_of_getElem? (i := 2) rfl)) (fun _ h9 => h9) rfl dX6_personOf_33 ?_
        refine lv_iconst (v := (5 : Int32)) hx hb dX6_personOf_36 (by decide) ?_
        refine lv_iload_n hx hb dX6_personOf_37 rfl (lv_at hl 1 rfl) ?_
        refine lv_imul hx hb dX6_personOf_38 ?_
        refine lv_iload_n hx hb dX6_personOf_39 rfl (lv_at hl 2 rfl) ?_
        refine lv_iadd hx hb dX6_personOf_40 ?_
        obtain ⟨hz41, h⟩ := chk_of h
        refine ld_i X hP 1 rfl (inb.vp hz41) (v := (c_now ((((5 : Int32) * l1) + l2)).toNatClampNeg)) rfl dX6_personOf_41 ?_
        refine lv_goto (tgt := 50) hx hb dX6_personOf_42 (by decide) ?_
        obtain rfl := Option.some.inj h
        exact ret_i X dX6_personOf_50 hP hD hS rfl
    · have h := if_t h hc17
      exact w_X6_personOf_b20 X a_t a_now a_refused a_kept a_mind a_tape a_words a_wCell a_wFaces a_wTurns a_wSign a_wBy a_wFell a_telling a_holds a_sizes a_elements a_moved a_above a_out a_first c_t c_now res c_refused _ _ _ h hP hD hS (lv_sub hl [0] rfl)
end
set_option maxRecDepth 100000 in
theorem c_X6_personOf (l : Launch) (E : Env0) (a_t : Nat) (a_now : Nat) (a_refused : Nat) (a_kept : Nat) (a_mind : Nat) (a_tape : Nat) (a_words : Nat) (a_wCell : Nat) (a_wFaces : Nat) (a_wTurns : Nat) (a_wSign : Nat) (a_wBy : Nat) (a_wFell : Nat) (a_telling : Nat) (a_holds : Nat) (a_sizes : Nat) (a_elements : Nat) (a_moved : Nat) (a_above : Nat) (a_out : Nat) (a_first : Nat) (l1 : Int32) (l2 : Int32) (c_t : Nat → Int32) (c_now : Nat → Int32) (c_refused : Nat → Int32) (sz : Nat) (res : Int32 × (Nat → Int32)) (h : f_X6_personOf l1 l2 c_t c_now c_refused = some res) : Met l yX6_personOf wsX6_personOf r_X6_personOf (cPre E [.ref a_t, .int l1, .int l2] (W_X6_personOf E a_t a_now a_refused a_kept a_mind a_tape a_words a_wCell a_wFaces a_wTurns a_wSign a_wBy a_wFell a_telling a_holds a_sizes a_elements a_moved a_above a_out a_first c_t c_now c_refused) sz) (qI E (va_A (W_X6_personOf E a_t a_now a_refused a_kept a_mind a_tape a_words a_wCell a_wFaces a_wTurns a_wSign a_wBy a_wFell a_telling a_holds a_sizes a_elements a_moved a_above a_out a_first c_t c_now c_refused) sz) (res.1) (W_X6_personOf E a_t a_now a_refused a_kept a_mind a_tape a_words a_wCell a_wFaces a_wTurns a_wSign a_wBy a_wFell a_telling a_holds a_sizes a_elements a_moved a_above a_out a_first c_t c_now (res.2))) 0 0 (va_A (W_X6_personOf E a_t a_now a_refused a_kept a_mind a_tape a_words a_wCell a_wFaces a_wTurns a_wSign a_wBy a_wFell a_telling a_holds a_sizes a_elements a_moved a_above a_out a_first c_t c_now c_refused) sz) :=
  met_of (Qc := fun A => qI E A (res.1) (W_X6_personOf E a_t a_now a_refused a_kept a_mind a_tape a_words a_wCell a_wFaces a_wTurns a_wSign a_wBy a_wFell a_telling a_holds a_sizes a_elements a_moved a_above a_out a_first c_t c_now (res.2))) (by decide) rfl (Nat.le_of_ble_eq_true rfl) (fun p e s m args below meth c X hP hD hS ls hl => w_X6_personOf X a_t a_now a_refused a_kept a_mind a_tape a_words a_wCell a_wFaces a_wTurns a_wSign a_wBy a_wFell a_telling a_holds a_sizes a_elements a_moved a_above a_out a_first c_t c_now res c_refused l1 l2 ls _ _ h hP hD hS hl)
-- ===== X6_mightiest
abbrev W_X6_mightiest (E : Env0) (a_t : Nat) (a_now : Nat) (a_refused : Nat) (a_kept : Nat) (a_mind : Nat) (a_tape : Nat) (a_words : Nat) (a_wCell : Nat) (a_wFaces : Nat) (a_wTurns : Nat) (a_wSign : Nat) (a_wBy : Nat) (a_wFell : Nat) (a_telling : Nat) (a_holds : Nat) (a_sizes : Nat) (a_elements : Nat) (a_moved : Nat) (a_above : Nat) (a_out : Nat) (a_first : Nat) (c_t : Nat → Int32) (c_now : Nat → Int32) (c_refused : Nat → Int32) : va_W := [(a_t, .inr (6, [.ref a_refused, .ref a_now, .ref a_kept, .ref a_mind, .int (c_t 4), .ref a_tape, .int (c_t 6), .int (c_t 7), .int (c_t 8), .int (c_t 9), .ref a_words, .ref a_wCell, .ref a_wFaces, .ref a_wTurns, .ref a_wSign, .ref a_wBy, .ref a_wFell, .int (c_t 17), .ref a_telling, .ref a_holds, .ref a_sizes, .ref a_elements, .ref a_moved, .ref a_above, .ref a_out, .ref a_first])), (a_now, .inl (eI E, 97, .inl c_now)), (a_refused, .inl (eI E, 7, .inl c_refused))]
abbrev r_X6_mightiest : Room := { frames := 3, cells := 0, slots := 0, locals := 70 }
theorem hd_X6_mightiest : yX6_mightiest.cls ≠ "java/lang/invoke/MethodHandle" ∧ yX6_mightiest.cls ≠ "java/lang/invoke/VarHandle" ∧ (parseMethodDescriptor yX6_mightiest.desc).map (fun d => d.parameters.length) = some 0 := by decide +kernel
theorem hV_X6_mightiest : yX6_mightiest.cls = RX6 ∧ yX6_mightiest.cls ≠ "java/lang/invoke/MethodHandle" ∧ yX6_mightiest.cls ≠ "java/lang/invoke/VarHandle" ∧ (parseMethodDescriptor yX6_mightiest.desc).map (fun d => d.parameters.length) = some 0 := ⟨rfl, hd_X6_mightiest⟩
section
variable {p : Program} {l : Launch} {e : Env} {s : State} {m : MethodId} {args : Array Value} {below : List Frame} {meth : Method} {c : Code} {E : Env0} {A : Nat → Prop}
set_option maxRecDepth 100000 in
set_option maxHeartbeats 4000000 in
theorem w_X6_mightiest_b44 (X : Ctx p m meth c cX6_mightiest 3 ((some .int)) s args wsX6_mightiest RX6 E A) (a_t : Nat) (a_now : Nat) (a_refused : Nat) (a_kept : Nat) (a_mind : Nat) (a_tape : Nat) (a_words : Nat) (a_wCell : Nat) (a_wFaces : Nat) (a_wTurns : Nat) (a_wSign : Nat) (a_wBy : Nat) (a_wFell : Nat) (a_telling : Nat) (a_holds : Nat) (a_sizes : Nat) (a_elements : Nat) (a_moved : Nat) (a_above : Nat) (a_out : Nat) (a_first : Nat) (c_t : Nat → Int32) (c_now : Nat → Int32) (res : Int32 × (Nat → Int32)) (k18 : (Nat → Int32) → Int32 → Int32 → Option (Int32 × (Nat → Int32))) (hk18 : ∀ (c_refused : Nat → Int32) (l1 : Int32) (l2 : Int32) (ls : Array Slot) (H : Heap) (locs : List Loc), k18 c_refused l1 l2 = some res → va_P E.1 vwCl (W_X6_mightiest E a_t a_now a_refused a_kept a_mind a_tape a_words a_wCell a_wFaces a_wTurns a_wSign a_wBy a_wFell a_telling a_holds a_sizes a_elements a_moved a_above a_out a_first c_t c_now c_refused) H → va_D A (W_X6_mightiest E a_t a_now a_refused a_kept a_mind a_tape a_words a_wCell a_wFaces a_wTurns a_wSign a_wBy a_wFell a_telling a_holds a_sizes a_elements a_moved a_above a_out a_first c_t c_now c_refused) → va_S A s.heap H locs → lv_has ls 3 [(0, .ref a_t), (1, .int l1), (2, .int l2)] → W p l e r_X6_mightiest s m args below meth c H locs 0 0 (MQ below (qI E A (res.1) (W_X6_mightiest E a_t a_now a_refused a_kept a_mind a_tape a_words a_wCell a_wFaces a_wTurns a_wSign a_wBy a_wFell a_telling a_holds a_sizes a_elements a_moved a_above a_out a_first c_t c_now (res.2))) args s 0 0 A) (F0 m 18 ls [])) (c_refused : Nat → Int32) (l2 : Int32) (s0 : Int32) (ls : Array Slot) (H : Heap) (locs : List Loc) (h : f_X6_mightiest_b44 c_t c_now k18 c_refused l2 s0 = some res) (hP : va_P E.1 vwCl (W_X6_mightiest E a_t a_now a_refused a_kept a_mind a_tape a_words a_wCell a_wFaces a_wTurns a_wSign a_wBy a_wFell a_telling a_holds a_sizes a_elements a_moved a_above a_out a_first c_t c_now c_refused) H) (hD : va_D A (W_X6_mightiest E a_t a_now a_refused a_kept a_mind a_tape a_words a_wCell a_wFaces a_wTurns a_wSign a_wBy a_wFell a_telling a_holds a_sizes a_elements a_moved a_above a_out a_first c_t c_now c_refused)) (hS : va_S A s.heap H locs) (hl : lv_has ls 3 [(0, .ref a_t), (2, .int l2)]) : W p l e r_X6_mightiest s m args below meth c H locs 0 0 (MQ below (qI E A (res.1) (W_X6_mightiest E a_t a_now a_refused a_kept a_mind a_tape a_words a_wCell a_wFaces a_wTurns a_wSign a_wBy a_wFell a_telling a_holds a_sizes a_elements a_moved a_above a_out a_first c_t c_now (res.2))) args s 0 0 A) (F0 m 44 ls [.int s0]) := by
  obtain ⟨hx, hb, hml, hr, hlk, hown, hts, hG, hA⟩ := id X
  have hK := hG.1
  have hN := hG.2.1
  unfold f_X6_mightiest_b44 at h
  refine lv_istore_n (lv' := [(1, .int s0), (0, .ref a_t), (2, .int l2)]) hx hb dX6_mightiest_44 rfl hl (by decide) rfl (fun ls hl => ?_)
  refine lv_iinc (v := (l2 + (1 : Int32))) (lv' := [(2, .int (l2 + (1 : Int32))), (1, .int s0), (0, .ref a_t)]) hx hb dX6_mightiest_45 hl (k := 2) rfl rfl (by decide) rfl (fun ls hl => ?_)
  refine lv_goto (tgt := 18) hx hb dX6_mightiest_48 (by decide) ?_
  exact hk18 c_refused s0 (l2 + (1 : Int32)) _ _ _ h hP hD hS (lv_sub hl [2, 1, 0] rfl)
set_option maxRecDepth 100000 in
set_option maxHeartbeats 4000000 in
theorem w_X6_mightiest_b18 (X : Ctx p m meth c cX6_mightiest 3 ((some .int)) s args wsX6_mightiest RX6 E A) (a_t : Nat) (a_now : Nat) (a_refused : Nat) (a_kept : Nat) (a_mind : Nat) (a_tape : Nat) (a_words : Nat) (a_wCell : Nat) (a_wFaces : Nat) (a_wTurns : Nat) (a_wSign : Nat) (a_wBy : Nat) (a_wFell : Nat) (a_telling : Nat) (a_holds : Nat) (a_sizes : Nat) (a_elements : Nat) (a_moved : Nat) (a_above : Nat) (a_out : Nat) (a_first : Nat) (c_t : Nat → Int32) (c_now : Nat → Int32) (res : Int32 × (Nat → Int32)) : ∀ (n : Nat) (c_refused : Nat → Int32) (l1 : Int32) (l2 : Int32) (ls : Array Slot) (H : Heap) (locs : List Loc), f_X6_mightiest_b18 c_t c_now n c_refused l1 l2 = some res → va_P E.1 vwCl (W_X6_mightiest E a_t a_now a_refused a_kept a_mind a_tape a_words a_wCell a_wFaces a_wTurns a_wSign a_wBy a_wFell a_telling a_holds a_sizes a_elements a_moved a_above a_out a_first c_t c_now c_refused) H → va_D A (W_X6_mightiest E a_t a_now a_refused a_kept a_mind a_tape a_words a_wCell a_wFaces a_wTurns a_wSign a_wBy a_wFell a_telling a_holds a_sizes a_elements a_moved a_above a_out a_first c_t c_now c_refused) → va_S A s.heap H locs → lv_has ls 3 [(0, .ref a_t), (1, .int l1), (2, .int l2)] → W p l e r_X6_mightiest s m args below meth c H locs 0 0 (MQ below (qI E A (res.1) (W_X6_mightiest E a_t a_now a_refused a_kept a_mind a_tape a_words a_wCell a_wFaces a_wTurns a_wSign a_wBy a_wFell a_telling a_holds a_sizes a_elements a_moved a_above a_out a_first c_t c_now (res.2))) args s 0 0 A) (F0 m 18 ls []) := by
  obtain ⟨hx, hb, hml, hr, hlk, hown, hts, hG, hA⟩ := id X
  have hK := hG.1
  have hN := hG.2.1
  intro n
  induction n with
  | zero =>
    intro c_refused l1 l2 ls H locs h
    exact absurd (show (none : Option (Int32 × (Nat → Int32))) = some res from h) (by intro q; cases q)
  | succ n ih =>
    intro c_refused l1 l2 ls H locs h hP hD hS hl
    rw [f_X6_mightiest_b18] at h
    refine lv_iload_n hx hb dX6_mightiest_18 rfl (lv_at hl 2 rfl) ?_
    refine lv_aload_n hx hb dX6_mightiest_19 rfl (lv_at hl 0 rfl) ?_
    obtain ⟨v1, hv1, h⟩ := bind_of h
    refine after_i X (run_V X (c_X6_many l E a_t a_now a_refused a_kept a_mind a_tape a_words a_wCell a_wFaces a_wTurns a_wSign a_wBy a_wFell a_telling a_holds a_sizes a_elements a_moved a_above a_out a_first c_t c_now H.size v1 hv1) (cwV 0 hts gX6_mightiest_X6_many rfl rfl rfl hV_X6_many ⟨(Nat.le_of_ble_eq_true rfl), (Nat.le_of_ble_eq_true rfl)⟩) hP hD hS [0, 1] rfl rfl hl.1 (ci := 6) rfl rfl rfl (rest := [.int l2]) rfl rfl (Nat.le_of_ble_eq_true rfl) dX6_mightiest_20) hP hD hS [0, 1] [2] [1, 2, 0] rfl rfl rfl (by decide) rfl (ws1 := (W_X6_mightiest E a_t a_now a_refused a_kept a_mind a_tape a_words a_wCell a_wFaces a_wTurns a_wSign a_wBy a_wFell a_telling a_holds a_sizes a_elements a_moved a_above a_out a_first c_t c_now c_refused)) rfl (fun H locs hP hD hS => ?_)
    refine lv_icmp_ge (tgt := 51) hx hb dX6_mightiest_23 (by decide) (fun hc23 => ?_) (fun hc23 => ?_)
    · have h := if_t h hc23
      refine lv_iload_n hx hb dX6_mightiest_51 rfl (lv_at hl 1 rfl) ?_
      obtain rfl := Option.some.inj h
      exact ret_i X dX6_mightiest_52 hP hD hS rfl
    · have h := if_f h hc23
      refine lv_aload_n hx hb dX6_mightiest_26 rfl (lv_at hl 0 rfl) ?_
      refine lv_iload_n hx hb dX6_mightiest_27 rfl (lv_at hl 2 rfl) ?_
      obtain ⟨v2, hv2, h⟩ := bind_of h
      refine after_i X (run_V X (c_X6_power l E a_t a_now a_refused a_kept a_mind a_tape a_words a_wCell a_wFaces a_wTurns a_wSign a_wBy a_wFell a_telling a_holds a_sizes a_elements a_moved a_above a_out a_first l2 c_t c_now H.size v2 hv2) (cwV 1 hts gX6_mightiest_X6_power rfl rfl rfl hV_X6_power ⟨(Nat.le_of_ble_eq_true rfl), (Nat.le_of_ble_eq_true rfl)⟩) hP hD hS [0, 1] rfl rfl hl.1 (ci := 6) rfl rfl rfl (rest := []) rfl rfl (Nat.le_of_ble_eq_true rfl) dX6_mightiest_28) hP hD hS [0, 1] [2] [1, 2, 0] rfl rfl rfl (by decide) rfl (ws1 := (W_X6_mightiest E a_t a_now a_refused a_kept a_mind a_tape a_words a_wCell a_wFaces a_wTurns a_wSign a_wBy a_wFell a_telling a_holds a_sizes a_elements a_moved a_above a_out a_first c_t c_now c_refused)) rfl (fun H locs hP hD hS => ?_)
      refine lv_aload_n hx hb dX6_mightiest_31 rfl (lv_at hl 0 rfl) ?_
      refine lv_iload_n hx hb dX6_mightiest_32 rfl (lv_at hl 1 rfl) ?_
      obtain ⟨v3, hv3, h⟩ := bind_of h
      refine after_i X (run_V X (c_X6_power l E a_t a_now a_refused a_kept a_mind a_tape a_words a_wCell a_wFaces a_wTurns a_wSign a_wBy a_wFell a_telling a_holds a_sizes a_elements a_moved a_above a_out a_first l1 c_t c_now H.size v3 hv3) (cwV 1 hts gX6_mightiest_X6_power rfl rfl rfl hV_X6_power ⟨(Nat.le_of_ble_eq_true rfl), (Nat.le_of_ble_eq_true rfl)⟩) hP hD hS [0, 1] rfl rfl hl.1 (ci := 6) rfl rfl rfl (rest := [.int v2]) rfl rfl (Nat.le_of_ble_eq_true rfl) dX6_mightiest_33) hP hD hS [0, 1] [2] [1, 2, 0] rfl rfl rfl (by decide) rfl (ws1 := (W_X6_mightiest E a_t a_now a_refused a_kept a_mind a_tape a_words a_wCell a_wFaces a_wTurns a_wSign a_wBy a_wFell a_telling a_holds a_sizes a_elements a_moved a_above a_out a_first c_t c_now c_refused)) rfl (fun H locs hP hD hS => ?_)
      refine lv_icmp_le (tgt := 43) hx hb dX6_mightiest_36 (by decide) (fun hc36 => ?_) (fun hc36 => ?_)
      · have h := if_t h hc36
        refine lv_iload_n hx hb dX6_mightiest_43 rfl (lv_at hl 1 rfl) ?_
        exact w_X6_mightiest_b44 X a_t a_now a_refused a_kept a_mind a_tape a_words a_wCell a_wFaces a_wTurns a_wSign a_wBy a_wFell a_telling a_holds a_sizes a_elements a_moved a_above a_out a_first c_t c_now res (f_X6_mightiest_b18 c_t c_now n) ih c_refused l2 l1 _ _ _ h hP hD hS (lv_sub hl [0, 2] rfl)
      · have h := if_f h hc36
        refine lv_iload_n hx hb dX6_mightiest_39 rfl (lv_at hl 2 rfl) ?_
        refine lv_goto (tgt := 44) hx hb dX6_mightiest_40 (by decide) ?_
        exact w_X6_mightiest_b44 X a_t a_now a_refused a_kept a_mind a_tape a_words a_wCell a_wFaces a_wTurns a_wSign a_wBy a_wFell a_telling a_holds a_sizes a_elements a_moved a_above a_out a_first c_t c_now res (f_X6_mightiest_b18 c_t c_now n) ih c_refused l2 l2 _ _ _ h hP hD hS (lv_sub hl [0, 2] rfl)
set_option maxRecDepth 100000 in
set_option maxHeartbeats 4000000 in
theorem w_X6_mightiest (X : Ctx p m meth c cX6_mightiest 3 ((some .int)) s args wsX6_mightiest RX6 E A) (a_t : Nat) (a_now : Nat) (a_refused : Nat) (a_kept : Nat) (a_mind : Nat) (a_tape : Nat) (a_words : Nat) (a_wCell : Nat) (a_wFaces : Nat) (a_wTurns : Nat) (a_wSign : Nat) (a_wBy : Nat) (a_wFell : Nat) (a_telling : Nat) (a_holds : Nat) (a_sizes : Nat) (a_elements : Nat) (a_moved : Nat) (a_above : Nat) (a_out : Nat) (a_first : Nat) (c_t : Nat → Int32) (c_now : Nat → Int32) (res : Int32 × (Nat → Int32)) (c_refused : Nat → Int32) (ls : Array Slot) (H : Heap) (locs : List Loc) (h : f_X6_mightiest c_t c_now c_refused = some res) (hP : va_P E.1 vwCl (W_X6_mightiest E a_t a_now a_refused a_kept a_mind a_tape a_words a_wCell a_wFaces a_wTurns a_wSign a_wBy a_wFell a_telling a_holds a_sizes a_elements a_moved a_above a_out a_first c_t c_now c_refused) H) (hD : va_D A (W_X6_mightiest E a_t a_now a_refused a_kept a_mind a_tape a_words a_wCell a_wFaces a_wTurns a_wSign a_wBy a_wFell a_telling a_holds a_sizes a_elements a_moved a_above a_out a_first c_t c_now c_refused)) (hS : va_S A s.heap H locs) (hl : lv_has ls 3 [(0, .ref a_t)]) : W p l e r_X6_mightiest s m args below meth c H locs 0 0 (MQ below (qI E A (res.1) (W_X6_mightiest E a_t a_now a_refused a_kept a_mind a_tape a_words a_wCell a_wFaces a_wTurns a_wSign a_wBy a_wFell a_telling a_holds a_sizes a_elements a_moved a_above a_out a_first c_t c_now (res.2))) args s 0 0 A) (F0 m 0 ls []) := by
  obtain ⟨hx, hb, hml, hr, hlk, hown, hts, hG, hA⟩ := id X
  have hK := hG.1
  have hN := hG.2.1
  unfold f_X6_mightiest at h
  refine lv_aload_n hx hb dX6_mightiest_0 rfl (lv_at hl 0 rfl) ?_
  obtain ⟨v1, hv1, h⟩ := bind_of h
  refine after_i X (run_V X (c_X6_many l E a_t a_now a_refused a_kept a_mind a_tape a_words a_wCell a_wFaces a_wTurns a_wSign a_wBy a_wFell a_telling a_holds a_sizes a_elements a_moved a_above a_out a_first c_t c_now H.size v1 hv1) (cwV 0 hts gX6_mightiest_X6_many rfl rfl rfl hV_X6_many ⟨(Nat.le_of_ble_eq_true rfl), (Nat.le_of_ble_eq_true rfl)⟩) hP hD hS [0, 1] rfl rfl hl.1 (ci := 6) rfl rfl rfl (rest := []) rfl rfl (Nat.le_of_ble_eq_true rfl) dX6_mightiest_1) hP hD hS [0, 1] [2] [1, 2, 0] rfl rfl rfl (by decide) rfl (ws1 := (W_X6_mightiest E a_t a_now a_refused a_kept a_mind a_tape a_words a_wCell a_wFaces a_wTurns a_wSign a_wBy a_wFell a_telling a_holds a_sizes a_elements a_moved a_above a_out a_first c_t c_now c_refused)) rfl (fun H locs hP hD hS => ?_)
  refine lv_if_ne (tgt := 14) hx hb dX6_mightiest_4 (by decide) (fun hc4 => ?_) (fun hc4 => ?_)
  · have h := if_f h hc4
    refine lv_iconst (v := (0 : Int32)) hx hb dX6_mightiest_14 (by decide) ?_
    refine lv_istore_n (lv' := [(1, .int (0 : Int32)), (0, .ref a_t)]) hx hb dX6_mightiest_15 rfl hl (by decide) rfl (fun ls hl => ?_)
    refine lv_iconst (v := (1 : Int32)) hx hb dX6_mightiest_16 (by decide) ?_
    refine lv_istore_n (lv' := [(2, .int (1 : Int32)), (1, .int (0 : Int32)), (0, .ref a_t)]) hx hb dX6_mightiest_17 rfl hl (by decide) rfl (fun ls hl => ?_)
    exact w_X6_mightiest_b18 X a_t a_now a_refused a_kept a_mind a_tape a_words a_wCell a_wFaces a_wTurns a_wSign a_wBy a_wFell a_telling a_holds a_sizes a_elements a_moved a_above a_out a_first c_t c_now res FU c_refused (0 : Int32) (1 : Int32) _ _ _ h hP hD hS (lv_sub hl [2, 1, 0] rfl)
  · have h := if_t h hc4
    refine lv_aload_n hx hb dX6_mightiest_7 rfl (lv_at hl 0 rfl) ?_
    refine lv_bipush (v := (-5 : Int32)) hx hb dX6_mightiest_8 (by decide) ?_
    obtain ⟨v2, hv2, h⟩ := bind_of h
    refine after_i X (run_V X (c_X6_refuse l E a_t a_refused a_now a_kept a_mind a_tape a_words a_wCell a_wFaces a_wTurns a_wSign a_wBy a_wFell a_telling a_holds a_sizes a_elements a_moved a_above a_out a_first (-5 : Int32) c_t c_refused H.size v2 hv2) (cwV 1 hts gX6_mightiest_X6_refuse rfl rfl rfl hV_X6_refuse ⟨(Nat.le_of_ble_eq_true rfl), (Nat.le_of_ble_eq_true rfl)⟩) hP hD hS [0, 2] rfl rfl hl.1 (ci := 6) rfl rfl rfl (rest := []) rfl rfl (Nat.le_of_ble_eq_true rfl) dX6_mightiest_10) hP hD hS [0, 2] [1] [1, 0, 2] rfl rfl rfl (by decide) rfl (ws1 := (W_X6_mightiest E a_t a_now a_refused a_kept a_mind a_tape a_words a_wCell a_wFaces a_wTurns a_wSign a_wBy a_wFell a_telling a_holds a_sizes a_elements a_moved a_above a_out a_first c_t c_now (v2.2))) rfl (fun H locs hP hD hS => ?_)
    obtain rfl := Option.some.inj h
    exact ret_i X dX6_mightiest_13 hP hD hS rfl
end
set_option maxRecDepth 100000 in
theorem c_X6_mightiest (l : Launch) (E : Env0) (a_t : Nat) (a_now : Nat) (a_refused : Nat) (a_kept : Nat) (a_mind : Nat) (a_tape : Nat) (a_words : Nat) (a_wCell : Nat) (a_wFaces : Nat) (a_wTurns : Nat) (a_wSign : Nat) (a_wBy : Nat) (a_wFell : Nat) (a_telling : Nat) (a_holds : Nat) (a_sizes : Nat) (a_elements : Nat) (a_moved : Nat) (a_above : Nat) (a_out : Nat) (a_first : Nat) (c_t : Nat → Int32) (c_now : Nat → Int32) (c_refused : Nat → Int32) (sz : Nat) (res : Int32 × (Nat → Int32)) (h : f_X6_mightiest c_t c_now c_refused = some res) : Met l yX6_mightiest wsX6_mightiest r_X6_mightiest (cPre E [.ref a_t] (W_X6_mightiest E a_t a_now a_refused a_kept a_mind a_tape a_words a_wCell a_wFaces a_wTurns a_wSign a_wBy a_wFell a_telling a_holds a_sizes a_elements a_moved a_above a_out a_first c_t c_now c_refused) sz) (qI E (va_A (W_X6_mightiest E a_t a_now a_refused a_kept a_mind a_tape a_words a_wCell a_wFaces a_wTurns a_wSign a_wBy a_wFell a_telling a_holds a_sizes a_elements a_moved a_above a_out a_first c_t c_now c_refused) sz) (res.1) (W_X6_mightiest E a_t a_now a_refused a_kept a_mind a_tape a_words a_wCell a_wFaces a_wTurns a_wSign a_wBy a_wFell a_telling a_holds a_sizes a_elements a_moved a_above a_out a_first c_t c_now (res.2))) 0 0 (va_A (W_X6_mightiest E a_t a_now a_refused a_kept a_mind a_tape a_words a_wCell a_wFaces a_wTurns a_wSign a_wBy a_wFell a_telling a_holds a_sizes a_elements a_moved a_above a_out a_first c_t c_now c_refused) sz) :=
  met_of (Qc := fun A => qI E A (res.1) (W_X6_mightiest E a_t a_now a_refused a_kept a_mind a_tape a_words a_wCell a_wFaces a_wTurns a_wSign a_wBy a_wFell a_telling a_holds a_sizes a_elements a_moved a_above a_out a_first c_t c_now (res.2))) (by decide) rfl (Nat.le_of_ble_eq_true rfl) (fun p e s m args below meth c X hP hD hS ls hl => w_X6_mightiest X a_t a_now a_refused a_kept a_mind a_tape a_words a_wCell a_wFaces a_wTurns a_wSign a_wBy a_wFell a_telling a_holds a_sizes a_elements a_moved a_above a_out a_first c_t c_now res c_refused ls _ _ h hP hD hS hl)
-- ===== X6_change
abbrev W_X6_change (E : Env0) (a_t : Nat) (a_now : Nat) (a_refused : Nat) (a_kept : Nat) (a_mind : Nat) (a_tape : Nat) (a_words : Nat) (a_wCell : Nat) (a_wFaces : Nat) (a_wTurns : Nat) (a_wSign : Nat) (a_wBy : Nat) (a_wFell : Nat) (a_telling : Nat) (a_holds : Nat) (a_sizes : Nat) (a_elements : Nat) (a_moved : Nat) (a_above : Nat) (a_out : Nat) (a_first : Nat) (c_t : Nat → Int32) (c_now : Nat → Int32) : va_W := [(a_t, .inr (6, [.ref a_refused, .ref a_now, .ref a_kept, .ref a_mind, .int (c_t 4), .ref a_tape, .int (c_t 6), .int (c_t 7), .int (c_t 8), .int (c_t 9), .ref a_words, .ref a_wCell, .ref a_wFaces, .ref a_wTurns, .ref a_wSign, .ref a_wBy, .ref a_wFell, .int (c_t 17), .ref a_telling, .ref a_holds, .ref a_sizes, .ref a_elements, .ref a_moved, .ref a_above, .ref a_out, .ref a_first])), (a_now, .inl (eI E, 97, .inl c_now))]
abbrev r_X6_change : Room := { frames := 1, cells := 0, slots := 0, locals := 20 }
theorem hd_X6_change : yX6_change.cls ≠ "java/lang/invoke/MethodHandle" ∧ yX6_change.cls ≠ "java/lang/invoke/VarHandle" ∧ (parseMethodDescriptor yX6_change.desc).map (fun d => d.parameters.length) = some 1 := by decide +kernel
theorem hV_X6_change : yX6_change.cls = RX6 ∧ yX6_change.cls ≠ "java/lang/invoke/MethodHandle" ∧ yX6_change.cls ≠ "java/lang/invoke/VarHandle" ∧ (parseMethodDescriptor yX6_change.desc).map (fun d => d.parameters.length) = some 1 := ⟨rfl, hd_X6_change⟩
theorem iX6_change_X6 : ∀ w ∈ wsX60, w ∈ wsX6_change := fun _ h => List.mem_cons_of_mem _ (List.mem_append_right _ (h))
section
variable {p : Program} {l : Launch} {e : Env} {s : State} {m : MethodId} {args : Array Value} {below : List Frame} {meth : Method} {c : Code} {E : Env0} {A : Nat → Prop}
set_option maxRecDepth 100000 in
set_option maxHeartbeats 4000000 in
theorem w_X6_change_b2 (X : Ctx p m meth c cX6_change 3 none s args wsX6_change RX6 E A) (a_t : Nat) (a_now : Nat) (a_refused : Nat) (a_kept : Nat) (a_mind : Nat) (a_tape : Nat) (a_words : Nat) (a_wCell : Nat) (a_wFaces : Nat) (a_wTurns : Nat) (a_wSign : Nat) (a_wBy : Nat) (a_wFell : Nat) (a_telling : Nat) (a_holds : Nat) (a_sizes : Nat) (a_elements : Nat) (a_moved : Nat) (a_above : Nat) (a_out : Nat) (a_first : Nat) (c_t : Nat → Int32) (res : (Nat → Int32)) : ∀ (n : Nat) (c_now : Nat → Int32) (l1 : Int32) (l2 : Int32) (ls : Array Slot) (H : Heap) (locs : List Loc), f_X6_change_b2 c_t n c_now l1 l2 = some res → va_P E.1 vwCl (W_X6_change E a_t a_now a_refused a_kept a_mind a_tape a_words a_wCell a_wFaces a_wTurns a_wSign a_wBy a_wFell a_telling a_holds a_sizes a_elements a_moved a_above a_out a_first c_t c_now) H → va_D A (W_X6_change E a_t a_now a_refused a_kept a_mind a_tape a_words a_wCell a_wFaces a_wTurns a_wSign a_wBy a_wFell a_telling a_holds a_sizes a_elements a_moved a_above a_out a_first c_t c_now) → va_S A s.heap H locs → lv_has ls 3 [(0, .ref a_t), (1, .int l1), (2, .int l2)] → W p l e r_X6_change s m args below meth c H locs 0 0 (MQ below (qV E A (W_X6_change E a_t a_now a_refused a_kept a_mind a_tape a_words a_wCell a_wFaces a_wTurns a_wSign a_wBy a_wFell a_telling a_holds a_sizes a_elements a_moved a_above a_out a_first c_t res)) args s 0 0 A) (F0 m 2 ls []) := by
  obtain ⟨hx, hb, hml, hr, hlk, hown, hts, hG, hA⟩ := id X
  have hK := hG.1
  have hN := hG.2.1
  intro n
  induction n with
  | zero =>
    intro c_now l1 l2 ls H locs h
    exact absurd (show (none : Option ((Nat → Int32))) = some res from h) (by intro q; cases q)
  | succ n ih =>
    intro c_now l1 l2 ls H locs h hP hD hS hl
    rw [f_X6_change_b2] at h
    refine lv_iload_n hx hb dX6_change_2 rfl (lv_at hl 2 rfl) ?_
    refine lv_aload_n hx hb dX6_change_3 rfl (lv_at hl 0 rfl) ?_
    obtain ⟨v1, hv1, h⟩ := bind_of h
    refine after_i X (run_V X (c_X6_many l E a_t a_now a_refused a_kept a_mind a_tape a_words a_wCell a_wFaces a_wTurns a_wSign a_wBy a_wFell a_telling a_holds a_sizes a_elements a_moved a_above a_out a_first c_t c_now H.size v1 hv1) (cwV 0 hts gX6_change_X6_many rfl rfl rfl hV_X6_many ⟨(Nat.le_of_ble_eq_true rfl), (Nat.le_of_ble_eq_true rfl)⟩) hP hD hS [0, 1] rfl rfl hl.1 (ci := 6) rfl rfl rfl (rest := [.int l2]) rfl rfl (Nat.le_of_ble_eq_true rfl) dX6_change_4) hP hD hS [0, 1] [] [0, 1] rfl rfl rfl (by decide) rfl (ws1 := (W_X6_change E a_t a_now a_refused a_kept a_mind a_tape a_words a_wCell a_wFaces a_wTurns a_wSign a_wBy a_wFell a_telling a_holds a_sizes a_elements a_moved a_above a_out a_first c_t c_now)) rfl (fun H locs hP hD hS => ?_)
    refine lv_icmp_ge (tgt := 34) hx hb dX6_change_7 (by decide) (fun hc7 => ?_) (fun hc7 => ?_)
    · have h := if_t h hc7
      obtain rfl := Option.some.inj h
      exact ret_v X dX6_change_34 hP hD hS
    · have h := if_f h hc7
      refine lv_aload_n hx hb dX6_change_10 rfl (lv_at hl 0 rfl) ?_
      refine va_get (D := E.1) (ci := 6) (v := .ref a_now) (C := RX6) (T := TX6) (N := 26) hx hb hts iX6_change_X6 hown hK hP 0 rfl rfl 1 (by decide) (hts (.fieldLink RX6 17 "LeftIsAgreedOnModel" "now" "[I") (List.mem_of_getElem? (i := 1) rfl)) (fun _ h9 => h9) rfl dX6_change_11 ?_
      refine lv_iconst (v := (5 : Int32)) hx hb dX6_change_14 (by decide) ?_
      refine lv_iload_n hx hb dX6_change_15 rfl (lv_at hl 2 rfl) ?_
      refine lv_imul hx hb dX6_change_16 ?_
      refine lv_iconst (v := (4 : Int32)) hx hb dX6_change_17 (by decide) ?_
      refine lv_iadd hx hb dX6_change_18 ?_
      refine lv_dup2_11 hx hb dX6_change_19 rfl rfl ?_
      obtain ⟨hz20, h⟩ := chk_of h
      refine ld_i X hP 1 rfl (inb.vp hz20) (v := (c_now ((((5 : Int32) * l2) + (4 : Int32))).toNatClampNeg)) rfl dX6_change_20 ?_
      refine lv_iload_n hx hb dX6_change_21 rfl (lv_at hl 1 rfl) ?_
      refine lv_iload_n hx hb dX6_change_22 rfl (lv_at hl 2 rfl) ?_
      refine lv_ishr hx hb dX6_change_23 ?_
      refine lv_iconst (v := (1 : Int32)) hx hb dX6_change_24 (by decide) ?_
      refine lv_iand hx hb dX6_change_25 ?_
      refine lv_ixor hx hb dX6_change_26 ?_
      obtain ⟨hz27, h⟩ := chk_of h
      refine st_i X hP hD hS 1 rfl (inb.vp hz27) (k := ((((5 : Int32) * l2) + (4 : Int32))).toNatClampNeg) rfl (ws1 := (W_X6_change E a_t a_now a_refused a_kept a_mind a_tape a_words a_wCell a_wFaces a_wTurns a_wSign a_wBy a_wFell a_telling a_holds a_sizes a_elements a_moved a_above a_out a_first c_t (upd c_now (((((5 : Int32) * l2) + (4 : Int32))).toNatClampNeg) ((c_now ((((5 : Int32) * l2) + (4 : Int32))).toNatClampNeg) ^^^ ((l1 >>> (l2 &&& 31)) &&& (1 : Int32)))))) rfl dX6_change_27 (fun H locs hP hD hS => ?_)
      refine lv_iinc (v := (l2 + (1 : Int32))) (lv' := [(2, .int (l2 + (1 : Int32))), (0, .ref a_t), (1, .int l1)]) hx hb dX6_change_28 hl (k := 2) rfl rfl (by decide) rfl (fun ls hl => ?_)
      refine lv_goto (tgt := 2) hx hb dX6_change_31 (by decide) ?_
      exact ih (upd c_now (((((5 : Int32) * l2) + (4 : Int32))).toNatClampNeg) ((c_now ((((5 : Int32) * l2) + (4 : Int32))).toNatClampNeg) ^^^ ((l1 >>> (l2 &&& 31)) &&& (1 : Int32)))) l1 (l2 + (1 : Int32)) _ _ _ h hP hD hS (lv_sub hl [1, 2, 0] rfl)
set_option maxRecDepth 100000 in
set_option maxHeartbeats 4000000 in
theorem w_X6_change (X : Ctx p m meth c cX6_change 3 none s args wsX6_change RX6 E A) (a_t : Nat) (a_now : Nat) (a_refused : Nat) (a_kept : Nat) (a_mind : Nat) (a_tape : Nat) (a_words : Nat) (a_wCell : Nat) (a_wFaces : Nat) (a_wTurns : Nat) (a_wSign : Nat) (a_wBy : Nat) (a_wFell : Nat) (a_telling : Nat) (a_holds : Nat) (a_sizes : Nat) (a_elements : Nat) (a_moved : Nat) (a_above : Nat) (a_out : Nat) (a_first : Nat) (c_t : Nat → Int32) (res : (Nat → Int32)) (c_now : Nat → Int32) (l1 : Int32) (ls : Array Slot) (H : Heap) (locs : List Loc) (h : f_X6_change l1 c_t c_now = some res) (hP : va_P E.1 vwCl (W_X6_change E a_t a_now a_refused a_kept a_mind a_tape a_words a_wCell a_wFaces a_wTurns a_wSign a_wBy a_wFell a_telling a_holds a_sizes a_elements a_moved a_above a_out a_first c_t c_now) H) (hD : va_D A (W_X6_change E a_t a_now a_refused a_kept a_mind a_tape a_words a_wCell a_wFaces a_wTurns a_wSign a_wBy a_wFell a_telling a_holds a_sizes a_elements a_moved a_above a_out a_first c_t c_now)) (hS : va_S A s.heap H locs) (hl : lv_has ls 3 [(0, .ref a_t), (1, .int l1)]) : W p l e r_X6_change s m args below meth c H locs 0 0 (MQ below (qV E A (W_X6_change E a_t a_now a_refused a_kept a_mind a_tape a_words a_wCell a_wFaces a_wTurns a_wSign a_wBy a_wFell a_telling a_holds a_sizes a_elements a_moved a_above a_out a_first c_t res)) args s 0 0 A) (F0 m 0 ls []) := by
  obtain ⟨hx, hb, hml, hr, hlk, hown, hts, hG, hA⟩ := id X
  have hK := hG.1
  have hN := hG.2.1
  unfold f_X6_change at h
  refine lv_iconst (v := (0 : Int32)) hx hb dX6_change_0 (by decide) ?_
  refine lv_istore_n (lv' := [(2, .int (0 : Int32)), (0, .ref a_t), (1, .int l1)]) hx hb dX6_change_1 rfl hl (by decide) rfl (fun ls hl => ?_)
  exact w_X6_change_b2 X a_t a_now a_refused a_kept a_mind a_tape a_words a_wCell a_wFaces a_wTurns a_wSign a_wBy a_wFell a_telling a_holds a_sizes a_elements a_moved a_above a_out a_first c_t res FU c_now l1 (0 : Int32) _ _ _ h hP hD hS (lv_sub hl [1, 2, 0] rfl)
end
set_option maxRecDepth 100000 in
theorem c_X6_change (l : Launch) (E : Env0) (a_t : Nat) (a_now : Nat) (a_refused : Nat) (a_kept : Nat) (a_mind : Nat) (a_tape : Nat) (a_words : Nat) (a_wCell : Nat) (a_wFaces : Nat) (a_wTurns : Nat) (a_wSign : Nat) (a_wBy : Nat) (a_wFell : Nat) (a_telling : Nat) (a_holds : Nat) (a_sizes : Nat) (a_elements : Nat) (a_moved : Nat) (a_above : Nat) (a_out : Nat) (a_first : Nat) (l1 : Int32) (c_t : Nat → Int32) (c_now : Nat → Int32) (sz : Nat) (res : (Nat → Int32)) (h : f_X6_change l1 c_t c_now = some res) : Met l yX6_change wsX6_change r_X6_change (cPre E [.ref a_t, .int l1] (W_X6_change E a_t a_now a_refused a_kept a_mind a_tape a_words a_wCell a_wFaces a_wTurns a_wSign a_wBy a_wFell a_telling a_holds a_sizes a_elements a_moved a_above a_out a_first c_t c_now) sz) (qV E (va_A (W_X6_change E a_t a_now a_refused a_kept a_mind a_tape a_words a_wCell a_wFaces a_wTurns a_wSign a_wBy a_wFell a_telling a_holds a_sizes a_elements a_moved a_above a_out a_first c_t c_now) sz) (W_X6_change E a_t a_now a_refused a_kept a_mind a_tape a_words a_wCell a_wFaces a_wTurns a_wSign a_wBy a_wFell a_telling a_holds a_sizes a_elements a_moved a_above a_out a_first c_t res)) 0 0 (va_A (W_X6_change E a_t a_now a_refused a_kept a_mind a_tape a_words a_wCell a_wFaces a_wTurns a_wSign a_wBy a_wFell a_telling a_holds a_sizes a_elements a_moved a_above a_out a_first c_t c_now) sz) :=
  met_of (Qc := fun A => qV E A (W_X6_change E a_t a_now a_refused a_kept a_mind a_tape a_words a_wCell a_wFaces a_wTurns a_wSign a_wBy a_wFell a_telling a_holds a_sizes a_elements a_moved a_above a_out a_first c_t res)) (by decide) rfl (Nat.le_of_ble_eq_true rfl) (fun p e s m args below meth c X hP hD hS ls hl => w_X6_change X a_t a_now a_refused a_kept a_mind a_tape a_words a_wCell a_wFaces a_wTurns a_wSign a_wBy a_wFell a_telling a_holds a_sizes a_elements a_moved a_above a_out a_first c_t res c_now l1 ls _ _ h hP hD hS hl)
-- ===== X6_swing
abbrev W_X6_swing (E : Env0) (a_t : Nat) (a_now : Nat) (a_refused : Nat) (a_kept : Nat) (a_mind : Nat) (a_tape : Nat) (a_words : Nat) (a_wCell : Nat) (a_wFaces : Nat) (a_wTurns : Nat) (a_wSign : Nat) (a_wBy : Nat) (a_wFell : Nat) (a_telling : Nat) (a_holds : Nat) (a_sizes : Nat) (a_elements : Nat) (a_moved : Nat) (a_above : Nat) (a_out : Nat) (a_first : Nat) (c_t : Nat → Int32) (c_now : Nat → Int32) (c_refused : Nat → Int32) : va_W := [(a_t, .inr (6, [.ref a_refused, .ref a_now, .ref a_kept, .ref a_mind, .int (c_t 4), .ref a_tape, .int (c_t 6), .int (c_t 7), .int (c_t 8), .int (c_t 9), .ref a_words, .ref a_wCell, .ref a_wFaces, .ref a_wTurns, .ref a_wSign, .ref a_wBy, .ref a_wFell, .int (c_t 17), .ref a_telling, .ref a_holds, .ref a_sizes, .ref a_elements, .ref a_moved, .ref a_above, .ref a_out, .ref a_first])), (a_now, .inl (eI E, 97, .inl c_now)), (a_refused, .inl (eI E, 7, .inl c_refused))]
abbrev r_X6_swing : Room := { frames := 3, cells := 0, slots := 0, locals := 65 }
theorem hd_X6_swing : yX6_swing.cls ≠ "java/lang/invoke/MethodHandle" ∧ yX6_swing.cls ≠ "java/lang/invoke/VarHandle" ∧ (parseMethodDescriptor yX6_swing.desc).map (fun d => d.parameters.length) = some 1 := by decide +kernel
theorem hV_X6_swing : yX6_swing.cls = RX6 ∧ yX6_swing.cls ≠ "java/lang/invoke/MethodHandle" ∧ yX6_swing.cls ≠ "java/lang/invoke/VarHandle" ∧ (parseMethodDescriptor yX6_swing.desc).map (fun d => d.parameters.length) = some 1 := ⟨rfl, hd_X6_swing⟩
section
variable {p : Program} {l : Launch} {e : Env} {s : State} {m : MethodId} {args : Array Value} {below : List Frame} {meth : Method} {c : Code} {E : Env0} {A : Nat → Prop}
set_option maxRecDepth 100000 in
set_option maxHeartbeats 4000000 in
theorem w_X6_swing (X : Ctx p m meth c cX6_swing 4 ((some .int)) s args wsX6_swing RX6 E A) (a_t : Nat) (a_now : Nat) (a_refused : Nat) (a_kept : Nat) (a_mind : Nat) (a_tape : Nat) (a_words : Nat) (a_wCell : Nat) (a_wFaces : Nat) (a_wTurns : Nat) (a_wSign : Nat) (a_wBy : Nat) (a_wFell : Nat) (a_telling : Nat) (a_holds : Nat) (a_sizes : Nat) (a_elements : Nat) (a_moved : Nat) (a_above : Nat) (a_out : Nat) (a_first : Nat) (c_t : Nat → Int32) (res : Int32 × (Nat → Int32) × (Nat → Int32)) (c_now : Nat → Int32) (c_refused : Nat → Int32) (l1 : Int32) (ls : Array Slot) (H : Heap) (locs : List Loc) (h : f_X6_swing l1 c_t c_now c_refused = some res) (hP : va_P E.1 vwCl (W_X6_swing E a_t a_now a_refused a_kept a_mind a_tape a_words a_wCell a_wFaces a_wTurns a_wSign a_wBy a_wFell a_telling a_holds a_sizes a_elements a_moved a_above a_out a_first c_t c_now c_refused) H) (hD : va_D A (W_X6_swing E a_t a_now a_refused a_kept a_mind a_tape a_words a_wCell a_wFaces a_wTurns a_wSign a_wBy a_wFell a_telling a_holds a_sizes a_elements a_moved a_above a_out a_first c_t c_now c_refused)) (hS : va_S A s.heap H locs) (hl : lv_has ls 4 [(0, .ref a_t), (1, .int l1)]) : W p l e r_X6_swing s m args below meth c H locs 0 0 (MQ below (qI E A (res.1) (W_X6_swing E a_t a_now a_refused a_kept a_mind a_tape a_words a_wCell a_wFaces a_wTurns a_wSign a_wBy a_wFell a_telling a_holds a_sizes a_elements a_moved a_above a_out a_first c_t (res.2.1) (res.2.2))) args s 0 0 A) (F0 m 0 ls []) := by
  obtain ⟨hx, hb, hml, hr, hlk, hown, hts, hG, hA⟩ := id X
  have hK := hG.1
  have hN := hG.2.1
  unfold f_X6_swing at h
  refine lv_aload_n hx hb dX6_swing_0 rfl (lv_at hl 0 rfl) ?_
  refine lv_iload_n hx hb dX6_swing_1 rfl (lv_at hl 1 rfl) ?_
  obtain ⟨v1, hv1, h⟩ := bind_of h
  refine after_i X (run_V X (c_X6_isPerson l E a_t a_now a_refused a_kept a_mind a_tape a_words a_wCell a_wFaces a_wTurns a_wSign a_wBy a_wFell a_telling a_holds a_sizes a_elements a_moved a_above a_out a_first l1 c_t c_now H.size v1 hv1) (cwV 1 hts gX6_swing_X6_isPerson rfl rfl rfl hV_X6_isPerson ⟨(Nat.le_of_ble_eq_true rfl), (Nat.le_of_ble_eq_true rfl)⟩) hP hD hS [0, 1] rfl rfl hl.1 (ci := 6) rfl rfl rfl (rest := []) rfl rfl (Nat.le_of_ble_eq_true rfl) dX6_swing_2) hP hD hS [0, 1] [2] [1, 2, 0] rfl rfl rfl (by decide) rfl (ws1 := (W_X6_swing E a_t a_now a_refused a_kept a_mind a_tape a_words a_wCell a_wFaces a_wTurns a_wSign a_wBy a_wFell a_telling a_holds a_sizes a_elements a_moved a_above a_out a_first c_t c_now c_refused)) rfl (fun H locs hP hD hS => ?_)
  refine lv_if_ne (tgt := 15) hx hb dX6_swing_5 (by decide) (fun hc5 => ?_) (fun hc5 => ?_)
  · have h := if_f h hc5
    refine lv_aload_n hx hb dX6_swing_15 rfl (lv_at hl 0 rfl) ?_
    obtain ⟨v2, hv2, h⟩ := bind_of h
    refine after_i X (run_V X (c_X6_carries l E a_t a_now a_refused a_kept a_mind a_tape a_words a_wCell a_wFaces a_wTurns a_wSign a_wBy a_wFell a_telling a_holds a_sizes a_elements a_moved a_above a_out a_first c_t c_now H.size v2 hv2) (cwV 0 hts gX6_swing_X6_carries rfl rfl rfl hV_X6_carries ⟨(Nat.le_of_ble_eq_true rfl), (Nat.le_of_ble_eq_true rfl)⟩) hP hD hS [0, 1] rfl rfl hl.1 (ci := 6) rfl rfl rfl (rest := []) rfl rfl (Nat.le_of_ble_eq_true rfl) dX6_swing_16) hP hD hS [0, 1] [2] [1, 2, 0] rfl rfl rfl (by decide) rfl (ws1 := (W_X6_swing E a_t a_now a_refused a_kept a_mind a_tape a_words a_wCell a_wFaces a_wTurns a_wSign a_wBy a_wFell a_telling a_holds a_sizes a_elements a_moved a_above a_out a_first c_t c_now c_refused)) rfl (fun H locs hP hD hS => ?_)
    refine lv_istore_n (lv' := [(2, .int v2), (0, .ref a_t), (1, .int l1)]) hx hb dX6_swing_19 rfl hl (by decide) rfl (fun ls hl => ?_)
    refine lv_aload_n hx hb dX6_swing_20 rfl (lv_at hl 1 rfl) ?_
    refine lv_iconst (v := (1 : Int32)) hx hb dX6_swing_21 (by decide) ?_
    refine lv_iload_n hx hb dX6_swing_22 rfl (lv_at hl 2 rfl) ?_
    refine lv_ishl hx hb dX6_swing_23 ?_
    obtain ⟨v3, hv3, h⟩ := bind_of h
    refine after_v X (run_V X (c_X6_change l E a_t a_now a_refused a_kept a_mind a_tape a_words a_wCell a_wFaces a_wTurns a_wSign a_wBy a_wFell a_telling a_holds a_sizes a_elements a_moved a_above a_out a_first ((1 : Int32) <<< (l1 &&& 31)) c_t c_now H.size v3 hv3) (cwV 1 hts gX6_swing_X6_change rfl rfl rfl hV_X6_change ⟨(Nat.le_of_ble_eq_true rfl), (Nat.le_of_ble_eq_true rfl)⟩) hP hD hS [0, 1] rfl rfl hl.1 (ci := 6) rfl rfl rfl (rest := []) rfl rfl (Nat.le_of_ble_eq_true rfl) dX6_swing_24) hP hD hS [0, 1] [2] [1, 2, 0] rfl rfl rfl (by decide) rfl (ws1 := (W_X6_swing E a_t a_now a_refused a_kept a_mind a_tape a_words a_wCell a_wFaces a_wTurns a_wSign a_wBy a_wFell a_telling a_holds a_sizes a_elements a_moved a_above a_out a_first c_t v3 c_refused)) rfl (fun H locs hP hD hS => ?_)
    refine lv_aload_n hx hb dX6_swing_27 rfl (lv_at hl 1 rfl) ?_
    obtain ⟨v4, hv4, h⟩ := bind_of h
    refine after_i X (run_V X (c_X6_carries l E a_t a_now a_refused a_kept a_mind a_tape a_words a_wCell a_wFaces a_wTurns a_wSign a_wBy a_wFell a_telling a_holds a_sizes a_elements a_moved a_above a_out a_first c_t v3 H.size v4 hv4) (cwV 0 hts gX6_swing_X6_carries rfl rfl rfl hV_X6_carries ⟨(Nat.le_of_ble_eq_true rfl), (Nat.le_of_ble_eq_true rfl)⟩) hP hD hS [0, 1] rfl rfl hl.1 (ci := 6) rfl rfl rfl (rest := []) rfl rfl (Nat.le_of_ble_eq_true rfl) dX6_swing_28) hP hD hS [0, 1] [2] [1, 2, 0] rfl rfl rfl (by decide) rfl (ws1 := (W_X6_swing E a_t a_now a_refused a_kept a_mind a_tape a_words a_wCell a_wFaces a_wTurns a_wSign a_wBy a_wFell a_telling a_holds a_sizes a_elements a_moved a_above a_out a_first c_t v3 c_refused)) rfl (fun H locs hP hD hS => ?_)
    refine lv_istore_n (lv' := [(3, .int v4), (2, .int v2), (0, .ref a_t), (1, .int l1)]) hx hb dX6_swing_31 rfl hl (by decide) rfl (fun ls hl => ?_)
    refine lv_aload_n hx hb dX6_swing_32 rfl (lv_at hl 2 rfl) ?_
    refine lv_iconst (v := (1 : Int32)) hx hb dX6_swing_33 (by decide) ?_
    refine lv_iload_n hx hb dX6_swing_34 rfl (lv_at hl 3 rfl) ?_
    refine lv_ishl hx hb dX6_swing_35 ?_
    obtain ⟨v5, hv5, h⟩ := bind_of h
    refine after_v X (run_V X (c_X6_change l E a_t a_now a_refused a_kept a_mind a_tape a_words a_wCell a_wFaces a_wTurns a_wSign a_wBy a_wFell a_telling a_holds a_sizes a_elements a_moved a_above a_out a_first ((1 : Int32) <<< (l1 &&& 31)) c_t v3 H.size v5 hv5) (cwV 1 hts gX6_swing_X6_change rfl rfl rfl hV_X6_change ⟨(Nat.le_of_ble_eq_true rfl), (Nat.le_of_ble_eq_true rfl)⟩) hP hD hS [0, 1] rfl rfl hl.1 (ci := 6) rfl rfl rfl (rest := []) rfl rfl (Nat.le_of_ble_eq_true rfl) dX6_swing_36) hP hD hS [0, 1] [2] [1, 2, 0] rfl rfl rfl (by decide) rfl (ws1 := (W_X6_swing E a_t a_now a_refused a_kept a_mind a_tape a_words a_wCell a_wFaces a_wTurns a_wSign a_wBy a_wFell a_telling a_holds a_sizes a_elements a_moved a_above a_out a_first c_t v5 c_refused)) rfl (fun H locs hP hD hS => ?_)
    refine lv_iload_n hx hb dX6_swing_39 rfl (lv_at hl 1 rfl) ?_
    refine lv_iload_n hx hb dX6_swing_40 rfl (lv_at hl 0 rfl) ?_
    refine lv_icmp_ne (tgt := 48) hx hb dX6_swing_41 (by decide) (fun hc41 => ?_) (fun hc41 => ?_)
    · have h := if_f h hc41
      refine lv_iconst (v := (1 : Int32)) hx hb dX6_swing_48 (by decide) ?_
      obtain rfl := Option.some.inj h
      exact ret_i X dX6_swing_49 hP hD hS rfl
    · have h := if_t h hc41
      refine lv_iconst (v := (0 : Int32)) hx hb dX6_swing_44 (by decide) ?_
      refine lv_goto (tgt := 49) hx hb dX6_swing_45 (by decide) ?_
      obtain rfl := Option.some.inj h
      exact ret_i X dX6_swing_49 hP hD hS rfl
  · have h := if_t h hc5
    refine lv_aload_n hx hb dX6_swing_8 rfl (lv_at hl 0 rfl) ?_
    refine lv_bipush (v := (-2 : Int32)) hx hb dX6_swing_9 (by decide) ?_
    obtain ⟨v6, hv6, h⟩ := bind_of h
    refine after_i X (run_V X (c_X6_refuse l E a_t a_refused a_now a_kept a_mind a_tape a_words a_wCell a_wFaces a_wTurns a_wSign a_wBy a_wFell a_telling a_holds a_sizes a_elements a_moved a_above a_out a_first (-2 : Int32) c_t c_refused H.size v6 hv6) (cwV 1 hts gX6_swing_X6_refuse rfl rfl rfl hV_X6_refuse ⟨(Nat.le_of_ble_eq_true rfl), (Nat.le_of_ble_eq_true rfl)⟩) hP hD hS [0, 2] rfl rfl hl.1 (ci := 6) rfl rfl rfl (rest := []) rfl rfl (Nat.le_of_ble_eq_true rfl) dX6_swing_11) hP hD hS [0, 2] [1] [1, 0, 2] rfl rfl rfl (by decide) rfl (ws1 := (W_X6_swing E a_t a_now a_refused a_kept a_mind a_tape a_words a_wCell a_wFaces a_wTurns a_wSign a_wBy a_wFell a_telling a_holds a_sizes a_elements a_moved a_above a_out a_first c_t c_now (v6.2))) rfl (fun H locs hP hD hS => ?_)
    obtain rfl := Option.some.inj h
    exact ret_i X dX6_swing_14 hP hD hS rfl
end
set_option maxRecDepth 100000 in
theorem c_X6_swing (l : Launch) (E : Env0) (a_t : Nat) (a_now : Nat) (a_refused : Nat) (a_kept : Nat) (a_mind : Nat) (a_tape : Nat) (a_words : Nat) (a_wCell : Nat) (a_wFaces : Nat) (a_wTurns : Nat) (a_wSign : Nat) (a_wBy : Nat) (a_wFell : Nat) (a_telling : Nat) (a_holds : Nat) (a_sizes : Nat) (a_elements : Nat) (a_moved : Nat) (a_above : Nat) (a_out : Nat) (a_first : Nat) (l1 : Int32) (c_t : Nat → Int32) (c_now : Nat → Int32) (c_refused : Nat → Int32) (sz : Nat) (res : Int32 × (Nat → Int32) × (Nat → Int32)) (h : f_X6_swing l1 c_t c_now c_refused = some res) : Met l yX6_swing wsX6_swing r_X6_swing (cPre E [.ref a_t, .int l1] (W_X6_swing E a_t a_now a_refused a_kept a_mind a_tape a_words a_wCell a_wFaces a_wTurns a_wSign a_wBy a_wFell a_telling a_holds a_sizes a_elements a_moved a_above a_out a_first c_t c_now c_refused) sz) (qI E (va_A (W_X6_swing E a_t a_now a_refused a_kept a_mind a_tape a_words a_wCell a_wFaces a_wTurns a_wSign a_wBy a_wFell a_telling a_holds a_sizes a_elements a_moved a_above a_out a_first c_t c_now c_refused) sz) (res.1) (W_X6_swing E a_t a_now a_refused a_kept a_mind a_tape a_words a_wCell a_wFaces a_wTurns a_wSign a_wBy a_wFell a_telling a_holds a_sizes a_elements a_moved a_above a_out a_first c_t (res.2.1) (res.2.2))) 0 0 (va_A (W_X6_swing E a_t a_now a_refused a_kept a_mind a_tape a_words a_wCell a_wFaces a_wTurns a_wSign a_wBy a_wFell a_telling a_holds a_sizes a_elements a_moved a_above a_out a_first c_t c_now c_refused) sz) :=
  met_of (Qc := fun A => qI E A (res.1) (W_X6_swing E a_t a_now a_refused a_kept a_mind a_tape a_words a_wCell a_wFaces a_wTurns a_wSign a_wBy a_wFell a_telling a_holds a_sizes a_elements a_moved a_above a_out a_first c_t (res.2.1) (res.2.2))) (by decide) rfl (Nat.le_of_ble_eq_true rfl) (fun p e s m args below meth c X hP hD hS ls hl => w_X6_swing X a_t a_now a_refused a_kept a_mind a_tape a_words a_wCell a_wFaces a_wTurns a_wSign a_wBy a_wFell a_telling a_holds a_sizes a_elements a_moved a_above a_out a_first c_t res c_now c_refused l1 ls _ _ h hP hD hS hl)
-- ===== X6_ones
abbrev W_X6_ones (E : Env0) : va_W := []
abbrev r_X6_ones : Room := { frames := 0, cells := 0, slots := 0, locals := 0 }
theorem hd_X6_ones : yX6_ones.cls ≠ "java/lang/invoke/MethodHandle" ∧ yX6_ones.cls ≠ "java/lang/invoke/VarHandle" ∧ (parseMethodDescriptor yX6_ones.desc).map (fun d => d.parameters.length) = some 1 := by decide +kernel
section
variable {p : Program} {l : Launch} {e : Env} {s : State} {m : MethodId} {args : Array Value} {below : List Frame} {meth : Method} {c : Code} {E : Env0} {A : Nat → Prop}
set_option maxRecDepth 100000 in
set_option maxHeartbeats 4000000 in
theorem w_X6_ones_b4 (X : Ctx p m meth c cX6_ones 3 ((some .int)) s args wsX6_ones RX6 E A) (res : Int32) : ∀ (n : Nat) (l0 : Int32) (l1 : Int32) (l2 : Int32) (ls : Array Slot) (H : Heap) (locs : List Loc), f_X6_ones_b4 n l0 l1 l2 = some res → va_P E.1 vwCl (W_X6_ones E) H → va_D A (W_X6_ones E) → va_S A s.heap H locs → lv_has ls 3 [(0, .int l0), (1, .int l1), (2, .int l2)] → W p l e r_X6_ones s m args below meth c H locs 0 0 (MQ below (qI E A res (W_X6_ones E)) args s 0 0 A) (F0 m 4 ls []) := by
  obtain ⟨hx, hb, hml, hr, hlk, hown, hts, hG, hA⟩ := id X
  have hK := hG.1
  have hN := hG.2.1
  intro n
  induction n with
  | zero =>
    intro l0 l1 l2 ls H locs h
    exact absurd (show (none : Option (Int32)) = some res from h) (by intro q; cases q)
  | succ n ih =>
    intro l0 l1 l2 ls H locs h hP hD hS hl
    rw [f_X6_ones_b4] at h
    refine lv_iload_n hx hb dX6_ones_4 rfl (lv_at hl 2 rfl) ?_
    refine lv_bipush (v := (8 : Int32)) hx hb dX6_ones_5 (by decide) ?_
    refine lv_icmp_ge (tgt := 24) hx hb dX6_ones_7 (by decide) (fun hc7 => ?_) (fun hc7 => ?_)
    · have h := if_t h hc7
      refine lv_iload_n hx hb dX6_ones_24 rfl (lv_at hl 1 rfl) ?_
      obtain rfl := Option.some.inj h
      exact ret_i X dX6_ones_25 hP hD hS rfl
    · have h := if_f h hc7
      refine lv_iload_n hx hb dX6_ones_10 rfl (lv_at hl 1 rfl) ?_
      refine lv_iload_n hx hb dX6_ones_11 rfl (lv_at hl 0 rfl) ?_
      refine lv_iload_n hx hb dX6_ones_12 rfl (lv_at hl 2 rfl) ?_
      refine lv_ishr hx hb dX6_ones_13 ?_
      refine lv_iconst (v := (1 : Int32)) hx hb dX6_ones_14 (by decide) ?_
      refine lv_iand hx hb dX6_ones_15 ?_
      refine lv_iadd hx hb dX6_ones_16 ?_
      refine lv_istore_n (lv' := [(1, .int (l1 + ((l0 >>> (l2 &&& 31)) &&& (1 : Int32)))), (0, .int l0), (2, .int l2)]) hx hb dX6_ones_17 rfl hl (by decide) rfl (fun ls hl => ?_)
      refine lv_iinc (v := (l2 + (1 : Int32))) (lv' := [(2, .int (l2 + (1 : Int32))), (1, .int (l1 + ((l0 >>> (l2 &&& 31)) &&& (1 : Int32)))), (0, .int l0)]) hx hb dX6_ones_18 hl (k := 2) rfl rfl (by decide) rfl (fun ls hl => ?_)
      refine lv_goto (tgt := 4) hx hb dX6_ones_21 (by decide) ?_
      exact ih l0 (l1 + ((l0 >>> (l2 &&& 31)) &&& (1 : Int32))) (l2 + (1 : Int32)) _ _ _ h hP hD hS (lv_sub hl [2, 1, 0] rfl)
set_option maxRecDepth 100000 in
set_option maxHeartbeats 4000000 in
theorem w_X6_ones (X : Ctx p m meth c cX6_ones 3 ((some .int)) s args wsX6_ones RX6 E A) (res : Int32) (l0 : Int32) (ls : Array Slot) (H : Heap) (locs : List Loc) (h : f_X6_ones l0 = some res) (hP : va_P E.1 vwCl (W_X6_ones E) H) (hD : va_D A (W_X6_ones E)) (hS : va_S A s.heap H locs) (hl : lv_has ls 3 [(0, .int l0)]) : W p l e r_X6_ones s m args below meth c H locs 0 0 (MQ below (qI E A res (W_X6_ones E)) args s 0 0 A) (F0 m 0 ls []) := by
  obtain ⟨hx, hb, hml, hr, hlk, hown, hts, hG, hA⟩ := id X
  have hK := hG.1
  have hN := hG.2.1
  unfold f_X6_ones at h
  refine lv_iconst (v := (0 : Int32)) hx hb dX6_ones_0 (by decide) ?_
  refine lv_istore_n (lv' := [(1, .int (0 : Int32)), (0, .int l0)]) hx hb dX6_ones_1 rfl hl (by decide) rfl (fun ls hl => ?_)
  refine lv_iconst (v := (0 : Int32)) hx hb dX6_ones_2 (by decide) ?_
  refine lv_istore_n (lv' := [(2, .int (0 : Int32)), (1, .int (0 : Int32)), (0, .int l0)]) hx hb dX6_ones_3 rfl hl (by decide) rfl (fun ls hl => ?_)
  exact w_X6_ones_b4 X res FU l0 (0 : Int32) (0 : Int32) _ _ _ h hP hD hS (lv_sub hl [2, 1, 0] rfl)
end
set_option maxRecDepth 100000 in
theorem c_X6_ones (l : Launch) (E : Env0) (l0 : Int32) (sz : Nat) (res : Int32) (h : f_X6_ones l0 = some res) : Met l yX6_ones wsX6_ones r_X6_ones (cPre E [.int l0] (W_X6_ones E) sz) (qI E (va_A (W_X6_ones E) sz) res (W_X6_ones E)) 0 0 (va_A (W_X6_ones E) sz) :=
  met_of (Qc := fun A => qI E A res (W_X6_ones E)) (by decide) rfl (Nat.le_of_ble_eq_true rfl) (fun p e s m args below meth c X hP hD hS ls hl => w_X6_ones X res l0 ls _ _ h hP hD hS hl)
-- ===== X6_turn
abbrev W_X6_turn (E : Env0) (a_t : Nat) (a_now : Nat) (a_refused : Nat) (a_kept : Nat) (a_mind : Nat) (a_tape : Nat) (a_words : Nat) (a_wCell : Nat) (a_wFaces : Nat) (a_wTurns : Nat) (a_wSign : Nat) (a_wBy : Nat) (a_wFell : Nat) (a_telling : Nat) (a_holds : Nat) (a_sizes : Nat) (a_elements : Nat) (a_moved : Nat) (a_above : Nat) (a_out : Nat) (a_first : Nat) (c_t : Nat → Int32) (c_now : Nat → Int32) (c_refused : Nat → Int32) : va_W := [(a_t, .inr (6, [.ref a_refused, .ref a_now, .ref a_kept, .ref a_mind, .int (c_t 4), .ref a_tape, .int (c_t 6), .int (c_t 7), .int (c_t 8), .int (c_t 9), .ref a_words, .ref a_wCell, .ref a_wFaces, .ref a_wTurns, .ref a_wSign, .ref a_wBy, .ref a_wFell, .int (c_t 17), .ref a_telling, .ref a_holds, .ref a_sizes, .ref a_elements, .ref a_moved, .ref a_above, .ref a_out, .ref a_first])), (a_now, .inl (eI E, 97, .inl c_now)), (a_refused, .inl (eI E, 7, .inl c_refused))]
abbrev r_X6_turn : Room := { frames := 3, cells := 0, slots := 0, locals := 65 }
theorem hd_X6_turn : yX6_turn.cls ≠ "java/lang/invoke/MethodHandle" ∧ yX6_turn.cls ≠ "java/lang/invoke/VarHandle" ∧ (parseMethodDescriptor yX6_turn.desc).map (fun d => d.parameters.length) = some 1 := by decide +kernel
theorem hV_X6_turn : yX6_turn.cls = RX6 ∧ yX6_turn.cls ≠ "java/lang/invoke/MethodHandle" ∧ yX6_turn.cls ≠ "java/lang/invoke/VarHandle" ∧ (parseMethodDescriptor yX6_turn.desc).map (fun d => d.parameters.length) = some 1 := ⟨rfl, hd_X6_turn⟩
section
variable {p : Program} {l : Launch} {e : Env} {s : State} {m : MethodId} {args : Array Value} {below : List Frame} {meth : Method} {c : Code} {E : Env0} {A : Nat → Prop}
set_option maxRecDepth 100000 in
set_option maxHeartbeats 4000000 in
theorem w_X6_turn_b93 (X : Ctx p m meth c cX6_turn 6 ((some .int)) s args wsX6_turn RX6 E A) (a_t : Nat) (a_now : Nat) (a_refused : Nat) (a_kept : Nat) (a_mind : Nat) (a_tape : Nat) (a_words : Nat) (a_wCell : Nat) (a_wFaces : Nat) (a_wTurns : Nat) (a_wSign : Nat) (a_wBy : Nat) (a_wFell : Nat) (a_telling : Nat) (a_holds : Nat) (a_sizes : Nat) (a_elements : Nat) (a_moved : Nat) (a_above : Nat) (a_out : Nat) (a_first : Nat) (c_t : Nat → Int32) (res : Int32 × (Nat → Int32) × (Nat → Int32)) (k27 : (Nat → Int32) → (Nat → Int32) → Int32 → Int32 → Int32 → Int32 → Option (Int32 × (Nat → Int32) × (Nat → Int32))) (hk27 : ∀ (c_now : Nat → Int32) (c_refused : Nat → Int32) (l1 : Int32) (l2 : Int32) (l3 : Int32) (l4 : Int32) (ls : Array Slot) (H : Heap) (locs : List Loc), k27 c_now c_refused l1 l2 l3 l4 = some res → va_P E.1 vwCl (W_X6_turn E a_t a_now a_refused a_kept a_mind a_tape a_words a_wCell a_wFaces a_wTurns a_wSign a_wBy a_wFell a_telling a_holds a_sizes a_elements a_moved a_above a_out a_first c_t c_now c_refused) H → va_D A (W_X6_turn E a_t a_now a_refused a_kept a_mind a_tape a_words a_wCell a_wFaces a_wTurns a_wSign a_wBy a_wFell a_telling a_holds a_sizes a_elements a_moved a_above a_out a_first c_t c_now c_refused) → va_S A s.heap H locs → lv_has ls 6 [(0, .ref a_t), (1, .int l1), (2, .int l2), (3, .int l3), (4, .int l4)] → W p l e r_X6_turn s m args below meth c H locs 0 0 (MQ below (qI E A (res.1) (W_X6_turn E a_t a_now a_refused a_kept a_mind a_tape a_words a_wCell a_wFaces a_wTurns a_wSign a_wBy a_wFell a_telling a_holds a_sizes a_elements a_moved a_above a_out a_first c_t (res.2.1) (res.2.2))) args s 0 0 A) (F0 m 27 ls [])) (c_now : Nat → Int32) (c_refused : Nat → Int32) (l1 : Int32) (l2 : Int32) (l4 : Int32) (s0 : Int32) (ls : Array Slot) (H : Heap) (locs : List Loc) (h : f_X6_turn_b93 c_t k27 c_now c_refused l1 l2 l4 s0 = some res) (hP : va_P E.1 vwCl (W_X6_turn E a_t a_now a_refused a_kept a_mind a_tape a_words a_wCell a_wFaces a_wTurns a_wSign a_wBy a_wFell a_telling a_holds a_sizes a_elements a_moved a_above a_out a_first c_t c_now c_refused) H) (hD : va_D A (W_X6_turn E a_t a_now a_refused a_kept a_mind a_tape a_words a_wCell a_wFaces a_wTurns a_wSign a_wBy a_wFell a_telling a_holds a_sizes a_elements a_moved a_above a_out a_first c_t c_now c_refused)) (hS : va_S A s.heap H locs) (hl : lv_has ls 6 [(0, .ref a_t), (1, .int l1), (2, .int l2), (4, .int l4)]) : W p l e r_X6_turn s m args below meth c H locs 0 0 (MQ below (qI E A (res.1) (W_X6_turn E a_t a_now a_refused a_kept a_mind a_tape a_words a_wCell a_wFaces a_wTurns a_wSign a_wBy a_wFell a_telling a_holds a_sizes a_elements a_moved a_above a_out a_first c_t (res.2.1) (res.2.2))) args s 0 0 A) (F0 m 93 ls [.int s0]) := by
  obtain ⟨hx, hb, hml, hr, hlk, hown, hts, hG, hA⟩ := id X
  have hK := hG.1
  have hN := hG.2.1
  unfold f_X6_turn_b93 at h
  refine lv_istore_n (lv' := [(3, .int s0), (0, .ref a_t), (1, .int l1), (2, .int l2), (4, .int l4)]) hx hb dX6_turn_93 rfl hl (by decide) rfl (fun ls hl => ?_)
  refine lv_iinc (v := (l4 + (1 : Int32))) (lv' := [(4, .int (l4 + (1 : Int32))), (3, .int s0), (0, .ref a_t), (1, .int l1), (2, .int l2)]) hx hb dX6_turn_94 hl (k := 4) rfl rfl (by decide) rfl (fun ls hl => ?_)
  refine lv_goto (tgt := 27) hx hb dX6_turn_97 (by decide) ?_
  exact hk27 c_now c_refused l1 l2 s0 (l4 + (1 : Int32)) _ _ _ h hP hD hS (lv_sub hl [2, 3, 4, 1, 0] rfl)
set_option maxRecDepth 100000 in
set_option maxHeartbeats 4000000 in
theorem w_X6_turn_b87 (X : Ctx p m meth c cX6_turn 6 ((some .int)) s args wsX6_turn RX6 E A) (a_t : Nat) (a_now : Nat) (a_refused : Nat) (a_kept : Nat) (a_mind : Nat) (a_tape : Nat) (a_words : Nat) (a_wCell : Nat) (a_wFaces : Nat) (a_wTurns : Nat) (a_wSign : Nat) (a_wBy : Nat) (a_wFell : Nat) (a_telling : Nat) (a_holds : Nat) (a_sizes : Nat) (a_elements : Nat) (a_moved : Nat) (a_above : Nat) (a_out : Nat) (a_first : Nat) (c_t : Nat → Int32) (res : Int32 × (Nat → Int32) × (Nat → Int32)) (k27 : (Nat → Int32) → (Nat → Int32) → Int32 → Int32 → Int32 → Int32 → Option (Int32 × (Nat → Int32) × (Nat → Int32))) (hk27 : ∀ (c_now : Nat → Int32) (c_refused : Nat → Int32) (l1 : Int32) (l2 : Int32) (l3 : Int32) (l4 : Int32) (ls : Array Slot) (H : Heap) (locs : List Loc), k27 c_now c_refused l1 l2 l3 l4 = some res → va_P E.1 vwCl (W_X6_turn E a_t a_now a_refused a_kept a_mind a_tape a_words a_wCell a_wFaces a_wTurns a_wSign a_wBy a_wFell a_telling a_holds a_sizes a_elements a_moved a_above a_out a_first c_t c_now c_refused) H → va_D A (W_X6_turn E a_t a_now a_refused a_kept a_mind a_tape a_words a_wCell a_wFaces a_wTurns a_wSign a_wBy a_wFell a_telling a_holds a_sizes a_elements a_moved a_above a_out a_first c_t c_now c_refused) → va_S A s.heap H locs → lv_has ls 6 [(0, .ref a_t), (1, .int l1), (2, .int l2), (3, .int l3), (4, .int l4)] → W p l e r_X6_turn s m args below meth c H locs 0 0 (MQ below (qI E A (res.1) (W_X6_turn E a_t a_now a_refused a_kept a_mind a_tape a_words a_wCell a_wFaces a_wTurns a_wSign a_wBy a_wFell a_telling a_holds a_sizes a_elements a_moved a_above a_out a_first c_t (res.2.1) (res.2.2))) args s 0 0 A) (F0 m 27 ls [])) (c_now : Nat → Int32) (c_refused : Nat → Int32) (l1 : Int32) (l2 : Int32) (l4 : Int32) (ls : Array Slot) (H : Heap) (locs : List Loc) (h : f_X6_turn_b87 c_t k27 c_now c_refused l1 l2 l4 = some res) (hP : va_P E.1 vwCl (W_X6_turn E a_t a_now a_refused a_kept a_mind a_tape a_words a_wCell a_wFaces a_wTurns a_wSign a_wBy a_wFell a_telling a_holds a_sizes a_elements a_moved a_above a_out a_first c_t c_now c_refused) H) (hD : va_D A (W_X6_turn E a_t a_now a_refused a_kept a_mind a_tape a_words a_wCell a_wFaces a_wTurns a_wSign a_wBy a_wFell a_telling a_holds a_sizes a_elements a_moved a_above a_out a_first c_t c_now c_refused)) (hS : va_S A s.heap H locs) (hl : lv_has ls 6 [(0, .ref a_t), (1, .int l1), (2, .int l2), (4, .int l4)]) : W p l e r_X6_turn s m args below meth c H locs 0 0 (MQ below (qI E A (res.1) (W_X6_turn E a_t a_now a_refused a_kept a_mind a_tape a_words a_wCell a_wFaces a_wTurns a_wSign a_wBy a_wFell a_telling a_holds a_sizes a_elements a_moved a_above a_out a_first c_t (res.2.1) (res.2.2))) args s 0 0 A) (F0 m 87 ls []) := by
  obtain ⟨hx, hb, hml, hr, hlk, hown, hts, hG, hA⟩ := id X
  have hK := hG.1
  have hN := hG.2.1
  unfold f_X6_turn_b87 at h
  refine lv_iload hx hb dX6_turn_87 (lv_at hl 3 rfl) ?_
  refine lv_goto (tgt := 93) hx hb dX6_turn_89 (by decide) ?_
  exact w_X6_turn_b93 X a_t a_now a_refused a_kept a_mind a_tape a_words a_wCell a_wFaces a_wTurns a_wSign a_wBy a_wFell a_telling a_holds a_sizes a_elements a_moved a_above a_out a_first c_t res k27 hk27 c_now c_refused l1 l2 l4 l4 _ _ _ h hP hD hS (lv_sub hl [0, 1, 2, 3] rfl)
set_option maxRecDepth 100000 in
set_option maxHeartbeats 4000000 in
theorem w_X6_turn_b92 (X : Ctx p m meth c cX6_turn 6 ((some .int)) s args wsX6_turn RX6 E A) (a_t : Nat) (a_now : Nat) (a_refused : Nat) (a_kept : Nat) (a_mind : Nat) (a_tape : Nat) (a_words : Nat) (a_wCell : Nat) (a_wFaces : Nat) (a_wTurns : Nat) (a_wSign : Nat) (a_wBy : Nat) (a_wFell : Nat) (a_telling : Nat) (a_holds : Nat) (a_sizes : Nat) (a_elements : Nat) (a_moved : Nat) (a_above : Nat) (a_out : Nat) (a_first : Nat) (c_t : Nat → Int32) (res : Int32 × (Nat → Int32) × (Nat → Int32)) (k27 : (Nat → Int32) → (Nat → Int32) → Int32 → Int32 → Int32 → Int32 → Option (Int32 × (Nat → Int32) × (Nat → Int32))) (hk27 : ∀ (c_now : Nat → Int32) (c_refused : Nat → Int32) (l1 : Int32) (l2 : Int32) (l3 : Int32) (l4 : Int32) (ls : Array Slot) (H : Heap) (locs : List Loc), k27 c_now c_refused l1 l2 l3 l4 = some res → va_P E.1 vwCl (W_X6_turn E a_t a_now a_refused a_kept a_mind a_tape a_words a_wCell a_wFaces a_wTurns a_wSign a_wBy a_wFell a_telling a_holds a_sizes a_elements a_moved a_above a_out a_first c_t c_now c_refused) H → va_D A (W_X6_turn E a_t a_now a_refused a_kept a_mind a_tape a_words a_wCell a_wFaces a_wTurns a_wSign a_wBy a_wFell a_telling a_holds a_sizes a_elements a_moved a_above a_out a_first c_t c_now c_refused) → va_S A s.heap H locs → lv_has ls 6 [(0, .ref a_t), (1, .int l1), (2, .int l2), (3, .int l3), (4, .int l4)] → W p l e r_X6_turn s m args below meth c H locs 0 0 (MQ below (qI E A (res.1) (W_X6_turn E a_t a_now a_refused a_kept a_mind a_tape a_words a_wCell a_wFaces a_wTurns a_wSign a_wBy a_wFell a_telling a_holds a_sizes a_elements a_moved a_above a_out a_first c_t (res.2.1) (res.2.2))) args s 0 0 A) (F0 m 27 ls [])) (c_now : Nat → Int32) (c_refused : Nat → Int32) (l1 : Int32) (l2 : Int32) (l3 : Int32) (l4 : Int32) (ls : Array Slot) (H : Heap) (locs : List Loc) (h : f_X6_turn_b92 c_t k27 c_now c_refused l1 l2 l3 l4 = some res) (hP : va_P E.1 vwCl (W_X6_turn E a_t a_now a_refused a_kept a_mind a_tape a_words a_wCell a_wFaces a_wTurns a_wSign a_wBy a_wFell a_telling a_holds a_sizes a_elements a_moved a_above a_out a_first c_t c_now c_refused) H) (hD : va_D A (W_X6_turn E a_t a_now a_refused a_kept a_mind a_tape a_words a_wCell a_wFaces a_wTurns a_wSign a_wBy a_wFell a_telling a_holds a_sizes a_elements a_moved a_above a_out a_first c_t c_now c_refused)) (hS : va_S A s.heap H locs) (hl : lv_has ls 6 [(0, .ref a_t), (1, .int l1), (2, .int l2), (3, .int l3), (4, .int l4)]) : W p l e r_X6_turn s m args below meth c H locs 0 0 (MQ below (qI E A (res.1) (W_X6_turn E a_t a_now a_refused a_kept a_mind a_tape a_words a_wCell a_wFaces a_wTurns a_wSign a_wBy a_wFell a_telling a_holds a_sizes a_elements a_moved a_above a_out a_first c_t (res.2.1) (res.2.2))) args s 0 0 A) (F0 m 92 ls []) := by
  obtain ⟨hx, hb, hml, hr, hlk, hown, hts, hG, hA⟩ := id X
  have hK := hG.1
  have hN := hG.2.1
  unfold f_X6_turn_b92 at h
  refine lv_iload_n hx hb dX6_turn_92 rfl (lv_at hl 3 rfl) ?_
  exact w_X6_turn_b93 X a_t a_now a_refused a_kept a_mind a_tape a_words a_wCell a_wFaces a_wTurns a_wSign a_wBy a_wFell a_telling a_holds a_sizes a_elements a_moved a_above a_out a_first c_t res k27 hk27 c_now c_refused l1 l2 l4 l3 _ _ _ h hP hD hS (lv_sub hl [0, 1, 2, 4] rfl)
set_option maxRecDepth 100000 in
set_option maxHeartbeats 4000000 in
theorem w_X6_turn_b57 (X : Ctx p m meth c cX6_turn 6 ((some .int)) s args wsX6_turn RX6 E A) (a_t : Nat) (a_now : Nat) (a_refused : Nat) (a_kept : Nat) (a_mind : Nat) (a_tape : Nat) (a_words : Nat) (a_wCell : Nat) (a_wFaces : Nat) (a_wTurns : Nat) (a_wSign : Nat) (a_wBy : Nat) (a_wFell : Nat) (a_telling : Nat) (a_holds : Nat) (a_sizes : Nat) (a_elements : Nat) (a_moved : Nat) (a_above : Nat) (a_out : Nat) (a_first : Nat) (c_t : Nat → Int32) (res : Int32 × (Nat → Int32) × (Nat → Int32)) (k27 : (Nat → Int32) → (Nat → Int32) → Int32 → Int32 → Int32 → Int32 → Option (Int32 × (Nat → Int32) × (Nat → Int32))) (hk27 : ∀ (c_now : Nat → Int32) (c_refused : Nat → Int32) (l1 : Int32) (l2 : Int32) (l3 : Int32) (l4 : Int32) (ls : Array Slot) (H : Heap) (locs : List Loc), k27 c_now c_refused l1 l2 l3 l4 = some res → va_P E.1 vwCl (W_X6_turn E a_t a_now a_refused a_kept a_mind a_tape a_words a_wCell a_wFaces a_wTurns a_wSign a_wBy a_wFell a_telling a_holds a_sizes a_elements a_moved a_above a_out a_first c_t c_now c_refused) H → va_D A (W_X6_turn E a_t a_now a_refused a_kept a_mind a_tape a_words a_wCell a_wFaces a_wTurns a_wSign a_wBy a_wFell a_telling a_holds a_sizes a_elements a_moved a_above a_out a_first c_t c_now c_refused) → va_S A s.heap H locs → lv_has ls 6 [(0, .ref a_t), (1, .int l1), (2, .int l2), (3, .int l3), (4, .int l4)] → W p l e r_X6_turn s m args below meth c H locs 0 0 (MQ below (qI E A (res.1) (W_X6_turn E a_t a_now a_refused a_kept a_mind a_tape a_words a_wCell a_wFaces a_wTurns a_wSign a_wBy a_wFell a_telling a_holds a_sizes a_elements a_moved a_above a_out a_first c_t (res.2.1) (res.2.2))) args s 0 0 A) (F0 m 27 ls [])) (c_now : Nat → Int32) (c_refused : Nat → Int32) (l1 : Int32) (l2 : Int32) (l3 : Int32) (l4 : Int32) (s0 : Int32) (ls : Array Slot) (H : Heap) (locs : List Loc) (h : f_X6_turn_b57 c_t k27 c_now c_refused l1 l2 l3 l4 s0 = some res) (hP : va_P E.1 vwCl (W_X6_turn E a_t a_now a_refused a_kept a_mind a_tape a_words a_wCell a_wFaces a_wTurns a_wSign a_wBy a_wFell a_telling a_holds a_sizes a_elements a_moved a_above a_out a_first c_t c_now c_refused) H) (hD : va_D A (W_X6_turn E a_t a_now a_refused a_kept a_mind a_tape a_words a_wCell a_wFaces a_wTurns a_wSign a_wBy a_wFell a_telling a_holds a_sizes a_elements a_moved a_above a_out a_first c_t c_now c_refused)) (hS : va_S A s.heap H locs) (hl : lv_has ls 6 [(0, .ref a_t), (1, .int l1), (2, .int l2), (3, .int l3), (4, .int l4)]) : W p l e r_X6_turn s m args below meth c H locs 0 0 (MQ below (qI E A (res.1) (W_X6_turn E a_t a_now a_refused a_kept a_mind a_tape a_words a_wCell a_wFaces a_wTurns a_wSign a_wBy a_wFell a_telling a_holds a_sizes a_elements a_moved a_above a_out a_first c_t (res.2.1) (res.2.2))) args s 0 0 A) (F0 m 57 ls [.int s0]) := by
  obtain ⟨hx, hb, hml, hr, hlk, hown, hts, hG, hA⟩ := id X
  have hK := hG.1
  have hN := hG.2.1
  unfold f_X6_turn_b57 at h
  refine lv_istore (lv' := [(5, .int s0), (0, .ref a_t), (1, .int l1), (2, .int l2), (3, .int l3), (4, .int l4)]) hx hb dX6_turn_57 hl (by decide) rfl (fun ls hl => ?_)
  refine lv_aload_n hx hb dX6_turn_59 rfl (lv_at hl 1 rfl) ?_
  refine lv_iload hx hb dX6_turn_60 (lv_at hl 5 rfl) ?_
  obtain ⟨v1, hv1, h⟩ := bind_of h
  refine after_v X (run_V X (c_X6_change l E a_t a_now a_refused a_kept a_mind a_tape a_words a_wCell a_wFaces a_wTurns a_wSign a_wBy a_wFell a_telling a_holds a_sizes a_elements a_moved a_above a_out a_first l4 c_t c_now H.size v1 hv1) (cwV 1 hts gX6_turn_X6_change rfl rfl rfl hV_X6_change ⟨(Nat.le_of_ble_eq_true rfl), (Nat.le_of_ble_eq_true rfl)⟩) hP hD hS [0, 1] rfl rfl hl.1 (ci := 6) rfl rfl rfl (rest := []) rfl rfl (Nat.le_of_ble_eq_true rfl) dX6_turn_62) hP hD hS [0, 1] [2] [1, 2, 0] rfl rfl rfl (by decide) rfl (ws1 := (W_X6_turn E a_t a_now a_refused a_kept a_mind a_tape a_words a_wCell a_wFaces a_wTurns a_wSign a_wBy a_wFell a_telling a_holds a_sizes a_elements a_moved a_above a_out a_first c_t v1 c_refused)) rfl (fun H locs hP hD hS => ?_)
  refine lv_iload hx hb dX6_turn_65 (lv_at hl 0 rfl) ?_
  refine lv_if_eq (tgt := 92) hx hb dX6_turn_67 (by decide) (fun hc67 => ?_) (fun hc67 => ?_)
  · have h := if_t h hc67
    exact w_X6_turn_b92 X a_t a_now a_refused a_kept a_mind a_tape a_words a_wCell a_wFaces a_wTurns a_wSign a_wBy a_wFell a_telling a_holds a_sizes a_elements a_moved a_above a_out a_first c_t res k27 hk27 v1 c_refused l1 l2 l3 l4 _ _ _ h hP hD hS (lv_sub hl [1, 2, 3, 4, 5] rfl)
  · have h := if_f h hc67
    refine lv_iload_n hx hb dX6_turn_70 rfl (lv_at hl 4 rfl) ?_
    refine lv_iconst (v := (-1 : Int32)) hx hb dX6_turn_71 (by decide) ?_
    refine lv_icmp_eq (tgt := 87) hx hb dX6_turn_72 (by decide) (fun hc72 => ?_) (fun hc72 => ?_)
    · have h := if_t h hc72
      exact w_X6_turn_b87 X a_t a_now a_refused a_kept a_mind a_tape a_words a_wCell a_wFaces a_wTurns a_wSign a_wBy a_wFell a_telling a_holds a_sizes a_elements a_moved a_above a_out a_first c_t res k27 hk27 v1 c_refused l1 l2 l4 _ _ _ h hP hD hS (lv_sub hl [1, 2, 3, 5] rfl)
    · have h := if_f h hc72
      refine lv_iload hx hb dX6_turn_75 (lv_at hl 5 rfl) ?_
      obtain ⟨v2, hv2, h⟩ := bind_of h
      refine after_i X (run_S X (c_X6_ones l E l4 H.size v2 hv2) (va_cwS 1 hts gX6_turn_X6_ones rfl rfl rfl hd_X6_ones ⟨(Nat.le_of_ble_eq_true rfl), (Nat.le_of_ble_eq_true rfl)⟩) hP hD hS [] rfl rfl hl.1 (rest := []) rfl rfl (Nat.le_of_ble_eq_true rfl) dX6_turn_77) hP hD hS [] [0, 1, 2] [0, 1, 2] rfl rfl rfl (by decide) rfl (ws1 := (W_X6_turn E a_t a_now a_refused a_kept a_mind a_tape a_words a_wCell a_wFaces a_wTurns a_wSign a_wBy a_wFell a_telling a_holds a_sizes a_elements a_moved a_above a_out a_first c_t v1 c_refused)) rfl (fun H locs hP hD hS => ?_)
      refine lv_iload_n hx hb dX6_turn_80 rfl (lv_at hl 4 rfl) ?_
      obtain ⟨v3, hv3, h⟩ := bind_of h
      refine after_i X (run_S X (c_X6_ones l E l3 H.size v3 hv3) (va_cwS 1 hts gX6_turn_X6_ones rfl rfl rfl hd_X6_ones ⟨(Nat.le_of_ble_eq_true rfl), (Nat.le_of_ble_eq_true rfl)⟩) hP hD hS [] rfl rfl hl.1 (rest := [.int v2]) rfl rfl (Nat.le_of_ble_eq_true rfl) dX6_turn_81) hP hD hS [] [0, 1, 2] [0, 1, 2] rfl rfl rfl (by decide) rfl (ws1 := (W_X6_turn E a_t a_now a_refused a_kept a_mind a_tape a_words a_wCell a_wFaces a_wTurns a_wSign a_wBy a_wFell a_telling a_holds a_sizes a_elements a_moved a_above a_out a_first c_t v1 c_refused)) rfl (fun H locs hP hD hS => ?_)
      refine lv_icmp_ge (tgt := 92) hx hb dX6_turn_84 (by decide) (fun hc84 => ?_) (fun hc84 => ?_)
      · have h := if_t h hc84
        exact w_X6_turn_b92 X a_t a_now a_refused a_kept a_mind a_tape a_words a_wCell a_wFaces a_wTurns a_wSign a_wBy a_wFell a_telling a_holds a_sizes a_elements a_moved a_above a_out a_first c_t res k27 hk27 v1 c_refused l1 l2 l3 l4 _ _ _ h hP hD hS (lv_sub hl [1, 2, 3, 4, 5] rfl)
      · have h := if_f h hc84
        exact w_X6_turn_b87 X a_t a_now a_refused a_kept a_mind a_tape a_words a_wCell a_wFaces a_wTurns a_wSign a_wBy a_wFell a_telling a_holds a_sizes a_elements a_moved a_above a_out a_first c_t res k27 hk27 v1 c_refused l1 l2 l4 _ _ _ h hP hD hS (lv_sub hl [1, 2, 3, 5] rfl)
set_option maxRecDepth 100000 in
set_option maxHeartbeats 4000000 in
theorem w_X6_turn_b27 (X : Ctx p m meth c cX6_turn 6 ((some .int)) s args wsX6_turn RX6 E A) (a_t : Nat) (a_now : Nat) (a_refused : Nat) (a_kept : Nat) (a_mind : Nat) (a_tape : Nat) (a_words : Nat) (a_wCell : Nat) (a_wFaces : Nat) (a_wTurns : Nat) (a_wSign : Nat) (a_wBy : Nat) (a_wFell : Nat) (a_telling : Nat) (a_holds : Nat) (a_sizes : Nat) (a_elements : Nat) (a_moved : Nat) (a_above : Nat) (a_out : Nat) (a_first : Nat) (c_t : Nat → Int32) (res : Int32 × (Nat → Int32) × (Nat → Int32)) : ∀ (n : Nat) (c_now : Nat → Int32) (c_refused : Nat → Int32) (l1 : Int32) (l2 : Int32) (l3 : Int32) (l4 : Int32) (ls : Array Slot) (H : Heap) (locs : List Loc), f_X6_turn_b27 c_t n c_now c_refused l1 l2 l3 l4 = some res → va_P E.1 vwCl (W_X6_turn E a_t a_now a_refused a_kept a_mind a_tape a_words a_wCell a_wFaces a_wTurns a_wSign a_wBy a_wFell a_telling a_holds a_sizes a_elements a_moved a_above a_out a_first c_t c_now c_refused) H → va_D A (W_X6_turn E a_t a_now a_refused a_kept a_mind a_tape a_words a_wCell a_wFaces a_wTurns a_wSign a_wBy a_wFell a_telling a_holds a_sizes a_elements a_moved a_above a_out a_first c_t c_now c_refused) → va_S A s.heap H locs → lv_has ls 6 [(0, .ref a_t), (1, .int l1), (2, .int l2), (3, .int l3), (4, .int l4)] → W p l e r_X6_turn s m args below meth c H locs 0 0 (MQ below (qI E A (res.1) (W_X6_turn E a_t a_now a_refused a_kept a_mind a_tape a_words a_wCell a_wFaces a_wTurns a_wSign a_wBy a_wFell a_telling a_holds a_sizes a_elements a_moved a_above a_out a_first c_t (res.2.1) (res.2.2))) args s 0 0 A) (F0 m 27 ls []) := by
  obtain ⟨hx, hb, hml, hr, hlk, hown, hts, hG, hA⟩ := id X
  have hK := hG.1
  have hN := hG.2.1
  intro n
  induction n with
  | zero =>
    intro c_now c_refused l1 l2 l3 l4 ls H locs h
    exact absurd (show (none : Option (Int32 × (Nat → Int32) × (Nat → Int32))) = some res from h) (by intro q; cases q)
  | succ n ih =>
    intro c_now c_refused l1 l2 l3 l4 ls H locs h hP hD hS hl
    rw [f_X6_turn_b27] at h
    refine lv_iload hx hb dX6_turn_27 (lv_at hl 4 rfl) ?_
    refine lv_iconst (v := (1 : Int32)) hx hb dX6_turn_29 (by decide) ?_
    refine lv_aload_n hx hb dX6_turn_30 rfl (lv_at hl 0 rfl) ?_
    obtain ⟨v1, hv1, h⟩ := bind_of h
    refine after_i X (run_V X (c_X6_many l E a_t a_now a_refused a_kept a_mind a_tape a_words a_wCell a_wFaces a_wTurns a_wSign a_wBy a_wFell a_telling a_holds a_sizes a_elements a_moved a_above a_out a_first c_t c_now H.size v1 hv1) (cwV 0 hts gX6_turn_X6_many rfl rfl rfl hV_X6_many ⟨(Nat.le_of_ble_eq_true rfl), (Nat.le_of_ble_eq_true rfl)⟩) hP hD hS [0, 1] rfl rfl hl.1 (ci := 6) rfl rfl rfl (rest := [.int (1 : Int32), .int l4]) rfl rfl (Nat.le_of_ble_eq_true rfl) dX6_turn_31) hP hD hS [0, 1] [2] [1, 2, 0] rfl rfl rfl (by decide) rfl (ws1 := (W_X6_turn E a_t a_now a_refused a_kept a_mind a_tape a_words a_wCell a_wFaces a_wTurns a_wSign a_wBy a_wFell a_telling a_holds a_sizes a_elements a_moved a_above a_out a_first c_t c_now c_refused)) rfl (fun H locs hP hD hS => ?_)
    refine lv_ishl hx hb dX6_turn_34 ?_
    refine lv_icmp_ge (tgt := 100) hx hb dX6_turn_35 (by decide) (fun hc35 => ?_) (fun hc35 => ?_)
    · have h := if_t h hc35
      refine lv_iload_n hx hb dX6_turn_100 rfl (lv_at hl 3 rfl) ?_
      refine lv_iconst (v := (-1 : Int32)) hx hb dX6_turn_101 (by decide) ?_
      refine lv_icmp_ne (tgt := 109) hx hb dX6_turn_102 (by decide) (fun hc102 => ?_) (fun hc102 => ?_)
      · have h := if_f h hc102
        refine lv_iload_n hx hb dX6_turn_109 rfl (lv_at hl 1 rfl) ?_
        refine lv_if_ne (tgt := 120) hx hb dX6_turn_110 (by decide) (fun hc110 => ?_) (fun hc110 => ?_)
        · have h := if_f h hc110
          refine lv_iload_n hx hb dX6_turn_120 rfl (lv_at hl 3 rfl) ?_
          obtain rfl := Option.some.inj h
          exact ret_i X dX6_turn_121 hP hD hS rfl
        · have h := if_t h hc110
          refine lv_iload_n hx hb dX6_turn_113 rfl (lv_at hl 3 rfl) ?_
          obtain ⟨v2, hv2, h⟩ := bind_of h
          refine after_i X (run_S X (c_X6_ones l E l3 H.size v2 hv2) (va_cwS 1 hts gX6_turn_X6_ones rfl rfl rfl hd_X6_ones ⟨(Nat.le_of_ble_eq_true rfl), (Nat.le_of_ble_eq_true rfl)⟩) hP hD hS [] rfl rfl hl.1 (rest := []) rfl rfl (Nat.le_of_ble_eq_true rfl) dX6_turn_114) hP hD hS [] [0, 1, 2] [0, 1, 2] rfl rfl rfl (by decide) rfl (ws1 := (W_X6_turn E a_t a_now a_refused a_kept a_mind a_tape a_words a_wCell a_wFaces a_wTurns a_wSign a_wBy a_wFell a_telling a_holds a_sizes a_elements a_moved a_above a_out a_first c_t c_now c_refused)) rfl (fun H locs hP hD hS => ?_)
          refine lv_goto (tgt := 121) hx hb dX6_turn_117 (by decide) ?_
          obtain rfl := Option.some.inj h
          exact ret_i X dX6_turn_121 hP hD hS rfl
      · have h := if_t h hc102
        refine lv_iconst (v := (-1 : Int32)) hx hb dX6_turn_105 (by decide) ?_
        refine lv_goto (tgt := 121) hx hb dX6_turn_106 (by decide) ?_
        obtain rfl := Option.some.inj h
        exact ret_i X dX6_turn_121 hP hD hS rfl
    · have h := if_f h hc35
      refine lv_aload_n hx hb dX6_turn_38 rfl (lv_at hl 0 rfl) ?_
      refine lv_iload hx hb dX6_turn_39 (lv_at hl 4 rfl) ?_
      obtain ⟨v3, hv3, h⟩ := bind_of h
      refine after_v X (run_V X (c_X6_change l E a_t a_now a_refused a_kept a_mind a_tape a_words a_wCell a_wFaces a_wTurns a_wSign a_wBy a_wFell a_telling a_holds a_sizes a_elements a_moved a_above a_out a_first l4 c_t c_now H.size v3 hv3) (cwV 1 hts gX6_turn_X6_change rfl rfl rfl hV_X6_change ⟨(Nat.le_of_ble_eq_true rfl), (Nat.le_of_ble_eq_true rfl)⟩) hP hD hS [0, 1] rfl rfl hl.1 (ci := 6) rfl rfl rfl (rest := []) rfl rfl (Nat.le_of_ble_eq_true rfl) dX6_turn_41) hP hD hS [0, 1] [2] [1, 2, 0] rfl rfl rfl (by decide) rfl (ws1 := (W_X6_turn E a_t a_now a_refused a_kept a_mind a_tape a_words a_wCell a_wFaces a_wTurns a_wSign a_wBy a_wFell a_telling a_holds a_sizes a_elements a_moved a_above a_out a_first c_t v3 c_refused)) rfl (fun H locs hP hD hS => ?_)
      refine lv_aload_n hx hb dX6_turn_44 rfl (lv_at hl 0 rfl) ?_
      obtain ⟨v4, hv4, h⟩ := bind_of h
      refine after_i X (run_V X (c_X6_carries l E a_t a_now a_refused a_kept a_mind a_tape a_words a_wCell a_wFaces a_wTurns a_wSign a_wBy a_wFell a_telling a_holds a_sizes a_elements a_moved a_above a_out a_first c_t v3 H.size v4 hv4) (cwV 0 hts gX6_turn_X6_carries rfl rfl rfl hV_X6_carries ⟨(Nat.le_of_ble_eq_true rfl), (Nat.le_of_ble_eq_true rfl)⟩) hP hD hS [0, 1] rfl rfl hl.1 (ci := 6) rfl rfl rfl (rest := []) rfl rfl (Nat.le_of_ble_eq_true rfl) dX6_turn_45) hP hD hS [0, 1] [2] [1, 2, 0] rfl rfl rfl (by decide) rfl (ws1 := (W_X6_turn E a_t a_now a_refused a_kept a_mind a_tape a_words a_wCell a_wFaces a_wTurns a_wSign a_wBy a_wFell a_telling a_holds a_sizes a_elements a_moved a_above a_out a_first c_t v3 c_refused)) rfl (fun H locs hP hD hS => ?_)
      refine lv_iload_n hx hb dX6_turn_48 rfl (lv_at hl 2 rfl) ?_
      refine lv_icmp_eq (tgt := 56) hx hb dX6_turn_49 (by decide) (fun hc49 => ?_) (fun hc49 => ?_)
      · have h := if_t h hc49
        refine lv_iconst (v := (0 : Int32)) hx hb dX6_turn_56 (by decide) ?_
        exact w_X6_turn_b57 X a_t a_now a_refused a_kept a_mind a_tape a_words a_wCell a_wFaces a_wTurns a_wSign a_wBy a_wFell a_telling a_holds a_sizes a_elements a_moved a_above a_out a_first c_t res (f_X6_turn_b27 c_t n) ih v3 c_refused l1 l2 l3 l4 (0 : Int32) _ _ _ h hP hD hS (lv_sub hl [0, 1, 2, 3, 4] rfl)
      · have h := if_f h hc49
        refine lv_iconst (v := (1 : Int32)) hx hb dX6_turn_52 (by decide) ?_
        refine lv_goto (tgt := 57) hx hb dX6_turn_53 (by decide) ?_
        exact w_X6_turn_b57 X a_t a_now a_refused a_kept a_mind a_tape a_words a_wCell a_wFaces a_wTurns a_wSign a_wBy a_wFell a_telling a_holds a_sizes a_elements a_moved a_above a_out a_first c_t res (f_X6_turn_b27 c_t n) ih v3 c_refused l1 l2 l3 l4 (1 : Int32) _ _ _ h hP hD hS (lv_sub hl [0, 1, 2, 3, 4] rfl)
set_option maxRecDepth 100000 in
set_option maxHeartbeats 4000000 in
theorem w_X6_turn (X : Ctx p m meth c cX6_turn 6 ((some .int)) s args wsX6_turn RX6 E A) (a_t : Nat) (a_now : Nat) (a_refused : Nat) (a_kept : Nat) (a_mind : Nat) (a_tape : Nat) (a_words : Nat) (a_wCell : Nat) (a_wFaces : Nat) (a_wTurns : Nat) (a_wSign : Nat) (a_wBy : Nat) (a_wFell : Nat) (a_telling : Nat) (a_holds : Nat) (a_sizes : Nat) (a_elements : Nat) (a_moved : Nat) (a_above : Nat) (a_out : Nat) (a_first : Nat) (c_t : Nat → Int32) (res : Int32 × (Nat → Int32) × (Nat → Int32)) (c_now : Nat → Int32) (c_refused : Nat → Int32) (l1 : Int32) (ls : Array Slot) (H : Heap) (locs : List Loc) (h : f_X6_turn l1 c_t c_now c_refused = some res) (hP : va_P E.1 vwCl (W_X6_turn E a_t a_now a_refused a_kept a_mind a_tape a_words a_wCell a_wFaces a_wTurns a_wSign a_wBy a_wFell a_telling a_holds a_sizes a_elements a_moved a_above a_out a_first c_t c_now c_refused) H) (hD : va_D A (W_X6_turn E a_t a_now a_refused a_kept a_mind a_tape a_words a_wCell a_wFaces a_wTurns a_wSign a_wBy a_wFell a_telling a_holds a_sizes a_elements a_moved a_above a_out a_first c_t c_now c_refused)) (hS : va_S A s.heap H locs) (hl : lv_has ls 6 [(0, .ref a_t), (1, .int l1)]) : W p l e r_X6_turn s m args below meth c H locs 0 0 (MQ below (qI E A (res.1) (W_X6_turn E a_t a_now a_refused a_kept a_mind a_tape a_words a_wCell a_wFaces a_wTurns a_wSign a_wBy a_wFell a_telling a_holds a_sizes a_elements a_moved a_above a_out a_first c_t (res.2.1) (res.2.2))) args s 0 0 A) (F0 m 0 ls []) := by
  obtain ⟨hx, hb, hml, hr, hlk, hown, hts, hG, hA⟩ := id X
  have hK := hG.1
  have hN := hG.2.1
  unfold f_X6_turn at h
  refine lv_iload_n hx hb dX6_turn_0 rfl (lv_at hl 1 rfl) ?_
  refine lv_i2l (v := (l1.toInt64)) hx hb dX6_turn_1 rfl ?_
  refine lv_lconst (v := (0 : Int64)) hx hb dX6_turn_2 (by decide) ?_
  refine lv_lconst (v := (1 : Int64)) hx hb dX6_turn_3 (by decide) ?_
  obtain ⟨v1, hv1, h⟩ := bind_of h
  refine after_i X (run_S X (c_X6_isIn l E (l1.toInt64) (0 : Int64) (1 : Int64) H.size v1 hv1) (va_cwS 3 hts gX6_turn_X6_isIn rfl rfl rfl hd_X6_isIn ⟨(Nat.le_of_ble_eq_true rfl), (Nat.le_of_ble_eq_true rfl)⟩) hP hD hS [] rfl rfl hl.1 (rest := []) rfl rfl (Nat.le_of_ble_eq_true rfl) dX6_turn_4) hP hD hS [] [0, 1, 2] [0, 1, 2] rfl rfl rfl (by decide) rfl (ws1 := (W_X6_turn E a_t a_now a_refused a_kept a_mind a_tape a_words a_wCell a_wFaces a_wTurns a_wSign a_wBy a_wFell a_telling a_holds a_sizes a_elements a_moved a_above a_out a_first c_t c_now c_refused)) rfl (fun H locs hP hD hS => ?_)
  refine lv_if_ne (tgt := 17) hx hb dX6_turn_7 (by decide) (fun hc7 => ?_) (fun hc7 => ?_)
  · have h := if_f h hc7
    refine lv_aload_n hx hb dX6_turn_17 rfl (lv_at hl 0 rfl) ?_
    obtain ⟨v2, hv2, h⟩ := bind_of h
    refine after_i X (run_V X (c_X6_carries l E a_t a_now a_refused a_kept a_mind a_tape a_words a_wCell a_wFaces a_wTurns a_wSign a_wBy a_wFell a_telling a_holds a_sizes a_elements a_moved a_above a_out a_first c_t c_now H.size v2 hv2) (cwV 0 hts gX6_turn_X6_carries rfl rfl rfl hV_X6_carries ⟨(Nat.le_of_ble_eq_true rfl), (Nat.le_of_ble_eq_true rfl)⟩) hP hD hS [0, 1] rfl rfl hl.1 (ci := 6) rfl rfl rfl (rest := []) rfl rfl (Nat.le_of_ble_eq_true rfl) dX6_turn_18) hP hD hS [0, 1] [2] [1, 2, 0] rfl rfl rfl (by decide) rfl (ws1 := (W_X6_turn E a_t a_now a_refused a_kept a_mind a_tape a_words a_wCell a_wFaces a_wTurns a_wSign a_wBy a_wFell a_telling a_holds a_sizes a_elements a_moved a_above a_out a_first c_t c_now c_refused)) rfl (fun H locs hP hD hS => ?_)
    refine lv_istore_n (lv' := [(2, .int v2), (0, .ref a_t), (1, .int l1)]) hx hb dX6_turn_21 rfl hl (by decide) rfl (fun ls hl => ?_)
    refine lv_iconst (v := (-1 : Int32)) hx hb dX6_turn_22 (by decide) ?_
    refine lv_istore_n (lv' := [(3, .int (-1 : Int32)), (2, .int v2), (0, .ref a_t), (1, .int l1)]) hx hb dX6_turn_23 rfl hl (by decide) rfl (fun ls hl => ?_)
    refine lv_iconst (v := (1 : Int32)) hx hb dX6_turn_24 (by decide) ?_
    refine lv_istore (lv' := [(4, .int (1 : Int32)), (3, .int (-1 : Int32)), (2, .int v2), (0, .ref a_t), (1, .int l1)]) hx hb dX6_turn_25 hl (by decide) rfl (fun ls hl => ?_)
    exact w_X6_turn_b27 X a_t a_now a_refused a_kept a_mind a_tape a_words a_wCell a_wFaces a_wTurns a_wSign a_wBy a_wFell a_telling a_holds a_sizes a_elements a_moved a_above a_out a_first c_t res FU c_now c_refused l1 v2 (-1 : Int32) (1 : Int32) _ _ _ h hP hD hS (lv_sub hl [3, 4, 2, 1, 0] rfl)
  · have h := if_t h hc7
    refine lv_aload_n hx hb dX6_turn_10 rfl (lv_at hl 0 rfl) ?_
    refine lv_bipush (v := (-2 : Int32)) hx hb dX6_turn_11 (by decide) ?_
    obtain ⟨v3, hv3, h⟩ := bind_of h
    refine after_i X (run_V X (c_X6_refuse l E a_t a_refused a_now a_kept a_mind a_tape a_words a_wCell a_wFaces a_wTurns a_wSign a_wBy a_wFell a_telling a_holds a_sizes a_elements a_moved a_above a_out a_first (-2 : Int32) c_t c_refused H.size v3 hv3) (cwV 1 hts gX6_turn_X6_refuse rfl rfl rfl hV_X6_refuse ⟨(Nat.le_of_ble_eq_true rfl), (Nat.le_of_ble_eq_true rfl)⟩) hP hD hS [0, 2] rfl rfl hl.1 (ci := 6) rfl rfl rfl (rest := []) rfl rfl (Nat.le_of_ble_eq_true rfl) dX6_turn_13) hP hD hS [0, 2] [1] [1, 0, 2] rfl rfl rfl (by decide) rfl (ws1 := (W_X6_turn E a_t a_now a_refused a_kept a_mind a_tape a_words a_wCell a_wFaces a_wTurns a_wSign a_wBy a_wFell a_telling a_holds a_sizes a_elements a_moved a_above a_out a_first c_t c_now (v3.2))) rfl (fun H locs hP hD hS => ?_)
    obtain rfl := Option.some.inj h
    exact ret_i X dX6_turn_16 hP hD hS rfl
end
set_option maxRecDepth 100000 in
theorem c_X6_turn (l : Launch) (E : Env0) (a_t : Nat) (a_now : Nat) (a_refused : Nat) (a_kept : Nat) (a_mind : Nat) (a_tape : Nat) (a_words : Nat) (a_wCell : Nat) (a_wFaces : Nat) (a_wTurns : Nat) (a_wSign : Nat) (a_wBy : Nat) (a_wFell : Nat) (a_telling : Nat) (a_holds : Nat) (a_sizes : Nat) (a_elements : Nat) (a_moved : Nat) (a_above : Nat) (a_out : Nat) (a_first : Nat) (l1 : Int32) (c_t : Nat → Int32) (c_now : Nat → Int32) (c_refused : Nat → Int32) (sz : Nat) (res : Int32 × (Nat → Int32) × (Nat → Int32)) (h : f_X6_turn l1 c_t c_now c_refused = some res) : Met l yX6_turn wsX6_turn r_X6_turn (cPre E [.ref a_t, .int l1] (W_X6_turn E a_t a_now a_refused a_kept a_mind a_tape a_words a_wCell a_wFaces a_wTurns a_wSign a_wBy a_wFell a_telling a_holds a_sizes a_elements a_moved a_above a_out a_first c_t c_now c_refused) sz) (qI E (va_A (W_X6_turn E a_t a_now a_refused a_kept a_mind a_tape a_words a_wCell a_wFaces a_wTurns a_wSign a_wBy a_wFell a_telling a_holds a_sizes a_elements a_moved a_above a_out a_first c_t c_now c_refused) sz) (res.1) (W_X6_turn E a_t a_now a_refused a_kept a_mind a_tape a_words a_wCell a_wFaces a_wTurns a_wSign a_wBy a_wFell a_telling a_holds a_sizes a_elements a_moved a_above a_out a_first c_t (res.2.1) (res.2.2))) 0 0 (va_A (W_X6_turn E a_t a_now a_refused a_kept a_mind a_tape a_words a_wCell a_wFaces a_wTurns a_wSign a_wBy a_wFell a_telling a_holds a_sizes a_elements a_moved a_above a_out a_first c_t c_now c_refused) sz) :=
  met_of (Qc := fun A => qI E A (res.1) (W_X6_turn E a_t a_now a_refused a_kept a_mind a_tape a_words a_wCell a_wFaces a_wTurns a_wSign a_wBy a_wFell a_telling a_holds a_sizes a_elements a_moved a_above a_out a_first c_t (res.2.1) (res.2.2))) (by decide) rfl (Nat.le_of_ble_eq_true rfl) (fun p e s m args below meth c X hP hD hS ls hl => w_X6_turn X a_t a_now a_refused a_kept a_mind a_tape a_words a_wCell a_wFaces a_wTurns a_wSign a_wBy a_wFell a_telling a_holds a_sizes a_elements a_moved a_above a_out a_first c_t res c_now c_refused l1 ls _ _ h hP hD hS hl)
-- ===== X6_agreed
abbrev W_X6_agreed (E : Env0) (a_t : Nat) (a_now : Nat) (a_wBy : Nat) (a_wCell : Nat) (a_wFaces : Nat) (a_wFell : Nat) (a_wSign : Nat) (a_wTurns : Nat) (a_refused : Nat) (a_kept : Nat) (a_mind : Nat) (a_tape : Nat) (a_words : Nat) (a_telling : Nat) (a_holds : Nat) (a_sizes : Nat) (a_elements : Nat) (a_moved : Nat) (a_above : Nat) (a_out : Nat) (a_first : Nat) (c_t : Nat → Int32) (c_now : Nat → Int32) (c_wBy : Nat → Int32) (c_wCell : Nat → Int32) (c_wFaces : Nat → Int32) (c_wFell : Nat → Int32) (c_wSign : Nat → Int32) (c_wTurns : Nat → Int32) : va_W := [(a_t, .inr (6, [.ref a_refused, .ref a_now, .ref a_kept, .ref a_mind, .int (c_t 4), .ref a_tape, .int (c_t 6), .int (c_t 7), .int (c_t 8), .int (c_t 9), .ref a_words, .ref a_wCell, .ref a_wFaces, .ref a_wTurns, .ref a_wSign, .ref a_wBy, .ref a_wFell, .int (c_t 17), .ref a_telling, .ref a_holds, .ref a_sizes, .ref a_elements, .ref a_moved, .ref a_above, .ref a_out, .ref a_first])), (a_now, .inl (eI E, 97, .inl c_now)), (a_wBy, .inl (eI E, 2, .inl c_wBy)), (a_wCell, .inl (eI E, 2, .inl c_wCell)), (a_wFaces, .inl (eI E, 2, .inl c_wFaces)), (a_wFell, .inl (eI E, 2, .inl c_wFell)), (a_wSign, .inl (eI E, 2, .inl c_wSign)), (a_wTurns, .inl (eI E, 2, .inl c_wTurns))]
abbrev r_X6_agreed : Room := { frames := 4, cells := 0, slots := 0, locals := 97 }
theorem hd_X6_agreed : yX6_agreed.cls ≠ "java/lang/invoke/MethodHandle" ∧ yX6_agreed.cls ≠ "java/lang/invoke/VarHandle" ∧ (parseMethodDescriptor yX6_agreed.desc).map (fun d => d.parameters.length) = some 0 := by decide +kernel
theorem hV_X6_agreed : yX6_agreed.cls = RX6 ∧ yX6_agreed.cls ≠ "java/lang/invoke/MethodHandle" ∧ yX6_agreed.cls ≠ "java/lang/invoke/VarHandle" ∧ (parseMethodDescriptor yX6_agreed.desc).map (fun d => d.parameters.length) = some 0 := ⟨rfl, hd_X6_agreed⟩
theorem iX6_agreed_X6 : ∀ w ∈ wsX60, w ∈ wsX6_agreed := fun _ h => List.mem_cons_of_mem _ (List.mem_append_right _ (h))
section
variable {p : Program} {l : Launch} {e : Env} {s : State} {m : MethodId} {args : Array Value} {below : List Frame} {meth : Method} {c : Code} {E : Env0} {A : Nat → Prop}
set_option maxRecDepth 100000 in
set_option maxHeartbeats 4000000 in
theorem w_X6_agreed_b52 (X : Ctx p m meth c cX6_agreed 3 ((some .int)) s args wsX6_agreed RX6 E A) (a_t : Nat) (a_now : Nat) (a_wBy : Nat) (a_wCell : Nat) (a_wFaces : Nat) (a_wFell : Nat) (a_wSign : Nat) (a_wTurns : Nat) (a_refused : Nat) (a_kept : Nat) (a_mind : Nat) (a_tape : Nat) (a_words : Nat) (a_telling : Nat) (a_holds : Nat) (a_sizes : Nat) (a_elements : Nat) (a_moved : Nat) (a_above : Nat) (a_out : Nat) (a_first : Nat) (c_t : Nat → Int32) (c_now : Nat → Int32) (c_wBy : Nat → Int32) (c_wSign : Nat → Int32) (res : Int32 × (Nat → Int32) × (Nat → Int32) × (Nat → Int32) × (Nat → Int32)) (k4 : (Nat → Int32) → (Nat → Int32) → (Nat → Int32) → (Nat → Int32) → Int32 → Int32 → Option (Int32 × (Nat → Int32) × (Nat → Int32) × (Nat → Int32) × (Nat → Int32))) (hk4 : ∀ (c_wCell : Nat → Int32) (c_wFaces : Nat → Int32) (c_wFell : Nat → Int32) (c_wTurns : Nat → Int32) (l1 : Int32) (l2 : Int32) (ls : Array Slot) (H : Heap) (locs : List Loc), k4 c_wCell c_wFaces c_wFell c_wTurns l1 l2 = some res → va_P E.1 vwCl (W_X6_agreed E a_t a_now a_wBy a_wCell a_wFaces a_wFell a_wSign a_wTurns a_refused a_kept a_mind a_tape a_words a_telling a_holds a_sizes a_elements a_moved a_above a_out a_first c_t c_now c_wBy c_wCell c_wFaces c_wFell c_wSign c_wTurns) H → va_D A (W_X6_agreed E a_t a_now a_wBy a_wCell a_wFaces a_wFell a_wSign a_wTurns a_refused a_kept a_mind a_tape a_words a_telling a_holds a_sizes a_elements a_moved a_above a_out a_first c_t c_now c_wBy c_wCell c_wFaces c_wFell c_wSign c_wTurns) → va_S A s.heap H locs → lv_has ls 3 [(0, .ref a_t), (1, .int l1), (2, .int l2)] → W p l e r_X6_agreed s m args below meth c H locs 0 0 (MQ below (qI E A (res.1) (W_X6_agreed E a_t a_now a_wBy a_wCell a_wFaces a_wFell a_wSign a_wTurns a_refused a_kept a_mind a_tape a_words a_telling a_holds a_sizes a_elements a_moved a_above a_out a_first c_t c_now c_wBy (res.2.1) (res.2.2.1) (res.2.2.2.1) c_wSign (res.2.2.2.2))) args s 0 0 A) (F0 m 4 ls [])) (c_wCell : Nat → Int32) (c_wFaces : Nat → Int32) (c_wFell : Nat → Int32) (c_wTurns : Nat → Int32) (l2 : Int32) (s0 : Int32) (s1 : Int32) (ls : Array Slot) (H : Heap) (locs : List Loc) (h : f_X6_agreed_b52 c_t c_now c_wBy c_wSign k4 c_wCell c_wFaces c_wFell c_wTurns l2 s0 s1 = some res) (hP : va_P E.1 vwCl (W_X6_agreed E a_t a_now a_wBy a_wCell a_wFaces a_wFell a_wSign a_wTurns a_refused a_kept a_mind a_tape a_words a_telling a_holds a_sizes a_elements a_moved a_above a_out a_first c_t c_now c_wBy c_wCell c_wFaces c_wFell c_wSign c_wTurns) H) (hD : va_D A (W_X6_agreed E a_t a_now a_wBy a_wCell a_wFaces a_wFell a_wSign a_wTurns a_refused a_kept a_mind a_tape a_words a_telling a_holds a_sizes a_elements a_moved a_above a_out a_first c_t c_now c_wBy c_wCell c_wFaces c_wFell c_wSign c_wTurns)) (hS : va_S A s.heap H locs) (hl : lv_has ls 3 [(0, .ref a_t), (2, .int l2)]) : W p l e r_X6_agreed s m args below meth c H locs 0 0 (MQ below (qI E A (res.1) (W_X6_agreed E a_t a_now a_wBy a_wCell a_wFaces a_wFell a_wSign a_wTurns a_refused a_kept a_mind a_tape a_words a_telling a_holds a_sizes a_elements a_moved a_above a_out a_first c_t c_now c_wBy (res.2.1) (res.2.2.1) (res.2.2.2.1) c_wSign (res.2.2.2.2))) args s 0 0 A) (F0 m 52 ls [.int s0, .int s1]) := by
  obtain ⟨hx, hb, hml, hr, hlk, hown, hts, hG, hA⟩ := id X
  have hK := hG.1
  have hN := hG.2.1
  unfold f_X6_agreed_b52 at h
  refine lv_ior hx hb dX6_agreed_52 ?_
  refine lv_istore_n (lv' := [(1, .int (s1 ||| s0)), (0, .ref a_t), (2, .int l2)]) hx hb dX6_agreed_53 rfl hl (by decide) rfl (fun ls hl => ?_)
  refine lv_iinc (v := (l2 + (1 : Int32))) (lv' := [(2, .int (l2 + (1 : Int32))), (1, .int (s1 ||| s0)), (0, .ref a_t)]) hx hb dX6_agreed_54 hl (k := 2) rfl rfl (by decide) rfl (fun ls hl => ?_)
  refine lv_goto (tgt := 4) hx hb dX6_agreed_57 (by decide) ?_
  exact hk4 c_wCell c_wFaces c_wFell c_wTurns (s1 ||| s0) (l2 + (1 : Int32)) _ _ _ h hP hD hS (lv_sub hl [2, 1, 0] rfl)
set_option maxRecDepth 100000 in
set_option maxHeartbeats 4000000 in
theorem w_X6_agreed_b4 (X : Ctx p m meth c cX6_agreed 3 ((some .int)) s args wsX6_agreed RX6 E A) (a_t : Nat) (a_now : Nat) (a_wBy : Nat) (a_wCell : Nat) (a_wFaces : Nat) (a_wFell : Nat) (a_wSign : Nat) (a_wTurns : Nat) (a_refused : Nat) (a_kept : Nat) (a_mind : Nat) (a_tape : Nat) (a_words : Nat) (a_telling : Nat) (a_holds : Nat) (a_sizes : Nat) (a_elements : Nat) (a_moved : Nat) (a_above : Nat) (a_out : Nat) (a_first : Nat) (c_t : Nat → Int32) (c_now : Nat → Int32) (c_wBy : Nat → Int32) (c_wSign : Nat → Int32) (res : Int32 × (Nat → Int32) × (Nat → Int32) × (Nat → Int32) × (Nat → Int32)) : ∀ (n : Nat) (c_wCell : Nat → Int32) (c_wFaces : Nat → Int32) (c_wFell : Nat → Int32) (c_wTurns : Nat → Int32) (l1 : Int32) (l2 : Int32) (ls : Array Slot) (H : Heap) (locs : List Loc), f_X6_agreed_b4 c_t c_now c_wBy c_wSign n c_wCell c_wFaces c_wFell c_wTurns l1 l2 = some res → va_P E.1 vwCl (W_X6_agreed E a_t a_now a_wBy a_wCell a_wFaces a_wFell a_wSign a_wTurns a_refused a_kept a_mind a_tape a_words a_telling a_holds a_sizes a_elements a_moved a_above a_out a_first c_t c_now c_wBy c_wCell c_wFaces c_wFell c_wSign c_wTurns) H → va_D A (W_X6_agreed E a_t a_now a_wBy a_wCell a_wFaces a_wFell a_wSign a_wTurns a_refused a_kept a_mind a_tape a_words a_telling a_holds a_sizes a_elements a_moved a_above a_out a_first c_t c_now c_wBy c_wCell c_wFaces c_wFell c_wSign c_wTurns) → va_S A s.heap H locs → lv_has ls 3 [(0, .ref a_t), (1, .int l1), (2, .int l2)] → W p l e r_X6_agreed s m args below meth c H locs 0 0 (MQ below (qI E A (res.1) (W_X6_agreed E a_t a_now a_wBy a_wCell a_wFaces a_wFell a_wSign a_wTurns a_refused a_kept a_mind a_tape a_words a_telling a_holds a_sizes a_elements a_moved a_above a_out a_first c_t c_now c_wBy (res.2.1) (res.2.2.1) (res.2.2.2.1) c_wSign (res.2.2.2.2))) args s 0 0 A) (F0 m 4 ls []) := by
  obtain ⟨hx, hb, hml, hr, hlk, hown, hts, hG, hA⟩ := id X
  have hK := hG.1
  have hN := hG.2.1
  intro n
  induction n with
  | zero =>
    intro c_wCell c_wFaces c_wFell c_wTurns l1 l2 ls H locs h
    exact absurd (show (none : Option (Int32 × (Nat → Int32) × (Nat → Int32) × (Nat → Int32) × (Nat → Int32))) = some res from h) (by intro q; cases q)
  | succ n ih =>
    intro c_wCell c_wFaces c_wFell c_wTurns l1 l2 ls H locs h hP hD hS hl
    rw [f_X6_agreed_b4] at h
    refine lv_iload_n hx hb dX6_agreed_4 rfl (lv_at hl 2 rfl) ?_
    refine lv_aload_n hx hb dX6_agreed_5 rfl (lv_at hl 0 rfl) ?_
    obtain ⟨v1, hv1, h⟩ := bind_of h
    refine after_i X (run_V X (c_X6_many l E a_t a_now a_refused a_kept a_mind a_tape a_words a_wCell a_wFaces a_wTurns a_wSign a_wBy a_wFell a_telling a_holds a_sizes a_elements a_moved a_above a_out a_first c_t c_now H.size v1 hv1) (cwV 0 hts gX6_agreed_X6_many rfl rfl rfl hV_X6_many ⟨(Nat.le_of_ble_eq_true rfl), (Nat.le_of_ble_eq_true rfl)⟩) hP hD hS [0, 1] rfl rfl hl.1 (ci := 6) rfl rfl rfl (rest := [.int l2]) rfl rfl (Nat.le_of_ble_eq_true rfl) dX6_agreed_6) hP hD hS [0, 1] [2, 3, 4, 5, 6, 7] [6, 7, 0, 1, 2, 3, 4, 5] rfl rfl rfl (by decide) rfl (ws1 := (W_X6_agreed E a_t a_now a_wBy a_wCell a_wFaces a_wFell a_wSign a_wTurns a_refused a_kept a_mind a_tape a_words a_telling a_holds a_sizes a_elements a_moved a_above a_out a_first c_t c_now c_wBy c_wCell c_wFaces c_wFell c_wSign c_wTurns)) rfl (fun H locs hP hD hS => ?_)
    refine lv_icmp_ge (tgt := 60) hx hb dX6_agreed_9 (by decide) (fun hc9 => ?_) (fun hc9 => ?_)
    · have h := if_t h hc9
      refine lv_iload_n hx hb dX6_agreed_60 rfl (lv_at hl 1 rfl) ?_
      obtain rfl := Option.some.inj h
      exact ret_i X dX6_agreed_61 hP hD hS rfl
    · have h := if_f h hc9
      refine lv_aload_n hx hb dX6_agreed_12 rfl (lv_at hl 0 rfl) ?_
      refine lv_iconst (v := (0 : Int32)) hx hb dX6_agreed_13 (by decide) ?_
      refine lv_aload_n hx hb dX6_agreed_14 rfl (lv_at hl 0 rfl) ?_
      refine lv_iload_n hx hb dX6_agreed_15 rfl (lv_at hl 2 rfl) ?_
      obtain ⟨v2, hv2, h⟩ := bind_of h
      refine after_i X (run_V X (c_X6_cell l E a_t a_now a_refused a_kept a_mind a_tape a_words a_wCell a_wFaces a_wTurns a_wSign a_wBy a_wFell a_telling a_holds a_sizes a_elements a_moved a_above a_out a_first l2 c_t c_now H.size v2 hv2) (cwV 1 hts gX6_agreed_X6_cell rfl rfl rfl hV_X6_cell ⟨(Nat.le_of_ble_eq_true rfl), (Nat.le_of_ble_eq_true rfl)⟩) hP hD hS [0, 1] rfl rfl hl.1 (ci := 6) rfl rfl rfl (rest := [.int (0 : Int32), .ref a_t]) rfl rfl (Nat.le_of_ble_eq_true rfl) dX6_agreed_16) hP hD hS [0, 1] [2, 3, 4, 5, 6, 7] [6, 7, 0, 1, 2, 3, 4, 5] rfl rfl rfl (by decide) rfl (ws1 := (W_X6_agreed E a_t a_now a_wBy a_wCell a_wFaces a_wFell a_wSign a_wTurns a_refused a_kept a_mind a_tape a_words a_telling a_holds a_sizes a_elements a_moved a_above a_out a_first c_t c_now c_wBy c_wCell c_wFaces c_wFell c_wSign c_wTurns)) rfl (fun H locs hP hD hS => ?_)
      refine lv_aload_n hx hb dX6_agreed_19 rfl (lv_at hl 0 rfl) ?_
      refine lv_iload_n hx hb dX6_agreed_20 rfl (lv_at hl 2 rfl) ?_
      obtain ⟨v3, hv3, h⟩ := bind_of h
      refine after_i X (run_V X (c_X6_faces l E a_t a_now a_refused a_kept a_mind a_tape a_words a_wCell a_wFaces a_wTurns a_wSign a_wBy a_wFell a_telling a_holds a_sizes a_elements a_moved a_above a_out a_first l2 c_t c_now H.size v3 hv3) (cwV 1 hts gX6_agreed_X6_faces rfl rfl rfl hV_X6_faces ⟨(Nat.le_of_ble_eq_true rfl), (Nat.le_of_ble_eq_true rfl)⟩) hP hD hS [0, 1] rfl rfl hl.1 (ci := 6) rfl rfl rfl (rest := [.int v2, .int (0 : Int32), .ref a_t]) rfl rfl (Nat.le_of_ble_eq_true rfl) dX6_agreed_21) hP hD hS [0, 1] [2, 3, 4, 5, 6, 7] [6, 7, 0, 1, 2, 3, 4, 5] rfl rfl rfl (by decide) rfl (ws1 := (W_X6_agreed E a_t a_now a_wBy a_wCell a_wFaces a_wFell a_wSign a_wTurns a_refused a_kept a_mind a_tape a_words a_telling a_holds a_sizes a_elements a_moved a_above a_out a_first c_t c_now c_wBy c_wCell c_wFaces c_wFell c_wSign c_wTurns)) rfl (fun H locs hP hD hS => ?_)
      obtain ⟨v4, hv4, h⟩ := bind_of h
      refine after_v X (run_V X (c_X6_start l E a_t a_wCell a_wFaces a_wFell a_wTurns a_refused a_now a_kept a_mind a_tape a_words a_wSign a_wBy a_telling a_holds a_sizes a_elements a_moved a_above a_out a_first (0 : Int32) v2 v3 c_t c_wCell c_wFaces c_wFell c_wTurns H.size v4 hv4) (cwV 3 hts gX6_agreed_X6_start rfl rfl rfl hV_X6_start ⟨(Nat.le_of_ble_eq_true rfl), (Nat.le_of_ble_eq_true rfl)⟩) hP hD hS [0, 3, 4, 5, 7] rfl rfl hl.1 (ci := 6) rfl rfl rfl (rest := []) rfl rfl (Nat.le_of_ble_eq_true rfl) dX6_agreed_24) hP hD hS [0, 3, 4, 5, 7] [1, 2, 6] [3, 0, 1, 4, 5, 6, 2, 7] rfl rfl rfl (by decide) rfl (ws1 := (W_X6_agreed E a_t a_now a_wBy a_wCell a_wFaces a_wFell a_wSign a_wTurns a_refused a_kept a_mind a_tape a_words a_telling a_holds a_sizes a_elements a_moved a_above a_out a_first c_t c_now c_wBy (v4.1) (v4.2.1) (v4.2.2.1) c_wSign (v4.2.2.2))) rfl (fun H locs hP hD hS => ?_)
      refine lv_iload_n hx hb dX6_agreed_27 rfl (lv_at hl 1 rfl) ?_
      refine lv_aload_n hx hb dX6_agreed_28 rfl (lv_at hl 0 rfl) ?_
      refine lv_iconst (v := (0 : Int32)) hx hb dX6_agreed_29 (by decide) ?_
      refine lv_iload_n hx hb dX6_agreed_30 rfl (lv_at hl 2 rfl) ?_
      refine lv_iconst (v := (1 : Int32)) hx hb dX6_agreed_31 (by decide) ?_
      obtain ⟨v5, hv5, h⟩ := bind_of h
      refine after_i X (run_V X (c_X6_goesBy l E a_t a_now a_wBy a_wCell a_wSign a_wTurns a_refused a_kept a_mind a_tape a_words a_wFaces a_wFell a_telling a_holds a_sizes a_elements a_moved a_above a_out a_first (0 : Int32) l2 (1 : Int32) c_t c_now c_wBy (v4.1) c_wSign (v4.2.2.2) H.size v5 hv5) (cwV 3 hts gX6_agreed_X6_goesBy rfl rfl rfl hV_X6_goesBy ⟨(Nat.le_of_ble_eq_true rfl), (Nat.le_of_ble_eq_true rfl)⟩) hP hD hS [0, 1, 2, 3, 6, 7] rfl rfl hl.1 (ci := 6) rfl rfl rfl (rest := [.int l1]) rfl rfl (Nat.le_of_ble_eq_true rfl) dX6_agreed_32) hP hD hS [0, 1, 2, 3, 6, 7] [4, 5] [2, 3, 4, 5, 0, 1, 6, 7] rfl rfl rfl (by decide) rfl (ws1 := (W_X6_agreed E a_t a_now a_wBy a_wCell a_wFaces a_wFell a_wSign a_wTurns a_refused a_kept a_mind a_tape a_words a_telling a_holds a_sizes a_elements a_moved a_above a_out a_first c_t c_now c_wBy (v4.1) (v4.2.1) (v4.2.2.1) c_wSign (v4.2.2.2))) rfl (fun H locs hP hD hS => ?_)
      refine lv_aload_n hx hb dX6_agreed_35 rfl (lv_at hl 0 rfl) ?_
      refine va_get (D := E.1) (ci := 6) (v := .ref a_now) (C := RX6) (T := TX6) (N := 26) hx hb hts iX6_agreed_X6 hown hK hP 0 rfl rfl 1 (by decide) (hts (.fieldLink RX6 17 "LeftIsAgreedOnModel" "now" "[I") (List.mem_of_getElem? (i := 1) rfl)) (fun _ h9 => h9) rfl dX6_agreed_36 ?_
      refine lv_bipush (v := (91 : Int32)) hx hb dX6_agreed_39 (by decide) ?_
      refine ld_i X hP 1 rfl (inb.vp (by decide)) (v := (c_now 91)) rfl dX6_agreed_41 ?_
      refine lv_icmp_ne (tgt := 51) hx hb dX6_agreed_42 (by decide) (fun hc42 => ?_) (fun hc42 => ?_)
      · have h := if_f h hc42
        refine lv_iconst (v := (0 : Int32)) hx hb dX6_agreed_51 (by decide) ?_
        exact w_X6_agreed_b52 X a_t a_now a_wBy a_wCell a_wFaces a_wFell a_wSign a_wTurns a_refused a_kept a_mind a_tape a_words a_telling a_holds a_sizes a_elements a_moved a_above a_out a_first c_t c_now c_wBy c_wSign res (f_X6_agreed_b4 c_t c_now c_wBy c_wSign n) ih (v4.1) (v4.2.1) (v4.2.2.1) (v4.2.2.2) l2 (0 : Int32) l1 _ _ _ h hP hD hS (lv_sub hl [0, 2] rfl)
      · have h := if_t h hc42
        refine lv_iconst (v := (1 : Int32)) hx hb dX6_agreed_45 (by decide) ?_
        refine lv_iload_n hx hb dX6_agreed_46 rfl (lv_at hl 2 rfl) ?_
        refine lv_ishl hx hb dX6_agreed_47 ?_
        refine lv_goto (tgt := 52) hx hb dX6_agreed_48 (by decide) ?_
        exact w_X6_agreed_b52 X a_t a_now a_wBy a_wCell a_wFaces a_wFell a_wSign a_wTurns a_refused a_kept a_mind a_tape a_words a_telling a_holds a_sizes a_elements a_moved a_above a_out a_first c_t c_now c_wBy c_wSign res (f_X6_agreed_b4 c_t c_now c_wBy c_wSign n) ih (v4.1) (v4.2.1) (v4.2.2.1) (v4.2.2.2) l2 ((1 : Int32) <<< (l2 &&& 31)) l1 _ _ _ h hP hD hS (lv_sub hl [0, 2] rfl)
set_option maxRecDepth 100000 in
set_option maxHeartbeats 4000000 in
theorem w_X6_agreed (X : Ctx p m meth c cX6_agreed 3 ((some .int)) s args wsX6_agreed RX6 E A) (a_t : Nat) (a_now : Nat) (a_wBy : Nat) (a_wCell : Nat) (a_wFaces : Nat) (a_wFell : Nat) (a_wSign : Nat) (a_wTurns : Nat) (a_refused : Nat) (a_kept : Nat) (a_mind : Nat) (a_tape : Nat) (a_words : Nat) (a_telling : Nat) (a_holds : Nat) (a_sizes : Nat) (a_elements : Nat) (a_moved : Nat) (a_above : Nat) (a_out : Nat) (a_first : Nat) (c_t : Nat → Int32) (c_now : Nat → Int32) (c_wBy : Nat → Int32) (c_wSign : Nat → Int32) (res : Int32 × (Nat → Int32) × (Nat → Int32) × (Nat → Int32) × (Nat → Int32)) (c_wCell : Nat → Int32) (c_wFaces : Nat → Int32) (c_wFell : Nat → Int32) (c_wTurns : Nat → Int32) (ls : Array Slot) (H : Heap) (locs : List Loc) (h : f_X6_agreed c_t c_now c_wBy c_wCell c_wFaces c_wFell c_wSign c_wTurns = some res) (hP : va_P E.1 vwCl (W_X6_agreed E a_t a_now a_wBy a_wCell a_wFaces a_wFell a_wSign a_wTurns a_refused a_kept a_mind a_tape a_words a_telling a_holds a_sizes a_elements a_moved a_above a_out a_first c_t c_now c_wBy c_wCell c_wFaces c_wFell c_wSign c_wTurns) H) (hD : va_D A (W_X6_agreed E a_t a_now a_wBy a_wCell a_wFaces a_wFell a_wSign a_wTurns a_refused a_kept a_mind a_tape a_words a_telling a_holds a_sizes a_elements a_moved a_above a_out a_first c_t c_now c_wBy c_wCell c_wFaces c_wFell c_wSign c_wTurns)) (hS : va_S A s.heap H locs) (hl : lv_has ls 3 [(0, .ref a_t)]) : W p l e r_X6_agreed s m args below meth c H locs 0 0 (MQ below (qI E A (res.1) (W_X6_agreed E a_t a_now a_wBy a_wCell a_wFaces a_wFell a_wSign a_wTurns a_refused a_kept a_mind a_tape a_words a_telling a_holds a_sizes a_elements a_moved a_above a_out a_first c_t c_now c_wBy (res.2.1) (res.2.2.1) (res.2.2.2.1) c_wSign (res.2.2.2.2))) args s 0 0 A) (F0 m 0 ls []) := by
  obtain ⟨hx, hb, hml, hr, hlk, hown, hts, hG, hA⟩ := id X
  have hK := hG.1
  have hN := hG.2.1
  unfold f_X6_agreed at h
  refine lv_iconst (v := (0 : Int32)) hx hb dX6_agreed_0 (by decide) ?_
  refine lv_istore_n (lv' := [(1, .int (0 : Int32)), (0, .ref a_t)]) hx hb dX6_agreed_1 rfl hl (by decide) rfl (fun ls hl => ?_)
  refine lv_iconst (v := (0 : Int32)) hx hb dX6_agreed_2 (by decide) ?_
  refine lv_istore_n (lv' := [(2, .int (0 : Int32)), (1, .int (0 : Int32)), (0, .ref a_t)]) hx hb dX6_agreed_3 rfl hl (by decide) rfl (fun ls hl => ?_)
  exact w_X6_agreed_b4 X a_t a_now a_wBy a_wCell a_wFaces a_wFell a_wSign a_wTurns a_refused a_kept a_mind a_tape a_words a_telling a_holds a_sizes a_elements a_moved a_above a_out a_first c_t c_now c_wBy c_wSign res FU c_wCell c_wFaces c_wFell c_wTurns (0 : Int32) (0 : Int32) _ _ _ h hP hD hS (lv_sub hl [2, 1, 0] rfl)
end
set_option maxRecDepth 100000 in
theorem c_X6_agreed (l : Launch) (E : Env0) (a_t : Nat) (a_now : Nat) (a_wBy : Nat) (a_wCell : Nat) (a_wFaces : Nat) (a_wFell : Nat) (a_wSign : Nat) (a_wTurns : Nat) (a_refused : Nat) (a_kept : Nat) (a_mind : Nat) (a_tape : Nat) (a_words : Nat) (a_telling : Nat) (a_holds : Nat) (a_sizes : Nat) (a_elements : Nat) (a_moved : Nat) (a_above : Nat) (a_out : Nat) (a_first : Nat) (c_t : Nat → Int32) (c_now : Nat → Int32) (c_wBy : Nat → Int32) (c_wCell : Nat → Int32) (c_wFaces : Nat → Int32) (c_wFell : Nat → Int32) (c_wSign : Nat → Int32) (c_wTurns : Nat → Int32) (sz : Nat) (res : Int32 × (Nat → Int32) × (Nat → Int32) × (Nat → Int32) × (Nat → Int32)) (h : f_X6_agreed c_t c_now c_wBy c_wCell c_wFaces c_wFell c_wSign c_wTurns = some res) : Met l yX6_agreed wsX6_agreed r_X6_agreed (cPre E [.ref a_t] (W_X6_agreed E a_t a_now a_wBy a_wCell a_wFaces a_wFell a_wSign a_wTurns a_refused a_kept a_mind a_tape a_words a_telling a_holds a_sizes a_elements a_moved a_above a_out a_first c_t c_now c_wBy c_wCell c_wFaces c_wFell c_wSign c_wTurns) sz) (qI E (va_A (W_X6_agreed E a_t a_now a_wBy a_wCell a_wFaces a_wFell a_wSign a_wTurns a_refused a_kept a_mind a_tape a_words a_telling a_holds a_sizes a_elements a_moved a_above a_out a_first c_t c_now c_wBy c_wCell c_wFaces c_wFell c_wSign c_wTurns) sz) (res.1) (W_X6_agreed E a_t a_now a_wBy a_wCell a_wFaces a_wFell a_wSign a_wTurns a_refused a_kept a_mind a_tape a_words a_telling a_holds a_sizes a_elements a_moved a_above a_out a_first c_t c_now c_wBy (res.2.1) (res.2.2.1) (res.2.2.2.1) c_wSign (res.2.2.2.2))) 0 0 (va_A (W_X6_agreed E a_t a_now a_wBy a_wCell a_wFaces a_wFell a_wSign a_wTurns a_refused a_kept a_mind a_tape a_words a_telling a_holds a_sizes a_elements a_moved a_above a_out a_first c_t c_now c_wBy c_wCell c_wFaces c_wFell c_wSign c_wTurns) sz) :=
  met_of (Qc := fun A => qI E A (res.1) (W_X6_agreed E a_t a_now a_wBy a_wCell a_wFaces a_wFell a_wSign a_wTurns a_refused a_kept a_mind a_tape a_words a_telling a_holds a_sizes a_elements a_moved a_above a_out a_first c_t c_now c_wBy (res.2.1) (res.2.2.1) (res.2.2.2.1) c_wSign (res.2.2.2.2))) (by decide) rfl (Nat.le_of_ble_eq_true rfl) (fun p e s m args below meth c X hP hD hS ls hl => w_X6_agreed X a_t a_now a_wBy a_wCell a_wFaces a_wFell a_wSign a_wTurns a_refused a_kept a_mind a_tape a_words a_telling a_holds a_sizes a_elements a_moved a_above a_out a_first c_t c_now c_wBy c_wSign res c_wCell c_wFaces c_wFell c_wTurns ls _ _ h hP hD hS hl)
-- ===== X6_loadBoth
abbrev W_X6_loadBoth (E : Env0) (a_t : Nat) (a_elements : Nat) (a_first : Nat) (a_holds : Nat) (a_now : Nat) (a_sizes : Nat) (a_telling : Nat) (a_refused : Nat) (a_kept : Nat) (a_mind : Nat) (a_tape : Nat) (a_words : Nat) (a_wCell : Nat) (a_wFaces : Nat) (a_wTurns : Nat) (a_wSign : Nat) (a_wBy : Nat) (a_wFell : Nat) (a_moved : Nat) (a_above : Nat) (a_out : Nat) (c_t : Nat → Int32) (c_elements : Nat → Int64) (c_first : Nat → Int32) (c_holds : Nat → Int32) (c_now : Nat → Int32) (c_sizes : Nat → Int32) (c_telling : Nat → Int32) : va_W := [(a_t, .inr (6, [.ref a_refused, .ref a_now, .ref a_kept, .ref a_mind, .int (c_t 4), .ref a_tape, .int (c_t 6), .int (c_t 7), .int (c_t 8), .int (c_t 9), .ref a_words, .ref a_wCell, .ref a_wFaces, .ref a_wTurns, .ref a_wSign, .ref a_wBy, .ref a_wFell, .int (c_t 17), .ref a_telling, .ref a_holds, .ref a_sizes, .ref a_elements, .ref a_moved, .ref a_above, .ref a_out, .ref a_first])), (a_elements, .inl (eJ E, 320, .inr (.inl c_elements))), (a_first, .inl (eI E, 40, .inl c_first)), (a_holds, .inl (eI E, 8, .inl c_holds)), (a_now, .inl (eI E, 97, .inl c_now)), (a_sizes, .inl (eI E, 8, .inl c_sizes)), (a_telling, .inl (eI E, 40, .inl c_telling))]
abbrev r_X6_loadBoth : Room := { frames := 2, cells := 0, slots := 0, locals := 48 }
theorem hd_X6_loadBoth : yX6_loadBoth.cls ≠ "java/lang/invoke/MethodHandle" ∧ yX6_loadBoth.cls ≠ "java/lang/invoke/VarHandle" ∧ (parseMethodDescriptor yX6_loadBoth.desc).map (fun d => d.parameters.length) = some 6 := by decide +kernel
theorem hV_X6_loadBoth : yX6_loadBoth.cls = RX6 ∧ yX6_loadBoth.cls ≠ "java/lang/invoke/MethodHandle" ∧ yX6_loadBoth.cls ≠ "java/lang/invoke/VarHandle" ∧ (parseMethodDescriptor yX6_loadBoth.desc).map (fun d => d.parameters.length) = some 6 := ⟨rfl, hd_X6_loadBoth⟩
theorem iX6_loadBoth_X6 : ∀ w ∈ wsX60, w ∈ wsX6_loadBoth := fun _ h => List.mem_cons_of_mem _ (List.mem_append_right _ (h))
section
variable {p : Program} {l : Launch} {e : Env} {s : State} {m : MethodId} {args : Array Value} {below : List Frame} {meth : Method} {c : Code} {E : Env0} {A : Nat → Prop}
set_option maxRecDepth 100000 in
set_option maxHeartbeats 4000000 in
theorem w_X6_loadBoth_b184 (X : Ctx p m meth c cX6_loadBoth 9 ((some .int)) s args wsX6_loadBoth RX6 E A) (a_t : Nat) (a_elements : Nat) (a_first : Nat) (a_holds : Nat) (a_now : Nat) (a_sizes : Nat) (a_telling : Nat) (a_refused : Nat) (a_kept : Nat) (a_mind : Nat) (a_tape : Nat) (a_words : Nat) (a_wCell : Nat) (a_wFaces : Nat) (a_wTurns : Nat) (a_wSign : Nat) (a_wBy : Nat) (a_wFell : Nat) (a_moved : Nat) (a_above : Nat) (a_out : Nat) (c_t : Nat → Int32) (c_elements : Nat → Int64) (c_holds : Nat → Int32) (c_now : Nat → Int32) (c_sizes : Nat → Int32) (res : Int32 × (Nat → Int32) × (Nat → Int32)) (c_first : Nat → Int32) (c_telling : Nat → Int32) (l4 : Int32) (l5 : Int32) (l7 : Int32) (ls : Array Slot) (H : Heap) (locs : List Loc) (h : f_X6_loadBoth_b184 c_t c_elements c_holds c_now c_sizes c_first c_telling l4 l5 l7 = some res) (hP : va_P E.1 vwCl (W_X6_loadBoth E a_t a_elements a_first a_holds a_now a_sizes a_telling a_refused a_kept a_mind a_tape a_words a_wCell a_wFaces a_wTurns a_wSign a_wBy a_wFell a_moved a_above a_out c_t c_elements c_first c_holds c_now c_sizes c_telling) H) (hD : va_D A (W_X6_loadBoth E a_t a_elements a_first a_holds a_now a_sizes a_telling a_refused a_kept a_mind a_tape a_words a_wCell a_wFaces a_wTurns a_wSign a_wBy a_wFell a_moved a_above a_out c_t c_elements c_first c_holds c_now c_sizes c_telling)) (hS : va_S A s.heap H locs) (hl : lv_has ls 9 [(0, .ref a_t), (4, .int l4), (5, .int l5), (7, .int l7)]) : W p l e r_X6_loadBoth s m args below meth c H locs 0 0 (MQ below (qI E A (res.1) (W_X6_loadBoth E a_t a_elements a_first a_holds a_now a_sizes a_telling a_refused a_kept a_mind a_tape a_words a_wCell a_wFaces a_wTurns a_wSign a_wBy a_wFell a_moved a_above a_out c_t c_elements (res.2.1) c_holds c_now c_sizes (res.2.2))) args s 0 0 A) (F0 m 184 ls []) := by
  obtain ⟨hx, hb, hml, hr, hlk, hown, hts, hG, hA⟩ := id X
  have hK := hG.1
  have hN := hG.2.1
  unfold f_X6_loadBoth_b184 at h
  refine lv_iload hx hb dX6_loadBoth_184 (lv_at hl 3 rfl) ?_
  refine lv_iconst (v := (1 : Int32)) hx hb dX6_loadBoth_186 (by decide) ?_
  refine lv_icmp_ne (tgt := 201) hx hb dX6_loadBoth_187 (by decide) (fun hc187 => ?_) (fun hc187 => ?_)
  · have h := if_f h hc187
    refine lv_iload hx hb dX6_loadBoth_201 (lv_at hl 3 rfl) ?_
    obtain rfl := Option.some.inj h
    exact ret_i X dX6_loadBoth_203 hP hD hS rfl
  · have h := if_t h hc187
    refine lv_aload_n hx hb dX6_loadBoth_190 rfl (lv_at hl 0 rfl) ?_
    refine lv_iload hx hb dX6_loadBoth_191 (lv_at hl 1 rfl) ?_
    refine lv_iload hx hb dX6_loadBoth_193 (lv_at hl 2 rfl) ?_
    obtain ⟨v1, hv1, h⟩ := bind_of h
    refine after_i X (run_V X (c_X6_load l E a_t a_elements a_holds a_sizes a_telling a_refused a_now a_kept a_mind a_tape a_words a_wCell a_wFaces a_wTurns a_wSign a_wBy a_wFell a_moved a_above a_out a_first l4 l5 c_t c_elements c_holds c_sizes c_telling H.size v1 hv1) (cwV 2 hts gX6_loadBoth_X6_load rfl rfl rfl hV_X6_load ⟨(Nat.le_of_ble_eq_true rfl), (Nat.le_of_ble_eq_true rfl)⟩) hP hD hS [0, 1, 3, 5, 6] rfl rfl hl.1 (ci := 6) rfl rfl rfl (rest := []) rfl rfl (Nat.le_of_ble_eq_true rfl) dX6_loadBoth_195) hP hD hS [0, 1, 3, 5, 6] [2, 4] [2, 3, 0, 4, 1, 5, 6] rfl rfl rfl (by decide) rfl (ws1 := (W_X6_loadBoth E a_t a_elements a_first a_holds a_now a_sizes a_telling a_refused a_kept a_mind a_tape a_words a_wCell a_wFaces a_wTurns a_wSign a_wBy a_wFell a_moved a_above a_out c_t c_elements c_first c_holds c_now c_sizes (v1.2))) rfl (fun H locs hP hD hS => ?_)
    refine lv_goto (tgt := 203) hx hb dX6_loadBoth_198 (by decide) ?_
    obtain rfl := Option.some.inj h
    exact ret_i X dX6_loadBoth_203 hP hD hS rfl
set_option maxRecDepth 100000 in
set_option maxHeartbeats 4000000 in
theorem w_X6_loadBoth_b152 (X : Ctx p m meth c cX6_loadBoth 9 ((some .int)) s args wsX6_loadBoth RX6 E A) (a_t : Nat) (a_elements : Nat) (a_first : Nat) (a_holds : Nat) (a_now : Nat) (a_sizes : Nat) (a_telling : Nat) (a_refused : Nat) (a_kept : Nat) (a_mind : Nat) (a_tape : Nat) (a_words : Nat) (a_wCell : Nat) (a_wFaces : Nat) (a_wTurns : Nat) (a_wSign : Nat) (a_wBy : Nat) (a_wFell : Nat) (a_moved : Nat) (a_above : Nat) (a_out : Nat) (c_t : Nat → Int32) (c_elements : Nat → Int64) (c_holds : Nat → Int32) (c_now : Nat → Int32) (c_sizes : Nat → Int32) (res : Int32 × (Nat → Int32) × (Nat → Int32)) : ∀ (n : Nat) (c_first : Nat → Int32) (c_telling : Nat → Int32) (l2 : Int32) (l4 : Int32) (l5 : Int32) (l7 : Int32) (l8 : Int32) (ls : Array Slot) (H : Heap) (locs : List Loc), f_X6_loadBoth_b152 c_t c_elements c_holds c_now c_sizes n c_first c_telling l2 l4 l5 l7 l8 = some res → va_P E.1 vwCl (W_X6_loadBoth E a_t a_elements a_first a_holds a_now a_sizes a_telling a_refused a_kept a_mind a_tape a_words a_wCell a_wFaces a_wTurns a_wSign a_wBy a_wFell a_moved a_above a_out c_t c_elements c_first c_holds c_now c_sizes c_telling) H → va_D A (W_X6_loadBoth E a_t a_elements a_first a_holds a_now a_sizes a_telling a_refused a_kept a_mind a_tape a_words a_wCell a_wFaces a_wTurns a_wSign a_wBy a_wFell a_moved a_above a_out c_t c_elements c_first c_holds c_now c_sizes c_telling) → va_S A s.heap H locs → lv_has ls 9 [(0, .ref a_t), (2, .int l2), (4, .int l4), (5, .int l5), (7, .int l7), (8, .int l8)] → W p l e r_X6_loadBoth s m args below meth c H locs 0 0 (MQ below (qI E A (res.1) (W_X6_loadBoth E a_t a_elements a_first a_holds a_now a_sizes a_telling a_refused a_kept a_mind a_tape a_words a_wCell a_wFaces a_wTurns a_wSign a_wBy a_wFell a_moved a_above a_out c_t c_elements (res.2.1) c_holds c_now c_sizes (res.2.2))) args s 0 0 A) (F0 m 152 ls []) := by
  obtain ⟨hx, hb, hml, hr, hlk, hown, hts, hG, hA⟩ := id X
  have hK := hG.1
  have hN := hG.2.1
  intro n
  induction n with
  | zero =>
    intro c_first c_telling l2 l4 l5 l7 l8 ls H locs h
    exact absurd (show (none : Option (Int32 × (Nat → Int32) × (Nat → Int32))) = some res from h) (by intro q; cases q)
  | succ n ih =>
    intro c_first c_telling l2 l4 l5 l7 l8 ls H locs h hP hD hS hl
    rw [f_X6_loadBoth_b152] at h
    refine lv_iload hx hb dX6_loadBoth_152 (lv_at hl 5 rfl) ?_
    refine lv_iload_n hx hb dX6_loadBoth_154 rfl (lv_at hl 1 rfl) ?_
    refine lv_icmp_ge (tgt := 184) hx hb dX6_loadBoth_155 (by decide) (fun hc155 => ?_) (fun hc155 => ?_)
    · have h := if_t h hc155
      exact w_X6_loadBoth_b184 X a_t a_elements a_first a_holds a_now a_sizes a_telling a_refused a_kept a_mind a_tape a_words a_wCell a_wFaces a_wTurns a_wSign a_wBy a_wFell a_moved a_above a_out c_t c_elements c_holds c_now c_sizes res c_first c_telling l4 l5 l7 _ _ _ h hP hD hS (lv_sub hl [0, 2, 3, 4] rfl)
    · have h := if_f h hc155
      refine lv_iload hx hb dX6_loadBoth_158 (lv_at hl 4 rfl) ?_
      refine lv_iconst (v := (1 : Int32)) hx hb dX6_loadBoth_160 (by decide) ?_
      refine lv_icmp_ne (tgt := 184) hx hb dX6_loadBoth_161 (by decide) (fun hc161 => ?_) (fun hc161 => ?_)
      · have h := if_f h hc161
        exact w_X6_loadBoth_b184 X a_t a_elements a_first a_holds a_now a_sizes a_telling a_refused a_kept a_mind a_tape a_words a_wCell a_wFaces a_wTurns a_wSign a_wBy a_wFell a_moved a_above a_out c_t c_elements c_holds c_now c_sizes res c_first c_telling l4 l5 l7 _ _ _ h hP hD hS (lv_sub hl [0, 2, 3, 4] rfl)
      · have h := if_t h hc161
        refine lv_aload_n hx hb dX6_loadBoth_164 rfl (lv_at hl 0 rfl) ?_
        refine va_get (D := E.1) (ci := 6) (v := .ref a_first) (C := RX6) (T := TX6) (N := 26) hx hb hts iX6_loadBoth_X6 hown hK hP 0 rfl rfl 25 (by decide) (hts (.fieldLink RX6 73 "LeftIsAgreedOnModel" "first" "[I") (List.mem_of_getElem? (i := 4) rfl)) (fun _ h9 => h9) rfl dX6_loadBoth_165 ?_
        refine lv_iload hx hb dX6_loadBoth_168 (lv_at hl 5 rfl) ?_
        refine lv_aload_n hx hb dX6_loadBoth_170 rfl (lv_at hl 0 rfl) ?_
        refine va_get (D := E.1) (ci := 6) (v := .ref a_telling) (C := RX6) (T := TX6) (N := 26) hx hb hts iX6_loadBoth_X6 hown hK hP 0 rfl rfl 18 (by decide) (hts (.fieldLink RX6 51 "LeftIsAgreedOnModel" "telling" "[I") (List.mem_of_getElem? (i := 5) rfl)) (fun _ h9 => h9) rfl dX6_loadBoth_171 ?_
        refine lv_iload hx hb dX6_loadBoth_174 (lv_at hl 5 rfl) ?_
        obtain ⟨hz176, h⟩ := chk_of h
        refine ld_i X hP 6 rfl (inb.vp hz176) (v := (c_telling (l8).toNatClampNeg)) rfl dX6_loadBoth_176 ?_
        obtain ⟨hz177, h⟩ := chk_of h
        refine st_i X hP hD hS 2 rfl (inb.vp hz177) (k := (l8).toNatClampNeg) rfl (ws1 := (W_X6_loadBoth E a_t a_elements a_first a_holds a_now a_sizes a_telling a_refused a_kept a_mind a_tape a_words a_wCell a_wFaces a_wTurns a_wSign a_wBy a_wFell a_moved a_above a_out c_t c_elements (upd c_first ((l8).toNatClampNeg) (c_telling (l8).toNatClampNeg)) c_holds c_now c_sizes c_telling)) rfl dX6_loadBoth_177 (fun H locs hP hD hS => ?_)
        refine lv_iinc (v := (l8 + (1 : Int32))) (lv' := [(8, .int (l8 + (1 : Int32))), (0, .ref a_t), (2, .int l2), (4, .int l4), (5, .int l5), (7, .int l7)]) hx hb dX6_loadBoth_178 hl (k := 5) rfl rfl (by decide) rfl (fun ls hl => ?_)
        refine lv_goto (tgt := 152) hx hb dX6_loadBoth_181 (by decide) ?_
        exact ih (upd c_first ((l8).toNatClampNeg) (c_telling (l8).toNatClampNeg)) c_telling l2 l4 l5 l7 (l8 + (1 : Int32)) _ _ _ h hP hD hS (lv_sub hl [1, 2, 3, 4, 5, 0] rfl)
set_option maxRecDepth 100000 in
set_option maxHeartbeats 4000000 in
theorem w_X6_loadBoth (X : Ctx p m meth c cX6_loadBoth 9 ((some .int)) s args wsX6_loadBoth RX6 E A) (a_t : Nat) (a_elements : Nat) (a_first : Nat) (a_holds : Nat) (a_now : Nat) (a_sizes : Nat) (a_telling : Nat) (a_refused : Nat) (a_kept : Nat) (a_mind : Nat) (a_tape : Nat) (a_words : Nat) (a_wCell : Nat) (a_wFaces : Nat) (a_wTurns : Nat) (a_wSign : Nat) (a_wBy : Nat) (a_wFell : Nat) (a_moved : Nat) (a_above : Nat) (a_out : Nat) (c_t : Nat → Int32) (c_elements : Nat → Int64) (c_holds : Nat → Int32) (c_now : Nat → Int32) (c_sizes : Nat → Int32) (res : Int32 × (Nat → Int32) × (Nat → Int32)) (c_first : Nat → Int32) (c_telling : Nat → Int32) (l1 : Int32) (l2 : Int32) (l3 : Int32) (l4 : Int32) (l5 : Int32) (l6 : Int32) (ls : Array Slot) (H : Heap) (locs : List Loc) (h : f_X6_loadBoth l1 l2 l3 l4 l5 l6 c_t c_elements c_first c_holds c_now c_sizes c_telling = some res) (hP : va_P E.1 vwCl (W_X6_loadBoth E a_t a_elements a_first a_holds a_now a_sizes a_telling a_refused a_kept a_mind a_tape a_words a_wCell a_wFaces a_wTurns a_wSign a_wBy a_wFell a_moved a_above a_out c_t c_elements c_first c_holds c_now c_sizes c_telling) H) (hD : va_D A (W_X6_loadBoth E a_t a_elements a_first a_holds a_now a_sizes a_telling a_refused a_kept a_mind a_tape a_words a_wCell a_wFaces a_wTurns a_wSign a_wBy a_wFell a_moved a_above a_out c_t c_elements c_first c_holds c_now c_sizes c_telling)) (hS : va_S A s.heap H locs) (hl : lv_has ls 9 [(0, .ref a_t), (1, .int l1), (2, .int l2), (3, .int l3), (4, .int l4), (5, .int l5), (6, .int l6)]) : W p l e r_X6_loadBoth s m args below meth c H locs 0 0 (MQ below (qI E A (res.1) (W_X6_loadBoth E a_t a_elements a_first a_holds a_now a_sizes a_telling a_refused a_kept a_mind a_tape a_words a_wCell a_wFaces a_wTurns a_wSign a_wBy a_wFell a_moved a_above a_out c_t c_elements (res.2.1) c_holds c_now c_sizes (res.2.2))) args s 0 0 A) (F0 m 0 ls []) := by
  obtain ⟨hx, hb, hml, hr, hlk, hown, hts, hG, hA⟩ := id X
  have hK := hG.1
  have hN := hG.2.1
  unfold f_X6_loadBoth at h
  refine lv_iload_n hx hb dX6_loadBoth_0 rfl (lv_at hl 1 rfl) ?_
  obtain ⟨v1, hv1, h⟩ := bind_of h
  refine after_i X (run_S X (c_X6_isShelf l E l1 H.size v1 hv1) (va_cwS 1 hts gX6_loadBoth_X6_isShelf rfl rfl rfl hd_X6_isShelf ⟨(Nat.le_of_ble_eq_true rfl), (Nat.le_of_ble_eq_true rfl)⟩) hP hD hS [] rfl rfl hl.1 (rest := []) rfl rfl (Nat.le_of_ble_eq_true rfl) dX6_loadBoth_1) hP hD hS [] [0, 1, 2, 3, 4, 5, 6] [0, 1, 2, 3, 4, 5, 6] rfl rfl rfl (by decide) rfl (ws1 := (W_X6_loadBoth E a_t a_elements a_first a_holds a_now a_sizes a_telling a_refused a_kept a_mind a_tape a_words a_wCell a_wFaces a_wTurns a_wSign a_wBy a_wFell a_moved a_above a_out c_t c_elements c_first c_holds c_now c_sizes c_telling)) rfl (fun H locs hP hD hS => ?_)
  refine lv_if_eq (tgt := 63) hx hb dX6_loadBoth_4 (by decide) (fun hc4 => ?_) (fun hc4 => ?_)
  · have h := if_t h hc4
    refine lv_bipush (v := (-2 : Int32)) hx hb dX6_loadBoth_63 (by decide) ?_
    obtain rfl := Option.some.inj h
    exact ret_i X dX6_loadBoth_65 hP hD hS rfl
  · have h := if_f h hc4
    refine lv_iload hx hb dX6_loadBoth_7 (lv_at hl 4 rfl) ?_
    obtain ⟨v2, hv2, h⟩ := bind_of h
    refine after_i X (run_S X (c_X6_isShelf l E l4 H.size v2 hv2) (va_cwS 1 hts gX6_loadBoth_X6_isShelf rfl rfl rfl hd_X6_isShelf ⟨(Nat.le_of_ble_eq_true rfl), (Nat.le_of_ble_eq_true rfl)⟩) hP hD hS [] rfl rfl hl.1 (rest := []) rfl rfl (Nat.le_of_ble_eq_true rfl) dX6_loadBoth_9) hP hD hS [] [0, 1, 2, 3, 4, 5, 6] [0, 1, 2, 3, 4, 5, 6] rfl rfl rfl (by decide) rfl (ws1 := (W_X6_loadBoth E a_t a_elements a_first a_holds a_now a_sizes a_telling a_refused a_kept a_mind a_tape a_words a_wCell a_wFaces a_wTurns a_wSign a_wBy a_wFell a_moved a_above a_out c_t c_elements c_first c_holds c_now c_sizes c_telling)) rfl (fun H locs hP hD hS => ?_)
    refine lv_if_eq (tgt := 63) hx hb dX6_loadBoth_12 (by decide) (fun hc12 => ?_) (fun hc12 => ?_)
    · have h := if_t h hc12
      refine lv_bipush (v := (-2 : Int32)) hx hb dX6_loadBoth_63 (by decide) ?_
      obtain rfl := Option.some.inj h
      exact ret_i X dX6_loadBoth_65 hP hD hS rfl
    · have h := if_f h hc12
      refine lv_iload_n hx hb dX6_loadBoth_15 rfl (lv_at hl 2 rfl) ?_
      refine lv_i2l (v := (l2.toInt64)) hx hb dX6_loadBoth_16 rfl ?_
      refine lv_lconst (v := (0 : Int64)) hx hb dX6_loadBoth_17 (by decide) ?_
      refine lv_ldc2 (v := (40 : Int64)) hx hb hown (hts (.constantLong RX6 208 (40)) (List.mem_of_getElem? (i := 1) rfl)) dX6_loadBoth_18 ?_
      obtain ⟨v3, hv3, h⟩ := bind_of h
      refine after_i X (run_S X (c_X6_isIn l E (l2.toInt64) (0 : Int64) (40 : Int64) H.size v3 hv3) (va_cwS 3 hts gX6_loadBoth_X6_isIn rfl rfl rfl hd_X6_isIn ⟨(Nat.le_of_ble_eq_true rfl), (Nat.le_of_ble_eq_true rfl)⟩) hP hD hS [] rfl rfl hl.1 (rest := []) rfl rfl (Nat.le_of_ble_eq_true rfl) dX6_loadBoth_21) hP hD hS [] [0, 1, 2, 3, 4, 5, 6] [0, 1, 2, 3, 4, 5, 6] rfl rfl rfl (by decide) rfl (ws1 := (W_X6_loadBoth E a_t a_elements a_first a_holds a_now a_sizes a_telling a_refused a_kept a_mind a_tape a_words a_wCell a_wFaces a_wTurns a_wSign a_wBy a_wFell a_moved a_above a_out c_t c_elements c_first c_holds c_now c_sizes c_telling)) rfl (fun H locs hP hD hS => ?_)
      refine lv_if_eq (tgt := 63) hx hb dX6_loadBoth_24 (by decide) (fun hc24 => ?_) (fun hc24 => ?_)
      · have h := if_t h hc24
        refine lv_bipush (v := (-2 : Int32)) hx hb dX6_loadBoth_63 (by decide) ?_
        obtain rfl := Option.some.inj h
        exact ret_i X dX6_loadBoth_65 hP hD hS rfl
      · have h := if_f h hc24
        refine lv_iload hx hb dX6_loadBoth_27 (lv_at hl 5 rfl) ?_
        refine lv_i2l (v := (l5.toInt64)) hx hb dX6_loadBoth_29 rfl ?_
        refine lv_lconst (v := (0 : Int64)) hx hb dX6_loadBoth_30 (by decide) ?_
        refine lv_ldc2 (v := (40 : Int64)) hx hb hown (hts (.constantLong RX6 208 (40)) (List.mem_of_getElem? (i := 1) rfl)) dX6_loadBoth_31 ?_
        obtain ⟨v4, hv4, h⟩ := bind_of h
        refine after_i X (run_S X (c_X6_isIn l E (l5.toInt64) (0 : Int64) (40 : Int64) H.size v4 hv4) (va_cwS 3 hts gX6_loadBoth_X6_isIn rfl rfl rfl hd_X6_isIn ⟨(Nat.le_of_ble_eq_true rfl), (Nat.le_of_ble_eq_true rfl)⟩) hP hD hS [] rfl rfl hl.1 (rest := []) rfl rfl (Nat.le_of_ble_eq_true rfl) dX6_loadBoth_34) hP hD hS [] [0, 1, 2, 3, 4, 5, 6] [0, 1, 2, 3, 4, 5, 6] rfl rfl rfl (by decide) rfl (ws1 := (W_X6_loadBoth E a_t a_elements a_first a_holds a_now a_sizes a_telling a_refused a_kept a_mind a_tape a_words a_wCell a_wFaces a_wTurns a_wSign a_wBy a_wFell a_moved a_above a_out c_t c_elements c_first c_holds c_now c_sizes c_telling)) rfl (fun H locs hP hD hS => ?_)
        refine lv_if_eq (tgt := 63) hx hb dX6_loadBoth_37 (by decide) (fun hc37 => ?_) (fun hc37 => ?_)
        · have h := if_t h hc37
          refine lv_bipush (v := (-2 : Int32)) hx hb dX6_loadBoth_63 (by decide) ?_
          obtain rfl := Option.some.inj h
          exact ret_i X dX6_loadBoth_65 hP hD hS rfl
        · have h := if_f h hc37
          refine lv_aload_n hx hb dX6_loadBoth_40 rfl (lv_at hl 0 rfl) ?_
          refine lv_iload_n hx hb dX6_loadBoth_41 rfl (lv_at hl 3 rfl) ?_
          obtain ⟨v5, hv5, h⟩ := bind_of h
          refine after_i X (run_V X (c_X6_isPerson l E a_t a_now a_refused a_kept a_mind a_tape a_words a_wCell a_wFaces a_wTurns a_wSign a_wBy a_wFell a_telling a_holds a_sizes a_elements a_moved a_above a_out a_first l3 c_t c_now H.size v5 hv5) (cwV 1 hts gX6_loadBoth_X6_isPerson rfl rfl rfl hV_X6_isPerson ⟨(Nat.le_of_ble_eq_true rfl), (Nat.le_of_ble_eq_true rfl)⟩) hP hD hS [0, 4] rfl rfl hl.1 (ci := 6) rfl rfl rfl (rest := []) rfl rfl (Nat.le_of_ble_eq_true rfl) dX6_loadBoth_42) hP hD hS [0, 4] [1, 2, 3, 5, 6] [5, 0, 1, 2, 6, 3, 4] rfl rfl rfl (by decide) rfl (ws1 := (W_X6_loadBoth E a_t a_elements a_first a_holds a_now a_sizes a_telling a_refused a_kept a_mind a_tape a_words a_wCell a_wFaces a_wTurns a_wSign a_wBy a_wFell a_moved a_above a_out c_t c_elements c_first c_holds c_now c_sizes c_telling)) rfl (fun H locs hP hD hS => ?_)
          refine lv_if_eq (tgt := 63) hx hb dX6_loadBoth_45 (by decide) (fun hc45 => ?_) (fun hc45 => ?_)
          · have h := if_t h hc45
            refine lv_bipush (v := (-2 : Int32)) hx hb dX6_loadBoth_63 (by decide) ?_
            obtain rfl := Option.some.inj h
            exact ret_i X dX6_loadBoth_65 hP hD hS rfl
          · have h := if_f h hc45
            refine lv_aload_n hx hb dX6_loadBoth_48 rfl (lv_at hl 0 rfl) ?_
            refine lv_iload hx hb dX6_loadBoth_49 (lv_at hl 6 rfl) ?_
            obtain ⟨v6, hv6, h⟩ := bind_of h
            refine after_i X (run_V X (c_X6_isPerson l E a_t a_now a_refused a_kept a_mind a_tape a_words a_wCell a_wFaces a_wTurns a_wSign a_wBy a_wFell a_telling a_holds a_sizes a_elements a_moved a_above a_out a_first l6 c_t c_now H.size v6 hv6) (cwV 1 hts gX6_loadBoth_X6_isPerson rfl rfl rfl hV_X6_isPerson ⟨(Nat.le_of_ble_eq_true rfl), (Nat.le_of_ble_eq_true rfl)⟩) hP hD hS [0, 4] rfl rfl hl.1 (ci := 6) rfl rfl rfl (rest := []) rfl rfl (Nat.le_of_ble_eq_true rfl) dX6_loadBoth_51) hP hD hS [0, 4] [1, 2, 3, 5, 6] [5, 0, 1, 2, 6, 3, 4] rfl rfl rfl (by decide) rfl (ws1 := (W_X6_loadBoth E a_t a_elements a_first a_holds a_now a_sizes a_telling a_refused a_kept a_mind a_tape a_words a_wCell a_wFaces a_wTurns a_wSign a_wBy a_wFell a_moved a_above a_out c_t c_elements c_first c_holds c_now c_sizes c_telling)) rfl (fun H locs hP hD hS => ?_)
            refine lv_if_eq (tgt := 63) hx hb dX6_loadBoth_54 (by decide) (fun hc54 => ?_) (fun hc54 => ?_)
            · have h := if_t h hc54
              refine lv_bipush (v := (-2 : Int32)) hx hb dX6_loadBoth_63 (by decide) ?_
              obtain rfl := Option.some.inj h
              exact ret_i X dX6_loadBoth_65 hP hD hS rfl
            · have h := if_f h hc54
              refine lv_iload_n hx hb dX6_loadBoth_57 rfl (lv_at hl 3 rfl) ?_
              refine lv_iload hx hb dX6_loadBoth_58 (lv_at hl 6 rfl) ?_
              refine lv_icmp_ne (tgt := 66) hx hb dX6_loadBoth_60 (by decide) (fun hc60 => ?_) (fun hc60 => ?_)
              · have h := if_f h hc60
                refine lv_aload_n hx hb dX6_loadBoth_66 rfl (lv_at hl 0 rfl) ?_
                refine va_get (D := E.1) (ci := 6) (v := .ref a_holds) (C := RX6) (T := TX6) (N := 26) hx hb hts iX6_loadBoth_X6 hown hK hP 0 rfl rfl 19 (by decide) (hts (.fieldLink RX6 54 "LeftIsAgreedOnModel" "holds" "[I") (List.mem_of_getElem? (i := 2) rfl)) (fun _ h9 => h9) rfl dX6_loadBoth_67 ?_
                refine lv_iload_n hx hb dX6_loadBoth_70 rfl (lv_at hl 1 rfl) ?_
                obtain ⟨hz71, h⟩ := chk_of h
                refine ld_i X hP 3 rfl (inb.vp hz71) (v := (c_holds (l1).toNatClampNeg)) rfl dX6_loadBoth_71 ?_
                refine lv_bipush (v := (10 : Int32)) hx hb dX6_loadBoth_72 (by decide) ?_
                refine lv_icmp_ge (tgt := 89) hx hb dX6_loadBoth_74 (by decide) (fun hc74 => ?_) (fun hc74 => ?_)
                · have h := if_t h hc74
                  refine lv_bipush (v := (-3 : Int32)) hx hb dX6_loadBoth_89 (by decide) ?_
                  obtain rfl := Option.some.inj h
                  exact ret_i X dX6_loadBoth_91 hP hD hS rfl
                · have h := if_f h hc74
                  refine lv_aload_n hx hb dX6_loadBoth_77 rfl (lv_at hl 0 rfl) ?_
                  refine va_get (D := E.1) (ci := 6) (v := .ref a_holds) (C := RX6) (T := TX6) (N := 26) hx hb hts iX6_loadBoth_X6 hown hK hP 0 rfl rfl 19 (by decide) (hts (.fieldLink RX6 54 "LeftIsAgreedOnModel" "holds" "[I") (List.mem_of_getElem? (i := 2) rfl)) (fun _ h9 => h9) rfl dX6_loadBoth_78 ?_
                  refine lv_iload hx hb dX6_loadBoth_81 (lv_at hl 4 rfl) ?_
                  obtain ⟨hz83, h⟩ := chk_of h
                  refine ld_i X hP 3 rfl (inb.vp hz83) (v := (c_holds (l4).toNatClampNeg)) rfl dX6_loadBoth_83 ?_
                  refine lv_bipush (v := (10 : Int32)) hx hb dX6_loadBoth_84 (by decide) ?_
                  refine lv_icmp_lt (tgt := 92) hx hb dX6_loadBoth_86 (by decide) (fun hc86 => ?_) (fun hc86 => ?_)
                  · have h := if_t h hc86
                    refine lv_aload_n hx hb dX6_loadBoth_92 rfl (lv_at hl 0 rfl) ?_
                    refine va_get (D := E.1) (ci := 6) (v := .ref a_holds) (C := RX6) (T := TX6) (N := 26) hx hb hts iX6_loadBoth_X6 hown hK hP 0 rfl rfl 19 (by decide) (hts (.fieldLink RX6 54 "LeftIsAgreedOnModel" "holds" "[I") (List.mem_of_getElem? (i := 2) rfl)) (fun _ h9 => h9) rfl dX6_loadBoth_93 ?_
                    refine lv_iload_n hx hb dX6_loadBoth_96 rfl (lv_at hl 1 rfl) ?_
                    obtain ⟨hz97, h⟩ := chk_of h
                    refine ld_i X hP 3 rfl (inb.vp hz97) (v := (c_holds (l1).toNatClampNeg)) rfl dX6_loadBoth_97 ?_
                    refine lv_iconst (v := (-1 : Int32)) hx hb dX6_loadBoth_98 (by decide) ?_
                    refine lv_icmp_eq (tgt := 113) hx hb dX6_loadBoth_99 (by decide) (fun hc99 => ?_) (fun hc99 => ?_)
                    · have h := if_t h hc99
                      refine lv_bipush (v := (-4 : Int32)) hx hb dX6_loadBoth_113 (by decide) ?_
                      obtain rfl := Option.some.inj h
                      exact ret_i X dX6_loadBoth_115 hP hD hS rfl
                    · have h := if_f h hc99
                      refine lv_aload_n hx hb dX6_loadBoth_102 rfl (lv_at hl 0 rfl) ?_
                      refine va_get (D := E.1) (ci := 6) (v := .ref a_holds) (C := RX6) (T := TX6) (N := 26) hx hb hts iX6_loadBoth_X6 hown hK hP 0 rfl rfl 19 (by decide) (hts (.fieldLink RX6 54 "LeftIsAgreedOnModel" "holds" "[I") (List.mem_of_getElem? (i := 2) rfl)) (fun _ h9 => h9) rfl dX6_loadBoth_103 ?_
                      refine lv_iload hx hb dX6_loadBoth_106 (lv_at hl 4 rfl) ?_
                      obtain ⟨hz108, h⟩ := chk_of h
                      refine ld_i X hP 3 rfl (inb.vp hz108) (v := (c_holds (l4).toNatClampNeg)) rfl dX6_loadBoth_108 ?_
                      refine lv_iconst (v := (-1 : Int32)) hx hb dX6_loadBoth_109 (by decide) ?_
                      refine lv_icmp_ne (tgt := 116) hx hb dX6_loadBoth_110 (by decide) (fun hc110 => ?_) (fun hc110 => ?_)
                      · have h := if_f h hc110
                        refine lv_iload_n hx hb dX6_loadBoth_116 rfl (lv_at hl 2 rfl) ?_
                        refine lv_aload_n hx hb dX6_loadBoth_117 rfl (lv_at hl 0 rfl) ?_
                        refine va_get (D := E.1) (ci := 6) (v := .ref a_sizes) (C := RX6) (T := TX6) (N := 26) hx hb hts iX6_loadBoth_X6 hown hK hP 0 rfl rfl 20 (by decide) (hts (.fieldLink RX6 57 "LeftIsAgreedOnModel" "sizes" "[I") (List.mem_of_getElem? (i := 3) rfl)) (fun _ h9 => h9) rfl dX6_loadBoth_118 ?_
                        refine lv_iload_n hx hb dX6_loadBoth_121 rfl (lv_at hl 1 rfl) ?_
                        obtain ⟨hz122, h⟩ := chk_of h
                        refine ld_i X hP 5 rfl (inb.vp hz122) (v := (c_sizes (l1).toNatClampNeg)) rfl dX6_loadBoth_122 ?_
                        refine lv_icmp_gt (tgt := 138) hx hb dX6_loadBoth_123 (by decide) (fun hc123 => ?_) (fun hc123 => ?_)
                        · have h := if_t h hc123
                          refine lv_bipush (v := (-2 : Int32)) hx hb dX6_loadBoth_138 (by decide) ?_
                          obtain rfl := Option.some.inj h
                          exact ret_i X dX6_loadBoth_140 hP hD hS rfl
                        · have h := if_f h hc123
                          refine lv_iload hx hb dX6_loadBoth_126 (lv_at hl 5 rfl) ?_
                          refine lv_aload_n hx hb dX6_loadBoth_128 rfl (lv_at hl 0 rfl) ?_
                          refine va_get (D := E.1) (ci := 6) (v := .ref a_sizes) (C := RX6) (T := TX6) (N := 26) hx hb hts iX6_loadBoth_X6 hown hK hP 0 rfl rfl 20 (by decide) (hts (.fieldLink RX6 57 "LeftIsAgreedOnModel" "sizes" "[I") (List.mem_of_getElem? (i := 3) rfl)) (fun _ h9 => h9) rfl dX6_loadBoth_129 ?_
                          refine lv_iload hx hb dX6_loadBoth_132 (lv_at hl 4 rfl) ?_
                          obtain ⟨hz134, h⟩ := chk_of h
                          refine ld_i X hP 5 rfl (inb.vp hz134) (v := (c_sizes (l4).toNatClampNeg)) rfl dX6_loadBoth_134 ?_
                          refine lv_icmp_le (tgt := 141) hx hb dX6_loadBoth_135 (by decide) (fun hc135 => ?_) (fun hc135 => ?_)
                          · have h := if_t h hc135
                            refine lv_aload_n hx hb dX6_loadBoth_141 rfl (lv_at hl 0 rfl) ?_
                            refine lv_iload_n hx hb dX6_loadBoth_142 rfl (lv_at hl 1 rfl) ?_
                            refine lv_iload_n hx hb dX6_loadBoth_143 rfl (lv_at hl 2 rfl) ?_
                            obtain ⟨v7, hv7, h⟩ := bind_of h
                            refine after_i X (run_V X (c_X6_load l E a_t a_elements a_holds a_sizes a_telling a_refused a_now a_kept a_mind a_tape a_words a_wCell a_wFaces a_wTurns a_wSign a_wBy a_wFell a_moved a_above a_out a_first l1 l2 c_t c_elements c_holds c_sizes c_telling H.size v7 hv7) (cwV 2 hts gX6_loadBoth_X6_load rfl rfl rfl hV_X6_load ⟨(Nat.le_of_ble_eq_true rfl), (Nat.le_of_ble_eq_true rfl)⟩) hP hD hS [0, 1, 3, 5, 6] rfl rfl hl.1 (ci := 6) rfl rfl rfl (rest := []) rfl rfl (Nat.le_of_ble_eq_true rfl) dX6_loadBoth_144) hP hD hS [0, 1, 3, 5, 6] [2, 4] [2, 3, 0, 4, 1, 5, 6] rfl rfl rfl (by decide) rfl (ws1 := (W_X6_loadBoth E a_t a_elements a_first a_holds a_now a_sizes a_telling a_refused a_kept a_mind a_tape a_words a_wCell a_wFaces a_wTurns a_wSign a_wBy a_wFell a_moved a_above a_out c_t c_elements c_first c_holds c_now c_sizes (v7.2))) rfl (fun H locs hP hD hS => ?_)
                            refine lv_istore (lv' := [(7, .int (v7.1)), (0, .ref a_t), (1, .int l1), (2, .int l2), (3, .int l3), (4, .int l4), (5, .int l5), (6, .int l6)]) hx hb dX6_loadBoth_147 hl (by decide) rfl (fun ls hl => ?_)
                            refine lv_iconst (v := (0 : Int32)) hx hb dX6_loadBoth_149 (by decide) ?_
                            refine lv_istore (lv' := [(8, .int (0 : Int32)), (7, .int (v7.1)), (0, .ref a_t), (1, .int l1), (2, .int l2), (3, .int l3), (4, .int l4), (5, .int l5), (6, .int l6)]) hx hb dX6_loadBoth_150 hl (by decide) rfl (fun ls hl => ?_)
                            exact w_X6_loadBoth_b152 X a_t a_elements a_first a_holds a_now a_sizes a_telling a_refused a_kept a_mind a_tape a_words a_wCell a_wFaces a_wTurns a_wSign a_wBy a_wFell a_moved a_above a_out c_t c_elements c_holds c_now c_sizes res FU c_first (v7.2) l2 l4 l5 (v7.1) (0 : Int32) _ _ _ h hP hD hS (lv_sub hl [2, 4, 6, 7, 1, 0] rfl)
                          · have h := if_f h hc135
                            refine lv_bipush (v := (-2 : Int32)) hx hb dX6_loadBoth_138 (by decide) ?_
                            obtain rfl := Option.some.inj h
                            exact ret_i X dX6_loadBoth_140 hP hD hS rfl
                      · have h := if_t h hc110
                        refine lv_bipush (v := (-4 : Int32)) hx hb dX6_loadBoth_113 (by decide) ?_
                        obtain rfl := Option.some.inj h
                        exact ret_i X dX6_loadBoth_115 hP hD hS rfl
                  · have h := if_f h hc86
                    refine lv_bipush (v := (-3 : Int32)) hx hb dX6_loadBoth_89 (by decide) ?_
                    obtain rfl := Option.some.inj h
                    exact ret_i X dX6_loadBoth_91 hP hD hS rfl
              · have h := if_t h hc60
                refine lv_bipush (v := (-2 : Int32)) hx hb dX6_loadBoth_63 (by decide) ?_
                obtain rfl := Option.some.inj h
                exact ret_i X dX6_loadBoth_65 hP hD hS rfl
end
set_option maxRecDepth 100000 in
theorem c_X6_loadBoth (l : Launch) (E : Env0) (a_t : Nat) (a_elements : Nat) (a_first : Nat) (a_holds : Nat) (a_now : Nat) (a_sizes : Nat) (a_telling : Nat) (a_refused : Nat) (a_kept : Nat) (a_mind : Nat) (a_tape : Nat) (a_words : Nat) (a_wCell : Nat) (a_wFaces : Nat) (a_wTurns : Nat) (a_wSign : Nat) (a_wBy : Nat) (a_wFell : Nat) (a_moved : Nat) (a_above : Nat) (a_out : Nat) (l1 : Int32) (l2 : Int32) (l3 : Int32) (l4 : Int32) (l5 : Int32) (l6 : Int32) (c_t : Nat → Int32) (c_elements : Nat → Int64) (c_first : Nat → Int32) (c_holds : Nat → Int32) (c_now : Nat → Int32) (c_sizes : Nat → Int32) (c_telling : Nat → Int32) (sz : Nat) (res : Int32 × (Nat → Int32) × (Nat → Int32)) (h : f_X6_loadBoth l1 l2 l3 l4 l5 l6 c_t c_elements c_first c_holds c_now c_sizes c_telling = some res) : Met l yX6_loadBoth wsX6_loadBoth r_X6_loadBoth (cPre E [.ref a_t, .int l1, .int l2, .int l3, .int l4, .int l5, .int l6] (W_X6_loadBoth E a_t a_elements a_first a_holds a_now a_sizes a_telling a_refused a_kept a_mind a_tape a_words a_wCell a_wFaces a_wTurns a_wSign a_wBy a_wFell a_moved a_above a_out c_t c_elements c_first c_holds c_now c_sizes c_telling) sz) (qI E (va_A (W_X6_loadBoth E a_t a_elements a_first a_holds a_now a_sizes a_telling a_refused a_kept a_mind a_tape a_words a_wCell a_wFaces a_wTurns a_wSign a_wBy a_wFell a_moved a_above a_out c_t c_elements c_first c_holds c_now c_sizes c_telling) sz) (res.1) (W_X6_loadBoth E a_t a_elements a_first a_holds a_now a_sizes a_telling a_refused a_kept a_mind a_tape a_words a_wCell a_wFaces a_wTurns a_wSign a_wBy a_wFell a_moved a_above a_out c_t c_elements (res.2.1) c_holds c_now c_sizes (res.2.2))) 0 0 (va_A (W_X6_loadBoth E a_t a_elements a_first a_holds a_now a_sizes a_telling a_refused a_kept a_mind a_tape a_words a_wCell a_wFaces a_wTurns a_wSign a_wBy a_wFell a_moved a_above a_out c_t c_elements c_first c_holds c_now c_sizes c_telling) sz) :=
  met_of (Qc := fun A => qI E A (res.1) (W_X6_loadBoth E a_t a_elements a_first a_holds a_now a_sizes a_telling a_refused a_kept a_mind a_tape a_words a_wCell a_wFaces a_wTurns a_wSign a_wBy a_wFell a_moved a_above a_out c_t c_elements (res.2.1) c_holds c_now c_sizes (res.2.2))) (by decide) rfl (Nat.le_of_ble_eq_true rfl) (fun p e s m args below meth c X hP hD hS ls hl => w_X6_loadBoth X a_t a_elements a_first a_holds a_now a_sizes a_telling a_refused a_kept a_mind a_tape a_words a_wCell a_wFaces a_wTurns a_wSign a_wBy a_wFell a_moved a_above a_out c_t c_elements c_holds c_now c_sizes res c_first c_telling l1 l2 l3 l4 l5 l6 ls _ _ h hP hD hS hl)
-- ===== X6_met
abbrev W_X6_met (E : Env0) (a_t : Nat) (a_first : Nat) (a_now : Nat) (a_telling : Nat) (a_wBy : Nat) (a_wCell : Nat) (a_wFaces : Nat) (a_wFell : Nat) (a_wSign : Nat) (a_wTurns : Nat) (a_refused : Nat) (a_kept : Nat) (a_mind : Nat) (a_tape : Nat) (a_words : Nat) (a_holds : Nat) (a_sizes : Nat) (a_elements : Nat) (a_moved : Nat) (a_above : Nat) (a_out : Nat) (c_t : Nat → Int32) (c_first : Nat → Int32) (c_now : Nat → Int32) (c_telling : Nat → Int32) (c_wBy : Nat → Int32) (c_wCell : Nat → Int32) (c_wFaces : Nat → Int32) (c_wFell : Nat → Int32) (c_wSign : Nat → Int32) (c_wTurns : Nat → Int32) : va_W := [(a_t, .inr (6, [.ref a_refused, .ref a_now, .ref a_kept, .ref a_mind, .int (c_t 4), .ref a_tape, .int (c_t 6), .int (c_t 7), .int (c_t 8), .int (c_t 9), .ref a_words, .ref a_wCell, .ref a_wFaces, .ref a_wTurns, .ref a_wSign, .ref a_wBy, .ref a_wFell, .int (c_t 17), .ref a_telling, .ref a_holds, .ref a_sizes, .ref a_elements, .ref a_moved, .ref a_above, .ref a_out, .ref a_first])), (a_first, .inl (eI E, 40, .inl c_first)), (a_now, .inl (eI E, 97, .inl c_now)), (a_telling, .inl (eI E, 40, .inl c_telling)), (a_wBy, .inl (eI E, 2, .inl c_wBy)), (a_wCell, .inl (eI E, 2, .inl c_wCell)), (a_wFaces, .inl (eI E, 2, .inl c_wFaces)), (a_wFell, .inl (eI E, 2, .inl c_wFell)), (a_wSign, .inl (eI E, 2, .inl c_wSign)), (a_wTurns, .inl (eI E, 2, .inl c_wTurns))]
abbrev r_X6_met : Room := { frames := 5, cells := 0, slots := 0, locals := 122 }
theorem hd_X6_met : yX6_met.cls ≠ "java/lang/invoke/MethodHandle" ∧ yX6_met.cls ≠ "java/lang/invoke/VarHandle" ∧ (parseMethodDescriptor yX6_met.desc).map (fun d => d.parameters.length) = some 5 := by decide +kernel
theorem hV_X6_met : yX6_met.cls = RX6 ∧ yX6_met.cls ≠ "java/lang/invoke/MethodHandle" ∧ yX6_met.cls ≠ "java/lang/invoke/VarHandle" ∧ (parseMethodDescriptor yX6_met.desc).map (fun d => d.parameters.length) = some 5 := ⟨rfl, hd_X6_met⟩
theorem iX6_met_X6 : ∀ w ∈ wsX60, w ∈ wsX6_met := fun _ h => List.mem_cons_of_mem _ (List.mem_append_right _ (h))
section
variable {p : Program} {l : Launch} {e : Env} {s : State} {m : MethodId} {args : Array Value} {below : List Frame} {meth : Method} {c : Code} {E : Env0} {A : Nat → Prop}
set_option maxRecDepth 100000 in
set_option maxHeartbeats 4000000 in
theorem w_X6_met_b185 (X : Ctx p m meth c cX6_met 9 ((some .int)) s args wsX6_met RX6 E A) (a_t : Nat) (a_first : Nat) (a_now : Nat) (a_telling : Nat) (a_wBy : Nat) (a_wCell : Nat) (a_wFaces : Nat) (a_wFell : Nat) (a_wSign : Nat) (a_wTurns : Nat) (a_refused : Nat) (a_kept : Nat) (a_mind : Nat) (a_tape : Nat) (a_words : Nat) (a_holds : Nat) (a_sizes : Nat) (a_elements : Nat) (a_moved : Nat) (a_above : Nat) (a_out : Nat) (c_first : Nat → Int32) (c_now : Nat → Int32) (c_telling : Nat → Int32) (res : Int32 × (Nat → Int32) × (Nat → Int32) × (Nat → Int32) × (Nat → Int32) × (Nat → Int32) × (Nat → Int32) × (Nat → Int32)) (c_t : Nat → Int32) (c_wBy : Nat → Int32) (c_wCell : Nat → Int32) (c_wFaces : Nat → Int32) (c_wFell : Nat → Int32) (c_wSign : Nat → Int32) (c_wTurns : Nat → Int32) (l6 : Int32) (ls : Array Slot) (H : Heap) (locs : List Loc) (h : f_X6_met_b185 c_first c_now c_telling c_t c_wBy c_wCell c_wFaces c_wFell c_wSign c_wTurns l6 = some res) (hP : va_P E.1 vwCl (W_X6_met E a_t a_first a_now a_telling a_wBy a_wCell a_wFaces a_wFell a_wSign a_wTurns a_refused a_kept a_mind a_tape a_words a_holds a_sizes a_elements a_moved a_above a_out c_t c_first c_now c_telling c_wBy c_wCell c_wFaces c_wFell c_wSign c_wTurns) H) (hD : va_D A (W_X6_met E a_t a_first a_now a_telling a_wBy a_wCell a_wFaces a_wFell a_wSign a_wTurns a_refused a_kept a_mind a_tape a_words a_holds a_sizes a_elements a_moved a_above a_out c_t c_first c_now c_telling c_wBy c_wCell c_wFaces c_wFell c_wSign c_wTurns)) (hS : va_S A s.heap H locs) (hl : lv_has ls 9 [(6, .int l6)]) : W p l e r_X6_met s m args below meth c H locs 0 0 (MQ below (qI E A (res.1) (W_X6_met E a_t a_first a_now a_telling a_wBy a_wCell a_wFaces a_wFell a_wSign a_wTurns a_refused a_kept a_mind a_tape a_words a_holds a_sizes a_elements a_moved a_above a_out (res.2.1) c_first c_now c_telling (res.2.2.1) (res.2.2.2.1) (res.2.2.2.2.1) (res.2.2.2.2.2.1) (res.2.2.2.2.2.2.1) (res.2.2.2.2.2.2.2))) args s 0 0 A) (F0 m 185 ls []) := by
  obtain ⟨hx, hb, hml, hr, hlk, hown, hts, hG, hA⟩ := id X
  have hK := hG.1
  have hN := hG.2.1
  unfold f_X6_met_b185 at h
  refine lv_iload hx hb dX6_met_185 (lv_at hl 0 rfl) ?_
  refine lv_iconst (v := (1 : Int32)) hx hb dX6_met_187 (by decide) ?_
  refine lv_iadd hx hb dX6_met_188 ?_
  obtain rfl := Option.some.inj h
  exact ret_i X dX6_met_189 hP hD hS rfl
set_option maxRecDepth 100000 in
set_option maxHeartbeats 4000000 in
theorem w_X6_met_b190 (X : Ctx p m meth c cX6_met 9 ((some .int)) s args wsX6_met RX6 E A) (a_t : Nat) (a_first : Nat) (a_now : Nat) (a_telling : Nat) (a_wBy : Nat) (a_wCell : Nat) (a_wFaces : Nat) (a_wFell : Nat) (a_wSign : Nat) (a_wTurns : Nat) (a_refused : Nat) (a_kept : Nat) (a_mind : Nat) (a_tape : Nat) (a_words : Nat) (a_holds : Nat) (a_sizes : Nat) (a_elements : Nat) (a_moved : Nat) (a_above : Nat) (a_out : Nat) (c_first : Nat → Int32) (c_now : Nat → Int32) (c_telling : Nat → Int32) (res : Int32 × (Nat → Int32) × (Nat → Int32) × (Nat → Int32) × (Nat → Int32) × (Nat → Int32) × (Nat → Int32) × (Nat → Int32)) (k52 : (Nat → Int32) → (Nat → Int32) → (Nat → Int32) → (Nat → Int32) → (Nat → Int32) → (Nat → Int32) → (Nat → Int32) → Int32 → Int32 → Int32 → Int32 → Int32 → Int32 → Option (Int32 × (Nat → Int32) × (Nat → Int32) × (Nat → Int32) × (Nat → Int32) × (Nat → Int32) × (Nat → Int32) × (Nat → Int32))) (hk52 : ∀ (c_t : Nat → Int32) (c_wBy : Nat → Int32) (c_wCell : Nat → Int32) (c_wFaces : Nat → Int32) (c_wFell : Nat → Int32) (c_wSign : Nat → Int32) (c_wTurns : Nat → Int32) (l1 : Int32) (l2 : Int32) (l3 : Int32) (l4 : Int32) (l5 : Int32) (l6 : Int32) (ls : Array Slot) (H : Heap) (locs : List Loc), k52 c_t c_wBy c_wCell c_wFaces c_wFell c_wSign c_wTurns l1 l2 l3 l4 l5 l6 = some res → va_P E.1 vwCl (W_X6_met E a_t a_first a_now a_telling a_wBy a_wCell a_wFaces a_wFell a_wSign a_wTurns a_refused a_kept a_mind a_tape a_words a_holds a_sizes a_elements a_moved a_above a_out c_t c_first c_now c_telling c_wBy c_wCell c_wFaces c_wFell c_wSign c_wTurns) H → va_D A (W_X6_met E a_t a_first a_now a_telling a_wBy a_wCell a_wFaces a_wFell a_wSign a_wTurns a_refused a_kept a_mind a_tape a_words a_holds a_sizes a_elements a_moved a_above a_out c_t c_first c_now c_telling c_wBy c_wCell c_wFaces c_wFell c_wSign c_wTurns) → va_S A s.heap H locs → lv_has ls 9 [(0, .ref a_t), (1, .int l1), (2, .int l2), (3, .int l3), (4, .int l4), (5, .int l5), (6, .int l6)] → W p l e r_X6_met s m args below meth c H locs 0 0 (MQ below (qI E A (res.1) (W_X6_met E a_t a_first a_now a_telling a_wBy a_wCell a_wFaces a_wFell a_wSign a_wTurns a_refused a_kept a_mind a_tape a_words a_holds a_sizes a_elements a_moved a_above a_out (res.2.1) c_first c_now c_telling (res.2.2.1) (res.2.2.2.1) (res.2.2.2.2.1) (res.2.2.2.2.2.1) (res.2.2.2.2.2.2.1) (res.2.2.2.2.2.2.2))) args s 0 0 A) (F0 m 52 ls [])) (c_t : Nat → Int32) (c_wBy : Nat → Int32) (c_wCell : Nat → Int32) (c_wFaces : Nat → Int32) (c_wFell : Nat → Int32) (c_wSign : Nat → Int32) (c_wTurns : Nat → Int32) (l1 : Int32) (l2 : Int32) (l3 : Int32) (l4 : Int32) (l5 : Int32) (l6 : Int32) (ls : Array Slot) (H : Heap) (locs : List Loc) (h : f_X6_met_b190 c_first c_now c_telling k52 c_t c_wBy c_wCell c_wFaces c_wFell c_wSign c_wTurns l1 l2 l3 l4 l5 l6 = some res) (hP : va_P E.1 vwCl (W_X6_met E a_t a_first a_now a_telling a_wBy a_wCell a_wFaces a_wFell a_wSign a_wTurns a_refused a_kept a_mind a_tape a_words a_holds a_sizes a_elements a_moved a_above a_out c_t c_first c_now c_telling c_wBy c_wCell c_wFaces c_wFell c_wSign c_wTurns) H) (hD : va_D A (W_X6_met E a_t a_first a_now a_telling a_wBy a_wCell a_wFaces a_wFell a_wSign a_wTurns a_refused a_kept a_mind a_tape a_words a_holds a_sizes a_elements a_moved a_above a_out c_t c_first c_now c_telling c_wBy c_wCell c_wFaces c_wFell c_wSign c_wTurns)) (hS : va_S A s.heap H locs) (hl : lv_has ls 9 [(0, .ref a_t), (1, .int l1), (2, .int l2), (3, .int l3), (4, .int l4), (5, .int l5), (6, .int l6)]) : W p l e r_X6_met s m args below meth c H locs 0 0 (MQ below (qI E A (res.1) (W_X6_met E a_t a_first a_now a_telling a_wBy a_wCell a_wFaces a_wFell a_wSign a_wTurns a_refused a_kept a_mind a_tape a_words a_holds a_sizes a_elements a_moved a_above a_out (res.2.1) c_first c_now c_telling (res.2.2.1) (res.2.2.2.1) (res.2.2.2.2.1) (res.2.2.2.2.2.1) (res.2.2.2.2.2.2.1) (res.2.2.2.2.2.2.2))) args s 0 0 A) (F0 m 190 ls []) := by
  obtain ⟨hx, hb, hml, hr, hlk, hown, hts, hG, hA⟩ := id X
  have hK := hG.1
  have hN := hG.2.1
  unfold f_X6_met_b190 at h
  refine lv_iinc (v := (l6 + (1 : Int32))) (lv' := [(6, .int (l6 + (1 : Int32))), (0, .ref a_t), (1, .int l1), (2, .int l2), (3, .int l3), (4, .int l4), (5, .int l5)]) hx hb dX6_met_190 hl (k := 6) rfl rfl (by decide) rfl (fun ls hl => ?_)
  refine lv_goto (tgt := 52) hx hb dX6_met_193 (by decide) ?_
  exact hk52 c_t c_wBy c_wCell c_wFaces c_wFell c_wSign c_wTurns l1 l2 l3 l4 l5 (l6 + (1 : Int32)) _ _ _ h hP hD hS (lv_sub hl [1, 2, 3, 4, 5, 6, 0] rfl)
set_option maxRecDepth 100000 in
set_option maxHeartbeats 4000000 in
theorem w_X6_met_b143 (X : Ctx p m meth c cX6_met 9 ((some .int)) s args wsX6_met RX6 E A) (a_t : Nat) (a_first : Nat) (a_now : Nat) (a_telling : Nat) (a_wBy : Nat) (a_wCell : Nat) (a_wFaces : Nat) (a_wFell : Nat) (a_wSign : Nat) (a_wTurns : Nat) (a_refused : Nat) (a_kept : Nat) (a_mind : Nat) (a_tape : Nat) (a_words : Nat) (a_holds : Nat) (a_sizes : Nat) (a_elements : Nat) (a_moved : Nat) (a_above : Nat) (a_out : Nat) (c_first : Nat → Int32) (c_now : Nat → Int32) (c_telling : Nat → Int32) (res : Int32 × (Nat → Int32) × (Nat → Int32) × (Nat → Int32) × (Nat → Int32) × (Nat → Int32) × (Nat → Int32) × (Nat → Int32)) (k52 : (Nat → Int32) → (Nat → Int32) → (Nat → Int32) → (Nat → Int32) → (Nat → Int32) → (Nat → Int32) → (Nat → Int32) → Int32 → Int32 → Int32 → Int32 → Int32 → Int32 → Option (Int32 × (Nat → Int32) × (Nat → Int32) × (Nat → Int32) × (Nat → Int32) × (Nat → Int32) × (Nat → Int32) × (Nat → Int32))) (hk52 : ∀ (c_t : Nat → Int32) (c_wBy : Nat → Int32) (c_wCell : Nat → Int32) (c_wFaces : Nat → Int32) (c_wFell : Nat → Int32) (c_wSign : Nat → Int32) (c_wTurns : Nat → Int32) (l1 : Int32) (l2 : Int32) (l3 : Int32) (l4 : Int32) (l5 : Int32) (l6 : Int32) (ls : Array Slot) (H : Heap) (locs : List Loc), k52 c_t c_wBy c_wCell c_wFaces c_wFell c_wSign c_wTurns l1 l2 l3 l4 l5 l6 = some res → va_P E.1 vwCl (W_X6_met E a_t a_first a_now a_telling a_wBy a_wCell a_wFaces a_wFell a_wSign a_wTurns a_refused a_kept a_mind a_tape a_words a_holds a_sizes a_elements a_moved a_above a_out c_t c_first c_now c_telling c_wBy c_wCell c_wFaces c_wFell c_wSign c_wTurns) H → va_D A (W_X6_met E a_t a_first a_now a_telling a_wBy a_wCell a_wFaces a_wFell a_wSign a_wTurns a_refused a_kept a_mind a_tape a_words a_holds a_sizes a_elements a_moved a_above a_out c_t c_first c_now c_telling c_wBy c_wCell c_wFaces c_wFell c_wSign c_wTurns) → va_S A s.heap H locs → lv_has ls 9 [(0, .ref a_t), (1, .int l1), (2, .int l2), (3, .int l3), (4, .int l4), (5, .int l5), (6, .int l6)] → W p l e r_X6_met s m args below meth c H locs 0 0 (MQ below (qI E A (res.1) (W_X6_met E a_t a_first a_now a_telling a_wBy a_wCell a_wFaces a_wFell a_wSign a_wTurns a_refused a_kept a_mind a_tape a_words a_holds a_sizes a_elements a_moved a_above a_out (res.2.1) c_first c_now c_telling (res.2.2.1) (res.2.2.2.1) (res.2.2.2.2.1) (res.2.2.2.2.2.1) (res.2.2.2.2.2.2.1) (res.2.2.2.2.2.2.2))) args s 0 0 A) (F0 m 52 ls [])) (c_t : Nat → Int32) (c_wBy : Nat → Int32) (c_wCell : Nat → Int32) (c_wFaces : Nat → Int32) (c_wFell : Nat → Int32) (c_wSign : Nat → Int32) (c_wTurns : Nat → Int32) (l1 : Int32) (l2 : Int32) (l3 : Int32) (l4 : Int32) (l5 : Int32) (l6 : Int32) (l7 : Int32) (l8 : Int32) (s0 : Int32) (s1 : Int32) (s2 : Int32) (ls : Array Slot) (H : Heap) (locs : List Loc) (h : f_X6_met_b143 c_first c_now c_telling k52 c_t c_wBy c_wCell c_wFaces c_wFell c_wSign c_wTurns l1 l2 l3 l4 l5 l6 l7 l8 s0 s1 s2 = some res) (hP : va_P E.1 vwCl (W_X6_met E a_t a_first a_now a_telling a_wBy a_wCell a_wFaces a_wFell a_wSign a_wTurns a_refused a_kept a_mind a_tape a_words a_holds a_sizes a_elements a_moved a_above a_out c_t c_first c_now c_telling c_wBy c_wCell c_wFaces c_wFell c_wSign c_wTurns) H) (hD : va_D A (W_X6_met E a_t a_first a_now a_telling a_wBy a_wCell a_wFaces a_wFell a_wSign a_wTurns a_refused a_kept a_mind a_tape a_words a_holds a_sizes a_elements a_moved a_above a_out c_t c_first c_now c_telling c_wBy c_wCell c_wFaces c_wFell c_wSign c_wTurns)) (hS : va_S A s.heap H locs) (hl : lv_has ls 9 [(0, .ref a_t), (1, .int l1), (2, .int l2), (3, .int l3), (4, .int l4), (5, .int l5), (6, .int l6), (7, .int l7), (8, .int l8)]) : W p l e r_X6_met s m args below meth c H locs 0 0 (MQ below (qI E A (res.1) (W_X6_met E a_t a_first a_now a_telling a_wBy a_wCell a_wFaces a_wFell a_wSign a_wTurns a_refused a_kept a_mind a_tape a_words a_holds a_sizes a_elements a_moved a_above a_out (res.2.1) c_first c_now c_telling (res.2.2.1) (res.2.2.2.1) (res.2.2.2.2.1) (res.2.2.2.2.2.1) (res.2.2.2.2.2.2.1) (res.2.2.2.2.2.2.2))) args s 0 0 A) (F0 m 143 ls [.int s0, .int s1, .int s2, .ref a_t]) := by
  obtain ⟨hx, hb, hml, hr, hlk, hown, hts, hG, hA⟩ := id X
  have hK := hG.1
  have hN := hG.2.1
  unfold f_X6_met_b143 at h
  refine lv_iload hx hb dX6_met_143 (lv_at hl 6 rfl) ?_
  obtain ⟨v1, hv1, h⟩ := bind_of h
  refine after_v X (run_V X (c_X6_step l E a_t a_now a_wBy a_wCell a_wFaces a_wFell a_wSign a_wTurns a_refused a_kept a_mind a_tape a_words a_telling a_holds a_sizes a_elements a_moved a_above a_out a_first s2 s1 s0 l6 c_t c_now c_wBy c_wCell c_wFaces c_wFell c_wSign c_wTurns H.size v1 hv1) (cwV 4 hts gX6_met_X6_step rfl rfl rfl hV_X6_step ⟨(Nat.le_of_ble_eq_true rfl), (Nat.le_of_ble_eq_true rfl)⟩) hP hD hS [0, 2, 4, 5, 6, 7, 8, 9] rfl rfl hl.1 (ci := 6) rfl rfl rfl (rest := []) rfl rfl (Nat.le_of_ble_eq_true rfl) dX6_met_145) hP hD hS [0, 2, 4, 5, 6, 7, 8, 9] [1, 3] [2, 0, 3, 1, 4, 5, 6, 7, 8, 9] rfl rfl rfl (by decide) rfl (ws1 := (W_X6_met E a_t a_first a_now a_telling a_wBy a_wCell a_wFaces a_wFell a_wSign a_wTurns a_refused a_kept a_mind a_tape a_words a_holds a_sizes a_elements a_moved a_above a_out (v1.1) c_first c_now c_telling (v1.2.1) (v1.2.2.1) (v1.2.2.2.1) (v1.2.2.2.2.1) (v1.2.2.2.2.2.1) (v1.2.2.2.2.2.2))) rfl (fun H locs hP hD hS => ?_)
  refine lv_aload_n hx hb dX6_met_148 rfl (lv_at hl 0 rfl) ?_
  refine va_get (D := E.1) (ci := 6) (v := .ref a_wCell) (C := RX6) (T := TX6) (N := 26) hx hb hts iX6_met_X6 hown hK hP 0 rfl rfl 11 (by decide) (hts (.fieldLink RX6 33 "LeftIsAgreedOnModel" "wCell" "[I") (List.mem_of_getElem? (i := 1) rfl)) (fun _ h9 => h9) rfl dX6_met_149 ?_
  refine lv_iconst (v := (0 : Int32)) hx hb dX6_met_152 (by decide) ?_
  refine ld_i X hP 5 rfl (inb.vp (by decide)) (v := ((v1.2.2.1) 0)) rfl dX6_met_153 ?_
  refine lv_aload_n hx hb dX6_met_154 rfl (lv_at hl 0 rfl) ?_
  refine va_get (D := E.1) (ci := 6) (v := .ref a_wCell) (C := RX6) (T := TX6) (N := 26) hx hb hts iX6_met_X6 hown hK hP 0 rfl rfl 11 (by decide) (hts (.fieldLink RX6 33 "LeftIsAgreedOnModel" "wCell" "[I") (List.mem_of_getElem? (i := 1) rfl)) (fun _ h9 => h9) rfl dX6_met_155 ?_
  refine lv_iconst (v := (1 : Int32)) hx hb dX6_met_158 (by decide) ?_
  refine ld_i X hP 5 rfl (inb.vp (by decide)) (v := ((v1.2.2.1) 1)) rfl dX6_met_159 ?_
  refine lv_icmp_eq (tgt := 185) hx hb dX6_met_160 (by decide) (fun hc160 => ?_) (fun hc160 => ?_)
  · have h := if_t h hc160
    exact w_X6_met_b185 X a_t a_first a_now a_telling a_wBy a_wCell a_wFaces a_wFell a_wSign a_wTurns a_refused a_kept a_mind a_tape a_words a_holds a_sizes a_elements a_moved a_above a_out c_first c_now c_telling res (v1.1) (v1.2.1) (v1.2.2.1) (v1.2.2.2.1) (v1.2.2.2.2.1) (v1.2.2.2.2.2.1) (v1.2.2.2.2.2.2) l6 _ _ _ h hP hD hS (lv_sub hl [6] rfl)
  · have h := if_f h hc160
    refine lv_aload_n hx hb dX6_met_163 rfl (lv_at hl 0 rfl) ?_
    refine va_get (D := E.1) (ci := 6) (v := .ref a_wCell) (C := RX6) (T := TX6) (N := 26) hx hb hts iX6_met_X6 hown hK hP 0 rfl rfl 11 (by decide) (hts (.fieldLink RX6 33 "LeftIsAgreedOnModel" "wCell" "[I") (List.mem_of_getElem? (i := 1) rfl)) (fun _ h9 => h9) rfl dX6_met_164 ?_
    refine lv_iconst (v := (0 : Int32)) hx hb dX6_met_167 (by decide) ?_
    refine ld_i X hP 5 rfl (inb.vp (by decide)) (v := ((v1.2.2.1) 0)) rfl dX6_met_168 ?_
    refine lv_iload hx hb dX6_met_169 (lv_at hl 8 rfl) ?_
    refine lv_icmp_ne (tgt := 190) hx hb dX6_met_171 (by decide) (fun hc171 => ?_) (fun hc171 => ?_)
    · have h := if_f h hc171
      exact w_X6_met_b190 X a_t a_first a_now a_telling a_wBy a_wCell a_wFaces a_wFell a_wSign a_wTurns a_refused a_kept a_mind a_tape a_words a_holds a_sizes a_elements a_moved a_above a_out c_first c_now c_telling res k52 hk52 (v1.1) (v1.2.1) (v1.2.2.1) (v1.2.2.2.1) (v1.2.2.2.2.1) (v1.2.2.2.2.2.1) (v1.2.2.2.2.2.2) l1 l2 l3 l4 l5 l6 _ _ _ h hP hD hS (lv_sub hl [0, 1, 2, 3, 4, 5, 6] rfl)
    · have h := if_t h hc171
      refine lv_aload_n hx hb dX6_met_174 rfl (lv_at hl 0 rfl) ?_
      refine va_get (D := E.1) (ci := 6) (v := .ref a_wCell) (C := RX6) (T := TX6) (N := 26) hx hb hts iX6_met_X6 hown hK hP 0 rfl rfl 11 (by decide) (hts (.fieldLink RX6 33 "LeftIsAgreedOnModel" "wCell" "[I") (List.mem_of_getElem? (i := 1) rfl)) (fun _ h9 => h9) rfl dX6_met_175 ?_
      refine lv_iconst (v := (1 : Int32)) hx hb dX6_met_178 (by decide) ?_
      refine ld_i X hP 5 rfl (inb.vp (by decide)) (v := ((v1.2.2.1) 1)) rfl dX6_met_179 ?_
      refine lv_iload hx hb dX6_met_180 (lv_at hl 7 rfl) ?_
      refine lv_icmp_ne (tgt := 190) hx hb dX6_met_182 (by decide) (fun hc182 => ?_) (fun hc182 => ?_)
      · have h := if_f h hc182
        exact w_X6_met_b190 X a_t a_first a_now a_telling a_wBy a_wCell a_wFaces a_wFell a_wSign a_wTurns a_refused a_kept a_mind a_tape a_words a_holds a_sizes a_elements a_moved a_above a_out c_first c_now c_telling res k52 hk52 (v1.1) (v1.2.1) (v1.2.2.1) (v1.2.2.2.1) (v1.2.2.2.2.1) (v1.2.2.2.2.2.1) (v1.2.2.2.2.2.2) l1 l2 l3 l4 l5 l6 _ _ _ h hP hD hS (lv_sub hl [0, 1, 2, 3, 4, 5, 6] rfl)
      · have h := if_t h hc182
        exact w_X6_met_b185 X a_t a_first a_now a_telling a_wBy a_wCell a_wFaces a_wFell a_wSign a_wTurns a_refused a_kept a_mind a_tape a_words a_holds a_sizes a_elements a_moved a_above a_out c_first c_now c_telling res (v1.1) (v1.2.1) (v1.2.2.1) (v1.2.2.2.1) (v1.2.2.2.2.1) (v1.2.2.2.2.2.1) (v1.2.2.2.2.2.2) l6 _ _ _ h hP hD hS (lv_sub hl [6] rfl)
set_option maxRecDepth 100000 in
set_option maxHeartbeats 4000000 in
theorem w_X6_met_b101 (X : Ctx p m meth c cX6_met 9 ((some .int)) s args wsX6_met RX6 E A) (a_t : Nat) (a_first : Nat) (a_now : Nat) (a_telling : Nat) (a_wBy : Nat) (a_wCell : Nat) (a_wFaces : Nat) (a_wFell : Nat) (a_wSign : Nat) (a_wTurns : Nat) (a_refused : Nat) (a_kept : Nat) (a_mind : Nat) (a_tape : Nat) (a_words : Nat) (a_holds : Nat) (a_sizes : Nat) (a_elements : Nat) (a_moved : Nat) (a_above : Nat) (a_out : Nat) (c_first : Nat → Int32) (c_now : Nat → Int32) (c_telling : Nat → Int32) (res : Int32 × (Nat → Int32) × (Nat → Int32) × (Nat → Int32) × (Nat → Int32) × (Nat → Int32) × (Nat → Int32) × (Nat → Int32)) (k52 : (Nat → Int32) → (Nat → Int32) → (Nat → Int32) → (Nat → Int32) → (Nat → Int32) → (Nat → Int32) → (Nat → Int32) → Int32 → Int32 → Int32 → Int32 → Int32 → Int32 → Option (Int32 × (Nat → Int32) × (Nat → Int32) × (Nat → Int32) × (Nat → Int32) × (Nat → Int32) × (Nat → Int32) × (Nat → Int32))) (hk52 : ∀ (c_t : Nat → Int32) (c_wBy : Nat → Int32) (c_wCell : Nat → Int32) (c_wFaces : Nat → Int32) (c_wFell : Nat → Int32) (c_wSign : Nat → Int32) (c_wTurns : Nat → Int32) (l1 : Int32) (l2 : Int32) (l3 : Int32) (l4 : Int32) (l5 : Int32) (l6 : Int32) (ls : Array Slot) (H : Heap) (locs : List Loc), k52 c_t c_wBy c_wCell c_wFaces c_wFell c_wSign c_wTurns l1 l2 l3 l4 l5 l6 = some res → va_P E.1 vwCl (W_X6_met E a_t a_first a_now a_telling a_wBy a_wCell a_wFaces a_wFell a_wSign a_wTurns a_refused a_kept a_mind a_tape a_words a_holds a_sizes a_elements a_moved a_above a_out c_t c_first c_now c_telling c_wBy c_wCell c_wFaces c_wFell c_wSign c_wTurns) H → va_D A (W_X6_met E a_t a_first a_now a_telling a_wBy a_wCell a_wFaces a_wFell a_wSign a_wTurns a_refused a_kept a_mind a_tape a_words a_holds a_sizes a_elements a_moved a_above a_out c_t c_first c_now c_telling c_wBy c_wCell c_wFaces c_wFell c_wSign c_wTurns) → va_S A s.heap H locs → lv_has ls 9 [(0, .ref a_t), (1, .int l1), (2, .int l2), (3, .int l3), (4, .int l4), (5, .int l5), (6, .int l6)] → W p l e r_X6_met s m args below meth c H locs 0 0 (MQ below (qI E A (res.1) (W_X6_met E a_t a_first a_now a_telling a_wBy a_wCell a_wFaces a_wFell a_wSign a_wTurns a_refused a_kept a_mind a_tape a_words a_holds a_sizes a_elements a_moved a_above a_out (res.2.1) c_first c_now c_telling (res.2.2.1) (res.2.2.2.1) (res.2.2.2.2.1) (res.2.2.2.2.2.1) (res.2.2.2.2.2.2.1) (res.2.2.2.2.2.2.2))) args s 0 0 A) (F0 m 52 ls [])) (c_t : Nat → Int32) (c_wBy : Nat → Int32) (c_wCell : Nat → Int32) (c_wFaces : Nat → Int32) (c_wFell : Nat → Int32) (c_wSign : Nat → Int32) (c_wTurns : Nat → Int32) (l1 : Int32) (l2 : Int32) (l3 : Int32) (l4 : Int32) (l5 : Int32) (l6 : Int32) (l7 : Int32) (l8 : Int32) (s0 : Int32) (s1 : Int32) (s2 : Int32) (ls : Array Slot) (H : Heap) (locs : List Loc) (h : f_X6_met_b101 c_first c_now c_telling k52 c_t c_wBy c_wCell c_wFaces c_wFell c_wSign c_wTurns l1 l2 l3 l4 l5 l6 l7 l8 s0 s1 s2 = some res) (hP : va_P E.1 vwCl (W_X6_met E a_t a_first a_now a_telling a_wBy a_wCell a_wFaces a_wFell a_wSign a_wTurns a_refused a_kept a_mind a_tape a_words a_holds a_sizes a_elements a_moved a_above a_out c_t c_first c_now c_telling c_wBy c_wCell c_wFaces c_wFell c_wSign c_wTurns) H) (hD : va_D A (W_X6_met E a_t a_first a_now a_telling a_wBy a_wCell a_wFaces a_wFell a_wSign a_wTurns a_refused a_kept a_mind a_tape a_words a_holds a_sizes a_elements a_moved a_above a_out c_t c_first c_now c_telling c_wBy c_wCell c_wFaces c_wFell c_wSign c_wTurns)) (hS : va_S A s.heap H locs) (hl : lv_has ls 9 [(0, .ref a_t), (1, .int l1), (2, .int l2), (3, .int l3), (4, .int l4), (5, .int l5), (6, .int l6), (7, .int l7), (8, .int l8)]) : W p l e r_X6_met s m args below meth c H locs 0 0 (MQ below (qI E A (res.1) (W_X6_met E a_t a_first a_now a_telling a_wBy a_wCell a_wFaces a_wFell a_wSign a_wTurns a_refused a_kept a_mind a_tape a_words a_holds a_sizes a_elements a_moved a_above a_out (res.2.1) c_first c_now c_telling (res.2.2.1) (res.2.2.2.1) (res.2.2.2.2.1) (res.2.2.2.2.2.1) (res.2.2.2.2.2.2.1) (res.2.2.2.2.2.2.2))) args s 0 0 A) (F0 m 101 ls [.int s0, .int s1, .int s2, .ref a_t]) := by
  obtain ⟨hx, hb, hml, hr, hlk, hown, hts, hG, hA⟩ := id X
  have hK := hG.1
  have hN := hG.2.1
  unfold f_X6_met_b101 at h
  refine lv_iload hx hb dX6_met_101 (lv_at hl 6 rfl) ?_
  obtain ⟨v1, hv1, h⟩ := bind_of h
  refine after_v X (run_V X (c_X6_step l E a_t a_now a_wBy a_wCell a_wFaces a_wFell a_wSign a_wTurns a_refused a_kept a_mind a_tape a_words a_telling a_holds a_sizes a_elements a_moved a_above a_out a_first s2 s1 s0 l6 c_t c_now c_wBy c_wCell c_wFaces c_wFell c_wSign c_wTurns H.size v1 hv1) (cwV 4 hts gX6_met_X6_step rfl rfl rfl hV_X6_step ⟨(Nat.le_of_ble_eq_true rfl), (Nat.le_of_ble_eq_true rfl)⟩) hP hD hS [0, 2, 4, 5, 6, 7, 8, 9] rfl rfl hl.1 (ci := 6) rfl rfl rfl (rest := []) rfl rfl (Nat.le_of_ble_eq_true rfl) dX6_met_103) hP hD hS [0, 2, 4, 5, 6, 7, 8, 9] [1, 3] [2, 0, 3, 1, 4, 5, 6, 7, 8, 9] rfl rfl rfl (by decide) rfl (ws1 := (W_X6_met E a_t a_first a_now a_telling a_wBy a_wCell a_wFaces a_wFell a_wSign a_wTurns a_refused a_kept a_mind a_tape a_words a_holds a_sizes a_elements a_moved a_above a_out (v1.1) c_first c_now c_telling (v1.2.1) (v1.2.2.1) (v1.2.2.2.1) (v1.2.2.2.2.1) (v1.2.2.2.2.2.1) (v1.2.2.2.2.2.2))) rfl (fun H locs hP hD hS => ?_)
  refine lv_aload_n hx hb dX6_met_106 rfl (lv_at hl 0 rfl) ?_
  refine lv_iconst (v := (1 : Int32)) hx hb dX6_met_107 (by decide) ?_
  refine lv_iload hx hb dX6_met_108 (lv_at hl 4 rfl) ?_
  refine lv_iload hx hb dX6_met_110 (lv_at hl 6 rfl) ?_
  refine lv_i2l (v := (l6.toInt64)) hx hb dX6_met_112 rfl ?_
  refine lv_iload hx hb dX6_met_113 (lv_at hl 5 rfl) ?_
  refine lv_i2l (v := (l5.toInt64)) hx hb dX6_met_115 rfl ?_
  refine lv_iload_n hx hb dX6_met_116 rfl (lv_at hl 3 rfl) ?_
  refine lv_iload hx hb dX6_met_117 (lv_at hl 5 rfl) ?_
  refine lv_iadd hx hb dX6_met_119 ?_
  refine lv_iconst (v := (1 : Int32)) hx hb dX6_met_120 (by decide) ?_
  refine lv_isub hx hb dX6_met_121 ?_
  refine lv_i2l (v := (((l3 + l5) - (1 : Int32)).toInt64)) hx hb dX6_met_122 rfl ?_
  obtain ⟨v2, hv2, h⟩ := bind_of h
  refine after_i X (run_S X (c_X6_isIn l E (l6.toInt64) (l5.toInt64) (((l3 + l5) - (1 : Int32)).toInt64) H.size v2 hv2) (va_cwS 3 hts gX6_met_X6_isIn rfl rfl rfl hd_X6_isIn ⟨(Nat.le_of_ble_eq_true rfl), (Nat.le_of_ble_eq_true rfl)⟩) hP hD hS [] rfl rfl hl.1 (rest := [.int l4, .int (1 : Int32), .ref a_t]) rfl rfl (Nat.le_of_ble_eq_true rfl) dX6_met_123) hP hD hS [] [0, 1, 2, 3, 4, 5, 6, 7, 8, 9] [0, 1, 2, 3, 4, 5, 6, 7, 8, 9] rfl rfl rfl (by decide) rfl (ws1 := (W_X6_met E a_t a_first a_now a_telling a_wBy a_wCell a_wFaces a_wFell a_wSign a_wTurns a_refused a_kept a_mind a_tape a_words a_holds a_sizes a_elements a_moved a_above a_out (v1.1) c_first c_now c_telling (v1.2.1) (v1.2.2.1) (v1.2.2.2.1) (v1.2.2.2.2.1) (v1.2.2.2.2.2.1) (v1.2.2.2.2.2.2))) rfl (fun H locs hP hD hS => ?_)
  refine lv_if_eq (tgt := 142) hx hb dX6_met_126 (by decide) (fun hc126 => ?_) (fun hc126 => ?_)
  · have h := if_t h hc126
    refine lv_iconst (v := (3 : Int32)) hx hb dX6_met_142 (by decide) ?_
    exact w_X6_met_b143 X a_t a_first a_now a_telling a_wBy a_wCell a_wFaces a_wFell a_wSign a_wTurns a_refused a_kept a_mind a_tape a_words a_holds a_sizes a_elements a_moved a_above a_out c_first c_now c_telling res k52 hk52 (v1.1) (v1.2.1) (v1.2.2.1) (v1.2.2.2.1) (v1.2.2.2.2.1) (v1.2.2.2.2.2.1) (v1.2.2.2.2.2.2) l1 l2 l3 l4 l5 l6 l7 l8 (3 : Int32) l4 (1 : Int32) _ _ _ h hP hD hS (lv_sub hl [0, 1, 2, 3, 4, 5, 6, 7, 8] rfl)
  · have h := if_f h hc126
    refine lv_aload_n hx hb dX6_met_129 rfl (lv_at hl 0 rfl) ?_
    refine va_get (D := E.1) (ci := 6) (v := .ref a_telling) (C := RX6) (T := TX6) (N := 26) hx hb hts iX6_met_X6 hown hK hP 0 rfl rfl 18 (by decide) (hts (.fieldLink RX6 51 "LeftIsAgreedOnModel" "telling" "[I") (List.mem_of_getElem? (i := 7) rfl)) (fun _ h9 => h9) rfl dX6_met_130 ?_
    refine lv_iload hx hb dX6_met_133 (lv_at hl 6 rfl) ?_
    refine lv_iload hx hb dX6_met_135 (lv_at hl 5 rfl) ?_
    refine lv_isub hx hb dX6_met_137 ?_
    obtain ⟨hz138, h⟩ := chk_of h
    refine ld_i X hP 3 rfl (inb.vp hz138) (v := (c_telling ((l6 - l5)).toNatClampNeg)) rfl dX6_met_138 ?_
    refine lv_goto (tgt := 143) hx hb dX6_met_139 (by decide) ?_
    exact w_X6_met_b143 X a_t a_first a_now a_telling a_wBy a_wCell a_wFaces a_wFell a_wSign a_wTurns a_refused a_kept a_mind a_tape a_words a_holds a_sizes a_elements a_moved a_above a_out c_first c_now c_telling res k52 hk52 (v1.1) (v1.2.1) (v1.2.2.1) (v1.2.2.2.1) (v1.2.2.2.2.1) (v1.2.2.2.2.2.1) (v1.2.2.2.2.2.2) l1 l2 l3 l4 l5 l6 l7 l8 (c_telling ((l6 - l5)).toNatClampNeg) l4 (1 : Int32) _ _ _ h hP hD hS (lv_sub hl [0, 1, 2, 3, 4, 5, 6, 7, 8] rfl)
set_option maxRecDepth 100000 in
set_option maxHeartbeats 4000000 in
theorem w_X6_met_b52 (X : Ctx p m meth c cX6_met 9 ((some .int)) s args wsX6_met RX6 E A) (a_t : Nat) (a_first : Nat) (a_now : Nat) (a_telling : Nat) (a_wBy : Nat) (a_wCell : Nat) (a_wFaces : Nat) (a_wFell : Nat) (a_wSign : Nat) (a_wTurns : Nat) (a_refused : Nat) (a_kept : Nat) (a_mind : Nat) (a_tape : Nat) (a_words : Nat) (a_holds : Nat) (a_sizes : Nat) (a_elements : Nat) (a_moved : Nat) (a_above : Nat) (a_out : Nat) (c_first : Nat → Int32) (c_now : Nat → Int32) (c_telling : Nat → Int32) (res : Int32 × (Nat → Int32) × (Nat → Int32) × (Nat → Int32) × (Nat → Int32) × (Nat → Int32) × (Nat → Int32) × (Nat → Int32)) : ∀ (n : Nat) (c_t : Nat → Int32) (c_wBy : Nat → Int32) (c_wCell : Nat → Int32) (c_wFaces : Nat → Int32) (c_wFell : Nat → Int32) (c_wSign : Nat → Int32) (c_wTurns : Nat → Int32) (l1 : Int32) (l2 : Int32) (l3 : Int32) (l4 : Int32) (l5 : Int32) (l6 : Int32) (ls : Array Slot) (H : Heap) (locs : List Loc), f_X6_met_b52 c_first c_now c_telling n c_t c_wBy c_wCell c_wFaces c_wFell c_wSign c_wTurns l1 l2 l3 l4 l5 l6 = some res → va_P E.1 vwCl (W_X6_met E a_t a_first a_now a_telling a_wBy a_wCell a_wFaces a_wFell a_wSign a_wTurns a_refused a_kept a_mind a_tape a_words a_holds a_sizes a_elements a_moved a_above a_out c_t c_first c_now c_telling c_wBy c_wCell c_wFaces c_wFell c_wSign c_wTurns) H → va_D A (W_X6_met E a_t a_first a_now a_telling a_wBy a_wCell a_wFaces a_wFell a_wSign a_wTurns a_refused a_kept a_mind a_tape a_words a_holds a_sizes a_elements a_moved a_above a_out c_t c_first c_now c_telling c_wBy c_wCell c_wFaces c_wFell c_wSign c_wTurns) → va_S A s.heap H locs → lv_has ls 9 [(0, .ref a_t), (1, .int l1), (2, .int l2), (3, .int l3), (4, .int l4), (5, .int l5), (6, .int l6)] → W p l e r_X6_met s m args below meth c H locs 0 0 (MQ below (qI E A (res.1) (W_X6_met E a_t a_first a_now a_telling a_wBy a_wCell a_wFaces a_wFell a_wSign a_wTurns a_refused a_kept a_mind a_tape a_words a_holds a_sizes a_elements a_moved a_above a_out (res.2.1) c_first c_now c_telling (res.2.2.1) (res.2.2.2.1) (res.2.2.2.2.1) (res.2.2.2.2.2.1) (res.2.2.2.2.2.2.1) (res.2.2.2.2.2.2.2))) args s 0 0 A) (F0 m 52 ls []) := by
  obtain ⟨hx, hb, hml, hr, hlk, hown, hts, hG, hA⟩ := id X
  have hK := hG.1
  have hN := hG.2.1
  intro n
  induction n with
  | zero =>
    intro c_t c_wBy c_wCell c_wFaces c_wFell c_wSign c_wTurns l1 l2 l3 l4 l5 l6 ls H locs h
    exact absurd (show (none : Option (Int32 × (Nat → Int32) × (Nat → Int32) × (Nat → Int32) × (Nat → Int32) × (Nat → Int32) × (Nat → Int32) × (Nat → Int32))) = some res from h) (by intro q; cases q)
  | succ n ih =>
    intro c_t c_wBy c_wCell c_wFaces c_wFell c_wSign c_wTurns l1 l2 l3 l4 l5 l6 ls H locs h hP hD hS hl
    rw [f_X6_met_b52] at h
    refine lv_iload hx hb dX6_met_52 (lv_at hl 6 rfl) ?_
    refine lv_iload_n hx hb dX6_met_54 rfl (lv_at hl 1 rfl) ?_
    refine lv_iload_n hx hb dX6_met_55 rfl (lv_at hl 3 rfl) ?_
    refine lv_iload hx hb dX6_met_56 (lv_at hl 5 rfl) ?_
    refine lv_iadd hx hb dX6_met_58 ?_
    refine va_mmax hx hb (hml.trans hl.1.symm) hown (hts (.methodLink RX6 260 Lib.Math.max.name) (List.mem_of_getElem? (i := 2) rfl)) (hts (.static Lib.Math.max.name) (List.mem_of_getElem? (i := 3) rfl)) (hts (.initialized "java/lang/Math") (List.mem_of_getElem? (i := 4) rfl)) (hts (.code Lib.Math.max.name Lib.Math.max.code 2 (some .int)) (List.mem_of_getElem? (i := 5) rfl)) (Nat.le_of_ble_eq_true rfl) (Nat.le_of_ble_eq_true rfl) (Nat.zero_le _) (Nat.zero_le _) dX6_met_59 ?_
    refine lv_icmp_ge (tgt := 196) hx hb dX6_met_62 (by decide) (fun hc62 => ?_) (fun hc62 => ?_)
    · have h := if_t h hc62
      refine lv_iconst (v := (-1 : Int32)) hx hb dX6_met_196 (by decide) ?_
      obtain rfl := Option.some.inj h
      exact ret_i X dX6_met_197 hP hD hS rfl
    · have h := if_f h hc62
      refine lv_aload_n hx hb dX6_met_65 rfl (lv_at hl 0 rfl) ?_
      refine va_get (D := E.1) (ci := 6) (v := .ref a_wCell) (C := RX6) (T := TX6) (N := 26) hx hb hts iX6_met_X6 hown hK hP 0 rfl rfl 11 (by decide) (hts (.fieldLink RX6 33 "LeftIsAgreedOnModel" "wCell" "[I") (List.mem_of_getElem? (i := 1) rfl)) (fun _ h9 => h9) rfl dX6_met_66 ?_
      refine lv_iconst (v := (0 : Int32)) hx hb dX6_met_69 (by decide) ?_
      refine ld_i X hP 5 rfl (inb.vp (by decide)) (v := (c_wCell 0)) rfl dX6_met_70 ?_
      refine lv_istore (lv' := [(7, .int (c_wCell 0)), (0, .ref a_t), (1, .int l1), (2, .int l2), (3, .int l3), (4, .int l4), (5, .int l5), (6, .int l6)]) hx hb dX6_met_71 hl (by decide) rfl (fun ls hl => ?_)
      refine lv_aload_n hx hb dX6_met_73 rfl (lv_at hl 1 rfl) ?_
      refine va_get (D := E.1) (ci := 6) (v := .ref a_wCell) (C := RX6) (T := TX6) (N := 26) hx hb hts iX6_met_X6 hown hK hP 0 rfl rfl 11 (by decide) (hts (.fieldLink RX6 33 "LeftIsAgreedOnModel" "wCell" "[I") (List.mem_of_getElem? (i := 1) rfl)) (fun _ h9 => h9) rfl dX6_met_74 ?_
      refine lv_iconst (v := (1 : Int32)) hx hb dX6_met_77 (by decide) ?_
      refine ld_i X hP 5 rfl (inb.vp (by decide)) (v := (c_wCell 1)) rfl dX6_met_78 ?_
      refine lv_istore (lv' := [(8, .int (c_wCell 1)), (7, .int (c_wCell 0)), (0, .ref a_t), (1, .int l1), (2, .int l2), (3, .int l3), (4, .int l4), (5, .int l5), (6, .int l6)]) hx hb dX6_met_79 hl (by decide) rfl (fun ls hl => ?_)
      refine lv_aload_n hx hb dX6_met_81 rfl (lv_at hl 2 rfl) ?_
      refine lv_iconst (v := (0 : Int32)) hx hb dX6_met_82 (by decide) ?_
      refine lv_iload_n hx hb dX6_met_83 rfl (lv_at hl 4 rfl) ?_
      refine lv_iload hx hb dX6_met_84 (lv_at hl 8 rfl) ?_
      refine lv_iload_n hx hb dX6_met_86 rfl (lv_at hl 3 rfl) ?_
      refine lv_icmp_ge (tgt := 100) hx hb dX6_met_87 (by decide) (fun hc87 => ?_) (fun hc87 => ?_)
      · have h := if_t h hc87
        refine lv_iconst (v := (3 : Int32)) hx hb dX6_met_100 (by decide) ?_
        exact w_X6_met_b101 X a_t a_first a_now a_telling a_wBy a_wCell a_wFaces a_wFell a_wSign a_wTurns a_refused a_kept a_mind a_tape a_words a_holds a_sizes a_elements a_moved a_above a_out c_first c_now c_telling res (f_X6_met_b52 c_first c_now c_telling n) ih c_t c_wBy c_wCell c_wFaces c_wFell c_wSign c_wTurns l1 l2 l3 l4 l5 l6 (c_wCell 0) (c_wCell 1) (3 : Int32) l2 (0 : Int32) _ _ _ h hP hD hS (lv_sub hl [2, 3, 4, 5, 6, 7, 8, 1, 0] rfl)
      · have h := if_f h hc87
        refine lv_aload_n hx hb dX6_met_90 rfl (lv_at hl 2 rfl) ?_
        refine va_get (D := E.1) (ci := 6) (v := .ref a_first) (C := RX6) (T := TX6) (N := 26) hx hb hts iX6_met_X6 hown hK hP 0 rfl rfl 25 (by decide) (hts (.fieldLink RX6 73 "LeftIsAgreedOnModel" "first" "[I") (List.mem_of_getElem? (i := 6) rfl)) (fun _ h9 => h9) rfl dX6_met_91 ?_
        refine lv_iload hx hb dX6_met_94 (lv_at hl 8 rfl) ?_
        obtain ⟨hz96, h⟩ := chk_of h
        refine ld_i X hP 1 rfl (inb.vp hz96) (v := (c_first (l6).toNatClampNeg)) rfl dX6_met_96 ?_
        refine lv_goto (tgt := 101) hx hb dX6_met_97 (by decide) ?_
        exact w_X6_met_b101 X a_t a_first a_now a_telling a_wBy a_wCell a_wFaces a_wFell a_wSign a_wTurns a_refused a_kept a_mind a_tape a_words a_holds a_sizes a_elements a_moved a_above a_out c_first c_now c_telling res (f_X6_met_b52 c_first c_now c_telling n) ih c_t c_wBy c_wCell c_wFaces c_wFell c_wSign c_wTurns l1 l2 l3 l4 l5 l6 (c_wCell 0) (c_wCell 1) (c_first (l6).toNatClampNeg) l2 (0 : Int32) _ _ _ h hP hD hS (lv_sub hl [2, 3, 4, 5, 6, 7, 8, 1, 0] rfl)
set_option maxRecDepth 100000 in
set_option maxHeartbeats 4000000 in
theorem w_X6_met (X : Ctx p m meth c cX6_met 9 ((some .int)) s args wsX6_met RX6 E A) (a_t : Nat) (a_first : Nat) (a_now : Nat) (a_telling : Nat) (a_wBy : Nat) (a_wCell : Nat) (a_wFaces : Nat) (a_wFell : Nat) (a_wSign : Nat) (a_wTurns : Nat) (a_refused : Nat) (a_kept : Nat) (a_mind : Nat) (a_tape : Nat) (a_words : Nat) (a_holds : Nat) (a_sizes : Nat) (a_elements : Nat) (a_moved : Nat) (a_above : Nat) (a_out : Nat) (c_first : Nat → Int32) (c_now : Nat → Int32) (c_telling : Nat → Int32) (res : Int32 × (Nat → Int32) × (Nat → Int32) × (Nat → Int32) × (Nat → Int32) × (Nat → Int32) × (Nat → Int32) × (Nat → Int32)) (c_t : Nat → Int32) (c_wBy : Nat → Int32) (c_wCell : Nat → Int32) (c_wFaces : Nat → Int32) (c_wFell : Nat → Int32) (c_wSign : Nat → Int32) (c_wTurns : Nat → Int32) (l1 : Int32) (l2 : Int32) (l3 : Int32) (l4 : Int32) (l5 : Int32) (ls : Array Slot) (H : Heap) (locs : List Loc) (h : f_X6_met l1 l2 l3 l4 l5 c_t c_first c_now c_telling c_wBy c_wCell c_wFaces c_wFell c_wSign c_wTurns = some res) (hP : va_P E.1 vwCl (W_X6_met E a_t a_first a_now a_telling a_wBy a_wCell a_wFaces a_wFell a_wSign a_wTurns a_refused a_kept a_mind a_tape a_words a_holds a_sizes a_elements a_moved a_above a_out c_t c_first c_now c_telling c_wBy c_wCell c_wFaces c_wFell c_wSign c_wTurns) H) (hD : va_D A (W_X6_met E a_t a_first a_now a_telling a_wBy a_wCell a_wFaces a_wFell a_wSign a_wTurns a_refused a_kept a_mind a_tape a_words a_holds a_sizes a_elements a_moved a_above a_out c_t c_first c_now c_telling c_wBy c_wCell c_wFaces c_wFell c_wSign c_wTurns)) (hS : va_S A s.heap H locs) (hl : lv_has ls 9 [(0, .ref a_t), (1, .int l1), (2, .int l2), (3, .int l3), (4, .int l4), (5, .int l5)]) : W p l e r_X6_met s m args below meth c H locs 0 0 (MQ below (qI E A (res.1) (W_X6_met E a_t a_first a_now a_telling a_wBy a_wCell a_wFaces a_wFell a_wSign a_wTurns a_refused a_kept a_mind a_tape a_words a_holds a_sizes a_elements a_moved a_above a_out (res.2.1) c_first c_now c_telling (res.2.2.1) (res.2.2.2.1) (res.2.2.2.2.1) (res.2.2.2.2.2.1) (res.2.2.2.2.2.2.1) (res.2.2.2.2.2.2.2))) args s 0 0 A) (F0 m 0 ls []) := by
  obtain ⟨hx, hb, hml, hr, hlk, hown, hts, hG, hA⟩ := id X
  have hK := hG.1
  have hN := hG.2.1
  unfold f_X6_met at h
  refine lv_aload_n hx hb dX6_met_0 rfl (lv_at hl 0 rfl) ?_
  refine lv_iconst (v := (0 : Int32)) hx hb dX6_met_1 (by decide) ?_
  refine lv_aload_n hx hb dX6_met_2 rfl (lv_at hl 0 rfl) ?_
  refine lv_iload_n hx hb dX6_met_3 rfl (lv_at hl 2 rfl) ?_
  obtain ⟨v1, hv1, h⟩ := bind_of h
  refine after_i X (run_V X (c_X6_cell l E a_t a_now a_refused a_kept a_mind a_tape a_words a_wCell a_wFaces a_wTurns a_wSign a_wBy a_wFell a_telling a_holds a_sizes a_elements a_moved a_above a_out a_first l2 c_t c_now H.size v1 hv1) (cwV 1 hts gX6_met_X6_cell rfl rfl rfl hV_X6_cell ⟨(Nat.le_of_ble_eq_true rfl), (Nat.le_of_ble_eq_true rfl)⟩) hP hD hS [0, 2] rfl rfl hl.1 (ci := 6) rfl rfl rfl (rest := [.int (0 : Int32), .ref a_t]) rfl rfl (Nat.le_of_ble_eq_true rfl) dX6_met_4) hP hD hS [0, 2] [1, 3, 4, 5, 6, 7, 8, 9] [8, 0, 9, 1, 2, 3, 4, 5, 6, 7] rfl rfl rfl (by decide) rfl (ws1 := (W_X6_met E a_t a_first a_now a_telling a_wBy a_wCell a_wFaces a_wFell a_wSign a_wTurns a_refused a_kept a_mind a_tape a_words a_holds a_sizes a_elements a_moved a_above a_out c_t c_first c_now c_telling c_wBy c_wCell c_wFaces c_wFell c_wSign c_wTurns)) rfl (fun H locs hP hD hS => ?_)
  refine lv_aload_n hx hb dX6_met_7 rfl (lv_at hl 0 rfl) ?_
  refine lv_iload_n hx hb dX6_met_8 rfl (lv_at hl 2 rfl) ?_
  obtain ⟨v2, hv2, h⟩ := bind_of h
  refine after_i X (run_V X (c_X6_faces l E a_t a_now a_refused a_kept a_mind a_tape a_words a_wCell a_wFaces a_wTurns a_wSign a_wBy a_wFell a_telling a_holds a_sizes a_elements a_moved a_above a_out a_first l2 c_t c_now H.size v2 hv2) (cwV 1 hts gX6_met_X6_faces rfl rfl rfl hV_X6_faces ⟨(Nat.le_of_ble_eq_true rfl), (Nat.le_of_ble_eq_true rfl)⟩) hP hD hS [0, 2] rfl rfl hl.1 (ci := 6) rfl rfl rfl (rest := [.int v1, .int (0 : Int32), .ref a_t]) rfl rfl (Nat.le_of_ble_eq_true rfl) dX6_met_9) hP hD hS [0, 2] [1, 3, 4, 5, 6, 7, 8, 9] [8, 0, 9, 1, 2, 3, 4, 5, 6, 7] rfl rfl rfl (by decide) rfl (ws1 := (W_X6_met E a_t a_first a_now a_telling a_wBy a_wCell a_wFaces a_wFell a_wSign a_wTurns a_refused a_kept a_mind a_tape a_words a_holds a_sizes a_elements a_moved a_above a_out c_t c_first c_now c_telling c_wBy c_wCell c_wFaces c_wFell c_wSign c_wTurns)) rfl (fun H locs hP hD hS => ?_)
  obtain ⟨v3, hv3, h⟩ := bind_of h
  refine after_v X (run_V X (c_X6_start l E a_t a_wCell a_wFaces a_wFell a_wTurns a_refused a_now a_kept a_mind a_tape a_words a_wSign a_wBy a_telling a_holds a_sizes a_elements a_moved a_above a_out a_first (0 : Int32) v1 v2 c_t c_wCell c_wFaces c_wFell c_wTurns H.size v3 hv3) (cwV 3 hts gX6_met_X6_start rfl rfl rfl hV_X6_start ⟨(Nat.le_of_ble_eq_true rfl), (Nat.le_of_ble_eq_true rfl)⟩) hP hD hS [0, 5, 6, 7, 9] rfl rfl hl.1 (ci := 6) rfl rfl rfl (rest := []) rfl rfl (Nat.le_of_ble_eq_true rfl) dX6_met_12) hP hD hS [0, 5, 6, 7, 9] [1, 2, 3, 4, 8] [5, 0, 1, 2, 3, 6, 7, 8, 4, 9] rfl rfl rfl (by decide) rfl (ws1 := (W_X6_met E a_t a_first a_now a_telling a_wBy a_wCell a_wFaces a_wFell a_wSign a_wTurns a_refused a_kept a_mind a_tape a_words a_holds a_sizes a_elements a_moved a_above a_out c_t c_first c_now c_telling c_wBy (v3.1) (v3.2.1) (v3.2.2.1) c_wSign (v3.2.2.2))) rfl (fun H locs hP hD hS => ?_)
  refine lv_aload_n hx hb dX6_met_15 rfl (lv_at hl 0 rfl) ?_
  refine lv_iconst (v := (1 : Int32)) hx hb dX6_met_16 (by decide) ?_
  refine lv_aload_n hx hb dX6_met_17 rfl (lv_at hl 0 rfl) ?_
  refine lv_iload hx hb dX6_met_18 (lv_at hl 4 rfl) ?_
  obtain ⟨v4, hv4, h⟩ := bind_of h
  refine after_i X (run_V X (c_X6_cell l E a_t a_now a_refused a_kept a_mind a_tape a_words a_wCell a_wFaces a_wTurns a_wSign a_wBy a_wFell a_telling a_holds a_sizes a_elements a_moved a_above a_out a_first l4 c_t c_now H.size v4 hv4) (cwV 1 hts gX6_met_X6_cell rfl rfl rfl hV_X6_cell ⟨(Nat.le_of_ble_eq_true rfl), (Nat.le_of_ble_eq_true rfl)⟩) hP hD hS [0, 2] rfl rfl hl.1 (ci := 6) rfl rfl rfl (rest := [.int (1 : Int32), .ref a_t]) rfl rfl (Nat.le_of_ble_eq_true rfl) dX6_met_20) hP hD hS [0, 2] [1, 3, 4, 5, 6, 7, 8, 9] [8, 0, 9, 1, 2, 3, 4, 5, 6, 7] rfl rfl rfl (by decide) rfl (ws1 := (W_X6_met E a_t a_first a_now a_telling a_wBy a_wCell a_wFaces a_wFell a_wSign a_wTurns a_refused a_kept a_mind a_tape a_words a_holds a_sizes a_elements a_moved a_above a_out c_t c_first c_now c_telling c_wBy (v3.1) (v3.2.1) (v3.2.2.1) c_wSign (v3.2.2.2))) rfl (fun H locs hP hD hS => ?_)
  refine lv_aload_n hx hb dX6_met_23 rfl (lv_at hl 0 rfl) ?_
  refine lv_iload hx hb dX6_met_24 (lv_at hl 4 rfl) ?_
  obtain ⟨v5, hv5, h⟩ := bind_of h
  refine after_i X (run_V X (c_X6_faces l E a_t a_now a_refused a_kept a_mind a_tape a_words a_wCell a_wFaces a_wTurns a_wSign a_wBy a_wFell a_telling a_holds a_sizes a_elements a_moved a_above a_out a_first l4 c_t c_now H.size v5 hv5) (cwV 1 hts gX6_met_X6_faces rfl rfl rfl hV_X6_faces ⟨(Nat.le_of_ble_eq_true rfl), (Nat.le_of_ble_eq_true rfl)⟩) hP hD hS [0, 2] rfl rfl hl.1 (ci := 6) rfl rfl rfl (rest := [.int v4, .int (1 : Int32), .ref a_t]) rfl rfl (Nat.le_of_ble_eq_true rfl) dX6_met_26) hP hD hS [0, 2] [1, 3, 4, 5, 6, 7, 8, 9] [8, 0, 9, 1, 2, 3, 4, 5, 6, 7] rfl rfl rfl (by decide) rfl (ws1 := (W_X6_met E a_t a_first a_now a_telling a_wBy a_wCell a_wFaces a_wFell a_wSign a_wTurns a_refused a_kept a_mind a_tape a_words a_holds a_sizes a_elements a_moved a_above a_out c_t c_first c_now c_telling c_wBy (v3.1) (v3.2.1) (v3.2.2.1) c_wSign (v3.2.2.2))) rfl (fun H locs hP hD hS => ?_)
  obtain ⟨v6, hv6, h⟩ := bind_of h
  refine after_v X (run_V X (c_X6_start l E a_t a_wCell a_wFaces a_wFell a_wTurns a_refused a_now a_kept a_mind a_tape a_words a_wSign a_wBy a_telling a_holds a_sizes a_elements a_moved a_above a_out a_first (1 : Int32) v4 v5 c_t (v3.1) (v3.2.1) (v3.2.2.1) (v3.2.2.2) H.size v6 hv6) (cwV 3 hts gX6_met_X6_start rfl rfl rfl hV_X6_start ⟨(Nat.le_of_ble_eq_true rfl), (Nat.le_of_ble_eq_true rfl)⟩) hP hD hS [0, 5, 6, 7, 9] rfl rfl hl.1 (ci := 6) rfl rfl rfl (rest := []) rfl rfl (Nat.le_of_ble_eq_true rfl) dX6_met_29) hP hD hS [0, 5, 6, 7, 9] [1, 2, 3, 4, 8] [5, 0, 1, 2, 3, 6, 7, 8, 4, 9] rfl rfl rfl (by decide) rfl (ws1 := (W_X6_met E a_t a_first a_now a_telling a_wBy a_wCell a_wFaces a_wFell a_wSign a_wTurns a_refused a_kept a_mind a_tape a_words a_holds a_sizes a_elements a_moved a_above a_out c_t c_first c_now c_telling c_wBy (v6.1) (v6.2.1) (v6.2.2.1) c_wSign (v6.2.2.2))) rfl (fun H locs hP hD hS => ?_)
  refine lv_aload_n hx hb dX6_met_32 rfl (lv_at hl 0 rfl) ?_
  refine va_get (D := E.1) (ci := 6) (v := .ref a_wCell) (C := RX6) (T := TX6) (N := 26) hx hb hts iX6_met_X6 hown hK hP 0 rfl rfl 11 (by decide) (hts (.fieldLink RX6 33 "LeftIsAgreedOnModel" "wCell" "[I") (List.mem_of_getElem? (i := 1) rfl)) (fun _ h9 => h9) rfl dX6_met_33 ?_
  refine lv_iconst (v := (0 : Int32)) hx hb dX6_met_36 (by decide) ?_
  refine ld_i X hP 5 rfl (inb.vp (by decide)) (v := ((v6.1) 0)) rfl dX6_met_37 ?_
  refine lv_aload_n hx hb dX6_met_38 rfl (lv_at hl 0 rfl) ?_
  refine va_get (D := E.1) (ci := 6) (v := .ref a_wCell) (C := RX6) (T := TX6) (N := 26) hx hb hts iX6_met_X6 hown hK hP 0 rfl rfl 11 (by decide) (hts (.fieldLink RX6 33 "LeftIsAgreedOnModel" "wCell" "[I") (List.mem_of_getElem? (i := 1) rfl)) (fun _ h9 => h9) rfl dX6_met_39 ?_
  refine lv_iconst (v := (1 : Int32)) hx hb dX6_met_42 (by decide) ?_
  refine ld_i X hP 5 rfl (inb.vp (by decide)) (v := ((v6.1) 1)) rfl dX6_met_43 ?_
  refine lv_icmp_ne (tgt := 49) hx hb dX6_met_44 (by decide) (fun hc44 => ?_) (fun hc44 => ?_)
  · have h := if_f h hc44
    refine lv_iconst (v := (0 : Int32)) hx hb dX6_met_49 (by decide) ?_
    refine lv_istore (lv' := [(6, .int (0 : Int32)), (0, .ref a_t), (1, .int l1), (2, .int l2), (3, .int l3), (4, .int l4), (5, .int l5)]) hx hb dX6_met_50 hl (by decide) rfl (fun ls hl => ?_)
    exact w_X6_met_b52 X a_t a_first a_now a_telling a_wBy a_wCell a_wFaces a_wFell a_wSign a_wTurns a_refused a_kept a_mind a_tape a_words a_holds a_sizes a_elements a_moved a_above a_out c_first c_now c_telling res FU c_t c_wBy (v6.1) (v6.2.1) (v6.2.2.1) c_wSign (v6.2.2.2) l1 l2 l3 l4 l5 (0 : Int32) _ _ _ h hP hD hS (lv_sub hl [1, 2, 3, 4, 5, 6, 0] rfl)
  · have h := if_t h hc44
    refine lv_iconst (v := (0 : Int32)) hx hb dX6_met_47 (by decide) ?_
    obtain rfl := Option.some.inj h
    exact ret_i X dX6_met_48 hP hD hS rfl
end
set_option maxRecDepth 100000 in
theorem c_X6_met (l : Launch) (E : Env0) (a_t : Nat) (a_first : Nat) (a_now : Nat) (a_telling : Nat) (a_wBy : Nat) (a_wCell : Nat) (a_wFaces : Nat) (a_wFell : Nat) (a_wSign : Nat) (a_wTurns : Nat) (a_refused : Nat) (a_kept : Nat) (a_mind : Nat) (a_tape : Nat) (a_words : Nat) (a_holds : Nat) (a_sizes : Nat) (a_elements : Nat) (a_moved : Nat) (a_above : Nat) (a_out : Nat) (l1 : Int32) (l2 : Int32) (l3 : Int32) (l4 : Int32) (l5 : Int32) (c_t : Nat → Int32) (c_first : Nat → Int32) (c_now : Nat → Int32) (c_telling : Nat → Int32) (c_wBy : Nat → Int32) (c_wCell : Nat → Int32) (c_wFaces : Nat → Int32) (c_wFell : Nat → Int32) (c_wSign : Nat → Int32) (c_wTurns : Nat → Int32) (sz : Nat) (res : Int32 × (Nat → Int32) × (Nat → Int32) × (Nat → Int32) × (Nat → Int32) × (Nat → Int32) × (Nat → Int32) × (Nat → Int32)) (h : f_X6_met l1 l2 l3 l4 l5 c_t c_first c_now c_telling c_wBy c_wCell c_wFaces c_wFell c_wSign c_wTurns = some res) : Met l yX6_met wsX6_met r_X6_met (cPre E [.ref a_t, .int l1, .int l2, .int l3, .int l4, .int l5] (W_X6_met E a_t a_first a_now a_telling a_wBy a_wCell a_wFaces a_wFell a_wSign a_wTurns a_refused a_kept a_mind a_tape a_words a_holds a_sizes a_elements a_moved a_above a_out c_t c_first c_now c_telling c_wBy c_wCell c_wFaces c_wFell c_wSign c_wTurns) sz) (qI E (va_A (W_X6_met E a_t a_first a_now a_telling a_wBy a_wCell a_wFaces a_wFell a_wSign a_wTurns a_refused a_kept a_mind a_tape a_words a_holds a_sizes a_elements a_moved a_above a_out c_t c_first c_now c_telling c_wBy c_wCell c_wFaces c_wFell c_wSign c_wTurns) sz) (res.1) (W_X6_met E a_t a_first a_now a_telling a_wBy a_wCell a_wFaces a_wFell a_wSign a_wTurns a_refused a_kept a_mind a_tape a_words a_holds a_sizes a_elements a_moved a_above a_out (res.2.1) c_first c_now c_telling (res.2.2.1) (res.2.2.2.1) (res.2.2.2.2.1) (res.2.2.2.2.2.1) (res.2.2.2.2.2.2.1) (res.2.2.2.2.2.2.2))) 0 0 (va_A (W_X6_met E a_t a_first a_now a_telling a_wBy a_wCell a_wFaces a_wFell a_wSign a_wTurns a_refused a_kept a_mind a_tape a_words a_holds a_sizes a_elements a_moved a_above a_out c_t c_first c_now c_telling c_wBy c_wCell c_wFaces c_wFell c_wSign c_wTurns) sz) :=
  met_of (Qc := fun A => qI E A (res.1) (W_X6_met E a_t a_first a_now a_telling a_wBy a_wCell a_wFaces a_wFell a_wSign a_wTurns a_refused a_kept a_mind a_tape a_words a_holds a_sizes a_elements a_moved a_above a_out (res.2.1) c_first c_now c_telling (res.2.2.1) (res.2.2.2.1) (res.2.2.2.2.1) (res.2.2.2.2.2.1) (res.2.2.2.2.2.2.1) (res.2.2.2.2.2.2.2))) (by decide) rfl (Nat.le_of_ble_eq_true rfl) (fun p e s m args below meth c X hP hD hS ls hl => w_X6_met X a_t a_first a_now a_telling a_wBy a_wCell a_wFaces a_wFell a_wSign a_wTurns a_refused a_kept a_mind a_tape a_words a_holds a_sizes a_elements a_moved a_above a_out c_first c_now c_telling res c_t c_wBy c_wCell c_wFaces c_wFell c_wSign c_wTurns l1 l2 l3 l4 l5 ls _ _ h hP hD hS hl)
-- ===== X6_meet
abbrev W_X6_meet (E : Env0) (a_t : Nat) (a_elements : Nat) (a_first : Nat) (a_holds : Nat) (a_now : Nat) (a_refused : Nat) (a_sizes : Nat) (a_telling : Nat) (a_wBy : Nat) (a_wCell : Nat) (a_wFaces : Nat) (a_wFell : Nat) (a_wSign : Nat) (a_wTurns : Nat) (a_kept : Nat) (a_mind : Nat) (a_tape : Nat) (a_words : Nat) (a_moved : Nat) (a_above : Nat) (a_out : Nat) (c_t : Nat → Int32) (c_elements : Nat → Int64) (c_first : Nat → Int32) (c_holds : Nat → Int32) (c_now : Nat → Int32) (c_refused : Nat → Int32) (c_sizes : Nat → Int32) (c_telling : Nat → Int32) (c_wBy : Nat → Int32) (c_wCell : Nat → Int32) (c_wFaces : Nat → Int32) (c_wFell : Nat → Int32) (c_wSign : Nat → Int32) (c_wTurns : Nat → Int32) : va_W := [(a_t, .inr (6, [.ref a_refused, .ref a_now, .ref a_kept, .ref a_mind, .int (c_t 4), .ref a_tape, .int (c_t 6), .int (c_t 7), .int (c_t 8), .int (c_t 9), .ref a_words, .ref a_wCell, .ref a_wFaces, .ref a_wTurns, .ref a_wSign, .ref a_wBy, .ref a_wFell, .int (c_t 17), .ref a_telling, .ref a_holds, .ref a_sizes, .ref a_elements, .ref a_moved, .ref a_above, .ref a_out, .ref a_first])), (a_elements, .inl (eJ E, 320, .inr (.inl c_elements))), (a_first, .inl (eI E, 40, .inl c_first)), (a_holds, .inl (eI E, 8, .inl c_holds)), (a_now, .inl (eI E, 97, .inl c_now)), (a_refused, .inl (eI E, 7, .inl c_refused)), (a_sizes, .inl (eI E, 8, .inl c_sizes)), (a_telling, .inl (eI E, 40, .inl c_telling)), (a_wBy, .inl (eI E, 2, .inl c_wBy)), (a_wCell, .inl (eI E, 2, .inl c_wCell)), (a_wFaces, .inl (eI E, 2, .inl c_wFaces)), (a_wFell, .inl (eI E, 2, .inl c_wFell)), (a_wSign, .inl (eI E, 2, .inl c_wSign)), (a_wTurns, .inl (eI E, 2, .inl c_wTurns))]
abbrev r_X6_meet : Room := { frames := 6, cells := 0, slots := 0, locals := 150 }
theorem hd_X6_meet : yX6_meet.cls ≠ "java/lang/invoke/MethodHandle" ∧ yX6_meet.cls ≠ "java/lang/invoke/VarHandle" ∧ (parseMethodDescriptor yX6_meet.desc).map (fun d => d.parameters.length) = some 6 := by decide +kernel
theorem hV_X6_meet : yX6_meet.cls = RX6 ∧ yX6_meet.cls ≠ "java/lang/invoke/MethodHandle" ∧ yX6_meet.cls ≠ "java/lang/invoke/VarHandle" ∧ (parseMethodDescriptor yX6_meet.desc).map (fun d => d.parameters.length) = some 6 := ⟨rfl, hd_X6_meet⟩
section
variable {p : Program} {l : Launch} {e : Env} {s : State} {m : MethodId} {args : Array Value} {below : List Frame} {meth : Method} {c : Code} {E : Env0} {A : Nat → Prop}
set_option maxRecDepth 100000 in
set_option maxHeartbeats 4000000 in
theorem w_X6_meet (X : Ctx p m meth c cX6_meet 8 ((some .int)) s args wsX6_meet RX6 E A) (a_t : Nat) (a_elements : Nat) (a_first : Nat) (a_holds : Nat) (a_now : Nat) (a_refused : Nat) (a_sizes : Nat) (a_telling : Nat) (a_wBy : Nat) (a_wCell : Nat) (a_wFaces : Nat) (a_wFell : Nat) (a_wSign : Nat) (a_wTurns : Nat) (a_kept : Nat) (a_mind : Nat) (a_tape : Nat) (a_words : Nat) (a_moved : Nat) (a_above : Nat) (a_out : Nat) (c_elements : Nat → Int64) (c_holds : Nat → Int32) (c_now : Nat → Int32) (c_sizes : Nat → Int32) (res : Int32 × (Nat → Int32) × (Nat → Int32) × (Nat → Int32) × (Nat → Int32) × (Nat → Int32) × (Nat → Int32) × (Nat → Int32) × (Nat → Int32) × (Nat → Int32) × (Nat → Int32)) (c_t : Nat → Int32) (c_first : Nat → Int32) (c_refused : Nat → Int32) (c_telling : Nat → Int32) (c_wBy : Nat → Int32) (c_wCell : Nat → Int32) (c_wFaces : Nat → Int32) (c_wFell : Nat → Int32) (c_wSign : Nat → Int32) (c_wTurns : Nat → Int32) (l1 : Int32) (l2 : Int32) (l3 : Int32) (l4 : Int32) (l5 : Int32) (l6 : Int32) (ls : Array Slot) (H : Heap) (locs : List Loc) (h : f_X6_meet l1 l2 l3 l4 l5 l6 c_t c_elements c_first c_holds c_now c_refused c_sizes c_telling c_wBy c_wCell c_wFaces c_wFell c_wSign c_wTurns = some res) (hP : va_P E.1 vwCl (W_X6_meet E a_t a_elements a_first a_holds a_now a_refused a_sizes a_telling a_wBy a_wCell a_wFaces a_wFell a_wSign a_wTurns a_kept a_mind a_tape a_words a_moved a_above a_out c_t c_elements c_first c_holds c_now c_refused c_sizes c_telling c_wBy c_wCell c_wFaces c_wFell c_wSign c_wTurns) H) (hD : va_D A (W_X6_meet E a_t a_elements a_first a_holds a_now a_refused a_sizes a_telling a_wBy a_wCell a_wFaces a_wFell a_wSign a_wTurns a_kept a_mind a_tape a_words a_moved a_above a_out c_t c_elements c_first c_holds c_now c_refused c_sizes c_telling c_wBy c_wCell c_wFaces c_wFell c_wSign c_wTurns)) (hS : va_S A s.heap H locs) (hl : lv_has ls 8 [(0, .ref a_t), (1, .int l1), (2, .int l2), (3, .int l3), (4, .int l4), (5, .int l5), (6, .int l6)]) : W p l e r_X6_meet s m args below meth c H locs 0 0 (MQ below (qI E A (res.1) (W_X6_meet E a_t a_elements a_first a_holds a_now a_refused a_sizes a_telling a_wBy a_wCell a_wFaces a_wFell a_wSign a_wTurns a_kept a_mind a_tape a_words a_moved a_above a_out (res.2.1) c_elements (res.2.2.1) c_holds c_now (res.2.2.2.1) c_sizes (res.2.2.2.2.1) (res.2.2.2.2.2.1) (res.2.2.2.2.2.2.1) (res.2.2.2.2.2.2.2.1) (res.2.2.2.2.2.2.2.2.1) (res.2.2.2.2.2.2.2.2.2.1) (res.2.2.2.2.2.2.2.2.2.2))) args s 0 0 A) (F0 m 0 ls []) := by
  obtain ⟨hx, hb, hml, hr, hlk, hown, hts, hG, hA⟩ := id X
  have hK := hG.1
  have hN := hG.2.1
  unfold f_X6_meet at h
  refine lv_aload_n hx hb dX6_meet_0 rfl (lv_at hl 0 rfl) ?_
  refine lv_iload_n hx hb dX6_meet_1 rfl (lv_at hl 1 rfl) ?_
  refine lv_iload_n hx hb dX6_meet_2 rfl (lv_at hl 2 rfl) ?_
  refine lv_iload_n hx hb dX6_meet_3 rfl (lv_at hl 3 rfl) ?_
  refine lv_iload hx hb dX6_meet_4 (lv_at hl 4 rfl) ?_
  refine lv_iload hx hb dX6_meet_6 (lv_at hl 5 rfl) ?_
  refine lv_iload hx hb dX6_meet_8 (lv_at hl 6 rfl) ?_
  obtain ⟨v1, hv1, h⟩ := bind_of h
  refine after_i X (run_V X (c_X6_loadBoth l E a_t a_elements a_first a_holds a_now a_sizes a_telling a_refused a_kept a_mind a_tape a_words a_wCell a_wFaces a_wTurns a_wSign a_wBy a_wFell a_moved a_above a_out l1 l2 l3 l4 l5 l6 c_t c_elements c_first c_holds c_now c_sizes c_telling H.size v1 hv1) (cwV 6 hts gX6_meet_X6_loadBoth rfl rfl rfl hV_X6_loadBoth ⟨(Nat.le_of_ble_eq_true rfl), (Nat.le_of_ble_eq_true rfl)⟩) hP hD hS [0, 1, 2, 3, 4, 6, 7] rfl rfl hl.1 (ci := 6) rfl rfl rfl (rest := []) rfl rfl (Nat.le_of_ble_eq_true rfl) dX6_meet_10) hP hD hS [0, 1, 2, 3, 4, 6, 7] [5, 8, 9, 10, 11, 12, 13] [7, 8, 9, 10, 11, 0, 12, 13, 1, 2, 3, 4, 5, 6] rfl rfl rfl (by decide) rfl (ws1 := (W_X6_meet E a_t a_elements a_first a_holds a_now a_refused a_sizes a_telling a_wBy a_wCell a_wFaces a_wFell a_wSign a_wTurns a_kept a_mind a_tape a_words a_moved a_above a_out c_t c_elements (v1.2.1) c_holds c_now c_refused c_sizes (v1.2.2) c_wBy c_wCell c_wFaces c_wFell c_wSign c_wTurns)) rfl (fun H locs hP hD hS => ?_)
  refine lv_istore (lv' := [(7, .int (v1.1)), (0, .ref a_t), (1, .int l1), (2, .int l2), (3, .int l3), (4, .int l4), (5, .int l5), (6, .int l6)]) hx hb dX6_meet_13 hl (by decide) rfl (fun ls hl => ?_)
  refine lv_iload hx hb dX6_meet_15 (lv_at hl 0 rfl) ?_
  refine lv_if_ge (tgt := 29) hx hb dX6_meet_17 (by decide) (fun hc17 => ?_) (fun hc17 => ?_)
  · have h := if_t h hc17
    refine lv_aload_n hx hb dX6_meet_29 rfl (lv_at hl 1 rfl) ?_
    refine lv_iload_n hx hb dX6_meet_30 rfl (lv_at hl 3 rfl) ?_
    refine lv_iload_n hx hb dX6_meet_31 rfl (lv_at hl 4 rfl) ?_
    refine lv_iload hx hb dX6_meet_32 (lv_at hl 6 rfl) ?_
    refine lv_iload hx hb dX6_meet_34 (lv_at hl 7 rfl) ?_
    refine lv_iconst (v := (0 : Int32)) hx hb dX6_meet_36 (by decide) ?_
    obtain ⟨v2, hv2, h⟩ := bind_of h
    refine after_i X (run_V X (c_X6_met l E a_t a_first a_now a_telling a_wBy a_wCell a_wFaces a_wFell a_wSign a_wTurns a_refused a_kept a_mind a_tape a_words a_holds a_sizes a_elements a_moved a_above a_out l2 l3 l5 l6 (0 : Int32) c_t (v1.2.1) c_now (v1.2.2) c_wBy c_wCell c_wFaces c_wFell c_wSign c_wTurns H.size v2 hv2) (cwV 5 hts gX6_meet_X6_met rfl rfl rfl hV_X6_met ⟨(Nat.le_of_ble_eq_true rfl), (Nat.le_of_ble_eq_true rfl)⟩) hP hD hS [0, 2, 4, 7, 8, 9, 10, 11, 12, 13] rfl rfl hl.1 (ci := 6) rfl rfl rfl (rest := []) rfl rfl (Nat.le_of_ble_eq_true rfl) dX6_meet_37) hP hD hS [0, 2, 4, 7, 8, 9, 10, 11, 12, 13] [1, 3, 5, 6] [4, 0, 5, 1, 6, 2, 3, 7, 8, 9, 10, 11, 12, 13] rfl rfl rfl (by decide) rfl (ws1 := (W_X6_meet E a_t a_elements a_first a_holds a_now a_refused a_sizes a_telling a_wBy a_wCell a_wFaces a_wFell a_wSign a_wTurns a_kept a_mind a_tape a_words a_moved a_above a_out (v2.2.1) c_elements (v1.2.1) c_holds c_now c_refused c_sizes (v1.2.2) (v2.2.2.1) (v2.2.2.2.1) (v2.2.2.2.2.1) (v2.2.2.2.2.2.1) (v2.2.2.2.2.2.2.1) (v2.2.2.2.2.2.2.2))) rfl (fun H locs hP hD hS => ?_)
    obtain rfl := Option.some.inj h
    exact ret_i X dX6_meet_40 hP hD hS rfl
  · have h := if_f h hc17
    refine lv_aload_n hx hb dX6_meet_20 rfl (lv_at hl 1 rfl) ?_
    refine lv_iload hx hb dX6_meet_21 (lv_at hl 0 rfl) ?_
    obtain ⟨v3, hv3, h⟩ := bind_of h
    refine after_i X (run_V X (c_X6_refuse l E a_t a_refused a_now a_kept a_mind a_tape a_words a_wCell a_wFaces a_wTurns a_wSign a_wBy a_wFell a_telling a_holds a_sizes a_elements a_moved a_above a_out a_first (v1.1) c_t c_refused H.size v3 hv3) (cwV 1 hts gX6_meet_X6_refuse rfl rfl rfl hV_X6_refuse ⟨(Nat.le_of_ble_eq_true rfl), (Nat.le_of_ble_eq_true rfl)⟩) hP hD hS [0, 5] rfl rfl hl.1 (ci := 6) rfl rfl rfl (rest := []) rfl rfl (Nat.le_of_ble_eq_true rfl) dX6_meet_23) hP hD hS [0, 5] [1, 2, 3, 4, 6, 7, 8, 9, 10, 11, 12, 13] [12, 0, 1, 2, 3, 13, 4, 5, 6, 7, 8, 9, 10, 11] rfl rfl rfl (by decide) rfl (ws1 := (W_X6_meet E a_t a_elements a_first a_holds a_now a_refused a_sizes a_telling a_wBy a_wCell a_wFaces a_wFell a_wSign a_wTurns a_kept a_mind a_tape a_words a_moved a_above a_out c_t c_elements (v1.2.1) c_holds c_now (v3.2) c_sizes (v1.2.2) c_wBy c_wCell c_wFaces c_wFell c_wSign c_wTurns)) rfl (fun H locs hP hD hS => ?_)
    refine lv_goto (tgt := 40) hx hb dX6_meet_26 (by decide) ?_
    obtain rfl := Option.some.inj h
    exact ret_i X dX6_meet_40 hP hD hS rfl
end
set_option maxRecDepth 100000 in
theorem c_X6_meet (l : Launch) (E : Env0) (a_t : Nat) (a_elements : Nat) (a_first : Nat) (a_holds : Nat) (a_now : Nat) (a_refused : Nat) (a_sizes : Nat) (a_telling : Nat) (a_wBy : Nat) (a_wCell : Nat) (a_wFaces : Nat) (a_wFell : Nat) (a_wSign : Nat) (a_wTurns : Nat) (a_kept : Nat) (a_mind : Nat) (a_tape : Nat) (a_words : Nat) (a_moved : Nat) (a_above : Nat) (a_out : Nat) (l1 : Int32) (l2 : Int32) (l3 : Int32) (l4 : Int32) (l5 : Int32) (l6 : Int32) (c_t : Nat → Int32) (c_elements : Nat → Int64) (c_first : Nat → Int32) (c_holds : Nat → Int32) (c_now : Nat → Int32) (c_refused : Nat → Int32) (c_sizes : Nat → Int32) (c_telling : Nat → Int32) (c_wBy : Nat → Int32) (c_wCell : Nat → Int32) (c_wFaces : Nat → Int32) (c_wFell : Nat → Int32) (c_wSign : Nat → Int32) (c_wTurns : Nat → Int32) (sz : Nat) (res : Int32 × (Nat → Int32) × (Nat → Int32) × (Nat → Int32) × (Nat → Int32) × (Nat → Int32) × (Nat → Int32) × (Nat → Int32) × (Nat → Int32) × (Nat → Int32) × (Nat → Int32)) (h : f_X6_meet l1 l2 l3 l4 l5 l6 c_t c_elements c_first c_holds c_now c_refused c_sizes c_telling c_wBy c_wCell c_wFaces c_wFell c_wSign c_wTurns = some res) : Met l yX6_meet wsX6_meet r_X6_meet (cPre E [.ref a_t, .int l1, .int l2, .int l3, .int l4, .int l5, .int l6] (W_X6_meet E a_t a_elements a_first a_holds a_now a_refused a_sizes a_telling a_wBy a_wCell a_wFaces a_wFell a_wSign a_wTurns a_kept a_mind a_tape a_words a_moved a_above a_out c_t c_elements c_first c_holds c_now c_refused c_sizes c_telling c_wBy c_wCell c_wFaces c_wFell c_wSign c_wTurns) sz) (qI E (va_A (W_X6_meet E a_t a_elements a_first a_holds a_now a_refused a_sizes a_telling a_wBy a_wCell a_wFaces a_wFell a_wSign a_wTurns a_kept a_mind a_tape a_words a_moved a_above a_out c_t c_elements c_first c_holds c_now c_refused c_sizes c_telling c_wBy c_wCell c_wFaces c_wFell c_wSign c_wTurns) sz) (res.1) (W_X6_meet E a_t a_elements a_first a_holds a_now a_refused a_sizes a_telling a_wBy a_wCell a_wFaces a_wFell a_wSign a_wTurns a_kept a_mind a_tape a_words a_moved a_above a_out (res.2.1) c_elements (res.2.2.1) c_holds c_now (res.2.2.2.1) c_sizes (res.2.2.2.2.1) (res.2.2.2.2.2.1) (res.2.2.2.2.2.2.1) (res.2.2.2.2.2.2.2.1) (res.2.2.2.2.2.2.2.2.1) (res.2.2.2.2.2.2.2.2.2.1) (res.2.2.2.2.2.2.2.2.2.2))) 0 0 (va_A (W_X6_meet E a_t a_elements a_first a_holds a_now a_refused a_sizes a_telling a_wBy a_wCell a_wFaces a_wFell a_wSign a_wTurns a_kept a_mind a_tape a_words a_moved a_above a_out c_t c_elements c_first c_holds c_now c_refused c_sizes c_telling c_wBy c_wCell c_wFaces c_wFell c_wSign c_wTurns) sz) :=
  met_of (Qc := fun A => qI E A (res.1) (W_X6_meet E a_t a_elements a_first a_holds a_now a_refused a_sizes a_telling a_wBy a_wCell a_wFaces a_wFell a_wSign a_wTurns a_kept a_mind a_tape a_words a_moved a_above a_out (res.2.1) c_elements (res.2.2.1) c_holds c_now (res.2.2.2.1) c_sizes (res.2.2.2.2.1) (res.2.2.2.2.2.1) (res.2.2.2.2.2.2.1) (res.2.2.2.2.2.2.2.1) (res.2.2.2.2.2.2.2.2.1) (res.2.2.2.2.2.2.2.2.2.1) (res.2.2.2.2.2.2.2.2.2.2))) (by decide) rfl (Nat.le_of_ble_eq_true rfl) (fun p e s m args below meth c X hP hD hS ls hl => w_X6_meet X a_t a_elements a_first a_holds a_now a_refused a_sizes a_telling a_wBy a_wCell a_wFaces a_wFell a_wSign a_wTurns a_kept a_mind a_tape a_words a_moved a_above a_out c_elements c_holds c_now c_sizes res c_t c_first c_refused c_telling c_wBy c_wCell c_wFaces c_wFell c_wSign c_wTurns l1 l2 l3 l4 l5 l6 ls _ _ h hP hD hS hl)
-- ===== X6_waits
abbrev W_X6_waits (E : Env0) (a_t : Nat) (a_elements : Nat) (a_first : Nat) (a_holds : Nat) (a_now : Nat) (a_refused : Nat) (a_sizes : Nat) (a_telling : Nat) (a_wBy : Nat) (a_wCell : Nat) (a_wFaces : Nat) (a_wFell : Nat) (a_wSign : Nat) (a_wTurns : Nat) (a_kept : Nat) (a_mind : Nat) (a_tape : Nat) (a_words : Nat) (a_moved : Nat) (a_above : Nat) (a_out : Nat) (c_t : Nat → Int32) (c_elements : Nat → Int64) (c_first : Nat → Int32) (c_holds : Nat → Int32) (c_now : Nat → Int32) (c_refused : Nat → Int32) (c_sizes : Nat → Int32) (c_telling : Nat → Int32) (c_wBy : Nat → Int32) (c_wCell : Nat → Int32) (c_wFaces : Nat → Int32) (c_wFell : Nat → Int32) (c_wSign : Nat → Int32) (c_wTurns : Nat → Int32) : va_W := [(a_t, .inr (6, [.ref a_refused, .ref a_now, .ref a_kept, .ref a_mind, .int (c_t 4), .ref a_tape, .int (c_t 6), .int (c_t 7), .int (c_t 8), .int (c_t 9), .ref a_words, .ref a_wCell, .ref a_wFaces, .ref a_wTurns, .ref a_wSign, .ref a_wBy, .ref a_wFell, .int (c_t 17), .ref a_telling, .ref a_holds, .ref a_sizes, .ref a_elements, .ref a_moved, .ref a_above, .ref a_out, .ref a_first])), (a_elements, .inl (eJ E, 320, .inr (.inl c_elements))), (a_first, .inl (eI E, 40, .inl c_first)), (a_holds, .inl (eI E, 8, .inl c_holds)), (a_now, .inl (eI E, 97, .inl c_now)), (a_refused, .inl (eI E, 7, .inl c_refused)), (a_sizes, .inl (eI E, 8, .inl c_sizes)), (a_telling, .inl (eI E, 40, .inl c_telling)), (a_wBy, .inl (eI E, 2, .inl c_wBy)), (a_wCell, .inl (eI E, 2, .inl c_wCell)), (a_wFaces, .inl (eI E, 2, .inl c_wFaces)), (a_wFell, .inl (eI E, 2, .inl c_wFell)), (a_wSign, .inl (eI E, 2, .inl c_wSign)), (a_wTurns, .inl (eI E, 2, .inl c_wTurns))]
abbrev r_X6_waits : Room := { frames := 6, cells := 0, slots := 0, locals := 150 }
theorem hd_X6_waits : yX6_waits.cls ≠ "java/lang/invoke/MethodHandle" ∧ yX6_waits.cls ≠ "java/lang/invoke/VarHandle" ∧ (parseMethodDescriptor yX6_waits.desc).map (fun d => d.parameters.length) = some 6 := by decide +kernel
theorem hV_X6_waits : yX6_waits.cls = RX6 ∧ yX6_waits.cls ≠ "java/lang/invoke/MethodHandle" ∧ yX6_waits.cls ≠ "java/lang/invoke/VarHandle" ∧ (parseMethodDescriptor yX6_waits.desc).map (fun d => d.parameters.length) = some 6 := ⟨rfl, hd_X6_waits⟩
section
variable {p : Program} {l : Launch} {e : Env} {s : State} {m : MethodId} {args : Array Value} {below : List Frame} {meth : Method} {c : Code} {E : Env0} {A : Nat → Prop}
set_option maxRecDepth 100000 in
set_option maxHeartbeats 4000000 in
theorem w_X6_waits_b30 (X : Ctx p m meth c cX6_waits 9 ((some .int)) s args wsX6_waits RX6 E A) (a_t : Nat) (a_elements : Nat) (a_first : Nat) (a_holds : Nat) (a_now : Nat) (a_refused : Nat) (a_sizes : Nat) (a_telling : Nat) (a_wBy : Nat) (a_wCell : Nat) (a_wFaces : Nat) (a_wFell : Nat) (a_wSign : Nat) (a_wTurns : Nat) (a_kept : Nat) (a_mind : Nat) (a_tape : Nat) (a_words : Nat) (a_moved : Nat) (a_above : Nat) (a_out : Nat) (c_elements : Nat → Int64) (c_holds : Nat → Int32) (c_now : Nat → Int32) (c_sizes : Nat → Int32) (res : Int32 × (Nat → Int32) × (Nat → Int32) × (Nat → Int32) × (Nat → Int32) × (Nat → Int32) × (Nat → Int32) × (Nat → Int32) × (Nat → Int32) × (Nat → Int32) × (Nat → Int32)) : ∀ (n : Nat) (c_t : Nat → Int32) (c_first : Nat → Int32) (c_refused : Nat → Int32) (c_telling : Nat → Int32) (c_wBy : Nat → Int32) (c_wCell : Nat → Int32) (c_wFaces : Nat → Int32) (c_wFell : Nat → Int32) (c_wSign : Nat → Int32) (c_wTurns : Nat → Int32) (l2 : Int32) (l3 : Int32) (l5 : Int32) (l6 : Int32) (l8 : Int32) (ls : Array Slot) (H : Heap) (locs : List Loc), f_X6_waits_b30 c_elements c_holds c_now c_sizes n c_t c_first c_refused c_telling c_wBy c_wCell c_wFaces c_wFell c_wSign c_wTurns l2 l3 l5 l6 l8 = some res → va_P E.1 vwCl (W_X6_waits E a_t a_elements a_first a_holds a_now a_refused a_sizes a_telling a_wBy a_wCell a_wFaces a_wFell a_wSign a_wTurns a_kept a_mind a_tape a_words a_moved a_above a_out c_t c_elements c_first c_holds c_now c_refused c_sizes c_telling c_wBy c_wCell c_wFaces c_wFell c_wSign c_wTurns) H → va_D A (W_X6_waits E a_t a_elements a_first a_holds a_now a_refused a_sizes a_telling a_wBy a_wCell a_wFaces a_wFell a_wSign a_wTurns a_kept a_mind a_tape a_words a_moved a_above a_out c_t c_elements c_first c_holds c_now c_refused c_sizes c_telling c_wBy c_wCell c_wFaces c_wFell c_wSign c_wTurns) → va_S A s.heap H locs → lv_has ls 9 [(0, .ref a_t), (2, .int l2), (3, .int l3), (5, .int l5), (6, .int l6), (8, .int l8)] → W p l e r_X6_waits s m args below meth c H locs 0 0 (MQ below (qI E A (res.1) (W_X6_waits E a_t a_elements a_first a_holds a_now a_refused a_sizes a_telling a_wBy a_wCell a_wFaces a_wFell a_wSign a_wTurns a_kept a_mind a_tape a_words a_moved a_above a_out (res.2.1) c_elements (res.2.2.1) c_holds c_now (res.2.2.2.1) c_sizes (res.2.2.2.2.1) (res.2.2.2.2.2.1) (res.2.2.2.2.2.2.1) (res.2.2.2.2.2.2.2.1) (res.2.2.2.2.2.2.2.2.1) (res.2.2.2.2.2.2.2.2.2.1) (res.2.2.2.2.2.2.2.2.2.2))) args s 0 0 A) (F0 m 30 ls []) := by
  obtain ⟨hx, hb, hml, hr, hlk, hown, hts, hG, hA⟩ := id X
  have hK := hG.1
  have hN := hG.2.1
  intro n
  induction n with
  | zero =>
    intro c_t c_first c_refused c_telling c_wBy c_wCell c_wFaces c_wFell c_wSign c_wTurns l2 l3 l5 l6 l8 ls H locs h
    exact absurd (show (none : Option (Int32 × (Nat → Int32) × (Nat → Int32) × (Nat → Int32) × (Nat → Int32) × (Nat → Int32) × (Nat → Int32) × (Nat → Int32) × (Nat → Int32) × (Nat → Int32) × (Nat → Int32))) = some res from h) (by intro q; cases q)
  | succ n ih =>
    intro c_t c_first c_refused c_telling c_wBy c_wCell c_wFaces c_wFell c_wSign c_wTurns l2 l3 l5 l6 l8 ls H locs h hP hD hS hl
    rw [f_X6_waits_b30] at h
    refine lv_iload hx hb dX6_waits_30 (lv_at hl 5 rfl) ?_
    refine lv_bipush (v := (10 : Int32)) hx hb dX6_waits_32 (by decide) ?_
    refine lv_icmp_ge (tgt := 62) hx hb dX6_waits_34 (by decide) (fun hc34 => ?_) (fun hc34 => ?_)
    · have h := if_t h hc34
      refine lv_iconst (v := (-1 : Int32)) hx hb dX6_waits_62 (by decide) ?_
      obtain rfl := Option.some.inj h
      exact ret_i X dX6_waits_63 hP hD hS rfl
    · have h := if_f h hc34
      refine lv_aload_n hx hb dX6_waits_37 rfl (lv_at hl 0 rfl) ?_
      refine lv_iload_n hx hb dX6_waits_38 rfl (lv_at hl 1 rfl) ?_
      refine lv_iload_n hx hb dX6_waits_39 rfl (lv_at hl 2 rfl) ?_
      refine lv_iload hx hb dX6_waits_40 (lv_at hl 3 rfl) ?_
      refine lv_iload hx hb dX6_waits_42 (lv_at hl 4 rfl) ?_
      refine lv_iload hx hb dX6_waits_44 (lv_at hl 5 rfl) ?_
      obtain ⟨v1, hv1, h⟩ := bind_of h
      refine after_i X (run_V X (c_X6_met l E a_t a_first a_now a_telling a_wBy a_wCell a_wFaces a_wFell a_wSign a_wTurns a_refused a_kept a_mind a_tape a_words a_holds a_sizes a_elements a_moved a_above a_out l2 l3 l5 l6 l8 c_t c_first c_now c_telling c_wBy c_wCell c_wFaces c_wFell c_wSign c_wTurns H.size v1 hv1) (cwV 5 hts gX6_waits_X6_met rfl rfl rfl hV_X6_met ⟨(Nat.le_of_ble_eq_true rfl), (Nat.le_of_ble_eq_true rfl)⟩) hP hD hS [0, 2, 4, 7, 8, 9, 10, 11, 12, 13] rfl rfl hl.1 (ci := 6) rfl rfl rfl (rest := []) rfl rfl (Nat.le_of_ble_eq_true rfl) dX6_waits_46) hP hD hS [0, 2, 4, 7, 8, 9, 10, 11, 12, 13] [1, 3, 5, 6] [4, 0, 5, 1, 6, 2, 3, 7, 8, 9, 10, 11, 12, 13] rfl rfl rfl (by decide) rfl (ws1 := (W_X6_waits E a_t a_elements a_first a_holds a_now a_refused a_sizes a_telling a_wBy a_wCell a_wFaces a_wFell a_wSign a_wTurns a_kept a_mind a_tape a_words a_moved a_above a_out (v1.2.1) c_elements c_first c_holds c_now c_refused c_sizes c_telling (v1.2.2.1) (v1.2.2.2.1) (v1.2.2.2.2.1) (v1.2.2.2.2.2.1) (v1.2.2.2.2.2.2.1) (v1.2.2.2.2.2.2.2))) rfl (fun H locs hP hD hS => ?_)
      refine lv_iconst (v := (-1 : Int32)) hx hb dX6_waits_49 (by decide) ?_
      refine lv_icmp_ne (tgt := 56) hx hb dX6_waits_50 (by decide) (fun hc50 => ?_) (fun hc50 => ?_)
      · have h := if_f h hc50
        refine lv_iinc (v := (l8 + (1 : Int32))) (lv' := [(8, .int (l8 + (1 : Int32))), (0, .ref a_t), (2, .int l2), (3, .int l3), (5, .int l5), (6, .int l6)]) hx hb dX6_waits_56 hl (k := 5) rfl rfl (by decide) rfl (fun ls hl => ?_)
        refine lv_goto (tgt := 30) hx hb dX6_waits_59 (by decide) ?_
        exact ih (v1.2.1) c_first c_refused c_telling (v1.2.2.1) (v1.2.2.2.1) (v1.2.2.2.2.1) (v1.2.2.2.2.2.1) (v1.2.2.2.2.2.2.1) (v1.2.2.2.2.2.2.2) l2 l3 l5 l6 (l8 + (1 : Int32)) _ _ _ h hP hD hS (lv_sub hl [1, 2, 3, 4, 5, 0] rfl)
      · have h := if_t h hc50
        refine lv_iload hx hb dX6_waits_53 (lv_at hl 5 rfl) ?_
        obtain rfl := Option.some.inj h
        exact ret_i X dX6_waits_55 hP hD hS rfl
set_option maxRecDepth 100000 in
set_option maxHeartbeats 4000000 in
theorem w_X6_waits (X : Ctx p m meth c cX6_waits 9 ((some .int)) s args wsX6_waits RX6 E A) (a_t : Nat) (a_elements : Nat) (a_first : Nat) (a_holds : Nat) (a_now : Nat) (a_refused : Nat) (a_sizes : Nat) (a_telling : Nat) (a_wBy : Nat) (a_wCell : Nat) (a_wFaces : Nat) (a_wFell : Nat) (a_wSign : Nat) (a_wTurns : Nat) (a_kept : Nat) (a_mind : Nat) (a_tape : Nat) (a_words : Nat) (a_moved : Nat) (a_above : Nat) (a_out : Nat) (c_elements : Nat → Int64) (c_holds : Nat → Int32) (c_now : Nat → Int32) (c_sizes : Nat → Int32) (res : Int32 × (Nat → Int32) × (Nat → Int32) × (Nat → Int32) × (Nat → Int32) × (Nat → Int32) × (Nat → Int32) × (Nat → Int32) × (Nat → Int32) × (Nat → Int32) × (Nat → Int32)) (c_t : Nat → Int32) (c_first : Nat → Int32) (c_refused : Nat → Int32) (c_telling : Nat → Int32) (c_wBy : Nat → Int32) (c_wCell : Nat → Int32) (c_wFaces : Nat → Int32) (c_wFell : Nat → Int32) (c_wSign : Nat → Int32) (c_wTurns : Nat → Int32) (l1 : Int32) (l2 : Int32) (l3 : Int32) (l4 : Int32) (l5 : Int32) (l6 : Int32) (ls : Array Slot) (H : Heap) (locs : List Loc) (h : f_X6_waits l1 l2 l3 l4 l5 l6 c_t c_elements c_first c_holds c_now c_refused c_sizes c_telling c_wBy c_wCell c_wFaces c_wFell c_wSign c_wTurns = some res) (hP : va_P E.1 vwCl (W_X6_waits E a_t a_elements a_first a_holds a_now a_refused a_sizes a_telling a_wBy a_wCell a_wFaces a_wFell a_wSign a_wTurns a_kept a_mind a_tape a_words a_moved a_above a_out c_t c_elements c_first c_holds c_now c_refused c_sizes c_telling c_wBy c_wCell c_wFaces c_wFell c_wSign c_wTurns) H) (hD : va_D A (W_X6_waits E a_t a_elements a_first a_holds a_now a_refused a_sizes a_telling a_wBy a_wCell a_wFaces a_wFell a_wSign a_wTurns a_kept a_mind a_tape a_words a_moved a_above a_out c_t c_elements c_first c_holds c_now c_refused c_sizes c_telling c_wBy c_wCell c_wFaces c_wFell c_wSign c_wTurns)) (hS : va_S A s.heap H locs) (hl : lv_has ls 9 [(0, .ref a_t), (1, .int l1), (2, .int l2), (3, .int l3), (4, .int l4), (5, .int l5), (6, .int l6)]) : W p l e r_X6_waits s m args below meth c H locs 0 0 (MQ below (qI E A (res.1) (W_X6_waits E a_t a_elements a_first a_holds a_now a_refused a_sizes a_telling a_wBy a_wCell a_wFaces a_wFell a_wSign a_wTurns a_kept a_mind a_tape a_words a_moved a_above a_out (res.2.1) c_elements (res.2.2.1) c_holds c_now (res.2.2.2.1) c_sizes (res.2.2.2.2.1) (res.2.2.2.2.2.1) (res.2.2.2.2.2.2.1) (res.2.2.2.2.2.2.2.1) (res.2.2.2.2.2.2.2.2.1) (res.2.2.2.2.2.2.2.2.2.1) (res.2.2.2.2.2.2.2.2.2.2))) args s 0 0 A) (F0 m 0 ls []) := by
  obtain ⟨hx, hb, hml, hr, hlk, hown, hts, hG, hA⟩ := id X
  have hK := hG.1
  have hN := hG.2.1
  unfold f_X6_waits at h
  refine lv_aload_n hx hb dX6_waits_0 rfl (lv_at hl 0 rfl) ?_
  refine lv_iload_n hx hb dX6_waits_1 rfl (lv_at hl 1 rfl) ?_
  refine lv_iload_n hx hb dX6_waits_2 rfl (lv_at hl 2 rfl) ?_
  refine lv_iload_n hx hb dX6_waits_3 rfl (lv_at hl 3 rfl) ?_
  refine lv_iload hx hb dX6_waits_4 (lv_at hl 4 rfl) ?_
  refine lv_iload hx hb dX6_waits_6 (lv_at hl 5 rfl) ?_
  refine lv_iload hx hb dX6_waits_8 (lv_at hl 6 rfl) ?_
  obtain ⟨v1, hv1, h⟩ := bind_of h
  refine after_i X (run_V X (c_X6_loadBoth l E a_t a_elements a_first a_holds a_now a_sizes a_telling a_refused a_kept a_mind a_tape a_words a_wCell a_wFaces a_wTurns a_wSign a_wBy a_wFell a_moved a_above a_out l1 l2 l3 l4 l5 l6 c_t c_elements c_first c_holds c_now c_sizes c_telling H.size v1 hv1) (cwV 6 hts gX6_waits_X6_loadBoth rfl rfl rfl hV_X6_loadBoth ⟨(Nat.le_of_ble_eq_true rfl), (Nat.le_of_ble_eq_true rfl)⟩) hP hD hS [0, 1, 2, 3, 4, 6, 7] rfl rfl hl.1 (ci := 6) rfl rfl rfl (rest := []) rfl rfl (Nat.le_of_ble_eq_true rfl) dX6_waits_10) hP hD hS [0, 1, 2, 3, 4, 6, 7] [5, 8, 9, 10, 11, 12, 13] [7, 8, 9, 10, 11, 0, 12, 13, 1, 2, 3, 4, 5, 6] rfl rfl rfl (by decide) rfl (ws1 := (W_X6_waits E a_t a_elements a_first a_holds a_now a_refused a_sizes a_telling a_wBy a_wCell a_wFaces a_wFell a_wSign a_wTurns a_kept a_mind a_tape a_words a_moved a_above a_out c_t c_elements (v1.2.1) c_holds c_now c_refused c_sizes (v1.2.2) c_wBy c_wCell c_wFaces c_wFell c_wSign c_wTurns)) rfl (fun H locs hP hD hS => ?_)
  refine lv_istore (lv' := [(7, .int (v1.1)), (0, .ref a_t), (1, .int l1), (2, .int l2), (3, .int l3), (4, .int l4), (5, .int l5), (6, .int l6)]) hx hb dX6_waits_13 hl (by decide) rfl (fun ls hl => ?_)
  refine lv_iload hx hb dX6_waits_15 (lv_at hl 0 rfl) ?_
  refine lv_if_ge (tgt := 27) hx hb dX6_waits_17 (by decide) (fun hc17 => ?_) (fun hc17 => ?_)
  · have h := if_t h hc17
    refine lv_iconst (v := (0 : Int32)) hx hb dX6_waits_27 (by decide) ?_
    refine lv_istore (lv' := [(8, .int (0 : Int32)), (7, .int (v1.1)), (0, .ref a_t), (1, .int l1), (2, .int l2), (3, .int l3), (4, .int l4), (5, .int l5), (6, .int l6)]) hx hb dX6_waits_28 hl (by decide) rfl (fun ls hl => ?_)
    exact w_X6_waits_b30 X a_t a_elements a_first a_holds a_now a_refused a_sizes a_telling a_wBy a_wCell a_wFaces a_wFell a_wSign a_wTurns a_kept a_mind a_tape a_words a_moved a_above a_out c_elements c_holds c_now c_sizes res FU c_t (v1.2.1) c_refused (v1.2.2) c_wBy c_wCell c_wFaces c_wFell c_wSign c_wTurns l2 l3 l5 l6 (0 : Int32) _ _ _ h hP hD hS (lv_sub hl [2, 4, 5, 7, 8, 0] rfl)
  · have h := if_f h hc17
    refine lv_aload_n hx hb dX6_waits_20 rfl (lv_at hl 1 rfl) ?_
    refine lv_iload hx hb dX6_waits_21 (lv_at hl 0 rfl) ?_
    obtain ⟨v2, hv2, h⟩ := bind_of h
    refine after_i X (run_V X (c_X6_refuse l E a_t a_refused a_now a_kept a_mind a_tape a_words a_wCell a_wFaces a_wTurns a_wSign a_wBy a_wFell a_telling a_holds a_sizes a_elements a_moved a_above a_out a_first (v1.1) c_t c_refused H.size v2 hv2) (cwV 1 hts gX6_waits_X6_refuse rfl rfl rfl hV_X6_refuse ⟨(Nat.le_of_ble_eq_true rfl), (Nat.le_of_ble_eq_true rfl)⟩) hP hD hS [0, 5] rfl rfl hl.1 (ci := 6) rfl rfl rfl (rest := []) rfl rfl (Nat.le_of_ble_eq_true rfl) dX6_waits_23) hP hD hS [0, 5] [1, 2, 3, 4, 6, 7, 8, 9, 10, 11, 12, 13] [12, 0, 1, 2, 3, 13, 4, 5, 6, 7, 8, 9, 10, 11] rfl rfl rfl (by decide) rfl (ws1 := (W_X6_waits E a_t a_elements a_first a_holds a_now a_refused a_sizes a_telling a_wBy a_wCell a_wFaces a_wFell a_wSign a_wTurns a_kept a_mind a_tape a_words a_moved a_above a_out c_t c_elements (v1.2.1) c_holds c_now (v2.2) c_sizes (v1.2.2) c_wBy c_wCell c_wFaces c_wFell c_wSign c_wTurns)) rfl (fun H locs hP hD hS => ?_)
    obtain rfl := Option.some.inj h
    exact ret_i X dX6_waits_26 hP hD hS rfl
end
set_option maxRecDepth 100000 in
theorem c_X6_waits (l : Launch) (E : Env0) (a_t : Nat) (a_elements : Nat) (a_first : Nat) (a_holds : Nat) (a_now : Nat) (a_refused : Nat) (a_sizes : Nat) (a_telling : Nat) (a_wBy : Nat) (a_wCell : Nat) (a_wFaces : Nat) (a_wFell : Nat) (a_wSign : Nat) (a_wTurns : Nat) (a_kept : Nat) (a_mind : Nat) (a_tape : Nat) (a_words : Nat) (a_moved : Nat) (a_above : Nat) (a_out : Nat) (l1 : Int32) (l2 : Int32) (l3 : Int32) (l4 : Int32) (l5 : Int32) (l6 : Int32) (c_t : Nat → Int32) (c_elements : Nat → Int64) (c_first : Nat → Int32) (c_holds : Nat → Int32) (c_now : Nat → Int32) (c_refused : Nat → Int32) (c_sizes : Nat → Int32) (c_telling : Nat → Int32) (c_wBy : Nat → Int32) (c_wCell : Nat → Int32) (c_wFaces : Nat → Int32) (c_wFell : Nat → Int32) (c_wSign : Nat → Int32) (c_wTurns : Nat → Int32) (sz : Nat) (res : Int32 × (Nat → Int32) × (Nat → Int32) × (Nat → Int32) × (Nat → Int32) × (Nat → Int32) × (Nat → Int32) × (Nat → Int32) × (Nat → Int32) × (Nat → Int32) × (Nat → Int32)) (h : f_X6_waits l1 l2 l3 l4 l5 l6 c_t c_elements c_first c_holds c_now c_refused c_sizes c_telling c_wBy c_wCell c_wFaces c_wFell c_wSign c_wTurns = some res) : Met l yX6_waits wsX6_waits r_X6_waits (cPre E [.ref a_t, .int l1, .int l2, .int l3, .int l4, .int l5, .int l6] (W_X6_waits E a_t a_elements a_first a_holds a_now a_refused a_sizes a_telling a_wBy a_wCell a_wFaces a_wFell a_wSign a_wTurns a_kept a_mind a_tape a_words a_moved a_above a_out c_t c_elements c_first c_holds c_now c_refused c_sizes c_telling c_wBy c_wCell c_wFaces c_wFell c_wSign c_wTurns) sz) (qI E (va_A (W_X6_waits E a_t a_elements a_first a_holds a_now a_refused a_sizes a_telling a_wBy a_wCell a_wFaces a_wFell a_wSign a_wTurns a_kept a_mind a_tape a_words a_moved a_above a_out c_t c_elements c_first c_holds c_now c_refused c_sizes c_telling c_wBy c_wCell c_wFaces c_wFell c_wSign c_wTurns) sz) (res.1) (W_X6_waits E a_t a_elements a_first a_holds a_now a_refused a_sizes a_telling a_wBy a_wCell a_wFaces a_wFell a_wSign a_wTurns a_kept a_mind a_tape a_words a_moved a_above a_out (res.2.1) c_elements (res.2.2.1) c_holds c_now (res.2.2.2.1) c_sizes (res.2.2.2.2.1) (res.2.2.2.2.2.1) (res.2.2.2.2.2.2.1) (res.2.2.2.2.2.2.2.1) (res.2.2.2.2.2.2.2.2.1) (res.2.2.2.2.2.2.2.2.2.1) (res.2.2.2.2.2.2.2.2.2.2))) 0 0 (va_A (W_X6_waits E a_t a_elements a_first a_holds a_now a_refused a_sizes a_telling a_wBy a_wCell a_wFaces a_wFell a_wSign a_wTurns a_kept a_mind a_tape a_words a_moved a_above a_out c_t c_elements c_first c_holds c_now c_refused c_sizes c_telling c_wBy c_wCell c_wFaces c_wFell c_wSign c_wTurns) sz) :=
  met_of (Qc := fun A => qI E A (res.1) (W_X6_waits E a_t a_elements a_first a_holds a_now a_refused a_sizes a_telling a_wBy a_wCell a_wFaces a_wFell a_wSign a_wTurns a_kept a_mind a_tape a_words a_moved a_above a_out (res.2.1) c_elements (res.2.2.1) c_holds c_now (res.2.2.2.1) c_sizes (res.2.2.2.2.1) (res.2.2.2.2.2.1) (res.2.2.2.2.2.2.1) (res.2.2.2.2.2.2.2.1) (res.2.2.2.2.2.2.2.2.1) (res.2.2.2.2.2.2.2.2.2.1) (res.2.2.2.2.2.2.2.2.2.2))) (by decide) rfl (Nat.le_of_ble_eq_true rfl) (fun p e s m args below meth c X hP hD hS ls hl => w_X6_waits X a_t a_elements a_first a_holds a_now a_refused a_sizes a_telling a_wBy a_wCell a_wFaces a_wFell a_wSign a_wTurns a_kept a_mind a_tape a_words a_moved a_above a_out c_elements c_holds c_now c_sizes res c_t c_first c_refused c_telling c_wBy c_wCell c_wFaces c_wFell c_wSign c_wTurns l1 l2 l3 l4 l5 l6 ls _ _ h hP hD hS hl)
-- ===== X6_judge
abbrev W_X6_judge (E : Env0) (a_t : Nat) (a_elements : Nat) (a_holds : Nat) (a_refused : Nat) (a_sizes : Nat) (a_now : Nat) (a_kept : Nat) (a_mind : Nat) (a_tape : Nat) (a_words : Nat) (a_wCell : Nat) (a_wFaces : Nat) (a_wTurns : Nat) (a_wSign : Nat) (a_wBy : Nat) (a_wFell : Nat) (a_telling : Nat) (a_moved : Nat) (a_above : Nat) (a_out : Nat) (a_first : Nat) (c_t : Nat → Int32) (c_elements : Nat → Int64) (c_holds : Nat → Int32) (c_refused : Nat → Int32) (c_sizes : Nat → Int32) : va_W := [(a_t, .inr (6, [.ref a_refused, .ref a_now, .ref a_kept, .ref a_mind, .int (c_t 4), .ref a_tape, .int (c_t 6), .int (c_t 7), .int (c_t 8), .int (c_t 9), .ref a_words, .ref a_wCell, .ref a_wFaces, .ref a_wTurns, .ref a_wSign, .ref a_wBy, .ref a_wFell, .int (c_t 17), .ref a_telling, .ref a_holds, .ref a_sizes, .ref a_elements, .ref a_moved, .ref a_above, .ref a_out, .ref a_first])), (a_elements, .inl (eJ E, 320, .inr (.inl c_elements))), (a_holds, .inl (eI E, 8, .inl c_holds)), (a_refused, .inl (eI E, 7, .inl c_refused)), (a_sizes, .inl (eI E, 8, .inl c_sizes))]
abbrev r_X6_judge : Room := { frames := 2, cells := 0, slots := 0, locals := 45 }
theorem hd_X6_judge : yX6_judge.cls ≠ "java/lang/invoke/MethodHandle" ∧ yX6_judge.cls ≠ "java/lang/invoke/VarHandle" ∧ (parseMethodDescriptor yX6_judge.desc).map (fun d => d.parameters.length) = some 2 := by decide +kernel
theorem hV_X6_judge : yX6_judge.cls = RX6 ∧ yX6_judge.cls ≠ "java/lang/invoke/MethodHandle" ∧ yX6_judge.cls ≠ "java/lang/invoke/VarHandle" ∧ (parseMethodDescriptor yX6_judge.desc).map (fun d => d.parameters.length) = some 2 := ⟨rfl, hd_X6_judge⟩
theorem iX6_judge_X6 : ∀ w ∈ wsX60, w ∈ wsX6_judge := fun _ h => List.mem_cons_of_mem _ (List.mem_append_right _ (h))
section
variable {p : Program} {l : Launch} {e : Env} {s : State} {m : MethodId} {args : Array Value} {below : List Frame} {meth : Method} {c : Code} {E : Env0} {A : Nat → Prop}
set_option maxRecDepth 100000 in
set_option maxHeartbeats 4000000 in
theorem w_X6_judge_b19 (X : Ctx p m meth c cX6_judge 4 ((some .int)) s args wsX6_judge RX6 E A) (a_t : Nat) (a_elements : Nat) (a_holds : Nat) (a_refused : Nat) (a_sizes : Nat) (a_now : Nat) (a_kept : Nat) (a_mind : Nat) (a_tape : Nat) (a_words : Nat) (a_wCell : Nat) (a_wFaces : Nat) (a_wTurns : Nat) (a_wSign : Nat) (a_wBy : Nat) (a_wFell : Nat) (a_telling : Nat) (a_moved : Nat) (a_above : Nat) (a_out : Nat) (a_first : Nat) (c_t : Nat → Int32) (c_elements : Nat → Int64) (c_holds : Nat → Int32) (c_sizes : Nat → Int32) (res : Int32 × (Nat → Int32)) (c_refused : Nat → Int32) (ls : Array Slot) (H : Heap) (locs : List Loc) (h : f_X6_judge_b19 c_t c_elements c_holds c_sizes c_refused = some res) (hP : va_P E.1 vwCl (W_X6_judge E a_t a_elements a_holds a_refused a_sizes a_now a_kept a_mind a_tape a_words a_wCell a_wFaces a_wTurns a_wSign a_wBy a_wFell a_telling a_moved a_above a_out a_first c_t c_elements c_holds c_refused c_sizes) H) (hD : va_D A (W_X6_judge E a_t a_elements a_holds a_refused a_sizes a_now a_kept a_mind a_tape a_words a_wCell a_wFaces a_wTurns a_wSign a_wBy a_wFell a_telling a_moved a_above a_out a_first c_t c_elements c_holds c_refused c_sizes)) (hS : va_S A s.heap H locs) (hl : lv_has ls 4 [(0, .ref a_t)]) : W p l e r_X6_judge s m args below meth c H locs 0 0 (MQ below (qI E A (res.1) (W_X6_judge E a_t a_elements a_holds a_refused a_sizes a_now a_kept a_mind a_tape a_words a_wCell a_wFaces a_wTurns a_wSign a_wBy a_wFell a_telling a_moved a_above a_out a_first c_t c_elements c_holds (res.2) c_sizes)) args s 0 0 A) (F0 m 19 ls []) := by
  obtain ⟨hx, hb, hml, hr, hlk, hown, hts, hG, hA⟩ := id X
  have hK := hG.1
  have hN := hG.2.1
  unfold f_X6_judge_b19 at h
  refine lv_aload_n hx hb dX6_judge_19 rfl (lv_at hl 0 rfl) ?_
  refine lv_bipush (v := (-2 : Int32)) hx hb dX6_judge_20 (by decide) ?_
  obtain ⟨v1, hv1, h⟩ := bind_of h
  refine after_i X (run_V X (c_X6_refuse l E a_t a_refused a_now a_kept a_mind a_tape a_words a_wCell a_wFaces a_wTurns a_wSign a_wBy a_wFell a_telling a_holds a_sizes a_elements a_moved a_above a_out a_first (-2 : Int32) c_t c_refused H.size v1 hv1) (cwV 1 hts gX6_judge_X6_refuse rfl rfl rfl hV_X6_refuse ⟨(Nat.le_of_ble_eq_true rfl), (Nat.le_of_ble_eq_true rfl)⟩) hP hD hS [0, 3] rfl rfl hl.1 (ci := 6) rfl rfl rfl (rest := []) rfl rfl (Nat.le_of_ble_eq_true rfl) dX6_judge_22) hP hD hS [0, 3] [1, 2, 4] [3, 0, 1, 4, 2] rfl rfl rfl (by decide) rfl (ws1 := (W_X6_judge E a_t a_elements a_holds a_refused a_sizes a_now a_kept a_mind a_tape a_words a_wCell a_wFaces a_wTurns a_wSign a_wBy a_wFell a_telling a_moved a_above a_out a_first c_t c_elements c_holds (v1.2) c_sizes)) rfl (fun H locs hP hD hS => ?_)
  obtain rfl := Option.some.inj h
  exact ret_i X dX6_judge_25 hP hD hS rfl
set_option maxRecDepth 100000 in
set_option maxHeartbeats 4000000 in
theorem w_X6_judge_b63 (X : Ctx p m meth c cX6_judge 4 ((some .int)) s args wsX6_judge RX6 E A) (a_t : Nat) (a_elements : Nat) (a_holds : Nat) (a_refused : Nat) (a_sizes : Nat) (a_now : Nat) (a_kept : Nat) (a_mind : Nat) (a_tape : Nat) (a_words : Nat) (a_wCell : Nat) (a_wFaces : Nat) (a_wTurns : Nat) (a_wSign : Nat) (a_wBy : Nat) (a_wFell : Nat) (a_telling : Nat) (a_moved : Nat) (a_above : Nat) (a_out : Nat) (a_first : Nat) (c_t : Nat → Int32) (c_elements : Nat → Int64) (c_holds : Nat → Int32) (c_sizes : Nat → Int32) (res : Int32 × (Nat → Int32)) : ∀ (n : Nat) (c_refused : Nat → Int32) (l1 : Int32) (l2 : Int32) (l3 : Int32) (ls : Array Slot) (H : Heap) (locs : List Loc), f_X6_judge_b63 c_t c_elements c_holds c_sizes n c_refused l1 l2 l3 = some res → va_P E.1 vwCl (W_X6_judge E a_t a_elements a_holds a_refused a_sizes a_now a_kept a_mind a_tape a_words a_wCell a_wFaces a_wTurns a_wSign a_wBy a_wFell a_telling a_moved a_above a_out a_first c_t c_elements c_holds c_refused c_sizes) H → va_D A (W_X6_judge E a_t a_elements a_holds a_refused a_sizes a_now a_kept a_mind a_tape a_words a_wCell a_wFaces a_wTurns a_wSign a_wBy a_wFell a_telling a_moved a_above a_out a_first c_t c_elements c_holds c_refused c_sizes) → va_S A s.heap H locs → lv_has ls 4 [(0, .ref a_t), (1, .int l1), (2, .int l2), (3, .int l3)] → W p l e r_X6_judge s m args below meth c H locs 0 0 (MQ below (qI E A (res.1) (W_X6_judge E a_t a_elements a_holds a_refused a_sizes a_now a_kept a_mind a_tape a_words a_wCell a_wFaces a_wTurns a_wSign a_wBy a_wFell a_telling a_moved a_above a_out a_first c_t c_elements c_holds (res.2) c_sizes)) args s 0 0 A) (F0 m 63 ls []) := by
  obtain ⟨hx, hb, hml, hr, hlk, hown, hts, hG, hA⟩ := id X
  have hK := hG.1
  have hN := hG.2.1
  intro n
  induction n with
  | zero =>
    intro c_refused l1 l2 l3 ls H locs h
    exact absurd (show (none : Option (Int32 × (Nat → Int32))) = some res from h) (by intro q; cases q)
  | succ n ih =>
    intro c_refused l1 l2 l3 ls H locs h hP hD hS hl
    rw [f_X6_judge_b63] at h
    refine lv_iload_n hx hb dX6_judge_63 rfl (lv_at hl 3 rfl) ?_
    refine lv_iload_n hx hb dX6_judge_64 rfl (lv_at hl 2 rfl) ?_
    refine lv_icmp_ge (tgt := 97) hx hb dX6_judge_65 (by decide) (fun hc65 => ?_) (fun hc65 => ?_)
    · have h := if_t h hc65
      refine lv_iconst (v := (-1 : Int32)) hx hb dX6_judge_97 (by decide) ?_
      obtain rfl := Option.some.inj h
      exact ret_i X dX6_judge_98 hP hD hS rfl
    · have h := if_f h hc65
      refine lv_aload_n hx hb dX6_judge_68 rfl (lv_at hl 0 rfl) ?_
      refine va_get (D := E.1) (ci := 6) (v := .ref a_elements) (C := RX6) (T := TX6) (N := 26) hx hb hts iX6_judge_X6 hown hK hP 0 rfl rfl 21 (by decide) (hts (.fieldLink RX6 60 "LeftIsAgreedOnModel" "elements" "[J") (List.mem_of_getElem? (i := 3) rfl)) (fun _ h9 => h9) rfl dX6_judge_69 ?_
      refine lv_bipush (v := (40 : Int32)) hx hb dX6_judge_72 (by decide) ?_
      refine lv_iload_n hx hb dX6_judge_74 rfl (lv_at hl 1 rfl) ?_
      refine lv_imul hx hb dX6_judge_75 ?_
      refine lv_iload_n hx hb dX6_judge_76 rfl (lv_at hl 3 rfl) ?_
      refine lv_iadd hx hb dX6_judge_77 ?_
      obtain ⟨hz78, h⟩ := chk_of h
      refine ld_l X hP 1 rfl (inb.vp hz78) (v := (c_elements ((((40 : Int32) * l1) + l3)).toNatClampNeg)) rfl dX6_judge_78 ?_
      refine lv_lconst (v := (0 : Int64)) hx hb dX6_judge_79 (by decide) ?_
      refine lv_ldc2 (v := (3 : Int64)) hx hb hown (hts (.constantLong RX6 114 (3)) (List.mem_of_getElem? (i := 4) rfl)) dX6_judge_80 ?_
      obtain ⟨v1, hv1, h⟩ := bind_of h
      refine after_i X (run_S X (c_X6_isIn l E (c_elements ((((40 : Int32) * l1) + l3)).toNatClampNeg) (0 : Int64) (3 : Int64) H.size v1 hv1) (va_cwS 3 hts gX6_judge_X6_isIn rfl rfl rfl hd_X6_isIn ⟨(Nat.le_of_ble_eq_true rfl), (Nat.le_of_ble_eq_true rfl)⟩) hP hD hS [] rfl rfl hl.1 (rest := []) rfl rfl (Nat.le_of_ble_eq_true rfl) dX6_judge_83) hP hD hS [] [0, 1, 2, 3, 4] [0, 1, 2, 3, 4] rfl rfl rfl (by decide) rfl (ws1 := (W_X6_judge E a_t a_elements a_holds a_refused a_sizes a_now a_kept a_mind a_tape a_words a_wCell a_wFaces a_wTurns a_wSign a_wBy a_wFell a_telling a_moved a_above a_out a_first c_t c_elements c_holds c_refused c_sizes)) rfl (fun H locs hP hD hS => ?_)
      refine lv_if_ne (tgt := 91) hx hb dX6_judge_86 (by decide) (fun hc86 => ?_) (fun hc86 => ?_)
      · have h := if_f h hc86
        refine lv_iinc (v := (l3 + (1 : Int32))) (lv' := [(3, .int (l3 + (1 : Int32))), (0, .ref a_t), (1, .int l1), (2, .int l2)]) hx hb dX6_judge_91 hl (k := 3) rfl rfl (by decide) rfl (fun ls hl => ?_)
        refine lv_goto (tgt := 63) hx hb dX6_judge_94 (by decide) ?_
        exact ih c_refused l1 l2 (l3 + (1 : Int32)) _ _ _ h hP hD hS (lv_sub hl [1, 2, 3, 0] rfl)
      · have h := if_t h hc86
        refine lv_iload_n hx hb dX6_judge_89 rfl (lv_at hl 3 rfl) ?_
        obtain rfl := Option.some.inj h
        exact ret_i X dX6_judge_90 hP hD hS rfl
set_option maxRecDepth 100000 in
set_option maxHeartbeats 4000000 in
theorem w_X6_judge (X : Ctx p m meth c cX6_judge 4 ((some .int)) s args wsX6_judge RX6 E A) (a_t : Nat) (a_elements : Nat) (a_holds : Nat) (a_refused : Nat) (a_sizes : Nat) (a_now : Nat) (a_kept : Nat) (a_mind : Nat) (a_tape : Nat) (a_words : Nat) (a_wCell : Nat) (a_wFaces : Nat) (a_wTurns : Nat) (a_wSign : Nat) (a_wBy : Nat) (a_wFell : Nat) (a_telling : Nat) (a_moved : Nat) (a_above : Nat) (a_out : Nat) (a_first : Nat) (c_t : Nat → Int32) (c_elements : Nat → Int64) (c_holds : Nat → Int32) (c_sizes : Nat → Int32) (res : Int32 × (Nat → Int32)) (c_refused : Nat → Int32) (l1 : Int32) (l2 : Int32) (ls : Array Slot) (H : Heap) (locs : List Loc) (h : f_X6_judge l1 l2 c_t c_elements c_holds c_refused c_sizes = some res) (hP : va_P E.1 vwCl (W_X6_judge E a_t a_elements a_holds a_refused a_sizes a_now a_kept a_mind a_tape a_words a_wCell a_wFaces a_wTurns a_wSign a_wBy a_wFell a_telling a_moved a_above a_out a_first c_t c_elements c_holds c_refused c_sizes) H) (hD : va_D A (W_X6_judge E a_t a_elements a_holds a_refused a_sizes a_now a_kept a_mind a_tape a_words a_wCell a_wFaces a_wTurns a_wSign a_wBy a_wFell a_telling a_moved a_above a_out a_first c_t c_elements c_holds c_refused c_sizes)) (hS : va_S A s.heap H locs) (hl : lv_has ls 4 [(0, .ref a_t), (1, .int l1), (2, .int l2)]) : W p l e r_X6_judge s m args below meth c H locs 0 0 (MQ below (qI E A (res.1) (W_X6_judge E a_t a_elements a_holds a_refused a_sizes a_now a_kept a_mind a_tape a_words a_wCell a_wFaces a_wTurns a_wSign a_wBy a_wFell a_telling a_moved a_above a_out a_first c_t c_elements c_holds (res.2) c_sizes)) args s 0 0 A) (F0 m 0 ls []) := by
  obtain ⟨hx, hb, hml, hr, hlk, hown, hts, hG, hA⟩ := id X
  have hK := hG.1
  have hN := hG.2.1
  unfold f_X6_judge at h
  refine lv_iload_n hx hb dX6_judge_0 rfl (lv_at hl 1 rfl) ?_
  obtain ⟨v1, hv1, h⟩ := bind_of h
  refine after_i X (run_S X (c_X6_isShelf l E l1 H.size v1 hv1) (va_cwS 1 hts gX6_judge_X6_isShelf rfl rfl rfl hd_X6_isShelf ⟨(Nat.le_of_ble_eq_true rfl), (Nat.le_of_ble_eq_true rfl)⟩) hP hD hS [] rfl rfl hl.1 (rest := []) rfl rfl (Nat.le_of_ble_eq_true rfl) dX6_judge_1) hP hD hS [] [0, 1, 2, 3, 4] [0, 1, 2, 3, 4] rfl rfl rfl (by decide) rfl (ws1 := (W_X6_judge E a_t a_elements a_holds a_refused a_sizes a_now a_kept a_mind a_tape a_words a_wCell a_wFaces a_wTurns a_wSign a_wBy a_wFell a_telling a_moved a_above a_out a_first c_t c_elements c_holds c_refused c_sizes)) rfl (fun H locs hP hD hS => ?_)
  refine lv_if_eq (tgt := 19) hx hb dX6_judge_4 (by decide) (fun hc4 => ?_) (fun hc4 => ?_)
  · have h := if_t h hc4
    exact w_X6_judge_b19 X a_t a_elements a_holds a_refused a_sizes a_now a_kept a_mind a_tape a_words a_wCell a_wFaces a_wTurns a_wSign a_wBy a_wFell a_telling a_moved a_above a_out a_first c_t c_elements c_holds c_sizes res c_refused _ _ _ h hP hD hS (lv_sub hl [0] rfl)
  · have h := if_f h hc4
    refine lv_iload_n hx hb dX6_judge_7 rfl (lv_at hl 2 rfl) ?_
    refine lv_i2l (v := (l2.toInt64)) hx hb dX6_judge_8 rfl ?_
    refine lv_lconst (v := (0 : Int64)) hx hb dX6_judge_9 (by decide) ?_
    refine lv_ldc2 (v := (40 : Int64)) hx hb hown (hts (.constantLong RX6 208 (40)) (List.mem_of_getElem? (i := 1) rfl)) dX6_judge_10 ?_
    obtain ⟨v2, hv2, h⟩ := bind_of h
    refine after_i X (run_S X (c_X6_isIn l E (l2.toInt64) (0 : Int64) (40 : Int64) H.size v2 hv2) (va_cwS 3 hts gX6_judge_X6_isIn rfl rfl rfl hd_X6_isIn ⟨(Nat.le_of_ble_eq_true rfl), (Nat.le_of_ble_eq_true rfl)⟩) hP hD hS [] rfl rfl hl.1 (rest := []) rfl rfl (Nat.le_of_ble_eq_true rfl) dX6_judge_13) hP hD hS [] [0, 1, 2, 3, 4] [0, 1, 2, 3, 4] rfl rfl rfl (by decide) rfl (ws1 := (W_X6_judge E a_t a_elements a_holds a_refused a_sizes a_now a_kept a_mind a_tape a_words a_wCell a_wFaces a_wTurns a_wSign a_wBy a_wFell a_telling a_moved a_above a_out a_first c_t c_elements c_holds c_refused c_sizes)) rfl (fun H locs hP hD hS => ?_)
    refine lv_if_ne (tgt := 26) hx hb dX6_judge_16 (by decide) (fun hc16 => ?_) (fun hc16 => ?_)
    · have h := if_f h hc16
      refine lv_aload_n hx hb dX6_judge_26 rfl (lv_at hl 0 rfl) ?_
      refine lv_iload_n hx hb dX6_judge_27 rfl (lv_at hl 1 rfl) ?_
      obtain ⟨v3, hv3, h⟩ := bind_of h
      refine after_i X (run_V X (c_X6_rowIn l E a_t a_holds a_refused a_now a_kept a_mind a_tape a_words a_wCell a_wFaces a_wTurns a_wSign a_wBy a_wFell a_telling a_sizes a_elements a_moved a_above a_out a_first l1 c_t c_holds H.size v3 hv3) (cwV 1 hts gX6_judge_X6_rowIn rfl rfl rfl hV_X6_rowIn ⟨(Nat.le_of_ble_eq_true rfl), (Nat.le_of_ble_eq_true rfl)⟩) hP hD hS [0, 2] rfl rfl hl.1 (ci := 6) rfl rfl rfl (rest := []) rfl rfl (Nat.le_of_ble_eq_true rfl) dX6_judge_28) hP hD hS [0, 2] [1, 3, 4] [3, 0, 4, 1, 2] rfl rfl rfl (by decide) rfl (ws1 := (W_X6_judge E a_t a_elements a_holds a_refused a_sizes a_now a_kept a_mind a_tape a_words a_wCell a_wFaces a_wTurns a_wSign a_wBy a_wFell a_telling a_moved a_above a_out a_first c_t c_elements c_holds c_refused c_sizes)) rfl (fun H locs hP hD hS => ?_)
      refine lv_if_ge (tgt := 44) hx hb dX6_judge_31 (by decide) (fun hc31 => ?_) (fun hc31 => ?_)
      · have h := if_t h hc31
        refine lv_iload_n hx hb dX6_judge_44 rfl (lv_at hl 2 rfl) ?_
        refine lv_aload_n hx hb dX6_judge_45 rfl (lv_at hl 0 rfl) ?_
        refine va_get (D := E.1) (ci := 6) (v := .ref a_sizes) (C := RX6) (T := TX6) (N := 26) hx hb hts iX6_judge_X6 hown hK hP 0 rfl rfl 20 (by decide) (hts (.fieldLink RX6 57 "LeftIsAgreedOnModel" "sizes" "[I") (List.mem_of_getElem? (i := 2) rfl)) (fun _ h9 => h9) rfl dX6_judge_46 ?_
        refine lv_iload_n hx hb dX6_judge_49 rfl (lv_at hl 1 rfl) ?_
        obtain ⟨hz50, h⟩ := chk_of h
        refine ld_i X hP 4 rfl (inb.vp hz50) (v := (c_sizes (l1).toNatClampNeg)) rfl dX6_judge_50 ?_
        refine lv_icmp_le (tgt := 61) hx hb dX6_judge_51 (by decide) (fun hc51 => ?_) (fun hc51 => ?_)
        · have h := if_t h hc51
          refine lv_iconst (v := (0 : Int32)) hx hb dX6_judge_61 (by decide) ?_
          refine lv_istore_n (lv' := [(3, .int (0 : Int32)), (0, .ref a_t), (1, .int l1), (2, .int l2)]) hx hb dX6_judge_62 rfl hl (by decide) rfl (fun ls hl => ?_)
          exact w_X6_judge_b63 X a_t a_elements a_holds a_refused a_sizes a_now a_kept a_mind a_tape a_words a_wCell a_wFaces a_wTurns a_wSign a_wBy a_wFell a_telling a_moved a_above a_out a_first c_t c_elements c_holds c_sizes res FU c_refused l1 l2 (0 : Int32) _ _ _ h hP hD hS (lv_sub hl [1, 2, 3, 0] rfl)
        · have h := if_f h hc51
          refine lv_aload_n hx hb dX6_judge_54 rfl (lv_at hl 0 rfl) ?_
          refine lv_bipush (v := (-2 : Int32)) hx hb dX6_judge_55 (by decide) ?_
          obtain ⟨v4, hv4, h⟩ := bind_of h
          refine after_i X (run_V X (c_X6_refuse l E a_t a_refused a_now a_kept a_mind a_tape a_words a_wCell a_wFaces a_wTurns a_wSign a_wBy a_wFell a_telling a_holds a_sizes a_elements a_moved a_above a_out a_first (-2 : Int32) c_t c_refused H.size v4 hv4) (cwV 1 hts gX6_judge_X6_refuse rfl rfl rfl hV_X6_refuse ⟨(Nat.le_of_ble_eq_true rfl), (Nat.le_of_ble_eq_true rfl)⟩) hP hD hS [0, 3] rfl rfl hl.1 (ci := 6) rfl rfl rfl (rest := []) rfl rfl (Nat.le_of_ble_eq_true rfl) dX6_judge_57) hP hD hS [0, 3] [1, 2, 4] [3, 0, 1, 4, 2] rfl rfl rfl (by decide) rfl (ws1 := (W_X6_judge E a_t a_elements a_holds a_refused a_sizes a_now a_kept a_mind a_tape a_words a_wCell a_wFaces a_wTurns a_wSign a_wBy a_wFell a_telling a_moved a_above a_out a_first c_t c_elements c_holds (v4.2) c_sizes)) rfl (fun H locs hP hD hS => ?_)
          obtain rfl := Option.some.inj h
          exact ret_i X dX6_judge_60 hP hD hS rfl
      · have h := if_f h hc31
        refine lv_aload_n hx hb dX6_judge_34 rfl (lv_at hl 0 rfl) ?_
        refine lv_aload_n hx hb dX6_judge_35 rfl (lv_at hl 0 rfl) ?_
        refine lv_iload_n hx hb dX6_judge_36 rfl (lv_at hl 1 rfl) ?_
        obtain ⟨v5, hv5, h⟩ := bind_of h
        refine after_i X (run_V X (c_X6_rowIn l E a_t a_holds a_refused a_now a_kept a_mind a_tape a_words a_wCell a_wFaces a_wTurns a_wSign a_wBy a_wFell a_telling a_sizes a_elements a_moved a_above a_out a_first l1 c_t c_holds H.size v5 hv5) (cwV 1 hts gX6_judge_X6_rowIn rfl rfl rfl hV_X6_rowIn ⟨(Nat.le_of_ble_eq_true rfl), (Nat.le_of_ble_eq_true rfl)⟩) hP hD hS [0, 2] rfl rfl hl.1 (ci := 6) rfl rfl rfl (rest := [.ref a_t]) rfl rfl (Nat.le_of_ble_eq_true rfl) dX6_judge_37) hP hD hS [0, 2] [1, 3, 4] [3, 0, 4, 1, 2] rfl rfl rfl (by decide) rfl (ws1 := (W_X6_judge E a_t a_elements a_holds a_refused a_sizes a_now a_kept a_mind a_tape a_words a_wCell a_wFaces a_wTurns a_wSign a_wBy a_wFell a_telling a_moved a_above a_out a_first c_t c_elements c_holds c_refused c_sizes)) rfl (fun H locs hP hD hS => ?_)
        obtain ⟨v6, hv6, h⟩ := bind_of h
        refine after_i X (run_V X (c_X6_refuse l E a_t a_refused a_now a_kept a_mind a_tape a_words a_wCell a_wFaces a_wTurns a_wSign a_wBy a_wFell a_telling a_holds a_sizes a_elements a_moved a_above a_out a_first v5 c_t c_refused H.size v6 hv6) (cwV 1 hts gX6_judge_X6_refuse rfl rfl rfl hV_X6_refuse ⟨(Nat.le_of_ble_eq_true rfl), (Nat.le_of_ble_eq_true rfl)⟩) hP hD hS [0, 3] rfl rfl hl.1 (ci := 6) rfl rfl rfl (rest := []) rfl rfl (Nat.le_of_ble_eq_true rfl) dX6_judge_40) hP hD hS [0, 3] [1, 2, 4] [3, 0, 1, 4, 2] rfl rfl rfl (by decide) rfl (ws1 := (W_X6_judge E a_t a_elements a_holds a_refused a_sizes a_now a_kept a_mind a_tape a_words a_wCell a_wFaces a_wTurns a_wSign a_wBy a_wFell a_telling a_moved a_above a_out a_first c_t c_elements c_holds (v6.2) c_sizes)) rfl (fun H locs hP hD hS => ?_)
        obtain rfl := Option.some.inj h
        exact ret_i X dX6_judge_43 hP hD hS rfl
    · have h := if_t h hc16
      exact w_X6_judge_b19 X a_t a_elements a_holds a_refused a_sizes a_now a_kept a_mind a_tape a_words a_wCell a_wFaces a_wTurns a_wSign a_wBy a_wFell a_telling a_moved a_above a_out a_first c_t c_elements c_holds c_sizes res c_refused _ _ _ h hP hD hS (lv_sub hl [0] rfl)
end
set_option maxRecDepth 100000 in
theorem c_X6_judge (l : Launch) (E : Env0) (a_t : Nat) (a_elements : Nat) (a_holds : Nat) (a_refused : Nat) (a_sizes : Nat) (a_now : Nat) (a_kept : Nat) (a_mind : Nat) (a_tape : Nat) (a_words : Nat) (a_wCell : Nat) (a_wFaces : Nat) (a_wTurns : Nat) (a_wSign : Nat) (a_wBy : Nat) (a_wFell : Nat) (a_telling : Nat) (a_moved : Nat) (a_above : Nat) (a_out : Nat) (a_first : Nat) (l1 : Int32) (l2 : Int32) (c_t : Nat → Int32) (c_elements : Nat → Int64) (c_holds : Nat → Int32) (c_refused : Nat → Int32) (c_sizes : Nat → Int32) (sz : Nat) (res : Int32 × (Nat → Int32)) (h : f_X6_judge l1 l2 c_t c_elements c_holds c_refused c_sizes = some res) : Met l yX6_judge wsX6_judge r_X6_judge (cPre E [.ref a_t, .int l1, .int l2] (W_X6_judge E a_t a_elements a_holds a_refused a_sizes a_now a_kept a_mind a_tape a_words a_wCell a_wFaces a_wTurns a_wSign a_wBy a_wFell a_telling a_moved a_above a_out a_first c_t c_elements c_holds c_refused c_sizes) sz) (qI E (va_A (W_X6_judge E a_t a_elements a_holds a_refused a_sizes a_now a_kept a_mind a_tape a_words a_wCell a_wFaces a_wTurns a_wSign a_wBy a_wFell a_telling a_moved a_above a_out a_first c_t c_elements c_holds c_refused c_sizes) sz) (res.1) (W_X6_judge E a_t a_elements a_holds a_refused a_sizes a_now a_kept a_mind a_tape a_words a_wCell a_wFaces a_wTurns a_wSign a_wBy a_wFell a_telling a_moved a_above a_out a_first c_t c_elements c_holds (res.2) c_sizes)) 0 0 (va_A (W_X6_judge E a_t a_elements a_holds a_refused a_sizes a_now a_kept a_mind a_tape a_words a_wCell a_wFaces a_wTurns a_wSign a_wBy a_wFell a_telling a_moved a_above a_out a_first c_t c_elements c_holds c_refused c_sizes) sz) :=
  met_of (Qc := fun A => qI E A (res.1) (W_X6_judge E a_t a_elements a_holds a_refused a_sizes a_now a_kept a_mind a_tape a_words a_wCell a_wFaces a_wTurns a_wSign a_wBy a_wFell a_telling a_moved a_above a_out a_first c_t c_elements c_holds (res.2) c_sizes)) (by decide) rfl (Nat.le_of_ble_eq_true rfl) (fun p e s m args below meth c X hP hD hS ls hl => w_X6_judge X a_t a_elements a_holds a_refused a_sizes a_now a_kept a_mind a_tape a_words a_wCell a_wFaces a_wTurns a_wSign a_wBy a_wFell a_telling a_moved a_above a_out a_first c_t c_elements c_holds c_sizes res c_refused l1 l2 ls _ _ h hP hD hS hl)
-- ===== X6_walk
abbrev W_X6_walk (E : Env0) (a_t : Nat) (a_elements : Nat) (a_holds : Nat) (a_now : Nat) (a_refused : Nat) (a_sizes : Nat) (a_telling : Nat) (a_wBy : Nat) (a_wCell : Nat) (a_wFaces : Nat) (a_wFell : Nat) (a_wSign : Nat) (a_wTurns : Nat) (a_kept : Nat) (a_mind : Nat) (a_tape : Nat) (a_words : Nat) (a_moved : Nat) (a_above : Nat) (a_out : Nat) (a_first : Nat) (c_t : Nat → Int32) (c_elements : Nat → Int64) (c_holds : Nat → Int32) (c_now : Nat → Int32) (c_refused : Nat → Int32) (c_sizes : Nat → Int32) (c_telling : Nat → Int32) (c_wBy : Nat → Int32) (c_wCell : Nat → Int32) (c_wFaces : Nat → Int32) (c_wFell : Nat → Int32) (c_wSign : Nat → Int32) (c_wTurns : Nat → Int32) : va_W := [(a_t, .inr (6, [.ref a_refused, .ref a_now, .ref a_kept, .ref a_mind, .int (c_t 4), .ref a_tape, .int (c_t 6), .int (c_t 7), .int (c_t 8), .int (c_t 9), .ref a_words, .ref a_wCell, .ref a_wFaces, .ref a_wTurns, .ref a_wSign, .ref a_wBy, .ref a_wFell, .int (c_t 17), .ref a_telling, .ref a_holds, .ref a_sizes, .ref a_elements, .ref a_moved, .ref a_above, .ref a_out, .ref a_first])), (a_elements, .inl (eJ E, 320, .inr (.inl c_elements))), (a_holds, .inl (eI E, 8, .inl c_holds)), (a_now, .inl (eI E, 97, .inl c_now)), (a_refused, .inl (eI E, 7, .inl c_refused)), (a_sizes, .inl (eI E, 8, .inl c_sizes)), (a_telling, .inl (eI E, 40, .inl c_telling)), (a_wBy, .inl (eI E, 2, .inl c_wBy)), (a_wCell, .inl (eI E, 2, .inl c_wCell)), (a_wFaces, .inl (eI E, 2, .inl c_wFaces)), (a_wFell, .inl (eI E, 2, .inl c_wFell)), (a_wSign, .inl (eI E, 2, .inl c_wSign)), (a_wTurns, .inl (eI E, 2, .inl c_wTurns))]
abbrev r_X6_walk : Room := { frames := 6, cells := 0, slots := 0, locals := 145 }
theorem hd_X6_walk : yX6_walk.cls ≠ "java/lang/invoke/MethodHandle" ∧ yX6_walk.cls ≠ "java/lang/invoke/VarHandle" ∧ (parseMethodDescriptor yX6_walk.desc).map (fun d => d.parameters.length) = some 3 := by decide +kernel
theorem hV_X6_walk : yX6_walk.cls = RX6 ∧ yX6_walk.cls ≠ "java/lang/invoke/MethodHandle" ∧ yX6_walk.cls ≠ "java/lang/invoke/VarHandle" ∧ (parseMethodDescriptor yX6_walk.desc).map (fun d => d.parameters.length) = some 3 := ⟨rfl, hd_X6_walk⟩
theorem iX6_walk_X6 : ∀ w ∈ wsX60, w ∈ wsX6_walk := fun _ h => List.mem_cons_of_mem _ (List.mem_append_right _ (h))
section
variable {p : Program} {l : Launch} {e : Env} {s : State} {m : MethodId} {args : Array Value} {below : List Frame} {meth : Method} {c : Code} {E : Env0} {A : Nat → Prop}
set_option maxRecDepth 100000 in
set_option maxHeartbeats 4000000 in
theorem w_X6_walk_b110 (X : Ctx p m meth c cX6_walk 6 ((some .int)) s args wsX6_walk RX6 E A) (a_t : Nat) (a_elements : Nat) (a_holds : Nat) (a_now : Nat) (a_refused : Nat) (a_sizes : Nat) (a_telling : Nat) (a_wBy : Nat) (a_wCell : Nat) (a_wFaces : Nat) (a_wFell : Nat) (a_wSign : Nat) (a_wTurns : Nat) (a_kept : Nat) (a_mind : Nat) (a_tape : Nat) (a_words : Nat) (a_moved : Nat) (a_above : Nat) (a_out : Nat) (a_first : Nat) (c_elements : Nat → Int64) (c_holds : Nat → Int32) (c_sizes : Nat → Int32) (res : Int32 × (Nat → Int32) × (Nat → Int32) × (Nat → Int32) × (Nat → Int32) × (Nat → Int32) × (Nat → Int32) × (Nat → Int32) × (Nat → Int32) × (Nat → Int32) × (Nat → Int32)) (c_t : Nat → Int32) (c_now : Nat → Int32) (c_refused : Nat → Int32) (c_telling : Nat → Int32) (c_wBy : Nat → Int32) (c_wCell : Nat → Int32) (c_wFaces : Nat → Int32) (c_wFell : Nat → Int32) (c_wSign : Nat → Int32) (c_wTurns : Nat → Int32) (l3 : Int32) (s0 : Int32) (s1 : Int32) (s2 : Int32) (ls : Array Slot) (H : Heap) (locs : List Loc) (h : f_X6_walk_b110 c_elements c_holds c_sizes c_t c_now c_refused c_telling c_wBy c_wCell c_wFaces c_wFell c_wSign c_wTurns l3 s0 s1 s2 = some res) (hP : va_P E.1 vwCl (W_X6_walk E a_t a_elements a_holds a_now a_refused a_sizes a_telling a_wBy a_wCell a_wFaces a_wFell a_wSign a_wTurns a_kept a_mind a_tape a_words a_moved a_above a_out a_first c_t c_elements c_holds c_now c_refused c_sizes c_telling c_wBy c_wCell c_wFaces c_wFell c_wSign c_wTurns) H) (hD : va_D A (W_X6_walk E a_t a_elements a_holds a_now a_refused a_sizes a_telling a_wBy a_wCell a_wFaces a_wFell a_wSign a_wTurns a_kept a_mind a_tape a_words a_moved a_above a_out a_first c_t c_elements c_holds c_now c_refused c_sizes c_telling c_wBy c_wCell c_wFaces c_wFell c_wSign c_wTurns)) (hS : va_S A s.heap H locs) (hl : lv_has ls 6 [(0, .ref a_t), (3, .int l3)]) : W p l e r_X6_walk s m args below meth c H locs 0 0 (MQ below (qI E A (res.1) (W_X6_walk E a_t a_elements a_holds a_now a_refused a_sizes a_telling a_wBy a_wCell a_wFaces a_wFell a_wSign a_wTurns a_kept a_mind a_tape a_words a_moved a_above a_out a_first (res.2.1) c_elements c_holds (res.2.2.1) (res.2.2.2.1) c_sizes (res.2.2.2.2.1) (res.2.2.2.2.2.1) (res.2.2.2.2.2.2.1) (res.2.2.2.2.2.2.2.1) (res.2.2.2.2.2.2.2.2.1) (res.2.2.2.2.2.2.2.2.2.1) (res.2.2.2.2.2.2.2.2.2.2))) args s 0 0 A) (F0 m 110 ls [.int s0, .int s1, .int s2, .ref a_now]) := by
  obtain ⟨hx, hb, hml, hr, hlk, hown, hts, hG, hA⟩ := id X
  have hK := hG.1
  have hN := hG.2.1
  unfold f_X6_walk_b110 at h
  refine lv_iadd hx hb dX6_walk_110 ?_
  obtain ⟨hz111, h⟩ := chk_of h
  refine st_i X hP hD hS 3 rfl (inb.vp hz111) (k := (s2).toNatClampNeg) rfl (ws1 := (W_X6_walk E a_t a_elements a_holds a_now a_refused a_sizes a_telling a_wBy a_wCell a_wFaces a_wFell a_wSign a_wTurns a_kept a_mind a_tape a_words a_moved a_above a_out a_first c_t c_elements c_holds (upd c_now ((s2).toNatClampNeg) (s1 + s0)) c_refused c_sizes c_telling c_wBy c_wCell c_wFaces c_wFell c_wSign c_wTurns)) rfl dX6_walk_111 (fun H locs hP hD hS => ?_)
  refine lv_aload_n hx hb dX6_walk_112 rfl (lv_at hl 0 rfl) ?_
  refine lv_iload_n hx hb dX6_walk_113 rfl (lv_at hl 1 rfl) ?_
  obtain ⟨v1, hv1, h⟩ := bind_of h
  refine after_i X (run_V X (c_X6_cell l E a_t a_now a_refused a_kept a_mind a_tape a_words a_wCell a_wFaces a_wTurns a_wSign a_wBy a_wFell a_telling a_holds a_sizes a_elements a_moved a_above a_out a_first l3 c_t (upd c_now ((s2).toNatClampNeg) (s1 + s0)) H.size v1 hv1) (cwV 1 hts gX6_walk_X6_cell rfl rfl rfl hV_X6_cell ⟨(Nat.le_of_ble_eq_true rfl), (Nat.le_of_ble_eq_true rfl)⟩) hP hD hS [0, 3] rfl rfl hl.1 (ci := 6) rfl rfl rfl (rest := []) rfl rfl (Nat.le_of_ble_eq_true rfl) dX6_walk_114) hP hD hS [0, 3] [1, 2, 4, 5, 6, 7, 8, 9, 10, 11, 12] [11, 0, 1, 12, 2, 3, 4, 5, 6, 7, 8, 9, 10] rfl rfl rfl (by decide) rfl (ws1 := (W_X6_walk E a_t a_elements a_holds a_now a_refused a_sizes a_telling a_wBy a_wCell a_wFaces a_wFell a_wSign a_wTurns a_kept a_mind a_tape a_words a_moved a_above a_out a_first c_t c_elements c_holds (upd c_now ((s2).toNatClampNeg) (s1 + s0)) c_refused c_sizes c_telling c_wBy c_wCell c_wFaces c_wFell c_wSign c_wTurns)) rfl (fun H locs hP hD hS => ?_)
  obtain rfl := Option.some.inj h
  exact ret_i X dX6_walk_117 hP hD hS rfl
set_option maxRecDepth 100000 in
set_option maxHeartbeats 4000000 in
theorem w_X6_walk_b75 (X : Ctx p m meth c cX6_walk 6 ((some .int)) s args wsX6_walk RX6 E A) (a_t : Nat) (a_elements : Nat) (a_holds : Nat) (a_now : Nat) (a_refused : Nat) (a_sizes : Nat) (a_telling : Nat) (a_wBy : Nat) (a_wCell : Nat) (a_wFaces : Nat) (a_wFell : Nat) (a_wSign : Nat) (a_wTurns : Nat) (a_kept : Nat) (a_mind : Nat) (a_tape : Nat) (a_words : Nat) (a_moved : Nat) (a_above : Nat) (a_out : Nat) (a_first : Nat) (c_elements : Nat → Int64) (c_holds : Nat → Int32) (c_sizes : Nat → Int32) (res : Int32 × (Nat → Int32) × (Nat → Int32) × (Nat → Int32) × (Nat → Int32) × (Nat → Int32) × (Nat → Int32) × (Nat → Int32) × (Nat → Int32) × (Nat → Int32) × (Nat → Int32)) (c_t : Nat → Int32) (c_now : Nat → Int32) (c_refused : Nat → Int32) (c_telling : Nat → Int32) (c_wBy : Nat → Int32) (c_wCell : Nat → Int32) (c_wFaces : Nat → Int32) (c_wFell : Nat → Int32) (c_wSign : Nat → Int32) (c_wTurns : Nat → Int32) (l3 : Int32) (l5 : Int32) (s0 : Int32) (s1 : Int32) (ls : Array Slot) (H : Heap) (locs : List Loc) (h : f_X6_walk_b75 c_elements c_holds c_sizes c_t c_now c_refused c_telling c_wBy c_wCell c_wFaces c_wFell c_wSign c_wTurns l3 l5 s0 s1 = some res) (hP : va_P E.1 vwCl (W_X6_walk E a_t a_elements a_holds a_now a_refused a_sizes a_telling a_wBy a_wCell a_wFaces a_wFell a_wSign a_wTurns a_kept a_mind a_tape a_words a_moved a_above a_out a_first c_t c_elements c_holds c_now c_refused c_sizes c_telling c_wBy c_wCell c_wFaces c_wFell c_wSign c_wTurns) H) (hD : va_D A (W_X6_walk E a_t a_elements a_holds a_now a_refused a_sizes a_telling a_wBy a_wCell a_wFaces a_wFell a_wSign a_wTurns a_kept a_mind a_tape a_words a_moved a_above a_out a_first c_t c_elements c_holds c_now c_refused c_sizes c_telling c_wBy c_wCell c_wFaces c_wFell c_wSign c_wTurns)) (hS : va_S A s.heap H locs) (hl : lv_has ls 6 [(0, .ref a_t), (3, .int l3), (5, .int l5)]) : W p l e r_X6_walk s m args below meth c H locs 0 0 (MQ below (qI E A (res.1) (W_X6_walk E a_t a_elements a_holds a_now a_refused a_sizes a_telling a_wBy a_wCell a_wFaces a_wFell a_wSign a_wTurns a_kept a_mind a_tape a_words a_moved a_above a_out a_first (res.2.1) c_elements c_holds (res.2.2.1) (res.2.2.2.1) c_sizes (res.2.2.2.2.1) (res.2.2.2.2.2.1) (res.2.2.2.2.2.2.1) (res.2.2.2.2.2.2.2.1) (res.2.2.2.2.2.2.2.2.1) (res.2.2.2.2.2.2.2.2.2.1) (res.2.2.2.2.2.2.2.2.2.2))) args s 0 0 A) (F0 m 75 ls [.int s0, .int s1, .ref a_now]) := by
  obtain ⟨hx, hb, hml, hr, hlk, hown, hts, hG, hA⟩ := id X
  have hK := hG.1
  have hN := hG.2.1
  unfold f_X6_walk_b75 at h
  obtain ⟨hz75, h⟩ := chk_of h
  refine st_i X hP hD hS 3 rfl (inb.vp hz75) (k := (s1).toNatClampNeg) rfl (ws1 := (W_X6_walk E a_t a_elements a_holds a_now a_refused a_sizes a_telling a_wBy a_wCell a_wFaces a_wFell a_wSign a_wTurns a_kept a_mind a_tape a_words a_moved a_above a_out a_first c_t c_elements c_holds (upd c_now ((s1).toNatClampNeg) s0) c_refused c_sizes c_telling c_wBy c_wCell c_wFaces c_wFell c_wSign c_wTurns)) rfl dX6_walk_75 (fun H locs hP hD hS => ?_)
  refine lv_aload_n hx hb dX6_walk_76 rfl (lv_at hl 0 rfl) ?_
  refine va_get (D := E.1) (ci := 6) (v := .ref a_now) (C := RX6) (T := TX6) (N := 26) hx hb hts iX6_walk_X6 hown hK hP 0 rfl rfl 1 (by decide) (hts (.fieldLink RX6 17 "LeftIsAgreedOnModel" "now" "[I") (List.mem_of_getElem? (i := 2) rfl)) (fun _ h9 => h9) rfl dX6_walk_77 ?_
  refine lv_iconst (v := (5 : Int32)) hx hb dX6_walk_80 (by decide) ?_
  refine lv_iload_n hx hb dX6_walk_81 rfl (lv_at hl 1 rfl) ?_
  refine lv_imul hx hb dX6_walk_82 ?_
  refine lv_iconst (v := (3 : Int32)) hx hb dX6_walk_83 (by decide) ?_
  refine lv_iadd hx hb dX6_walk_84 ?_
  refine lv_aload_n hx hb dX6_walk_85 rfl (lv_at hl 0 rfl) ?_
  refine va_get (D := E.1) (ci := 6) (v := .ref a_wFaces) (C := RX6) (T := TX6) (N := 26) hx hb hts iX6_walk_X6 hown hK hP 0 rfl rfl 12 (by decide) (hts (.fieldLink RX6 36 "LeftIsAgreedOnModel" "wFaces" "[I") (List.mem_of_getElem? (i := 5) rfl)) (fun _ h9 => h9) rfl dX6_walk_86 ?_
  refine lv_iconst (v := (0 : Int32)) hx hb dX6_walk_89 (by decide) ?_
  refine ld_i X hP 9 rfl (inb.vp (by decide)) (v := (c_wFaces 0)) rfl dX6_walk_90 ?_
  obtain ⟨hz91, h⟩ := chk_of h
  refine st_i X hP hD hS 3 rfl (inb.vp hz91) (k := ((((5 : Int32) * l3) + (3 : Int32))).toNatClampNeg) rfl (ws1 := (W_X6_walk E a_t a_elements a_holds a_now a_refused a_sizes a_telling a_wBy a_wCell a_wFaces a_wFell a_wSign a_wTurns a_kept a_mind a_tape a_words a_moved a_above a_out a_first c_t c_elements c_holds (upd (upd c_now ((s1).toNatClampNeg) s0) (((((5 : Int32) * l3) + (3 : Int32))).toNatClampNeg) (c_wFaces 0)) c_refused c_sizes c_telling c_wBy c_wCell c_wFaces c_wFell c_wSign c_wTurns)) rfl dX6_walk_91 (fun H locs hP hD hS => ?_)
  refine lv_aload_n hx hb dX6_walk_92 rfl (lv_at hl 0 rfl) ?_
  refine va_get (D := E.1) (ci := 6) (v := .ref a_now) (C := RX6) (T := TX6) (N := 26) hx hb hts iX6_walk_X6 hown hK hP 0 rfl rfl 1 (by decide) (hts (.fieldLink RX6 17 "LeftIsAgreedOnModel" "now" "[I") (List.mem_of_getElem? (i := 2) rfl)) (fun _ h9 => h9) rfl dX6_walk_93 ?_
  refine lv_bipush (v := (95 : Int32)) hx hb dX6_walk_96 (by decide) ?_
  refine lv_dup2_11 hx hb dX6_walk_98 rfl rfl ?_
  refine ld_i X hP 3 rfl (inb.vp (by decide)) (v := ((upd (upd c_now ((s1).toNatClampNeg) s0) (((((5 : Int32) * l3) + (3 : Int32))).toNatClampNeg) (c_wFaces 0)) 95)) rfl dX6_walk_99 ?_
  refine lv_iload hx hb dX6_walk_100 (lv_at hl 2 rfl) ?_
  refine lv_if_eq (tgt := 109) hx hb dX6_walk_102 (by decide) (fun hc102 => ?_) (fun hc102 => ?_)
  · have h := if_t h hc102
    refine lv_iconst (v := (0 : Int32)) hx hb dX6_walk_109 (by decide) ?_
    exact w_X6_walk_b110 X a_t a_elements a_holds a_now a_refused a_sizes a_telling a_wBy a_wCell a_wFaces a_wFell a_wSign a_wTurns a_kept a_mind a_tape a_words a_moved a_above a_out a_first c_elements c_holds c_sizes res c_t (upd (upd c_now ((s1).toNatClampNeg) s0) (((((5 : Int32) * l3) + (3 : Int32))).toNatClampNeg) (c_wFaces 0)) c_refused c_telling c_wBy c_wCell c_wFaces c_wFell c_wSign c_wTurns l3 (0 : Int32) ((upd (upd c_now ((s1).toNatClampNeg) s0) (((((5 : Int32) * l3) + (3 : Int32))).toNatClampNeg) (c_wFaces 0)) 95) (95 : Int32) _ _ _ h hP hD hS (lv_sub hl [0, 1] rfl)
  · have h := if_f h hc102
    refine lv_iconst (v := (1 : Int32)) hx hb dX6_walk_105 (by decide) ?_
    refine lv_goto (tgt := 110) hx hb dX6_walk_106 (by decide) ?_
    exact w_X6_walk_b110 X a_t a_elements a_holds a_now a_refused a_sizes a_telling a_wBy a_wCell a_wFaces a_wFell a_wSign a_wTurns a_kept a_mind a_tape a_words a_moved a_above a_out a_first c_elements c_holds c_sizes res c_t (upd (upd c_now ((s1).toNatClampNeg) s0) (((((5 : Int32) * l3) + (3 : Int32))).toNatClampNeg) (c_wFaces 0)) c_refused c_telling c_wBy c_wCell c_wFaces c_wFell c_wSign c_wTurns l3 (1 : Int32) ((upd (upd c_now ((s1).toNatClampNeg) s0) (((((5 : Int32) * l3) + (3 : Int32))).toNatClampNeg) (c_wFaces 0)) 95) (95 : Int32) _ _ _ h hP hD hS (lv_sub hl [0, 1] rfl)
set_option maxRecDepth 100000 in
set_option maxHeartbeats 4000000 in
theorem w_X6_walk_b46 (X : Ctx p m meth c cX6_walk 6 ((some .int)) s args wsX6_walk RX6 E A) (a_t : Nat) (a_elements : Nat) (a_holds : Nat) (a_now : Nat) (a_refused : Nat) (a_sizes : Nat) (a_telling : Nat) (a_wBy : Nat) (a_wCell : Nat) (a_wFaces : Nat) (a_wFell : Nat) (a_wSign : Nat) (a_wTurns : Nat) (a_kept : Nat) (a_mind : Nat) (a_tape : Nat) (a_words : Nat) (a_moved : Nat) (a_above : Nat) (a_out : Nat) (a_first : Nat) (c_elements : Nat → Int64) (c_holds : Nat → Int32) (c_sizes : Nat → Int32) (res : Int32 × (Nat → Int32) × (Nat → Int32) × (Nat → Int32) × (Nat → Int32) × (Nat → Int32) × (Nat → Int32) × (Nat → Int32) × (Nat → Int32) × (Nat → Int32) × (Nat → Int32)) (c_t : Nat → Int32) (c_now : Nat → Int32) (c_refused : Nat → Int32) (c_telling : Nat → Int32) (c_wBy : Nat → Int32) (c_wCell : Nat → Int32) (c_wFaces : Nat → Int32) (c_wFell : Nat → Int32) (c_wSign : Nat → Int32) (c_wTurns : Nat → Int32) (l3 : Int32) (s0 : Int32) (ls : Array Slot) (H : Heap) (locs : List Loc) (h : f_X6_walk_b46 c_elements c_holds c_sizes c_t c_now c_refused c_telling c_wBy c_wCell c_wFaces c_wFell c_wSign c_wTurns l3 s0 = some res) (hP : va_P E.1 vwCl (W_X6_walk E a_t a_elements a_holds a_now a_refused a_sizes a_telling a_wBy a_wCell a_wFaces a_wFell a_wSign a_wTurns a_kept a_mind a_tape a_words a_moved a_above a_out a_first c_t c_elements c_holds c_now c_refused c_sizes c_telling c_wBy c_wCell c_wFaces c_wFell c_wSign c_wTurns) H) (hD : va_D A (W_X6_walk E a_t a_elements a_holds a_now a_refused a_sizes a_telling a_wBy a_wCell a_wFaces a_wFell a_wSign a_wTurns a_kept a_mind a_tape a_words a_moved a_above a_out a_first c_t c_elements c_holds c_now c_refused c_sizes c_telling c_wBy c_wCell c_wFaces c_wFell c_wSign c_wTurns)) (hS : va_S A s.heap H locs) (hl : lv_has ls 6 [(0, .ref a_t), (3, .int l3)]) : W p l e r_X6_walk s m args below meth c H locs 0 0 (MQ below (qI E A (res.1) (W_X6_walk E a_t a_elements a_holds a_now a_refused a_sizes a_telling a_wBy a_wCell a_wFaces a_wFell a_wSign a_wTurns a_kept a_mind a_tape a_words a_moved a_above a_out a_first (res.2.1) c_elements c_holds (res.2.2.1) (res.2.2.2.1) c_sizes (res.2.2.2.2.1) (res.2.2.2.2.2.1) (res.2.2.2.2.2.2.1) (res.2.2.2.2.2.2.2.1) (res.2.2.2.2.2.2.2.2.1) (res.2.2.2.2.2.2.2.2.2.1) (res.2.2.2.2.2.2.2.2.2.2))) args s 0 0 A) (F0 m 46 ls [.int s0]) := by
  obtain ⟨hx, hb, hml, hr, hlk, hown, hts, hG, hA⟩ := id X
  have hK := hG.1
  have hN := hG.2.1
  unfold f_X6_walk_b46 at h
  refine lv_istore (lv' := [(5, .int s0), (0, .ref a_t), (3, .int l3)]) hx hb dX6_walk_46 hl (by decide) rfl (fun ls hl => ?_)
  refine lv_aload_n hx hb dX6_walk_48 rfl (lv_at hl 1 rfl) ?_
  refine va_get (D := E.1) (ci := 6) (v := .ref a_now) (C := RX6) (T := TX6) (N := 26) hx hb hts iX6_walk_X6 hown hK hP 0 rfl rfl 1 (by decide) (hts (.fieldLink RX6 17 "LeftIsAgreedOnModel" "now" "[I") (List.mem_of_getElem? (i := 2) rfl)) (fun _ h9 => h9) rfl dX6_walk_49 ?_
  refine lv_iconst (v := (5 : Int32)) hx hb dX6_walk_52 (by decide) ?_
  refine lv_iload_n hx hb dX6_walk_53 rfl (lv_at hl 2 rfl) ?_
  refine lv_imul hx hb dX6_walk_54 ?_
  refine lv_iconst (v := (2 : Int32)) hx hb dX6_walk_55 (by decide) ?_
  refine lv_iadd hx hb dX6_walk_56 ?_
  refine lv_iload hx hb dX6_walk_57 (lv_at hl 0 rfl) ?_
  refine lv_if_eq (tgt := 69) hx hb dX6_walk_59 (by decide) (fun hc59 => ?_) (fun hc59 => ?_)
  · have h := if_t h hc59
    refine lv_aload_n hx hb dX6_walk_69 rfl (lv_at hl 1 rfl) ?_
    refine va_get (D := E.1) (ci := 6) (v := .ref a_wCell) (C := RX6) (T := TX6) (N := 26) hx hb hts iX6_walk_X6 hown hK hP 0 rfl rfl 11 (by decide) (hts (.fieldLink RX6 33 "LeftIsAgreedOnModel" "wCell" "[I") (List.mem_of_getElem? (i := 4) rfl)) (fun _ h9 => h9) rfl dX6_walk_70 ?_
    refine lv_iconst (v := (0 : Int32)) hx hb dX6_walk_73 (by decide) ?_
    refine ld_i X hP 8 rfl (inb.vp (by decide)) (v := (c_wCell 0)) rfl dX6_walk_74 ?_
    exact w_X6_walk_b75 X a_t a_elements a_holds a_now a_refused a_sizes a_telling a_wBy a_wCell a_wFaces a_wFell a_wSign a_wTurns a_kept a_mind a_tape a_words a_moved a_above a_out a_first c_elements c_holds c_sizes res c_t c_now c_refused c_telling c_wBy c_wCell c_wFaces c_wFell c_wSign c_wTurns l3 s0 (c_wCell 0) (((5 : Int32) * l3) + (2 : Int32)) _ _ _ h hP hD hS (lv_sub hl [1, 2, 0] rfl)
  · have h := if_f h hc59
    refine lv_aload_n hx hb dX6_walk_62 rfl (lv_at hl 1 rfl) ?_
    refine va_get (D := E.1) (ci := 6) (v := .int (c_t 17)) (C := RX6) (T := TX6) (N := 26) hx hb hts iX6_walk_X6 hown hK hP 0 rfl rfl 17 (by decide) (hts (.fieldLink RX6 185 "LeftIsAgreedOnModel" "dry" "I") (List.mem_of_getElem? (i := 3) rfl)) (fun _ h9 => h9) rfl dX6_walk_63 ?_
    refine lv_goto (tgt := 75) hx hb dX6_walk_66 (by decide) ?_
    exact w_X6_walk_b75 X a_t a_elements a_holds a_now a_refused a_sizes a_telling a_wBy a_wCell a_wFaces a_wFell a_wSign a_wTurns a_kept a_mind a_tape a_words a_moved a_above a_out a_first c_elements c_holds c_sizes res c_t c_now c_refused c_telling c_wBy c_wCell c_wFaces c_wFell c_wSign c_wTurns l3 s0 (c_t 17) (((5 : Int32) * l3) + (2 : Int32)) _ _ _ h hP hD hS (lv_sub hl [1, 2, 0] rfl)
set_option maxRecDepth 100000 in
set_option maxHeartbeats 4000000 in
theorem w_X6_walk (X : Ctx p m meth c cX6_walk 6 ((some .int)) s args wsX6_walk RX6 E A) (a_t : Nat) (a_elements : Nat) (a_holds : Nat) (a_now : Nat) (a_refused : Nat) (a_sizes : Nat) (a_telling : Nat) (a_wBy : Nat) (a_wCell : Nat) (a_wFaces : Nat) (a_wFell : Nat) (a_wSign : Nat) (a_wTurns : Nat) (a_kept : Nat) (a_mind : Nat) (a_tape : Nat) (a_words : Nat) (a_moved : Nat) (a_above : Nat) (a_out : Nat) (a_first : Nat) (c_elements : Nat → Int64) (c_holds : Nat → Int32) (c_sizes : Nat → Int32) (res : Int32 × (Nat → Int32) × (Nat → Int32) × (Nat → Int32) × (Nat → Int32) × (Nat → Int32) × (Nat → Int32) × (Nat → Int32) × (Nat → Int32) × (Nat → Int32) × (Nat → Int32)) (c_t : Nat → Int32) (c_now : Nat → Int32) (c_refused : Nat → Int32) (c_telling : Nat → Int32) (c_wBy : Nat → Int32) (c_wCell : Nat → Int32) (c_wFaces : Nat → Int32) (c_wFell : Nat → Int32) (c_wSign : Nat → Int32) (c_wTurns : Nat → Int32) (l1 : Int32) (l2 : Int32) (l3 : Int32) (ls : Array Slot) (H : Heap) (locs : List Loc) (h : f_X6_walk l1 l2 l3 c_t c_elements c_holds c_now c_refused c_sizes c_telling c_wBy c_wCell c_wFaces c_wFell c_wSign c_wTurns = some res) (hP : va_P E.1 vwCl (W_X6_walk E a_t a_elements a_holds a_now a_refused a_sizes a_telling a_wBy a_wCell a_wFaces a_wFell a_wSign a_wTurns a_kept a_mind a_tape a_words a_moved a_above a_out a_first c_t c_elements c_holds c_now c_refused c_sizes c_telling c_wBy c_wCell c_wFaces c_wFell c_wSign c_wTurns) H) (hD : va_D A (W_X6_walk E a_t a_elements a_holds a_now a_refused a_sizes a_telling a_wBy a_wCell a_wFaces a_wFell a_wSign a_wTurns a_kept a_mind a_tape a_words a_moved a_above a_out a_first c_t c_elements c_holds c_now c_refused c_sizes c_telling c_wBy c_wCell c_wFaces c_wFell c_wSign c_wTurns)) (hS : va_S A s.heap H locs) (hl : lv_has ls 6 [(0, .ref a_t), (1, .int l1), (2, .int l2), (3, .int l3)]) : W p l e r_X6_walk s m args below meth c H locs 0 0 (MQ below (qI E A (res.1) (W_X6_walk E a_t a_elements a_holds a_now a_refused a_sizes a_telling a_wBy a_wCell a_wFaces a_wFell a_wSign a_wTurns a_kept a_mind a_tape a_words a_moved a_above a_out a_first (res.2.1) c_elements c_holds (res.2.2.1) (res.2.2.2.1) c_sizes (res.2.2.2.2.1) (res.2.2.2.2.2.1) (res.2.2.2.2.2.2.1) (res.2.2.2.2.2.2.2.1) (res.2.2.2.2.2.2.2.2.1) (res.2.2.2.2.2.2.2.2.2.1) (res.2.2.2.2.2.2.2.2.2.2))) args s 0 0 A) (F0 m 0 ls []) := by
  obtain ⟨hx, hb, hml, hr, hlk, hown, hts, hG, hA⟩ := id X
  have hK := hG.1
  have hN := hG.2.1
  unfold f_X6_walk at h
  refine lv_aload_n hx hb dX6_walk_0 rfl (lv_at hl 0 rfl) ?_
  refine lv_aload_n hx hb dX6_walk_1 rfl (lv_at hl 0 rfl) ?_
  refine lv_iload_n hx hb dX6_walk_2 rfl (lv_at hl 3 rfl) ?_
  obtain ⟨v1, hv1, h⟩ := bind_of h
  refine after_i X (run_V X (c_X6_isPerson l E a_t a_now a_refused a_kept a_mind a_tape a_words a_wCell a_wFaces a_wTurns a_wSign a_wBy a_wFell a_telling a_holds a_sizes a_elements a_moved a_above a_out a_first l3 c_t c_now H.size v1 hv1) (cwV 1 hts gX6_walk_X6_isPerson rfl rfl rfl hV_X6_isPerson ⟨(Nat.le_of_ble_eq_true rfl), (Nat.le_of_ble_eq_true rfl)⟩) hP hD hS [0, 3] rfl rfl hl.1 (ci := 6) rfl rfl rfl (rest := [.ref a_t]) rfl rfl (Nat.le_of_ble_eq_true rfl) dX6_walk_3) hP hD hS [0, 3] [1, 2, 4, 5, 6, 7, 8, 9, 10, 11, 12] [11, 0, 1, 12, 2, 3, 4, 5, 6, 7, 8, 9, 10] rfl rfl rfl (by decide) rfl (ws1 := (W_X6_walk E a_t a_elements a_holds a_now a_refused a_sizes a_telling a_wBy a_wCell a_wFaces a_wFell a_wSign a_wTurns a_kept a_mind a_tape a_words a_moved a_above a_out a_first c_t c_elements c_holds c_now c_refused c_sizes c_telling c_wBy c_wCell c_wFaces c_wFell c_wSign c_wTurns)) rfl (fun H locs hP hD hS => ?_)
  refine lv_iload_n hx hb dX6_walk_6 rfl (lv_at hl 1 rfl) ?_
  refine lv_iload_n hx hb dX6_walk_7 rfl (lv_at hl 2 rfl) ?_
  obtain ⟨v2, hv2, h⟩ := bind_of h
  refine after_i X (run_V X (c_X6_loadIf l E a_t a_elements a_holds a_sizes a_telling a_refused a_now a_kept a_mind a_tape a_words a_wCell a_wFaces a_wTurns a_wSign a_wBy a_wFell a_moved a_above a_out a_first v1 l1 l2 c_t c_elements c_holds c_sizes c_telling H.size v2 hv2) (cwV 3 hts gX6_walk_X6_loadIf rfl rfl rfl hV_X6_loadIf ⟨(Nat.le_of_ble_eq_true rfl), (Nat.le_of_ble_eq_true rfl)⟩) hP hD hS [0, 1, 2, 5, 6] rfl rfl hl.1 (ci := 6) rfl rfl rfl (rest := []) rfl rfl (Nat.le_of_ble_eq_true rfl) dX6_walk_8) hP hD hS [0, 1, 2, 5, 6] [3, 4, 7, 8, 9, 10, 11, 12] [8, 9, 10, 0, 1, 11, 12, 2, 3, 4, 5, 6, 7] rfl rfl rfl (by decide) rfl (ws1 := (W_X6_walk E a_t a_elements a_holds a_now a_refused a_sizes a_telling a_wBy a_wCell a_wFaces a_wFell a_wSign a_wTurns a_kept a_mind a_tape a_words a_moved a_above a_out a_first c_t c_elements c_holds c_now c_refused c_sizes (v2.2) c_wBy c_wCell c_wFaces c_wFell c_wSign c_wTurns)) rfl (fun H locs hP hD hS => ?_)
  refine lv_istore (lv' := [(4, .int (v2.1)), (0, .ref a_t), (1, .int l1), (2, .int l2), (3, .int l3)]) hx hb dX6_walk_11 hl (by decide) rfl (fun ls hl => ?_)
  refine lv_iload hx hb dX6_walk_13 (lv_at hl 0 rfl) ?_
  refine lv_if_ge (tgt := 25) hx hb dX6_walk_15 (by decide) (fun hc15 => ?_) (fun hc15 => ?_)
  · have h := if_t h hc15
    refine lv_aload_n hx hb dX6_walk_25 rfl (lv_at hl 1 rfl) ?_
    refine lv_iload_n hx hb dX6_walk_26 rfl (lv_at hl 4 rfl) ?_
    refine lv_iload_n hx hb dX6_walk_27 rfl (lv_at hl 3 rfl) ?_
    obtain ⟨v3, hv3, h⟩ := bind_of h
    refine after_v X (run_V X (c_X6_go l E a_t a_now a_telling a_wBy a_wCell a_wFaces a_wFell a_wSign a_wTurns a_refused a_kept a_mind a_tape a_words a_holds a_sizes a_elements a_moved a_above a_out a_first l3 l2 c_t c_now (v2.2) c_wBy c_wCell c_wFaces c_wFell c_wSign c_wTurns H.size v3 hv3) (cwV 2 hts gX6_walk_X6_go rfl rfl rfl hV_X6_go ⟨(Nat.le_of_ble_eq_true rfl), (Nat.le_of_ble_eq_true rfl)⟩) hP hD hS [0, 3, 6, 7, 8, 9, 10, 11, 12] rfl rfl hl.1 (ci := 6) rfl rfl rfl (rest := []) rfl rfl (Nat.le_of_ble_eq_true rfl) dX6_walk_28) hP hD hS [0, 3, 6, 7, 8, 9, 10, 11, 12] [1, 2, 4, 5] [4, 0, 1, 5, 2, 3, 6, 7, 8, 9, 10, 11, 12] rfl rfl rfl (by decide) rfl (ws1 := (W_X6_walk E a_t a_elements a_holds a_now a_refused a_sizes a_telling a_wBy a_wCell a_wFaces a_wFell a_wSign a_wTurns a_kept a_mind a_tape a_words a_moved a_above a_out a_first (v3.1) c_elements c_holds c_now c_refused c_sizes (v2.2) (v3.2.1) (v3.2.2.1) (v3.2.2.2.1) (v3.2.2.2.2.1) (v3.2.2.2.2.2.1) (v3.2.2.2.2.2.2))) rfl (fun H locs hP hD hS => ?_)
    refine lv_aload_n hx hb dX6_walk_31 rfl (lv_at hl 1 rfl) ?_
    refine va_get (D := E.1) (ci := 6) (v := .ref a_wFell) (C := RX6) (T := TX6) (N := 26) hx hb hts iX6_walk_X6 hown hK hP 0 rfl rfl 16 (by decide) (hts (.fieldLink RX6 48 "LeftIsAgreedOnModel" "wFell" "[I") (List.mem_of_getElem? (i := 1) rfl)) (fun _ h9 => h9) rfl dX6_walk_32 ?_
    refine lv_iconst (v := (0 : Int32)) hx hb dX6_walk_35 (by decide) ?_
    refine ld_i X hP 10 rfl (inb.vp (by decide)) (v := ((v3.2.2.2.2.1) 0)) rfl dX6_walk_36 ?_
    refine lv_iconst (v := (-1 : Int32)) hx hb dX6_walk_37 (by decide) ?_
    refine lv_icmp_eq (tgt := 45) hx hb dX6_walk_38 (by decide) (fun hc38 => ?_) (fun hc38 => ?_)
    · have h := if_t h hc38
      refine lv_iconst (v := (0 : Int32)) hx hb dX6_walk_45 (by decide) ?_
      exact w_X6_walk_b46 X a_t a_elements a_holds a_now a_refused a_sizes a_telling a_wBy a_wCell a_wFaces a_wFell a_wSign a_wTurns a_kept a_mind a_tape a_words a_moved a_above a_out a_first c_elements c_holds c_sizes res (v3.1) c_now c_refused (v2.2) (v3.2.1) (v3.2.2.1) (v3.2.2.2.1) (v3.2.2.2.2.1) (v3.2.2.2.2.2.1) (v3.2.2.2.2.2.2) l3 (0 : Int32) _ _ _ h hP hD hS (lv_sub hl [1, 4] rfl)
    · have h := if_f h hc38
      refine lv_iconst (v := (1 : Int32)) hx hb dX6_walk_41 (by decide) ?_
      refine lv_goto (tgt := 46) hx hb dX6_walk_42 (by decide) ?_
      exact w_X6_walk_b46 X a_t a_elements a_holds a_now a_refused a_sizes a_telling a_wBy a_wCell a_wFaces a_wFell a_wSign a_wTurns a_kept a_mind a_tape a_words a_moved a_above a_out a_first c_elements c_holds c_sizes res (v3.1) c_now c_refused (v2.2) (v3.2.1) (v3.2.2.1) (v3.2.2.2.1) (v3.2.2.2.2.1) (v3.2.2.2.2.2.1) (v3.2.2.2.2.2.2) l3 (1 : Int32) _ _ _ h hP hD hS (lv_sub hl [1, 4] rfl)
  · have h := if_f h hc15
    refine lv_aload_n hx hb dX6_walk_18 rfl (lv_at hl 1 rfl) ?_
    refine lv_iload hx hb dX6_walk_19 (lv_at hl 0 rfl) ?_
    obtain ⟨v4, hv4, h⟩ := bind_of h
    refine after_i X (run_V X (c_X6_refuse l E a_t a_refused a_now a_kept a_mind a_tape a_words a_wCell a_wFaces a_wTurns a_wSign a_wBy a_wFell a_telling a_holds a_sizes a_elements a_moved a_above a_out a_first (v2.1) c_t c_refused H.size v4 hv4) (cwV 1 hts gX6_walk_X6_refuse rfl rfl rfl hV_X6_refuse ⟨(Nat.le_of_ble_eq_true rfl), (Nat.le_of_ble_eq_true rfl)⟩) hP hD hS [0, 4] rfl rfl hl.1 (ci := 6) rfl rfl rfl (rest := []) rfl rfl (Nat.le_of_ble_eq_true rfl) dX6_walk_21) hP hD hS [0, 4] [1, 2, 3, 5, 6, 7, 8, 9, 10, 11, 12] [11, 0, 1, 2, 12, 3, 4, 5, 6, 7, 8, 9, 10] rfl rfl rfl (by decide) rfl (ws1 := (W_X6_walk E a_t a_elements a_holds a_now a_refused a_sizes a_telling a_wBy a_wCell a_wFaces a_wFell a_wSign a_wTurns a_kept a_mind a_tape a_words a_moved a_above a_out a_first c_t c_elements c_holds c_now (v4.2) c_sizes (v2.2) c_wBy c_wCell c_wFaces c_wFell c_wSign c_wTurns)) rfl (fun H locs hP hD hS => ?_)
    obtain rfl := Option.some.inj h
    exact ret_i X dX6_walk_24 hP hD hS rfl
end
set_option maxRecDepth 100000 in
theorem c_X6_walk (l : Launch) (E : Env0) (a_t : Nat) (a_elements : Nat) (a_holds : Nat) (a_now : Nat) (a_refused : Nat) (a_sizes : Nat) (a_telling : Nat) (a_wBy : Nat) (a_wCell : Nat) (a_wFaces : Nat) (a_wFell : Nat) (a_wSign : Nat) (a_wTurns : Nat) (a_kept : Nat) (a_mind : Nat) (a_tape : Nat) (a_words : Nat) (a_moved : Nat) (a_above : Nat) (a_out : Nat) (a_first : Nat) (l1 : Int32) (l2 : Int32) (l3 : Int32) (c_t : Nat → Int32) (c_elements : Nat → Int64) (c_holds : Nat → Int32) (c_now : Nat → Int32) (c_refused : Nat → Int32) (c_sizes : Nat → Int32) (c_telling : Nat → Int32) (c_wBy : Nat → Int32) (c_wCell : Nat → Int32) (c_wFaces : Nat → Int32) (c_wFell : Nat → Int32) (c_wSign : Nat → Int32) (c_wTurns : Nat → Int32) (sz : Nat) (res : Int32 × (Nat → Int32) × (Nat → Int32) × (Nat → Int32) × (Nat → Int32) × (Nat → Int32) × (Nat → Int32) × (Nat → Int32) × (Nat → Int32) × (Nat → Int32) × (Nat → Int32)) (h : f_X6_walk l1 l2 l3 c_t c_elements c_holds c_now c_refused c_sizes c_telling c_wBy c_wCell c_wFaces c_wFell c_wSign c_wTurns = some res) : Met l yX6_walk wsX6_walk r_X6_walk (cPre E [.ref a_t, .int l1, .int l2, .int l3] (W_X6_walk E a_t a_elements a_holds a_now a_refused a_sizes a_telling a_wBy a_wCell a_wFaces a_wFell a_wSign a_wTurns a_kept a_mind a_tape a_words a_moved a_above a_out a_first c_t c_elements c_holds c_now c_refused c_sizes c_telling c_wBy c_wCell c_wFaces c_wFell c_wSign c_wTurns) sz) (qI E (va_A (W_X6_walk E a_t a_elements a_holds a_now a_refused a_sizes a_telling a_wBy a_wCell a_wFaces a_wFell a_wSign a_wTurns a_kept a_mind a_tape a_words a_moved a_above a_out a_first c_t c_elements c_holds c_now c_refused c_sizes c_telling c_wBy c_wCell c_wFaces c_wFell c_wSign c_wTurns) sz) (res.1) (W_X6_walk E a_t a_elements a_holds a_now a_refused a_sizes a_telling a_wBy a_wCell a_wFaces a_wFell a_wSign a_wTurns a_kept a_mind a_tape a_words a_moved a_above a_out a_first (res.2.1) c_elements c_holds (res.2.2.1) (res.2.2.2.1) c_sizes (res.2.2.2.2.1) (res.2.2.2.2.2.1) (res.2.2.2.2.2.2.1) (res.2.2.2.2.2.2.2.1) (res.2.2.2.2.2.2.2.2.1) (res.2.2.2.2.2.2.2.2.2.1) (res.2.2.2.2.2.2.2.2.2.2))) 0 0 (va_A (W_X6_walk E a_t a_elements a_holds a_now a_refused a_sizes a_telling a_wBy a_wCell a_wFaces a_wFell a_wSign a_wTurns a_kept a_mind a_tape a_words a_moved a_above a_out a_first c_t c_elements c_holds c_now c_refused c_sizes c_telling c_wBy c_wCell c_wFaces c_wFell c_wSign c_wTurns) sz) :=
  met_of (Qc := fun A => qI E A (res.1) (W_X6_walk E a_t a_elements a_holds a_now a_refused a_sizes a_telling a_wBy a_wCell a_wFaces a_wFell a_wSign a_wTurns a_kept a_mind a_tape a_words a_moved a_above a_out a_first (res.2.1) c_elements c_holds (res.2.2.1) (res.2.2.2.1) c_sizes (res.2.2.2.2.1) (res.2.2.2.2.2.1) (res.2.2.2.2.2.2.1) (res.2.2.2.2.2.2.2.1) (res.2.2.2.2.2.2.2.2.1) (res.2.2.2.2.2.2.2.2.2.1) (res.2.2.2.2.2.2.2.2.2.2))) (by decide) rfl (Nat.le_of_ble_eq_true rfl) (fun p e s m args below meth c X hP hD hS ls hl => w_X6_walk X a_t a_elements a_holds a_now a_refused a_sizes a_telling a_wBy a_wCell a_wFaces a_wFell a_wSign a_wTurns a_kept a_mind a_tape a_words a_moved a_above a_out a_first c_elements c_holds c_sizes res c_t c_now c_refused c_telling c_wBy c_wCell c_wFaces c_wFell c_wSign c_wTurns l1 l2 l3 ls _ _ h hP hD hS hl)
-- ===== X6_draw
abbrev W_X6_draw (E : Env0) (a_t : Nat) (a_now : Nat) (a_refused : Nat) (a_kept : Nat) (a_mind : Nat) (a_tape : Nat) (a_words : Nat) (a_wCell : Nat) (a_wFaces : Nat) (a_wTurns : Nat) (a_wSign : Nat) (a_wBy : Nat) (a_wFell : Nat) (a_telling : Nat) (a_holds : Nat) (a_sizes : Nat) (a_elements : Nat) (a_moved : Nat) (a_above : Nat) (a_out : Nat) (a_first : Nat) (c_t : Nat → Int32) (c_now : Nat → Int32) : va_W := [(a_t, .inr (6, [.ref a_refused, .ref a_now, .ref a_kept, .ref a_mind, .int (c_t 4), .ref a_tape, .int (c_t 6), .int (c_t 7), .int (c_t 8), .int (c_t 9), .ref a_words, .ref a_wCell, .ref a_wFaces, .ref a_wTurns, .ref a_wSign, .ref a_wBy, .ref a_wFell, .int (c_t 17), .ref a_telling, .ref a_holds, .ref a_sizes, .ref a_elements, .ref a_moved, .ref a_above, .ref a_out, .ref a_first])), (a_now, .inl (eI E, 97, .inl c_now))]
abbrev r_X6_draw : Room := { frames := 0, cells := 0, slots := 0, locals := 0 }
theorem hd_X6_draw : yX6_draw.cls ≠ "java/lang/invoke/MethodHandle" ∧ yX6_draw.cls ≠ "java/lang/invoke/VarHandle" ∧ (parseMethodDescriptor yX6_draw.desc).map (fun d => d.parameters.length) = some 1 := by decide +kernel
theorem hV_X6_draw : yX6_draw.cls = RX6 ∧ yX6_draw.cls ≠ "java/lang/invoke/MethodHandle" ∧ yX6_draw.cls ≠ "java/lang/invoke/VarHandle" ∧ (parseMethodDescriptor yX6_draw.desc).map (fun d => d.parameters.length) = some 1 := ⟨rfl, hd_X6_draw⟩
theorem iX6_draw_X6 : ∀ w ∈ wsX60, w ∈ wsX6_draw := fun _ h => List.mem_cons_of_mem _ (List.mem_append_right _ (h))
section
variable {p : Program} {l : Launch} {e : Env} {s : State} {m : MethodId} {args : Array Value} {below : List Frame} {meth : Method} {c : Code} {E : Env0} {A : Nat → Prop}
set_option maxRecDepth 100000 in
set_option maxHeartbeats 4000000 in
theorem w_X6_draw (X : Ctx p m meth c cX6_draw 2 ((some .int)) s args wsX6_draw RX6 E A) (a_t : Nat) (a_now : Nat) (a_refused : Nat) (a_kept : Nat) (a_mind : Nat) (a_tape : Nat) (a_words : Nat) (a_wCell : Nat) (a_wFaces : Nat) (a_wTurns : Nat) (a_wSign : Nat) (a_wBy : Nat) (a_wFell : Nat) (a_telling : Nat) (a_holds : Nat) (a_sizes : Nat) (a_elements : Nat) (a_moved : Nat) (a_above : Nat) (a_out : Nat) (a_first : Nat) (c_t : Nat → Int32) (res : Int32 × (Nat → Int32)) (c_now : Nat → Int32) (l1 : Int32) (ls : Array Slot) (H : Heap) (locs : List Loc) (h : f_X6_draw l1 c_t c_now = some res) (hP : va_P E.1 vwCl (W_X6_draw E a_t a_now a_refused a_kept a_mind a_tape a_words a_wCell a_wFaces a_wTurns a_wSign a_wBy a_wFell a_telling a_holds a_sizes a_elements a_moved a_above a_out a_first c_t c_now) H) (hD : va_D A (W_X6_draw E a_t a_now a_refused a_kept a_mind a_tape a_words a_wCell a_wFaces a_wTurns a_wSign a_wBy a_wFell a_telling a_holds a_sizes a_elements a_moved a_above a_out a_first c_t c_now)) (hS : va_S A s.heap H locs) (hl : lv_has ls 2 [(0, .ref a_t), (1, .int l1)]) : W p l e r_X6_draw s m args below meth c H locs 0 0 (MQ below (qI E A (res.1) (W_X6_draw E a_t a_now a_refused a_kept a_mind a_tape a_words a_wCell a_wFaces a_wTurns a_wSign a_wBy a_wFell a_telling a_holds a_sizes a_elements a_moved a_above a_out a_first c_t (res.2))) args s 0 0 A) (F0 m 0 ls []) := by
  obtain ⟨hx, hb, hml, hr, hlk, hown, hts, hG, hA⟩ := id X
  have hK := hG.1
  have hN := hG.2.1
  unfold f_X6_draw at h
  refine lv_aload_n hx hb dX6_draw_0 rfl (lv_at hl 0 rfl) ?_
  refine va_get (D := E.1) (ci := 6) (v := .ref a_now) (C := RX6) (T := TX6) (N := 26) hx hb hts iX6_draw_X6 hown hK hP 0 rfl rfl 1 (by decide) (hts (.fieldLink RX6 17 "LeftIsAgreedOnModel" "now" "[I") (List.mem_of_getElem? (i := 1) rfl)) (fun _ h9 => h9) rfl dX6_draw_1 ?_
  refine lv_bipush (v := (96 : Int32)) hx hb dX6_draw_4 (by decide) ?_
  refine lv_aload_n hx hb dX6_draw_6 rfl (lv_at hl 0 rfl) ?_
  refine va_get (D := E.1) (ci := 6) (v := .ref a_now) (C := RX6) (T := TX6) (N := 26) hx hb hts iX6_draw_X6 hown hK hP 0 rfl rfl 1 (by decide) (hts (.fieldLink RX6 17 "LeftIsAgreedOnModel" "now" "[I") (List.mem_of_getElem? (i := 1) rfl)) (fun _ h9 => h9) rfl dX6_draw_7 ?_
  refine lv_bipush (v := (96 : Int32)) hx hb dX6_draw_10 (by decide) ?_
  refine ld_i X hP 1 rfl (inb.vp (by decide)) (v := (c_now 96)) rfl dX6_draw_12 ?_
  refine lv_ldcw (v := (1103515245 : Int32)) hx hb hown (hts (.constant RX6 273 (1103515245)) (List.mem_of_getElem? (i := 2) rfl)) dX6_draw_13 ?_
  refine lv_imul hx hb dX6_draw_16 ?_
  refine lv_sipush (v := (12345 : Int32)) hx hb dX6_draw_17 (by decide) ?_
  refine lv_iadd hx hb dX6_draw_20 ?_
  refine st_i X hP hD hS 1 rfl (inb.vp (by decide)) (k := 96) rfl (ws1 := (W_X6_draw E a_t a_now a_refused a_kept a_mind a_tape a_words a_wCell a_wFaces a_wTurns a_wSign a_wBy a_wFell a_telling a_holds a_sizes a_elements a_moved a_above a_out a_first c_t (upd c_now 96 (((c_now 96) * (1103515245 : Int32)) + (12345 : Int32))))) rfl dX6_draw_21 (fun H locs hP hD hS => ?_)
  refine lv_aload_n hx hb dX6_draw_22 rfl (lv_at hl 0 rfl) ?_
  refine va_get (D := E.1) (ci := 6) (v := .ref a_now) (C := RX6) (T := TX6) (N := 26) hx hb hts iX6_draw_X6 hown hK hP 0 rfl rfl 1 (by decide) (hts (.fieldLink RX6 17 "LeftIsAgreedOnModel" "now" "[I") (List.mem_of_getElem? (i := 1) rfl)) (fun _ h9 => h9) rfl dX6_draw_23 ?_
  refine lv_bipush (v := (96 : Int32)) hx hb dX6_draw_26 (by decide) ?_
  refine ld_i X hP 1 rfl (inb.vp (by decide)) (v := ((upd c_now 96 (((c_now 96) * (1103515245 : Int32)) + (12345 : Int32))) 96)) rfl dX6_draw_28 ?_
  refine lv_bipush (v := (16 : Int32)) hx hb dX6_draw_29 (by decide) ?_
  refine lv_iushr (v := (((((upd c_now 96 (((c_now 96) * (1103515245 : Int32)) + (12345 : Int32))) 96)).toUInt32 >>> (((16 : Int32)).toUInt32 &&& Int32.toUInt32 31)).toInt32)) hx hb dX6_draw_31 rfl ?_
  refine lv_iload_n hx hb dX6_draw_32 rfl (lv_at hl 1 rfl) ?_
  obtain ⟨hz33, h⟩ := chk_of h
  refine lv_irem hx hb dX6_draw_33 hz33 ?_
  obtain rfl := Option.some.inj h
  exact ret_i X dX6_draw_34 hP hD hS rfl
end
set_option maxRecDepth 100000 in
theorem c_X6_draw (l : Launch) (E : Env0) (a_t : Nat) (a_now : Nat) (a_refused : Nat) (a_kept : Nat) (a_mind : Nat) (a_tape : Nat) (a_words : Nat) (a_wCell : Nat) (a_wFaces : Nat) (a_wTurns : Nat) (a_wSign : Nat) (a_wBy : Nat) (a_wFell : Nat) (a_telling : Nat) (a_holds : Nat) (a_sizes : Nat) (a_elements : Nat) (a_moved : Nat) (a_above : Nat) (a_out : Nat) (a_first : Nat) (l1 : Int32) (c_t : Nat → Int32) (c_now : Nat → Int32) (sz : Nat) (res : Int32 × (Nat → Int32)) (h : f_X6_draw l1 c_t c_now = some res) : Met l yX6_draw wsX6_draw r_X6_draw (cPre E [.ref a_t, .int l1] (W_X6_draw E a_t a_now a_refused a_kept a_mind a_tape a_words a_wCell a_wFaces a_wTurns a_wSign a_wBy a_wFell a_telling a_holds a_sizes a_elements a_moved a_above a_out a_first c_t c_now) sz) (qI E (va_A (W_X6_draw E a_t a_now a_refused a_kept a_mind a_tape a_words a_wCell a_wFaces a_wTurns a_wSign a_wBy a_wFell a_telling a_holds a_sizes a_elements a_moved a_above a_out a_first c_t c_now) sz) (res.1) (W_X6_draw E a_t a_now a_refused a_kept a_mind a_tape a_words a_wCell a_wFaces a_wTurns a_wSign a_wBy a_wFell a_telling a_holds a_sizes a_elements a_moved a_above a_out a_first c_t (res.2))) 0 0 (va_A (W_X6_draw E a_t a_now a_refused a_kept a_mind a_tape a_words a_wCell a_wFaces a_wTurns a_wSign a_wBy a_wFell a_telling a_holds a_sizes a_elements a_moved a_above a_out a_first c_t c_now) sz) :=
  met_of (Qc := fun A => qI E A (res.1) (W_X6_draw E a_t a_now a_refused a_kept a_mind a_tape a_words a_wCell a_wFaces a_wTurns a_wSign a_wBy a_wFell a_telling a_holds a_sizes a_elements a_moved a_above a_out a_first c_t (res.2))) (by decide) rfl (Nat.le_of_ble_eq_true rfl) (fun p e s m args below meth c X hP hD hS ls hl => w_X6_draw X a_t a_now a_refused a_kept a_mind a_tape a_words a_wCell a_wFaces a_wTurns a_wSign a_wBy a_wFell a_telling a_holds a_sizes a_elements a_moved a_above a_out a_first c_t res c_now l1 ls _ _ h hP hD hS hl)
-- ===== X6_years
abbrev W_X6_years (E : Env0) (a_t : Nat) (a_now : Nat) (a_refused : Nat) (a_kept : Nat) (a_mind : Nat) (a_tape : Nat) (a_words : Nat) (a_wCell : Nat) (a_wFaces : Nat) (a_wTurns : Nat) (a_wSign : Nat) (a_wBy : Nat) (a_wFell : Nat) (a_telling : Nat) (a_holds : Nat) (a_sizes : Nat) (a_elements : Nat) (a_moved : Nat) (a_above : Nat) (a_out : Nat) (a_first : Nat) (c_t : Nat → Int32) (c_now : Nat → Int32) (c_refused : Nat → Int32) : va_W := [(a_t, .inr (6, [.ref a_refused, .ref a_now, .ref a_kept, .ref a_mind, .int (c_t 4), .ref a_tape, .int (c_t 6), .int (c_t 7), .int (c_t 8), .int (c_t 9), .ref a_words, .ref a_wCell, .ref a_wFaces, .ref a_wTurns, .ref a_wSign, .ref a_wBy, .ref a_wFell, .int (c_t 17), .ref a_telling, .ref a_holds, .ref a_sizes, .ref a_elements, .ref a_moved, .ref a_above, .ref a_out, .ref a_first])), (a_now, .inl (eI E, 97, .inl c_now)), (a_refused, .inl (eI E, 7, .inl c_refused))]
abbrev r_X6_years : Room := { frames := 3, cells := 0, slots := 0, locals := 65 }
theorem hd_X6_years : yX6_years.cls ≠ "java/lang/invoke/MethodHandle" ∧ yX6_years.cls ≠ "java/lang/invoke/VarHandle" ∧ (parseMethodDescriptor yX6_years.desc).map (fun d => d.parameters.length) = some 1 := by decide +kernel
theorem hV_X6_years : yX6_years.cls = RX6 ∧ yX6_years.cls ≠ "java/lang/invoke/MethodHandle" ∧ yX6_years.cls ≠ "java/lang/invoke/VarHandle" ∧ (parseMethodDescriptor yX6_years.desc).map (fun d => d.parameters.length) = some 1 := ⟨rfl, hd_X6_years⟩
theorem iX6_years_X6 : ∀ w ∈ wsX60, w ∈ wsX6_years := fun _ h => List.mem_cons_of_mem _ (List.mem_append_right _ (h))
section
variable {p : Program} {l : Launch} {e : Env} {s : State} {m : MethodId} {args : Array Value} {below : List Frame} {meth : Method} {c : Code} {E : Env0} {A : Nat → Prop}
set_option maxRecDepth 100000 in
set_option maxHeartbeats 4000000 in
theorem w_X6_years_b98 (X : Ctx p m meth c cX6_years 5 ((some .int)) s args wsX6_years RX6 E A) (a_t : Nat) (a_now : Nat) (a_refused : Nat) (a_kept : Nat) (a_mind : Nat) (a_tape : Nat) (a_words : Nat) (a_wCell : Nat) (a_wFaces : Nat) (a_wTurns : Nat) (a_wSign : Nat) (a_wBy : Nat) (a_wFell : Nat) (a_telling : Nat) (a_holds : Nat) (a_sizes : Nat) (a_elements : Nat) (a_moved : Nat) (a_above : Nat) (a_out : Nat) (a_first : Nat) (c_t : Nat → Int32) (res : Int32 × (Nat → Int32) × (Nat → Int32)) (k21 : (Nat → Int32) → (Nat → Int32) → Int32 → Int32 → Option (Int32 × (Nat → Int32) × (Nat → Int32))) (hk21 : ∀ (c_now : Nat → Int32) (c_refused : Nat → Int32) (l1 : Int32) (l2 : Int32) (ls : Array Slot) (H : Heap) (locs : List Loc), k21 c_now c_refused l1 l2 = some res → va_P E.1 vwCl (W_X6_years E a_t a_now a_refused a_kept a_mind a_tape a_words a_wCell a_wFaces a_wTurns a_wSign a_wBy a_wFell a_telling a_holds a_sizes a_elements a_moved a_above a_out a_first c_t c_now c_refused) H → va_D A (W_X6_years E a_t a_now a_refused a_kept a_mind a_tape a_words a_wCell a_wFaces a_wTurns a_wSign a_wBy a_wFell a_telling a_holds a_sizes a_elements a_moved a_above a_out a_first c_t c_now c_refused) → va_S A s.heap H locs → lv_has ls 5 [(0, .ref a_t), (1, .int l1), (2, .int l2)] → W p l e r_X6_years s m args below meth c H locs 0 0 (MQ below (qI E A (res.1) (W_X6_years E a_t a_now a_refused a_kept a_mind a_tape a_words a_wCell a_wFaces a_wTurns a_wSign a_wBy a_wFell a_telling a_holds a_sizes a_elements a_moved a_above a_out a_first c_t (res.2.1) (res.2.2))) args s 0 0 A) (F0 m 21 ls [])) (k56 : (Nat → Int32) → (Nat → Int32) → Int32 → Int32 → Int32 → Option (Int32 × (Nat → Int32) × (Nat → Int32))) (hk56 : ∀ (c_now : Nat → Int32) (c_refused : Nat → Int32) (l1 : Int32) (l2 : Int32) (l4 : Int32) (ls : Array Slot) (H : Heap) (locs : List Loc), k56 c_now c_refused l1 l2 l4 = some res → va_P E.1 vwCl (W_X6_years E a_t a_now a_refused a_kept a_mind a_tape a_words a_wCell a_wFaces a_wTurns a_wSign a_wBy a_wFell a_telling a_holds a_sizes a_elements a_moved a_above a_out a_first c_t c_now c_refused) H → va_D A (W_X6_years E a_t a_now a_refused a_kept a_mind a_tape a_words a_wCell a_wFaces a_wTurns a_wSign a_wBy a_wFell a_telling a_holds a_sizes a_elements a_moved a_above a_out a_first c_t c_now c_refused) → va_S A s.heap H locs → lv_has ls 5 [(0, .ref a_t), (1, .int l1), (2, .int l2), (4, .int l4)] → W p l e r_X6_years s m args below meth c H locs 0 0 (MQ below (qI E A (res.1) (W_X6_years E a_t a_now a_refused a_kept a_mind a_tape a_words a_wCell a_wFaces a_wTurns a_wSign a_wBy a_wFell a_telling a_holds a_sizes a_elements a_moved a_above a_out a_first c_t (res.2.1) (res.2.2))) args s 0 0 A) (F0 m 56 ls [])) (c_now : Nat → Int32) (c_refused : Nat → Int32) (l1 : Int32) (l2 : Int32) (l4 : Int32) (s0 : Int32) (s1 : Int32) (s2 : Int32) (ls : Array Slot) (H : Heap) (locs : List Loc) (h : f_X6_years_b98 c_t k21 k56 c_now c_refused l1 l2 l4 s0 s1 s2 = some res) (hP : va_P E.1 vwCl (W_X6_years E a_t a_now a_refused a_kept a_mind a_tape a_words a_wCell a_wFaces a_wTurns a_wSign a_wBy a_wFell a_telling a_holds a_sizes a_elements a_moved a_above a_out a_first c_t c_now c_refused) H) (hD : va_D A (W_X6_years E a_t a_now a_refused a_kept a_mind a_tape a_words a_wCell a_wFaces a_wTurns a_wSign a_wBy a_wFell a_telling a_holds a_sizes a_elements a_moved a_above a_out a_first c_t c_now c_refused)) (hS : va_S A s.heap H locs) (hl : lv_has ls 5 [(0, .ref a_t), (1, .int l1), (2, .int l2), (4, .int l4)]) : W p l e r_X6_years s m args below meth c H locs 0 0 (MQ below (qI E A (res.1) (W_X6_years E a_t a_now a_refused a_kept a_mind a_tape a_words a_wCell a_wFaces a_wTurns a_wSign a_wBy a_wFell a_telling a_holds a_sizes a_elements a_moved a_above a_out a_first c_t (res.2.1) (res.2.2))) args s 0 0 A) (F0 m 98 ls [.int s0, .int s1, .int s2, .ref a_now]) := by
  obtain ⟨hx, hb, hml, hr, hlk, hown, hts, hG, hA⟩ := id X
  have hK := hG.1
  have hN := hG.2.1
  unfold f_X6_years_b98 at h
  refine lv_ixor hx hb dX6_years_98 ?_
  obtain ⟨hz99, h⟩ := chk_of h
  refine st_i X hP hD hS 1 rfl (inb.vp hz99) (k := (s2).toNatClampNeg) rfl (ws1 := (W_X6_years E a_t a_now a_refused a_kept a_mind a_tape a_words a_wCell a_wFaces a_wTurns a_wSign a_wBy a_wFell a_telling a_holds a_sizes a_elements a_moved a_above a_out a_first c_t (upd c_now ((s2).toNatClampNeg) (s1 ^^^ s0)) c_refused)) rfl dX6_years_99 (fun H locs hP hD hS => ?_)
  refine lv_iinc (v := (l4 + (1 : Int32))) (lv' := [(4, .int (l4 + (1 : Int32))), (0, .ref a_t), (1, .int l1), (2, .int l2)]) hx hb dX6_years_100 hl (k := 3) rfl rfl (by decide) rfl (fun ls hl => ?_)
  refine lv_goto (tgt := 56) hx hb dX6_years_103 (by decide) ?_
  exact hk56 (upd c_now ((s2).toNatClampNeg) (s1 ^^^ s0)) c_refused l1 l2 (l4 + (1 : Int32)) _ _ _ h hP hD hS (lv_sub hl [1, 2, 3, 0] rfl)
set_option maxRecDepth 100000 in
set_option maxHeartbeats 4000000 in
theorem w_X6_years_b56 (X : Ctx p m meth c cX6_years 5 ((some .int)) s args wsX6_years RX6 E A) (a_t : Nat) (a_now : Nat) (a_refused : Nat) (a_kept : Nat) (a_mind : Nat) (a_tape : Nat) (a_words : Nat) (a_wCell : Nat) (a_wFaces : Nat) (a_wTurns : Nat) (a_wSign : Nat) (a_wBy : Nat) (a_wFell : Nat) (a_telling : Nat) (a_holds : Nat) (a_sizes : Nat) (a_elements : Nat) (a_moved : Nat) (a_above : Nat) (a_out : Nat) (a_first : Nat) (c_t : Nat → Int32) (res : Int32 × (Nat → Int32) × (Nat → Int32)) (k21 : (Nat → Int32) → (Nat → Int32) → Int32 → Int32 → Option (Int32 × (Nat → Int32) × (Nat → Int32))) (hk21 : ∀ (c_now : Nat → Int32) (c_refused : Nat → Int32) (l1 : Int32) (l2 : Int32) (ls : Array Slot) (H : Heap) (locs : List Loc), k21 c_now c_refused l1 l2 = some res → va_P E.1 vwCl (W_X6_years E a_t a_now a_refused a_kept a_mind a_tape a_words a_wCell a_wFaces a_wTurns a_wSign a_wBy a_wFell a_telling a_holds a_sizes a_elements a_moved a_above a_out a_first c_t c_now c_refused) H → va_D A (W_X6_years E a_t a_now a_refused a_kept a_mind a_tape a_words a_wCell a_wFaces a_wTurns a_wSign a_wBy a_wFell a_telling a_holds a_sizes a_elements a_moved a_above a_out a_first c_t c_now c_refused) → va_S A s.heap H locs → lv_has ls 5 [(0, .ref a_t), (1, .int l1), (2, .int l2)] → W p l e r_X6_years s m args below meth c H locs 0 0 (MQ below (qI E A (res.1) (W_X6_years E a_t a_now a_refused a_kept a_mind a_tape a_words a_wCell a_wFaces a_wTurns a_wSign a_wBy a_wFell a_telling a_holds a_sizes a_elements a_moved a_above a_out a_first c_t (res.2.1) (res.2.2))) args s 0 0 A) (F0 m 21 ls [])) : ∀ (n : Nat) (c_now : Nat → Int32) (c_refused : Nat → Int32) (l1 : Int32) (l2 : Int32) (l4 : Int32) (ls : Array Slot) (H : Heap) (locs : List Loc), f_X6_years_b56 c_t k21 n c_now c_refused l1 l2 l4 = some res → va_P E.1 vwCl (W_X6_years E a_t a_now a_refused a_kept a_mind a_tape a_words a_wCell a_wFaces a_wTurns a_wSign a_wBy a_wFell a_telling a_holds a_sizes a_elements a_moved a_above a_out a_first c_t c_now c_refused) H → va_D A (W_X6_years E a_t a_now a_refused a_kept a_mind a_tape a_words a_wCell a_wFaces a_wTurns a_wSign a_wBy a_wFell a_telling a_holds a_sizes a_elements a_moved a_above a_out a_first c_t c_now c_refused) → va_S A s.heap H locs → lv_has ls 5 [(0, .ref a_t), (1, .int l1), (2, .int l2), (4, .int l4)] → W p l e r_X6_years s m args below meth c H locs 0 0 (MQ below (qI E A (res.1) (W_X6_years E a_t a_now a_refused a_kept a_mind a_tape a_words a_wCell a_wFaces a_wTurns a_wSign a_wBy a_wFell a_telling a_holds a_sizes a_elements a_moved a_above a_out a_first c_t (res.2.1) (res.2.2))) args s 0 0 A) (F0 m 56 ls []) := by
  obtain ⟨hx, hb, hml, hr, hlk, hown, hts, hG, hA⟩ := id X
  have hK := hG.1
  have hN := hG.2.1
  intro n
  induction n with
  | zero =>
    intro c_now c_refused l1 l2 l4 ls H locs h
    exact absurd (show (none : Option (Int32 × (Nat → Int32) × (Nat → Int32))) = some res from h) (by intro q; cases q)
  | succ n ih =>
    intro c_now c_refused l1 l2 l4 ls H locs h hP hD hS hl
    rw [f_X6_years_b56] at h
    refine lv_iload hx hb dX6_years_56 (lv_at hl 3 rfl) ?_
    refine lv_aload_n hx hb dX6_years_58 rfl (lv_at hl 0 rfl) ?_
    obtain ⟨v1, hv1, h⟩ := bind_of h
    refine after_i X (run_V X (c_X6_many l E a_t a_now a_refused a_kept a_mind a_tape a_words a_wCell a_wFaces a_wTurns a_wSign a_wBy a_wFell a_telling a_holds a_sizes a_elements a_moved a_above a_out a_first c_t c_now H.size v1 hv1) (cwV 0 hts gX6_years_X6_many rfl rfl rfl hV_X6_many ⟨(Nat.le_of_ble_eq_true rfl), (Nat.le_of_ble_eq_true rfl)⟩) hP hD hS [0, 1] rfl rfl hl.1 (ci := 6) rfl rfl rfl (rest := [.int l4]) rfl rfl (Nat.le_of_ble_eq_true rfl) dX6_years_59) hP hD hS [0, 1] [2] [1, 2, 0] rfl rfl rfl (by decide) rfl (ws1 := (W_X6_years E a_t a_now a_refused a_kept a_mind a_tape a_words a_wCell a_wFaces a_wTurns a_wSign a_wBy a_wFell a_telling a_holds a_sizes a_elements a_moved a_above a_out a_first c_t c_now c_refused)) rfl (fun H locs hP hD hS => ?_)
    refine lv_icmp_ge (tgt := 106) hx hb dX6_years_62 (by decide) (fun hc62 => ?_) (fun hc62 => ?_)
    · have h := if_t h hc62
      refine lv_aload_n hx hb dX6_years_106 rfl (lv_at hl 0 rfl) ?_
      refine va_get (D := E.1) (ci := 6) (v := .ref a_now) (C := RX6) (T := TX6) (N := 26) hx hb hts iX6_years_X6 hown hK hP 0 rfl rfl 1 (by decide) (hts (.fieldLink RX6 17 "LeftIsAgreedOnModel" "now" "[I") (List.mem_of_getElem? (i := 2) rfl)) (fun _ h9 => h9) rfl dX6_years_107 ?_
      refine lv_bipush (v := (94 : Int32)) hx hb dX6_years_110 (by decide) ?_
      refine lv_dup2_11 hx hb dX6_years_112 rfl rfl ?_
      refine ld_i X hP 1 rfl (inb.vp (by decide)) (v := (c_now 94)) rfl dX6_years_113 ?_
      refine lv_iconst (v := (1 : Int32)) hx hb dX6_years_114 (by decide) ?_
      refine lv_iadd hx hb dX6_years_115 ?_
      refine st_i X hP hD hS 1 rfl (inb.vp (by decide)) (k := 94) rfl (ws1 := (W_X6_years E a_t a_now a_refused a_kept a_mind a_tape a_words a_wCell a_wFaces a_wTurns a_wSign a_wBy a_wFell a_telling a_holds a_sizes a_elements a_moved a_above a_out a_first c_t (upd c_now 94 ((c_now 94) + (1 : Int32))) c_refused)) rfl dX6_years_116 (fun H locs hP hD hS => ?_)
      refine lv_iinc (v := (l2 + (1 : Int32))) (lv' := [(2, .int (l2 + (1 : Int32))), (0, .ref a_t), (1, .int l1), (4, .int l4)]) hx hb dX6_years_117 hl (k := 2) rfl rfl (by decide) rfl (fun ls hl => ?_)
      refine lv_goto (tgt := 21) hx hb dX6_years_120 (by decide) ?_
      exact hk21 (upd c_now 94 ((c_now 94) + (1 : Int32))) c_refused l1 (l2 + (1 : Int32)) _ _ _ h hP hD hS (lv_sub hl [1, 2, 0] rfl)
    · have h := if_f h hc62
      refine lv_aload_n hx hb dX6_years_65 rfl (lv_at hl 0 rfl) ?_
      refine va_get (D := E.1) (ci := 6) (v := .ref a_now) (C := RX6) (T := TX6) (N := 26) hx hb hts iX6_years_X6 hown hK hP 0 rfl rfl 1 (by decide) (hts (.fieldLink RX6 17 "LeftIsAgreedOnModel" "now" "[I") (List.mem_of_getElem? (i := 2) rfl)) (fun _ h9 => h9) rfl dX6_years_66 ?_
      refine lv_iconst (v := (5 : Int32)) hx hb dX6_years_69 (by decide) ?_
      refine lv_iload hx hb dX6_years_70 (lv_at hl 3 rfl) ?_
      refine lv_imul hx hb dX6_years_72 ?_
      refine lv_iconst (v := (4 : Int32)) hx hb dX6_years_73 (by decide) ?_
      refine lv_iadd hx hb dX6_years_74 ?_
      refine lv_dup2_11 hx hb dX6_years_75 rfl rfl ?_
      obtain ⟨hz76, h⟩ := chk_of h
      refine ld_i X hP 1 rfl (inb.vp hz76) (v := (c_now ((((5 : Int32) * l4) + (4 : Int32))).toNatClampNeg)) rfl dX6_years_76 ?_
      refine lv_aload_n hx hb dX6_years_77 rfl (lv_at hl 0 rfl) ?_
      refine lv_bipush (v := (12 : Int32)) hx hb dX6_years_78 (by decide) ?_
      obtain ⟨v2, hv2, h⟩ := bind_of h
      refine after_i X (run_V X (c_X6_draw l E a_t a_now a_refused a_kept a_mind a_tape a_words a_wCell a_wFaces a_wTurns a_wSign a_wBy a_wFell a_telling a_holds a_sizes a_elements a_moved a_above a_out a_first (12 : Int32) c_t c_now H.size v2 hv2) (cwV 1 hts gX6_years_X6_draw rfl rfl rfl hV_X6_draw ⟨(Nat.le_of_ble_eq_true rfl), (Nat.le_of_ble_eq_true rfl)⟩) hP hD hS [0, 1] rfl rfl hl.1 (ci := 6) rfl rfl rfl (rest := [.int (c_now ((((5 : Int32) * l4) + (4 : Int32))).toNatClampNeg), .int (((5 : Int32) * l4) + (4 : Int32)), .ref a_now]) rfl rfl (Nat.le_of_ble_eq_true rfl) dX6_years_80) hP hD hS [0, 1] [2] [1, 2, 0] rfl rfl rfl (by decide) rfl (ws1 := (W_X6_years E a_t a_now a_refused a_kept a_mind a_tape a_words a_wCell a_wFaces a_wTurns a_wSign a_wBy a_wFell a_telling a_holds a_sizes a_elements a_moved a_above a_out a_first c_t (v2.2) c_refused)) rfl (fun H locs hP hD hS => ?_)
      refine lv_aload_n hx hb dX6_years_83 rfl (lv_at hl 0 rfl) ?_
      refine va_get (D := E.1) (ci := 6) (v := .ref a_now) (C := RX6) (T := TX6) (N := 26) hx hb hts iX6_years_X6 hown hK hP 0 rfl rfl 1 (by decide) (hts (.fieldLink RX6 17 "LeftIsAgreedOnModel" "now" "[I") (List.mem_of_getElem? (i := 2) rfl)) (fun _ h9 => h9) rfl dX6_years_84 ?_
      refine lv_bipush (v := (93 : Int32)) hx hb dX6_years_87 (by decide) ?_
      refine ld_i X hP 1 rfl (inb.vp (by decide)) (v := ((v2.2) 93)) rfl dX6_years_89 ?_
      refine lv_icmp_ge (tgt := 97) hx hb dX6_years_90 (by decide) (fun hc90 => ?_) (fun hc90 => ?_)
      · have h := if_t h hc90
        refine lv_iconst (v := (0 : Int32)) hx hb dX6_years_97 (by decide) ?_
        exact w_X6_years_b98 X a_t a_now a_refused a_kept a_mind a_tape a_words a_wCell a_wFaces a_wTurns a_wSign a_wBy a_wFell a_telling a_holds a_sizes a_elements a_moved a_above a_out a_first c_t res k21 hk21 (f_X6_years_b56 c_t k21 n) ih (v2.2) c_refused l1 l2 l4 (0 : Int32) (c_now ((((5 : Int32) * l4) + (4 : Int32))).toNatClampNeg) (((5 : Int32) * l4) + (4 : Int32)) _ _ _ h hP hD hS (lv_sub hl [0, 1, 2, 3] rfl)
      · have h := if_f h hc90
        refine lv_iconst (v := (1 : Int32)) hx hb dX6_years_93 (by decide) ?_
        refine lv_goto (tgt := 98) hx hb dX6_years_94 (by decide) ?_
        exact w_X6_years_b98 X a_t a_now a_refused a_kept a_mind a_tape a_words a_wCell a_wFaces a_wTurns a_wSign a_wBy a_wFell a_telling a_holds a_sizes a_elements a_moved a_above a_out a_first c_t res k21 hk21 (f_X6_years_b56 c_t k21 n) ih (v2.2) c_refused l1 l2 l4 (1 : Int32) (c_now ((((5 : Int32) * l4) + (4 : Int32))).toNatClampNeg) (((5 : Int32) * l4) + (4 : Int32)) _ _ _ h hP hD hS (lv_sub hl [0, 1, 2, 3] rfl)
set_option maxRecDepth 100000 in
set_option maxHeartbeats 4000000 in
theorem w_X6_years_b21 (X : Ctx p m meth c cX6_years 5 ((some .int)) s args wsX6_years RX6 E A) (a_t : Nat) (a_now : Nat) (a_refused : Nat) (a_kept : Nat) (a_mind : Nat) (a_tape : Nat) (a_words : Nat) (a_wCell : Nat) (a_wFaces : Nat) (a_wTurns : Nat) (a_wSign : Nat) (a_wBy : Nat) (a_wFell : Nat) (a_telling : Nat) (a_holds : Nat) (a_sizes : Nat) (a_elements : Nat) (a_moved : Nat) (a_above : Nat) (a_out : Nat) (a_first : Nat) (c_t : Nat → Int32) (res : Int32 × (Nat → Int32) × (Nat → Int32)) : ∀ (n : Nat) (c_now : Nat → Int32) (c_refused : Nat → Int32) (l1 : Int32) (l2 : Int32) (ls : Array Slot) (H : Heap) (locs : List Loc), f_X6_years_b21 c_t n c_now c_refused l1 l2 = some res → va_P E.1 vwCl (W_X6_years E a_t a_now a_refused a_kept a_mind a_tape a_words a_wCell a_wFaces a_wTurns a_wSign a_wBy a_wFell a_telling a_holds a_sizes a_elements a_moved a_above a_out a_first c_t c_now c_refused) H → va_D A (W_X6_years E a_t a_now a_refused a_kept a_mind a_tape a_words a_wCell a_wFaces a_wTurns a_wSign a_wBy a_wFell a_telling a_holds a_sizes a_elements a_moved a_above a_out a_first c_t c_now c_refused) → va_S A s.heap H locs → lv_has ls 5 [(0, .ref a_t), (1, .int l1), (2, .int l2)] → W p l e r_X6_years s m args below meth c H locs 0 0 (MQ below (qI E A (res.1) (W_X6_years E a_t a_now a_refused a_kept a_mind a_tape a_words a_wCell a_wFaces a_wTurns a_wSign a_wBy a_wFell a_telling a_holds a_sizes a_elements a_moved a_above a_out a_first c_t (res.2.1) (res.2.2))) args s 0 0 A) (F0 m 21 ls []) := by
  obtain ⟨hx, hb, hml, hr, hlk, hown, hts, hG, hA⟩ := id X
  have hK := hG.1
  have hN := hG.2.1
  intro n
  induction n with
  | zero =>
    intro c_now c_refused l1 l2 ls H locs h
    exact absurd (show (none : Option (Int32 × (Nat → Int32) × (Nat → Int32))) = some res from h) (by intro q; cases q)
  | succ n ih =>
    intro c_now c_refused l1 l2 ls H locs h hP hD hS hl
    rw [f_X6_years_b21] at h
    refine lv_iload_n hx hb dX6_years_21 rfl (lv_at hl 2 rfl) ?_
    refine lv_iload_n hx hb dX6_years_22 rfl (lv_at hl 1 rfl) ?_
    refine lv_icmp_ge (tgt := 123) hx hb dX6_years_23 (by decide) (fun hc23 => ?_) (fun hc23 => ?_)
    · have h := if_t h hc23
      refine lv_aload_n hx hb dX6_years_123 rfl (lv_at hl 0 rfl) ?_
      refine va_get (D := E.1) (ci := 6) (v := .ref a_now) (C := RX6) (T := TX6) (N := 26) hx hb hts iX6_years_X6 hown hK hP 0 rfl rfl 1 (by decide) (hts (.fieldLink RX6 17 "LeftIsAgreedOnModel" "now" "[I") (List.mem_of_getElem? (i := 2) rfl)) (fun _ h9 => h9) rfl dX6_years_124 ?_
      refine lv_bipush (v := (91 : Int32)) hx hb dX6_years_127 (by decide) ?_
      refine ld_i X hP 1 rfl (inb.vp (by decide)) (v := (c_now 91)) rfl dX6_years_129 ?_
      obtain rfl := Option.some.inj h
      exact ret_i X dX6_years_130 hP hD hS rfl
    · have h := if_f h hc23
      refine lv_aload_n hx hb dX6_years_26 rfl (lv_at hl 0 rfl) ?_
      obtain ⟨v1, hv1, h⟩ := bind_of h
      refine after_i X (run_V X (c_X6_carries l E a_t a_now a_refused a_kept a_mind a_tape a_words a_wCell a_wFaces a_wTurns a_wSign a_wBy a_wFell a_telling a_holds a_sizes a_elements a_moved a_above a_out a_first c_t c_now H.size v1 hv1) (cwV 0 hts gX6_years_X6_carries rfl rfl rfl hV_X6_carries ⟨(Nat.le_of_ble_eq_true rfl), (Nat.le_of_ble_eq_true rfl)⟩) hP hD hS [0, 1] rfl rfl hl.1 (ci := 6) rfl rfl rfl (rest := []) rfl rfl (Nat.le_of_ble_eq_true rfl) dX6_years_27) hP hD hS [0, 1] [2] [1, 2, 0] rfl rfl rfl (by decide) rfl (ws1 := (W_X6_years E a_t a_now a_refused a_kept a_mind a_tape a_words a_wCell a_wFaces a_wTurns a_wSign a_wBy a_wFell a_telling a_holds a_sizes a_elements a_moved a_above a_out a_first c_t c_now c_refused)) rfl (fun H locs hP hD hS => ?_)
      refine lv_istore_n (lv' := [(3, .int v1), (0, .ref a_t), (1, .int l1), (2, .int l2)]) hx hb dX6_years_30 rfl hl (by decide) rfl (fun ls hl => ?_)
      refine lv_aload_n hx hb dX6_years_31 rfl (lv_at hl 1 rfl) ?_
      refine va_get (D := E.1) (ci := 6) (v := .ref a_now) (C := RX6) (T := TX6) (N := 26) hx hb hts iX6_years_X6 hown hK hP 0 rfl rfl 1 (by decide) (hts (.fieldLink RX6 17 "LeftIsAgreedOnModel" "now" "[I") (List.mem_of_getElem? (i := 2) rfl)) (fun _ h9 => h9) rfl dX6_years_32 ?_
      refine lv_bipush (v := (92 : Int32)) hx hb dX6_years_35 (by decide) ?_
      refine lv_aload_n hx hb dX6_years_37 rfl (lv_at hl 1 rfl) ?_
      refine va_get (D := E.1) (ci := 6) (v := .ref a_now) (C := RX6) (T := TX6) (N := 26) hx hb hts iX6_years_X6 hown hK hP 0 rfl rfl 1 (by decide) (hts (.fieldLink RX6 17 "LeftIsAgreedOnModel" "now" "[I") (List.mem_of_getElem? (i := 2) rfl)) (fun _ h9 => h9) rfl dX6_years_38 ?_
      refine lv_bipush (v := (91 : Int32)) hx hb dX6_years_41 (by decide) ?_
      refine ld_i X hP 1 rfl (inb.vp (by decide)) (v := (c_now 91)) rfl dX6_years_43 ?_
      refine st_i X hP hD hS 1 rfl (inb.vp (by decide)) (k := 92) rfl (ws1 := (W_X6_years E a_t a_now a_refused a_kept a_mind a_tape a_words a_wCell a_wFaces a_wTurns a_wSign a_wBy a_wFell a_telling a_holds a_sizes a_elements a_moved a_above a_out a_first c_t (upd c_now 92 (c_now 91)) c_refused)) rfl dX6_years_44 (fun H locs hP hD hS => ?_)
      refine lv_aload_n hx hb dX6_years_45 rfl (lv_at hl 1 rfl) ?_
      refine va_get (D := E.1) (ci := 6) (v := .ref a_now) (C := RX6) (T := TX6) (N := 26) hx hb hts iX6_years_X6 hown hK hP 0 rfl rfl 1 (by decide) (hts (.fieldLink RX6 17 "LeftIsAgreedOnModel" "now" "[I") (List.mem_of_getElem? (i := 2) rfl)) (fun _ h9 => h9) rfl dX6_years_46 ?_
      refine lv_bipush (v := (91 : Int32)) hx hb dX6_years_49 (by decide) ?_
      refine lv_iload_n hx hb dX6_years_51 rfl (lv_at hl 0 rfl) ?_
      refine st_i X hP hD hS 1 rfl (inb.vp (by decide)) (k := 91) rfl (ws1 := (W_X6_years E a_t a_now a_refused a_kept a_mind a_tape a_words a_wCell a_wFaces a_wTurns a_wSign a_wBy a_wFell a_telling a_holds a_sizes a_elements a_moved a_above a_out a_first c_t (upd (upd c_now 92 (c_now 91)) 91 v1) c_refused)) rfl dX6_years_52 (fun H locs hP hD hS => ?_)
      refine lv_iconst (v := (0 : Int32)) hx hb dX6_years_53 (by decide) ?_
      refine lv_istore (lv' := [(4, .int (0 : Int32)), (3, .int v1), (0, .ref a_t), (1, .int l1), (2, .int l2)]) hx hb dX6_years_54 hl (by decide) rfl (fun ls hl => ?_)
      exact w_X6_years_b56 X a_t a_now a_refused a_kept a_mind a_tape a_words a_wCell a_wFaces a_wTurns a_wSign a_wBy a_wFell a_telling a_holds a_sizes a_elements a_moved a_above a_out a_first c_t res (f_X6_years_b21 c_t n) ih FU (upd (upd c_now 92 (c_now 91)) 91 v1) c_refused l1 l2 (0 : Int32) _ _ _ h hP hD hS (lv_sub hl [2, 3, 4, 0] rfl)
set_option maxRecDepth 100000 in
set_option maxHeartbeats 4000000 in
theorem w_X6_years (X : Ctx p m meth c cX6_years 5 ((some .int)) s args wsX6_years RX6 E A) (a_t : Nat) (a_now : Nat) (a_refused : Nat) (a_kept : Nat) (a_mind : Nat) (a_tape : Nat) (a_words : Nat) (a_wCell : Nat) (a_wFaces : Nat) (a_wTurns : Nat) (a_wSign : Nat) (a_wBy : Nat) (a_wFell : Nat) (a_telling : Nat) (a_holds : Nat) (a_sizes : Nat) (a_elements : Nat) (a_moved : Nat) (a_above : Nat) (a_out : Nat) (a_first : Nat) (c_t : Nat → Int32) (res : Int32 × (Nat → Int32) × (Nat → Int32)) (c_now : Nat → Int32) (c_refused : Nat → Int32) (l1 : Int32) (ls : Array Slot) (H : Heap) (locs : List Loc) (h : f_X6_years l1 c_t c_now c_refused = some res) (hP : va_P E.1 vwCl (W_X6_years E a_t a_now a_refused a_kept a_mind a_tape a_words a_wCell a_wFaces a_wTurns a_wSign a_wBy a_wFell a_telling a_holds a_sizes a_elements a_moved a_above a_out a_first c_t c_now c_refused) H) (hD : va_D A (W_X6_years E a_t a_now a_refused a_kept a_mind a_tape a_words a_wCell a_wFaces a_wTurns a_wSign a_wBy a_wFell a_telling a_holds a_sizes a_elements a_moved a_above a_out a_first c_t c_now c_refused)) (hS : va_S A s.heap H locs) (hl : lv_has ls 5 [(0, .ref a_t), (1, .int l1)]) : W p l e r_X6_years s m args below meth c H locs 0 0 (MQ below (qI E A (res.1) (W_X6_years E a_t a_now a_refused a_kept a_mind a_tape a_words a_wCell a_wFaces a_wTurns a_wSign a_wBy a_wFell a_telling a_holds a_sizes a_elements a_moved a_above a_out a_first c_t (res.2.1) (res.2.2))) args s 0 0 A) (F0 m 0 ls []) := by
  obtain ⟨hx, hb, hml, hr, hlk, hown, hts, hG, hA⟩ := id X
  have hK := hG.1
  have hN := hG.2.1
  unfold f_X6_years at h
  refine lv_iload_n hx hb dX6_years_0 rfl (lv_at hl 1 rfl) ?_
  refine lv_i2l (v := (l1.toInt64)) hx hb dX6_years_1 rfl ?_
  refine lv_lconst (v := (1 : Int64)) hx hb dX6_years_2 (by decide) ?_
  refine lv_ldc2 (v := (60 : Int64)) hx hb hown (hts (.constantLong RX6 274 (60)) (List.mem_of_getElem? (i := 1) rfl)) dX6_years_3 ?_
  obtain ⟨v1, hv1, h⟩ := bind_of h
  refine after_i X (run_S X (c_X6_isIn l E (l1.toInt64) (1 : Int64) (60 : Int64) H.size v1 hv1) (va_cwS 3 hts gX6_years_X6_isIn rfl rfl rfl hd_X6_isIn ⟨(Nat.le_of_ble_eq_true rfl), (Nat.le_of_ble_eq_true rfl)⟩) hP hD hS [] rfl rfl hl.1 (rest := []) rfl rfl (Nat.le_of_ble_eq_true rfl) dX6_years_6) hP hD hS [] [0, 1, 2] [0, 1, 2] rfl rfl rfl (by decide) rfl (ws1 := (W_X6_years E a_t a_now a_refused a_kept a_mind a_tape a_words a_wCell a_wFaces a_wTurns a_wSign a_wBy a_wFell a_telling a_holds a_sizes a_elements a_moved a_above a_out a_first c_t c_now c_refused)) rfl (fun H locs hP hD hS => ?_)
  refine lv_if_ne (tgt := 19) hx hb dX6_years_9 (by decide) (fun hc9 => ?_) (fun hc9 => ?_)
  · have h := if_f h hc9
    refine lv_iconst (v := (0 : Int32)) hx hb dX6_years_19 (by decide) ?_
    refine lv_istore_n (lv' := [(2, .int (0 : Int32)), (0, .ref a_t), (1, .int l1)]) hx hb dX6_years_20 rfl hl (by decide) rfl (fun ls hl => ?_)
    exact w_X6_years_b21 X a_t a_now a_refused a_kept a_mind a_tape a_words a_wCell a_wFaces a_wTurns a_wSign a_wBy a_wFell a_telling a_holds a_sizes a_elements a_moved a_above a_out a_first c_t res FU c_now c_refused l1 (0 : Int32) _ _ _ h hP hD hS (lv_sub hl [1, 2, 0] rfl)
  · have h := if_t h hc9
    refine lv_aload_n hx hb dX6_years_12 rfl (lv_at hl 0 rfl) ?_
    refine lv_bipush (v := (-2 : Int32)) hx hb dX6_years_13 (by decide) ?_
    obtain ⟨v2, hv2, h⟩ := bind_of h
    refine after_i X (run_V X (c_X6_refuse l E a_t a_refused a_now a_kept a_mind a_tape a_words a_wCell a_wFaces a_wTurns a_wSign a_wBy a_wFell a_telling a_holds a_sizes a_elements a_moved a_above a_out a_first (-2 : Int32) c_t c_refused H.size v2 hv2) (cwV 1 hts gX6_years_X6_refuse rfl rfl rfl hV_X6_refuse ⟨(Nat.le_of_ble_eq_true rfl), (Nat.le_of_ble_eq_true rfl)⟩) hP hD hS [0, 2] rfl rfl hl.1 (ci := 6) rfl rfl rfl (rest := []) rfl rfl (Nat.le_of_ble_eq_true rfl) dX6_years_15) hP hD hS [0, 2] [1] [1, 0, 2] rfl rfl rfl (by decide) rfl (ws1 := (W_X6_years E a_t a_now a_refused a_kept a_mind a_tape a_words a_wCell a_wFaces a_wTurns a_wSign a_wBy a_wFell a_telling a_holds a_sizes a_elements a_moved a_above a_out a_first c_t c_now (v2.2))) rfl (fun H locs hP hD hS => ?_)
    obtain rfl := Option.some.inj h
    exact ret_i X dX6_years_18 hP hD hS rfl
end
set_option maxRecDepth 100000 in
theorem c_X6_years (l : Launch) (E : Env0) (a_t : Nat) (a_now : Nat) (a_refused : Nat) (a_kept : Nat) (a_mind : Nat) (a_tape : Nat) (a_words : Nat) (a_wCell : Nat) (a_wFaces : Nat) (a_wTurns : Nat) (a_wSign : Nat) (a_wBy : Nat) (a_wFell : Nat) (a_telling : Nat) (a_holds : Nat) (a_sizes : Nat) (a_elements : Nat) (a_moved : Nat) (a_above : Nat) (a_out : Nat) (a_first : Nat) (l1 : Int32) (c_t : Nat → Int32) (c_now : Nat → Int32) (c_refused : Nat → Int32) (sz : Nat) (res : Int32 × (Nat → Int32) × (Nat → Int32)) (h : f_X6_years l1 c_t c_now c_refused = some res) : Met l yX6_years wsX6_years r_X6_years (cPre E [.ref a_t, .int l1] (W_X6_years E a_t a_now a_refused a_kept a_mind a_tape a_words a_wCell a_wFaces a_wTurns a_wSign a_wBy a_wFell a_telling a_holds a_sizes a_elements a_moved a_above a_out a_first c_t c_now c_refused) sz) (qI E (va_A (W_X6_years E a_t a_now a_refused a_kept a_mind a_tape a_words a_wCell a_wFaces a_wTurns a_wSign a_wBy a_wFell a_telling a_holds a_sizes a_elements a_moved a_above a_out a_first c_t c_now c_refused) sz) (res.1) (W_X6_years E a_t a_now a_refused a_kept a_mind a_tape a_words a_wCell a_wFaces a_wTurns a_wSign a_wBy a_wFell a_telling a_holds a_sizes a_elements a_moved a_above a_out a_first c_t (res.2.1) (res.2.2))) 0 0 (va_A (W_X6_years E a_t a_now a_refused a_kept a_mind a_tape a_words a_wCell a_wFaces a_wTurns a_wSign a_wBy a_wFell a_telling a_holds a_sizes a_elements a_moved a_above a_out a_first c_t c_now c_refused) sz) :=
  met_of (Qc := fun A => qI E A (res.1) (W_X6_years E a_t a_now a_refused a_kept a_mind a_tape a_words a_wCell a_wFaces a_wTurns a_wSign a_wBy a_wFell a_telling a_holds a_sizes a_elements a_moved a_above a_out a_first c_t (res.2.1) (res.2.2))) (by decide) rfl (Nat.le_of_ble_eq_true rfl) (fun p e s m args below meth c X hP hD hS ls hl => w_X6_years X a_t a_now a_refused a_kept a_mind a_tape a_words a_wCell a_wFaces a_wTurns a_wSign a_wBy a_wFell a_telling a_holds a_sizes a_elements a_moved a_above a_out a_first c_t res c_now c_refused l1 ls _ _ h hP hD hS hl)
-- ===== X6_seed
abbrev W_X6_seed (E : Env0) (a_t : Nat) (a_now : Nat) (a_refused : Nat) (a_kept : Nat) (a_mind : Nat) (a_tape : Nat) (a_words : Nat) (a_wCell : Nat) (a_wFaces : Nat) (a_wTurns : Nat) (a_wSign : Nat) (a_wBy : Nat) (a_wFell : Nat) (a_telling : Nat) (a_holds : Nat) (a_sizes : Nat) (a_elements : Nat) (a_moved : Nat) (a_above : Nat) (a_out : Nat) (a_first : Nat) (c_t : Nat → Int32) (c_now : Nat → Int32) : va_W := [(a_t, .inr (6, [.ref a_refused, .ref a_now, .ref a_kept, .ref a_mind, .int (c_t 4), .ref a_tape, .int (c_t 6), .int (c_t 7), .int (c_t 8), .int (c_t 9), .ref a_words, .ref a_wCell, .ref a_wFaces, .ref a_wTurns, .ref a_wSign, .ref a_wBy, .ref a_wFell, .int (c_t 17), .ref a_telling, .ref a_holds, .ref a_sizes, .ref a_elements, .ref a_moved, .ref a_above, .ref a_out, .ref a_first])), (a_now, .inl (eI E, 97, .inl c_now))]
abbrev r_X6_seed : Room := { frames := 0, cells := 0, slots := 0, locals := 0 }
theorem hd_X6_seed : yX6_seed.cls ≠ "java/lang/invoke/MethodHandle" ∧ yX6_seed.cls ≠ "java/lang/invoke/VarHandle" ∧ (parseMethodDescriptor yX6_seed.desc).map (fun d => d.parameters.length) = some 1 := by decide +kernel
theorem hV_X6_seed : yX6_seed.cls = RX6 ∧ yX6_seed.cls ≠ "java/lang/invoke/MethodHandle" ∧ yX6_seed.cls ≠ "java/lang/invoke/VarHandle" ∧ (parseMethodDescriptor yX6_seed.desc).map (fun d => d.parameters.length) = some 1 := ⟨rfl, hd_X6_seed⟩
theorem iX6_seed_X6 : ∀ w ∈ wsX60, w ∈ wsX6_seed := fun _ h => List.mem_cons_of_mem _ (List.mem_append_right _ (h))
section
variable {p : Program} {l : Launch} {e : Env} {s : State} {m : MethodId} {args : Array Value} {below : List Frame} {meth : Method} {c : Code} {E : Env0} {A : Nat → Prop}
set_option maxRecDepth 100000 in
set_option maxHeartbeats 4000000 in
theorem w_X6_seed (X : Ctx p m meth c cX6_seed 3 ((some .int)) s args wsX6_seed RX6 E A) (a_t : Nat) (a_now : Nat) (a_refused : Nat) (a_kept : Nat) (a_mind : Nat) (a_tape : Nat) (a_words : Nat) (a_wCell : Nat) (a_wFaces : Nat) (a_wTurns : Nat) (a_wSign : Nat) (a_wBy : Nat) (a_wFell : Nat) (a_telling : Nat) (a_holds : Nat) (a_sizes : Nat) (a_elements : Nat) (a_moved : Nat) (a_above : Nat) (a_out : Nat) (a_first : Nat) (c_t : Nat → Int32) (res : Int32 × (Nat → Int32)) (c_now : Nat → Int32) (l1 : Int32) (ls : Array Slot) (H : Heap) (locs : List Loc) (h : f_X6_seed l1 c_t c_now = some res) (hP : va_P E.1 vwCl (W_X6_seed E a_t a_now a_refused a_kept a_mind a_tape a_words a_wCell a_wFaces a_wTurns a_wSign a_wBy a_wFell a_telling a_holds a_sizes a_elements a_moved a_above a_out a_first c_t c_now) H) (hD : va_D A (W_X6_seed E a_t a_now a_refused a_kept a_mind a_tape a_words a_wCell a_wFaces a_wTurns a_wSign a_wBy a_wFell a_telling a_holds a_sizes a_elements a_moved a_above a_out a_first c_t c_now)) (hS : va_S A s.heap H locs) (hl : lv_has ls 3 [(0, .ref a_t), (1, .int l1)]) : W p l e r_X6_seed s m args below meth c H locs 0 0 (MQ below (qI E A (res.1) (W_X6_seed E a_t a_now a_refused a_kept a_mind a_tape a_words a_wCell a_wFaces a_wTurns a_wSign a_wBy a_wFell a_telling a_holds a_sizes a_elements a_moved a_above a_out a_first c_t (res.2))) args s 0 0 A) (F0 m 0 ls []) := by
  obtain ⟨hx, hb, hml, hr, hlk, hown, hts, hG, hA⟩ := id X
  have hK := hG.1
  have hN := hG.2.1
  unfold f_X6_seed at h
  refine lv_aload_n hx hb dX6_seed_0 rfl (lv_at hl 0 rfl) ?_
  refine va_get (D := E.1) (ci := 6) (v := .ref a_now) (C := RX6) (T := TX6) (N := 26) hx hb hts iX6_seed_X6 hown hK hP 0 rfl rfl 1 (by decide) (hts (.fieldLink RX6 17 "LeftIsAgreedOnModel" "now" "[I") (List.mem_of_getElem? (i := 1) rfl)) (fun _ h9 => h9) rfl dX6_seed_1 ?_
  refine lv_bipush (v := (96 : Int32)) hx hb dX6_seed_4 (by decide) ?_
  refine ld_i X hP 1 rfl (inb.vp (by decide)) (v := (c_now 96)) rfl dX6_seed_6 ?_
  refine lv_istore_n (lv' := [(2, .int (c_now 96)), (0, .ref a_t), (1, .int l1)]) hx hb dX6_seed_7 rfl hl (by decide) rfl (fun ls hl => ?_)
  refine lv_aload_n hx hb dX6_seed_8 rfl (lv_at hl 1 rfl) ?_
  refine va_get (D := E.1) (ci := 6) (v := .ref a_now) (C := RX6) (T := TX6) (N := 26) hx hb hts iX6_seed_X6 hown hK hP 0 rfl rfl 1 (by decide) (hts (.fieldLink RX6 17 "LeftIsAgreedOnModel" "now" "[I") (List.mem_of_getElem? (i := 1) rfl)) (fun _ h9 => h9) rfl dX6_seed_9 ?_
  refine lv_bipush (v := (96 : Int32)) hx hb dX6_seed_12 (by decide) ?_
  refine lv_iload_n hx hb dX6_seed_14 rfl (lv_at hl 2 rfl) ?_
  refine st_i X hP hD hS 1 rfl (inb.vp (by decide)) (k := 96) rfl (ws1 := (W_X6_seed E a_t a_now a_refused a_kept a_mind a_tape a_words a_wCell a_wFaces a_wTurns a_wSign a_wBy a_wFell a_telling a_holds a_sizes a_elements a_moved a_above a_out a_first c_t (upd c_now 96 l1))) rfl dX6_seed_15 (fun H locs hP hD hS => ?_)
  refine lv_iload_n hx hb dX6_seed_16 rfl (lv_at hl 0 rfl) ?_
  obtain rfl := Option.some.inj h
  exact ret_i X dX6_seed_17 hP hD hS rfl
end
set_option maxRecDepth 100000 in
theorem c_X6_seed (l : Launch) (E : Env0) (a_t : Nat) (a_now : Nat) (a_refused : Nat) (a_kept : Nat) (a_mind : Nat) (a_tape : Nat) (a_words : Nat) (a_wCell : Nat) (a_wFaces : Nat) (a_wTurns : Nat) (a_wSign : Nat) (a_wBy : Nat) (a_wFell : Nat) (a_telling : Nat) (a_holds : Nat) (a_sizes : Nat) (a_elements : Nat) (a_moved : Nat) (a_above : Nat) (a_out : Nat) (a_first : Nat) (l1 : Int32) (c_t : Nat → Int32) (c_now : Nat → Int32) (sz : Nat) (res : Int32 × (Nat → Int32)) (h : f_X6_seed l1 c_t c_now = some res) : Met l yX6_seed wsX6_seed r_X6_seed (cPre E [.ref a_t, .int l1] (W_X6_seed E a_t a_now a_refused a_kept a_mind a_tape a_words a_wCell a_wFaces a_wTurns a_wSign a_wBy a_wFell a_telling a_holds a_sizes a_elements a_moved a_above a_out a_first c_t c_now) sz) (qI E (va_A (W_X6_seed E a_t a_now a_refused a_kept a_mind a_tape a_words a_wCell a_wFaces a_wTurns a_wSign a_wBy a_wFell a_telling a_holds a_sizes a_elements a_moved a_above a_out a_first c_t c_now) sz) (res.1) (W_X6_seed E a_t a_now a_refused a_kept a_mind a_tape a_words a_wCell a_wFaces a_wTurns a_wSign a_wBy a_wFell a_telling a_holds a_sizes a_elements a_moved a_above a_out a_first c_t (res.2))) 0 0 (va_A (W_X6_seed E a_t a_now a_refused a_kept a_mind a_tape a_words a_wCell a_wFaces a_wTurns a_wSign a_wBy a_wFell a_telling a_holds a_sizes a_elements a_moved a_above a_out a_first c_t c_now) sz) :=
  met_of (Qc := fun A => qI E A (res.1) (W_X6_seed E a_t a_now a_refused a_kept a_mind a_tape a_words a_wCell a_wFaces a_wTurns a_wSign a_wBy a_wFell a_telling a_holds a_sizes a_elements a_moved a_above a_out a_first c_t (res.2))) (by decide) rfl (Nat.le_of_ble_eq_true rfl) (fun p e s m args below meth c X hP hD hS ls hl => w_X6_seed X a_t a_now a_refused a_kept a_mind a_tape a_words a_wCell a_wFaces a_wTurns a_wSign a_wBy a_wFell a_telling a_holds a_sizes a_elements a_moved a_above a_out a_first c_t res c_now l1 ls _ _ h hP hD hS hl)
-- ===== X6_image
abbrev W_X6_image (E : Env0) (a_t : Nat) (a_kept : Nat) (a_now : Nat) (a_refused : Nat) (a_mind : Nat) (a_tape : Nat) (a_words : Nat) (a_wCell : Nat) (a_wFaces : Nat) (a_wTurns : Nat) (a_wSign : Nat) (a_wBy : Nat) (a_wFell : Nat) (a_telling : Nat) (a_holds : Nat) (a_sizes : Nat) (a_elements : Nat) (a_moved : Nat) (a_above : Nat) (a_out : Nat) (a_first : Nat) (c_t : Nat → Int32) (c_kept : Nat → Int32) (c_now : Nat → Int32) : va_W := [(a_t, .inr (6, [.ref a_refused, .ref a_now, .ref a_kept, .ref a_mind, .int (c_t 4), .ref a_tape, .int (c_t 6), .int (c_t 7), .int (c_t 8), .int (c_t 9), .ref a_words, .ref a_wCell, .ref a_wFaces, .ref a_wTurns, .ref a_wSign, .ref a_wBy, .ref a_wFell, .int (c_t 17), .ref a_telling, .ref a_holds, .ref a_sizes, .ref a_elements, .ref a_moved, .ref a_above, .ref a_out, .ref a_first])), (a_kept, .inl (eI E, 97, .inl c_kept)), (a_now, .inl (eI E, 97, .inl c_now))]
abbrev r_X6_image : Room := { frames := 1, cells := 0, slots := 0, locals := 22 }
theorem hd_X6_image : yX6_image.cls ≠ "java/lang/invoke/MethodHandle" ∧ yX6_image.cls ≠ "java/lang/invoke/VarHandle" ∧ (parseMethodDescriptor yX6_image.desc).map (fun d => d.parameters.length) = some 0 := by decide +kernel
theorem hV_X6_image : yX6_image.cls = RX6 ∧ yX6_image.cls ≠ "java/lang/invoke/MethodHandle" ∧ yX6_image.cls ≠ "java/lang/invoke/VarHandle" ∧ (parseMethodDescriptor yX6_image.desc).map (fun d => d.parameters.length) = some 0 := ⟨rfl, hd_X6_image⟩
theorem iX6_image_X6 : ∀ w ∈ wsX60, w ∈ wsX6_image := fun _ h => List.mem_cons_of_mem _ (List.mem_append_right _ (h))
section
variable {p : Program} {l : Launch} {e : Env} {s : State} {m : MethodId} {args : Array Value} {below : List Frame} {meth : Method} {c : Code} {E : Env0} {A : Nat → Prop}
set_option maxRecDepth 100000 in
set_option maxHeartbeats 4000000 in
theorem w_X6_image (X : Ctx p m meth c cX6_image 1 ((some .int)) s args wsX6_image RX6 E A) (a_t : Nat) (a_kept : Nat) (a_now : Nat) (a_refused : Nat) (a_mind : Nat) (a_tape : Nat) (a_words : Nat) (a_wCell : Nat) (a_wFaces : Nat) (a_wTurns : Nat) (a_wSign : Nat) (a_wBy : Nat) (a_wFell : Nat) (a_telling : Nat) (a_holds : Nat) (a_sizes : Nat) (a_elements : Nat) (a_moved : Nat) (a_above : Nat) (a_out : Nat) (a_first : Nat) (c_now : Nat → Int32) (res : Int32 × (Nat → Int32) × (Nat → Int32)) (c_t : Nat → Int32) (c_kept : Nat → Int32) (ls : Array Slot) (H : Heap) (locs : List Loc) (h : f_X6_image c_t c_kept c_now = some res) (hP : va_P E.1 vwCl (W_X6_image E a_t a_kept a_now a_refused a_mind a_tape a_words a_wCell a_wFaces a_wTurns a_wSign a_wBy a_wFell a_telling a_holds a_sizes a_elements a_moved a_above a_out a_first c_t c_kept c_now) H) (hD : va_D A (W_X6_image E a_t a_kept a_now a_refused a_mind a_tape a_words a_wCell a_wFaces a_wTurns a_wSign a_wBy a_wFell a_telling a_holds a_sizes a_elements a_moved a_above a_out a_first c_t c_kept c_now)) (hS : va_S A s.heap H locs) (hl : lv_has ls 1 [(0, .ref a_t)]) : W p l e r_X6_image s m args below meth c H locs 0 0 (MQ below (qI E A (res.1) (W_X6_image E a_t a_kept a_now a_refused a_mind a_tape a_words a_wCell a_wFaces a_wTurns a_wSign a_wBy a_wFell a_telling a_holds a_sizes a_elements a_moved a_above a_out a_first (res.2.1) (res.2.2) c_now)) args s 0 0 A) (F0 m 0 ls []) := by
  obtain ⟨hx, hb, hml, hr, hlk, hown, hts, hG, hA⟩ := id X
  have hK := hG.1
  have hN := hG.2.1
  unfold f_X6_image at h
  refine lv_aload_n hx hb dX6_image_0 rfl (lv_at hl 0 rfl) ?_
  refine va_get (D := E.1) (ci := 6) (v := .ref a_now) (C := RX6) (T := TX6) (N := 26) hx hb hts iX6_image_X6 hown hK hP 0 rfl rfl 1 (by decide) (hts (.fieldLink RX6 17 "LeftIsAgreedOnModel" "now" "[I") (List.mem_of_getElem? (i := 1) rfl)) (fun _ h9 => h9) rfl dX6_image_1 ?_
  refine lv_aload_n hx hb dX6_image_4 rfl (lv_at hl 0 rfl) ?_
  refine va_get (D := E.1) (ci := 6) (v := .ref a_kept) (C := RX6) (T := TX6) (N := 26) hx hb hts iX6_image_X6 hown hK hP 0 rfl rfl 2 (by decide) (hts (.fieldLink RX6 20 "LeftIsAgreedOnModel" "kept" "[I") (List.mem_of_getElem? (i := 2) rfl)) (fun _ h9 => h9) rfl dX6_image_5 ?_
  obtain ⟨v1, hv1, h⟩ := bind_of h
  refine after_v X (run_S X (c_X6_move l E a_now a_kept c_now c_kept H.size v1 hv1) (va_cwS 2 hts gX6_image_X6_move rfl rfl rfl hd_X6_move ⟨(Nat.le_of_ble_eq_true rfl), (Nat.le_of_ble_eq_true rfl)⟩) hP hD hS [2, 1] rfl rfl hl.1 (rest := []) rfl rfl (Nat.le_of_ble_eq_true rfl) dX6_image_8) hP hD hS [2, 1] [0] [0, 2, 1] rfl rfl rfl (by decide) rfl (ws1 := (W_X6_image E a_t a_kept a_now a_refused a_mind a_tape a_words a_wCell a_wFaces a_wTurns a_wSign a_wBy a_wFell a_telling a_holds a_sizes a_elements a_moved a_above a_out a_first c_t v1 c_now)) rfl (fun H locs hP hD hS => ?_)
  refine lv_aload_n hx hb dX6_image_11 rfl (lv_at hl 0 rfl) ?_
  refine lv_iconst (v := (1 : Int32)) hx hb dX6_image_12 (by decide) ?_
  refine va_put (D := E.1) (ci := 6) (v := .int (1 : Int32)) (ty := .boolean) (C := RX6) (T := TX6) (N := 26) hx hb hts iX6_image_X6 tyX6 tyX6_ok nmX6 hown hK hP hD hS 0 rfl rfl 4 (by decide) (hts (.fieldLink RX6 279 "LeftIsAgreedOnModel" "isKept" "Z") (List.mem_of_getElem? (i := 3) rfl)) (fun _ h9 => h9) rfl (tyX6_ok 4 (by decide)) rfl rfl (Nat.le_of_ble_eq_true rfl) dX6_image_13 (fun H locs hP hD hS => ?_)
  have hP : va_P E.1 vwCl (W_X6_image E a_t a_kept a_now a_refused a_mind a_tape a_words a_wCell a_wFaces a_wTurns a_wSign a_wBy a_wFell a_telling a_holds a_sizes a_elements a_moved a_above a_out a_first (upd c_t 4 (1 : Int32)) v1 c_now) H := hP
  have hD : va_D A (W_X6_image E a_t a_kept a_now a_refused a_mind a_tape a_words a_wCell a_wFaces a_wTurns a_wSign a_wBy a_wFell a_telling a_holds a_sizes a_elements a_moved a_above a_out a_first (upd c_t 4 (1 : Int32)) v1 c_now) := hD
  refine lv_iconst (v := (1 : Int32)) hx hb dX6_image_16 (by decide) ?_
  obtain rfl := Option.some.inj h
  exact ret_i X dX6_image_17 hP hD hS rfl
end
set_option maxRecDepth 100000 in
theorem c_X6_image (l : Launch) (E : Env0) (a_t : Nat) (a_kept : Nat) (a_now : Nat) (a_refused : Nat) (a_mind : Nat) (a_tape : Nat) (a_words : Nat) (a_wCell : Nat) (a_wFaces : Nat) (a_wTurns : Nat) (a_wSign : Nat) (a_wBy : Nat) (a_wFell : Nat) (a_telling : Nat) (a_holds : Nat) (a_sizes : Nat) (a_elements : Nat) (a_moved : Nat) (a_above : Nat) (a_out : Nat) (a_first : Nat) (c_t : Nat → Int32) (c_kept : Nat → Int32) (c_now : Nat → Int32) (sz : Nat) (res : Int32 × (Nat → Int32) × (Nat → Int32)) (h : f_X6_image c_t c_kept c_now = some res) : Met l yX6_image wsX6_image r_X6_image (cPre E [.ref a_t] (W_X6_image E a_t a_kept a_now a_refused a_mind a_tape a_words a_wCell a_wFaces a_wTurns a_wSign a_wBy a_wFell a_telling a_holds a_sizes a_elements a_moved a_above a_out a_first c_t c_kept c_now) sz) (qI E (va_A (W_X6_image E a_t a_kept a_now a_refused a_mind a_tape a_words a_wCell a_wFaces a_wTurns a_wSign a_wBy a_wFell a_telling a_holds a_sizes a_elements a_moved a_above a_out a_first c_t c_kept c_now) sz) (res.1) (W_X6_image E a_t a_kept a_now a_refused a_mind a_tape a_words a_wCell a_wFaces a_wTurns a_wSign a_wBy a_wFell a_telling a_holds a_sizes a_elements a_moved a_above a_out a_first (res.2.1) (res.2.2) c_now)) 0 0 (va_A (W_X6_image E a_t a_kept a_now a_refused a_mind a_tape a_words a_wCell a_wFaces a_wTurns a_wSign a_wBy a_wFell a_telling a_holds a_sizes a_elements a_moved a_above a_out a_first c_t c_kept c_now) sz) :=
  met_of (Qc := fun A => qI E A (res.1) (W_X6_image E a_t a_kept a_now a_refused a_mind a_tape a_words a_wCell a_wFaces a_wTurns a_wSign a_wBy a_wFell a_telling a_holds a_sizes a_elements a_moved a_above a_out a_first (res.2.1) (res.2.2) c_now)) (by decide) rfl (Nat.le_of_ble_eq_true rfl) (fun p e s m args below meth c X hP hD hS ls hl => w_X6_image X a_t a_kept a_now a_refused a_mind a_tape a_words a_wCell a_wFaces a_wTurns a_wSign a_wBy a_wFell a_telling a_holds a_sizes a_elements a_moved a_above a_out a_first c_now res c_t c_kept ls _ _ h hP hD hS hl)
-- ===== X6_back
abbrev W_X6_back (E : Env0) (a_t : Nat) (a_holds : Nat) (a_kept : Nat) (a_now : Nat) (a_refused : Nat) (a_mind : Nat) (a_tape : Nat) (a_words : Nat) (a_wCell : Nat) (a_wFaces : Nat) (a_wTurns : Nat) (a_wSign : Nat) (a_wBy : Nat) (a_wFell : Nat) (a_telling : Nat) (a_sizes : Nat) (a_elements : Nat) (a_moved : Nat) (a_above : Nat) (a_out : Nat) (a_first : Nat) (c_t : Nat → Int32) (c_holds : Nat → Int32) (c_kept : Nat → Int32) (c_now : Nat → Int32) (c_refused : Nat → Int32) : va_W := [(a_t, .inr (6, [.ref a_refused, .ref a_now, .ref a_kept, .ref a_mind, .int (c_t 4), .ref a_tape, .int (c_t 6), .int (c_t 7), .int (c_t 8), .int (c_t 9), .ref a_words, .ref a_wCell, .ref a_wFaces, .ref a_wTurns, .ref a_wSign, .ref a_wBy, .ref a_wFell, .int (c_t 17), .ref a_telling, .ref a_holds, .ref a_sizes, .ref a_elements, .ref a_moved, .ref a_above, .ref a_out, .ref a_first])), (a_holds, .inl (eI E, 8, .inl c_holds)), (a_kept, .inl (eI E, 97, .inl c_kept)), (a_now, .inl (eI E, 97, .inl c_now)), (a_refused, .inl (eI E, 7, .inl c_refused))]
abbrev r_X6_back : Room := { frames := 1, cells := 0, slots := 0, locals := 22 }
theorem hd_X6_back : yX6_back.cls ≠ "java/lang/invoke/MethodHandle" ∧ yX6_back.cls ≠ "java/lang/invoke/VarHandle" ∧ (parseMethodDescriptor yX6_back.desc).map (fun d => d.parameters.length) = some 0 := by decide +kernel
theorem hV_X6_back : yX6_back.cls = RX6 ∧ yX6_back.cls ≠ "java/lang/invoke/MethodHandle" ∧ yX6_back.cls ≠ "java/lang/invoke/VarHandle" ∧ (parseMethodDescriptor yX6_back.desc).map (fun d => d.parameters.length) = some 0 := ⟨rfl, hd_X6_back⟩
theorem iX6_back_X6 : ∀ w ∈ wsX60, w ∈ wsX6_back := fun _ h => List.mem_cons_of_mem _ (List.mem_append_right _ (h))
section
variable {p : Program} {l : Launch} {e : Env} {s : State} {m : MethodId} {args : Array Value} {below : List Frame} {meth : Method} {c : Code} {E : Env0} {A : Nat → Prop}
set_option maxRecDepth 100000 in
set_option maxHeartbeats 4000000 in
theorem w_X6_back_b64 (X : Ctx p m meth c cX6_back 2 ((some .int)) s args wsX6_back RX6 E A) (a_t : Nat) (a_holds : Nat) (a_kept : Nat) (a_now : Nat) (a_refused : Nat) (a_mind : Nat) (a_tape : Nat) (a_words : Nat) (a_wCell : Nat) (a_wFaces : Nat) (a_wTurns : Nat) (a_wSign : Nat) (a_wBy : Nat) (a_wFell : Nat) (a_telling : Nat) (a_sizes : Nat) (a_elements : Nat) (a_moved : Nat) (a_above : Nat) (a_out : Nat) (a_first : Nat) (c_t : Nat → Int32) (c_kept : Nat → Int32) (res : Int32 × (Nat → Int32) × (Nat → Int32) × (Nat → Int32)) (k27 : (Nat → Int32) → (Nat → Int32) → (Nat → Int32) → Int32 → Option (Int32 × (Nat → Int32) × (Nat → Int32) × (Nat → Int32))) (hk27 : ∀ (c_holds : Nat → Int32) (c_now : Nat → Int32) (c_refused : Nat → Int32) (l1 : Int32) (ls : Array Slot) (H : Heap) (locs : List Loc), k27 c_holds c_now c_refused l1 = some res → va_P E.1 vwCl (W_X6_back E a_t a_holds a_kept a_now a_refused a_mind a_tape a_words a_wCell a_wFaces a_wTurns a_wSign a_wBy a_wFell a_telling a_sizes a_elements a_moved a_above a_out a_first c_t c_holds c_kept c_now c_refused) H → va_D A (W_X6_back E a_t a_holds a_kept a_now a_refused a_mind a_tape a_words a_wCell a_wFaces a_wTurns a_wSign a_wBy a_wFell a_telling a_sizes a_elements a_moved a_above a_out a_first c_t c_holds c_kept c_now c_refused) → va_S A s.heap H locs → lv_has ls 2 [(0, .ref a_t), (1, .int l1)] → W p l e r_X6_back s m args below meth c H locs 0 0 (MQ below (qI E A (res.1) (W_X6_back E a_t a_holds a_kept a_now a_refused a_mind a_tape a_words a_wCell a_wFaces a_wTurns a_wSign a_wBy a_wFell a_telling a_sizes a_elements a_moved a_above a_out a_first c_t (res.2.1) c_kept (res.2.2.1) (res.2.2.2))) args s 0 0 A) (F0 m 27 ls [])) (c_holds : Nat → Int32) (c_now : Nat → Int32) (c_refused : Nat → Int32) (l1 : Int32) (s0 : Int32) (s1 : Int32) (ls : Array Slot) (H : Heap) (locs : List Loc) (h : f_X6_back_b64 c_t c_kept k27 c_holds c_now c_refused l1 s0 s1 = some res) (hP : va_P E.1 vwCl (W_X6_back E a_t a_holds a_kept a_now a_refused a_mind a_tape a_words a_wCell a_wFaces a_wTurns a_wSign a_wBy a_wFell a_telling a_sizes a_elements a_moved a_above a_out a_first c_t c_holds c_kept c_now c_refused) H) (hD : va_D A (W_X6_back E a_t a_holds a_kept a_now a_refused a_mind a_tape a_words a_wCell a_wFaces a_wTurns a_wSign a_wBy a_wFell a_telling a_sizes a_elements a_moved a_above a_out a_first c_t c_holds c_kept c_now c_refused)) (hS : va_S A s.heap H locs) (hl : lv_has ls 2 [(0, .ref a_t), (1, .int l1)]) : W p l e r_X6_back s m args below meth c H locs 0 0 (MQ below (qI E A (res.1) (W_X6_back E a_t a_holds a_kept a_now a_refused a_mind a_tape a_words a_wCell a_wFaces a_wTurns a_wSign a_wBy a_wFell a_telling a_sizes a_elements a_moved a_above a_out a_first c_t (res.2.1) c_kept (res.2.2.1) (res.2.2.2))) args s 0 0 A) (F0 m 64 ls [.int s0, .int s1, .ref a_holds]) := by
  obtain ⟨hx, hb, hml, hr, hlk, hown, hts, hG, hA⟩ := id X
  have hK := hG.1
  have hN := hG.2.1
  unfold f_X6_back_b64 at h
  obtain ⟨hz64, h⟩ := chk_of h
  refine st_i X hP hD hS 1 rfl (inb.vp hz64) (k := (s1).toNatClampNeg) rfl (ws1 := (W_X6_back E a_t a_holds a_kept a_now a_refused a_mind a_tape a_words a_wCell a_wFaces a_wTurns a_wSign a_wBy a_wFell a_telling a_sizes a_elements a_moved a_above a_out a_first c_t (upd c_holds ((s1).toNatClampNeg) s0) c_kept c_now c_refused)) rfl dX6_back_64 (fun H locs hP hD hS => ?_)
  refine lv_iinc (v := (l1 + (1 : Int32))) (lv' := [(1, .int (l1 + (1 : Int32))), (0, .ref a_t)]) hx hb dX6_back_65 hl (k := 1) rfl rfl (by decide) rfl (fun ls hl => ?_)
  refine lv_goto (tgt := 27) hx hb dX6_back_68 (by decide) ?_
  exact hk27 (upd c_holds ((s1).toNatClampNeg) s0) c_now c_refused (l1 + (1 : Int32)) _ _ _ h hP hD hS (lv_sub hl [1, 0] rfl)
set_option maxRecDepth 100000 in
set_option maxHeartbeats 4000000 in
theorem w_X6_back_b27 (X : Ctx p m meth c cX6_back 2 ((some .int)) s args wsX6_back RX6 E A) (a_t : Nat) (a_holds : Nat) (a_kept : Nat) (a_now : Nat) (a_refused : Nat) (a_mind : Nat) (a_tape : Nat) (a_words : Nat) (a_wCell : Nat) (a_wFaces : Nat) (a_wTurns : Nat) (a_wSign : Nat) (a_wBy : Nat) (a_wFell : Nat) (a_telling : Nat) (a_sizes : Nat) (a_elements : Nat) (a_moved : Nat) (a_above : Nat) (a_out : Nat) (a_first : Nat) (c_t : Nat → Int32) (c_kept : Nat → Int32) (res : Int32 × (Nat → Int32) × (Nat → Int32) × (Nat → Int32)) : ∀ (n : Nat) (c_holds : Nat → Int32) (c_now : Nat → Int32) (c_refused : Nat → Int32) (l1 : Int32) (ls : Array Slot) (H : Heap) (locs : List Loc), f_X6_back_b27 c_t c_kept n c_holds c_now c_refused l1 = some res → va_P E.1 vwCl (W_X6_back E a_t a_holds a_kept a_now a_refused a_mind a_tape a_words a_wCell a_wFaces a_wTurns a_wSign a_wBy a_wFell a_telling a_sizes a_elements a_moved a_above a_out a_first c_t c_holds c_kept c_now c_refused) H → va_D A (W_X6_back E a_t a_holds a_kept a_now a_refused a_mind a_tape a_words a_wCell a_wFaces a_wTurns a_wSign a_wBy a_wFell a_telling a_sizes a_elements a_moved a_above a_out a_first c_t c_holds c_kept c_now c_refused) → va_S A s.heap H locs → lv_has ls 2 [(0, .ref a_t), (1, .int l1)] → W p l e r_X6_back s m args below meth c H locs 0 0 (MQ below (qI E A (res.1) (W_X6_back E a_t a_holds a_kept a_now a_refused a_mind a_tape a_words a_wCell a_wFaces a_wTurns a_wSign a_wBy a_wFell a_telling a_sizes a_elements a_moved a_above a_out a_first c_t (res.2.1) c_kept (res.2.2.1) (res.2.2.2))) args s 0 0 A) (F0 m 27 ls []) := by
  obtain ⟨hx, hb, hml, hr, hlk, hown, hts, hG, hA⟩ := id X
  have hK := hG.1
  have hN := hG.2.1
  intro n
  induction n with
  | zero =>
    intro c_holds c_now c_refused l1 ls H locs h
    exact absurd (show (none : Option (Int32 × (Nat → Int32) × (Nat → Int32) × (Nat → Int32))) = some res from h) (by intro q; cases q)
  | succ n ih =>
    intro c_holds c_now c_refused l1 ls H locs h hP hD hS hl
    rw [f_X6_back_b27] at h
    refine lv_iload_n hx hb dX6_back_27 rfl (lv_at hl 1 rfl) ?_
    refine lv_bipush (v := (8 : Int32)) hx hb dX6_back_28 (by decide) ?_
    refine lv_icmp_ge (tgt := 71) hx hb dX6_back_30 (by decide) (fun hc30 => ?_) (fun hc30 => ?_)
    · have h := if_t h hc30
      refine lv_iconst (v := (1 : Int32)) hx hb dX6_back_71 (by decide) ?_
      obtain rfl := Option.some.inj h
      exact ret_i X dX6_back_72 hP hD hS rfl
    · have h := if_f h hc30
      refine lv_aload_n hx hb dX6_back_33 rfl (lv_at hl 0 rfl) ?_
      refine va_get (D := E.1) (ci := 6) (v := .ref a_holds) (C := RX6) (T := TX6) (N := 26) hx hb hts iX6_back_X6 hown hK hP 0 rfl rfl 19 (by decide) (hts (.fieldLink RX6 54 "LeftIsAgreedOnModel" "holds" "[I") (List.mem_of_getElem? (i := 4) rfl)) (fun _ h9 => h9) rfl dX6_back_34 ?_
      refine lv_iload_n hx hb dX6_back_37 rfl (lv_at hl 1 rfl) ?_
      refine lv_aload_n hx hb dX6_back_38 rfl (lv_at hl 0 rfl) ?_
      refine va_get (D := E.1) (ci := 6) (v := .ref a_holds) (C := RX6) (T := TX6) (N := 26) hx hb hts iX6_back_X6 hown hK hP 0 rfl rfl 19 (by decide) (hts (.fieldLink RX6 54 "LeftIsAgreedOnModel" "holds" "[I") (List.mem_of_getElem? (i := 4) rfl)) (fun _ h9 => h9) rfl dX6_back_39 ?_
      refine lv_iload_n hx hb dX6_back_42 rfl (lv_at hl 1 rfl) ?_
      obtain ⟨hz43, h⟩ := chk_of h
      refine ld_i X hP 1 rfl (inb.vp hz43) (v := (c_holds (l1).toNatClampNeg)) rfl dX6_back_43 ?_
      refine lv_bipush (v := (10 : Int32)) hx hb dX6_back_44 (by decide) ?_
      refine lv_aload_n hx hb dX6_back_46 rfl (lv_at hl 0 rfl) ?_
      obtain ⟨v1, hv1, h⟩ := bind_of h
      refine after_i X (run_V X (c_X6_many l E a_t a_now a_refused a_kept a_mind a_tape a_words a_wCell a_wFaces a_wTurns a_wSign a_wBy a_wFell a_telling a_holds a_sizes a_elements a_moved a_above a_out a_first c_t c_now H.size v1 hv1) (cwV 0 hts gX6_back_X6_many rfl rfl rfl hV_X6_many ⟨(Nat.le_of_ble_eq_true rfl), (Nat.le_of_ble_eq_true rfl)⟩) hP hD hS [0, 3] rfl rfl hl.1 (ci := 6) rfl rfl rfl (rest := [.int (10 : Int32), .int (c_holds (l1).toNatClampNeg), .int l1, .ref a_holds]) rfl rfl (Nat.le_of_ble_eq_true rfl) dX6_back_47) hP hD hS [0, 3] [1, 2, 4] [3, 0, 1, 4, 2] rfl rfl rfl (by decide) rfl (ws1 := (W_X6_back E a_t a_holds a_kept a_now a_refused a_mind a_tape a_words a_wCell a_wFaces a_wTurns a_wSign a_wBy a_wFell a_telling a_sizes a_elements a_moved a_above a_out a_first c_t c_holds c_kept c_now c_refused)) rfl (fun H locs hP hD hS => ?_)
      refine lv_iadd hx hb dX6_back_50 ?_
      refine lv_icmp_lt (tgt := 58) hx hb dX6_back_51 (by decide) (fun hc51 => ?_) (fun hc51 => ?_)
      · have h := if_t h hc51
        refine lv_aload_n hx hb dX6_back_58 rfl (lv_at hl 0 rfl) ?_
        refine va_get (D := E.1) (ci := 6) (v := .ref a_holds) (C := RX6) (T := TX6) (N := 26) hx hb hts iX6_back_X6 hown hK hP 0 rfl rfl 19 (by decide) (hts (.fieldLink RX6 54 "LeftIsAgreedOnModel" "holds" "[I") (List.mem_of_getElem? (i := 4) rfl)) (fun _ h9 => h9) rfl dX6_back_59 ?_
        refine lv_iload_n hx hb dX6_back_62 rfl (lv_at hl 1 rfl) ?_
        obtain ⟨hz63, h⟩ := chk_of h
        refine ld_i X hP 1 rfl (inb.vp hz63) (v := (c_holds (l1).toNatClampNeg)) rfl dX6_back_63 ?_
        exact w_X6_back_b64 X a_t a_holds a_kept a_now a_refused a_mind a_tape a_words a_wCell a_wFaces a_wTurns a_wSign a_wBy a_wFell a_telling a_sizes a_elements a_moved a_above a_out a_first c_t c_kept res (f_X6_back_b27 c_t c_kept n) ih c_holds c_now c_refused l1 (c_holds (l1).toNatClampNeg) l1 _ _ _ h hP hD hS (lv_sub hl [0, 1] rfl)
      · have h := if_f h hc51
        refine lv_iconst (v := (-1 : Int32)) hx hb dX6_back_54 (by decide) ?_
        refine lv_goto (tgt := 64) hx hb dX6_back_55 (by decide) ?_
        exact w_X6_back_b64 X a_t a_holds a_kept a_now a_refused a_mind a_tape a_words a_wCell a_wFaces a_wTurns a_wSign a_wBy a_wFell a_telling a_sizes a_elements a_moved a_above a_out a_first c_t c_kept res (f_X6_back_b27 c_t c_kept n) ih c_holds c_now c_refused l1 (-1 : Int32) l1 _ _ _ h hP hD hS (lv_sub hl [0, 1] rfl)
set_option maxRecDepth 100000 in
set_option maxHeartbeats 4000000 in
theorem w_X6_back (X : Ctx p m meth c cX6_back 2 ((some .int)) s args wsX6_back RX6 E A) (a_t : Nat) (a_holds : Nat) (a_kept : Nat) (a_now : Nat) (a_refused : Nat) (a_mind : Nat) (a_tape : Nat) (a_words : Nat) (a_wCell : Nat) (a_wFaces : Nat) (a_wTurns : Nat) (a_wSign : Nat) (a_wBy : Nat) (a_wFell : Nat) (a_telling : Nat) (a_sizes : Nat) (a_elements : Nat) (a_moved : Nat) (a_above : Nat) (a_out : Nat) (a_first : Nat) (c_t : Nat → Int32) (c_kept : Nat → Int32) (res : Int32 × (Nat → Int32) × (Nat → Int32) × (Nat → Int32)) (c_holds : Nat → Int32) (c_now : Nat → Int32) (c_refused : Nat → Int32) (ls : Array Slot) (H : Heap) (locs : List Loc) (h : f_X6_back c_t c_holds c_kept c_now c_refused = some res) (hP : va_P E.1 vwCl (W_X6_back E a_t a_holds a_kept a_now a_refused a_mind a_tape a_words a_wCell a_wFaces a_wTurns a_wSign a_wBy a_wFell a_telling a_sizes a_elements a_moved a_above a_out a_first c_t c_holds c_kept c_now c_refused) H) (hD : va_D A (W_X6_back E a_t a_holds a_kept a_now a_refused a_mind a_tape a_words a_wCell a_wFaces a_wTurns a_wSign a_wBy a_wFell a_telling a_sizes a_elements a_moved a_above a_out a_first c_t c_holds c_kept c_now c_refused)) (hS : va_S A s.heap H locs) (hl : lv_has ls 2 [(0, .ref a_t)]) : W p l e r_X6_back s m args below meth c H locs 0 0 (MQ below (qI E A (res.1) (W_X6_back E a_t a_holds a_kept a_now a_refused a_mind a_tape a_words a_wCell a_wFaces a_wTurns a_wSign a_wBy a_wFell a_telling a_sizes a_elements a_moved a_above a_out a_first c_t (res.2.1) c_kept (res.2.2.1) (res.2.2.2))) args s 0 0 A) (F0 m 0 ls []) := by
  obtain ⟨hx, hb, hml, hr, hlk, hown, hts, hG, hA⟩ := id X
  have hK := hG.1
  have hN := hG.2.1
  unfold f_X6_back at h
  refine lv_aload_n hx hb dX6_back_0 rfl (lv_at hl 0 rfl) ?_
  refine va_get (D := E.1) (ci := 6) (v := .int (c_t 4)) (C := RX6) (T := TX6) (N := 26) hx hb hts iX6_back_X6 hown hK hP 0 rfl rfl 4 (by decide) (hts (.fieldLink RX6 279 "LeftIsAgreedOnModel" "isKept" "Z") (List.mem_of_getElem? (i := 1) rfl)) (fun _ h9 => h9) rfl dX6_back_1 ?_
  refine lv_if_ne (tgt := 14) hx hb dX6_back_4 (by decide) (fun hc4 => ?_) (fun hc4 => ?_)
  · have h := if_f h hc4
    refine lv_aload_n hx hb dX6_back_14 rfl (lv_at hl 0 rfl) ?_
    refine va_get (D := E.1) (ci := 6) (v := .ref a_kept) (C := RX6) (T := TX6) (N := 26) hx hb hts iX6_back_X6 hown hK hP 0 rfl rfl 2 (by decide) (hts (.fieldLink RX6 20 "LeftIsAgreedOnModel" "kept" "[I") (List.mem_of_getElem? (i := 2) rfl)) (fun _ h9 => h9) rfl dX6_back_15 ?_
    refine lv_aload_n hx hb dX6_back_18 rfl (lv_at hl 0 rfl) ?_
    refine va_get (D := E.1) (ci := 6) (v := .ref a_now) (C := RX6) (T := TX6) (N := 26) hx hb hts iX6_back_X6 hown hK hP 0 rfl rfl 1 (by decide) (hts (.fieldLink RX6 17 "LeftIsAgreedOnModel" "now" "[I") (List.mem_of_getElem? (i := 3) rfl)) (fun _ h9 => h9) rfl dX6_back_19 ?_
    obtain ⟨v1, hv1, h⟩ := bind_of h
    refine after_v X (run_S X (c_X6_move l E a_kept a_now c_kept c_now H.size v1 hv1) (va_cwS 2 hts gX6_back_X6_move rfl rfl rfl hd_X6_move ⟨(Nat.le_of_ble_eq_true rfl), (Nat.le_of_ble_eq_true rfl)⟩) hP hD hS [2, 3] rfl rfl hl.1 (rest := []) rfl rfl (Nat.le_of_ble_eq_true rfl) dX6_back_22) hP hD hS [2, 3] [0, 1, 4] [0, 1, 3, 4, 2] rfl rfl rfl (by decide) rfl (ws1 := (W_X6_back E a_t a_holds a_kept a_now a_refused a_mind a_tape a_words a_wCell a_wFaces a_wTurns a_wSign a_wBy a_wFell a_telling a_sizes a_elements a_moved a_above a_out a_first c_t c_holds c_kept v1 c_refused)) rfl (fun H locs hP hD hS => ?_)
    refine lv_iconst (v := (0 : Int32)) hx hb dX6_back_25 (by decide) ?_
    refine lv_istore_n (lv' := [(1, .int (0 : Int32)), (0, .ref a_t)]) hx hb dX6_back_26 rfl hl (by decide) rfl (fun ls hl => ?_)
    exact w_X6_back_b27 X a_t a_holds a_kept a_now a_refused a_mind a_tape a_words a_wCell a_wFaces a_wTurns a_wSign a_wBy a_wFell a_telling a_sizes a_elements a_moved a_above a_out a_first c_t c_kept res FU c_holds v1 c_refused (0 : Int32) _ _ _ h hP hD hS (lv_sub hl [1, 0] rfl)
  · have h := if_t h hc4
    refine lv_aload_n hx hb dX6_back_7 rfl (lv_at hl 0 rfl) ?_
    refine lv_bipush (v := (-5 : Int32)) hx hb dX6_back_8 (by decide) ?_
    obtain ⟨v2, hv2, h⟩ := bind_of h
    refine after_i X (run_V X (c_X6_refuse l E a_t a_refused a_now a_kept a_mind a_tape a_words a_wCell a_wFaces a_wTurns a_wSign a_wBy a_wFell a_telling a_holds a_sizes a_elements a_moved a_above a_out a_first (-5 : Int32) c_t c_refused H.size v2 hv2) (cwV 1 hts gX6_back_X6_refuse rfl rfl rfl hV_X6_refuse ⟨(Nat.le_of_ble_eq_true rfl), (Nat.le_of_ble_eq_true rfl)⟩) hP hD hS [0, 4] rfl rfl hl.1 (ci := 6) rfl rfl rfl (rest := []) rfl rfl (Nat.le_of_ble_eq_true rfl) dX6_back_10) hP hD hS [0, 4] [1, 2, 3] [3, 0, 1, 2, 4] rfl rfl rfl (by decide) rfl (ws1 := (W_X6_back E a_t a_holds a_kept a_now a_refused a_mind a_tape a_words a_wCell a_wFaces a_wTurns a_wSign a_wBy a_wFell a_telling a_sizes a_elements a_moved a_above a_out a_first c_t c_holds c_kept c_now (v2.2))) rfl (fun H locs hP hD hS => ?_)
    obtain rfl := Option.some.inj h
    exact ret_i X dX6_back_13 hP hD hS rfl
end
set_option maxRecDepth 100000 in
theorem c_X6_back (l : Launch) (E : Env0) (a_t : Nat) (a_holds : Nat) (a_kept : Nat) (a_now : Nat) (a_refused : Nat) (a_mind : Nat) (a_tape : Nat) (a_words : Nat) (a_wCell : Nat) (a_wFaces : Nat) (a_wTurns : Nat) (a_wSign : Nat) (a_wBy : Nat) (a_wFell : Nat) (a_telling : Nat) (a_sizes : Nat) (a_elements : Nat) (a_moved : Nat) (a_above : Nat) (a_out : Nat) (a_first : Nat) (c_t : Nat → Int32) (c_holds : Nat → Int32) (c_kept : Nat → Int32) (c_now : Nat → Int32) (c_refused : Nat → Int32) (sz : Nat) (res : Int32 × (Nat → Int32) × (Nat → Int32) × (Nat → Int32)) (h : f_X6_back c_t c_holds c_kept c_now c_refused = some res) : Met l yX6_back wsX6_back r_X6_back (cPre E [.ref a_t] (W_X6_back E a_t a_holds a_kept a_now a_refused a_mind a_tape a_words a_wCell a_wFaces a_wTurns a_wSign a_wBy a_wFell a_telling a_sizes a_elements a_moved a_above a_out a_first c_t c_holds c_kept c_now c_refused) sz) (qI E (va_A (W_X6_back E a_t a_holds a_kept a_now a_refused a_mind a_tape a_words a_wCell a_wFaces a_wTurns a_wSign a_wBy a_wFell a_telling a_sizes a_elements a_moved a_above a_out a_first c_t c_holds c_kept c_now c_refused) sz) (res.1) (W_X6_back E a_t a_holds a_kept a_now a_refused a_mind a_tape a_words a_wCell a_wFaces a_wTurns a_wSign a_wBy a_wFell a_telling a_sizes a_elements a_moved a_above a_out a_first c_t (res.2.1) c_kept (res.2.2.1) (res.2.2.2))) 0 0 (va_A (W_X6_back E a_t a_holds a_kept a_now a_refused a_mind a_tape a_words a_wCell a_wFaces a_wTurns a_wSign a_wBy a_wFell a_telling a_sizes a_elements a_moved a_above a_out a_first c_t c_holds c_kept c_now c_refused) sz) :=
  met_of (Qc := fun A => qI E A (res.1) (W_X6_back E a_t a_holds a_kept a_now a_refused a_mind a_tape a_words a_wCell a_wFaces a_wTurns a_wSign a_wBy a_wFell a_telling a_sizes a_elements a_moved a_above a_out a_first c_t (res.2.1) c_kept (res.2.2.1) (res.2.2.2))) (by decide) rfl (Nat.le_of_ble_eq_true rfl) (fun p e s m args below meth c X hP hD hS ls hl => w_X6_back X a_t a_holds a_kept a_now a_refused a_mind a_tape a_words a_wCell a_wFaces a_wTurns a_wSign a_wBy a_wFell a_telling a_sizes a_elements a_moved a_above a_out a_first c_t c_kept res c_holds c_now c_refused ls _ _ h hP hD hS hl)
-- ===== X6_status
abbrev W_X6_status (E : Env0) (a_t : Nat) (a_holds : Nat) (a_now : Nat) (a_refused : Nat) (a_kept : Nat) (a_mind : Nat) (a_tape : Nat) (a_words : Nat) (a_wCell : Nat) (a_wFaces : Nat) (a_wTurns : Nat) (a_wSign : Nat) (a_wBy : Nat) (a_wFell : Nat) (a_telling : Nat) (a_sizes : Nat) (a_elements : Nat) (a_moved : Nat) (a_above : Nat) (a_out : Nat) (a_first : Nat) (c_t : Nat → Int32) (c_holds : Nat → Int32) (c_now : Nat → Int32) (c_refused : Nat → Int32) : va_W := [(a_t, .inr (6, [.ref a_refused, .ref a_now, .ref a_kept, .ref a_mind, .int (c_t 4), .ref a_tape, .int (c_t 6), .int (c_t 7), .int (c_t 8), .int (c_t 9), .ref a_words, .ref a_wCell, .ref a_wFaces, .ref a_wTurns, .ref a_wSign, .ref a_wBy, .ref a_wFell, .int (c_t 17), .ref a_telling, .ref a_holds, .ref a_sizes, .ref a_elements, .ref a_moved, .ref a_above, .ref a_out, .ref a_first])), (a_holds, .inl (eI E, 8, .inl c_holds)), (a_now, .inl (eI E, 97, .inl c_now)), (a_refused, .inl (eI E, 7, .inl c_refused))]
abbrev r_X6_status : Room := { frames := 1, cells := 0, slots := 0, locals := 25 }
theorem hd_X6_status : yX6_status.cls ≠ "java/lang/invoke/MethodHandle" ∧ yX6_status.cls ≠ "java/lang/invoke/VarHandle" ∧ (parseMethodDescriptor yX6_status.desc).map (fun d => d.parameters.length) = some 1 := by decide +kernel
theorem hV_X6_status : yX6_status.cls = RX6 ∧ yX6_status.cls ≠ "java/lang/invoke/MethodHandle" ∧ yX6_status.cls ≠ "java/lang/invoke/VarHandle" ∧ (parseMethodDescriptor yX6_status.desc).map (fun d => d.parameters.length) = some 1 := ⟨rfl, hd_X6_status⟩
theorem iX6_status_X6 : ∀ w ∈ wsX60, w ∈ wsX6_status := fun _ h => List.mem_cons_of_mem _ (List.mem_append_right _ (h))
section
variable {p : Program} {l : Launch} {e : Env} {s : State} {m : MethodId} {args : Array Value} {below : List Frame} {meth : Method} {c : Code} {E : Env0} {A : Nat → Prop}
set_option maxRecDepth 100000 in
set_option maxHeartbeats 4000000 in
theorem w_X6_status_b103 (X : Ctx p m meth c cX6_status 4 ((some .int)) s args wsX6_status RX6 E A) (a_t : Nat) (a_holds : Nat) (a_now : Nat) (a_refused : Nat) (a_kept : Nat) (a_mind : Nat) (a_tape : Nat) (a_words : Nat) (a_wCell : Nat) (a_wFaces : Nat) (a_wTurns : Nat) (a_wSign : Nat) (a_wBy : Nat) (a_wFell : Nat) (a_telling : Nat) (a_sizes : Nat) (a_elements : Nat) (a_moved : Nat) (a_above : Nat) (a_out : Nat) (a_first : Nat) (c_t : Nat → Int32) (c_holds : Nat → Int32) (c_now : Nat → Int32) (c_refused : Nat → Int32) (res : Int32) : ∀ (n : Nat) (l2 : Int32) (l3 : Int32) (ls : Array Slot) (H : Heap) (locs : List Loc), f_X6_status_b103 c_t c_holds c_now c_refused n l2 l3 = some res → va_P E.1 vwCl (W_X6_status E a_t a_holds a_now a_refused a_kept a_mind a_tape a_words a_wCell a_wFaces a_wTurns a_wSign a_wBy a_wFell a_telling a_sizes a_elements a_moved a_above a_out a_first c_t c_holds c_now c_refused) H → va_D A (W_X6_status E a_t a_holds a_now a_refused a_kept a_mind a_tape a_words a_wCell a_wFaces a_wTurns a_wSign a_wBy a_wFell a_telling a_sizes a_elements a_moved a_above a_out a_first c_t c_holds c_now c_refused) → va_S A s.heap H locs → lv_has ls 4 [(0, .ref a_t), (2, .int l2), (3, .int l3)] → W p l e r_X6_status s m args below meth c H locs 0 0 (MQ below (qI E A res (W_X6_status E a_t a_holds a_now a_refused a_kept a_mind a_tape a_words a_wCell a_wFaces a_wTurns a_wSign a_wBy a_wFell a_telling a_sizes a_elements a_moved a_above a_out a_first c_t c_holds c_now c_refused)) args s 0 0 A) (F0 m 103 ls []) := by
  obtain ⟨hx, hb, hml, hr, hlk, hown, hts, hG, hA⟩ := id X
  have hK := hG.1
  have hN := hG.2.1
  intro n
  induction n with
  | zero =>
    intro l2 l3 ls H locs h
    exact absurd (show (none : Option (Int32)) = some res from h) (by intro q; cases q)
  | succ n ih =>
    intro l2 l3 ls H locs h hP hD hS hl
    rw [f_X6_status_b103] at h
    refine lv_iload_n hx hb dX6_status_103 rfl (lv_at hl 2 rfl) ?_
    refine lv_bipush (v := (49 : Int32)) hx hb dX6_status_104 (by decide) ?_
    refine lv_icmp_ge (tgt := 127) hx hb dX6_status_106 (by decide) (fun hc106 => ?_) (fun hc106 => ?_)
    · have h := if_t h hc106
      refine lv_iload_n hx hb dX6_status_127 rfl (lv_at hl 1 rfl) ?_
      obtain rfl := Option.some.inj h
      exact ret_i X dX6_status_128 hP hD hS rfl
    · have h := if_f h hc106
      refine lv_iload_n hx hb dX6_status_109 rfl (lv_at hl 1 rfl) ?_
      refine lv_aload_n hx hb dX6_status_110 rfl (lv_at hl 0 rfl) ?_
      refine va_get (D := E.1) (ci := 6) (v := .ref a_now) (C := RX6) (T := TX6) (N := 26) hx hb hts iX6_status_X6 hown hK hP 0 rfl rfl 1 (by decide) (hts (.fieldLink RX6 17 "LeftIsAgreedOnModel" "now" "[I") (List.mem_of_getElem? (i := 4) rfl)) (fun _ h9 => h9) rfl dX6_status_111 ?_
      refine lv_bipush (v := (40 : Int32)) hx hb dX6_status_114 (by decide) ?_
      refine lv_iload_n hx hb dX6_status_116 rfl (lv_at hl 2 rfl) ?_
      refine lv_iadd hx hb dX6_status_117 ?_
      obtain ⟨hz118, h⟩ := chk_of h
      refine ld_i X hP 2 rfl (inb.vp hz118) (v := (c_now (((40 : Int32) + l3)).toNatClampNeg)) rfl dX6_status_118 ?_
      refine lv_iadd hx hb dX6_status_119 ?_
      refine lv_istore_n (lv' := [(2, .int (l2 + (c_now (((40 : Int32) + l3)).toNatClampNeg))), (0, .ref a_t), (3, .int l3)]) hx hb dX6_status_120 rfl hl (by decide) rfl (fun ls hl => ?_)
      refine lv_iinc (v := (l3 + (1 : Int32))) (lv' := [(3, .int (l3 + (1 : Int32))), (2, .int (l2 + (c_now (((40 : Int32) + l3)).toNatClampNeg))), (0, .ref a_t)]) hx hb dX6_status_121 hl (k := 2) rfl rfl (by decide) rfl (fun ls hl => ?_)
      refine lv_goto (tgt := 103) hx hb dX6_status_124 (by decide) ?_
      exact ih (l2 + (c_now (((40 : Int32) + l3)).toNatClampNeg)) (l3 + (1 : Int32)) _ _ _ h hP hD hS (lv_sub hl [2, 1, 0] rfl)
set_option maxRecDepth 100000 in
set_option maxHeartbeats 4000000 in
theorem w_X6_status_b179 (X : Ctx p m meth c cX6_status 4 ((some .int)) s args wsX6_status RX6 E A) (a_t : Nat) (a_holds : Nat) (a_now : Nat) (a_refused : Nat) (a_kept : Nat) (a_mind : Nat) (a_tape : Nat) (a_words : Nat) (a_wCell : Nat) (a_wFaces : Nat) (a_wTurns : Nat) (a_wSign : Nat) (a_wBy : Nat) (a_wFell : Nat) (a_telling : Nat) (a_sizes : Nat) (a_elements : Nat) (a_moved : Nat) (a_above : Nat) (a_out : Nat) (a_first : Nat) (c_t : Nat → Int32) (c_holds : Nat → Int32) (c_now : Nat → Int32) (c_refused : Nat → Int32) (res : Int32) (k157 : Int32 → Int32 → Option (Int32)) (hk157 : ∀ (l2 : Int32) (l3 : Int32) (ls : Array Slot) (H : Heap) (locs : List Loc), k157 l2 l3 = some res → va_P E.1 vwCl (W_X6_status E a_t a_holds a_now a_refused a_kept a_mind a_tape a_words a_wCell a_wFaces a_wTurns a_wSign a_wBy a_wFell a_telling a_sizes a_elements a_moved a_above a_out a_first c_t c_holds c_now c_refused) H → va_D A (W_X6_status E a_t a_holds a_now a_refused a_kept a_mind a_tape a_words a_wCell a_wFaces a_wTurns a_wSign a_wBy a_wFell a_telling a_sizes a_elements a_moved a_above a_out a_first c_t c_holds c_now c_refused) → va_S A s.heap H locs → lv_has ls 4 [(0, .ref a_t), (2, .int l2), (3, .int l3)] → W p l e r_X6_status s m args below meth c H locs 0 0 (MQ below (qI E A res (W_X6_status E a_t a_holds a_now a_refused a_kept a_mind a_tape a_words a_wCell a_wFaces a_wTurns a_wSign a_wBy a_wFell a_telling a_sizes a_elements a_moved a_above a_out a_first c_t c_holds c_now c_refused)) args s 0 0 A) (F0 m 157 ls [])) (l3 : Int32) (s0 : Int32) (s1 : Int32) (ls : Array Slot) (H : Heap) (locs : List Loc) (h : f_X6_status_b179 c_t c_holds c_now c_refused k157 l3 s0 s1 = some res) (hP : va_P E.1 vwCl (W_X6_status E a_t a_holds a_now a_refused a_kept a_mind a_tape a_words a_wCell a_wFaces a_wTurns a_wSign a_wBy a_wFell a_telling a_sizes a_elements a_moved a_above a_out a_first c_t c_holds c_now c_refused) H) (hD : va_D A (W_X6_status E a_t a_holds a_now a_refused a_kept a_mind a_tape a_words a_wCell a_wFaces a_wTurns a_wSign a_wBy a_wFell a_telling a_sizes a_elements a_moved a_above a_out a_first c_t c_holds c_now c_refused)) (hS : va_S A s.heap H locs) (hl : lv_has ls 4 [(0, .ref a_t), (3, .int l3)]) : W p l e r_X6_status s m args below meth c H locs 0 0 (MQ below (qI E A res (W_X6_status E a_t a_holds a_now a_refused a_kept a_mind a_tape a_words a_wCell a_wFaces a_wTurns a_wSign a_wBy a_wFell a_telling a_sizes a_elements a_moved a_above a_out a_first c_t c_holds c_now c_refused)) args s 0 0 A) (F0 m 179 ls [.int s0, .int s1]) := by
  obtain ⟨hx, hb, hml, hr, hlk, hown, hts, hG, hA⟩ := id X
  have hK := hG.1
  have hN := hG.2.1
  unfold f_X6_status_b179 at h
  refine lv_iadd hx hb dX6_status_179 ?_
  refine lv_istore_n (lv' := [(2, .int (s1 + s0)), (0, .ref a_t), (3, .int l3)]) hx hb dX6_status_180 rfl hl (by decide) rfl (fun ls hl => ?_)
  refine lv_iinc (v := (l3 + (1 : Int32))) (lv' := [(3, .int (l3 + (1 : Int32))), (2, .int (s1 + s0)), (0, .ref a_t)]) hx hb dX6_status_181 hl (k := 2) rfl rfl (by decide) rfl (fun ls hl => ?_)
  refine lv_goto (tgt := 157) hx hb dX6_status_184 (by decide) ?_
  exact hk157 (s1 + s0) (l3 + (1 : Int32)) _ _ _ h hP hD hS (lv_sub hl [2, 1, 0] rfl)
set_option maxRecDepth 100000 in
set_option maxHeartbeats 4000000 in
theorem w_X6_status_b157 (X : Ctx p m meth c cX6_status 4 ((some .int)) s args wsX6_status RX6 E A) (a_t : Nat) (a_holds : Nat) (a_now : Nat) (a_refused : Nat) (a_kept : Nat) (a_mind : Nat) (a_tape : Nat) (a_words : Nat) (a_wCell : Nat) (a_wFaces : Nat) (a_wTurns : Nat) (a_wSign : Nat) (a_wBy : Nat) (a_wFell : Nat) (a_telling : Nat) (a_sizes : Nat) (a_elements : Nat) (a_moved : Nat) (a_above : Nat) (a_out : Nat) (a_first : Nat) (c_t : Nat → Int32) (c_holds : Nat → Int32) (c_now : Nat → Int32) (c_refused : Nat → Int32) (res : Int32) : ∀ (n : Nat) (l2 : Int32) (l3 : Int32) (ls : Array Slot) (H : Heap) (locs : List Loc), f_X6_status_b157 c_t c_holds c_now c_refused n l2 l3 = some res → va_P E.1 vwCl (W_X6_status E a_t a_holds a_now a_refused a_kept a_mind a_tape a_words a_wCell a_wFaces a_wTurns a_wSign a_wBy a_wFell a_telling a_sizes a_elements a_moved a_above a_out a_first c_t c_holds c_now c_refused) H → va_D A (W_X6_status E a_t a_holds a_now a_refused a_kept a_mind a_tape a_words a_wCell a_wFaces a_wTurns a_wSign a_wBy a_wFell a_telling a_sizes a_elements a_moved a_above a_out a_first c_t c_holds c_now c_refused) → va_S A s.heap H locs → lv_has ls 4 [(0, .ref a_t), (2, .int l2), (3, .int l3)] → W p l e r_X6_status s m args below meth c H locs 0 0 (MQ below (qI E A res (W_X6_status E a_t a_holds a_now a_refused a_kept a_mind a_tape a_words a_wCell a_wFaces a_wTurns a_wSign a_wBy a_wFell a_telling a_sizes a_elements a_moved a_above a_out a_first c_t c_holds c_now c_refused)) args s 0 0 A) (F0 m 157 ls []) := by
  obtain ⟨hx, hb, hml, hr, hlk, hown, hts, hG, hA⟩ := id X
  have hK := hG.1
  have hN := hG.2.1
  intro n
  induction n with
  | zero =>
    intro l2 l3 ls H locs h
    exact absurd (show (none : Option (Int32)) = some res from h) (by intro q; cases q)
  | succ n ih =>
    intro l2 l3 ls H locs h hP hD hS hl
    rw [f_X6_status_b157] at h
    refine lv_iload_n hx hb dX6_status_157 rfl (lv_at hl 2 rfl) ?_
    refine lv_bipush (v := (8 : Int32)) hx hb dX6_status_158 (by decide) ?_
    refine lv_icmp_ge (tgt := 187) hx hb dX6_status_160 (by decide) (fun hc160 => ?_) (fun hc160 => ?_)
    · have h := if_t h hc160
      refine lv_iload_n hx hb dX6_status_187 rfl (lv_at hl 1 rfl) ?_
      obtain rfl := Option.some.inj h
      exact ret_i X dX6_status_188 hP hD hS rfl
    · have h := if_f h hc160
      refine lv_iload_n hx hb dX6_status_163 rfl (lv_at hl 1 rfl) ?_
      refine lv_aload_n hx hb dX6_status_164 rfl (lv_at hl 0 rfl) ?_
      refine va_get (D := E.1) (ci := 6) (v := .ref a_holds) (C := RX6) (T := TX6) (N := 26) hx hb hts iX6_status_X6 hown hK hP 0 rfl rfl 19 (by decide) (hts (.fieldLink RX6 54 "LeftIsAgreedOnModel" "holds" "[I") (List.mem_of_getElem? (i := 6) rfl)) (fun _ h9 => h9) rfl dX6_status_165 ?_
      refine lv_iload_n hx hb dX6_status_168 rfl (lv_at hl 2 rfl) ?_
      obtain ⟨hz169, h⟩ := chk_of h
      refine ld_i X hP 1 rfl (inb.vp hz169) (v := (c_holds (l3).toNatClampNeg)) rfl dX6_status_169 ?_
      refine lv_iconst (v := (-1 : Int32)) hx hb dX6_status_170 (by decide) ?_
      refine lv_icmp_ne (tgt := 178) hx hb dX6_status_171 (by decide) (fun hc171 => ?_) (fun hc171 => ?_)
      · have h := if_f h hc171
        refine lv_iconst (v := (1 : Int32)) hx hb dX6_status_178 (by decide) ?_
        exact w_X6_status_b179 X a_t a_holds a_now a_refused a_kept a_mind a_tape a_words a_wCell a_wFaces a_wTurns a_wSign a_wBy a_wFell a_telling a_sizes a_elements a_moved a_above a_out a_first c_t c_holds c_now c_refused res (f_X6_status_b157 c_t c_holds c_now c_refused n) ih l3 (1 : Int32) l2 _ _ _ h hP hD hS (lv_sub hl [0, 2] rfl)
      · have h := if_t h hc171
        refine lv_iconst (v := (0 : Int32)) hx hb dX6_status_174 (by decide) ?_
        refine lv_goto (tgt := 179) hx hb dX6_status_175 (by decide) ?_
        exact w_X6_status_b179 X a_t a_holds a_now a_refused a_kept a_mind a_tape a_words a_wCell a_wFaces a_wTurns a_wSign a_wBy a_wFell a_telling a_sizes a_elements a_moved a_above a_out a_first c_t c_holds c_now c_refused res (f_X6_status_b157 c_t c_holds c_now c_refused n) ih l3 (0 : Int32) l2 _ _ _ h hP hD hS (lv_sub hl [0, 2] rfl)
set_option maxRecDepth 100000 in
set_option maxHeartbeats 4000000 in
theorem w_X6_status (X : Ctx p m meth c cX6_status 4 ((some .int)) s args wsX6_status RX6 E A) (a_t : Nat) (a_holds : Nat) (a_now : Nat) (a_refused : Nat) (a_kept : Nat) (a_mind : Nat) (a_tape : Nat) (a_words : Nat) (a_wCell : Nat) (a_wFaces : Nat) (a_wTurns : Nat) (a_wSign : Nat) (a_wBy : Nat) (a_wFell : Nat) (a_telling : Nat) (a_sizes : Nat) (a_elements : Nat) (a_moved : Nat) (a_above : Nat) (a_out : Nat) (a_first : Nat) (c_t : Nat → Int32) (c_holds : Nat → Int32) (c_now : Nat → Int32) (c_refused : Nat → Int32) (res : Int32) (l1 : Int32) (ls : Array Slot) (H : Heap) (locs : List Loc) (h : f_X6_status l1 c_t c_holds c_now c_refused = some res) (hP : va_P E.1 vwCl (W_X6_status E a_t a_holds a_now a_refused a_kept a_mind a_tape a_words a_wCell a_wFaces a_wTurns a_wSign a_wBy a_wFell a_telling a_sizes a_elements a_moved a_above a_out a_first c_t c_holds c_now c_refused) H) (hD : va_D A (W_X6_status E a_t a_holds a_now a_refused a_kept a_mind a_tape a_words a_wCell a_wFaces a_wTurns a_wSign a_wBy a_wFell a_telling a_sizes a_elements a_moved a_above a_out a_first c_t c_holds c_now c_refused)) (hS : va_S A s.heap H locs) (hl : lv_has ls 4 [(0, .ref a_t), (1, .int l1)]) : W p l e r_X6_status s m args below meth c H locs 0 0 (MQ below (qI E A res (W_X6_status E a_t a_holds a_now a_refused a_kept a_mind a_tape a_words a_wCell a_wFaces a_wTurns a_wSign a_wBy a_wFell a_telling a_sizes a_elements a_moved a_above a_out a_first c_t c_holds c_now c_refused)) args s 0 0 A) (F0 m 0 ls []) := by
  obtain ⟨hx, hb, hml, hr, hlk, hown, hts, hG, hA⟩ := id X
  have hK := hG.1
  have hN := hG.2.1
  unfold f_X6_status at h
  refine lv_iload_n hx hb dX6_status_0 rfl (lv_at hl 1 rfl) ?_
  refine lv_i2l (v := (l1.toInt64)) hx hb dX6_status_1 rfl ?_
  refine lv_ldc2 (v := (12 : Int64)) hx hb hown (hts (.constantLong RX6 122 (12)) (List.mem_of_getElem? (i := 1) rfl)) dX6_status_2 ?_
  refine lv_ldc2 (v := (16 : Int64)) hx hb hown (hts (.constantLong RX6 283 (16)) (List.mem_of_getElem? (i := 2) rfl)) dX6_status_5 ?_
  obtain ⟨v1, hv1, h⟩ := bind_of h
  refine after_i X (run_S X (c_X6_isIn l E (l1.toInt64) (12 : Int64) (16 : Int64) H.size v1 hv1) (va_cwS 3 hts gX6_status_X6_isIn rfl rfl rfl hd_X6_isIn ⟨(Nat.le_of_ble_eq_true rfl), (Nat.le_of_ble_eq_true rfl)⟩) hP hD hS [] rfl rfl hl.1 (rest := []) rfl rfl (Nat.le_of_ble_eq_true rfl) dX6_status_8) hP hD hS [] [0, 1, 2, 3] [0, 1, 2, 3] rfl rfl rfl (by decide) rfl (ws1 := (W_X6_status E a_t a_holds a_now a_refused a_kept a_mind a_tape a_words a_wCell a_wFaces a_wTurns a_wSign a_wBy a_wFell a_telling a_sizes a_elements a_moved a_above a_out a_first c_t c_holds c_now c_refused)) rfl (fun H locs hP hD hS => ?_)
  refine lv_if_eq (tgt := 24) hx hb dX6_status_11 (by decide) (fun hc11 => ?_) (fun hc11 => ?_)
  · have h := if_t h hc11
    refine lv_iconst (v := (0 : Int32)) hx hb dX6_status_24 (by decide) ?_
    refine lv_istore_n (lv' := [(2, .int (0 : Int32)), (0, .ref a_t), (1, .int l1)]) hx hb dX6_status_25 rfl hl (by decide) rfl (fun ls hl => ?_)
    refine lv_iload_n hx hb dX6_status_26 rfl (lv_at hl 2 rfl) ?_
    by_cases hs27_0 : l1 = (0 : Int32)
    · have h := if_t h hs27_0
      refine lv_tableIn (off := (57)) (tgt := 84) hx hb dX6_status_27 (by rw [hs27_0]; decide) (by rw [hs27_0]; decide) (by rw [hs27_0]; rfl) (by decide) ?_
      refine lv_aload_n hx hb dX6_status_84 rfl (lv_at hl 1 rfl) ?_
      obtain ⟨v2, hv2, h⟩ := bind_of h
      refine after_i X (run_V X (c_X6_many l E a_t a_now a_refused a_kept a_mind a_tape a_words a_wCell a_wFaces a_wTurns a_wSign a_wBy a_wFell a_telling a_holds a_sizes a_elements a_moved a_above a_out a_first c_t c_now H.size v2 hv2) (cwV 0 hts gX6_status_X6_many rfl rfl rfl hV_X6_many ⟨(Nat.le_of_ble_eq_true rfl), (Nat.le_of_ble_eq_true rfl)⟩) hP hD hS [0, 2] rfl rfl hl.1 (ci := 6) rfl rfl rfl (rest := []) rfl rfl (Nat.le_of_ble_eq_true rfl) dX6_status_85) hP hD hS [0, 2] [1, 3] [2, 0, 3, 1] rfl rfl rfl (by decide) rfl (ws1 := (W_X6_status E a_t a_holds a_now a_refused a_kept a_mind a_tape a_words a_wCell a_wFaces a_wTurns a_wSign a_wBy a_wFell a_telling a_sizes a_elements a_moved a_above a_out a_first c_t c_holds c_now c_refused)) rfl (fun H locs hP hD hS => ?_)
      obtain rfl := Option.some.inj h
      exact ret_i X dX6_status_88 hP hD hS rfl
    · have h := if_f h hs27_0
      by_cases hs27_1 : l1 = (1 : Int32)
      · have h := if_t h hs27_1
        refine lv_tableIn (off := (62)) (tgt := 89) hx hb dX6_status_27 (by rw [hs27_1]; decide) (by rw [hs27_1]; decide) (by rw [hs27_1]; rfl) (by decide) ?_
        refine lv_aload_n hx hb dX6_status_89 rfl (lv_at hl 1 rfl) ?_
        refine va_get (D := E.1) (ci := 6) (v := .ref a_now) (C := RX6) (T := TX6) (N := 26) hx hb hts iX6_status_X6 hown hK hP 0 rfl rfl 1 (by decide) (hts (.fieldLink RX6 17 "LeftIsAgreedOnModel" "now" "[I") (List.mem_of_getElem? (i := 4) rfl)) (fun _ h9 => h9) rfl dX6_status_90 ?_
        refine lv_bipush (v := (90 : Int32)) hx hb dX6_status_93 (by decide) ?_
        refine lv_iload_n hx hb dX6_status_95 rfl (lv_at hl 2 rfl) ?_
        refine lv_iadd hx hb dX6_status_96 ?_
        refine lv_iconst (v := (1 : Int32)) hx hb dX6_status_97 (by decide) ?_
        refine lv_isub hx hb dX6_status_98 ?_
        obtain ⟨hz99, h⟩ := chk_of h
        refine ld_i X hP 2 rfl (inb.vp hz99) (v := (c_now ((((90 : Int32) + l1) - (1 : Int32))).toNatClampNeg)) rfl dX6_status_99 ?_
        obtain rfl := Option.some.inj h
        exact ret_i X dX6_status_100 hP hD hS rfl
      · have h := if_f h hs27_1
        by_cases hs27_2 : l1 = (2 : Int32)
        · have h := if_t h hs27_2
          refine lv_tableIn (off := (62)) (tgt := 89) hx hb dX6_status_27 (by rw [hs27_2]; decide) (by rw [hs27_2]; decide) (by rw [hs27_2]; rfl) (by decide) ?_
          refine lv_aload_n hx hb dX6_status_89 rfl (lv_at hl 1 rfl) ?_
          refine va_get (D := E.1) (ci := 6) (v := .ref a_now) (C := RX6) (T := TX6) (N := 26) hx hb hts iX6_status_X6 hown hK hP 0 rfl rfl 1 (by decide) (hts (.fieldLink RX6 17 "LeftIsAgreedOnModel" "now" "[I") (List.mem_of_getElem? (i := 4) rfl)) (fun _ h9 => h9) rfl dX6_status_90 ?_
          refine lv_bipush (v := (90 : Int32)) hx hb dX6_status_93 (by decide) ?_
          refine lv_iload_n hx hb dX6_status_95 rfl (lv_at hl 2 rfl) ?_
          refine lv_iadd hx hb dX6_status_96 ?_
          refine lv_iconst (v := (1 : Int32)) hx hb dX6_status_97 (by decide) ?_
          refine lv_isub hx hb dX6_status_98 ?_
          obtain ⟨hz99, h⟩ := chk_of h
          refine ld_i X hP 2 rfl (inb.vp hz99) (v := (c_now ((((90 : Int32) + l1) - (1 : Int32))).toNatClampNeg)) rfl dX6_status_99 ?_
          obtain rfl := Option.some.inj h
          exact ret_i X dX6_status_100 hP hD hS rfl
        · have h := if_f h hs27_2
          by_cases hs27_3 : l1 = (3 : Int32)
          · have h := if_t h hs27_3
            refine lv_tableIn (off := (62)) (tgt := 89) hx hb dX6_status_27 (by rw [hs27_3]; decide) (by rw [hs27_3]; decide) (by rw [hs27_3]; rfl) (by decide) ?_
            refine lv_aload_n hx hb dX6_status_89 rfl (lv_at hl 1 rfl) ?_
            refine va_get (D := E.1) (ci := 6) (v := .ref a_now) (C := RX6) (T := TX6) (N := 26) hx hb hts iX6_status_X6 hown hK hP 0 rfl rfl 1 (by decide) (hts (.fieldLink RX6 17 "LeftIsAgreedOnModel" "now" "[I") (List.mem_of_getElem? (i := 4) rfl)) (fun _ h9 => h9) rfl dX6_status_90 ?_
            refine lv_bipush (v := (90 : Int32)) hx hb dX6_status_93 (by decide) ?_
            refine lv_iload_n hx hb dX6_status_95 rfl (lv_at hl 2 rfl) ?_
            refine lv_iadd hx hb dX6_status_96 ?_
            refine lv_iconst (v := (1 : Int32)) hx hb dX6_status_97 (by decide) ?_
            refine lv_isub hx hb dX6_status_98 ?_
            obtain ⟨hz99, h⟩ := chk_of h
            refine ld_i X hP 2 rfl (inb.vp hz99) (v := (c_now ((((90 : Int32) + l1) - (1 : Int32))).toNatClampNeg)) rfl dX6_status_99 ?_
            obtain rfl := Option.some.inj h
            exact ret_i X dX6_status_100 hP hD hS rfl
          · have h := if_f h hs27_3
            by_cases hs27_4 : l1 = (4 : Int32)
            · have h := if_t h hs27_4
              refine lv_tableIn (off := (62)) (tgt := 89) hx hb dX6_status_27 (by rw [hs27_4]; decide) (by rw [hs27_4]; decide) (by rw [hs27_4]; rfl) (by decide) ?_
              refine lv_aload_n hx hb dX6_status_89 rfl (lv_at hl 1 rfl) ?_
              refine va_get (D := E.1) (ci := 6) (v := .ref a_now) (C := RX6) (T := TX6) (N := 26) hx hb hts iX6_status_X6 hown hK hP 0 rfl rfl 1 (by decide) (hts (.fieldLink RX6 17 "LeftIsAgreedOnModel" "now" "[I") (List.mem_of_getElem? (i := 4) rfl)) (fun _ h9 => h9) rfl dX6_status_90 ?_
              refine lv_bipush (v := (90 : Int32)) hx hb dX6_status_93 (by decide) ?_
              refine lv_iload_n hx hb dX6_status_95 rfl (lv_at hl 2 rfl) ?_
              refine lv_iadd hx hb dX6_status_96 ?_
              refine lv_iconst (v := (1 : Int32)) hx hb dX6_status_97 (by decide) ?_
              refine lv_isub hx hb dX6_status_98 ?_
              obtain ⟨hz99, h⟩ := chk_of h
              refine ld_i X hP 2 rfl (inb.vp hz99) (v := (c_now ((((90 : Int32) + l1) - (1 : Int32))).toNatClampNeg)) rfl dX6_status_99 ?_
              obtain rfl := Option.some.inj h
              exact ret_i X dX6_status_100 hP hD hS rfl
            · have h := if_f h hs27_4
              by_cases hs27_5 : l1 = (5 : Int32)
              · have h := if_t h hs27_5
                refine lv_tableIn (off := (74)) (tgt := 101) hx hb dX6_status_27 (by rw [hs27_5]; decide) (by rw [hs27_5]; decide) (by rw [hs27_5]; rfl) (by decide) ?_
                refine lv_iconst (v := (0 : Int32)) hx hb dX6_status_101 (by decide) ?_
                refine lv_istore_n (lv' := [(3, .int (0 : Int32)), (2, .int (0 : Int32)), (0, .ref a_t), (1, .int l1)]) hx hb dX6_status_102 rfl hl (by decide) rfl (fun ls hl => ?_)
                exact w_X6_status_b103 X a_t a_holds a_now a_refused a_kept a_mind a_tape a_words a_wCell a_wFaces a_wTurns a_wSign a_wBy a_wFell a_telling a_sizes a_elements a_moved a_above a_out a_first c_t c_holds c_now c_refused res FU (0 : Int32) (0 : Int32) _ _ _ h hP hD hS (lv_sub hl [2, 1, 0] rfl)
              · have h := if_f h hs27_5
                by_cases hs27_6 : l1 = (6 : Int32)
                · have h := if_t h hs27_6
                  refine lv_tableIn (off := (102)) (tgt := 129) hx hb dX6_status_27 (by rw [hs27_6]; decide) (by rw [hs27_6]; decide) (by rw [hs27_6]; rfl) (by decide) ?_
                  refine lv_aload_n hx hb dX6_status_129 rfl (lv_at hl 1 rfl) ?_
                  refine va_get (D := E.1) (ci := 6) (v := .ref a_now) (C := RX6) (T := TX6) (N := 26) hx hb hts iX6_status_X6 hown hK hP 0 rfl rfl 1 (by decide) (hts (.fieldLink RX6 17 "LeftIsAgreedOnModel" "now" "[I") (List.mem_of_getElem? (i := 4) rfl)) (fun _ h9 => h9) rfl dX6_status_130 ?_
                  refine lv_bipush (v := (94 : Int32)) hx hb dX6_status_133 (by decide) ?_
                  refine lv_iload_n hx hb dX6_status_135 rfl (lv_at hl 2 rfl) ?_
                  refine lv_iadd hx hb dX6_status_136 ?_
                  refine lv_bipush (v := (6 : Int32)) hx hb dX6_status_137 (by decide) ?_
                  refine lv_isub hx hb dX6_status_139 ?_
                  obtain ⟨hz140, h⟩ := chk_of h
                  refine ld_i X hP 2 rfl (inb.vp hz140) (v := (c_now ((((94 : Int32) + l1) - (6 : Int32))).toNatClampNeg)) rfl dX6_status_140 ?_
                  obtain rfl := Option.some.inj h
                  exact ret_i X dX6_status_141 hP hD hS rfl
                · have h := if_f h hs27_6
                  by_cases hs27_7 : l1 = (7 : Int32)
                  · have h := if_t h hs27_7
                    refine lv_tableIn (off := (102)) (tgt := 129) hx hb dX6_status_27 (by rw [hs27_7]; decide) (by rw [hs27_7]; decide) (by rw [hs27_7]; rfl) (by decide) ?_
                    refine lv_aload_n hx hb dX6_status_129 rfl (lv_at hl 1 rfl) ?_
                    refine va_get (D := E.1) (ci := 6) (v := .ref a_now) (C := RX6) (T := TX6) (N := 26) hx hb hts iX6_status_X6 hown hK hP 0 rfl rfl 1 (by decide) (hts (.fieldLink RX6 17 "LeftIsAgreedOnModel" "now" "[I") (List.mem_of_getElem? (i := 4) rfl)) (fun _ h9 => h9) rfl dX6_status_130 ?_
                    refine lv_bipush (v := (94 : Int32)) hx hb dX6_status_133 (by decide) ?_
                    refine lv_iload_n hx hb dX6_status_135 rfl (lv_at hl 2 rfl) ?_
                    refine lv_iadd hx hb dX6_status_136 ?_
                    refine lv_bipush (v := (6 : Int32)) hx hb dX6_status_137 (by decide) ?_
                    refine lv_isub hx hb dX6_status_139 ?_
                    obtain ⟨hz140, h⟩ := chk_of h
                    refine ld_i X hP 2 rfl (inb.vp hz140) (v := (c_now ((((94 : Int32) + l1) - (6 : Int32))).toNatClampNeg)) rfl dX6_status_140 ?_
                    obtain rfl := Option.some.inj h
                    exact ret_i X dX6_status_141 hP hD hS rfl
                  · have h := if_f h hs27_7
                    by_cases hs27_8 : l1 = (8 : Int32)
                    · have h := if_t h hs27_8
                      refine lv_tableIn (off := (115)) (tgt := 142) hx hb dX6_status_27 (by rw [hs27_8]; decide) (by rw [hs27_8]; decide) (by rw [hs27_8]; rfl) (by decide) ?_
                      refine lv_aload_n hx hb dX6_status_142 rfl (lv_at hl 1 rfl) ?_
                      refine va_get (D := E.1) (ci := 6) (v := .int (c_t 6)) (C := RX6) (T := TX6) (N := 26) hx hb hts iX6_status_X6 hown hK hP 0 rfl rfl 6 (by decide) (hts (.fieldLink RX6 132 "LeftIsAgreedOnModel" "size" "I") (List.mem_of_getElem? (i := 5) rfl)) (fun _ h9 => h9) rfl dX6_status_143 ?_
                      obtain rfl := Option.some.inj h
                      exact ret_i X dX6_status_146 hP hD hS rfl
                    · have h := if_f h hs27_8
                      by_cases hs27_9 : l1 = (9 : Int32)
                      · have h := if_t h hs27_9
                        refine lv_tableIn (off := (120)) (tgt := 147) hx hb dX6_status_27 (by rw [hs27_9]; decide) (by rw [hs27_9]; decide) (by rw [hs27_9]; rfl) (by decide) ?_
                        refine lv_aload_n hx hb dX6_status_147 rfl (lv_at hl 1 rfl) ?_
                        refine va_get (D := E.1) (ci := 6) (v := .ref a_now) (C := RX6) (T := TX6) (N := 26) hx hb hts iX6_status_X6 hown hK hP 0 rfl rfl 1 (by decide) (hts (.fieldLink RX6 17 "LeftIsAgreedOnModel" "now" "[I") (List.mem_of_getElem? (i := 4) rfl)) (fun _ h9 => h9) rfl dX6_status_148 ?_
                        refine lv_bipush (v := (96 : Int32)) hx hb dX6_status_151 (by decide) ?_
                        refine ld_i X hP 2 rfl (inb.vp (by decide)) (v := (c_now 96)) rfl dX6_status_153 ?_
                        obtain rfl := Option.some.inj h
                        exact ret_i X dX6_status_154 hP hD hS rfl
                      · have h := if_f h hs27_9
                        by_cases hs27_10 : l1 = (10 : Int32)
                        · have h := if_t h hs27_10
                          refine lv_tableIn (off := (128)) (tgt := 155) hx hb dX6_status_27 (by rw [hs27_10]; decide) (by rw [hs27_10]; decide) (by rw [hs27_10]; rfl) (by decide) ?_
                          refine lv_iconst (v := (0 : Int32)) hx hb dX6_status_155 (by decide) ?_
                          refine lv_istore_n (lv' := [(3, .int (0 : Int32)), (2, .int (0 : Int32)), (0, .ref a_t), (1, .int l1)]) hx hb dX6_status_156 rfl hl (by decide) rfl (fun ls hl => ?_)
                          exact w_X6_status_b157 X a_t a_holds a_now a_refused a_kept a_mind a_tape a_words a_wCell a_wFaces a_wTurns a_wSign a_wBy a_wFell a_telling a_sizes a_elements a_moved a_above a_out a_first c_t c_holds c_now c_refused res FU (0 : Int32) (0 : Int32) _ _ _ h hP hD hS (lv_sub hl [2, 1, 0] rfl)
                        · have h := if_f h hs27_10
                          refine lv_tableOut (tgt := 189) hx hb dX6_status_27 (tsw_0_10 hs27_0 hs27_1 hs27_2 hs27_3 hs27_4 hs27_5 hs27_6 hs27_7 hs27_8 hs27_9 hs27_10) (by decide) ?_
                          refine lv_iconst (v := (-1 : Int32)) hx hb dX6_status_189 (by decide) ?_
                          obtain rfl := Option.some.inj h
                          exact ret_i X dX6_status_190 hP hD hS rfl
  · have h := if_f h hc11
    refine lv_aload_n hx hb dX6_status_14 rfl (lv_at hl 0 rfl) ?_
    refine va_get (D := E.1) (ci := 6) (v := .ref a_refused) (C := RX6) (T := TX6) (N := 26) hx hb hts iX6_status_X6 hown hK hP 0 rfl rfl 0 (by decide) (hts (.fieldLink RX6 7 "LeftIsAgreedOnModel" "refused" "[I") (List.mem_of_getElem? (i := 3) rfl)) (fun _ h9 => h9) rfl dX6_status_15 ?_
    refine lv_iload_n hx hb dX6_status_18 rfl (lv_at hl 1 rfl) ?_
    refine lv_bipush (v := (10 : Int32)) hx hb dX6_status_19 (by decide) ?_
    refine lv_isub hx hb dX6_status_21 ?_
    obtain ⟨hz22, h⟩ := chk_of h
    refine ld_i X hP 3 rfl (inb.vp hz22) (v := (c_refused ((l1 - (10 : Int32))).toNatClampNeg)) rfl dX6_status_22 ?_
    obtain rfl := Option.some.inj h
    exact ret_i X dX6_status_23 hP hD hS rfl
end
set_option maxRecDepth 100000 in
theorem c_X6_status (l : Launch) (E : Env0) (a_t : Nat) (a_holds : Nat) (a_now : Nat) (a_refused : Nat) (a_kept : Nat) (a_mind : Nat) (a_tape : Nat) (a_words : Nat) (a_wCell : Nat) (a_wFaces : Nat) (a_wTurns : Nat) (a_wSign : Nat) (a_wBy : Nat) (a_wFell : Nat) (a_telling : Nat) (a_sizes : Nat) (a_elements : Nat) (a_moved : Nat) (a_above : Nat) (a_out : Nat) (a_first : Nat) (l1 : Int32) (c_t : Nat → Int32) (c_holds : Nat → Int32) (c_now : Nat → Int32) (c_refused : Nat → Int32) (sz : Nat) (res : Int32) (h : f_X6_status l1 c_t c_holds c_now c_refused = some res) : Met l yX6_status wsX6_status r_X6_status (cPre E [.ref a_t, .int l1] (W_X6_status E a_t a_holds a_now a_refused a_kept a_mind a_tape a_words a_wCell a_wFaces a_wTurns a_wSign a_wBy a_wFell a_telling a_sizes a_elements a_moved a_above a_out a_first c_t c_holds c_now c_refused) sz) (qI E (va_A (W_X6_status E a_t a_holds a_now a_refused a_kept a_mind a_tape a_words a_wCell a_wFaces a_wTurns a_wSign a_wBy a_wFell a_telling a_sizes a_elements a_moved a_above a_out a_first c_t c_holds c_now c_refused) sz) res (W_X6_status E a_t a_holds a_now a_refused a_kept a_mind a_tape a_words a_wCell a_wFaces a_wTurns a_wSign a_wBy a_wFell a_telling a_sizes a_elements a_moved a_above a_out a_first c_t c_holds c_now c_refused)) 0 0 (va_A (W_X6_status E a_t a_holds a_now a_refused a_kept a_mind a_tape a_words a_wCell a_wFaces a_wTurns a_wSign a_wBy a_wFell a_telling a_sizes a_elements a_moved a_above a_out a_first c_t c_holds c_now c_refused) sz) :=
  met_of (Qc := fun A => qI E A res (W_X6_status E a_t a_holds a_now a_refused a_kept a_mind a_tape a_words a_wCell a_wFaces a_wTurns a_wSign a_wBy a_wFell a_telling a_sizes a_elements a_moved a_above a_out a_first c_t c_holds c_now c_refused)) (by decide) rfl (Nat.le_of_ble_eq_true rfl) (fun p e s m args below meth c X hP hD hS ls hl => w_X6_status X a_t a_holds a_now a_refused a_kept a_mind a_tape a_words a_wCell a_wFaces a_wTurns a_wSign a_wBy a_wFell a_telling a_sizes a_elements a_moved a_above a_out a_first c_t c_holds c_now c_refused res l1 ls _ _ h hP hD hS hl)
