-- ===== X6_shore
noncomputable abbrev W_X6_shore (E : Env0) (a_t : Nat) (a_now : Nat) (a_refused : Nat) (a_kept : Nat) (a_mind : Nat) (a_tape : Nat) (a_words : Nat) (a_wCell : Nat) (a_wFaces : Nat) (a_wTurns : Nat) (a_wSign : Nat) (a_wBy : Nat) (a_wFell : Nat) (a_telling : Nat) (a_holds : Nat) (a_sizes : Nat) (a_elements : Nat) (a_moved : Nat) (a_above : Nat) (a_out : Nat) (a_first : Nat) (c_t : Nat → Int32) (c_now : Nat → Int32) : va_W := [(a_t, .inr (6, [.ref a_refused, .ref a_now, .ref a_kept, .ref a_mind, .int (c_t 4), .ref a_tape, .int (c_t 6), .int (c_t 7), .int (c_t 8), .int (c_t 9), .ref a_words, .ref a_wCell, .ref a_wFaces, .ref a_wTurns, .ref a_wSign, .ref a_wBy, .ref a_wFell, .int (c_t 17), .ref a_telling, .ref a_holds, .ref a_sizes, .ref a_elements, .ref a_moved, .ref a_above, .ref a_out, .ref a_first])), (a_now, .inl (eI E, 97, .inl c_now))]
noncomputable abbrev r_X6_shore : Room := { frames := 3, cells := 0, slots := 0, locals := 73 }
theorem hd_X6_shore : yX6_shore.cls ≠ "java/lang/invoke/MethodHandle" ∧ yX6_shore.cls ≠ "java/lang/invoke/VarHandle" ∧ (parseMethodDescriptor yX6_shore.desc).map (fun d => d.parameters.length) = some 0 := by decide +kernel
theorem hV_X6_shore : yX6_shore.cls = RX6 ∧ yX6_shore.cls ≠ "java/lang/invoke/MethodHandle" ∧ yX6_shore.cls ≠ "java/lang/invoke/VarHandle" ∧ (parseMethodDescriptor yX6_shore.desc).map (fun d => d.parameters.length) = some 0 := ⟨rfl, hd_X6_shore⟩
section
variable {p : Program} {l : Launch} {e : Env} {s : State} {m : MethodId} {args : Array Value} {below : List Frame} {meth : Method} {c : Code} {E : Env0} {A : Nat → Prop}
set_option maxRecDepth 100000 in
set_option maxHeartbeats 4000000 in
theorem w_X6_shore_b40 (X : Ctx p m meth c cX6_shore 3 ((some .int)) s args wsX6_shore RX6 E A) (a_t : Nat) (a_now : Nat) (a_refused : Nat) (a_kept : Nat) (a_mind : Nat) (a_tape : Nat) (a_words : Nat) (a_wCell : Nat) (a_wFaces : Nat) (a_wTurns : Nat) (a_wSign : Nat) (a_wBy : Nat) (a_wFell : Nat) (a_telling : Nat) (a_holds : Nat) (a_sizes : Nat) (a_elements : Nat) (a_moved : Nat) (a_above : Nat) (a_out : Nat) (a_first : Nat) (c_t : Nat → Int32) (c_now : Nat → Int32) (res : Int32) (k4 : Int32 → Int32 → Option (Int32)) (hk4 : ∀ (l1 : Int32) (l2 : Int32) (ls : Array Slot) (H : Heap) (locs : List Loc), k4 l1 l2 = some res → va_P E.1 vwCl (W_X6_shore E a_t a_now a_refused a_kept a_mind a_tape a_words a_wCell a_wFaces a_wTurns a_wSign a_wBy a_wFell a_telling a_holds a_sizes a_elements a_moved a_above a_out a_first c_t c_now) H → va_D A (W_X6_shore E a_t a_now a_refused a_kept a_mind a_tape a_words a_wCell a_wFaces a_wTurns a_wSign a_wBy a_wFell a_telling a_holds a_sizes a_elements a_moved a_above a_out a_first c_t c_now) → va_S A s.heap H locs → lv_has ls 3 [(0, .ref a_t), (1, .int l1), (2, .int l2)] → W p l e r_X6_shore s m args below meth c H locs 0 0 (MQ below (qI E A res (W_X6_shore E a_t a_now a_refused a_kept a_mind a_tape a_words a_wCell a_wFaces a_wTurns a_wSign a_wBy a_wFell a_telling a_holds a_sizes a_elements a_moved a_above a_out a_first c_t c_now)) args s 0 0 A) (F0 m 4 ls [])) (l2 : Int32) (s0 : Int32) (s1 : Int32) (ls : Array Slot) (H : Heap) (locs : List Loc) (h : f_X6_shore_b40 c_t c_now k4 l2 s0 s1 = some res) (hP : va_P E.1 vwCl (W_X6_shore E a_t a_now a_refused a_kept a_mind a_tape a_words a_wCell a_wFaces a_wTurns a_wSign a_wBy a_wFell a_telling a_holds a_sizes a_elements a_moved a_above a_out a_first c_t c_now) H) (hD : va_D A (W_X6_shore E a_t a_now a_refused a_kept a_mind a_tape a_words a_wCell a_wFaces a_wTurns a_wSign a_wBy a_wFell a_telling a_holds a_sizes a_elements a_moved a_above a_out a_first c_t c_now)) (hS : va_S A s.heap H locs) (hl : lv_has ls 3 [(0, .ref a_t), (2, .int l2)]) : W p l e r_X6_shore s m args below meth c H locs 0 0 (MQ below (qI E A res (W_X6_shore E a_t a_now a_refused a_kept a_mind a_tape a_words a_wCell a_wFaces a_wTurns a_wSign a_wBy a_wFell a_telling a_holds a_sizes a_elements a_moved a_above a_out a_first c_t c_now)) args s 0 0 A) (F0 m 40 ls [.int s0, .int s1]) := by
  obtain ⟨hx, hb, hml, hr, hlk, hown, hts, hG, hA⟩ := id X
  have hK := hG.1
  have hN := hG.2.1
  unfold f_X6_shore_b40 at h
  refine lv_iadd hx hb dX6_shore_40 ?_
  refine lv_istore_n (lv' := [(1, .int (s1 + s0)), (0, .ref a_t), (2, .int l2)]) hx hb dX6_shore_41 rfl hl (by decide) rfl (fun ls hl => ?_)
  refine lv_iinc (v := (l2 + (1 : Int32))) (lv' := [(2, .int (l2 + (1 : Int32))), (1, .int (s1 + s0)), (0, .ref a_t)]) hx hb dX6_shore_42 hl (k := 2) rfl rfl (by decide) rfl (fun ls hl => ?_)
  refine lv_goto (tgt := 4) hx hb dX6_shore_45 (by decide) ?_
  exact hk4 (s1 + s0) (l2 + (1 : Int32)) _ _ _ h hP hD hS (lv_sub hl [2, 1, 0] rfl)
set_option maxRecDepth 100000 in
set_option maxHeartbeats 4000000 in
theorem w_X6_shore_b39 (X : Ctx p m meth c cX6_shore 3 ((some .int)) s args wsX6_shore RX6 E A) (a_t : Nat) (a_now : Nat) (a_refused : Nat) (a_kept : Nat) (a_mind : Nat) (a_tape : Nat) (a_words : Nat) (a_wCell : Nat) (a_wFaces : Nat) (a_wTurns : Nat) (a_wSign : Nat) (a_wBy : Nat) (a_wFell : Nat) (a_telling : Nat) (a_holds : Nat) (a_sizes : Nat) (a_elements : Nat) (a_moved : Nat) (a_above : Nat) (a_out : Nat) (a_first : Nat) (c_t : Nat → Int32) (c_now : Nat → Int32) (res : Int32) (k4 : Int32 → Int32 → Option (Int32)) (hk4 : ∀ (l1 : Int32) (l2 : Int32) (ls : Array Slot) (H : Heap) (locs : List Loc), k4 l1 l2 = some res → va_P E.1 vwCl (W_X6_shore E a_t a_now a_refused a_kept a_mind a_tape a_words a_wCell a_wFaces a_wTurns a_wSign a_wBy a_wFell a_telling a_holds a_sizes a_elements a_moved a_above a_out a_first c_t c_now) H → va_D A (W_X6_shore E a_t a_now a_refused a_kept a_mind a_tape a_words a_wCell a_wFaces a_wTurns a_wSign a_wBy a_wFell a_telling a_holds a_sizes a_elements a_moved a_above a_out a_first c_t c_now) → va_S A s.heap H locs → lv_has ls 3 [(0, .ref a_t), (1, .int l1), (2, .int l2)] → W p l e r_X6_shore s m args below meth c H locs 0 0 (MQ below (qI E A res (W_X6_shore E a_t a_now a_refused a_kept a_mind a_tape a_words a_wCell a_wFaces a_wTurns a_wSign a_wBy a_wFell a_telling a_holds a_sizes a_elements a_moved a_above a_out a_first c_t c_now)) args s 0 0 A) (F0 m 4 ls [])) (l2 : Int32) (s0 : Int32) (ls : Array Slot) (H : Heap) (locs : List Loc) (h : f_X6_shore_b39 c_t c_now k4 l2 s0 = some res) (hP : va_P E.1 vwCl (W_X6_shore E a_t a_now a_refused a_kept a_mind a_tape a_words a_wCell a_wFaces a_wTurns a_wSign a_wBy a_wFell a_telling a_holds a_sizes a_elements a_moved a_above a_out a_first c_t c_now) H) (hD : va_D A (W_X6_shore E a_t a_now a_refused a_kept a_mind a_tape a_words a_wCell a_wFaces a_wTurns a_wSign a_wBy a_wFell a_telling a_holds a_sizes a_elements a_moved a_above a_out a_first c_t c_now)) (hS : va_S A s.heap H locs) (hl : lv_has ls 3 [(0, .ref a_t), (2, .int l2)]) : W p l e r_X6_shore s m args below meth c H locs 0 0 (MQ below (qI E A res (W_X6_shore E a_t a_now a_refused a_kept a_mind a_tape a_words a_wCell a_wFaces a_wTurns a_wSign a_wBy a_wFell a_telling a_holds a_sizes a_elements a_moved a_above a_out a_first c_t c_now)) args s 0 0 A) (F0 m 39 ls [.int s0]) := by
  obtain ⟨hx, hb, hml, hr, hlk, hown, hts, hG, hA⟩ := id X
  have hK := hG.1
  have hN := hG.2.1
  unfold f_X6_shore_b39 at h
  refine lv_iconst (v := (0 : Int32)) hx hb dX6_shore_39 (by decide) ?_
  exact w_X6_shore_b40 X a_t a_now a_refused a_kept a_mind a_tape a_words a_wCell a_wFaces a_wTurns a_wSign a_wBy a_wFell a_telling a_holds a_sizes a_elements a_moved a_above a_out a_first c_t c_now res k4 hk4 l2 (0 : Int32) s0 _ _ _ h hP hD hS (lv_sub hl [0, 1] rfl)
set_option maxRecDepth 100000 in
set_option maxHeartbeats 4000000 in
theorem w_X6_shore_b4 (X : Ctx p m meth c cX6_shore 3 ((some .int)) s args wsX6_shore RX6 E A) (a_t : Nat) (a_now : Nat) (a_refused : Nat) (a_kept : Nat) (a_mind : Nat) (a_tape : Nat) (a_words : Nat) (a_wCell : Nat) (a_wFaces : Nat) (a_wTurns : Nat) (a_wSign : Nat) (a_wBy : Nat) (a_wFell : Nat) (a_telling : Nat) (a_holds : Nat) (a_sizes : Nat) (a_elements : Nat) (a_moved : Nat) (a_above : Nat) (a_out : Nat) (a_first : Nat) (c_t : Nat → Int32) (c_now : Nat → Int32) (res : Int32) : ∀ (n : Nat) (l1 : Int32) (l2 : Int32) (ls : Array Slot) (H : Heap) (locs : List Loc), f_X6_shore_b4 c_t c_now n l1 l2 = some res → va_P E.1 vwCl (W_X6_shore E a_t a_now a_refused a_kept a_mind a_tape a_words a_wCell a_wFaces a_wTurns a_wSign a_wBy a_wFell a_telling a_holds a_sizes a_elements a_moved a_above a_out a_first c_t c_now) H → va_D A (W_X6_shore E a_t a_now a_refused a_kept a_mind a_tape a_words a_wCell a_wFaces a_wTurns a_wSign a_wBy a_wFell a_telling a_holds a_sizes a_elements a_moved a_above a_out a_first c_t c_now) → va_S A s.heap H locs → lv_has ls 3 [(0, .ref a_t), (1, .int l1), (2, .int l2)] → W p l e r_X6_shore s m args below meth c H locs 0 0 (MQ below (qI E A res (W_X6_shore E a_t a_now a_refused a_kept a_mind a_tape a_words a_wCell a_wFaces a_wTurns a_wSign a_wBy a_wFell a_telling a_holds a_sizes a_elements a_moved a_above a_out a_first c_t c_now)) args s 0 0 A) (F0 m 4 ls []) := by
  obtain ⟨hx, hb, hml, hr, hlk, hown, hts, hG, hA⟩ := id X
  have hK := hG.1
  have hN := hG.2.1
  intro n
  induction n with
  | zero =>
    intro l1 l2 ls H locs h
    exact absurd (show (none : Option (Int32)) = some res from h) (by intro q; cases q)
  | succ n ih =>
    intro l1 l2 ls H locs h hP hD hS hl
    rw [f_X6_shore_b4] at h
    refine lv_iload_n hx hb dX6_shore_4 rfl (lv_at hl 2 rfl) ?_
    refine lv_bipush (v := (67 : Int32)) hx hb dX6_shore_5 (by decide) ?_
    refine lv_icmp_ge (tgt := 48) hx hb dX6_shore_7 (by decide) (fun hc7 => ?_) (fun hc7 => ?_)
    · have h := if_t h hc7
      refine lv_iload_n hx hb dX6_shore_48 rfl (lv_at hl 1 rfl) ?_
      obtain rfl := Option.some.inj h
      exact ret_i X dX6_shore_49 hP hD hS rfl
    · have h := if_f h hc7
      refine lv_iload_n hx hb dX6_shore_10 rfl (lv_at hl 1 rfl) ?_
      refine lv_aload_n hx hb dX6_shore_11 rfl (lv_at hl 0 rfl) ?_
      refine lv_iload_n hx hb dX6_shore_12 rfl (lv_at hl 2 rfl) ?_
      obtain ⟨v1, hv1, h⟩ := bind_of h
      refine after_i X (run_V X (c_X6_isCell l E a_t a_now a_refused a_kept a_mind a_tape a_words a_wCell a_wFaces a_wTurns a_wSign a_wBy a_wFell a_telling a_holds a_sizes a_elements a_moved a_above a_out a_first l2 c_t c_now H.size v1 hv1) (cwV 1 hts gX6_shore_X6_isCell rfl rfl rfl hV_X6_isCell ⟨(Nat.le_of_ble_eq_true rfl), (Nat.le_of_ble_eq_true rfl)⟩) hP hD hS [0, 1] rfl rfl hl.1 (ci := 6) rfl rfl rfl (rest := [.int l1]) rfl rfl (Nat.le_of_ble_eq_true rfl) dX6_shore_13) hP hD hS [0, 1] rfl (ws1 := (W_X6_shore E a_t a_now a_refused a_kept a_mind a_tape a_words a_wCell a_wFaces a_wTurns a_wSign a_wBy a_wFell a_telling a_holds a_sizes a_elements a_moved a_above a_out a_first c_t c_now)) rfl (fun H locs hP hD hS => ?_)
      refine lv_if_eq (tgt := 39) hx hb dX6_shore_16 (by decide) (fun hc16 => ?_) (fun hc16 => ?_)
      · have h := if_t h hc16
        exact w_X6_shore_b39 X a_t a_now a_refused a_kept a_mind a_tape a_words a_wCell a_wFaces a_wTurns a_wSign a_wBy a_wFell a_telling a_holds a_sizes a_elements a_moved a_above a_out a_first c_t c_now res (f_X6_shore_b4 c_t c_now n) ih l2 l1 _ _ _ h hP hD hS (lv_sub hl [0, 2] rfl)
      · have h := if_f h hc16
        refine lv_aload_n hx hb dX6_shore_19 rfl (lv_at hl 0 rfl) ?_
        refine lv_iload_n hx hb dX6_shore_20 rfl (lv_at hl 2 rfl) ?_
        obtain ⟨v2, hv2, h⟩ := bind_of h
        refine after_i X (run_V X (c_X6_hasPond l E a_t a_now a_refused a_kept a_mind a_tape a_words a_wCell a_wFaces a_wTurns a_wSign a_wBy a_wFell a_telling a_holds a_sizes a_elements a_moved a_above a_out a_first l2 c_t c_now H.size v2 hv2) (cwV 1 hts gX6_shore_X6_hasPond rfl rfl rfl hV_X6_hasPond ⟨(Nat.le_of_ble_eq_true rfl), (Nat.le_of_ble_eq_true rfl)⟩) hP hD hS [0, 1] rfl rfl hl.1 (ci := 6) rfl rfl rfl (rest := [.int l1]) rfl rfl (Nat.le_of_ble_eq_true rfl) dX6_shore_21) hP hD hS [0, 1] rfl (ws1 := (W_X6_shore E a_t a_now a_refused a_kept a_mind a_tape a_words a_wCell a_wFaces a_wTurns a_wSign a_wBy a_wFell a_telling a_holds a_sizes a_elements a_moved a_above a_out a_first c_t c_now)) rfl (fun H locs hP hD hS => ?_)
        refine lv_if_ne (tgt := 39) hx hb dX6_shore_24 (by decide) (fun hc24 => ?_) (fun hc24 => ?_)
        · have h := if_f h hc24
          exact w_X6_shore_b39 X a_t a_now a_refused a_kept a_mind a_tape a_words a_wCell a_wFaces a_wTurns a_wSign a_wBy a_wFell a_telling a_holds a_sizes a_elements a_moved a_above a_out a_first c_t c_now res (f_X6_shore_b4 c_t c_now n) ih l2 l1 _ _ _ h hP hD hS (lv_sub hl [0, 2] rfl)
        · have h := if_t h hc24
          refine lv_aload_n hx hb dX6_shore_27 rfl (lv_at hl 0 rfl) ?_
          refine lv_iload_n hx hb dX6_shore_28 rfl (lv_at hl 2 rfl) ?_
          obtain ⟨v3, hv3, h⟩ := bind_of h
          refine after_i X (run_V X (c_X6_isShore l E a_t a_now a_refused a_kept a_mind a_tape a_words a_wCell a_wFaces a_wTurns a_wSign a_wBy a_wFell a_telling a_holds a_sizes a_elements a_moved a_above a_out a_first l2 c_t c_now H.size v3 hv3) (cwV 1 hts gX6_shore_X6_isShore rfl rfl rfl hV_X6_isShore ⟨(Nat.le_of_ble_eq_true rfl), (Nat.le_of_ble_eq_true rfl)⟩) hP hD hS [0, 1] rfl rfl hl.1 (ci := 6) rfl rfl rfl (rest := [.int l1]) rfl rfl (Nat.le_of_ble_eq_true rfl) dX6_shore_29) hP hD hS [0, 1] rfl (ws1 := (W_X6_shore E a_t a_now a_refused a_kept a_mind a_tape a_words a_wCell a_wFaces a_wTurns a_wSign a_wBy a_wFell a_telling a_holds a_sizes a_elements a_moved a_above a_out a_first c_t c_now)) rfl (fun H locs hP hD hS => ?_)
          refine lv_if_eq (tgt := 39) hx hb dX6_shore_32 (by decide) (fun hc32 => ?_) (fun hc32 => ?_)
          · have h := if_t h hc32
            exact w_X6_shore_b39 X a_t a_now a_refused a_kept a_mind a_tape a_words a_wCell a_wFaces a_wTurns a_wSign a_wBy a_wFell a_telling a_holds a_sizes a_elements a_moved a_above a_out a_first c_t c_now res (f_X6_shore_b4 c_t c_now n) ih l2 l1 _ _ _ h hP hD hS (lv_sub hl [0, 2] rfl)
          · have h := if_f h hc32
            refine lv_iconst (v := (1 : Int32)) hx hb dX6_shore_35 (by decide) ?_
            refine lv_goto (tgt := 40) hx hb dX6_shore_36 (by decide) ?_
            exact w_X6_shore_b40 X a_t a_now a_refused a_kept a_mind a_tape a_words a_wCell a_wFaces a_wTurns a_wSign a_wBy a_wFell a_telling a_holds a_sizes a_elements a_moved a_above a_out a_first c_t c_now res (f_X6_shore_b4 c_t c_now n) ih l2 (1 : Int32) l1 _ _ _ h hP hD hS (lv_sub hl [0, 2] rfl)
set_option maxRecDepth 100000 in
set_option maxHeartbeats 4000000 in
theorem w_X6_shore (X : Ctx p m meth c cX6_shore 3 ((some .int)) s args wsX6_shore RX6 E A) (a_t : Nat) (a_now : Nat) (a_refused : Nat) (a_kept : Nat) (a_mind : Nat) (a_tape : Nat) (a_words : Nat) (a_wCell : Nat) (a_wFaces : Nat) (a_wTurns : Nat) (a_wSign : Nat) (a_wBy : Nat) (a_wFell : Nat) (a_telling : Nat) (a_holds : Nat) (a_sizes : Nat) (a_elements : Nat) (a_moved : Nat) (a_above : Nat) (a_out : Nat) (a_first : Nat) (c_t : Nat → Int32) (c_now : Nat → Int32) (res : Int32) (ls : Array Slot) (H : Heap) (locs : List Loc) (h : f_X6_shore c_t c_now = some res) (hP : va_P E.1 vwCl (W_X6_shore E a_t a_now a_refused a_kept a_mind a_tape a_words a_wCell a_wFaces a_wTurns a_wSign a_wBy a_wFell a_telling a_holds a_sizes a_elements a_moved a_above a_out a_first c_t c_now) H) (hD : va_D A (W_X6_shore E a_t a_now a_refused a_kept a_mind a_tape a_words a_wCell a_wFaces a_wTurns a_wSign a_wBy a_wFell a_telling a_holds a_sizes a_elements a_moved a_above a_out a_first c_t c_now)) (hS : va_S A s.heap H locs) (hl : lv_has ls 3 [(0, .ref a_t)]) : W p l e r_X6_shore s m args below meth c H locs 0 0 (MQ below (qI E A res (W_X6_shore E a_t a_now a_refused a_kept a_mind a_tape a_words a_wCell a_wFaces a_wTurns a_wSign a_wBy a_wFell a_telling a_holds a_sizes a_elements a_moved a_above a_out a_first c_t c_now)) args s 0 0 A) (F0 m 0 ls []) := by
  obtain ⟨hx, hb, hml, hr, hlk, hown, hts, hG, hA⟩ := id X
  have hK := hG.1
  have hN := hG.2.1
  unfold f_X6_shore at h
  refine lv_iconst (v := (0 : Int32)) hx hb dX6_shore_0 (by decide) ?_
  refine lv_istore_n (lv' := [(1, .int (0 : Int32)), (0, .ref a_t)]) hx hb dX6_shore_1 rfl hl (by decide) rfl (fun ls hl => ?_)
  refine lv_iconst (v := (0 : Int32)) hx hb dX6_shore_2 (by decide) ?_
  refine lv_istore_n (lv' := [(2, .int (0 : Int32)), (1, .int (0 : Int32)), (0, .ref a_t)]) hx hb dX6_shore_3 rfl hl (by decide) rfl (fun ls hl => ?_)
  exact w_X6_shore_b4 X a_t a_now a_refused a_kept a_mind a_tape a_words a_wCell a_wFaces a_wTurns a_wSign a_wBy a_wFell a_telling a_holds a_sizes a_elements a_moved a_above a_out a_first c_t c_now res FU (0 : Int32) (0 : Int32) _ _ _ h hP hD hS (lv_sub hl [2, 1, 0] rfl)
end
set_option maxRecDepth 100000 in
theorem c_X6_shore (l : Launch) (E : Env0) (a_t : Nat) (a_now : Nat) (a_refused : Nat) (a_kept : Nat) (a_mind : Nat) (a_tape : Nat) (a_words : Nat) (a_wCell : Nat) (a_wFaces : Nat) (a_wTurns : Nat) (a_wSign : Nat) (a_wBy : Nat) (a_wFell : Nat) (a_telling : Nat) (a_holds : Nat) (a_sizes : Nat) (a_elements : Nat) (a_moved : Nat) (a_above : Nat) (a_out : Nat) (a_first : Nat) (c_t : Nat → Int32) (c_now : Nat → Int32) (sz : Nat) (res : Int32) (h : f_X6_shore c_t c_now = some res) : Met l yX6_shore wsX6_shore r_X6_shore (cPre E [.ref a_t] (W_X6_shore E a_t a_now a_refused a_kept a_mind a_tape a_words a_wCell a_wFaces a_wTurns a_wSign a_wBy a_wFell a_telling a_holds a_sizes a_elements a_moved a_above a_out a_first c_t c_now) sz) (qI E (va_A (W_X6_shore E a_t a_now a_refused a_kept a_mind a_tape a_words a_wCell a_wFaces a_wTurns a_wSign a_wBy a_wFell a_telling a_holds a_sizes a_elements a_moved a_above a_out a_first c_t c_now) sz) res (W_X6_shore E a_t a_now a_refused a_kept a_mind a_tape a_words a_wCell a_wFaces a_wTurns a_wSign a_wBy a_wFell a_telling a_holds a_sizes a_elements a_moved a_above a_out a_first c_t c_now)) 0 0 (va_A (W_X6_shore E a_t a_now a_refused a_kept a_mind a_tape a_words a_wCell a_wFaces a_wTurns a_wSign a_wBy a_wFell a_telling a_holds a_sizes a_elements a_moved a_above a_out a_first c_t c_now) sz) :=
  met_of (Qc := fun A => qI E A res (W_X6_shore E a_t a_now a_refused a_kept a_mind a_tape a_words a_wCell a_wFaces a_wTurns a_wSign a_wBy a_wFell a_telling a_holds a_sizes a_elements a_moved a_above a_out a_first c_t c_now)) (by decide) rfl (Nat.le_of_ble_eq_true rfl) (fun p e s m args below meth c X hP hD hS ls hl => w_X6_shore X a_t a_now a_refused a_kept a_mind a_tape a_words a_wCell a_wFaces a_wTurns a_wSign a_wBy a_wFell a_telling a_holds a_sizes a_elements a_moved a_above a_out a_first c_t c_now res ls _ _ h hP hD hS hl)
-- ===== X6_weigh
noncomputable abbrev W_X6_weigh (E : Env0) (a_t : Nat) (a_now : Nat) (a_refused : Nat) (a_kept : Nat) (a_mind : Nat) (a_tape : Nat) (a_words : Nat) (a_wCell : Nat) (a_wFaces : Nat) (a_wTurns : Nat) (a_wSign : Nat) (a_wBy : Nat) (a_wFell : Nat) (a_telling : Nat) (a_holds : Nat) (a_sizes : Nat) (a_elements : Nat) (a_moved : Nat) (a_above : Nat) (a_out : Nat) (a_first : Nat) (c_t : Nat → Int32) (c_now : Nat → Int32) : va_W := [(a_t, .inr (6, [.ref a_refused, .ref a_now, .ref a_kept, .ref a_mind, .int (c_t 4), .ref a_tape, .int (c_t 6), .int (c_t 7), .int (c_t 8), .int (c_t 9), .ref a_words, .ref a_wCell, .ref a_wFaces, .ref a_wTurns, .ref a_wSign, .ref a_wBy, .ref a_wFell, .int (c_t 17), .ref a_telling, .ref a_holds, .ref a_sizes, .ref a_elements, .ref a_moved, .ref a_above, .ref a_out, .ref a_first])), (a_now, .inl (eI E, 97, .inl c_now))]
noncomputable abbrev r_X6_weigh : Room := { frames := 1, cells := 0, slots := 0, locals := 21 }
theorem hd_X6_weigh : yX6_weigh.cls ≠ "java/lang/invoke/MethodHandle" ∧ yX6_weigh.cls ≠ "java/lang/invoke/VarHandle" ∧ (parseMethodDescriptor yX6_weigh.desc).map (fun d => d.parameters.length) = some 1 := by decide +kernel
theorem hV_X6_weigh : yX6_weigh.cls = RX6 ∧ yX6_weigh.cls ≠ "java/lang/invoke/MethodHandle" ∧ yX6_weigh.cls ≠ "java/lang/invoke/VarHandle" ∧ (parseMethodDescriptor yX6_weigh.desc).map (fun d => d.parameters.length) = some 1 := ⟨rfl, hd_X6_weigh⟩
section
variable {p : Program} {l : Launch} {e : Env} {s : State} {m : MethodId} {args : Array Value} {below : List Frame} {meth : Method} {c : Code} {E : Env0} {A : Nat → Prop}
set_option maxRecDepth 100000 in
set_option maxHeartbeats 4000000 in
theorem w_X6_weigh_b31 (X : Ctx p m meth c cX6_weigh 4 ((some .int)) s args wsX6_weigh RX6 E A) (a_t : Nat) (a_now : Nat) (a_refused : Nat) (a_kept : Nat) (a_mind : Nat) (a_tape : Nat) (a_words : Nat) (a_wCell : Nat) (a_wFaces : Nat) (a_wTurns : Nat) (a_wSign : Nat) (a_wBy : Nat) (a_wFell : Nat) (a_telling : Nat) (a_holds : Nat) (a_sizes : Nat) (a_elements : Nat) (a_moved : Nat) (a_above : Nat) (a_out : Nat) (a_first : Nat) (c_t : Nat → Int32) (c_now : Nat → Int32) (res : Int32) (k4 : Int32 → Int32 → Int32 → Option (Int32)) (hk4 : ∀ (l1 : Int32) (l2 : Int32) (l3 : Int32) (ls : Array Slot) (H : Heap) (locs : List Loc), k4 l1 l2 l3 = some res → va_P E.1 vwCl (W_X6_weigh E a_t a_now a_refused a_kept a_mind a_tape a_words a_wCell a_wFaces a_wTurns a_wSign a_wBy a_wFell a_telling a_holds a_sizes a_elements a_moved a_above a_out a_first c_t c_now) H → va_D A (W_X6_weigh E a_t a_now a_refused a_kept a_mind a_tape a_words a_wCell a_wFaces a_wTurns a_wSign a_wBy a_wFell a_telling a_holds a_sizes a_elements a_moved a_above a_out a_first c_t c_now) → va_S A s.heap H locs → lv_has ls 4 [(0, .ref a_t), (1, .int l1), (2, .int l2), (3, .int l3)] → W p l e r_X6_weigh s m args below meth c H locs 0 0 (MQ below (qI E A res (W_X6_weigh E a_t a_now a_refused a_kept a_mind a_tape a_words a_wCell a_wFaces a_wTurns a_wSign a_wBy a_wFell a_telling a_holds a_sizes a_elements a_moved a_above a_out a_first c_t c_now)) args s 0 0 A) (F0 m 4 ls [])) (l1 : Int32) (l3 : Int32) (s0 : Int32) (s1 : Int32) (ls : Array Slot) (H : Heap) (locs : List Loc) (h : f_X6_weigh_b31 c_t c_now k4 l1 l3 s0 s1 = some res) (hP : va_P E.1 vwCl (W_X6_weigh E a_t a_now a_refused a_kept a_mind a_tape a_words a_wCell a_wFaces a_wTurns a_wSign a_wBy a_wFell a_telling a_holds a_sizes a_elements a_moved a_above a_out a_first c_t c_now) H) (hD : va_D A (W_X6_weigh E a_t a_now a_refused a_kept a_mind a_tape a_words a_wCell a_wFaces a_wTurns a_wSign a_wBy a_wFell a_telling a_holds a_sizes a_elements a_moved a_above a_out a_first c_t c_now)) (hS : va_S A s.heap H locs) (hl : lv_has ls 4 [(0, .ref a_t), (1, .int l1), (3, .int l3)]) : W p l e r_X6_weigh s m args below meth c H locs 0 0 (MQ below (qI E A res (W_X6_weigh E a_t a_now a_refused a_kept a_mind a_tape a_words a_wCell a_wFaces a_wTurns a_wSign a_wBy a_wFell a_telling a_holds a_sizes a_elements a_moved a_above a_out a_first c_t c_now)) args s 0 0 A) (F0 m 31 ls [.int s0, .int s1]) := by
  obtain ⟨hx, hb, hml, hr, hlk, hown, hts, hG, hA⟩ := id X
  have hK := hG.1
  have hN := hG.2.1
  unfold f_X6_weigh_b31 at h
  refine lv_iadd hx hb dX6_weigh_31 ?_
  refine lv_istore_n (lv' := [(2, .int (s1 + s0)), (0, .ref a_t), (1, .int l1), (3, .int l3)]) hx hb dX6_weigh_32 rfl hl (by decide) rfl (fun ls hl => ?_)
  refine lv_iinc (v := (l3 + (1 : Int32))) (lv' := [(3, .int (l3 + (1 : Int32))), (2, .int (s1 + s0)), (0, .ref a_t), (1, .int l1)]) hx hb dX6_weigh_33 hl (k := 3) rfl rfl (by decide) rfl (fun ls hl => ?_)
  refine lv_goto (tgt := 4) hx hb dX6_weigh_36 (by decide) ?_
  exact hk4 l1 (s1 + s0) (l3 + (1 : Int32)) _ _ _ h hP hD hS (lv_sub hl [2, 3, 1, 0] rfl)
set_option maxRecDepth 100000 in
set_option maxHeartbeats 4000000 in
theorem w_X6_weigh_b4 (X : Ctx p m meth c cX6_weigh 4 ((some .int)) s args wsX6_weigh RX6 E A) (a_t : Nat) (a_now : Nat) (a_refused : Nat) (a_kept : Nat) (a_mind : Nat) (a_tape : Nat) (a_words : Nat) (a_wCell : Nat) (a_wFaces : Nat) (a_wTurns : Nat) (a_wSign : Nat) (a_wBy : Nat) (a_wFell : Nat) (a_telling : Nat) (a_holds : Nat) (a_sizes : Nat) (a_elements : Nat) (a_moved : Nat) (a_above : Nat) (a_out : Nat) (a_first : Nat) (c_t : Nat → Int32) (c_now : Nat → Int32) (res : Int32) : ∀ (n : Nat) (l1 : Int32) (l2 : Int32) (l3 : Int32) (ls : Array Slot) (H : Heap) (locs : List Loc), f_X6_weigh_b4 c_t c_now n l1 l2 l3 = some res → va_P E.1 vwCl (W_X6_weigh E a_t a_now a_refused a_kept a_mind a_tape a_words a_wCell a_wFaces a_wTurns a_wSign a_wBy a_wFell a_telling a_holds a_sizes a_elements a_moved a_above a_out a_first c_t c_now) H → va_D A (W_X6_weigh E a_t a_now a_refused a_kept a_mind a_tape a_words a_wCell a_wFaces a_wTurns a_wSign a_wBy a_wFell a_telling a_holds a_sizes a_elements a_moved a_above a_out a_first c_t c_now) → va_S A s.heap H locs → lv_has ls 4 [(0, .ref a_t), (1, .int l1), (2, .int l2), (3, .int l3)] → W p l e r_X6_weigh s m args below meth c H locs 0 0 (MQ below (qI E A res (W_X6_weigh E a_t a_now a_refused a_kept a_mind a_tape a_words a_wCell a_wFaces a_wTurns a_wSign a_wBy a_wFell a_telling a_holds a_sizes a_elements a_moved a_above a_out a_first c_t c_now)) args s 0 0 A) (F0 m 4 ls []) := by
  obtain ⟨hx, hb, hml, hr, hlk, hown, hts, hG, hA⟩ := id X
  have hK := hG.1
  have hN := hG.2.1
  intro n
  induction n with
  | zero =>
    intro l1 l2 l3 ls H locs h
    exact absurd (show (none : Option (Int32)) = some res from h) (by intro q; cases q)
  | succ n ih =>
    intro l1 l2 l3 ls H locs h hP hD hS hl
    rw [f_X6_weigh_b4] at h
    refine lv_iload_n hx hb dX6_weigh_4 rfl (lv_at hl 3 rfl) ?_
    refine lv_aload_n hx hb dX6_weigh_5 rfl (lv_at hl 0 rfl) ?_
    obtain ⟨v1, hv1, h⟩ := bind_of h
    refine after_i X (run_V X (c_X6_many l E a_t a_now a_refused a_kept a_mind a_tape a_words a_wCell a_wFaces a_wTurns a_wSign a_wBy a_wFell a_telling a_holds a_sizes a_elements a_moved a_above a_out a_first c_t c_now H.size v1 hv1) (cwV 0 hts gX6_weigh_X6_many rfl rfl rfl hV_X6_many ⟨(Nat.le_of_ble_eq_true rfl), (Nat.le_of_ble_eq_true rfl)⟩) hP hD hS [0, 1] rfl rfl hl.1 (ci := 6) rfl rfl rfl (rest := [.int l3]) rfl rfl (Nat.le_of_ble_eq_true rfl) dX6_weigh_6) hP hD hS [0, 1] rfl (ws1 := (W_X6_weigh E a_t a_now a_refused a_kept a_mind a_tape a_words a_wCell a_wFaces a_wTurns a_wSign a_wBy a_wFell a_telling a_holds a_sizes a_elements a_moved a_above a_out a_first c_t c_now)) rfl (fun H locs hP hD hS => ?_)
    refine lv_icmp_ge (tgt := 39) hx hb dX6_weigh_9 (by decide) (fun hc9 => ?_) (fun hc9 => ?_)
    · have h := if_t h hc9
      refine lv_iload_n hx hb dX6_weigh_39 rfl (lv_at hl 2 rfl) ?_
      obtain rfl := Option.some.inj h
      exact ret_i X dX6_weigh_40 hP hD hS rfl
    · have h := if_f h hc9
      refine lv_iload_n hx hb dX6_weigh_12 rfl (lv_at hl 2 rfl) ?_
      refine lv_aload_n hx hb dX6_weigh_13 rfl (lv_at hl 0 rfl) ?_
      refine lv_iload_n hx hb dX6_weigh_14 rfl (lv_at hl 3 rfl) ?_
      obtain ⟨v2, hv2, h⟩ := bind_of h
      refine after_i X (run_V X (c_X6_isFor l E a_t a_now a_refused a_kept a_mind a_tape a_words a_wCell a_wFaces a_wTurns a_wSign a_wBy a_wFell a_telling a_holds a_sizes a_elements a_moved a_above a_out a_first l3 c_t c_now H.size v2 hv2) (cwV 1 hts gX6_weigh_X6_isFor rfl rfl rfl hV_X6_isFor ⟨(Nat.le_of_ble_eq_true rfl), (Nat.le_of_ble_eq_true rfl)⟩) hP hD hS [0, 1] rfl rfl hl.1 (ci := 6) rfl rfl rfl (rest := [.int l2]) rfl rfl (Nat.le_of_ble_eq_true rfl) dX6_weigh_15) hP hD hS [0, 1] rfl (ws1 := (W_X6_weigh E a_t a_now a_refused a_kept a_mind a_tape a_words a_wCell a_wFaces a_wTurns a_wSign a_wBy a_wFell a_telling a_holds a_sizes a_elements a_moved a_above a_out a_first c_t c_now)) rfl (fun H locs hP hD hS => ?_)
      refine lv_iload_n hx hb dX6_weigh_18 rfl (lv_at hl 1 rfl) ?_
      refine lv_icmp_ne (tgt := 30) hx hb dX6_weigh_19 (by decide) (fun hc19 => ?_) (fun hc19 => ?_)
      · have h := if_f h hc19
        refine lv_iconst (v := (0 : Int32)) hx hb dX6_weigh_30 (by decide) ?_
        exact w_X6_weigh_b31 X a_t a_now a_refused a_kept a_mind a_tape a_words a_wCell a_wFaces a_wTurns a_wSign a_wBy a_wFell a_telling a_holds a_sizes a_elements a_moved a_above a_out a_first c_t c_now res (f_X6_weigh_b4 c_t c_now n) ih l1 l3 (0 : Int32) l2 _ _ _ h hP hD hS (lv_sub hl [0, 1, 3] rfl)
      · have h := if_t h hc19
        refine lv_aload_n hx hb dX6_weigh_22 rfl (lv_at hl 0 rfl) ?_
        refine lv_iload_n hx hb dX6_weigh_23 rfl (lv_at hl 3 rfl) ?_
        obtain ⟨v3, hv3, h⟩ := bind_of h
        refine after_i X (run_V X (c_X6_a l E a_t a_now a_refused a_kept a_mind a_tape a_words a_wCell a_wFaces a_wTurns a_wSign a_wBy a_wFell a_telling a_holds a_sizes a_elements a_moved a_above a_out a_first l3 c_t c_now H.size v3 hv3) (cwV 1 hts gX6_weigh_X6_a rfl rfl rfl hV_X6_a ⟨(Nat.le_of_ble_eq_true rfl), (Nat.le_of_ble_eq_true rfl)⟩) hP hD hS [0, 1] rfl rfl hl.1 (ci := 6) rfl rfl rfl (rest := [.int l2]) rfl rfl (Nat.le_of_ble_eq_true rfl) dX6_weigh_24) hP hD hS [0, 1] rfl (ws1 := (W_X6_weigh E a_t a_now a_refused a_kept a_mind a_tape a_words a_wCell a_wFaces a_wTurns a_wSign a_wBy a_wFell a_telling a_holds a_sizes a_elements a_moved a_above a_out a_first c_t c_now)) rfl (fun H locs hP hD hS => ?_)
        refine lv_goto (tgt := 31) hx hb dX6_weigh_27 (by decide) ?_
        exact w_X6_weigh_b31 X a_t a_now a_refused a_kept a_mind a_tape a_words a_wCell a_wFaces a_wTurns a_wSign a_wBy a_wFell a_telling a_holds a_sizes a_elements a_moved a_above a_out a_first c_t c_now res (f_X6_weigh_b4 c_t c_now n) ih l1 l3 v3 l2 _ _ _ h hP hD hS (lv_sub hl [0, 1, 3] rfl)
set_option maxRecDepth 100000 in
set_option maxHeartbeats 4000000 in
theorem w_X6_weigh (X : Ctx p m meth c cX6_weigh 4 ((some .int)) s args wsX6_weigh RX6 E A) (a_t : Nat) (a_now : Nat) (a_refused : Nat) (a_kept : Nat) (a_mind : Nat) (a_tape : Nat) (a_words : Nat) (a_wCell : Nat) (a_wFaces : Nat) (a_wTurns : Nat) (a_wSign : Nat) (a_wBy : Nat) (a_wFell : Nat) (a_telling : Nat) (a_holds : Nat) (a_sizes : Nat) (a_elements : Nat) (a_moved : Nat) (a_above : Nat) (a_out : Nat) (a_first : Nat) (c_t : Nat → Int32) (c_now : Nat → Int32) (res : Int32) (l1 : Int32) (ls : Array Slot) (H : Heap) (locs : List Loc) (h : f_X6_weigh l1 c_t c_now = some res) (hP : va_P E.1 vwCl (W_X6_weigh E a_t a_now a_refused a_kept a_mind a_tape a_words a_wCell a_wFaces a_wTurns a_wSign a_wBy a_wFell a_telling a_holds a_sizes a_elements a_moved a_above a_out a_first c_t c_now) H) (hD : va_D A (W_X6_weigh E a_t a_now a_refused a_kept a_mind a_tape a_words a_wCell a_wFaces a_wTurns a_wSign a_wBy a_wFell a_telling a_holds a_sizes a_elements a_moved a_above a_out a_first c_t c_now)) (hS : va_S A s.heap H locs) (hl : lv_has ls 4 [(0, .ref a_t), (1, .int l1)]) : W p l e r_X6_weigh s m args below meth c H locs 0 0 (MQ below (qI E A res (W_X6_weigh E a_t a_now a_refused a_kept a_mind a_tape a_words a_wCell a_wFaces a_wTurns a_wSign a_wBy a_wFell a_telling a_holds a_sizes a_elements a_moved a_above a_out a_first c_t c_now)) args s 0 0 A) (F0 m 0 ls []) := by
  obtain ⟨hx, hb, hml, hr, hlk, hown, hts, hG, hA⟩ := id X
  have hK := hG.1
  have hN := hG.2.1
  unfold f_X6_weigh at h
  refine lv_iconst (v := (0 : Int32)) hx hb dX6_weigh_0 (by decide) ?_
  refine lv_istore_n (lv' := [(2, .int (0 : Int32)), (0, .ref a_t), (1, .int l1)]) hx hb dX6_weigh_1 rfl hl (by decide) rfl (fun ls hl => ?_)
  refine lv_iconst (v := (0 : Int32)) hx hb dX6_weigh_2 (by decide) ?_
  refine lv_istore_n (lv' := [(3, .int (0 : Int32)), (2, .int (0 : Int32)), (0, .ref a_t), (1, .int l1)]) hx hb dX6_weigh_3 rfl hl (by decide) rfl (fun ls hl => ?_)
  exact w_X6_weigh_b4 X a_t a_now a_refused a_kept a_mind a_tape a_words a_wCell a_wFaces a_wTurns a_wSign a_wBy a_wFell a_telling a_holds a_sizes a_elements a_moved a_above a_out a_first c_t c_now res FU l1 (0 : Int32) (0 : Int32) _ _ _ h hP hD hS (lv_sub hl [2, 3, 1, 0] rfl)
end
set_option maxRecDepth 100000 in
theorem c_X6_weigh (l : Launch) (E : Env0) (a_t : Nat) (a_now : Nat) (a_refused : Nat) (a_kept : Nat) (a_mind : Nat) (a_tape : Nat) (a_words : Nat) (a_wCell : Nat) (a_wFaces : Nat) (a_wTurns : Nat) (a_wSign : Nat) (a_wBy : Nat) (a_wFell : Nat) (a_telling : Nat) (a_holds : Nat) (a_sizes : Nat) (a_elements : Nat) (a_moved : Nat) (a_above : Nat) (a_out : Nat) (a_first : Nat) (l1 : Int32) (c_t : Nat → Int32) (c_now : Nat → Int32) (sz : Nat) (res : Int32) (h : f_X6_weigh l1 c_t c_now = some res) : Met l yX6_weigh wsX6_weigh r_X6_weigh (cPre E [.ref a_t, .int l1] (W_X6_weigh E a_t a_now a_refused a_kept a_mind a_tape a_words a_wCell a_wFaces a_wTurns a_wSign a_wBy a_wFell a_telling a_holds a_sizes a_elements a_moved a_above a_out a_first c_t c_now) sz) (qI E (va_A (W_X6_weigh E a_t a_now a_refused a_kept a_mind a_tape a_words a_wCell a_wFaces a_wTurns a_wSign a_wBy a_wFell a_telling a_holds a_sizes a_elements a_moved a_above a_out a_first c_t c_now) sz) res (W_X6_weigh E a_t a_now a_refused a_kept a_mind a_tape a_words a_wCell a_wFaces a_wTurns a_wSign a_wBy a_wFell a_telling a_holds a_sizes a_elements a_moved a_above a_out a_first c_t c_now)) 0 0 (va_A (W_X6_weigh E a_t a_now a_refused a_kept a_mind a_tape a_words a_wCell a_wFaces a_wTurns a_wSign a_wBy a_wFell a_telling a_holds a_sizes a_elements a_moved a_above a_out a_first c_t c_now) sz) :=
  met_of (Qc := fun A => qI E A res (W_X6_weigh E a_t a_now a_refused a_kept a_mind a_tape a_words a_wCell a_wFaces a_wTurns a_wSign a_wBy a_wFell a_telling a_holds a_sizes a_elements a_moved a_above a_out a_first c_t c_now)) (by decide) rfl (Nat.le_of_ble_eq_true rfl) (fun p e s m args below meth c X hP hD hS ls hl => w_X6_weigh X a_t a_now a_refused a_kept a_mind a_tape a_words a_wCell a_wFaces a_wTurns a_wSign a_wBy a_wFell a_telling a_holds a_sizes a_elements a_moved a_above a_out a_first c_t c_now res l1 ls _ _ h hP hD hS hl)
-- ===== X6_bloc
noncomputable abbrev W_X6_bloc (E : Env0) (a_t : Nat) (a_now : Nat) (a_refused : Nat) (a_kept : Nat) (a_mind : Nat) (a_tape : Nat) (a_words : Nat) (a_wCell : Nat) (a_wFaces : Nat) (a_wTurns : Nat) (a_wSign : Nat) (a_wBy : Nat) (a_wFell : Nat) (a_telling : Nat) (a_holds : Nat) (a_sizes : Nat) (a_elements : Nat) (a_moved : Nat) (a_above : Nat) (a_out : Nat) (a_first : Nat) (c_t : Nat → Int32) (c_now : Nat → Int32) (c_refused : Nat → Int32) : va_W := [(a_t, .inr (6, [.ref a_refused, .ref a_now, .ref a_kept, .ref a_mind, .int (c_t 4), .ref a_tape, .int (c_t 6), .int (c_t 7), .int (c_t 8), .int (c_t 9), .ref a_words, .ref a_wCell, .ref a_wFaces, .ref a_wTurns, .ref a_wSign, .ref a_wBy, .ref a_wFell, .int (c_t 17), .ref a_telling, .ref a_holds, .ref a_sizes, .ref a_elements, .ref a_moved, .ref a_above, .ref a_out, .ref a_first])), (a_now, .inl (eI E, 97, .inl c_now)), (a_refused, .inl (eI E, 7, .inl c_refused))]
noncomputable abbrev r_X6_bloc : Room := { frames := 2, cells := 0, slots := 0, locals := 44 }
theorem hd_X6_bloc : yX6_bloc.cls ≠ "java/lang/invoke/MethodHandle" ∧ yX6_bloc.cls ≠ "java/lang/invoke/VarHandle" ∧ (parseMethodDescriptor yX6_bloc.desc).map (fun d => d.parameters.length) = some 1 := by decide +kernel
theorem hV_X6_bloc : yX6_bloc.cls = RX6 ∧ yX6_bloc.cls ≠ "java/lang/invoke/MethodHandle" ∧ yX6_bloc.cls ≠ "java/lang/invoke/VarHandle" ∧ (parseMethodDescriptor yX6_bloc.desc).map (fun d => d.parameters.length) = some 1 := ⟨rfl, hd_X6_bloc⟩
section
variable {p : Program} {l : Launch} {e : Env} {s : State} {m : MethodId} {args : Array Value} {below : List Frame} {meth : Method} {c : Code} {E : Env0} {A : Nat → Prop}
set_option maxRecDepth 100000 in
set_option maxHeartbeats 4000000 in
theorem w_X6_bloc (X : Ctx p m meth c cX6_bloc 2 ((some .int)) s args wsX6_bloc RX6 E A) (a_t : Nat) (a_now : Nat) (a_refused : Nat) (a_kept : Nat) (a_mind : Nat) (a_tape : Nat) (a_words : Nat) (a_wCell : Nat) (a_wFaces : Nat) (a_wTurns : Nat) (a_wSign : Nat) (a_wBy : Nat) (a_wFell : Nat) (a_telling : Nat) (a_holds : Nat) (a_sizes : Nat) (a_elements : Nat) (a_moved : Nat) (a_above : Nat) (a_out : Nat) (a_first : Nat) (c_t : Nat → Int32) (c_now : Nat → Int32) (res : Int32 × (Nat → Int32)) (c_refused : Nat → Int32) (l1 : Int32) (ls : Array Slot) (H : Heap) (locs : List Loc) (h : f_X6_bloc l1 c_t c_now c_refused = some res) (hP : va_P E.1 vwCl (W_X6_bloc E a_t a_now a_refused a_kept a_mind a_tape a_words a_wCell a_wFaces a_wTurns a_wSign a_wBy a_wFell a_telling a_holds a_sizes a_elements a_moved a_above a_out a_first c_t c_now c_refused) H) (hD : va_D A (W_X6_bloc E a_t a_now a_refused a_kept a_mind a_tape a_words a_wCell a_wFaces a_wTurns a_wSign a_wBy a_wFell a_telling a_holds a_sizes a_elements a_moved a_above a_out a_first c_t c_now c_refused)) (hS : va_S A s.heap H locs) (hl : lv_has ls 2 [(0, .ref a_t), (1, .int l1)]) : W p l e r_X6_bloc s m args below meth c H locs 0 0 (MQ below (qI E A (res.1) (W_X6_bloc E a_t a_now a_refused a_kept a_mind a_tape a_words a_wCell a_wFaces a_wTurns a_wSign a_wBy a_wFell a_telling a_holds a_sizes a_elements a_moved a_above a_out a_first c_t c_now (res.2))) args s 0 0 A) (F0 m 0 ls []) := by
  obtain ⟨hx, hb, hml, hr, hlk, hown, hts, hG, hA⟩ := id X
  have hK := hG.1
  have hN := hG.2.1
  unfold f_X6_bloc at h
  refine lv_iload_n hx hb dX6_bloc_0 rfl (lv_at hl 1 rfl) ?_
  refine lv_i2l (v := (l1.toInt64)) hx hb dX6_bloc_1 rfl ?_
  refine lv_lconst (v := (0 : Int64)) hx hb dX6_bloc_2 (by decide) ?_
  refine lv_lconst (v := (1 : Int64)) hx hb dX6_bloc_3 (by decide) ?_
  obtain ⟨v1, hv1, h⟩ := bind_of h
  refine after_i X (run_S X (c_X6_isIn l E (l1.toInt64) (0 : Int64) (1 : Int64) H.size v1 hv1) (va_cwS 3 hts gX6_bloc_X6_isIn rfl rfl rfl hd_X6_isIn ⟨(Nat.le_of_ble_eq_true rfl), (Nat.le_of_ble_eq_true rfl)⟩) hP hD hS [] rfl rfl hl.1 (rest := []) rfl rfl (Nat.le_of_ble_eq_true rfl) dX6_bloc_4) hP hD hS [] rfl (ws1 := (W_X6_bloc E a_t a_now a_refused a_kept a_mind a_tape a_words a_wCell a_wFaces a_wTurns a_wSign a_wBy a_wFell a_telling a_holds a_sizes a_elements a_moved a_above a_out a_first c_t c_now c_refused)) rfl (fun H locs hP hD hS => ?_)
  refine lv_if_eq (tgt := 18) hx hb dX6_bloc_7 (by decide) (fun hc7 => ?_) (fun hc7 => ?_)
  · have h := if_t h hc7
    refine lv_aload_n hx hb dX6_bloc_18 rfl (lv_at hl 0 rfl) ?_
    refine lv_bipush (v := (-2 : Int32)) hx hb dX6_bloc_19 (by decide) ?_
    obtain ⟨v2, hv2, h⟩ := bind_of h
    refine after_i X (run_V X (c_X6_refuse l E a_t a_refused a_now a_kept a_mind a_tape a_words a_wCell a_wFaces a_wTurns a_wSign a_wBy a_wFell a_telling a_holds a_sizes a_elements a_moved a_above a_out a_first (-2 : Int32) c_t c_refused H.size v2 hv2) (cwV 1 hts gX6_bloc_X6_refuse rfl rfl rfl hV_X6_refuse ⟨(Nat.le_of_ble_eq_true rfl), (Nat.le_of_ble_eq_true rfl)⟩) hP hD hS [0, 2] rfl rfl hl.1 (ci := 6) rfl rfl rfl (rest := []) rfl rfl (Nat.le_of_ble_eq_true rfl) dX6_bloc_21) hP hD hS [0, 2] rfl (ws1 := (W_X6_bloc E a_t a_now a_refused a_kept a_mind a_tape a_words a_wCell a_wFaces a_wTurns a_wSign a_wBy a_wFell a_telling a_holds a_sizes a_elements a_moved a_above a_out a_first c_t c_now (v2.2))) rfl (fun H locs hP hD hS => ?_)
    obtain rfl := Option.some.inj h
    exact ret_i X dX6_bloc_24 hP hD hS rfl
  · have h := if_f h hc7
    refine lv_aload_n hx hb dX6_bloc_10 rfl (lv_at hl 0 rfl) ?_
    refine lv_iload_n hx hb dX6_bloc_11 rfl (lv_at hl 1 rfl) ?_
    obtain ⟨v3, hv3, h⟩ := bind_of h
    refine after_i X (run_V X (c_X6_weigh l E a_t a_now a_refused a_kept a_mind a_tape a_words a_wCell a_wFaces a_wTurns a_wSign a_wBy a_wFell a_telling a_holds a_sizes a_elements a_moved a_above a_out a_first l1 c_t c_now H.size v3 hv3) (cwV 1 hts gX6_bloc_X6_weigh rfl rfl rfl hV_X6_weigh ⟨(Nat.le_of_ble_eq_true rfl), (Nat.le_of_ble_eq_true rfl)⟩) hP hD hS [0, 1] rfl rfl hl.1 (ci := 6) rfl rfl rfl (rest := []) rfl rfl (Nat.le_of_ble_eq_true rfl) dX6_bloc_12) hP hD hS [0, 1] rfl (ws1 := (W_X6_bloc E a_t a_now a_refused a_kept a_mind a_tape a_words a_wCell a_wFaces a_wTurns a_wSign a_wBy a_wFell a_telling a_holds a_sizes a_elements a_moved a_above a_out a_first c_t c_now c_refused)) rfl (fun H locs hP hD hS => ?_)
    refine lv_goto (tgt := 24) hx hb dX6_bloc_15 (by decide) ?_
    obtain rfl := Option.some.inj h
    exact ret_i X dX6_bloc_24 hP hD hS rfl
end
set_option maxRecDepth 100000 in
theorem c_X6_bloc (l : Launch) (E : Env0) (a_t : Nat) (a_now : Nat) (a_refused : Nat) (a_kept : Nat) (a_mind : Nat) (a_tape : Nat) (a_words : Nat) (a_wCell : Nat) (a_wFaces : Nat) (a_wTurns : Nat) (a_wSign : Nat) (a_wBy : Nat) (a_wFell : Nat) (a_telling : Nat) (a_holds : Nat) (a_sizes : Nat) (a_elements : Nat) (a_moved : Nat) (a_above : Nat) (a_out : Nat) (a_first : Nat) (l1 : Int32) (c_t : Nat → Int32) (c_now : Nat → Int32) (c_refused : Nat → Int32) (sz : Nat) (res : Int32 × (Nat → Int32)) (h : f_X6_bloc l1 c_t c_now c_refused = some res) : Met l yX6_bloc wsX6_bloc r_X6_bloc (cPre E [.ref a_t, .int l1] (W_X6_bloc E a_t a_now a_refused a_kept a_mind a_tape a_words a_wCell a_wFaces a_wTurns a_wSign a_wBy a_wFell a_telling a_holds a_sizes a_elements a_moved a_above a_out a_first c_t c_now c_refused) sz) (qI E (va_A (W_X6_bloc E a_t a_now a_refused a_kept a_mind a_tape a_words a_wCell a_wFaces a_wTurns a_wSign a_wBy a_wFell a_telling a_holds a_sizes a_elements a_moved a_above a_out a_first c_t c_now c_refused) sz) (res.1) (W_X6_bloc E a_t a_now a_refused a_kept a_mind a_tape a_words a_wCell a_wFaces a_wTurns a_wSign a_wBy a_wFell a_telling a_holds a_sizes a_elements a_moved a_above a_out a_first c_t c_now (res.2))) 0 0 (va_A (W_X6_bloc E a_t a_now a_refused a_kept a_mind a_tape a_words a_wCell a_wFaces a_wTurns a_wSign a_wBy a_wFell a_telling a_holds a_sizes a_elements a_moved a_above a_out a_first c_t c_now c_refused) sz) :=
  met_of (Qc := fun A => qI E A (res.1) (W_X6_bloc E a_t a_now a_refused a_kept a_mind a_tape a_words a_wCell a_wFaces a_wTurns a_wSign a_wBy a_wFell a_telling a_holds a_sizes a_elements a_moved a_above a_out a_first c_t c_now (res.2))) (by decide) rfl (Nat.le_of_ble_eq_true rfl) (fun p e s m args below meth c X hP hD hS ls hl => w_X6_bloc X a_t a_now a_refused a_kept a_mind a_tape a_words a_wCell a_wFaces a_wTurns a_wSign a_wBy a_wFell a_telling a_holds a_sizes a_elements a_moved a_above a_out a_first c_t c_now res c_refused l1 ls _ _ h hP hD hS hl)
-- ===== X6_carries
noncomputable abbrev W_X6_carries (E : Env0) (a_t : Nat) (a_now : Nat) (a_refused : Nat) (a_kept : Nat) (a_mind : Nat) (a_tape : Nat) (a_words : Nat) (a_wCell : Nat) (a_wFaces : Nat) (a_wTurns : Nat) (a_wSign : Nat) (a_wBy : Nat) (a_wFell : Nat) (a_telling : Nat) (a_holds : Nat) (a_sizes : Nat) (a_elements : Nat) (a_moved : Nat) (a_above : Nat) (a_out : Nat) (a_first : Nat) (c_t : Nat → Int32) (c_now : Nat → Int32) : va_W := [(a_t, .inr (6, [.ref a_refused, .ref a_now, .ref a_kept, .ref a_mind, .int (c_t 4), .ref a_tape, .int (c_t 6), .int (c_t 7), .int (c_t 8), .int (c_t 9), .ref a_words, .ref a_wCell, .ref a_wFaces, .ref a_wTurns, .ref a_wSign, .ref a_wBy, .ref a_wFell, .int (c_t 17), .ref a_telling, .ref a_holds, .ref a_sizes, .ref a_elements, .ref a_moved, .ref a_above, .ref a_out, .ref a_first])), (a_now, .inl (eI E, 97, .inl c_now))]
noncomputable abbrev r_X6_carries : Room := { frames := 2, cells := 0, slots := 0, locals := 44 }
theorem hd_X6_carries : yX6_carries.cls ≠ "java/lang/invoke/MethodHandle" ∧ yX6_carries.cls ≠ "java/lang/invoke/VarHandle" ∧ (parseMethodDescriptor yX6_carries.desc).map (fun d => d.parameters.length) = some 0 := by decide +kernel
theorem hV_X6_carries : yX6_carries.cls = RX6 ∧ yX6_carries.cls ≠ "java/lang/invoke/MethodHandle" ∧ yX6_carries.cls ≠ "java/lang/invoke/VarHandle" ∧ (parseMethodDescriptor yX6_carries.desc).map (fun d => d.parameters.length) = some 0 := ⟨rfl, hd_X6_carries⟩
theorem iX6_carries_X6 : ∀ w ∈ wsX60, w ∈ wsX6_carries := fun _ h => List.mem_cons_of_mem _ (List.mem_append_right _ (h))
section
variable {p : Program} {l : Launch} {e : Env} {s : State} {m : MethodId} {args : Array Value} {below : List Frame} {meth : Method} {c : Code} {E : Env0} {A : Nat → Prop}
set_option maxRecDepth 100000 in
set_option maxHeartbeats 4000000 in
theorem w_X6_carries (X : Ctx p m meth c cX6_carries 2 ((some .int)) s args wsX6_carries RX6 E A) (a_t : Nat) (a_now : Nat) (a_refused : Nat) (a_kept : Nat) (a_mind : Nat) (a_tape : Nat) (a_words : Nat) (a_wCell : Nat) (a_wFaces : Nat) (a_wTurns : Nat) (a_wSign : Nat) (a_wBy : Nat) (a_wFell : Nat) (a_telling : Nat) (a_holds : Nat) (a_sizes : Nat) (a_elements : Nat) (a_moved : Nat) (a_above : Nat) (a_out : Nat) (a_first : Nat) (c_t : Nat → Int32) (c_now : Nat → Int32) (res : Int32) (ls : Array Slot) (H : Heap) (locs : List Loc) (h : f_X6_carries c_t c_now = some res) (hP : va_P E.1 vwCl (W_X6_carries E a_t a_now a_refused a_kept a_mind a_tape a_words a_wCell a_wFaces a_wTurns a_wSign a_wBy a_wFell a_telling a_holds a_sizes a_elements a_moved a_above a_out a_first c_t c_now) H) (hD : va_D A (W_X6_carries E a_t a_now a_refused a_kept a_mind a_tape a_words a_wCell a_wFaces a_wTurns a_wSign a_wBy a_wFell a_telling a_holds a_sizes a_elements a_moved a_above a_out a_first c_t c_now)) (hS : va_S A s.heap H locs) (hl : lv_has ls 2 [(0, .ref a_t)]) : W p l e r_X6_carries s m args below meth c H locs 0 0 (MQ below (qI E A res (W_X6_carries E a_t a_now a_refused a_kept a_mind a_tape a_words a_wCell a_wFaces a_wTurns a_wSign a_wBy a_wFell a_telling a_holds a_sizes a_elements a_moved a_above a_out a_first c_t c_now)) args s 0 0 A) (F0 m 0 ls []) := by
  obtain ⟨hx, hb, hml, hr, hlk, hown, hts, hG, hA⟩ := id X
  have hK := hG.1
  have hN := hG.2.1
  unfold f_X6_carries at h
  refine lv_aload_n hx hb dX6_carries_0 rfl (lv_at hl 0 rfl) ?_
  refine lv_iconst (v := (1 : Int32)) hx hb dX6_carries_1 (by decide) ?_
  obtain ⟨v1, hv1, h⟩ := bind_of h
  refine after_i X (run_V X (c_X6_weigh l E a_t a_now a_refused a_kept a_mind a_tape a_words a_wCell a_wFaces a_wTurns a_wSign a_wBy a_wFell a_telling a_holds a_sizes a_elements a_moved a_above a_out a_first (1 : Int32) c_t c_now H.size v1 hv1) (cwV 1 hts gX6_carries_X6_weigh rfl rfl rfl hV_X6_weigh ⟨(Nat.le_of_ble_eq_true rfl), (Nat.le_of_ble_eq_true rfl)⟩) hP hD hS [0, 1] rfl rfl hl.1 (ci := 6) rfl rfl rfl (rest := []) rfl rfl (Nat.le_of_ble_eq_true rfl) dX6_carries_2) hP hD hS [0, 1] rfl (ws1 := (W_X6_carries E a_t a_now a_refused a_kept a_mind a_tape a_words a_wCell a_wFaces a_wTurns a_wSign a_wBy a_wFell a_telling a_holds a_sizes a_elements a_moved a_above a_out a_first c_t c_now)) rfl (fun H locs hP hD hS => ?_)
  refine lv_aload_n hx hb dX6_carries_5 rfl (lv_at hl 0 rfl) ?_
  refine lv_iconst (v := (0 : Int32)) hx hb dX6_carries_6 (by decide) ?_
  obtain ⟨v2, hv2, h⟩ := bind_of h
  refine after_i X (run_V X (c_X6_weigh l E a_t a_now a_refused a_kept a_mind a_tape a_words a_wCell a_wFaces a_wTurns a_wSign a_wBy a_wFell a_telling a_holds a_sizes a_elements a_moved a_above a_out a_first (0 : Int32) c_t c_now H.size v2 hv2) (cwV 1 hts gX6_carries_X6_weigh rfl rfl rfl hV_X6_weigh ⟨(Nat.le_of_ble_eq_true rfl), (Nat.le_of_ble_eq_true rfl)⟩) hP hD hS [0, 1] rfl rfl hl.1 (ci := 6) rfl rfl rfl (rest := [.int v1]) rfl rfl (Nat.le_of_ble_eq_true rfl) dX6_carries_7) hP hD hS [0, 1] rfl (ws1 := (W_X6_carries E a_t a_now a_refused a_kept a_mind a_tape a_words a_wCell a_wFaces a_wTurns a_wSign a_wBy a_wFell a_telling a_holds a_sizes a_elements a_moved a_above a_out a_first c_t c_now)) rfl (fun H locs hP hD hS => ?_)
  refine lv_isub hx hb dX6_carries_10 ?_
  refine lv_istore_n (lv' := [(1, .int (v1 - v2)), (0, .ref a_t)]) hx hb dX6_carries_11 rfl hl (by decide) rfl (fun ls hl => ?_)
  refine lv_iload_n hx hb dX6_carries_12 rfl (lv_at hl 0 rfl) ?_
  refine lv_if_le (tgt := 20) hx hb dX6_carries_13 (by decide) (fun hc13 => ?_) (fun hc13 => ?_)
  · have h := if_t h hc13
    refine lv_iload_n hx hb dX6_carries_20 rfl (lv_at hl 0 rfl) ?_
    refine lv_if_ge (tgt := 28) hx hb dX6_carries_21 (by decide) (fun hc21 => ?_) (fun hc21 => ?_)
    · have h := if_t h hc21
      refine lv_aload_n hx hb dX6_carries_28 rfl (lv_at hl 1 rfl) ?_
      refine va_get (D := E.1) (ci := 6) (v := .ref a_now) (C := RX6) (T := TX6) (N := 26) hx hb hts iX6_carries_X6 hown hK hP 0 rfl rfl 1 (by decide) (hts (.fieldLink RX6 17 "LeftIsAgreedOnModel" "now" "[I") (List.mem_of_getElem? (i := 1) rfl)) (fun _ h9 => h9) rfl dX6_carries_29 ?_
      refine lv_bipush (v := (91 : Int32)) hx hb dX6_carries_32 (by decide) ?_
      refine ld_i X hP 1 rfl (inb.vp (by decide)) (v := (c_now 91)) rfl dX6_carries_34 ?_
      obtain rfl := Option.some.inj h
      exact ret_i X dX6_carries_35 hP hD hS rfl
    · have h := if_f h hc21
      refine lv_iconst (v := (0 : Int32)) hx hb dX6_carries_24 (by decide) ?_
      refine lv_goto (tgt := 35) hx hb dX6_carries_25 (by decide) ?_
      obtain rfl := Option.some.inj h
      exact ret_i X dX6_carries_35 hP hD hS rfl
  · have h := if_f h hc13
    refine lv_iconst (v := (1 : Int32)) hx hb dX6_carries_16 (by decide) ?_
    refine lv_goto (tgt := 35) hx hb dX6_carries_17 (by decide) ?_
    obtain rfl := Option.some.inj h
    exact ret_i X dX6_carries_35 hP hD hS rfl
end
set_option maxRecDepth 100000 in
theorem c_X6_carries (l : Launch) (E : Env0) (a_t : Nat) (a_now : Nat) (a_refused : Nat) (a_kept : Nat) (a_mind : Nat) (a_tape : Nat) (a_words : Nat) (a_wCell : Nat) (a_wFaces : Nat) (a_wTurns : Nat) (a_wSign : Nat) (a_wBy : Nat) (a_wFell : Nat) (a_telling : Nat) (a_holds : Nat) (a_sizes : Nat) (a_elements : Nat) (a_moved : Nat) (a_above : Nat) (a_out : Nat) (a_first : Nat) (c_t : Nat → Int32) (c_now : Nat → Int32) (sz : Nat) (res : Int32) (h : f_X6_carries c_t c_now = some res) : Met l yX6_carries wsX6_carries r_X6_carries (cPre E [.ref a_t] (W_X6_carries E a_t a_now a_refused a_kept a_mind a_tape a_words a_wCell a_wFaces a_wTurns a_wSign a_wBy a_wFell a_telling a_holds a_sizes a_elements a_moved a_above a_out a_first c_t c_now) sz) (qI E (va_A (W_X6_carries E a_t a_now a_refused a_kept a_mind a_tape a_words a_wCell a_wFaces a_wTurns a_wSign a_wBy a_wFell a_telling a_holds a_sizes a_elements a_moved a_above a_out a_first c_t c_now) sz) res (W_X6_carries E a_t a_now a_refused a_kept a_mind a_tape a_words a_wCell a_wFaces a_wTurns a_wSign a_wBy a_wFell a_telling a_holds a_sizes a_elements a_moved a_above a_out a_first c_t c_now)) 0 0 (va_A (W_X6_carries E a_t a_now a_refused a_kept a_mind a_tape a_words a_wCell a_wFaces a_wTurns a_wSign a_wBy a_wFell a_telling a_holds a_sizes a_elements a_moved a_above a_out a_first c_t c_now) sz) :=
  met_of (Qc := fun A => qI E A res (W_X6_carries E a_t a_now a_refused a_kept a_mind a_tape a_words a_wCell a_wFaces a_wTurns a_wSign a_wBy a_wFell a_telling a_holds a_sizes a_elements a_moved a_above a_out a_first c_t c_now)) (by decide) rfl (Nat.le_of_ble_eq_true rfl) (fun p e s m args below meth c X hP hD hS ls hl => w_X6_carries X a_t a_now a_refused a_kept a_mind a_tape a_words a_wCell a_wFaces a_wTurns a_wSign a_wBy a_wFell a_telling a_holds a_sizes a_elements a_moved a_above a_out a_first c_t c_now res ls _ _ h hP hD hS hl)
-- ===== X6_power
noncomputable abbrev W_X6_power (E : Env0) (a_t : Nat) (a_now : Nat) (a_refused : Nat) (a_kept : Nat) (a_mind : Nat) (a_tape : Nat) (a_words : Nat) (a_wCell : Nat) (a_wFaces : Nat) (a_wTurns : Nat) (a_wSign : Nat) (a_wBy : Nat) (a_wFell : Nat) (a_telling : Nat) (a_holds : Nat) (a_sizes : Nat) (a_elements : Nat) (a_moved : Nat) (a_above : Nat) (a_out : Nat) (a_first : Nat) (c_t : Nat → Int32) (c_now : Nat → Int32) : va_W := [(a_t, .inr (6, [.ref a_refused, .ref a_now, .ref a_kept, .ref a_mind, .int (c_t 4), .ref a_tape, .int (c_t 6), .int (c_t 7), .int (c_t 8), .int (c_t 9), .ref a_words, .ref a_wCell, .ref a_wFaces, .ref a_wTurns, .ref a_wSign, .ref a_wBy, .ref a_wFell, .int (c_t 17), .ref a_telling, .ref a_holds, .ref a_sizes, .ref a_elements, .ref a_moved, .ref a_above, .ref a_out, .ref a_first])), (a_now, .inl (eI E, 97, .inl c_now))]
noncomputable abbrev r_X6_power : Room := { frames := 2, cells := 0, slots := 0, locals := 44 }
theorem hd_X6_power : yX6_power.cls ≠ "java/lang/invoke/MethodHandle" ∧ yX6_power.cls ≠ "java/lang/invoke/VarHandle" ∧ (parseMethodDescriptor yX6_power.desc).map (fun d => d.parameters.length) = some 1 := by decide +kernel
theorem hV_X6_power : yX6_power.cls = RX6 ∧ yX6_power.cls ≠ "java/lang/invoke/MethodHandle" ∧ yX6_power.cls ≠ "java/lang/invoke/VarHandle" ∧ (parseMethodDescriptor yX6_power.desc).map (fun d => d.parameters.length) = some 1 := ⟨rfl, hd_X6_power⟩
section
variable {p : Program} {l : Launch} {e : Env} {s : State} {m : MethodId} {args : Array Value} {below : List Frame} {meth : Method} {c : Code} {E : Env0} {A : Nat → Prop}
set_option maxRecDepth 100000 in
set_option maxHeartbeats 4000000 in
theorem w_X6_power_b107 (X : Ctx p m meth c cX6_power 7 ((some .int)) s args wsX6_power RX6 E A) (a_t : Nat) (a_now : Nat) (a_refused : Nat) (a_kept : Nat) (a_mind : Nat) (a_tape : Nat) (a_words : Nat) (a_wCell : Nat) (a_wFaces : Nat) (a_wTurns : Nat) (a_wSign : Nat) (a_wBy : Nat) (a_wFell : Nat) (a_telling : Nat) (a_holds : Nat) (a_sizes : Nat) (a_elements : Nat) (a_moved : Nat) (a_above : Nat) (a_out : Nat) (a_first : Nat) (c_t : Nat → Int32) (c_now : Nat → Int32) (res : Int32) (k17 : Int32 → Int32 → Int32 → Int32 → Option (Int32)) (hk17 : ∀ (l1 : Int32) (l2 : Int32) (l3 : Int32) (l4 : Int32) (ls : Array Slot) (H : Heap) (locs : List Loc), k17 l1 l2 l3 l4 = some res → va_P E.1 vwCl (W_X6_power E a_t a_now a_refused a_kept a_mind a_tape a_words a_wCell a_wFaces a_wTurns a_wSign a_wBy a_wFell a_telling a_holds a_sizes a_elements a_moved a_above a_out a_first c_t c_now) H → va_D A (W_X6_power E a_t a_now a_refused a_kept a_mind a_tape a_words a_wCell a_wFaces a_wTurns a_wSign a_wBy a_wFell a_telling a_holds a_sizes a_elements a_moved a_above a_out a_first c_t c_now) → va_S A s.heap H locs → lv_has ls 7 [(0, .ref a_t), (1, .int l1), (2, .int l2), (3, .int l3), (4, .int l4)] → W p l e r_X6_power s m args below meth c H locs 0 0 (MQ below (qI E A res (W_X6_power E a_t a_now a_refused a_kept a_mind a_tape a_words a_wCell a_wFaces a_wTurns a_wSign a_wBy a_wFell a_telling a_holds a_sizes a_elements a_moved a_above a_out a_first c_t c_now)) args s 0 0 A) (F0 m 17 ls [])) (l1 : Int32) (l2 : Int32) (l3 : Int32) (l4 : Int32) (ls : Array Slot) (H : Heap) (locs : List Loc) (h : f_X6_power_b107 c_t c_now k17 l1 l2 l3 l4 = some res) (hP : va_P E.1 vwCl (W_X6_power E a_t a_now a_refused a_kept a_mind a_tape a_words a_wCell a_wFaces a_wTurns a_wSign a_wBy a_wFell a_telling a_holds a_sizes a_elements a_moved a_above a_out a_first c_t c_now) H) (hD : va_D A (W_X6_power E a_t a_now a_refused a_kept a_mind a_tape a_words a_wCell a_wFaces a_wTurns a_wSign a_wBy a_wFell a_telling a_holds a_sizes a_elements a_moved a_above a_out a_first c_t c_now)) (hS : va_S A s.heap H locs) (hl : lv_has ls 7 [(0, .ref a_t), (1, .int l1), (2, .int l2), (3, .int l3), (4, .int l4)]) : W p l e r_X6_power s m args below meth c H locs 0 0 (MQ below (qI E A res (W_X6_power E a_t a_now a_refused a_kept a_mind a_tape a_words a_wCell a_wFaces a_wTurns a_wSign a_wBy a_wFell a_telling a_holds a_sizes a_elements a_moved a_above a_out a_first c_t c_now)) args s 0 0 A) (F0 m 107 ls []) := by
  obtain ⟨hx, hb, hml, hr, hlk, hown, hts, hG, hA⟩ := id X
  have hK := hG.1
  have hN := hG.2.1
  unfold f_X6_power_b107 at h
  refine lv_iinc (v := (l4 + (1 : Int32))) (lv' := [(4, .int (l4 + (1 : Int32))), (0, .ref a_t), (1, .int l1), (2, .int l2), (3, .int l3)]) hx hb dX6_power_107 hl (k := 4) rfl rfl (by decide) rfl (fun ls hl => ?_)
  refine lv_goto (tgt := 17) hx hb dX6_power_110 (by decide) ?_
  exact hk17 l1 l2 l3 (l4 + (1 : Int32)) _ _ _ h hP hD hS (lv_sub hl [1, 2, 3, 4, 0] rfl)
set_option maxRecDepth 100000 in
set_option maxHeartbeats 4000000 in
theorem w_X6_power_b105 (X : Ctx p m meth c cX6_power 7 ((some .int)) s args wsX6_power RX6 E A) (a_t : Nat) (a_now : Nat) (a_refused : Nat) (a_kept : Nat) (a_mind : Nat) (a_tape : Nat) (a_words : Nat) (a_wCell : Nat) (a_wFaces : Nat) (a_wTurns : Nat) (a_wSign : Nat) (a_wBy : Nat) (a_wFell : Nat) (a_telling : Nat) (a_holds : Nat) (a_sizes : Nat) (a_elements : Nat) (a_moved : Nat) (a_above : Nat) (a_out : Nat) (a_first : Nat) (c_t : Nat → Int32) (c_now : Nat → Int32) (res : Int32) (k17 : Int32 → Int32 → Int32 → Int32 → Option (Int32)) (hk17 : ∀ (l1 : Int32) (l2 : Int32) (l3 : Int32) (l4 : Int32) (ls : Array Slot) (H : Heap) (locs : List Loc), k17 l1 l2 l3 l4 = some res → va_P E.1 vwCl (W_X6_power E a_t a_now a_refused a_kept a_mind a_tape a_words a_wCell a_wFaces a_wTurns a_wSign a_wBy a_wFell a_telling a_holds a_sizes a_elements a_moved a_above a_out a_first c_t c_now) H → va_D A (W_X6_power E a_t a_now a_refused a_kept a_mind a_tape a_words a_wCell a_wFaces a_wTurns a_wSign a_wBy a_wFell a_telling a_holds a_sizes a_elements a_moved a_above a_out a_first c_t c_now) → va_S A s.heap H locs → lv_has ls 7 [(0, .ref a_t), (1, .int l1), (2, .int l2), (3, .int l3), (4, .int l4)] → W p l e r_X6_power s m args below meth c H locs 0 0 (MQ below (qI E A res (W_X6_power E a_t a_now a_refused a_kept a_mind a_tape a_words a_wCell a_wFaces a_wTurns a_wSign a_wBy a_wFell a_telling a_holds a_sizes a_elements a_moved a_above a_out a_first c_t c_now)) args s 0 0 A) (F0 m 17 ls [])) (l1 : Int32) (l2 : Int32) (l4 : Int32) (s0 : Int32) (s1 : Int32) (ls : Array Slot) (H : Heap) (locs : List Loc) (h : f_X6_power_b105 c_t c_now k17 l1 l2 l4 s0 s1 = some res) (hP : va_P E.1 vwCl (W_X6_power E a_t a_now a_refused a_kept a_mind a_tape a_words a_wCell a_wFaces a_wTurns a_wSign a_wBy a_wFell a_telling a_holds a_sizes a_elements a_moved a_above a_out a_first c_t c_now) H) (hD : va_D A (W_X6_power E a_t a_now a_refused a_kept a_mind a_tape a_words a_wCell a_wFaces a_wTurns a_wSign a_wBy a_wFell a_telling a_holds a_sizes a_elements a_moved a_above a_out a_first c_t c_now)) (hS : va_S A s.heap H locs) (hl : lv_has ls 7 [(0, .ref a_t), (1, .int l1), (2, .int l2), (4, .int l4)]) : W p l e r_X6_power s m args below meth c H locs 0 0 (MQ below (qI E A res (W_X6_power E a_t a_now a_refused a_kept a_mind a_tape a_words a_wCell a_wFaces a_wTurns a_wSign a_wBy a_wFell a_telling a_holds a_sizes a_elements a_moved a_above a_out a_first c_t c_now)) args s 0 0 A) (F0 m 105 ls [.int s0, .int s1]) := by
  obtain ⟨hx, hb, hml, hr, hlk, hown, hts, hG, hA⟩ := id X
  have hK := hG.1
  have hN := hG.2.1
  unfold f_X6_power_b105 at h
  refine lv_iadd hx hb dX6_power_105 ?_
  refine lv_istore_n (lv' := [(3, .int (s1 + s0)), (0, .ref a_t), (1, .int l1), (2, .int l2), (4, .int l4)]) hx hb dX6_power_106 rfl hl (by decide) rfl (fun ls hl => ?_)
  exact w_X6_power_b107 X a_t a_now a_refused a_kept a_mind a_tape a_words a_wCell a_wFaces a_wTurns a_wSign a_wBy a_wFell a_telling a_holds a_sizes a_elements a_moved a_above a_out a_first c_t c_now res k17 hk17 l1 l2 (s1 + s0) l4 _ _ _ h hP hD hS (lv_sub hl [1, 2, 3, 0, 4] rfl)
set_option maxRecDepth 100000 in
set_option maxHeartbeats 4000000 in
theorem w_X6_power_b104 (X : Ctx p m meth c cX6_power 7 ((some .int)) s args wsX6_power RX6 E A) (a_t : Nat) (a_now : Nat) (a_refused : Nat) (a_kept : Nat) (a_mind : Nat) (a_tape : Nat) (a_words : Nat) (a_wCell : Nat) (a_wFaces : Nat) (a_wTurns : Nat) (a_wSign : Nat) (a_wBy : Nat) (a_wFell : Nat) (a_telling : Nat) (a_holds : Nat) (a_sizes : Nat) (a_elements : Nat) (a_moved : Nat) (a_above : Nat) (a_out : Nat) (a_first : Nat) (c_t : Nat → Int32) (c_now : Nat → Int32) (res : Int32) (k17 : Int32 → Int32 → Int32 → Int32 → Option (Int32)) (hk17 : ∀ (l1 : Int32) (l2 : Int32) (l3 : Int32) (l4 : Int32) (ls : Array Slot) (H : Heap) (locs : List Loc), k17 l1 l2 l3 l4 = some res → va_P E.1 vwCl (W_X6_power E a_t a_now a_refused a_kept a_mind a_tape a_words a_wCell a_wFaces a_wTurns a_wSign a_wBy a_wFell a_telling a_holds a_sizes a_elements a_moved a_above a_out a_first c_t c_now) H → va_D A (W_X6_power E a_t a_now a_refused a_kept a_mind a_tape a_words a_wCell a_wFaces a_wTurns a_wSign a_wBy a_wFell a_telling a_holds a_sizes a_elements a_moved a_above a_out a_first c_t c_now) → va_S A s.heap H locs → lv_has ls 7 [(0, .ref a_t), (1, .int l1), (2, .int l2), (3, .int l3), (4, .int l4)] → W p l e r_X6_power s m args below meth c H locs 0 0 (MQ below (qI E A res (W_X6_power E a_t a_now a_refused a_kept a_mind a_tape a_words a_wCell a_wFaces a_wTurns a_wSign a_wBy a_wFell a_telling a_holds a_sizes a_elements a_moved a_above a_out a_first c_t c_now)) args s 0 0 A) (F0 m 17 ls [])) (l1 : Int32) (l2 : Int32) (l4 : Int32) (s0 : Int32) (ls : Array Slot) (H : Heap) (locs : List Loc) (h : f_X6_power_b104 c_t c_now k17 l1 l2 l4 s0 = some res) (hP : va_P E.1 vwCl (W_X6_power E a_t a_now a_refused a_kept a_mind a_tape a_words a_wCell a_wFaces a_wTurns a_wSign a_wBy a_wFell a_telling a_holds a_sizes a_elements a_moved a_above a_out a_first c_t c_now) H) (hD : va_D A (W_X6_power E a_t a_now a_refused a_kept a_mind a_tape a_words a_wCell a_wFaces a_wTurns a_wSign a_wBy a_wFell a_telling a_holds a_sizes a_elements a_moved a_above a_out a_first c_t c_now)) (hS : va_S A s.heap H locs) (hl : lv_has ls 7 [(0, .ref a_t), (1, .int l1), (2, .int l2), (4, .int l4)]) : W p l e r_X6_power s m args below meth c H locs 0 0 (MQ below (qI E A res (W_X6_power E a_t a_now a_refused a_kept a_mind a_tape a_words a_wCell a_wFaces a_wTurns a_wSign a_wBy a_wFell a_telling a_holds a_sizes a_elements a_moved a_above a_out a_first c_t c_now)) args s 0 0 A) (F0 m 104 ls [.int s0]) := by
  obtain ⟨hx, hb, hml, hr, hlk, hown, hts, hG, hA⟩ := id X
  have hK := hG.1
  have hN := hG.2.1
  unfold f_X6_power_b104 at h
  refine lv_iconst (v := (0 : Int32)) hx hb dX6_power_104 (by decide) ?_
  exact w_X6_power_b105 X a_t a_now a_refused a_kept a_mind a_tape a_words a_wCell a_wFaces a_wTurns a_wSign a_wBy a_wFell a_telling a_holds a_sizes a_elements a_moved a_above a_out a_first c_t c_now res k17 hk17 l1 l2 l4 (0 : Int32) s0 _ _ _ h hP hD hS (lv_sub hl [0, 1, 2, 3] rfl)
set_option maxRecDepth 100000 in
set_option maxHeartbeats 4000000 in
theorem w_X6_power_b43 (X : Ctx p m meth c cX6_power 7 ((some .int)) s args wsX6_power RX6 E A) (a_t : Nat) (a_now : Nat) (a_refused : Nat) (a_kept : Nat) (a_mind : Nat) (a_tape : Nat) (a_words : Nat) (a_wCell : Nat) (a_wFaces : Nat) (a_wTurns : Nat) (a_wSign : Nat) (a_wBy : Nat) (a_wFell : Nat) (a_telling : Nat) (a_holds : Nat) (a_sizes : Nat) (a_elements : Nat) (a_moved : Nat) (a_above : Nat) (a_out : Nat) (a_first : Nat) (c_t : Nat → Int32) (c_now : Nat → Int32) (res : Int32) (k17 : Int32 → Int32 → Int32 → Int32 → Option (Int32)) (hk17 : ∀ (l1 : Int32) (l2 : Int32) (l3 : Int32) (l4 : Int32) (ls : Array Slot) (H : Heap) (locs : List Loc), k17 l1 l2 l3 l4 = some res → va_P E.1 vwCl (W_X6_power E a_t a_now a_refused a_kept a_mind a_tape a_words a_wCell a_wFaces a_wTurns a_wSign a_wBy a_wFell a_telling a_holds a_sizes a_elements a_moved a_above a_out a_first c_t c_now) H → va_D A (W_X6_power E a_t a_now a_refused a_kept a_mind a_tape a_words a_wCell a_wFaces a_wTurns a_wSign a_wBy a_wFell a_telling a_holds a_sizes a_elements a_moved a_above a_out a_first c_t c_now) → va_S A s.heap H locs → lv_has ls 7 [(0, .ref a_t), (1, .int l1), (2, .int l2), (3, .int l3), (4, .int l4)] → W p l e r_X6_power s m args below meth c H locs 0 0 (MQ below (qI E A res (W_X6_power E a_t a_now a_refused a_kept a_mind a_tape a_words a_wCell a_wFaces a_wTurns a_wSign a_wBy a_wFell a_telling a_holds a_sizes a_elements a_moved a_above a_out a_first c_t c_now)) args s 0 0 A) (F0 m 17 ls [])) : ∀ (n : Nat) (l1 : Int32) (l2 : Int32) (l3 : Int32) (l4 : Int32) (l5 : Int32) (l6 : Int32) (ls : Array Slot) (H : Heap) (locs : List Loc), f_X6_power_b43 c_t c_now k17 n l1 l2 l3 l4 l5 l6 = some res → va_P E.1 vwCl (W_X6_power E a_t a_now a_refused a_kept a_mind a_tape a_words a_wCell a_wFaces a_wTurns a_wSign a_wBy a_wFell a_telling a_holds a_sizes a_elements a_moved a_above a_out a_first c_t c_now) H → va_D A (W_X6_power E a_t a_now a_refused a_kept a_mind a_tape a_words a_wCell a_wFaces a_wTurns a_wSign a_wBy a_wFell a_telling a_holds a_sizes a_elements a_moved a_above a_out a_first c_t c_now) → va_S A s.heap H locs → lv_has ls 7 [(0, .ref a_t), (1, .int l1), (2, .int l2), (3, .int l3), (4, .int l4), (5, .int l5), (6, .int l6)] → W p l e r_X6_power s m args below meth c H locs 0 0 (MQ below (qI E A res (W_X6_power E a_t a_now a_refused a_kept a_mind a_tape a_words a_wCell a_wFaces a_wTurns a_wSign a_wBy a_wFell a_telling a_holds a_sizes a_elements a_moved a_above a_out a_first c_t c_now)) args s 0 0 A) (F0 m 43 ls []) := by
  obtain ⟨hx, hb, hml, hr, hlk, hown, hts, hG, hA⟩ := id X
  have hK := hG.1
  have hN := hG.2.1
  intro n
  induction n with
  | zero =>
    intro l1 l2 l3 l4 l5 l6 ls H locs h
    exact absurd (show (none : Option (Int32)) = some res from h) (by intro q; cases q)
  | succ n ih =>
    intro l1 l2 l3 l4 l5 l6 ls H locs h hP hD hS hl
    rw [f_X6_power_b43] at h
    refine lv_iload hx hb dX6_power_43 (lv_at hl 6 rfl) ?_
    refine lv_aload_n hx hb dX6_power_45 rfl (lv_at hl 0 rfl) ?_
    obtain ⟨v1, hv1, h⟩ := bind_of h
    refine after_i X (run_V X (c_X6_many l E a_t a_now a_refused a_kept a_mind a_tape a_words a_wCell a_wFaces a_wTurns a_wSign a_wBy a_wFell a_telling a_holds a_sizes a_elements a_moved a_above a_out a_first c_t c_now H.size v1 hv1) (cwV 0 hts gX6_power_X6_many rfl rfl rfl hV_X6_many ⟨(Nat.le_of_ble_eq_true rfl), (Nat.le_of_ble_eq_true rfl)⟩) hP hD hS [0, 1] rfl rfl hl.1 (ci := 6) rfl rfl rfl (rest := [.int l6]) rfl rfl (Nat.le_of_ble_eq_true rfl) dX6_power_46) hP hD hS [0, 1] rfl (ws1 := (W_X6_power E a_t a_now a_refused a_kept a_mind a_tape a_words a_wCell a_wFaces a_wTurns a_wSign a_wBy a_wFell a_telling a_holds a_sizes a_elements a_moved a_above a_out a_first c_t c_now)) rfl (fun H locs hP hD hS => ?_)
    refine lv_icmp_ge (tgt := 77) hx hb dX6_power_49 (by decide) (fun hc49 => ?_) (fun hc49 => ?_)
    · have h := if_t h hc49
      refine lv_iload_n hx hb dX6_power_77 rfl (lv_at hl 3 rfl) ?_
      refine lv_iconst (v := (2 : Int32)) hx hb dX6_power_78 (by decide) ?_
      refine lv_iload hx hb dX6_power_79 (lv_at hl 5 rfl) ?_
      refine lv_imul hx hb dX6_power_81 ?_
      refine lv_iload_n hx hb dX6_power_82 rfl (lv_at hl 2 rfl) ?_
      refine lv_icmp_gt (tgt := 104) hx hb dX6_power_83 (by decide) (fun hc83 => ?_) (fun hc83 => ?_)
      · have h := if_t h hc83
        exact w_X6_power_b104 X a_t a_now a_refused a_kept a_mind a_tape a_words a_wCell a_wFaces a_wTurns a_wSign a_wBy a_wFell a_telling a_holds a_sizes a_elements a_moved a_above a_out a_first c_t c_now res k17 hk17 l1 l2 l4 l3 _ _ _ h hP hD hS (lv_sub hl [0, 1, 2, 4] rfl)
      · have h := if_f h hc83
        refine lv_iconst (v := (2 : Int32)) hx hb dX6_power_86 (by decide) ?_
        refine lv_iload hx hb dX6_power_87 (lv_at hl 5 rfl) ?_
        refine lv_aload_n hx hb dX6_power_89 rfl (lv_at hl 0 rfl) ?_
        refine lv_iload_n hx hb dX6_power_90 rfl (lv_at hl 1 rfl) ?_
        obtain ⟨v2, hv2, h⟩ := bind_of h
        refine after_i X (run_V X (c_X6_a l E a_t a_now a_refused a_kept a_mind a_tape a_words a_wCell a_wFaces a_wTurns a_wSign a_wBy a_wFell a_telling a_holds a_sizes a_elements a_moved a_above a_out a_first l1 c_t c_now H.size v2 hv2) (cwV 1 hts gX6_power_X6_a rfl rfl rfl hV_X6_a ⟨(Nat.le_of_ble_eq_true rfl), (Nat.le_of_ble_eq_true rfl)⟩) hP hD hS [0, 1] rfl rfl hl.1 (ci := 6) rfl rfl rfl (rest := [.int l5, .int (2 : Int32), .int l3]) rfl rfl (Nat.le_of_ble_eq_true rfl) dX6_power_91) hP hD hS [0, 1] rfl (ws1 := (W_X6_power E a_t a_now a_refused a_kept a_mind a_tape a_words a_wCell a_wFaces a_wTurns a_wSign a_wBy a_wFell a_telling a_holds a_sizes a_elements a_moved a_above a_out a_first c_t c_now)) rfl (fun H locs hP hD hS => ?_)
        refine lv_iadd hx hb dX6_power_94 ?_
        refine lv_imul hx hb dX6_power_95 ?_
        refine lv_iload_n hx hb dX6_power_96 rfl (lv_at hl 2 rfl) ?_
        refine lv_icmp_le (tgt := 104) hx hb dX6_power_97 (by decide) (fun hc97 => ?_) (fun hc97 => ?_)
        · have h := if_t h hc97
          exact w_X6_power_b104 X a_t a_now a_refused a_kept a_mind a_tape a_words a_wCell a_wFaces a_wTurns a_wSign a_wBy a_wFell a_telling a_holds a_sizes a_elements a_moved a_above a_out a_first c_t c_now res k17 hk17 l1 l2 l4 l3 _ _ _ h hP hD hS (lv_sub hl [0, 1, 2, 4] rfl)
        · have h := if_f h hc97
          refine lv_iconst (v := (1 : Int32)) hx hb dX6_power_100 (by decide) ?_
          refine lv_goto (tgt := 105) hx hb dX6_power_101 (by decide) ?_
          exact w_X6_power_b105 X a_t a_now a_refused a_kept a_mind a_tape a_words a_wCell a_wFaces a_wTurns a_wSign a_wBy a_wFell a_telling a_holds a_sizes a_elements a_moved a_above a_out a_first c_t c_now res k17 hk17 l1 l2 l4 (1 : Int32) l3 _ _ _ h hP hD hS (lv_sub hl [0, 1, 2, 4] rfl)
    · have h := if_f h hc49
      refine lv_iload hx hb dX6_power_52 (lv_at hl 5 rfl) ?_
      refine lv_iload hx hb dX6_power_54 (lv_at hl 4 rfl) ?_
      refine lv_iload hx hb dX6_power_56 (lv_at hl 6 rfl) ?_
      refine lv_ishr hx hb dX6_power_58 ?_
      refine lv_iconst (v := (1 : Int32)) hx hb dX6_power_59 (by decide) ?_
      refine lv_iand hx hb dX6_power_60 ?_
      refine lv_aload_n hx hb dX6_power_61 rfl (lv_at hl 0 rfl) ?_
      refine lv_iload hx hb dX6_power_62 (lv_at hl 6 rfl) ?_
      obtain ⟨v3, hv3, h⟩ := bind_of h
      refine after_i X (run_V X (c_X6_a l E a_t a_now a_refused a_kept a_mind a_tape a_words a_wCell a_wFaces a_wTurns a_wSign a_wBy a_wFell a_telling a_holds a_sizes a_elements a_moved a_above a_out a_first l6 c_t c_now H.size v3 hv3) (cwV 1 hts gX6_power_X6_a rfl rfl rfl hV_X6_a ⟨(Nat.le_of_ble_eq_true rfl), (Nat.le_of_ble_eq_true rfl)⟩) hP hD hS [0, 1] rfl rfl hl.1 (ci := 6) rfl rfl rfl (rest := [.int ((l4 >>> (l6 &&& 31)) &&& (1 : Int32)), .int l5]) rfl rfl (Nat.le_of_ble_eq_true rfl) dX6_power_64) hP hD hS [0, 1] rfl (ws1 := (W_X6_power E a_t a_now a_refused a_kept a_mind a_tape a_words a_wCell a_wFaces a_wTurns a_wSign a_wBy a_wFell a_telling a_holds a_sizes a_elements a_moved a_above a_out a_first c_t c_now)) rfl (fun H locs hP hD hS => ?_)
      refine lv_imul hx hb dX6_power_67 ?_
      refine lv_iadd hx hb dX6_power_68 ?_
      refine lv_istore (lv' := [(5, .int (l5 + (((l4 >>> (l6 &&& 31)) &&& (1 : Int32)) * v3))), (0, .ref a_t), (1, .int l1), (2, .int l2), (3, .int l3), (4, .int l4), (6, .int l6)]) hx hb dX6_power_69 hl (by decide) rfl (fun ls hl => ?_)
      refine lv_iinc (v := (l6 + (1 : Int32))) (lv' := [(6, .int (l6 + (1 : Int32))), (5, .int (l5 + (((l4 >>> (l6 &&& 31)) &&& (1 : Int32)) * v3))), (0, .ref a_t), (1, .int l1), (2, .int l2), (3, .int l3), (4, .int l4)]) hx hb dX6_power_71 hl (k := 6) rfl rfl (by decide) rfl (fun ls hl => ?_)
      refine lv_goto (tgt := 43) hx hb dX6_power_74 (by decide) ?_
      exact ih l1 l2 l3 l4 (l5 + (((l4 >>> (l6 &&& 31)) &&& (1 : Int32)) * v3)) (l6 + (1 : Int32)) _ _ _ h hP hD hS (lv_sub hl [2, 3, 4, 5, 6, 1, 0] rfl)
set_option maxRecDepth 100000 in
set_option maxHeartbeats 4000000 in
theorem w_X6_power_b17 (X : Ctx p m meth c cX6_power 7 ((some .int)) s args wsX6_power RX6 E A) (a_t : Nat) (a_now : Nat) (a_refused : Nat) (a_kept : Nat) (a_mind : Nat) (a_tape : Nat) (a_words : Nat) (a_wCell : Nat) (a_wFaces : Nat) (a_wTurns : Nat) (a_wSign : Nat) (a_wBy : Nat) (a_wFell : Nat) (a_telling : Nat) (a_holds : Nat) (a_sizes : Nat) (a_elements : Nat) (a_moved : Nat) (a_above : Nat) (a_out : Nat) (a_first : Nat) (c_t : Nat → Int32) (c_now : Nat → Int32) (res : Int32) : ∀ (n : Nat) (l1 : Int32) (l2 : Int32) (l3 : Int32) (l4 : Int32) (ls : Array Slot) (H : Heap) (locs : List Loc), f_X6_power_b17 c_t c_now n l1 l2 l3 l4 = some res → va_P E.1 vwCl (W_X6_power E a_t a_now a_refused a_kept a_mind a_tape a_words a_wCell a_wFaces a_wTurns a_wSign a_wBy a_wFell a_telling a_holds a_sizes a_elements a_moved a_above a_out a_first c_t c_now) H → va_D A (W_X6_power E a_t a_now a_refused a_kept a_mind a_tape a_words a_wCell a_wFaces a_wTurns a_wSign a_wBy a_wFell a_telling a_holds a_sizes a_elements a_moved a_above a_out a_first c_t c_now) → va_S A s.heap H locs → lv_has ls 7 [(0, .ref a_t), (1, .int l1), (2, .int l2), (3, .int l3), (4, .int l4)] → W p l e r_X6_power s m args below meth c H locs 0 0 (MQ below (qI E A res (W_X6_power E a_t a_now a_refused a_kept a_mind a_tape a_words a_wCell a_wFaces a_wTurns a_wSign a_wBy a_wFell a_telling a_holds a_sizes a_elements a_moved a_above a_out a_first c_t c_now)) args s 0 0 A) (F0 m 17 ls []) := by
  obtain ⟨hx, hb, hml, hr, hlk, hown, hts, hG, hA⟩ := id X
  have hK := hG.1
  have hN := hG.2.1
  intro n
  induction n with
  | zero =>
    intro l1 l2 l3 l4 ls H locs h
    exact absurd (show (none : Option (Int32)) = some res from h) (by intro q; cases q)
  | succ n ih =>
    intro l1 l2 l3 l4 ls H locs h hP hD hS hl
    rw [f_X6_power_b17] at h
    refine lv_iload hx hb dX6_power_17 (lv_at hl 4 rfl) ?_
    refine lv_iconst (v := (1 : Int32)) hx hb dX6_power_19 (by decide) ?_
    refine lv_aload_n hx hb dX6_power_20 rfl (lv_at hl 0 rfl) ?_
    obtain ⟨v1, hv1, h⟩ := bind_of h
    refine after_i X (run_V X (c_X6_many l E a_t a_now a_refused a_kept a_mind a_tape a_words a_wCell a_wFaces a_wTurns a_wSign a_wBy a_wFell a_telling a_holds a_sizes a_elements a_moved a_above a_out a_first c_t c_now H.size v1 hv1) (cwV 0 hts gX6_power_X6_many rfl rfl rfl hV_X6_many ⟨(Nat.le_of_ble_eq_true rfl), (Nat.le_of_ble_eq_true rfl)⟩) hP hD hS [0, 1] rfl rfl hl.1 (ci := 6) rfl rfl rfl (rest := [.int (1 : Int32), .int l4]) rfl rfl (Nat.le_of_ble_eq_true rfl) dX6_power_21) hP hD hS [0, 1] rfl (ws1 := (W_X6_power E a_t a_now a_refused a_kept a_mind a_tape a_words a_wCell a_wFaces a_wTurns a_wSign a_wBy a_wFell a_telling a_holds a_sizes a_elements a_moved a_above a_out a_first c_t c_now)) rfl (fun H locs hP hD hS => ?_)
    refine lv_ishl hx hb dX6_power_24 ?_
    refine lv_icmp_ge (tgt := 113) hx hb dX6_power_25 (by decide) (fun hc25 => ?_) (fun hc25 => ?_)
    · have h := if_t h hc25
      refine lv_iload_n hx hb dX6_power_113 rfl (lv_at hl 3 rfl) ?_
      obtain rfl := Option.some.inj h
      exact ret_i X dX6_power_114 hP hD hS rfl
    · have h := if_f h hc25
      refine lv_iload hx hb dX6_power_28 (lv_at hl 4 rfl) ?_
      refine lv_iload_n hx hb dX6_power_30 rfl (lv_at hl 1 rfl) ?_
      refine lv_ishr hx hb dX6_power_31 ?_
      refine lv_iconst (v := (1 : Int32)) hx hb dX6_power_32 (by decide) ?_
      refine lv_iand hx hb dX6_power_33 ?_
      refine lv_if_ne (tgt := 107) hx hb dX6_power_34 (by decide) (fun hc34 => ?_) (fun hc34 => ?_)
      · have h := if_f h hc34
        exact w_X6_power_b107 X a_t a_now a_refused a_kept a_mind a_tape a_words a_wCell a_wFaces a_wTurns a_wSign a_wBy a_wFell a_telling a_holds a_sizes a_elements a_moved a_above a_out a_first c_t c_now res (f_X6_power_b17 c_t c_now n) ih l1 l2 l3 l4 _ _ _ h hP hD hS (lv_sub hl [0, 1, 2, 3, 4] rfl)
      · have h := if_t h hc34
        refine lv_iconst (v := (0 : Int32)) hx hb dX6_power_37 (by decide) ?_
        refine lv_istore (lv' := [(5, .int (0 : Int32)), (0, .ref a_t), (1, .int l1), (2, .int l2), (3, .int l3), (4, .int l4)]) hx hb dX6_power_38 hl (by decide) rfl (fun ls hl => ?_)
        refine lv_iconst (v := (0 : Int32)) hx hb dX6_power_40 (by decide) ?_
        refine lv_istore (lv' := [(6, .int (0 : Int32)), (5, .int (0 : Int32)), (0, .ref a_t), (1, .int l1), (2, .int l2), (3, .int l3), (4, .int l4)]) hx hb dX6_power_41 hl (by decide) rfl (fun ls hl => ?_)
        exact w_X6_power_b43 X a_t a_now a_refused a_kept a_mind a_tape a_words a_wCell a_wFaces a_wTurns a_wSign a_wBy a_wFell a_telling a_holds a_sizes a_elements a_moved a_above a_out a_first c_t c_now res (f_X6_power_b17 c_t c_now n) ih FU l1 l2 l3 l4 (0 : Int32) (0 : Int32) _ _ _ h hP hD hS (lv_sub hl [2, 3, 4, 5, 6, 1, 0] rfl)
set_option maxRecDepth 100000 in
set_option maxHeartbeats 4000000 in
theorem w_X6_power (X : Ctx p m meth c cX6_power 7 ((some .int)) s args wsX6_power RX6 E A) (a_t : Nat) (a_now : Nat) (a_refused : Nat) (a_kept : Nat) (a_mind : Nat) (a_tape : Nat) (a_words : Nat) (a_wCell : Nat) (a_wFaces : Nat) (a_wTurns : Nat) (a_wSign : Nat) (a_wBy : Nat) (a_wFell : Nat) (a_telling : Nat) (a_holds : Nat) (a_sizes : Nat) (a_elements : Nat) (a_moved : Nat) (a_above : Nat) (a_out : Nat) (a_first : Nat) (c_t : Nat → Int32) (c_now : Nat → Int32) (res : Int32) (l1 : Int32) (ls : Array Slot) (H : Heap) (locs : List Loc) (h : f_X6_power l1 c_t c_now = some res) (hP : va_P E.1 vwCl (W_X6_power E a_t a_now a_refused a_kept a_mind a_tape a_words a_wCell a_wFaces a_wTurns a_wSign a_wBy a_wFell a_telling a_holds a_sizes a_elements a_moved a_above a_out a_first c_t c_now) H) (hD : va_D A (W_X6_power E a_t a_now a_refused a_kept a_mind a_tape a_words a_wCell a_wFaces a_wTurns a_wSign a_wBy a_wFell a_telling a_holds a_sizes a_elements a_moved a_above a_out a_first c_t c_now)) (hS : va_S A s.heap H locs) (hl : lv_has ls 7 [(0, .ref a_t), (1, .int l1)]) : W p l e r_X6_power s m args below meth c H locs 0 0 (MQ below (qI E A res (W_X6_power E a_t a_now a_refused a_kept a_mind a_tape a_words a_wCell a_wFaces a_wTurns a_wSign a_wBy a_wFell a_telling a_holds a_sizes a_elements a_moved a_above a_out a_first c_t c_now)) args s 0 0 A) (F0 m 0 ls []) := by
  obtain ⟨hx, hb, hml, hr, hlk, hown, hts, hG, hA⟩ := id X
  have hK := hG.1
  have hN := hG.2.1
  unfold f_X6_power at h
  refine lv_aload_n hx hb dX6_power_0 rfl (lv_at hl 0 rfl) ?_
  refine lv_iconst (v := (0 : Int32)) hx hb dX6_power_1 (by decide) ?_
  obtain ⟨v1, hv1, h⟩ := bind_of h
  refine after_i X (run_V X (c_X6_weigh l E a_t a_now a_refused a_kept a_mind a_tape a_words a_wCell a_wFaces a_wTurns a_wSign a_wBy a_wFell a_telling a_holds a_sizes a_elements a_moved a_above a_out a_first (0 : Int32) c_t c_now H.size v1 hv1) (cwV 1 hts gX6_power_X6_weigh rfl rfl rfl hV_X6_weigh ⟨(Nat.le_of_ble_eq_true rfl), (Nat.le_of_ble_eq_true rfl)⟩) hP hD hS [0, 1] rfl rfl hl.1 (ci := 6) rfl rfl rfl (rest := []) rfl rfl (Nat.le_of_ble_eq_true rfl) dX6_power_2) hP hD hS [0, 1] rfl (ws1 := (W_X6_power E a_t a_now a_refused a_kept a_mind a_tape a_words a_wCell a_wFaces a_wTurns a_wSign a_wBy a_wFell a_telling a_holds a_sizes a_elements a_moved a_above a_out a_first c_t c_now)) rfl (fun H locs hP hD hS => ?_)
  refine lv_aload_n hx hb dX6_power_5 rfl (lv_at hl 0 rfl) ?_
  refine lv_iconst (v := (1 : Int32)) hx hb dX6_power_6 (by decide) ?_
  obtain ⟨v2, hv2, h⟩ := bind_of h
  refine after_i X (run_V X (c_X6_weigh l E a_t a_now a_refused a_kept a_mind a_tape a_words a_wCell a_wFaces a_wTurns a_wSign a_wBy a_wFell a_telling a_holds a_sizes a_elements a_moved a_above a_out a_first (1 : Int32) c_t c_now H.size v2 hv2) (cwV 1 hts gX6_power_X6_weigh rfl rfl rfl hV_X6_weigh ⟨(Nat.le_of_ble_eq_true rfl), (Nat.le_of_ble_eq_true rfl)⟩) hP hD hS [0, 1] rfl rfl hl.1 (ci := 6) rfl rfl rfl (rest := [.int v1]) rfl rfl (Nat.le_of_ble_eq_true rfl) dX6_power_7) hP hD hS [0, 1] rfl (ws1 := (W_X6_power E a_t a_now a_refused a_kept a_mind a_tape a_words a_wCell a_wFaces a_wTurns a_wSign a_wBy a_wFell a_telling a_holds a_sizes a_elements a_moved a_above a_out a_first c_t c_now)) rfl (fun H locs hP hD hS => ?_)
  refine lv_iadd hx hb dX6_power_10 ?_
  refine lv_istore_n (lv' := [(2, .int (v1 + v2)), (0, .ref a_t), (1, .int l1)]) hx hb dX6_power_11 rfl hl (by decide) rfl (fun ls hl => ?_)
  refine lv_iconst (v := (0 : Int32)) hx hb dX6_power_12 (by decide) ?_
  refine lv_istore_n (lv' := [(3, .int (0 : Int32)), (2, .int (v1 + v2)), (0, .ref a_t), (1, .int l1)]) hx hb dX6_power_13 rfl hl (by decide) rfl (fun ls hl => ?_)
  refine lv_iconst (v := (0 : Int32)) hx hb dX6_power_14 (by decide) ?_
  refine lv_istore (lv' := [(4, .int (0 : Int32)), (3, .int (0 : Int32)), (2, .int (v1 + v2)), (0, .ref a_t), (1, .int l1)]) hx hb dX6_power_15 hl (by decide) rfl (fun ls hl => ?_)
  exact w_X6_power_b17 X a_t a_now a_refused a_kept a_mind a_tape a_words a_wCell a_wFaces a_wTurns a_wSign a_wBy a_wFell a_telling a_holds a_sizes a_elements a_moved a_above a_out a_first c_t c_now res FU l1 (v1 + v2) (0 : Int32) (0 : Int32) _ _ _ h hP hD hS (lv_sub hl [3, 4, 2, 1, 0] rfl)
end
set_option maxRecDepth 100000 in
theorem c_X6_power (l : Launch) (E : Env0) (a_t : Nat) (a_now : Nat) (a_refused : Nat) (a_kept : Nat) (a_mind : Nat) (a_tape : Nat) (a_words : Nat) (a_wCell : Nat) (a_wFaces : Nat) (a_wTurns : Nat) (a_wSign : Nat) (a_wBy : Nat) (a_wFell : Nat) (a_telling : Nat) (a_holds : Nat) (a_sizes : Nat) (a_elements : Nat) (a_moved : Nat) (a_above : Nat) (a_out : Nat) (a_first : Nat) (l1 : Int32) (c_t : Nat → Int32) (c_now : Nat → Int32) (sz : Nat) (res : Int32) (h : f_X6_power l1 c_t c_now = some res) : Met l yX6_power wsX6_power r_X6_power (cPre E [.ref a_t, .int l1] (W_X6_power E a_t a_now a_refused a_kept a_mind a_tape a_words a_wCell a_wFaces a_wTurns a_wSign a_wBy a_wFell a_telling a_holds a_sizes a_elements a_moved a_above a_out a_first c_t c_now) sz) (qI E (va_A (W_X6_power E a_t a_now a_refused a_kept a_mind a_tape a_words a_wCell a_wFaces a_wTurns a_wSign a_wBy a_wFell a_telling a_holds a_sizes a_elements a_moved a_above a_out a_first c_t c_now) sz) res (W_X6_power E a_t a_now a_refused a_kept a_mind a_tape a_words a_wCell a_wFaces a_wTurns a_wSign a_wBy a_wFell a_telling a_holds a_sizes a_elements a_moved a_above a_out a_first c_t c_now)) 0 0 (va_A (W_X6_power E a_t a_now a_refused a_kept a_mind a_tape a_words a_wCell a_wFaces a_wTurns a_wSign a_wBy a_wFell a_telling a_holds a_sizes a_elements a_moved a_above a_out a_first c_t c_now) sz) :=
  met_of (Qc := fun A => qI E A res (W_X6_power E a_t a_now a_refused a_kept a_mind a_tape a_words a_wCell a_wFaces a_wTurns a_wSign a_wBy a_wFell a_telling a_holds a_sizes a_elements a_moved a_above a_out a_first c_t c_now)) (by decide) rfl (Nat.le_of_ble_eq_true rfl) (fun p e s m args below meth c X hP hD hS ls hl => w_X6_power X a_t a_now a_refused a_kept a_mind a_tape a_words a_wCell a_wFaces a_wTurns a_wSign a_wBy a_wFell a_telling a_holds a_sizes a_elements a_moved a_above a_out a_first c_t c_now res l1 ls _ _ h hP hD hS hl)
-- ===== X6_personOf
noncomputable abbrev W_X6_personOf (E : Env0) (a_t : Nat) (a_now : Nat) (a_refused : Nat) (a_kept : Nat) (a_mind : Nat) (a_tape : Nat) (a_words : Nat) (a_wCell : Nat) (a_wFaces : Nat) (a_wTurns : Nat) (a_wSign : Nat) (a_wBy : Nat) (a_wFell : Nat) (a_telling : Nat) (a_holds : Nat) (a_sizes : Nat) (a_elements : Nat) (a_moved : Nat) (a_above : Nat) (a_out : Nat) (a_first : Nat) (c_t : Nat → Int32) (c_now : Nat → Int32) (c_refused : Nat → Int32) : va_W := [(a_t, .inr (6, [.ref a_refused, .ref a_now, .ref a_kept, .ref a_mind, .int (c_t 4), .ref a_tape, .int (c_t 6), .int (c_t 7), .int (c_t 8), .int (c_t 9), .ref a_words, .ref a_wCell, .ref a_wFaces, .ref a_wTurns, .ref a_wSign, .ref a_wBy, .ref a_wFell, .int (c_t 17), .ref a_telling, .ref a_holds, .ref a_sizes, .ref a_elements, .ref a_moved, .ref a_above, .ref a_out, .ref a_first])), (a_now, .inl (eI E, 97, .inl c_now)), (a_refused, .inl (eI E, 7, .inl c_refused))]
noncomputable abbrev r_X6_personOf : Room := { frames := 3, cells := 0, slots := 0, locals := 70 }
theorem hd_X6_personOf : yX6_personOf.cls ≠ "java/lang/invoke/MethodHandle" ∧ yX6_personOf.cls ≠ "java/lang/invoke/VarHandle" ∧ (parseMethodDescriptor yX6_personOf.desc).map (fun d => d.parameters.length) = some 2 := by decide +kernel
theorem hV_X6_personOf : yX6_personOf.cls = RX6 ∧ yX6_personOf.cls ≠ "java/lang/invoke/MethodHandle" ∧ yX6_personOf.cls ≠ "java/lang/invoke/VarHandle" ∧ (parseMethodDescriptor yX6_personOf.desc).map (fun d => d.parameters.length) = some 2 := ⟨rfl, hd_X6_personOf⟩
theorem iX6_personOf_X6 : ∀ w ∈ wsX60, w ∈ wsX6_personOf := fun _ h => List.mem_cons_of_mem _ (List.mem_append_right _ (h))
section
variable {p : Program} {l : Launch} {e : Env} {s : State} {m : MethodId} {args : Array Value} {below : List Frame} {meth : Method} {c : Code} {E : Env0} {A : Nat → Prop}
set_option maxRecDepth 100000 in
set_option maxHeartbeats 4000000 in
theorem w_X6_personOf_b20 (X : Ctx p m meth c cX6_personOf 3 ((some .int)) s args wsX6_personOf RX6 E A) (a_t : Nat) (a_now : Nat) (a_refused : Nat) (a_kept : Nat) (a_mind : Nat) (a_tape : Nat) (a_words : Nat) (a_wCell : Nat) (a_wFaces : Nat) (a_wTurns : Nat) (a_wSign : Nat) (a_wBy : Nat) (a_wFell : Nat) (a_telling : Nat) (a_holds : Nat) (a_sizes : Nat) (a_elements : Nat) (a_moved : Nat) (a_above : Nat) (a_out : Nat) (a_first : Nat) (c_t : Nat → Int32) (c_now : Nat → Int32) (res : Int32 × (Nat → Int32)) (c_refused : Nat → Int32) (ls : Array Slot) (H : Heap) (locs : List Loc) (h : f_X6_personOf_b20 c_t c_now c_refused = some res) (hP : va_P E.1 vwCl (W_X6_personOf E a_t a_now a_refused a_kept a_mind a_tape a_words a_wCell a_wFaces a_wTurns a_wSign a_wBy a_wFell a_telling a_holds a_sizes a_elements a_moved a_above a_out a_first c_t c_now c_refused) H) (hD : va_D A (W_X6_personOf E a_t a_now a_refused a_kept a_mind a_tape a_words a_wCell a_wFaces a_wTurns a_wSign a_wBy a_wFell a_telling a_holds a_sizes a_elements a_moved a_above a_out a_first c_t c_now c_refused)) (hS : va_S A s.heap H locs) (hl : lv_has ls 3 [(0, .ref a_t)]) : W p l e r_X6_personOf s m args below meth c H locs 0 0 (MQ below (qI E A (res.1) (W_X6_personOf E a_t a_now a_refused a_kept a_mind a_tape a_words a_wCell a_wFaces a_wTurns a_wSign a_wBy a_wFell a_telling a_holds a_sizes a_elements a_moved a_above a_out a_first c_t c_now (res.2))) args s 0 0 A) (F0 m 20 ls []) := by
  obtain ⟨hx, hb, hml, hr, hlk, hown, hts, hG, hA⟩ := id X
  have hK := hG.1
  have hN := hG.2.1
  unfold f_X6_personOf_b20 at h
  refine lv_aload_n hx hb dX6_personOf_20 rfl (lv_at hl 0 rfl) ?_
  refine lv_bipush (v := (-2 : Int32)) hx hb dX6_personOf_21 (by decide) ?_
  obtain ⟨v1, hv1, h⟩ := bind_of h
  refine after_i X (run_V X (c_X6_refuse l E a_t a_refused a_now a_kept a_mind a_tape a_words a_wCell a_wFaces a_wTurns a_wSign a_wBy a_wFell a_telling a_holds a_sizes a_elements a_moved a_above a_out a_first (-2 : Int32) c_t c_refused H.size v1 hv1) (cwV 1 hts gX6_personOf_X6_refuse rfl rfl rfl hV_X6_refuse ⟨(Nat.le_of_ble_eq_true rfl), (Nat.le_of_ble_eq_true rfl)⟩) hP hD hS [0, 2] rfl rfl hl.1 (ci := 6) rfl rfl rfl (rest := []) rfl rfl (Nat.le_of_ble_eq_true rfl) dX6_personOf_23) hP hD hS [0, 2] rfl (ws1 := (W_X6_personOf E a_t a_now a_refused a_kept a_mind a_tape a_words a_wCell a_wFaces a_wTurns a_wSign a_wBy a_wFell a_telling a_holds a_sizes a_elements a_moved a_above a_out a_first c_t c_now (v1.2))) rfl (fun H locs hP hD hS => ?_)
  obtain rfl := Option.some.inj h
  exact ret_i X dX6_personOf_26 hP hD hS rfl
set_option maxRecDepth 100000 in
set_option maxHeartbeats 4000000 in
theorem w_X6_personOf (X : Ctx p m meth c cX6_personOf 3 ((some .int)) s args wsX6_personOf RX6 E A) (a_t : Nat) (a_now : Nat) (a_refused : Nat) (a_kept : Nat) (a_mind : Nat) (a_tape : Nat) (a_words : Nat) (a_wCell : Nat) (a_wFaces : Nat) (a_wTurns : Nat) (a_wSign : Nat) (a_wBy : Nat) (a_wFell : Nat) (a_telling : Nat) (a_holds : Nat) (a_sizes : Nat) (a_elements : Nat) (a_moved : Nat) (a_above : Nat) (a_out : Nat) (a_first : Nat) (c_t : Nat → Int32) (c_now : Nat → Int32) (res : Int32 × (Nat → Int32)) (c_refused : Nat → Int32) (l1 : Int32) (l2 : Int32) (ls : Array Slot) (H : Heap) (locs : List Loc) (h : f_X6_personOf l1 l2 c_t c_now c_refused = some res) (hP : va_P E.1 vwCl (W_X6_personOf E a_t a_now a_refused a_kept a_mind a_tape a_words a_wCell a_wFaces a_wTurns a_wSign a_wBy a_wFell a_telling a_holds a_sizes a_elements a_moved a_above a_out a_first c_t c_now c_refused) H) (hD : va_D A (W_X6_personOf E a_t a_now a_refused a_kept a_mind a_tape a_words a_wCell a_wFaces a_wTurns a_wSign a_wBy a_wFell a_telling a_holds a_sizes a_elements a_moved a_above a_out a_first c_t c_now c_refused)) (hS : va_S A s.heap H locs) (hl : lv_has ls 3 [(0, .ref a_t), (1, .int l1), (2, .int l2)]) : W p l e r_X6_personOf s m args below meth c H locs 0 0 (MQ below (qI E A (res.1) (W_X6_personOf E a_t a_now a_refused a_kept a_mind a_tape a_words a_wCell a_wFaces a_wTurns a_wSign a_wBy a_wFell a_telling a_holds a_sizes a_elements a_moved a_above a_out a_first c_t c_now (res.2))) args s 0 0 A) (F0 m 0 ls []) := by
  obtain ⟨hx, hb, hml, hr, hlk, hown, hts, hG, hA⟩ := id X
  have hK := hG.1
  have hN := hG.2.1
  unfold f_X6_personOf at h
  refine lv_aload_n hx hb dX6_personOf_0 rfl (lv_at hl 0 rfl) ?_
  refine lv_iload_n hx hb dX6_personOf_1 rfl (lv_at hl 1 rfl) ?_
  obtain ⟨v1, hv1, h⟩ := bind_of h
  refine after_i X (run_V X (c_X6_isPerson l E a_t a_now a_refused a_kept a_mind a_tape a_words a_wCell a_wFaces a_wTurns a_wSign a_wBy a_wFell a_telling a_holds a_sizes a_elements a_moved a_above a_out a_first l1 c_t c_now H.size v1 hv1) (cwV 1 hts gX6_personOf_X6_isPerson rfl rfl rfl hV_X6_isPerson ⟨(Nat.le_of_ble_eq_true rfl), (Nat.le_of_ble_eq_true rfl)⟩) hP hD hS [0, 1] rfl rfl hl.1 (ci := 6) rfl rfl rfl (rest := []) rfl rfl (Nat.le_of_ble_eq_true rfl) dX6_personOf_2) hP hD hS [0, 1] rfl (ws1 := (W_X6_personOf E a_t a_now a_refused a_kept a_mind a_tape a_words a_wCell a_wFaces a_wTurns a_wSign a_wBy a_wFell a_telling a_holds a_sizes a_elements a_moved a_above a_out a_first c_t c_now c_refused)) rfl (fun H locs hP hD hS => ?_)
  refine lv_if_eq (tgt := 20) hx hb dX6_personOf_5 (by decide) (fun hc5 => ?_) (fun hc5 => ?_)
  · have h := if_t h hc5
    exact w_X6_personOf_b20 X a_t a_now a_refused a_kept a_mind a_tape a_words a_wCell a_wFaces a_wTurns a_wSign a_wBy a_wFell a_telling a_holds a_sizes a_elements a_moved a_above a_out a_first c_t c_now res c_refused _ _ _ h hP hD hS (lv_sub hl [0] rfl)
  · have h := if_f h hc5
    refine lv_iload_n hx hb dX6_personOf_8 rfl (lv_at hl 2 rfl) ?_
    refine lv_i2l (v := (l2.toInt64)) hx hb dX6_personOf_9 rfl ?_
    refine lv_lconst (v := (0 : Int64)) hx hb dX6_personOf_10 (by decide) ?_
    refine lv_ldc2 (v := (5 : Int64)) hx hb hown (hts (.constantLong RX6 110 (5)) (List.mem_of_getElem? (i := 1) rfl)) dX6_personOf_11 ?_
    obtain ⟨v2, hv2, h⟩ := bind_of h
    refine after_i X (run_S X (c_X6_isIn l E (l2.toInt64) (0 : Int64) (5 : Int64) H.size v2 hv2) (va_cwS 3 hts gX6_personOf_X6_isIn rfl rfl rfl hd_X6_isIn ⟨(Nat.le_of_ble_eq_true rfl), (Nat.le_of_ble_eq_true rfl)⟩) hP hD hS [] rfl rfl hl.1 (rest := []) rfl rfl (Nat.le_of_ble_eq_true rfl) dX6_personOf_14) hP hD hS [] rfl (ws1 := (W_X6_personOf E a_t a_now a_refused a_kept a_mind a_tape a_words a_wCell a_wFaces a_wTurns a_wSign a_wBy a_wFell a_telling a_holds a_sizes a_elements a_moved a_above a_out a_first c_t c_now c_refused)) rfl (fun H locs hP hD hS => ?_)
    refine lv_if_ne (tgt := 27) hx hb dX6_personOf_17 (by decide) (fun hc17 => ?_) (fun hc17 => ?_)
    · have h := if_f h hc17
      refine lv_iload_n hx hb dX6_personOf_27 rfl (lv_at hl 2 rfl) ?_
      refine lv_iconst (v := (5 : Int32)) hx hb dX6_personOf_28 (by decide) ?_
      refine lv_icmp_ge (tgt := 45) hx hb dX6_personOf_29 (by decide) (fun hc29 => ?_) (fun hc29 => ?_)
      · have h := if_t h hc29
        refine lv_aload_n hx hb dX6_personOf_45 rfl (lv_at hl 0 rfl) ?_
        refine lv_iload_n hx hb dX6_personOf_46 rfl (lv_at hl 1 rfl) ?_
        obtain ⟨v3, hv3, h⟩ := bind_of h
        refine after_i X (run_V X (c_X6_power l E a_t a_now a_refused a_kept a_mind a_tape a_words a_wCell a_wFaces a_wTurns a_wSign a_wBy a_wFell a_telling a_holds a_sizes a_elements a_moved a_above a_out a_first l1 c_t c_now H.size v3 hv3) (cwV 1 hts gX6_personOf_X6_power rfl rfl rfl hV_X6_power ⟨(Nat.le_of_ble_eq_true rfl), (Nat.le_of_ble_eq_true rfl)⟩) hP hD hS [0, 1] rfl rfl hl.1 (ci := 6) rfl rfl rfl (rest := []) rfl rfl (Nat.le_of_ble_eq_true rfl) dX6_personOf_47) hP hD hS [0, 1] rfl (ws1 := (W_X6_personOf E a_t a_now a_refused a_kept a_mind a_tape a_words a_wCell a_wFaces a_wTurns a_wSign a_wBy a_wFell a_telling a_holds a_sizes a_elements a_moved a_above a_out a_first c_t c_now c_refused)) rfl (fun H locs hP hD hS => ?_)
        obtain rfl := Option.some.inj h
        exact ret_i X dX6_personOf_50 hP hD hS rfl
      · have h := if_f h hc29
        refine lv_aload_n hx hb dX6_personOf_32 rfl (lv_at hl 0 rfl) ?_
        refine va_get (D := E.1) (ci := 6) (v := .ref a_now) (C := RX6) (T := TX6) (N := 26) hx hb hts iX6_personOf_X6 hown hK hP 0 rfl rfl 1 (by decide) (hts (.fieldLink RX6 17 "LeftIsAgreedOnModel" "now" "[I") (List.mem_of_getElem? (i := 2) rfl)) (fun _ h9 => h9) rfl dX6_personOf_33 ?_
        refine lv_iconst (v := (5 : Int32)) hx hb dX6_personOf_36 (by decide) ?_
        refine lv_iload_n hx hb dX6_personOf_37 rfl (lv_at hl 1 rfl) ?_
        refine lv_imul hx hb dX6_personOf_38 ?_
        refine lv_iload_n hx hb dX6_personOf_39 rfl (lv_at hl 2 rfl) ?_
        refine lv_iadd hx hb dX6_personOf_40 ?_
        obtain ⟨hz41, h⟩ := chk_of h
        refine ld_i X hP 1 rfl (inb.vp hz41) (v := (c_now ((((5 : Int32) * l1) + l2)).toNatClampNeg)) rfl dX6_personOf_41 ?_
        refine lv_goto (tgt := 50) hx hb dX6_personOf_42 (by decide) ?_
        obtain rfl := Option.some.inj h
        exact ret_i X dX6_personOf_50 hP hD hS rfl
    · have h := if_t h hc17
      exact w_X6_personOf_b20 X a_t a_now a_refused a_kept a_mind a_tape a_words a_wCell a_wFaces a_wTurns a_wSign a_wBy a_wFell a_telling a_holds a_sizes a_elements a_moved a_above a_out a_first c_t c_now res c_refused _ _ _ h hP hD hS (lv_sub hl [0] rfl)
end
set_option maxRecDepth 100000 in
theorem c_X6_personOf (l : Launch) (E : Env0) (a_t : Nat) (a_now : Nat) (a_refused : Nat) (a_kept : Nat) (a_mind : Nat) (a_tape : Nat) (a_words : Nat) (a_wCell : Nat) (a_wFaces : Nat) (a_wTurns : Nat) (a_wSign : Nat) (a_wBy : Nat) (a_wFell : Nat) (a_telling : Nat) (a_holds : Nat) (a_sizes : Nat) (a_elements : Nat) (a_moved : Nat) (a_above : Nat) (a_out : Nat) (a_first : Nat) (l1 : Int32) (l2 : Int32) (c_t : Nat → Int32) (c_now : Nat → Int32) (c_refused : Nat → Int32) (sz : Nat) (res : Int32 × (Nat → Int32)) (h : f_X6_personOf l1 l2 c_t c_now c_refused = some res) : Met l yX6_personOf wsX6_personOf r_X6_personOf (cPre E [.ref a_t, .int l1, .int l2] (W_X6_personOf E a_t a_now a_refused a_kept a_mind a_tape a_words a_wCell a_wFaces a_wTurns a_wSign a_wBy a_wFell a_telling a_holds a_sizes a_elements a_moved a_above a_out a_first c_t c_now c_refused) sz) (qI E (va_A (W_X6_personOf E a_t a_now a_refused a_kept a_mind a_tape a_words a_wCell a_wFaces a_wTurns a_wSign a_wBy a_wFell a_telling a_holds a_sizes a_elements a_moved a_above a_out a_first c_t c_now c_refused) sz) (res.1) (W_X6_personOf E a_t a_now a_refused a_kept a_mind a_tape a_words a_wCell a_wFaces a_wTurns a_wSign a_wBy a_wFell a_telling a_holds a_sizes a_elements a_moved a_above a_out a_first c_t c_now (res.2))) 0 0 (va_A (W_X6_personOf E a_t a_now a_refused a_kept a_mind a_tape a_words a_wCell a_wFaces a_wTurns a_wSign a_wBy a_wFell a_telling a_holds a_sizes a_elements a_moved a_above a_out a_first c_t c_now c_refused) sz) :=
  met_of (Qc := fun A => qI E A (res.1) (W_X6_personOf E a_t a_now a_refused a_kept a_mind a_tape a_words a_wCell a_wFaces a_wTurns a_wSign a_wBy a_wFell a_telling a_holds a_sizes a_elements a_moved a_above a_out a_first c_t c_now (res.2))) (by decide) rfl (Nat.le_of_ble_eq_true rfl) (fun p e s m args below meth c X hP hD hS ls hl => w_X6_personOf X a_t a_now a_refused a_kept a_mind a_tape a_words a_wCell a_wFaces a_wTurns a_wSign a_wBy a_wFell a_telling a_holds a_sizes a_elements a_moved a_above a_out a_first c_t c_now res c_refused l1 l2 ls _ _ h hP hD hS hl)
-- ===== X6_mightiest
noncomputable abbrev W_X6_mightiest (E : Env0) (a_t : Nat) (a_now : Nat) (a_refused : Nat) (a_kept : Nat) (a_mind : Nat) (a_tape : Nat) (a_words : Nat) (a_wCell : Nat) (a_wFaces : Nat) (a_wTurns : Nat) (a_wSign : Nat) (a_wBy : Nat) (a_wFell : Nat) (a_telling : Nat) (a_holds : Nat) (a_sizes : Nat) (a_elements : Nat) (a_moved : Nat) (a_above : Nat) (a_out : Nat) (a_first : Nat) (c_t : Nat → Int32) (c_now : Nat → Int32) (c_refused : Nat → Int32) : va_W := [(a_t, .inr (6, [.ref a_refused, .ref a_now, .ref a_kept, .ref a_mind, .int (c_t 4), .ref a_tape, .int (c_t 6), .int (c_t 7), .int (c_t 8), .int (c_t 9), .ref a_words, .ref a_wCell, .ref a_wFaces, .ref a_wTurns, .ref a_wSign, .ref a_wBy, .ref a_wFell, .int (c_t 17), .ref a_telling, .ref a_holds, .ref a_sizes, .ref a_elements, .ref a_moved, .ref a_above, .ref a_out, .ref a_first])), (a_now, .inl (eI E, 97, .inl c_now)), (a_refused, .inl (eI E, 7, .inl c_refused))]
noncomputable abbrev r_X6_mightiest : Room := { frames := 3, cells := 0, slots := 0, locals := 70 }
theorem hd_X6_mightiest : yX6_mightiest.cls ≠ "java/lang/invoke/MethodHandle" ∧ yX6_mightiest.cls ≠ "java/lang/invoke/VarHandle" ∧ (parseMethodDescriptor yX6_mightiest.desc).map (fun d => d.parameters.length) = some 0 := by decide +kernel
theorem hV_X6_mightiest : yX6_mightiest.cls = RX6 ∧ yX6_mightiest.cls ≠ "java/lang/invoke/MethodHandle" ∧ yX6_mightiest.cls ≠ "java/lang/invoke/VarHandle" ∧ (parseMethodDescriptor yX6_mightiest.desc).map (fun d => d.parameters.length) = some 0 := ⟨rfl, hd_X6_mightiest⟩
section
variable {p : Program} {l : Launch} {e : Env} {s : State} {m : MethodId} {args : Array Value} {below : List Frame} {meth : Method} {c : Code} {E : Env0} {A : Nat → Prop}
set_option maxRecDepth 100000 in
set_option maxHeartbeats 4000000 in
theorem w_X6_mightiest_b44 (X : Ctx p m meth c cX6_mightiest 3 ((some .int)) s args wsX6_mightiest RX6 E A) (a_t : Nat) (a_now : Nat) (a_refused : Nat) (a_kept : Nat) (a_mind : Nat) (a_tape : Nat) (a_words : Nat) (a_wCell : Nat) (a_wFaces : Nat) (a_wTurns : Nat) (a_wSign : Nat) (a_wBy : Nat) (a_wFell : Nat) (a_telling : Nat) (a_holds : Nat) (a_sizes : Nat) (a_elements : Nat) (a_moved : Nat) (a_above : Nat) (a_out : Nat) (a_first : Nat) (c_t : Nat → Int32) (c_now : Nat → Int32) (res : Int32 × (Nat → Int32)) (k18 : (Nat → Int32) → Int32 → Int32 → Option (Int32 × (Nat → Int32))) (hk18 : ∀ (c_refused : Nat → Int32) (l1 : Int32) (l2 : Int32) (ls : Array Slot) (H : Heap) (locs : List Loc), k18 c_refused l1 l2 = some res → va_P E.1 vwCl (W_X6_mightiest E a_t a_now a_refused a_kept a_mind a_tape a_words a_wCell a_wFaces a_wTurns a_wSign a_wBy a_wFell a_telling a_holds a_sizes a_elements a_moved a_above a_out a_first c_t c_now c_refused) H → va_D A (W_X6_mightiest E a_t a_now a_refused a_kept a_mind a_tape a_words a_wCell a_wFaces a_wTurns a_wSign a_wBy a_wFell a_telling a_holds a_sizes a_elements a_moved a_above a_out a_first c_t c_now c_refused) → va_S A s.heap H locs → lv_has ls 3 [(0, .ref a_t), (1, .int l1), (2, .int l2)] → W p l e r_X6_mightiest s m args below meth c H locs 0 0 (MQ below (qI E A (res.1) (W_X6_mightiest E a_t a_now a_refused a_kept a_mind a_tape a_words a_wCell a_wFaces a_wTurns a_wSign a_wBy a_wFell a_telling a_holds a_sizes a_elements a_moved a_above a_out a_first c_t c_now (res.2))) args s 0 0 A) (F0 m 18 ls [])) (c_refused : Nat → Int32) (l2 : Int32) (s0 : Int32) (ls : Array Slot) (H : Heap) (locs : List Loc) (h : f_X6_mightiest_b44 c_t c_now k18 c_refused l2 s0 = some res) (hP : va_P E.1 vwCl (W_X6_mightiest E a_t a_now a_refused a_kept a_mind a_tape a_words a_wCell a_wFaces a_wTurns a_wSign a_wBy a_wFell a_telling a_holds a_sizes a_elements a_moved a_above a_out a_first c_t c_now c_refused) H) (hD : va_D A (W_X6_mightiest E a_t a_now a_refused a_kept a_mind a_tape a_words a_wCell a_wFaces a_wTurns a_wSign a_wBy a_wFell a_telling a_holds a_sizes a_elements a_moved a_above a_out a_first c_t c_now c_refused)) (hS : va_S A s.heap H locs) (hl : lv_has ls 3 [(0, .ref a_t), (2, .int l2)]) : W p l e r_X6_mightiest s m args below meth c H locs 0 0 (MQ below (qI E A (res.1) (W_X6_mightiest E a_t a_now a_refused a_kept a_mind a_tape a_words a_wCell a_wFaces a_wTurns a_wSign a_wBy a_wFell a_telling a_holds a_sizes a_elements a_moved a_above a_out a_first c_t c_now (res.2))) args s 0 0 A) (F0 m 44 ls [.int s0]) := by
  obtain ⟨hx, hb, hml, hr, hlk, hown, hts, hG, hA⟩ := id X
  have hK := hG.1
  have hN := hG.2.1
  unfold f_X6_mightiest_b44 at h
  refine lv_istore_n (lv' := [(1, .int s0), (0, .ref a_t), (2, .int l2)]) hx hb dX6_mightiest_44 rfl hl (by decide) rfl (fun ls hl => ?_)
  refine lv_iinc (v := (l2 + (1 : Int32))) (lv' := [(2, .int (l2 + (1 : Int32))), (1, .int s0), (0, .ref a_t)]) hx hb dX6_mightiest_45 hl (k := 2) rfl rfl (by decide) rfl (fun ls hl => ?_)
  refine lv_goto (tgt := 18) hx hb dX6_mightiest_48 (by decide) ?_
  exact hk18 c_refused s0 (l2 + (1 : Int32)) _ _ _ h hP hD hS (lv_sub hl [2, 1, 0] rfl)
set_option maxRecDepth 100000 in
set_option maxHeartbeats 4000000 in
theorem w_X6_mightiest_b18 (X : Ctx p m meth c cX6_mightiest 3 ((some .int)) s args wsX6_mightiest RX6 E A) (a_t : Nat) (a_now : Nat) (a_refused : Nat) (a_kept : Nat) (a_mind : Nat) (a_tape : Nat) (a_words : Nat) (a_wCell : Nat) (a_wFaces : Nat) (a_wTurns : Nat) (a_wSign : Nat) (a_wBy : Nat) (a_wFell : Nat) (a_telling : Nat) (a_holds : Nat) (a_sizes : Nat) (a_elements : Nat) (a_moved : Nat) (a_above : Nat) (a_out : Nat) (a_first : Nat) (c_t : Nat → Int32) (c_now : Nat → Int32) (res : Int32 × (Nat → Int32)) : ∀ (n : Nat) (c_refused : Nat → Int32) (l1 : Int32) (l2 : Int32) (ls : Array Slot) (H : Heap) (locs : List Loc), f_X6_mightiest_b18 c_t c_now n c_refused l1 l2 = some res → va_P E.1 vwCl (W_X6_mightiest E a_t a_now a_refused a_kept a_mind a_tape a_words a_wCell a_wFaces a_wTurns a_wSign a_wBy a_wFell a_telling a_holds a_sizes a_elements a_moved a_above a_out a_first c_t c_now c_refused) H → va_D A (W_X6_mightiest E a_t a_now a_refused a_kept a_mind a_tape a_words a_wCell a_wFaces a_wTurns a_wSign a_wBy a_wFell a_telling a_holds a_sizes a_elements a_moved a_above a_out a_first c_t c_now c_refused) → va_S A s.heap H locs → lv_has ls 3 [(0, .ref a_t), (1, .int l1), (2, .int l2)] → W p l e r_X6_mightiest s m args below meth c H locs 0 0 (MQ below (qI E A (res.1) (W_X6_mightiest E a_t a_now a_refused a_kept a_mind a_tape a_words a_wCell a_wFaces a_wTurns a_wSign a_wBy a_wFell a_telling a_holds a_sizes a_elements a_moved a_above a_out a_first c_t c_now (res.2))) args s 0 0 A) (F0 m 18 ls []) := by
  obtain ⟨hx, hb, hml, hr, hlk, hown, hts, hG, hA⟩ := id X
  have hK := hG.1
  have hN := hG.2.1
  intro n
  induction n with
  | zero =>
    intro c_refused l1 l2 ls H locs h
    exact absurd (show (none : Option (Int32 × (Nat → Int32))) = some res from h) (by intro q; cases q)
  | succ n ih =>
    intro c_refused l1 l2 ls H locs h hP hD hS hl
    rw [f_X6_mightiest_b18] at h
    refine lv_iload_n hx hb dX6_mightiest_18 rfl (lv_at hl 2 rfl) ?_
    refine lv_aload_n hx hb dX6_mightiest_19 rfl (lv_at hl 0 rfl) ?_
    obtain ⟨v1, hv1, h⟩ := bind_of h
    refine after_i X (run_V X (c_X6_many l E a_t a_now a_refused a_kept a_mind a_tape a_words a_wCell a_wFaces a_wTurns a_wSign a_wBy a_wFell a_telling a_holds a_sizes a_elements a_moved a_above a_out a_first c_t c_now H.size v1 hv1) (cwV 0 hts gX6_mightiest_X6_many rfl rfl rfl hV_X6_many ⟨(Nat.le_of_ble_eq_true rfl), (Nat.le_of_ble_eq_true rfl)⟩) hP hD hS [0, 1] rfl rfl hl.1 (ci := 6) rfl rfl rfl (rest := [.int l2]) rfl rfl (Nat.le_of_ble_eq_true rfl) dX6_mightiest_20) hP hD hS [0, 1] rfl (ws1 := (W_X6_mightiest E a_t a_now a_refused a_kept a_mind a_tape a_words a_wCell a_wFaces a_wTurns a_wSign a_wBy a_wFell a_telling a_holds a_sizes a_elements a_moved a_above a_out a_first c_t c_now c_refused)) rfl (fun H locs hP hD hS => ?_)
    refine lv_icmp_ge (tgt := 51) hx hb dX6_mightiest_23 (by decide) (fun hc23 => ?_) (fun hc23 => ?_)
    · have h := if_t h hc23
      refine lv_iload_n hx hb dX6_mightiest_51 rfl (lv_at hl 1 rfl) ?_
      obtain rfl := Option.some.inj h
      exact ret_i X dX6_mightiest_52 hP hD hS rfl
    · have h := if_f h hc23
      refine lv_aload_n hx hb dX6_mightiest_26 rfl (lv_at hl 0 rfl) ?_
      refine lv_iload_n hx hb dX6_mightiest_27 rfl (lv_at hl 2 rfl) ?_
      obtain ⟨v2, hv2, h⟩ := bind_of h
      refine after_i X (run_V X (c_X6_power l E a_t a_now a_refused a_kept a_mind a_tape a_words a_wCell a_wFaces a_wTurns a_wSign a_wBy a_wFell a_telling a_holds a_sizes a_elements a_moved a_above a_out a_first l2 c_t c_now H.size v2 hv2) (cwV 1 hts gX6_mightiest_X6_power rfl rfl rfl hV_X6_power ⟨(Nat.le_of_ble_eq_true rfl), (Nat.le_of_ble_eq_true rfl)⟩) hP hD hS [0, 1] rfl rfl hl.1 (ci := 6) rfl rfl rfl (rest := []) rfl rfl (Nat.le_of_ble_eq_true rfl) dX6_mightiest_28) hP hD hS [0, 1] rfl (ws1 := (W_X6_mightiest E a_t a_now a_refused a_kept a_mind a_tape a_words a_wCell a_wFaces a_wTurns a_wSign a_wBy a_wFell a_telling a_holds a_sizes a_elements a_moved a_above a_out a_first c_t c_now c_refused)) rfl (fun H locs hP hD hS => ?_)
      refine lv_aload_n hx hb dX6_mightiest_31 rfl (lv_at hl 0 rfl) ?_
      refine lv_iload_n hx hb dX6_mightiest_32 rfl (lv_at hl 1 rfl) ?_
      obtain ⟨v3, hv3, h⟩ := bind_of h
      refine after_i X (run_V X (c_X6_power l E a_t a_now a_refused a_kept a_mind a_tape a_words a_wCell a_wFaces a_wTurns a_wSign a_wBy a_wFell a_telling a_holds a_sizes a_elements a_moved a_above a_out a_first l1 c_t c_now H.size v3 hv3) (cwV 1 hts gX6_mightiest_X6_power rfl rfl rfl hV_X6_power ⟨(Nat.le_of_ble_eq_true rfl), (Nat.le_of_ble_eq_true rfl)⟩) hP hD hS [0, 1] rfl rfl hl.1 (ci := 6) rfl rfl rfl (rest := [.int v2]) rfl rfl (Nat.le_of_ble_eq_true rfl) dX6_mightiest_33) hP hD hS [0, 1] rfl (ws1 := (W_X6_mightiest E a_t a_now a_refused a_kept a_mind a_tape a_words a_wCell a_wFaces a_wTurns a_wSign a_wBy a_wFell a_telling a_holds a_sizes a_elements a_moved a_above a_out a_first c_t c_now c_refused)) rfl (fun H locs hP hD hS => ?_)
      refine lv_icmp_le (tgt := 43) hx hb dX6_mightiest_36 (by decide) (fun hc36 => ?_) (fun hc36 => ?_)
      · have h := if_t h hc36
        refine lv_iload_n hx hb dX6_mightiest_43 rfl (lv_at hl 1 rfl) ?_
        exact w_X6_mightiest_b44 X a_t a_now a_refused a_kept a_mind a_tape a_words a_wCell a_wFaces a_wTurns a_wSign a_wBy a_wFell a_telling a_holds a_sizes a_elements a_moved a_above a_out a_first c_t c_now res (f_X6_mightiest_b18 c_t c_now n) ih c_refused l2 l1 _ _ _ h hP hD hS (lv_sub hl [0, 2] rfl)
      · have h := if_f h hc36
        refine lv_iload_n hx hb dX6_mightiest_39 rfl (lv_at hl 2 rfl) ?_
        refine lv_goto (tgt := 44) hx hb dX6_mightiest_40 (by decide) ?_
        exact w_X6_mightiest_b44 X a_t a_now a_refused a_kept a_mind a_tape a_words a_wCell a_wFaces a_wTurns a_wSign a_wBy a_wFell a_telling a_holds a_sizes a_elements a_moved a_above a_out a_first c_t c_now res (f_X6_mightiest_b18 c_t c_now n) ih c_refused l2 l2 _ _ _ h hP hD hS (lv_sub hl [0, 2] rfl)
set_option maxRecDepth 100000 in
set_option maxHeartbeats 4000000 in
theorem w_X6_mightiest (X : Ctx p m meth c cX6_mightiest 3 ((some .int)) s args wsX6_mightiest RX6 E A) (a_t : Nat) (a_now : Nat) (a_refused : Nat) (a_kept : Nat) (a_mind : Nat) (a_tape : Nat) (a_words : Nat) (a_wCell : Nat) (a_wFaces : Nat) (a_wTurns : Nat) (a_wSign : Nat) (a_wBy : Nat) (a_wFell : Nat) (a_telling : Nat) (a_holds : Nat) (a_sizes : Nat) (a_elements : Nat) (a_moved : Nat) (a_above : Nat) (a_out : Nat) (a_first : Nat) (c_t : Nat → Int32) (c_now : Nat → Int32) (res : Int32 × (Nat → Int32)) (c_refused : Nat → Int32) (ls : Array Slot) (H : Heap) (locs : List Loc) (h : f_X6_mightiest c_t c_now c_refused = some res) (hP : va_P E.1 vwCl (W_X6_mightiest E a_t a_now a_refused a_kept a_mind a_tape a_words a_wCell a_wFaces a_wTurns a_wSign a_wBy a_wFell a_telling a_holds a_sizes a_elements a_moved a_above a_out a_first c_t c_now c_refused) H) (hD : va_D A (W_X6_mightiest E a_t a_now a_refused a_kept a_mind a_tape a_words a_wCell a_wFaces a_wTurns a_wSign a_wBy a_wFell a_telling a_holds a_sizes a_elements a_moved a_above a_out a_first c_t c_now c_refused)) (hS : va_S A s.heap H locs) (hl : lv_has ls 3 [(0, .ref a_t)]) : W p l e r_X6_mightiest s m args below meth c H locs 0 0 (MQ below (qI E A (res.1) (W_X6_mightiest E a_t a_now a_refused a_kept a_mind a_tape a_words a_wCell a_wFaces a_wTurns a_wSign a_wBy a_wFell a_telling a_holds a_sizes a_elements a_moved a_above a_out a_first c_t c_now (res.2))) args s 0 0 A) (F0 m 0 ls []) := by
  obtain ⟨hx, hb, hml, hr, hlk, hown, hts, hG, hA⟩ := id X
  have hK := hG.1
  have hN := hG.2.1
  unfold f_X6_mightiest at h
  refine lv_aload_n hx hb dX6_mightiest_0 rfl (lv_at hl 0 rfl) ?_
  obtain ⟨v1, hv1, h⟩ := bind_of h
  refine after_i X (run_V X (c_X6_many l E a_t a_now a_refused a_kept a_mind a_tape a_words a_wCell a_wFaces a_wTurns a_wSign a_wBy a_wFell a_telling a_holds a_sizes a_elements a_moved a_above a_out a_first c_t c_now H.size v1 hv1) (cwV 0 hts gX6_mightiest_X6_many rfl rfl rfl hV_X6_many ⟨(Nat.le_of_ble_eq_true rfl), (Nat.le_of_ble_eq_true rfl)⟩) hP hD hS [0, 1] rfl rfl hl.1 (ci := 6) rfl rfl rfl (rest := []) rfl rfl (Nat.le_of_ble_eq_true rfl) dX6_mightiest_1) hP hD hS [0, 1] rfl (ws1 := (W_X6_mightiest E a_t a_now a_refused a_kept a_mind a_tape a_words a_wCell a_wFaces a_wTurns a_wSign a_wBy a_wFell a_telling a_holds a_sizes a_elements a_moved a_above a_out a_first c_t c_now c_refused)) rfl (fun H locs hP hD hS => ?_)
  refine lv_if_ne (tgt := 14) hx hb dX6_mightiest_4 (by decide) (fun hc4 => ?_) (fun hc4 => ?_)
  · have h := if_f h hc4
    refine lv_iconst (v := (0 : Int32)) hx hb dX6_mightiest_14 (by decide) ?_
    refine lv_istore_n (lv' := [(1, .int (0 : Int32)), (0, .ref a_t)]) hx hb dX6_mightiest_15 rfl hl (by decide) rfl (fun ls hl => ?_)
    refine lv_iconst (v := (1 : Int32)) hx hb dX6_mightiest_16 (by decide) ?_
    refine lv_istore_n (lv' := [(2, .int (1 : Int32)), (1, .int (0 : Int32)), (0, .ref a_t)]) hx hb dX6_mightiest_17 rfl hl (by decide) rfl (fun ls hl => ?_)
    exact w_X6_mightiest_b18 X a_t a_now a_refused a_kept a_mind a_tape a_words a_wCell a_wFaces a_wTurns a_wSign a_wBy a_wFell a_telling a_holds a_sizes a_elements a_moved a_above a_out a_first c_t c_now res FU c_refused (0 : Int32) (1 : Int32) _ _ _ h hP hD hS (lv_sub hl [2, 1, 0] rfl)
  · have h := if_t h hc4
    refine lv_aload_n hx hb dX6_mightiest_7 rfl (lv_at hl 0 rfl) ?_
    refine lv_bipush (v := (-5 : Int32)) hx hb dX6_mightiest_8 (by decide) ?_
    obtain ⟨v2, hv2, h⟩ := bind_of h
    refine after_i X (run_V X (c_X6_refuse l E a_t a_refused a_now a_kept a_mind a_tape a_words a_wCell a_wFaces a_wTurns a_wSign a_wBy a_wFell a_telling a_holds a_sizes a_elements a_moved a_above a_out a_first (-5 : Int32) c_t c_refused H.size v2 hv2) (cwV 1 hts gX6_mightiest_X6_refuse rfl rfl rfl hV_X6_refuse ⟨(Nat.le_of_ble_eq_true rfl), (Nat.le_of_ble_eq_true rfl)⟩) hP hD hS [0, 2] rfl rfl hl.1 (ci := 6) rfl rfl rfl (rest := []) rfl rfl (Nat.le_of_ble_eq_true rfl) dX6_mightiest_10) hP hD hS [0, 2] rfl (ws1 := (W_X6_mightiest E a_t a_now a_refused a_kept a_mind a_tape a_words a_wCell a_wFaces a_wTurns a_wSign a_wBy a_wFell a_telling a_holds a_sizes a_elements a_moved a_above a_out a_first c_t c_now (v2.2))) rfl (fun H locs hP hD hS => ?_)
    obtain rfl := Option.some.inj h
    exact ret_i X dX6_mightiest_13 hP hD hS rfl
end
set_option maxRecDepth 100000 in
theorem c_X6_mightiest (l : Launch) (E : Env0) (a_t : Nat) (a_now : Nat) (a_refused : Nat) (a_kept : Nat) (a_mind : Nat) (a_tape : Nat) (a_words : Nat) (a_wCell : Nat) (a_wFaces : Nat) (a_wTurns : Nat) (a_wSign : Nat) (a_wBy : Nat) (a_wFell : Nat) (a_telling : Nat) (a_holds : Nat) (a_sizes : Nat) (a_elements : Nat) (a_moved : Nat) (a_above : Nat) (a_out : Nat) (a_first : Nat) (c_t : Nat → Int32) (c_now : Nat → Int32) (c_refused : Nat → Int32) (sz : Nat) (res : Int32 × (Nat → Int32)) (h : f_X6_mightiest c_t c_now c_refused = some res) : Met l yX6_mightiest wsX6_mightiest r_X6_mightiest (cPre E [.ref a_t] (W_X6_mightiest E a_t a_now a_refused a_kept a_mind a_tape a_words a_wCell a_wFaces a_wTurns a_wSign a_wBy a_wFell a_telling a_holds a_sizes a_elements a_moved a_above a_out a_first c_t c_now c_refused) sz) (qI E (va_A (W_X6_mightiest E a_t a_now a_refused a_kept a_mind a_tape a_words a_wCell a_wFaces a_wTurns a_wSign a_wBy a_wFell a_telling a_holds a_sizes a_elements a_moved a_above a_out a_first c_t c_now c_refused) sz) (res.1) (W_X6_mightiest E a_t a_now a_refused a_kept a_mind a_tape a_words a_wCell a_wFaces a_wTurns a_wSign a_wBy a_wFell a_telling a_holds a_sizes a_elements a_moved a_above a_out a_first c_t c_now (res.2))) 0 0 (va_A (W_X6_mightiest E a_t a_now a_refused a_kept a_mind a_tape a_words a_wCell a_wFaces a_wTurns a_wSign a_wBy a_wFell a_telling a_holds a_sizes a_elements a_moved a_above a_out a_first c_t c_now c_refused) sz) :=
  met_of (Qc := fun A => qI E A (res.1) (W_X6_mightiest E a_t a_now a_refused a_kept a_mind a_tape a_words a_wCell a_wFaces a_wTurns a_wSign a_wBy a_wFell a_telling a_holds a_sizes a_elements a_moved a_above a_out a_first c_t c_now (res.2))) (by decide) rfl (Nat.le_of_ble_eq_true rfl) (fun p e s m args below meth c X hP hD hS ls hl => w_X6_mightiest X a_t a_now a_refused a_kept a_mind a_tape a_words a_wCell a_wFaces a_wTurns a_wSign a_wBy a_wFell a_telling a_holds a_sizes a_elements a_moved a_above a_out a_first c_t c_now res c_refused ls _ _ h hP hD hS hl)
-- ===== X6_change
noncomputable abbrev W_X6_change (E : Env0) (a_t : Nat) (a_now : Nat) (a_refused : Nat) (a_kept : Nat) (a_mind : Nat) (a_tape : Nat) (a_words : Nat) (a_wCell : Nat) (a_wFaces : Nat) (a_wTurns : Nat) (a_wSign : Nat) (a_wBy : Nat) (a_wFell : Nat) (a_telling : Nat) (a_holds : Nat) (a_sizes : Nat) (a_elements : Nat) (a_moved : Nat) (a_above : Nat) (a_out : Nat) (a_first : Nat) (c_t : Nat → Int32) (c_now : Nat → Int32) : va_W := [(a_t, .inr (6, [.ref a_refused, .ref a_now, .ref a_kept, .ref a_mind, .int (c_t 4), .ref a_tape, .int (c_t 6), .int (c_t 7), .int (c_t 8), .int (c_t 9), .ref a_words, .ref a_wCell, .ref a_wFaces, .ref a_wTurns, .ref a_wSign, .ref a_wBy, .ref a_wFell, .int (c_t 17), .ref a_telling, .ref a_holds, .ref a_sizes, .ref a_elements, .ref a_moved, .ref a_above, .ref a_out, .ref a_first])), (a_now, .inl (eI E, 97, .inl c_now))]
noncomputable abbrev r_X6_change : Room := { frames := 1, cells := 0, slots := 0, locals := 20 }
theorem hd_X6_change : yX6_change.cls ≠ "java/lang/invoke/MethodHandle" ∧ yX6_change.cls ≠ "java/lang/invoke/VarHandle" ∧ (parseMethodDescriptor yX6_change.desc).map (fun d => d.parameters.length) = some 1 := by decide +kernel
theorem hV_X6_change : yX6_change.cls = RX6 ∧ yX6_change.cls ≠ "java/lang/invoke/MethodHandle" ∧ yX6_change.cls ≠ "java/lang/invoke/VarHandle" ∧ (parseMethodDescriptor yX6_change.desc).map (fun d => d.parameters.length) = some 1 := ⟨rfl, hd_X6_change⟩
theorem iX6_change_X6 : ∀ w ∈ wsX60, w ∈ wsX6_change := fun _ h => List.mem_cons_of_mem _ (List.mem_append_right _ (h))
section
variable {p : Program} {l : Launch} {e : Env} {s : State} {m : MethodId} {args : Array Value} {below : List Frame} {meth : Method} {c : Code} {E : Env0} {A : Nat → Prop}
set_option maxRecDepth 100000 in
set_option maxHeartbeats 4000000 in
theorem w_X6_change_b2 (X : Ctx p m meth c cX6_change 3 none s args wsX6_change RX6 E A) (a_t : Nat) (a_now : Nat) (a_refused : Nat) (a_kept : Nat) (a_mind : Nat) (a_tape : Nat) (a_words : Nat) (a_wCell : Nat) (a_wFaces : Nat) (a_wTurns : Nat) (a_wSign : Nat) (a_wBy : Nat) (a_wFell : Nat) (a_telling : Nat) (a_holds : Nat) (a_sizes : Nat) (a_elements : Nat) (a_moved : Nat) (a_above : Nat) (a_out : Nat) (a_first : Nat) (c_t : Nat → Int32) (res : (Nat → Int32)) : ∀ (n : Nat) (c_now : Nat → Int32) (l1 : Int32) (l2 : Int32) (ls : Array Slot) (H : Heap) (locs : List Loc), f_X6_change_b2 c_t n c_now l1 l2 = some res → va_P E.1 vwCl (W_X6_change E a_t a_now a_refused a_kept a_mind a_tape a_words a_wCell a_wFaces a_wTurns a_wSign a_wBy a_wFell a_telling a_holds a_sizes a_elements a_moved a_above a_out a_first c_t c_now) H → va_D A (W_X6_change E a_t a_now a_refused a_kept a_mind a_tape a_words a_wCell a_wFaces a_wTurns a_wSign a_wBy a_wFell a_telling a_holds a_sizes a_elements a_moved a_above a_out a_first c_t c_now) → va_S A s.heap H locs → lv_has ls 3 [(0, .ref a_t), (1, .int l1), (2, .int l2)] → W p l e r_X6_change s m args below meth c H locs 0 0 (MQ below (qV E A (W_X6_change E a_t a_now a_refused a_kept a_mind a_tape a_words a_wCell a_wFaces a_wTurns a_wSign a_wBy a_wFell a_telling a_holds a_sizes a_elements a_moved a_above a_out a_first c_t res)) args s 0 0 A) (F0 m 2 ls []) := by
  obtain ⟨hx, hb, hml, hr, hlk, hown, hts, hG, hA⟩ := id X
  have hK := hG.1
  have hN := hG.2.1
  intro n
  induction n with
  | zero =>
    intro c_now l1 l2 ls H locs h
    exact absurd (show (none : Option ((Nat → Int32))) = some res from h) (by intro q; cases q)
  | succ n ih =>
    intro c_now l1 l2 ls H locs h hP hD hS hl
    rw [f_X6_change_b2] at h
    refine lv_iload_n hx hb dX6_change_2 rfl (lv_at hl 2 rfl) ?_
    refine lv_aload_n hx hb dX6_change_3 rfl (lv_at hl 0 rfl) ?_
    obtain ⟨v1, hv1, h⟩ := bind_of h
    refine after_i X (run_V X (c_X6_many l E a_t a_now a_refused a_kept a_mind a_tape a_words a_wCell a_wFaces a_wTurns a_wSign a_wBy a_wFell a_telling a_holds a_sizes a_elements a_moved a_above a_out a_first c_t c_now H.size v1 hv1) (cwV 0 hts gX6_change_X6_many rfl rfl rfl hV_X6_many ⟨(Nat.le_of_ble_eq_true rfl), (Nat.le_of_ble_eq_true rfl)⟩) hP hD hS [0, 1] rfl rfl hl.1 (ci := 6) rfl rfl rfl (rest := [.int l2]) rfl rfl (Nat.le_of_ble_eq_true rfl) dX6_change_4) hP hD hS [0, 1] rfl (ws1 := (W_X6_change E a_t a_now a_refused a_kept a_mind a_tape a_words a_wCell a_wFaces a_wTurns a_wSign a_wBy a_wFell a_telling a_holds a_sizes a_elements a_moved a_above a_out a_first c_t c_now)) rfl (fun H locs hP hD hS => ?_)
    refine lv_icmp_ge (tgt := 34) hx hb dX6_change_7 (by decide) (fun hc7 => ?_) (fun hc7 => ?_)
    · have h := if_t h hc7
      obtain rfl := Option.some.inj h
      exact ret_v X dX6_change_34 hP hD hS
    · have h := if_f h hc7
      refine lv_aload_n hx hb dX6_change_10 rfl (lv_at hl 0 rfl) ?_
      refine va_get (D := E.1) (ci := 6) (v := .ref a_now) (C := RX6) (T := TX6) (N := 26) hx hb hts iX6_change_X6 hown hK hP 0 rfl rfl 1 (by decide) (hts (.fieldLink RX6 17 "LeftIsAgreedOnModel" "now" "[I") (List.mem_of_getElem? (i := 1) rfl)) (fun _ h9 => h9) rfl dX6_change_11 ?_
      refine lv_iconst (v := (5 : Int32)) hx hb dX6_change_14 (by decide) ?_
      refine lv_iload_n hx hb dX6_change_15 rfl (lv_at hl 2 rfl) ?_
      refine lv_imul hx hb dX6_change_16 ?_
      refine lv_iconst (v := (4 : Int32)) hx hb dX6_change_17 (by decide) ?_
      refine lv_iadd hx hb dX6_change_18 ?_
      refine lv_dup2_11 hx hb dX6_change_19 rfl rfl ?_
      obtain ⟨hz20, h⟩ := chk_of h
      refine ld_i X hP 1 rfl (inb.vp hz20) (v := (c_now ((((5 : Int32) * l2) + (4 : Int32))).toNatClampNeg)) rfl dX6_change_20 ?_
      refine lv_iload_n hx hb dX6_change_21 rfl (lv_at hl 1 rfl) ?_
      refine lv_iload_n hx hb dX6_change_22 rfl (lv_at hl 2 rfl) ?_
      refine lv_ishr hx hb dX6_change_23 ?_
      refine lv_iconst (v := (1 : Int32)) hx hb dX6_change_24 (by decide) ?_
      refine lv_iand hx hb dX6_change_25 ?_
      refine lv_ixor hx hb dX6_change_26 ?_
      obtain ⟨hz27, h⟩ := chk_of h
      refine st_i X hP hD hS 1 rfl (inb.vp hz27) (k := ((((5 : Int32) * l2) + (4 : Int32))).toNatClampNeg) rfl (ws1 := (W_X6_change E a_t a_now a_refused a_kept a_mind a_tape a_words a_wCell a_wFaces a_wTurns a_wSign a_wBy a_wFell a_telling a_holds a_sizes a_elements a_moved a_above a_out a_first c_t (upd c_now (((((5 : Int32) * l2) + (4 : Int32))).toNatClampNeg) ((c_now ((((5 : Int32) * l2) + (4 : Int32))).toNatClampNeg) ^^^ ((l1 >>> (l2 &&& 31)) &&& (1 : Int32)))))) rfl dX6_change_27 (fun H locs hP hD hS => ?_)
      refine lv_iinc (v := (l2 + (1 : Int32))) (lv' := [(2, .int (l2 + (1 : Int32))), (0, .ref a_t), (1, .int l1)]) hx hb dX6_change_28 hl (k := 2) rfl rfl (by decide) rfl (fun ls hl => ?_)
      refine lv_goto (tgt := 2) hx hb dX6_change_31 (by decide) ?_
      exact ih (upd c_now (((((5 : Int32) * l2) + (4 : Int32))).toNatClampNeg) ((c_now ((((5 : Int32) * l2) + (4 : Int32))).toNatClampNeg) ^^^ ((l1 >>> (l2 &&& 31)) &&& (1 : Int32)))) l1 (l2 + (1 : Int32)) _ _ _ h hP hD hS (lv_sub hl [1, 2, 0] rfl)
set_option maxRecDepth 100000 in
set_option maxHeartbeats 4000000 in
theorem w_X6_change (X : Ctx p m meth c cX6_change 3 none s args wsX6_change RX6 E A) (a_t : Nat) (a_now : Nat) (a_refused : Nat) (a_kept : Nat) (a_mind : Nat) (a_tape : Nat) (a_words : Nat) (a_wCell : Nat) (a_wFaces : Nat) (a_wTurns : Nat) (a_wSign : Nat) (a_wBy : Nat) (a_wFell : Nat) (a_telling : Nat) (a_holds : Nat) (a_sizes : Nat) (a_elements : Nat) (a_moved : Nat) (a_above : Nat) (a_out : Nat) (a_first : Nat) (c_t : Nat → Int32) (res : (Nat → Int32)) (c_now : Nat → Int32) (l1 : Int32) (ls : Array Slot) (H : Heap) (locs : List Loc) (h : f_X6_change l1 c_t c_now = some res) (hP : va_P E.1 vwCl (W_X6_change E a_t a_now a_refused a_kept a_mind a_tape a_words a_wCell a_wFaces a_wTurns a_wSign a_wBy a_wFell a_telling a_holds a_sizes a_elements a_moved a_above a_out a_first c_t c_now) H) (hD : va_D A (W_X6_change E a_t a_now a_refused a_kept a_mind a_tape a_words a_wCell a_wFaces a_wTurns a_wSign a_wBy a_wFell a_telling a_holds a_sizes a_elements a_moved a_above a_out a_first c_t c_now)) (hS : va_S A s.heap H locs) (hl : lv_has ls 3 [(0, .ref a_t), (1, .int l1)]) : W p l e r_X6_change s m args below meth c H locs 0 0 (MQ below (qV E A (W_X6_change E a_t a_now a_refused a_kept a_mind a_tape a_words a_wCell a_wFaces a_wTurns a_wSign a_wBy a_wFell a_telling a_holds a_sizes a_elements a_moved a_above a_out a_first c_t res)) args s 0 0 A) (F0 m 0 ls []) := by
  obtain ⟨hx, hb, hml, hr, hlk, hown, hts, hG, hA⟩ := id X
  have hK := hG.1
  have hN := hG.2.1
  unfold f_X6_change at h
  refine lv_iconst (v := (0 : Int32)) hx hb dX6_change_0 (by decide) ?_
  refine lv_istore_n (lv' := [(2, .int (0 : Int32)), (0, .ref a_t), (1, .int l1)]) hx hb dX6_change_1 rfl hl (by decide) rfl (fun ls hl => ?_)
  exact w_X6_change_b2 X a_t a_now a_refused a_kept a_mind a_tape a_words a_wCell a_wFaces a_wTurns a_wSign a_wBy a_wFell a_telling a_holds a_sizes a_elements a_moved a_above a_out a_first c_t res FU c_now l1 (0 : Int32) _ _ _ h hP hD hS (lv_sub hl [1, 2, 0] rfl)
end
set_option maxRecDepth 100000 in
theorem c_X6_change (l : Launch) (E : Env0) (a_t : Nat) (a_now : Nat) (a_refused : Nat) (a_kept : Nat) (a_mind : Nat) (a_tape : Nat) (a_words : Nat) (a_wCell : Nat) (a_wFaces : Nat) (a_wTurns : Nat) (a_wSign : Nat) (a_wBy : Nat) (a_wFell : Nat) (a_telling : Nat) (a_holds : Nat) (a_sizes : Nat) (a_elements : Nat) (a_moved : Nat) (a_above : Nat) (a_out : Nat) (a_first : Nat) (l1 : Int32) (c_t : Nat → Int32) (c_now : Nat → Int32) (sz : Nat) (res : (Nat → Int32)) (h : f_X6_change l1 c_t c_now = some res) : Met l yX6_change wsX6_change r_X6_change (cPre E [.ref a_t, .int l1] (W_X6_change E a_t a_now a_refused a_kept a_mind a_tape a_words a_wCell a_wFaces a_wTurns a_wSign a_wBy a_wFell a_telling a_holds a_sizes a_elements a_moved a_above a_out a_first c_t c_now) sz) (qV E (va_A (W_X6_change E a_t a_now a_refused a_kept a_mind a_tape a_words a_wCell a_wFaces a_wTurns a_wSign a_wBy a_wFell a_telling a_holds a_sizes a_elements a_moved a_above a_out a_first c_t c_now) sz) (W_X6_change E a_t a_now a_refused a_kept a_mind a_tape a_words a_wCell a_wFaces a_wTurns a_wSign a_wBy a_wFell a_telling a_holds a_sizes a_elements a_moved a_above a_out a_first c_t res)) 0 0 (va_A (W_X6_change E a_t a_now a_refused a_kept a_mind a_tape a_words a_wCell a_wFaces a_wTurns a_wSign a_wBy a_wFell a_telling a_holds a_sizes a_elements a_moved a_above a_out a_first c_t c_now) sz) :=
  met_of (Qc := fun A => qV E A (W_X6_change E a_t a_now a_refused a_kept a_mind a_tape a_words a_wCell a_wFaces a_wTurns a_wSign a_wBy a_wFell a_telling a_holds a_sizes a_elements a_moved a_above a_out a_first c_t res)) (by decide) rfl (Nat.le_of_ble_eq_true rfl) (fun p e s m args below meth c X hP hD hS ls hl => w_X6_change X a_t a_now a_refused a_kept a_mind a_tape a_words a_wCell a_wFaces a_wTurns a_wSign a_wBy a_wFell a_telling a_holds a_sizes a_elements a_moved a_above a_out a_first c_t res c_now l1 ls _ _ h hP hD hS hl)
