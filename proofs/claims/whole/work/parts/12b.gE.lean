-- ===== X6_isShore
noncomputable abbrev W_X6_isShore (E : Env0) (a_t : Nat) (a_now : Nat) (a_refused : Nat) (a_kept : Nat) (a_mind : Nat) (a_tape : Nat) (a_words : Nat) (a_wCell : Nat) (a_wFaces : Nat) (a_wTurns : Nat) (a_wSign : Nat) (a_wBy : Nat) (a_wFell : Nat) (a_telling : Nat) (a_holds : Nat) (a_sizes : Nat) (a_elements : Nat) (a_moved : Nat) (a_above : Nat) (a_out : Nat) (a_first : Nat) (c_t : Nat → Int32) (c_now : Nat → Int32) : va_W := [(a_t, .inr (6, [.ref a_refused, .ref a_now, .ref a_kept, .ref a_mind, .int (c_t 4), .ref a_tape, .int (c_t 6), .int (c_t 7), .int (c_t 8), .int (c_t 9), .ref a_words, .ref a_wCell, .ref a_wFaces, .ref a_wTurns, .ref a_wSign, .ref a_wBy, .ref a_wFell, .int (c_t 17), .ref a_telling, .ref a_holds, .ref a_sizes, .ref a_elements, .ref a_moved, .ref a_above, .ref a_out, .ref a_first])), (a_now, .inl (eI E, 97, .inl c_now))]
noncomputable abbrev r_X6_isShore : Room := { frames := 2, cells := 0, slots := 0, locals := 49 }
theorem hd_X6_isShore : yX6_isShore.cls ≠ "java/lang/invoke/MethodHandle" ∧ yX6_isShore.cls ≠ "java/lang/invoke/VarHandle" ∧ (parseMethodDescriptor yX6_isShore.desc).map (fun d => d.parameters.length) = some 1 := by decide +kernel
theorem hV_X6_isShore : yX6_isShore.cls = RX6 ∧ yX6_isShore.cls ≠ "java/lang/invoke/MethodHandle" ∧ yX6_isShore.cls ≠ "java/lang/invoke/VarHandle" ∧ (parseMethodDescriptor yX6_isShore.desc).map (fun d => d.parameters.length) = some 1 := ⟨rfl, hd_X6_isShore⟩
section
variable {p : Program} {l : Launch} {e : Env} {s : State} {m : MethodId} {args : Array Value} {below : List Frame} {meth : Method} {c : Code} {E : Env0} {A : Nat → Prop}
set_option maxRecDepth 100000 in
set_option maxHeartbeats 4000000 in
theorem w_X6_isShore_b41 (X : Ctx p m meth c cX6_isShore 5 ((some .boolean)) s args wsX6_isShore RX6 E A) (a_t : Nat) (a_now : Nat) (a_refused : Nat) (a_kept : Nat) (a_mind : Nat) (a_tape : Nat) (a_words : Nat) (a_wCell : Nat) (a_wFaces : Nat) (a_wTurns : Nat) (a_wSign : Nat) (a_wBy : Nat) (a_wFell : Nat) (a_telling : Nat) (a_holds : Nat) (a_sizes : Nat) (a_elements : Nat) (a_moved : Nat) (a_above : Nat) (a_out : Nat) (a_first : Nat) (c_t : Nat → Int32) (c_now : Nat → Int32) (res : Int32) (k4 : Int32 → Int32 → Int32 → Option (Int32)) (hk4 : ∀ (l1 : Int32) (l2 : Int32) (l3 : Int32) (ls : Array Slot) (H : Heap) (locs : List Loc), k4 l1 l2 l3 = some res → va_P E.1 vwCl (W_X6_isShore E a_t a_now a_refused a_kept a_mind a_tape a_words a_wCell a_wFaces a_wTurns a_wSign a_wBy a_wFell a_telling a_holds a_sizes a_elements a_moved a_above a_out a_first c_t c_now) H → va_D A (W_X6_isShore E a_t a_now a_refused a_kept a_mind a_tape a_words a_wCell a_wFaces a_wTurns a_wSign a_wBy a_wFell a_telling a_holds a_sizes a_elements a_moved a_above a_out a_first c_t c_now) → va_S A s.heap H locs → lv_has ls 5 [(0, .ref a_t), (1, .int l1), (2, .int l2), (3, .int l3)] → W p l e r_X6_isShore s m args below meth c H locs 0 0 (MQ below (qI E A res (W_X6_isShore E a_t a_now a_refused a_kept a_mind a_tape a_words a_wCell a_wFaces a_wTurns a_wSign a_wBy a_wFell a_telling a_holds a_sizes a_elements a_moved a_above a_out a_first c_t c_now)) args s 0 0 A) (F0 m 4 ls [])) (l1 : Int32) (l3 : Int32) (s0 : Int32) (ls : Array Slot) (H : Heap) (locs : List Loc) (h : f_X6_isShore_b41 c_t c_now k4 l1 l3 s0 = some res) (hP : va_P E.1 vwCl (W_X6_isShore E a_t a_now a_refused a_kept a_mind a_tape a_words a_wCell a_wFaces a_wTurns a_wSign a_wBy a_wFell a_telling a_holds a_sizes a_elements a_moved a_above a_out a_first c_t c_now) H) (hD : va_D A (W_X6_isShore E a_t a_now a_refused a_kept a_mind a_tape a_words a_wCell a_wFaces a_wTurns a_wSign a_wBy a_wFell a_telling a_holds a_sizes a_elements a_moved a_above a_out a_first c_t c_now)) (hS : va_S A s.heap H locs) (hl : lv_has ls 5 [(0, .ref a_t), (1, .int l1), (3, .int l3)]) : W p l e r_X6_isShore s m args below meth c H locs 0 0 (MQ below (qI E A res (W_X6_isShore E a_t a_now a_refused a_kept a_mind a_tape a_words a_wCell a_wFaces a_wTurns a_wSign a_wBy a_wFell a_telling a_holds a_sizes a_elements a_moved a_above a_out a_first c_t c_now)) args s 0 0 A) (F0 m 41 ls [.int s0]) := by
  obtain ⟨hx, hb, hml, hr, hlk, hown, hts, hG, hA⟩ := id X
  have hK := hG.1
  have hN := hG.2.1
  unfold f_X6_isShore_b41 at h
  refine lv_istore_n (lv' := [(2, .int s0), (0, .ref a_t), (1, .int l1), (3, .int l3)]) hx hb dX6_isShore_41 rfl hl (by decide) rfl (fun ls hl => ?_)
  refine lv_iinc (v := (l3 + (1 : Int32))) (lv' := [(3, .int (l3 + (1 : Int32))), (2, .int s0), (0, .ref a_t), (1, .int l1)]) hx hb dX6_isShore_42 hl (k := 3) rfl rfl (by decide) rfl (fun ls hl => ?_)
  refine lv_goto (tgt := 4) hx hb dX6_isShore_45 (by decide) ?_
  exact hk4 l1 s0 (l3 + (1 : Int32)) _ _ _ h hP hD hS (lv_sub hl [2, 3, 1, 0] rfl)
set_option maxRecDepth 100000 in
set_option maxHeartbeats 4000000 in
theorem w_X6_isShore_b36 (X : Ctx p m meth c cX6_isShore 5 ((some .boolean)) s args wsX6_isShore RX6 E A) (a_t : Nat) (a_now : Nat) (a_refused : Nat) (a_kept : Nat) (a_mind : Nat) (a_tape : Nat) (a_words : Nat) (a_wCell : Nat) (a_wFaces : Nat) (a_wTurns : Nat) (a_wSign : Nat) (a_wBy : Nat) (a_wFell : Nat) (a_telling : Nat) (a_holds : Nat) (a_sizes : Nat) (a_elements : Nat) (a_moved : Nat) (a_above : Nat) (a_out : Nat) (a_first : Nat) (c_t : Nat → Int32) (c_now : Nat → Int32) (res : Int32) (k4 : Int32 → Int32 → Int32 → Option (Int32)) (hk4 : ∀ (l1 : Int32) (l2 : Int32) (l3 : Int32) (ls : Array Slot) (H : Heap) (locs : List Loc), k4 l1 l2 l3 = some res → va_P E.1 vwCl (W_X6_isShore E a_t a_now a_refused a_kept a_mind a_tape a_words a_wCell a_wFaces a_wTurns a_wSign a_wBy a_wFell a_telling a_holds a_sizes a_elements a_moved a_above a_out a_first c_t c_now) H → va_D A (W_X6_isShore E a_t a_now a_refused a_kept a_mind a_tape a_words a_wCell a_wFaces a_wTurns a_wSign a_wBy a_wFell a_telling a_holds a_sizes a_elements a_moved a_above a_out a_first c_t c_now) → va_S A s.heap H locs → lv_has ls 5 [(0, .ref a_t), (1, .int l1), (2, .int l2), (3, .int l3)] → W p l e r_X6_isShore s m args below meth c H locs 0 0 (MQ below (qI E A res (W_X6_isShore E a_t a_now a_refused a_kept a_mind a_tape a_words a_wCell a_wFaces a_wTurns a_wSign a_wBy a_wFell a_telling a_holds a_sizes a_elements a_moved a_above a_out a_first c_t c_now)) args s 0 0 A) (F0 m 4 ls [])) (l1 : Int32) (l3 : Int32) (ls : Array Slot) (H : Heap) (locs : List Loc) (h : f_X6_isShore_b36 c_t c_now k4 l1 l3 = some res) (hP : va_P E.1 vwCl (W_X6_isShore E a_t a_now a_refused a_kept a_mind a_tape a_words a_wCell a_wFaces a_wTurns a_wSign a_wBy a_wFell a_telling a_holds a_sizes a_elements a_moved a_above a_out a_first c_t c_now) H) (hD : va_D A (W_X6_isShore E a_t a_now a_refused a_kept a_mind a_tape a_words a_wCell a_wFaces a_wTurns a_wSign a_wBy a_wFell a_telling a_holds a_sizes a_elements a_moved a_above a_out a_first c_t c_now)) (hS : va_S A s.heap H locs) (hl : lv_has ls 5 [(0, .ref a_t), (1, .int l1), (3, .int l3)]) : W p l e r_X6_isShore s m args below meth c H locs 0 0 (MQ below (qI E A res (W_X6_isShore E a_t a_now a_refused a_kept a_mind a_tape a_words a_wCell a_wFaces a_wTurns a_wSign a_wBy a_wFell a_telling a_holds a_sizes a_elements a_moved a_above a_out a_first c_t c_now)) args s 0 0 A) (F0 m 36 ls []) := by
  obtain ⟨hx, hb, hml, hr, hlk, hown, hts, hG, hA⟩ := id X
  have hK := hG.1
  have hN := hG.2.1
  unfold f_X6_isShore_b36 at h
  refine lv_iconst (v := (1 : Int32)) hx hb dX6_isShore_36 (by decide) ?_
  refine lv_goto (tgt := 41) hx hb dX6_isShore_37 (by decide) ?_
  exact w_X6_isShore_b41 X a_t a_now a_refused a_kept a_mind a_tape a_words a_wCell a_wFaces a_wTurns a_wSign a_wBy a_wFell a_telling a_holds a_sizes a_elements a_moved a_above a_out a_first c_t c_now res k4 hk4 l1 l3 (1 : Int32) _ _ _ h hP hD hS (lv_sub hl [0, 1, 2] rfl)
set_option maxRecDepth 100000 in
set_option maxHeartbeats 4000000 in
theorem w_X6_isShore_b40 (X : Ctx p m meth c cX6_isShore 5 ((some .boolean)) s args wsX6_isShore RX6 E A) (a_t : Nat) (a_now : Nat) (a_refused : Nat) (a_kept : Nat) (a_mind : Nat) (a_tape : Nat) (a_words : Nat) (a_wCell : Nat) (a_wFaces : Nat) (a_wTurns : Nat) (a_wSign : Nat) (a_wBy : Nat) (a_wFell : Nat) (a_telling : Nat) (a_holds : Nat) (a_sizes : Nat) (a_elements : Nat) (a_moved : Nat) (a_above : Nat) (a_out : Nat) (a_first : Nat) (c_t : Nat → Int32) (c_now : Nat → Int32) (res : Int32) (k4 : Int32 → Int32 → Int32 → Option (Int32)) (hk4 : ∀ (l1 : Int32) (l2 : Int32) (l3 : Int32) (ls : Array Slot) (H : Heap) (locs : List Loc), k4 l1 l2 l3 = some res → va_P E.1 vwCl (W_X6_isShore E a_t a_now a_refused a_kept a_mind a_tape a_words a_wCell a_wFaces a_wTurns a_wSign a_wBy a_wFell a_telling a_holds a_sizes a_elements a_moved a_above a_out a_first c_t c_now) H → va_D A (W_X6_isShore E a_t a_now a_refused a_kept a_mind a_tape a_words a_wCell a_wFaces a_wTurns a_wSign a_wBy a_wFell a_telling a_holds a_sizes a_elements a_moved a_above a_out a_first c_t c_now) → va_S A s.heap H locs → lv_has ls 5 [(0, .ref a_t), (1, .int l1), (2, .int l2), (3, .int l3)] → W p l e r_X6_isShore s m args below meth c H locs 0 0 (MQ below (qI E A res (W_X6_isShore E a_t a_now a_refused a_kept a_mind a_tape a_words a_wCell a_wFaces a_wTurns a_wSign a_wBy a_wFell a_telling a_holds a_sizes a_elements a_moved a_above a_out a_first c_t c_now)) args s 0 0 A) (F0 m 4 ls [])) (l1 : Int32) (l3 : Int32) (ls : Array Slot) (H : Heap) (locs : List Loc) (h : f_X6_isShore_b40 c_t c_now k4 l1 l3 = some res) (hP : va_P E.1 vwCl (W_X6_isShore E a_t a_now a_refused a_kept a_mind a_tape a_words a_wCell a_wFaces a_wTurns a_wSign a_wBy a_wFell a_telling a_holds a_sizes a_elements a_moved a_above a_out a_first c_t c_now) H) (hD : va_D A (W_X6_isShore E a_t a_now a_refused a_kept a_mind a_tape a_words a_wCell a_wFaces a_wTurns a_wSign a_wBy a_wFell a_telling a_holds a_sizes a_elements a_moved a_above a_out a_first c_t c_now)) (hS : va_S A s.heap H locs) (hl : lv_has ls 5 [(0, .ref a_t), (1, .int l1), (3, .int l3)]) : W p l e r_X6_isShore s m args below meth c H locs 0 0 (MQ below (qI E A res (W_X6_isShore E a_t a_now a_refused a_kept a_mind a_tape a_words a_wCell a_wFaces a_wTurns a_wSign a_wBy a_wFell a_telling a_holds a_sizes a_elements a_moved a_above a_out a_first c_t c_now)) args s 0 0 A) (F0 m 40 ls []) := by
  obtain ⟨hx, hb, hml, hr, hlk, hown, hts, hG, hA⟩ := id X
  have hK := hG.1
  have hN := hG.2.1
  unfold f_X6_isShore_b40 at h
  refine lv_iconst (v := (0 : Int32)) hx hb dX6_isShore_40 (by decide) ?_
  exact w_X6_isShore_b41 X a_t a_now a_refused a_kept a_mind a_tape a_words a_wCell a_wFaces a_wTurns a_wSign a_wBy a_wFell a_telling a_holds a_sizes a_elements a_moved a_above a_out a_first c_t c_now res k4 hk4 l1 l3 (0 : Int32) _ _ _ h hP hD hS (lv_sub hl [0, 1, 2] rfl)
set_option maxRecDepth 100000 in
set_option maxHeartbeats 4000000 in
theorem w_X6_isShore_b4 (X : Ctx p m meth c cX6_isShore 5 ((some .boolean)) s args wsX6_isShore RX6 E A) (a_t : Nat) (a_now : Nat) (a_refused : Nat) (a_kept : Nat) (a_mind : Nat) (a_tape : Nat) (a_words : Nat) (a_wCell : Nat) (a_wFaces : Nat) (a_wTurns : Nat) (a_wSign : Nat) (a_wBy : Nat) (a_wFell : Nat) (a_telling : Nat) (a_holds : Nat) (a_sizes : Nat) (a_elements : Nat) (a_moved : Nat) (a_above : Nat) (a_out : Nat) (a_first : Nat) (c_t : Nat → Int32) (c_now : Nat → Int32) (res : Int32) : ∀ (n : Nat) (l1 : Int32) (l2 : Int32) (l3 : Int32) (ls : Array Slot) (H : Heap) (locs : List Loc), f_X6_isShore_b4 c_t c_now n l1 l2 l3 = some res → va_P E.1 vwCl (W_X6_isShore E a_t a_now a_refused a_kept a_mind a_tape a_words a_wCell a_wFaces a_wTurns a_wSign a_wBy a_wFell a_telling a_holds a_sizes a_elements a_moved a_above a_out a_first c_t c_now) H → va_D A (W_X6_isShore E a_t a_now a_refused a_kept a_mind a_tape a_words a_wCell a_wFaces a_wTurns a_wSign a_wBy a_wFell a_telling a_holds a_sizes a_elements a_moved a_above a_out a_first c_t c_now) → va_S A s.heap H locs → lv_has ls 5 [(0, .ref a_t), (1, .int l1), (2, .int l2), (3, .int l3)] → W p l e r_X6_isShore s m args below meth c H locs 0 0 (MQ below (qI E A res (W_X6_isShore E a_t a_now a_refused a_kept a_mind a_tape a_words a_wCell a_wFaces a_wTurns a_wSign a_wBy a_wFell a_telling a_holds a_sizes a_elements a_moved a_above a_out a_first c_t c_now)) args s 0 0 A) (F0 m 4 ls []) := by
  obtain ⟨hx, hb, hml, hr, hlk, hown, hts, hG, hA⟩ := id X
  have hK := hG.1
  have hN := hG.2.1
  intro n
  induction n with
  | zero =>
    intro l1 l2 l3 ls H locs h
    exact absurd (show (none : Option (Int32)) = some res from h) (by intro q; cases q)
  | succ n ih =>
    intro l1 l2 l3 ls H locs h hP hD hS hl
    rw [f_X6_isShore_b4] at h
    refine lv_iload_n hx hb dX6_isShore_4 rfl (lv_at hl 3 rfl) ?_
    refine lv_iconst (v := (4 : Int32)) hx hb dX6_isShore_5 (by decide) ?_
    refine lv_icmp_ge (tgt := 48) hx hb dX6_isShore_6 (by decide) (fun hc6 => ?_) (fun hc6 => ?_)
    · have h := if_t h hc6
      refine lv_iload_n hx hb dX6_isShore_48 rfl (lv_at hl 2 rfl) ?_
      obtain ⟨hz49, h⟩ := chk_of h
      obtain rfl := Option.some.inj h
      exact ret_z X dX6_isShore_49 hz49 hP hD hS rfl
    · have h := if_f h hc6
      refine lv_aload_n hx hb dX6_isShore_9 rfl (lv_at hl 0 rfl) ?_
      refine lv_iload_n hx hb dX6_isShore_10 rfl (lv_at hl 1 rfl) ?_
      refine lv_iload_n hx hb dX6_isShore_11 rfl (lv_at hl 3 rfl) ?_
      obtain ⟨v1, hv1, h⟩ := bind_of h
      refine after_i X (run_V X (c_X6_beside l E a_t a_now a_refused a_kept a_mind a_tape a_words a_wCell a_wFaces a_wTurns a_wSign a_wBy a_wFell a_telling a_holds a_sizes a_elements a_moved a_above a_out a_first l1 l3 c_t c_now H.size v1 hv1) (cwV 2 hts gX6_isShore_X6_beside rfl rfl rfl hV_X6_beside ⟨(Nat.le_of_ble_eq_true rfl), (Nat.le_of_ble_eq_true rfl)⟩) hP hD hS [0, 1] rfl rfl hl.1 (ci := 6) rfl rfl rfl (rest := []) rfl rfl (Nat.le_of_ble_eq_true rfl) dX6_isShore_12) hP hD hS [0, 1] rfl (ws1 := (W_X6_isShore E a_t a_now a_refused a_kept a_mind a_tape a_words a_wCell a_wFaces a_wTurns a_wSign a_wBy a_wFell a_telling a_holds a_sizes a_elements a_moved a_above a_out a_first c_t c_now)) rfl (fun H locs hP hD hS => ?_)
      refine lv_istore (lv' := [(4, .int v1), (0, .ref a_t), (1, .int l1), (2, .int l2), (3, .int l3)]) hx hb dX6_isShore_15 hl (by decide) rfl (fun ls hl => ?_)
      refine lv_iload_n hx hb dX6_isShore_17 rfl (lv_at hl 3 rfl) ?_
      refine lv_if_ne (tgt := 36) hx hb dX6_isShore_18 (by decide) (fun hc18 => ?_) (fun hc18 => ?_)
      · have h := if_f h hc18
        exact w_X6_isShore_b36 X a_t a_now a_refused a_kept a_mind a_tape a_words a_wCell a_wFaces a_wTurns a_wSign a_wBy a_wFell a_telling a_holds a_sizes a_elements a_moved a_above a_out a_first c_t c_now res (f_X6_isShore_b4 c_t c_now n) ih l1 l3 _ _ _ h hP hD hS (lv_sub hl [1, 2, 4] rfl)
      · have h := if_t h hc18
        refine lv_iload hx hb dX6_isShore_21 (lv_at hl 0 rfl) ?_
        refine lv_iconst (v := (-1 : Int32)) hx hb dX6_isShore_23 (by decide) ?_
        refine lv_icmp_eq (tgt := 40) hx hb dX6_isShore_24 (by decide) (fun hc24 => ?_) (fun hc24 => ?_)
        · have h := if_t h hc24
          exact w_X6_isShore_b40 X a_t a_now a_refused a_kept a_mind a_tape a_words a_wCell a_wFaces a_wTurns a_wSign a_wBy a_wFell a_telling a_holds a_sizes a_elements a_moved a_above a_out a_first c_t c_now res (f_X6_isShore_b4 c_t c_now n) ih l1 l3 _ _ _ h hP hD hS (lv_sub hl [1, 2, 4] rfl)
        · have h := if_f h hc24
          refine lv_aload_n hx hb dX6_isShore_27 rfl (lv_at hl 1 rfl) ?_
          refine lv_iload hx hb dX6_isShore_28 (lv_at hl 0 rfl) ?_
          obtain ⟨v2, hv2, h⟩ := bind_of h
          refine after_i X (run_V X (c_X6_hasPond l E a_t a_now a_refused a_kept a_mind a_tape a_words a_wCell a_wFaces a_wTurns a_wSign a_wBy a_wFell a_telling a_holds a_sizes a_elements a_moved a_above a_out a_first v1 c_t c_now H.size v2 hv2) (cwV 1 hts gX6_isShore_X6_hasPond rfl rfl rfl hV_X6_hasPond ⟨(Nat.le_of_ble_eq_true rfl), (Nat.le_of_ble_eq_true rfl)⟩) hP hD hS [0, 1] rfl rfl hl.1 (ci := 6) rfl rfl rfl (rest := []) rfl rfl (Nat.le_of_ble_eq_true rfl) dX6_isShore_30) hP hD hS [0, 1] rfl (ws1 := (W_X6_isShore E a_t a_now a_refused a_kept a_mind a_tape a_words a_wCell a_wFaces a_wTurns a_wSign a_wBy a_wFell a_telling a_holds a_sizes a_elements a_moved a_above a_out a_first c_t c_now)) rfl (fun H locs hP hD hS => ?_)
          refine lv_if_eq (tgt := 40) hx hb dX6_isShore_33 (by decide) (fun hc33 => ?_) (fun hc33 => ?_)
          · have h := if_t h hc33
            exact w_X6_isShore_b40 X a_t a_now a_refused a_kept a_mind a_tape a_words a_wCell a_wFaces a_wTurns a_wSign a_wBy a_wFell a_telling a_holds a_sizes a_elements a_moved a_above a_out a_first c_t c_now res (f_X6_isShore_b4 c_t c_now n) ih l1 l3 _ _ _ h hP hD hS (lv_sub hl [1, 2, 4] rfl)
          · have h := if_f h hc33
            exact w_X6_isShore_b36 X a_t a_now a_refused a_kept a_mind a_tape a_words a_wCell a_wFaces a_wTurns a_wSign a_wBy a_wFell a_telling a_holds a_sizes a_elements a_moved a_above a_out a_first c_t c_now res (f_X6_isShore_b4 c_t c_now n) ih l1 l3 _ _ _ h hP hD hS (lv_sub hl [1, 2, 4] rfl)
set_option maxRecDepth 100000 in
set_option maxHeartbeats 4000000 in
theorem w_X6_isShore (X : Ctx p m meth c cX6_isShore 5 ((some .boolean)) s args wsX6_isShore RX6 E A) (a_t : Nat) (a_now : Nat) (a_refused : Nat) (a_kept : Nat) (a_mind : Nat) (a_tape : Nat) (a_words : Nat) (a_wCell : Nat) (a_wFaces : Nat) (a_wTurns : Nat) (a_wSign : Nat) (a_wBy : Nat) (a_wFell : Nat) (a_telling : Nat) (a_holds : Nat) (a_sizes : Nat) (a_elements : Nat) (a_moved : Nat) (a_above : Nat) (a_out : Nat) (a_first : Nat) (c_t : Nat → Int32) (c_now : Nat → Int32) (res : Int32) (l1 : Int32) (ls : Array Slot) (H : Heap) (locs : List Loc) (h : f_X6_isShore l1 c_t c_now = some res) (hP : va_P E.1 vwCl (W_X6_isShore E a_t a_now a_refused a_kept a_mind a_tape a_words a_wCell a_wFaces a_wTurns a_wSign a_wBy a_wFell a_telling a_holds a_sizes a_elements a_moved a_above a_out a_first c_t c_now) H) (hD : va_D A (W_X6_isShore E a_t a_now a_refused a_kept a_mind a_tape a_words a_wCell a_wFaces a_wTurns a_wSign a_wBy a_wFell a_telling a_holds a_sizes a_elements a_moved a_above a_out a_first c_t c_now)) (hS : va_S A s.heap H locs) (hl : lv_has ls 5 [(0, .ref a_t), (1, .int l1)]) : W p l e r_X6_isShore s m args below meth c H locs 0 0 (MQ below (qI E A res (W_X6_isShore E a_t a_now a_refused a_kept a_mind a_tape a_words a_wCell a_wFaces a_wTurns a_wSign a_wBy a_wFell a_telling a_holds a_sizes a_elements a_moved a_above a_out a_first c_t c_now)) args s 0 0 A) (F0 m 0 ls []) := by
  obtain ⟨hx, hb, hml, hr, hlk, hown, hts, hG, hA⟩ := id X
  have hK := hG.1
  have hN := hG.2.1
  unfold f_X6_isShore at h
  refine lv_iconst (v := (0 : Int32)) hx hb dX6_isShore_0 (by decide) ?_
  refine lv_istore_n (lv' := [(2, .int (0 : Int32)), (0, .ref a_t), (1, .int l1)]) hx hb dX6_isShore_1 rfl hl (by decide) rfl (fun ls hl => ?_)
  refine lv_iconst (v := (0 : Int32)) hx hb dX6_isShore_2 (by decide) ?_
  refine lv_istore_n (lv' := [(3, .int (0 : Int32)), (2, .int (0 : Int32)), (0, .ref a_t), (1, .int l1)]) hx hb dX6_isShore_3 rfl hl (by decide) rfl (fun ls hl => ?_)
  exact w_X6_isShore_b4 X a_t a_now a_refused a_kept a_mind a_tape a_words a_wCell a_wFaces a_wTurns a_wSign a_wBy a_wFell a_telling a_holds a_sizes a_elements a_moved a_above a_out a_first c_t c_now res FU l1 (0 : Int32) (0 : Int32) _ _ _ h hP hD hS (lv_sub hl [2, 3, 1, 0] rfl)
end
set_option maxRecDepth 100000 in
theorem c_X6_isShore (l : Launch) (E : Env0) (a_t : Nat) (a_now : Nat) (a_refused : Nat) (a_kept : Nat) (a_mind : Nat) (a_tape : Nat) (a_words : Nat) (a_wCell : Nat) (a_wFaces : Nat) (a_wTurns : Nat) (a_wSign : Nat) (a_wBy : Nat) (a_wFell : Nat) (a_telling : Nat) (a_holds : Nat) (a_sizes : Nat) (a_elements : Nat) (a_moved : Nat) (a_above : Nat) (a_out : Nat) (a_first : Nat) (l1 : Int32) (c_t : Nat → Int32) (c_now : Nat → Int32) (sz : Nat) (res : Int32) (h : f_X6_isShore l1 c_t c_now = some res) : Met l yX6_isShore wsX6_isShore r_X6_isShore (cPre E [.ref a_t, .int l1] (W_X6_isShore E a_t a_now a_refused a_kept a_mind a_tape a_words a_wCell a_wFaces a_wTurns a_wSign a_wBy a_wFell a_telling a_holds a_sizes a_elements a_moved a_above a_out a_first c_t c_now) sz) (qI E (va_A (W_X6_isShore E a_t a_now a_refused a_kept a_mind a_tape a_words a_wCell a_wFaces a_wTurns a_wSign a_wBy a_wFell a_telling a_holds a_sizes a_elements a_moved a_above a_out a_first c_t c_now) sz) res (W_X6_isShore E a_t a_now a_refused a_kept a_mind a_tape a_words a_wCell a_wFaces a_wTurns a_wSign a_wBy a_wFell a_telling a_holds a_sizes a_elements a_moved a_above a_out a_first c_t c_now)) 0 0 (va_A (W_X6_isShore E a_t a_now a_refused a_kept a_mind a_tape a_words a_wCell a_wFaces a_wTurns a_wSign a_wBy a_wFell a_telling a_holds a_sizes a_elements a_moved a_above a_out a_first c_t c_now) sz) :=
  met_of (Qc := fun A => qI E A res (W_X6_isShore E a_t a_now a_refused a_kept a_mind a_tape a_words a_wCell a_wFaces a_wTurns a_wSign a_wBy a_wFell a_telling a_holds a_sizes a_elements a_moved a_above a_out a_first c_t c_now)) (by decide) rfl (Nat.le_of_ble_eq_true rfl) (fun p e s m args below meth c X hP hD hS ls hl => w_X6_isShore X a_t a_now a_refused a_kept a_mind a_tape a_words a_wCell a_wFaces a_wTurns a_wSign a_wBy a_wFell a_telling a_holds a_sizes a_elements a_moved a_above a_out a_first c_t c_now res l1 ls _ _ h hP hD hS hl)
-- ===== X6_add
noncomputable abbrev W_X6_add (E : Env0) (a_t : Nat) (a_now : Nat) (a_refused : Nat) (a_kept : Nat) (a_mind : Nat) (a_tape : Nat) (a_words : Nat) (a_wCell : Nat) (a_wFaces : Nat) (a_wTurns : Nat) (a_wSign : Nat) (a_wBy : Nat) (a_wFell : Nat) (a_telling : Nat) (a_holds : Nat) (a_sizes : Nat) (a_elements : Nat) (a_moved : Nat) (a_above : Nat) (a_out : Nat) (a_first : Nat) (c_t : Nat → Int32) (c_now : Nat → Int32) : va_W := [(a_t, .inr (6, [.ref a_refused, .ref a_now, .ref a_kept, .ref a_mind, .int (c_t 4), .ref a_tape, .int (c_t 6), .int (c_t 7), .int (c_t 8), .int (c_t 9), .ref a_words, .ref a_wCell, .ref a_wFaces, .ref a_wTurns, .ref a_wSign, .ref a_wBy, .ref a_wFell, .int (c_t 17), .ref a_telling, .ref a_holds, .ref a_sizes, .ref a_elements, .ref a_moved, .ref a_above, .ref a_out, .ref a_first])), (a_now, .inl (eI E, 97, .inl c_now))]
noncomputable abbrev r_X6_add : Room := { frames := 0, cells := 0, slots := 0, locals := 0 }
theorem hd_X6_add : yX6_add.cls ≠ "java/lang/invoke/MethodHandle" ∧ yX6_add.cls ≠ "java/lang/invoke/VarHandle" ∧ (parseMethodDescriptor yX6_add.desc).map (fun d => d.parameters.length) = some 4 := by decide +kernel
theorem hV_X6_add : yX6_add.cls = RX6 ∧ yX6_add.cls ≠ "java/lang/invoke/MethodHandle" ∧ yX6_add.cls ≠ "java/lang/invoke/VarHandle" ∧ (parseMethodDescriptor yX6_add.desc).map (fun d => d.parameters.length) = some 4 := ⟨rfl, hd_X6_add⟩
theorem iX6_add_X6 : ∀ w ∈ wsX60, w ∈ wsX6_add := fun _ h => List.mem_cons_of_mem _ (List.mem_append_right _ (h))
section
variable {p : Program} {l : Launch} {e : Env} {s : State} {m : MethodId} {args : Array Value} {below : List Frame} {meth : Method} {c : Code} {E : Env0} {A : Nat → Prop}
set_option maxRecDepth 100000 in
set_option maxHeartbeats 4000000 in
theorem w_X6_add (X : Ctx p m meth c cX6_add 6 ((some .int)) s args wsX6_add RX6 E A) (a_t : Nat) (a_now : Nat) (a_refused : Nat) (a_kept : Nat) (a_mind : Nat) (a_tape : Nat) (a_words : Nat) (a_wCell : Nat) (a_wFaces : Nat) (a_wTurns : Nat) (a_wSign : Nat) (a_wBy : Nat) (a_wFell : Nat) (a_telling : Nat) (a_holds : Nat) (a_sizes : Nat) (a_elements : Nat) (a_moved : Nat) (a_above : Nat) (a_out : Nat) (a_first : Nat) (c_t : Nat → Int32) (res : Int32 × (Nat → Int32)) (c_now : Nat → Int32) (l1 : Int32) (l2 : Int32) (l3 : Int32) (l4 : Int32) (ls : Array Slot) (H : Heap) (locs : List Loc) (h : f_X6_add l1 l2 l3 l4 c_t c_now = some res) (hP : va_P E.1 vwCl (W_X6_add E a_t a_now a_refused a_kept a_mind a_tape a_words a_wCell a_wFaces a_wTurns a_wSign a_wBy a_wFell a_telling a_holds a_sizes a_elements a_moved a_above a_out a_first c_t c_now) H) (hD : va_D A (W_X6_add E a_t a_now a_refused a_kept a_mind a_tape a_words a_wCell a_wFaces a_wTurns a_wSign a_wBy a_wFell a_telling a_holds a_sizes a_elements a_moved a_above a_out a_first c_t c_now)) (hS : va_S A s.heap H locs) (hl : lv_has ls 6 [(0, .ref a_t), (1, .int l1), (2, .int l2), (3, .int l3), (4, .int l4)]) : W p l e r_X6_add s m args below meth c H locs 0 0 (MQ below (qI E A (res.1) (W_X6_add E a_t a_now a_refused a_kept a_mind a_tape a_words a_wCell a_wFaces a_wTurns a_wSign a_wBy a_wFell a_telling a_holds a_sizes a_elements a_moved a_above a_out a_first c_t (res.2))) args s 0 0 A) (F0 m 0 ls []) := by
  obtain ⟨hx, hb, hml, hr, hlk, hown, hts, hG, hA⟩ := id X
  have hK := hG.1
  have hN := hG.2.1
  unfold f_X6_add at h
  refine lv_aload_n hx hb dX6_add_0 rfl (lv_at hl 0 rfl) ?_
  refine va_get (D := E.1) (ci := 6) (v := .ref a_now) (C := RX6) (T := TX6) (N := 26) hx hb hts iX6_add_X6 hown hK hP 0 rfl rfl 1 (by decide) (hts (.fieldLink RX6 17 "LeftIsAgreedOnModel" "now" "[I") (List.mem_of_getElem? (i := 1) rfl)) (fun _ h9 => h9) rfl dX6_add_1 ?_
  refine lv_bipush (v := (89 : Int32)) hx hb dX6_add_4 (by decide) ?_
  refine ld_i X hP 1 rfl (inb.vp (by decide)) (v := (c_now 89)) rfl dX6_add_6 ?_
  refine lv_istore (lv' := [(5, .int (c_now 89)), (0, .ref a_t), (1, .int l1), (2, .int l2), (3, .int l3), (4, .int l4)]) hx hb dX6_add_7 hl (by decide) rfl (fun ls hl => ?_)
  refine lv_aload_n hx hb dX6_add_9 rfl (lv_at hl 1 rfl) ?_
  refine va_get (D := E.1) (ci := 6) (v := .ref a_now) (C := RX6) (T := TX6) (N := 26) hx hb hts iX6_add_X6 hown hK hP 0 rfl rfl 1 (by decide) (hts (.fieldLink RX6 17 "LeftIsAgreedOnModel" "now" "[I") (List.mem_of_getElem? (i := 1) rfl)) (fun _ h9 => h9) rfl dX6_add_10 ?_
  refine lv_iconst (v := (5 : Int32)) hx hb dX6_add_13 (by decide) ?_
  refine lv_iload hx hb dX6_add_14 (lv_at hl 0 rfl) ?_
  refine lv_imul hx hb dX6_add_16 ?_
  refine lv_iload_n hx hb dX6_add_17 rfl (lv_at hl 2 rfl) ?_
  obtain ⟨hz18, h⟩ := chk_of h
  refine st_i X hP hD hS 1 rfl (inb.vp hz18) (k := (((5 : Int32) * (c_now 89))).toNatClampNeg) rfl (ws1 := (W_X6_add E a_t a_now a_refused a_kept a_mind a_tape a_words a_wCell a_wFaces a_wTurns a_wSign a_wBy a_wFell a_telling a_holds a_sizes a_elements a_moved a_above a_out a_first c_t (upd c_now ((((5 : Int32) * (c_now 89))).toNatClampNeg) l1))) rfl dX6_add_18 (fun H locs hP hD hS => ?_)
  refine lv_aload_n hx hb dX6_add_19 rfl (lv_at hl 1 rfl) ?_
  refine va_get (D := E.1) (ci := 6) (v := .ref a_now) (C := RX6) (T := TX6) (N := 26) hx hb hts iX6_add_X6 hown hK hP 0 rfl rfl 1 (by decide) (hts (.fieldLink RX6 17 "LeftIsAgreedOnModel" "now" "[I") (List.mem_of_getElem? (i := 1) rfl)) (fun _ h9 => h9) rfl dX6_add_20 ?_
  refine lv_iconst (v := (5 : Int32)) hx hb dX6_add_23 (by decide) ?_
  refine lv_iload hx hb dX6_add_24 (lv_at hl 0 rfl) ?_
  refine lv_imul hx hb dX6_add_26 ?_
  refine lv_iconst (v := (1 : Int32)) hx hb dX6_add_27 (by decide) ?_
  refine lv_iadd hx hb dX6_add_28 ?_
  refine lv_iload_n hx hb dX6_add_29 rfl (lv_at hl 3 rfl) ?_
  obtain ⟨hz30, h⟩ := chk_of h
  refine st_i X hP hD hS 1 rfl (inb.vp hz30) (k := ((((5 : Int32) * (c_now 89)) + (1 : Int32))).toNatClampNeg) rfl (ws1 := (W_X6_add E a_t a_now a_refused a_kept a_mind a_tape a_words a_wCell a_wFaces a_wTurns a_wSign a_wBy a_wFell a_telling a_holds a_sizes a_elements a_moved a_above a_out a_first c_t (upd (upd c_now ((((5 : Int32) * (c_now 89))).toNatClampNeg) l1) (((((5 : Int32) * (c_now 89)) + (1 : Int32))).toNatClampNeg) l2))) rfl dX6_add_30 (fun H locs hP hD hS => ?_)
  refine lv_aload_n hx hb dX6_add_31 rfl (lv_at hl 1 rfl) ?_
  refine va_get (D := E.1) (ci := 6) (v := .ref a_now) (C := RX6) (T := TX6) (N := 26) hx hb hts iX6_add_X6 hown hK hP 0 rfl rfl 1 (by decide) (hts (.fieldLink RX6 17 "LeftIsAgreedOnModel" "now" "[I") (List.mem_of_getElem? (i := 1) rfl)) (fun _ h9 => h9) rfl dX6_add_32 ?_
  refine lv_iconst (v := (5 : Int32)) hx hb dX6_add_35 (by decide) ?_
  refine lv_iload hx hb dX6_add_36 (lv_at hl 0 rfl) ?_
  refine lv_imul hx hb dX6_add_38 ?_
  refine lv_iconst (v := (2 : Int32)) hx hb dX6_add_39 (by decide) ?_
  refine lv_iadd hx hb dX6_add_40 ?_
  refine lv_iload_n hx hb dX6_add_41 rfl (lv_at hl 4 rfl) ?_
  obtain ⟨hz42, h⟩ := chk_of h
  refine st_i X hP hD hS 1 rfl (inb.vp hz42) (k := ((((5 : Int32) * (c_now 89)) + (2 : Int32))).toNatClampNeg) rfl (ws1 := (W_X6_add E a_t a_now a_refused a_kept a_mind a_tape a_words a_wCell a_wFaces a_wTurns a_wSign a_wBy a_wFell a_telling a_holds a_sizes a_elements a_moved a_above a_out a_first c_t (upd (upd (upd c_now ((((5 : Int32) * (c_now 89))).toNatClampNeg) l1) (((((5 : Int32) * (c_now 89)) + (1 : Int32))).toNatClampNeg) l2) (((((5 : Int32) * (c_now 89)) + (2 : Int32))).toNatClampNeg) l3))) rfl dX6_add_42 (fun H locs hP hD hS => ?_)
  refine lv_aload_n hx hb dX6_add_43 rfl (lv_at hl 1 rfl) ?_
  refine va_get (D := E.1) (ci := 6) (v := .ref a_now) (C := RX6) (T := TX6) (N := 26) hx hb hts iX6_add_X6 hown hK hP 0 rfl rfl 1 (by decide) (hts (.fieldLink RX6 17 "LeftIsAgreedOnModel" "now" "[I") (List.mem_of_getElem? (i := 1) rfl)) (fun _ h9 => h9) rfl dX6_add_44 ?_
  refine lv_iconst (v := (5 : Int32)) hx hb dX6_add_47 (by decide) ?_
  refine lv_iload hx hb dX6_add_48 (lv_at hl 0 rfl) ?_
  refine lv_imul hx hb dX6_add_50 ?_
  refine lv_iconst (v := (3 : Int32)) hx hb dX6_add_51 (by decide) ?_
  refine lv_iadd hx hb dX6_add_52 ?_
  refine lv_iload hx hb dX6_add_53 (lv_at hl 5 rfl) ?_
  obtain ⟨hz55, h⟩ := chk_of h
  refine st_i X hP hD hS 1 rfl (inb.vp hz55) (k := ((((5 : Int32) * (c_now 89)) + (3 : Int32))).toNatClampNeg) rfl (ws1 := (W_X6_add E a_t a_now a_refused a_kept a_mind a_tape a_words a_wCell a_wFaces a_wTurns a_wSign a_wBy a_wFell a_telling a_holds a_sizes a_elements a_moved a_above a_out a_first c_t (upd (upd (upd (upd c_now ((((5 : Int32) * (c_now 89))).toNatClampNeg) l1) (((((5 : Int32) * (c_now 89)) + (1 : Int32))).toNatClampNeg) l2) (((((5 : Int32) * (c_now 89)) + (2 : Int32))).toNatClampNeg) l3) (((((5 : Int32) * (c_now 89)) + (3 : Int32))).toNatClampNeg) l4))) rfl dX6_add_55 (fun H locs hP hD hS => ?_)
  refine lv_aload_n hx hb dX6_add_56 rfl (lv_at hl 1 rfl) ?_
  refine va_get (D := E.1) (ci := 6) (v := .ref a_now) (C := RX6) (T := TX6) (N := 26) hx hb hts iX6_add_X6 hown hK hP 0 rfl rfl 1 (by decide) (hts (.fieldLink RX6 17 "LeftIsAgreedOnModel" "now" "[I") (List.mem_of_getElem? (i := 1) rfl)) (fun _ h9 => h9) rfl dX6_add_57 ?_
  refine lv_iconst (v := (5 : Int32)) hx hb dX6_add_60 (by decide) ?_
  refine lv_iload hx hb dX6_add_61 (lv_at hl 0 rfl) ?_
  refine lv_imul hx hb dX6_add_63 ?_
  refine lv_iconst (v := (4 : Int32)) hx hb dX6_add_64 (by decide) ?_
  refine lv_iadd hx hb dX6_add_65 ?_
  refine lv_iconst (v := (0 : Int32)) hx hb dX6_add_66 (by decide) ?_
  obtain ⟨hz67, h⟩ := chk_of h
  refine st_i X hP hD hS 1 rfl (inb.vp hz67) (k := ((((5 : Int32) * (c_now 89)) + (4 : Int32))).toNatClampNeg) rfl (ws1 := (W_X6_add E a_t a_now a_refused a_kept a_mind a_tape a_words a_wCell a_wFaces a_wTurns a_wSign a_wBy a_wFell a_telling a_holds a_sizes a_elements a_moved a_above a_out a_first c_t (upd (upd (upd (upd (upd c_now ((((5 : Int32) * (c_now 89))).toNatClampNeg) l1) (((((5 : Int32) * (c_now 89)) + (1 : Int32))).toNatClampNeg) l2) (((((5 : Int32) * (c_now 89)) + (2 : Int32))).toNatClampNeg) l3) (((((5 : Int32) * (c_now 89)) + (3 : Int32))).toNatClampNeg) l4) (((((5 : Int32) * (c_now 89)) + (4 : Int32))).toNatClampNeg) (0 : Int32)))) rfl dX6_add_67 (fun H locs hP hD hS => ?_)
  refine lv_aload_n hx hb dX6_add_68 rfl (lv_at hl 1 rfl) ?_
  refine va_get (D := E.1) (ci := 6) (v := .ref a_now) (C := RX6) (T := TX6) (N := 26) hx hb hts iX6_add_X6 hown hK hP 0 rfl rfl 1 (by decide) (hts (.fieldLink RX6 17 "LeftIsAgreedOnModel" "now" "[I") (List.mem_of_getElem? (i := 1) rfl)) (fun _ h9 => h9) rfl dX6_add_69 ?_
  refine lv_bipush (v := (89 : Int32)) hx hb dX6_add_72 (by decide) ?_
  refine lv_dup2_11 hx hb dX6_add_74 rfl rfl ?_
  refine ld_i X hP 1 rfl (inb.vp (by decide)) (v := ((upd (upd (upd (upd (upd c_now ((((5 : Int32) * (c_now 89))).toNatClampNeg) l1) (((((5 : Int32) * (c_now 89)) + (1 : Int32))).toNatClampNeg) l2) (((((5 : Int32) * (c_now 89)) + (2 : Int32))).toNatClampNeg) l3) (((((5 : Int32) * (c_now 89)) + (3 : Int32))).toNatClampNeg) l4) (((((5 : Int32) * (c_now 89)) + (4 : Int32))).toNatClampNeg) (0 : Int32)) 89)) rfl dX6_add_75 ?_
  refine lv_iconst (v := (1 : Int32)) hx hb dX6_add_76 (by decide) ?_
  refine lv_iadd hx hb dX6_add_77 ?_
  refine st_i X hP hD hS 1 rfl (inb.vp (by decide)) (k := 89) rfl (ws1 := (W_X6_add E a_t a_now a_refused a_kept a_mind a_tape a_words a_wCell a_wFaces a_wTurns a_wSign a_wBy a_wFell a_telling a_holds a_sizes a_elements a_moved a_above a_out a_first c_t (upd (upd (upd (upd (upd (upd c_now ((((5 : Int32) * (c_now 89))).toNatClampNeg) l1) (((((5 : Int32) * (c_now 89)) + (1 : Int32))).toNatClampNeg) l2) (((((5 : Int32) * (c_now 89)) + (2 : Int32))).toNatClampNeg) l3) (((((5 : Int32) * (c_now 89)) + (3 : Int32))).toNatClampNeg) l4) (((((5 : Int32) * (c_now 89)) + (4 : Int32))).toNatClampNeg) (0 : Int32)) 89 (((upd (upd (upd (upd (upd c_now ((((5 : Int32) * (c_now 89))).toNatClampNeg) l1) (((((5 : Int32) * (c_now 89)) + (1 : Int32))).toNatClampNeg) l2) (((((5 : Int32) * (c_now 89)) + (2 : Int32))).toNatClampNeg) l3) (((((5 : Int32) * (c_now 89)) + (3 : Int32))).toNatClampNeg) l4) (((((5 : Int32) * (c_now 89)) + (4 : Int32))).toNatClampNeg) (0 : Int32)) 89) + (1 : Int32))))) rfl dX6_add_78 (fun H locs hP hD hS => ?_)
  refine lv_iload hx hb dX6_add_79 (lv_at hl 0 rfl) ?_
  obtain rfl := Option.some.inj h
  exact ret_i X dX6_add_81 hP hD hS rfl
end
set_option maxRecDepth 100000 in
theorem c_X6_add (l : Launch) (E : Env0) (a_t : Nat) (a_now : Nat) (a_refused : Nat) (a_kept : Nat) (a_mind : Nat) (a_tape : Nat) (a_words : Nat) (a_wCell : Nat) (a_wFaces : Nat) (a_wTurns : Nat) (a_wSign : Nat) (a_wBy : Nat) (a_wFell : Nat) (a_telling : Nat) (a_holds : Nat) (a_sizes : Nat) (a_elements : Nat) (a_moved : Nat) (a_above : Nat) (a_out : Nat) (a_first : Nat) (l1 : Int32) (l2 : Int32) (l3 : Int32) (l4 : Int32) (c_t : Nat → Int32) (c_now : Nat → Int32) (sz : Nat) (res : Int32 × (Nat → Int32)) (h : f_X6_add l1 l2 l3 l4 c_t c_now = some res) : Met l yX6_add wsX6_add r_X6_add (cPre E [.ref a_t, .int l1, .int l2, .int l3, .int l4] (W_X6_add E a_t a_now a_refused a_kept a_mind a_tape a_words a_wCell a_wFaces a_wTurns a_wSign a_wBy a_wFell a_telling a_holds a_sizes a_elements a_moved a_above a_out a_first c_t c_now) sz) (qI E (va_A (W_X6_add E a_t a_now a_refused a_kept a_mind a_tape a_words a_wCell a_wFaces a_wTurns a_wSign a_wBy a_wFell a_telling a_holds a_sizes a_elements a_moved a_above a_out a_first c_t c_now) sz) (res.1) (W_X6_add E a_t a_now a_refused a_kept a_mind a_tape a_words a_wCell a_wFaces a_wTurns a_wSign a_wBy a_wFell a_telling a_holds a_sizes a_elements a_moved a_above a_out a_first c_t (res.2))) 0 0 (va_A (W_X6_add E a_t a_now a_refused a_kept a_mind a_tape a_words a_wCell a_wFaces a_wTurns a_wSign a_wBy a_wFell a_telling a_holds a_sizes a_elements a_moved a_above a_out a_first c_t c_now) sz) :=
  met_of (Qc := fun A => qI E A (res.1) (W_X6_add E a_t a_now a_refused a_kept a_mind a_tape a_words a_wCell a_wFaces a_wTurns a_wSign a_wBy a_wFell a_telling a_holds a_sizes a_elements a_moved a_above a_out a_first c_t (res.2))) (by decide) rfl (Nat.le_of_ble_eq_true rfl) (fun p e s m args below meth c X hP hD hS ls hl => w_X6_add X a_t a_now a_refused a_kept a_mind a_tape a_words a_wCell a_wFaces a_wTurns a_wSign a_wBy a_wFell a_telling a_holds a_sizes a_elements a_moved a_above a_out a_first c_t res c_now l1 l2 l3 l4 ls _ _ h hP hD hS hl)
-- ===== X6_side
noncomputable abbrev W_X6_side (E : Env0) (a_t : Nat) (a_now : Nat) (a_refused : Nat) (a_kept : Nat) (a_mind : Nat) (a_tape : Nat) (a_words : Nat) (a_wCell : Nat) (a_wFaces : Nat) (a_wTurns : Nat) (a_wSign : Nat) (a_wBy : Nat) (a_wFell : Nat) (a_telling : Nat) (a_holds : Nat) (a_sizes : Nat) (a_elements : Nat) (a_moved : Nat) (a_above : Nat) (a_out : Nat) (a_first : Nat) (c_t : Nat → Int32) (c_now : Nat → Int32) (c_refused : Nat → Int32) : va_W := [(a_t, .inr (6, [.ref a_refused, .ref a_now, .ref a_kept, .ref a_mind, .int (c_t 4), .ref a_tape, .int (c_t 6), .int (c_t 7), .int (c_t 8), .int (c_t 9), .ref a_words, .ref a_wCell, .ref a_wFaces, .ref a_wTurns, .ref a_wSign, .ref a_wBy, .ref a_wFell, .int (c_t 17), .ref a_telling, .ref a_holds, .ref a_sizes, .ref a_elements, .ref a_moved, .ref a_above, .ref a_out, .ref a_first])), (a_now, .inl (eI E, 97, .inl c_now)), (a_refused, .inl (eI E, 7, .inl c_refused))]
noncomputable abbrev r_X6_side : Room := { frames := 1, cells := 0, slots := 0, locals := 25 }
theorem hd_X6_side : yX6_side.cls ≠ "java/lang/invoke/MethodHandle" ∧ yX6_side.cls ≠ "java/lang/invoke/VarHandle" ∧ (parseMethodDescriptor yX6_side.desc).map (fun d => d.parameters.length) = some 1 := by decide +kernel
theorem hV_X6_side : yX6_side.cls = RX6 ∧ yX6_side.cls ≠ "java/lang/invoke/MethodHandle" ∧ yX6_side.cls ≠ "java/lang/invoke/VarHandle" ∧ (parseMethodDescriptor yX6_side.desc).map (fun d => d.parameters.length) = some 1 := ⟨rfl, hd_X6_side⟩
theorem iX6_side_X6 : ∀ w ∈ wsX60, w ∈ wsX6_side := fun _ h => List.mem_cons_of_mem _ (List.mem_append_right _ (h))
section
variable {p : Program} {l : Launch} {e : Env} {s : State} {m : MethodId} {args : Array Value} {below : List Frame} {meth : Method} {c : Code} {E : Env0} {A : Nat → Prop}
set_option maxRecDepth 100000 in
set_option maxHeartbeats 4000000 in
theorem w_X6_side (X : Ctx p m meth c cX6_side 3 ((some .int)) s args wsX6_side RX6 E A) (a_t : Nat) (a_now : Nat) (a_refused : Nat) (a_kept : Nat) (a_mind : Nat) (a_tape : Nat) (a_words : Nat) (a_wCell : Nat) (a_wFaces : Nat) (a_wTurns : Nat) (a_wSign : Nat) (a_wBy : Nat) (a_wFell : Nat) (a_telling : Nat) (a_holds : Nat) (a_sizes : Nat) (a_elements : Nat) (a_moved : Nat) (a_above : Nat) (a_out : Nat) (a_first : Nat) (c_t : Nat → Int32) (res : Int32 × (Nat → Int32) × (Nat → Int32)) (c_now : Nat → Int32) (c_refused : Nat → Int32) (l1 : Int32) (ls : Array Slot) (H : Heap) (locs : List Loc) (h : f_X6_side l1 c_t c_now c_refused = some res) (hP : va_P E.1 vwCl (W_X6_side E a_t a_now a_refused a_kept a_mind a_tape a_words a_wCell a_wFaces a_wTurns a_wSign a_wBy a_wFell a_telling a_holds a_sizes a_elements a_moved a_above a_out a_first c_t c_now c_refused) H) (hD : va_D A (W_X6_side E a_t a_now a_refused a_kept a_mind a_tape a_words a_wCell a_wFaces a_wTurns a_wSign a_wBy a_wFell a_telling a_holds a_sizes a_elements a_moved a_above a_out a_first c_t c_now c_refused)) (hS : va_S A s.heap H locs) (hl : lv_has ls 3 [(0, .ref a_t), (1, .int l1)]) : W p l e r_X6_side s m args below meth c H locs 0 0 (MQ below (qI E A (res.1) (W_X6_side E a_t a_now a_refused a_kept a_mind a_tape a_words a_wCell a_wFaces a_wTurns a_wSign a_wBy a_wFell a_telling a_holds a_sizes a_elements a_moved a_above a_out a_first c_t (res.2.1) (res.2.2))) args s 0 0 A) (F0 m 0 ls []) := by
  obtain ⟨hx, hb, hml, hr, hlk, hown, hts, hG, hA⟩ := id X
  have hK := hG.1
  have hN := hG.2.1
  unfold f_X6_side at h
  refine lv_iload_n hx hb dX6_side_0 rfl (lv_at hl 1 rfl) ?_
  refine lv_i2l (v := (l1.toInt64)) hx hb dX6_side_1 rfl ?_
  refine lv_aload_n hx hb dX6_side_2 rfl (lv_at hl 0 rfl) ?_
  refine va_get (D := E.1) (ci := 6) (v := .ref a_now) (C := RX6) (T := TX6) (N := 26) hx hb hts iX6_side_X6 hown hK hP 0 rfl rfl 1 (by decide) (hts (.fieldLink RX6 17 "LeftIsAgreedOnModel" "now" "[I") (List.mem_of_getElem? (i := 1) rfl)) (fun _ h9 => h9) rfl dX6_side_3 ?_
  refine lv_bipush (v := (90 : Int32)) hx hb dX6_side_6 (by decide) ?_
  refine ld_i X hP 1 rfl (inb.vp (by decide)) (v := (c_now 90)) rfl dX6_side_8 ?_
  refine lv_i2l (v := ((c_now 90).toInt64)) hx hb dX6_side_9 rfl ?_
  refine lv_ldc2 (v := (7 : Int64)) hx hb hown (hts (.constantLong RX6 99 (7)) (List.mem_of_getElem? (i := 2) rfl)) dX6_side_10 ?_
  obtain ⟨v1, hv1, h⟩ := bind_of h
  refine after_i X (run_S X (c_X6_isIn l E (l1.toInt64) ((c_now 90).toInt64) (7 : Int64) H.size v1 hv1) (va_cwS 3 hts gX6_side_X6_isIn rfl rfl rfl hd_X6_isIn ⟨(Nat.le_of_ble_eq_true rfl), (Nat.le_of_ble_eq_true rfl)⟩) hP hD hS [] rfl rfl hl.1 (rest := []) rfl rfl (Nat.le_of_ble_eq_true rfl) dX6_side_13) hP hD hS [] rfl (ws1 := (W_X6_side E a_t a_now a_refused a_kept a_mind a_tape a_words a_wCell a_wFaces a_wTurns a_wSign a_wBy a_wFell a_telling a_holds a_sizes a_elements a_moved a_above a_out a_first c_t c_now c_refused)) rfl (fun H locs hP hD hS => ?_)
  refine lv_if_ne (tgt := 26) hx hb dX6_side_16 (by decide) (fun hc16 => ?_) (fun hc16 => ?_)
  · have h := if_f h hc16
    refine lv_aload_n hx hb dX6_side_26 rfl (lv_at hl 0 rfl) ?_
    refine va_get (D := E.1) (ci := 6) (v := .ref a_now) (C := RX6) (T := TX6) (N := 26) hx hb hts iX6_side_X6 hown hK hP 0 rfl rfl 1 (by decide) (hts (.fieldLink RX6 17 "LeftIsAgreedOnModel" "now" "[I") (List.mem_of_getElem? (i := 1) rfl)) (fun _ h9 => h9) rfl dX6_side_27 ?_
    refine lv_bipush (v := (90 : Int32)) hx hb dX6_side_30 (by decide) ?_
    refine ld_i X hP 1 rfl (inb.vp (by decide)) (v := (c_now 90)) rfl dX6_side_32 ?_
    refine lv_istore_n (lv' := [(2, .int (c_now 90)), (0, .ref a_t), (1, .int l1)]) hx hb dX6_side_33 rfl hl (by decide) rfl (fun ls hl => ?_)
    refine lv_aload_n hx hb dX6_side_34 rfl (lv_at hl 1 rfl) ?_
    refine va_get (D := E.1) (ci := 6) (v := .ref a_now) (C := RX6) (T := TX6) (N := 26) hx hb hts iX6_side_X6 hown hK hP 0 rfl rfl 1 (by decide) (hts (.fieldLink RX6 17 "LeftIsAgreedOnModel" "now" "[I") (List.mem_of_getElem? (i := 1) rfl)) (fun _ h9 => h9) rfl dX6_side_35 ?_
    refine lv_bipush (v := (90 : Int32)) hx hb dX6_side_38 (by decide) ?_
    refine lv_iload_n hx hb dX6_side_40 rfl (lv_at hl 2 rfl) ?_
    refine st_i X hP hD hS 1 rfl (inb.vp (by decide)) (k := 90) rfl (ws1 := (W_X6_side E a_t a_now a_refused a_kept a_mind a_tape a_words a_wCell a_wFaces a_wTurns a_wSign a_wBy a_wFell a_telling a_holds a_sizes a_elements a_moved a_above a_out a_first c_t (upd c_now 90 l1) c_refused)) rfl dX6_side_41 (fun H locs hP hD hS => ?_)
    refine lv_iload_n hx hb dX6_side_42 rfl (lv_at hl 0 rfl) ?_
    obtain rfl := Option.some.inj h
    exact ret_i X dX6_side_43 hP hD hS rfl
  · have h := if_t h hc16
    refine lv_aload_n hx hb dX6_side_19 rfl (lv_at hl 0 rfl) ?_
    refine lv_bipush (v := (-2 : Int32)) hx hb dX6_side_20 (by decide) ?_
    obtain ⟨v2, hv2, h⟩ := bind_of h
    refine after_i X (run_V X (c_X6_refuse l E a_t a_refused a_now a_kept a_mind a_tape a_words a_wCell a_wFaces a_wTurns a_wSign a_wBy a_wFell a_telling a_holds a_sizes a_elements a_moved a_above a_out a_first (-2 : Int32) c_t c_refused H.size v2 hv2) (cwV 1 hts gX6_side_X6_refuse rfl rfl rfl hV_X6_refuse ⟨(Nat.le_of_ble_eq_true rfl), (Nat.le_of_ble_eq_true rfl)⟩) hP hD hS [0, 2] rfl rfl hl.1 (ci := 6) rfl rfl rfl (rest := []) rfl rfl (Nat.le_of_ble_eq_true rfl) dX6_side_22) hP hD hS [0, 2] rfl (ws1 := (W_X6_side E a_t a_now a_refused a_kept a_mind a_tape a_words a_wCell a_wFaces a_wTurns a_wSign a_wBy a_wFell a_telling a_holds a_sizes a_elements a_moved a_above a_out a_first c_t c_now (v2.2))) rfl (fun H locs hP hD hS => ?_)
    obtain rfl := Option.some.inj h
    exact ret_i X dX6_side_25 hP hD hS rfl
end
set_option maxRecDepth 100000 in
theorem c_X6_side (l : Launch) (E : Env0) (a_t : Nat) (a_now : Nat) (a_refused : Nat) (a_kept : Nat) (a_mind : Nat) (a_tape : Nat) (a_words : Nat) (a_wCell : Nat) (a_wFaces : Nat) (a_wTurns : Nat) (a_wSign : Nat) (a_wBy : Nat) (a_wFell : Nat) (a_telling : Nat) (a_holds : Nat) (a_sizes : Nat) (a_elements : Nat) (a_moved : Nat) (a_above : Nat) (a_out : Nat) (a_first : Nat) (l1 : Int32) (c_t : Nat → Int32) (c_now : Nat → Int32) (c_refused : Nat → Int32) (sz : Nat) (res : Int32 × (Nat → Int32) × (Nat → Int32)) (h : f_X6_side l1 c_t c_now c_refused = some res) : Met l yX6_side wsX6_side r_X6_side (cPre E [.ref a_t, .int l1] (W_X6_side E a_t a_now a_refused a_kept a_mind a_tape a_words a_wCell a_wFaces a_wTurns a_wSign a_wBy a_wFell a_telling a_holds a_sizes a_elements a_moved a_above a_out a_first c_t c_now c_refused) sz) (qI E (va_A (W_X6_side E a_t a_now a_refused a_kept a_mind a_tape a_words a_wCell a_wFaces a_wTurns a_wSign a_wBy a_wFell a_telling a_holds a_sizes a_elements a_moved a_above a_out a_first c_t c_now c_refused) sz) (res.1) (W_X6_side E a_t a_now a_refused a_kept a_mind a_tape a_words a_wCell a_wFaces a_wTurns a_wSign a_wBy a_wFell a_telling a_holds a_sizes a_elements a_moved a_above a_out a_first c_t (res.2.1) (res.2.2))) 0 0 (va_A (W_X6_side E a_t a_now a_refused a_kept a_mind a_tape a_words a_wCell a_wFaces a_wTurns a_wSign a_wBy a_wFell a_telling a_holds a_sizes a_elements a_moved a_above a_out a_first c_t c_now c_refused) sz) :=
  met_of (Qc := fun A => qI E A (res.1) (W_X6_side E a_t a_now a_refused a_kept a_mind a_tape a_words a_wCell a_wFaces a_wTurns a_wSign a_wBy a_wFell a_telling a_holds a_sizes a_elements a_moved a_above a_out a_first c_t (res.2.1) (res.2.2))) (by decide) rfl (Nat.le_of_ble_eq_true rfl) (fun p e s m args below meth c X hP hD hS ls hl => w_X6_side X a_t a_now a_refused a_kept a_mind a_tape a_words a_wCell a_wFaces a_wTurns a_wSign a_wBy a_wFell a_telling a_holds a_sizes a_elements a_moved a_above a_out a_first c_t res c_now c_refused l1 ls _ _ h hP hD hS hl)
-- ===== X6_pond
noncomputable abbrev W_X6_pond (E : Env0) (a_t : Nat) (a_now : Nat) (a_refused : Nat) (a_kept : Nat) (a_mind : Nat) (a_tape : Nat) (a_words : Nat) (a_wCell : Nat) (a_wFaces : Nat) (a_wTurns : Nat) (a_wSign : Nat) (a_wBy : Nat) (a_wFell : Nat) (a_telling : Nat) (a_holds : Nat) (a_sizes : Nat) (a_elements : Nat) (a_moved : Nat) (a_above : Nat) (a_out : Nat) (a_first : Nat) (c_t : Nat → Int32) (c_now : Nat → Int32) (c_refused : Nat → Int32) : va_W := [(a_t, .inr (6, [.ref a_refused, .ref a_now, .ref a_kept, .ref a_mind, .int (c_t 4), .ref a_tape, .int (c_t 6), .int (c_t 7), .int (c_t 8), .int (c_t 9), .ref a_words, .ref a_wCell, .ref a_wFaces, .ref a_wTurns, .ref a_wSign, .ref a_wBy, .ref a_wFell, .int (c_t 17), .ref a_telling, .ref a_holds, .ref a_sizes, .ref a_elements, .ref a_moved, .ref a_above, .ref a_out, .ref a_first])), (a_now, .inl (eI E, 97, .inl c_now)), (a_refused, .inl (eI E, 7, .inl c_refused))]
noncomputable abbrev r_X6_pond : Room := { frames := 2, cells := 0, slots := 0, locals := 44 }
theorem hd_X6_pond : yX6_pond.cls ≠ "java/lang/invoke/MethodHandle" ∧ yX6_pond.cls ≠ "java/lang/invoke/VarHandle" ∧ (parseMethodDescriptor yX6_pond.desc).map (fun d => d.parameters.length) = some 2 := by decide +kernel
theorem hV_X6_pond : yX6_pond.cls = RX6 ∧ yX6_pond.cls ≠ "java/lang/invoke/MethodHandle" ∧ yX6_pond.cls ≠ "java/lang/invoke/VarHandle" ∧ (parseMethodDescriptor yX6_pond.desc).map (fun d => d.parameters.length) = some 2 := ⟨rfl, hd_X6_pond⟩
theorem iX6_pond_X6 : ∀ w ∈ wsX60, w ∈ wsX6_pond := fun _ h => List.mem_cons_of_mem _ (List.mem_append_right _ (h))
section
variable {p : Program} {l : Launch} {e : Env} {s : State} {m : MethodId} {args : Array Value} {below : List Frame} {meth : Method} {c : Code} {E : Env0} {A : Nat → Prop}
set_option maxRecDepth 100000 in
set_option maxHeartbeats 4000000 in
theorem w_X6_pond_b61 (X : Ctx p m meth c cX6_pond 4 ((some .int)) s args wsX6_pond RX6 E A) (a_t : Nat) (a_now : Nat) (a_refused : Nat) (a_kept : Nat) (a_mind : Nat) (a_tape : Nat) (a_words : Nat) (a_wCell : Nat) (a_wFaces : Nat) (a_wTurns : Nat) (a_wSign : Nat) (a_wBy : Nat) (a_wFell : Nat) (a_telling : Nat) (a_holds : Nat) (a_sizes : Nat) (a_elements : Nat) (a_moved : Nat) (a_above : Nat) (a_out : Nat) (a_first : Nat) (c_t : Nat → Int32) (res : Int32 × (Nat → Int32) × (Nat → Int32)) (c_now : Nat → Int32) (c_refused : Nat → Int32) (l3 : Int32) (s0 : Int32) (s1 : Int32) (ls : Array Slot) (H : Heap) (locs : List Loc) (h : f_X6_pond_b61 c_t c_now c_refused l3 s0 s1 = some res) (hP : va_P E.1 vwCl (W_X6_pond E a_t a_now a_refused a_kept a_mind a_tape a_words a_wCell a_wFaces a_wTurns a_wSign a_wBy a_wFell a_telling a_holds a_sizes a_elements a_moved a_above a_out a_first c_t c_now c_refused) H) (hD : va_D A (W_X6_pond E a_t a_now a_refused a_kept a_mind a_tape a_words a_wCell a_wFaces a_wTurns a_wSign a_wBy a_wFell a_telling a_holds a_sizes a_elements a_moved a_above a_out a_first c_t c_now c_refused)) (hS : va_S A s.heap H locs) (hl : lv_has ls 4 [(3, .int l3)]) : W p l e r_X6_pond s m args below meth c H locs 0 0 (MQ below (qI E A (res.1) (W_X6_pond E a_t a_now a_refused a_kept a_mind a_tape a_words a_wCell a_wFaces a_wTurns a_wSign a_wBy a_wFell a_telling a_holds a_sizes a_elements a_moved a_above a_out a_first c_t (res.2.1) (res.2.2))) args s 0 0 A) (F0 m 61 ls [.int s0, .int s1, .ref a_now]) := by
  obtain ⟨hx, hb, hml, hr, hlk, hown, hts, hG, hA⟩ := id X
  have hK := hG.1
  have hN := hG.2.1
  unfold f_X6_pond_b61 at h
  obtain ⟨hz61, h⟩ := chk_of h
  refine st_i X hP hD hS 1 rfl (inb.vp hz61) (k := (s1).toNatClampNeg) rfl (ws1 := (W_X6_pond E a_t a_now a_refused a_kept a_mind a_tape a_words a_wCell a_wFaces a_wTurns a_wSign a_wBy a_wFell a_telling a_holds a_sizes a_elements a_moved a_above a_out a_first c_t (upd c_now ((s1).toNatClampNeg) s0) c_refused)) rfl dX6_pond_61 (fun H locs hP hD hS => ?_)
  refine lv_iload_n hx hb dX6_pond_62 rfl (lv_at hl 0 rfl) ?_
  obtain rfl := Option.some.inj h
  exact ret_i X dX6_pond_63 hP hD hS rfl
set_option maxRecDepth 100000 in
set_option maxHeartbeats 4000000 in
theorem w_X6_pond_b34 (X : Ctx p m meth c cX6_pond 4 ((some .int)) s args wsX6_pond RX6 E A) (a_t : Nat) (a_now : Nat) (a_refused : Nat) (a_kept : Nat) (a_mind : Nat) (a_tape : Nat) (a_words : Nat) (a_wCell : Nat) (a_wFaces : Nat) (a_wTurns : Nat) (a_wSign : Nat) (a_wBy : Nat) (a_wFell : Nat) (a_telling : Nat) (a_holds : Nat) (a_sizes : Nat) (a_elements : Nat) (a_moved : Nat) (a_above : Nat) (a_out : Nat) (a_first : Nat) (c_t : Nat → Int32) (res : Int32 × (Nat → Int32) × (Nat → Int32)) (c_now : Nat → Int32) (c_refused : Nat → Int32) (l1 : Int32) (l2 : Int32) (ls : Array Slot) (H : Heap) (locs : List Loc) (h : f_X6_pond_b34 c_t c_now c_refused l1 l2 = some res) (hP : va_P E.1 vwCl (W_X6_pond E a_t a_now a_refused a_kept a_mind a_tape a_words a_wCell a_wFaces a_wTurns a_wSign a_wBy a_wFell a_telling a_holds a_sizes a_elements a_moved a_above a_out a_first c_t c_now c_refused) H) (hD : va_D A (W_X6_pond E a_t a_now a_refused a_kept a_mind a_tape a_words a_wCell a_wFaces a_wTurns a_wSign a_wBy a_wFell a_telling a_holds a_sizes a_elements a_moved a_above a_out a_first c_t c_now c_refused)) (hS : va_S A s.heap H locs) (hl : lv_has ls 4 [(0, .ref a_t), (1, .int l1), (2, .int l2)]) : W p l e r_X6_pond s m args below meth c H locs 0 0 (MQ below (qI E A (res.1) (W_X6_pond E a_t a_now a_refused a_kept a_mind a_tape a_words a_wCell a_wFaces a_wTurns a_wSign a_wBy a_wFell a_telling a_holds a_sizes a_elements a_moved a_above a_out a_first c_t (res.2.1) (res.2.2))) args s 0 0 A) (F0 m 34 ls []) := by
  obtain ⟨hx, hb, hml, hr, hlk, hown, hts, hG, hA⟩ := id X
  have hK := hG.1
  have hN := hG.2.1
  unfold f_X6_pond_b34 at h
  refine lv_aload_n hx hb dX6_pond_34 rfl (lv_at hl 0 rfl) ?_
  refine va_get (D := E.1) (ci := 6) (v := .ref a_now) (C := RX6) (T := TX6) (N := 26) hx hb hts iX6_pond_X6 hown hK hP 0 rfl rfl 1 (by decide) (hts (.fieldLink RX6 17 "LeftIsAgreedOnModel" "now" "[I") (List.mem_of_getElem? (i := 1) rfl)) (fun _ h9 => h9) rfl dX6_pond_35 ?_
  refine lv_iload_n hx hb dX6_pond_38 rfl (lv_at hl 1 rfl) ?_
  obtain ⟨v1, hv1, h⟩ := bind_of h
  refine after_i X (run_S X (c_X6_pondAt l E l1 H.size v1 hv1) (va_cwS 1 hts gX6_pond_X6_pondAt rfl rfl rfl hd_X6_pondAt ⟨(Nat.le_of_ble_eq_true rfl), (Nat.le_of_ble_eq_true rfl)⟩) hP hD hS [] rfl rfl hl.1 (rest := [.ref a_now]) rfl rfl (Nat.le_of_ble_eq_true rfl) dX6_pond_39) hP hD hS [] rfl (ws1 := (W_X6_pond E a_t a_now a_refused a_kept a_mind a_tape a_words a_wCell a_wFaces a_wTurns a_wSign a_wBy a_wFell a_telling a_holds a_sizes a_elements a_moved a_above a_out a_first c_t c_now c_refused)) rfl (fun H locs hP hD hS => ?_)
  obtain ⟨hz42, h⟩ := chk_of h
  refine ld_i X hP 1 rfl (inb.vp hz42) (v := (c_now (v1).toNatClampNeg)) rfl dX6_pond_42 ?_
  refine lv_istore_n (lv' := [(3, .int (c_now (v1).toNatClampNeg)), (0, .ref a_t), (1, .int l1), (2, .int l2)]) hx hb dX6_pond_43 rfl hl (by decide) rfl (fun ls hl => ?_)
  refine lv_aload_n hx hb dX6_pond_44 rfl (lv_at hl 1 rfl) ?_
  refine va_get (D := E.1) (ci := 6) (v := .ref a_now) (C := RX6) (T := TX6) (N := 26) hx hb hts iX6_pond_X6 hown hK hP 0 rfl rfl 1 (by decide) (hts (.fieldLink RX6 17 "LeftIsAgreedOnModel" "now" "[I") (List.mem_of_getElem? (i := 1) rfl)) (fun _ h9 => h9) rfl dX6_pond_45 ?_
  refine lv_iload_n hx hb dX6_pond_48 rfl (lv_at hl 2 rfl) ?_
  obtain ⟨v2, hv2, h⟩ := bind_of h
  refine after_i X (run_S X (c_X6_pondAt l E l1 H.size v2 hv2) (va_cwS 1 hts gX6_pond_X6_pondAt rfl rfl rfl hd_X6_pondAt ⟨(Nat.le_of_ble_eq_true rfl), (Nat.le_of_ble_eq_true rfl)⟩) hP hD hS [] rfl rfl hl.1 (rest := [.ref a_now]) rfl rfl (Nat.le_of_ble_eq_true rfl) dX6_pond_49) hP hD hS [] rfl (ws1 := (W_X6_pond E a_t a_now a_refused a_kept a_mind a_tape a_words a_wCell a_wFaces a_wTurns a_wSign a_wBy a_wFell a_telling a_holds a_sizes a_elements a_moved a_above a_out a_first c_t c_now c_refused)) rfl (fun H locs hP hD hS => ?_)
  refine lv_iload_n hx hb dX6_pond_52 rfl (lv_at hl 3 rfl) ?_
  refine lv_if_eq (tgt := 60) hx hb dX6_pond_53 (by decide) (fun hc53 => ?_) (fun hc53 => ?_)
  · have h := if_t h hc53
    refine lv_iconst (v := (0 : Int32)) hx hb dX6_pond_60 (by decide) ?_
    exact w_X6_pond_b61 X a_t a_now a_refused a_kept a_mind a_tape a_words a_wCell a_wFaces a_wTurns a_wSign a_wBy a_wFell a_telling a_holds a_sizes a_elements a_moved a_above a_out a_first c_t res c_now c_refused (c_now (v1).toNatClampNeg) (0 : Int32) v2 _ _ _ h hP hD hS (lv_sub hl [0] rfl)
  · have h := if_f h hc53
    refine lv_iconst (v := (1 : Int32)) hx hb dX6_pond_56 (by decide) ?_
    refine lv_goto (tgt := 61) hx hb dX6_pond_57 (by decide) ?_
    exact w_X6_pond_b61 X a_t a_now a_refused a_kept a_mind a_tape a_words a_wCell a_wFaces a_wTurns a_wSign a_wBy a_wFell a_telling a_holds a_sizes a_elements a_moved a_above a_out a_first c_t res c_now c_refused (c_now (v1).toNatClampNeg) (1 : Int32) v2 _ _ _ h hP hD hS (lv_sub hl [0] rfl)
set_option maxRecDepth 100000 in
set_option maxHeartbeats 4000000 in
theorem w_X6_pond (X : Ctx p m meth c cX6_pond 4 ((some .int)) s args wsX6_pond RX6 E A) (a_t : Nat) (a_now : Nat) (a_refused : Nat) (a_kept : Nat) (a_mind : Nat) (a_tape : Nat) (a_words : Nat) (a_wCell : Nat) (a_wFaces : Nat) (a_wTurns : Nat) (a_wSign : Nat) (a_wBy : Nat) (a_wFell : Nat) (a_telling : Nat) (a_holds : Nat) (a_sizes : Nat) (a_elements : Nat) (a_moved : Nat) (a_above : Nat) (a_out : Nat) (a_first : Nat) (c_t : Nat → Int32) (res : Int32 × (Nat → Int32) × (Nat → Int32)) (c_now : Nat → Int32) (c_refused : Nat → Int32) (l1 : Int32) (l2 : Int32) (ls : Array Slot) (H : Heap) (locs : List Loc) (h : f_X6_pond l1 l2 c_t c_now c_refused = some res) (hP : va_P E.1 vwCl (W_X6_pond E a_t a_now a_refused a_kept a_mind a_tape a_words a_wCell a_wFaces a_wTurns a_wSign a_wBy a_wFell a_telling a_holds a_sizes a_elements a_moved a_above a_out a_first c_t c_now c_refused) H) (hD : va_D A (W_X6_pond E a_t a_now a_refused a_kept a_mind a_tape a_words a_wCell a_wFaces a_wTurns a_wSign a_wBy a_wFell a_telling a_holds a_sizes a_elements a_moved a_above a_out a_first c_t c_now c_refused)) (hS : va_S A s.heap H locs) (hl : lv_has ls 4 [(0, .ref a_t), (1, .int l1), (2, .int l2)]) : W p l e r_X6_pond s m args below meth c H locs 0 0 (MQ below (qI E A (res.1) (W_X6_pond E a_t a_now a_refused a_kept a_mind a_tape a_words a_wCell a_wFaces a_wTurns a_wSign a_wBy a_wFell a_telling a_holds a_sizes a_elements a_moved a_above a_out a_first c_t (res.2.1) (res.2.2))) args s 0 0 A) (F0 m 0 ls []) := by
  obtain ⟨hx, hb, hml, hr, hlk, hown, hts, hG, hA⟩ := id X
  have hK := hG.1
  have hN := hG.2.1
  unfold f_X6_pond at h
  refine lv_aload_n hx hb dX6_pond_0 rfl (lv_at hl 0 rfl) ?_
  refine lv_iload_n hx hb dX6_pond_1 rfl (lv_at hl 1 rfl) ?_
  obtain ⟨v1, hv1, h⟩ := bind_of h
  refine after_i X (run_V X (c_X6_isCell l E a_t a_now a_refused a_kept a_mind a_tape a_words a_wCell a_wFaces a_wTurns a_wSign a_wBy a_wFell a_telling a_holds a_sizes a_elements a_moved a_above a_out a_first l1 c_t c_now H.size v1 hv1) (cwV 1 hts gX6_pond_X6_isCell rfl rfl rfl hV_X6_isCell ⟨(Nat.le_of_ble_eq_true rfl), (Nat.le_of_ble_eq_true rfl)⟩) hP hD hS [0, 1] rfl rfl hl.1 (ci := 6) rfl rfl rfl (rest := []) rfl rfl (Nat.le_of_ble_eq_true rfl) dX6_pond_2) hP hD hS [0, 1] rfl (ws1 := (W_X6_pond E a_t a_now a_refused a_kept a_mind a_tape a_words a_wCell a_wFaces a_wTurns a_wSign a_wBy a_wFell a_telling a_holds a_sizes a_elements a_moved a_above a_out a_first c_t c_now c_refused)) rfl (fun H locs hP hD hS => ?_)
  refine lv_if_ne (tgt := 15) hx hb dX6_pond_5 (by decide) (fun hc5 => ?_) (fun hc5 => ?_)
  · have h := if_f h hc5
    refine lv_iload_n hx hb dX6_pond_15 rfl (lv_at hl 2 rfl) ?_
    refine lv_if_eq (tgt := 34) hx hb dX6_pond_16 (by decide) (fun hc16 => ?_) (fun hc16 => ?_)
    · have h := if_t h hc16
      exact w_X6_pond_b34 X a_t a_now a_refused a_kept a_mind a_tape a_words a_wCell a_wFaces a_wTurns a_wSign a_wBy a_wFell a_telling a_holds a_sizes a_elements a_moved a_above a_out a_first c_t res c_now c_refused l1 l2 _ _ _ h hP hD hS (lv_sub hl [0, 1, 2] rfl)
    · have h := if_f h hc16
      refine lv_aload_n hx hb dX6_pond_19 rfl (lv_at hl 0 rfl) ?_
      refine lv_iload_n hx hb dX6_pond_20 rfl (lv_at hl 1 rfl) ?_
      obtain ⟨v2, hv2, h⟩ := bind_of h
      refine after_i X (run_V X (c_X6_isSomebody l E a_t a_now a_refused a_kept a_mind a_tape a_words a_wCell a_wFaces a_wTurns a_wSign a_wBy a_wFell a_telling a_holds a_sizes a_elements a_moved a_above a_out a_first l1 c_t c_now H.size v2 hv2) (cwV 1 hts gX6_pond_X6_isSomebody rfl rfl rfl hV_X6_isSomebody ⟨(Nat.le_of_ble_eq_true rfl), (Nat.le_of_ble_eq_true rfl)⟩) hP hD hS [0, 1] rfl rfl hl.1 (ci := 6) rfl rfl rfl (rest := []) rfl rfl (Nat.le_of_ble_eq_true rfl) dX6_pond_21) hP hD hS [0, 1] rfl (ws1 := (W_X6_pond E a_t a_now a_refused a_kept a_mind a_tape a_words a_wCell a_wFaces a_wTurns a_wSign a_wBy a_wFell a_telling a_holds a_sizes a_elements a_moved a_above a_out a_first c_t c_now c_refused)) rfl (fun H locs hP hD hS => ?_)
      refine lv_if_eq (tgt := 34) hx hb dX6_pond_24 (by decide) (fun hc24 => ?_) (fun hc24 => ?_)
      · have h := if_t h hc24
        exact w_X6_pond_b34 X a_t a_now a_refused a_kept a_mind a_tape a_words a_wCell a_wFaces a_wTurns a_wSign a_wBy a_wFell a_telling a_holds a_sizes a_elements a_moved a_above a_out a_first c_t res c_now c_refused l1 l2 _ _ _ h hP hD hS (lv_sub hl [0, 1, 2] rfl)
      · have h := if_f h hc24
        refine lv_aload_n hx hb dX6_pond_27 rfl (lv_at hl 0 rfl) ?_
        refine lv_bipush (v := (-5 : Int32)) hx hb dX6_pond_28 (by decide) ?_
        obtain ⟨v3, hv3, h⟩ := bind_of h
        refine after_i X (run_V X (c_X6_refuse l E a_t a_refused a_now a_kept a_mind a_tape a_words a_wCell a_wFaces a_wTurns a_wSign a_wBy a_wFell a_telling a_holds a_sizes a_elements a_moved a_above a_out a_first (-5 : Int32) c_t c_refused H.size v3 hv3) (cwV 1 hts gX6_pond_X6_refuse rfl rfl rfl hV_X6_refuse ⟨(Nat.le_of_ble_eq_true rfl), (Nat.le_of_ble_eq_true rfl)⟩) hP hD hS [0, 2] rfl rfl hl.1 (ci := 6) rfl rfl rfl (rest := []) rfl rfl (Nat.le_of_ble_eq_true rfl) dX6_pond_30) hP hD hS [0, 2] rfl (ws1 := (W_X6_pond E a_t a_now a_refused a_kept a_mind a_tape a_words a_wCell a_wFaces a_wTurns a_wSign a_wBy a_wFell a_telling a_holds a_sizes a_elements a_moved a_above a_out a_first c_t c_now (v3.2))) rfl (fun H locs hP hD hS => ?_)
        obtain rfl := Option.some.inj h
        exact ret_i X dX6_pond_33 hP hD hS rfl
  · have h := if_t h hc5
    refine lv_aload_n hx hb dX6_pond_8 rfl (lv_at hl 0 rfl) ?_
    refine lv_bipush (v := (-2 : Int32)) hx hb dX6_pond_9 (by decide) ?_
    obtain ⟨v4, hv4, h⟩ := bind_of h
    refine after_i X (run_V X (c_X6_refuse l E a_t a_refused a_now a_kept a_mind a_tape a_words a_wCell a_wFaces a_wTurns a_wSign a_wBy a_wFell a_telling a_holds a_sizes a_elements a_moved a_above a_out a_first (-2 : Int32) c_t c_refused H.size v4 hv4) (cwV 1 hts gX6_pond_X6_refuse rfl rfl rfl hV_X6_refuse ⟨(Nat.le_of_ble_eq_true rfl), (Nat.le_of_ble_eq_true rfl)⟩) hP hD hS [0, 2] rfl rfl hl.1 (ci := 6) rfl rfl rfl (rest := []) rfl rfl (Nat.le_of_ble_eq_true rfl) dX6_pond_11) hP hD hS [0, 2] rfl (ws1 := (W_X6_pond E a_t a_now a_refused a_kept a_mind a_tape a_words a_wCell a_wFaces a_wTurns a_wSign a_wBy a_wFell a_telling a_holds a_sizes a_elements a_moved a_above a_out a_first c_t c_now (v4.2))) rfl (fun H locs hP hD hS => ?_)
    obtain rfl := Option.some.inj h
    exact ret_i X dX6_pond_14 hP hD hS rfl
end
set_option maxRecDepth 100000 in
theorem c_X6_pond (l : Launch) (E : Env0) (a_t : Nat) (a_now : Nat) (a_refused : Nat) (a_kept : Nat) (a_mind : Nat) (a_tape : Nat) (a_words : Nat) (a_wCell : Nat) (a_wFaces : Nat) (a_wTurns : Nat) (a_wSign : Nat) (a_wBy : Nat) (a_wFell : Nat) (a_telling : Nat) (a_holds : Nat) (a_sizes : Nat) (a_elements : Nat) (a_moved : Nat) (a_above : Nat) (a_out : Nat) (a_first : Nat) (l1 : Int32) (l2 : Int32) (c_t : Nat → Int32) (c_now : Nat → Int32) (c_refused : Nat → Int32) (sz : Nat) (res : Int32 × (Nat → Int32) × (Nat → Int32)) (h : f_X6_pond l1 l2 c_t c_now c_refused = some res) : Met l yX6_pond wsX6_pond r_X6_pond (cPre E [.ref a_t, .int l1, .int l2] (W_X6_pond E a_t a_now a_refused a_kept a_mind a_tape a_words a_wCell a_wFaces a_wTurns a_wSign a_wBy a_wFell a_telling a_holds a_sizes a_elements a_moved a_above a_out a_first c_t c_now c_refused) sz) (qI E (va_A (W_X6_pond E a_t a_now a_refused a_kept a_mind a_tape a_words a_wCell a_wFaces a_wTurns a_wSign a_wBy a_wFell a_telling a_holds a_sizes a_elements a_moved a_above a_out a_first c_t c_now c_refused) sz) (res.1) (W_X6_pond E a_t a_now a_refused a_kept a_mind a_tape a_words a_wCell a_wFaces a_wTurns a_wSign a_wBy a_wFell a_telling a_holds a_sizes a_elements a_moved a_above a_out a_first c_t (res.2.1) (res.2.2))) 0 0 (va_A (W_X6_pond E a_t a_now a_refused a_kept a_mind a_tape a_words a_wCell a_wFaces a_wTurns a_wSign a_wBy a_wFell a_telling a_holds a_sizes a_elements a_moved a_above a_out a_first c_t c_now c_refused) sz) :=
  met_of (Qc := fun A => qI E A (res.1) (W_X6_pond E a_t a_now a_refused a_kept a_mind a_tape a_words a_wCell a_wFaces a_wTurns a_wSign a_wBy a_wFell a_telling a_holds a_sizes a_elements a_moved a_above a_out a_first c_t (res.2.1) (res.2.2))) (by decide) rfl (Nat.le_of_ble_eq_true rfl) (fun p e s m args below meth c X hP hD hS ls hl => w_X6_pond X a_t a_now a_refused a_kept a_mind a_tape a_words a_wCell a_wFaces a_wTurns a_wSign a_wBy a_wFell a_telling a_holds a_sizes a_elements a_moved a_above a_out a_first c_t res c_now c_refused l1 l2 ls _ _ h hP hD hS hl)
-- ===== X6_person
noncomputable abbrev W_X6_person (E : Env0) (a_t : Nat) (a_now : Nat) (a_refused : Nat) (a_kept : Nat) (a_mind : Nat) (a_tape : Nat) (a_words : Nat) (a_wCell : Nat) (a_wFaces : Nat) (a_wTurns : Nat) (a_wSign : Nat) (a_wBy : Nat) (a_wFell : Nat) (a_telling : Nat) (a_holds : Nat) (a_sizes : Nat) (a_elements : Nat) (a_moved : Nat) (a_above : Nat) (a_out : Nat) (a_first : Nat) (c_t : Nat → Int32) (c_now : Nat → Int32) (c_refused : Nat → Int32) : va_W := [(a_t, .inr (6, [.ref a_refused, .ref a_now, .ref a_kept, .ref a_mind, .int (c_t 4), .ref a_tape, .int (c_t 6), .int (c_t 7), .int (c_t 8), .int (c_t 9), .ref a_words, .ref a_wCell, .ref a_wFaces, .ref a_wTurns, .ref a_wSign, .ref a_wBy, .ref a_wFell, .int (c_t 17), .ref a_telling, .ref a_holds, .ref a_sizes, .ref a_elements, .ref a_moved, .ref a_above, .ref a_out, .ref a_first])), (a_now, .inl (eI E, 97, .inl c_now)), (a_refused, .inl (eI E, 7, .inl c_refused))]
noncomputable abbrev r_X6_person : Room := { frames := 2, cells := 0, slots := 0, locals := 41 }
theorem hd_X6_person : yX6_person.cls ≠ "java/lang/invoke/MethodHandle" ∧ yX6_person.cls ≠ "java/lang/invoke/VarHandle" ∧ (parseMethodDescriptor yX6_person.desc).map (fun d => d.parameters.length) = some 4 := by decide +kernel
theorem hV_X6_person : yX6_person.cls = RX6 ∧ yX6_person.cls ≠ "java/lang/invoke/MethodHandle" ∧ yX6_person.cls ≠ "java/lang/invoke/VarHandle" ∧ (parseMethodDescriptor yX6_person.desc).map (fun d => d.parameters.length) = some 4 := ⟨rfl, hd_X6_person⟩
section
variable {p : Program} {l : Launch} {e : Env} {s : State} {m : MethodId} {args : Array Value} {below : List Frame} {meth : Method} {c : Code} {E : Env0} {A : Nat → Prop}
set_option maxRecDepth 100000 in
set_option maxHeartbeats 4000000 in
theorem w_X6_person_b45 (X : Ctx p m meth c cX6_person 5 ((some .int)) s args wsX6_person RX6 E A) (a_t : Nat) (a_now : Nat) (a_refused : Nat) (a_kept : Nat) (a_mind : Nat) (a_tape : Nat) (a_words : Nat) (a_wCell : Nat) (a_wFaces : Nat) (a_wTurns : Nat) (a_wSign : Nat) (a_wBy : Nat) (a_wFell : Nat) (a_telling : Nat) (a_holds : Nat) (a_sizes : Nat) (a_elements : Nat) (a_moved : Nat) (a_above : Nat) (a_out : Nat) (a_first : Nat) (c_t : Nat → Int32) (res : Int32 × (Nat → Int32) × (Nat → Int32)) (c_now : Nat → Int32) (c_refused : Nat → Int32) (ls : Array Slot) (H : Heap) (locs : List Loc) (h : f_X6_person_b45 c_t c_now c_refused = some res) (hP : va_P E.1 vwCl (W_X6_person E a_t a_now a_refused a_kept a_mind a_tape a_words a_wCell a_wFaces a_wTurns a_wSign a_wBy a_wFell a_telling a_holds a_sizes a_elements a_moved a_above a_out a_first c_t c_now c_refused) H) (hD : va_D A (W_X6_person E a_t a_now a_refused a_kept a_mind a_tape a_words a_wCell a_wFaces a_wTurns a_wSign a_wBy a_wFell a_telling a_holds a_sizes a_elements a_moved a_above a_out a_first c_t c_now c_refused)) (hS : va_S A s.heap H locs) (hl : lv_has ls 5 [(0, .ref a_t)]) : W p l e r_X6_person s m args below meth c H locs 0 0 (MQ below (qI E A (res.1) (W_X6_person E a_t a_now a_refused a_kept a_mind a_tape a_words a_wCell a_wFaces a_wTurns a_wSign a_wBy a_wFell a_telling a_holds a_sizes a_elements a_moved a_above a_out a_first c_t (res.2.1) (res.2.2))) args s 0 0 A) (F0 m 45 ls []) := by
  obtain ⟨hx, hb, hml, hr, hlk, hown, hts, hG, hA⟩ := id X
  have hK := hG.1
  have hN := hG.2.1
  unfold f_X6_person_b45 at h
  refine lv_aload_n hx hb dX6_person_45 rfl (lv_at hl 0 rfl) ?_
  refine lv_bipush (v := (-2 : Int32)) hx hb dX6_person_46 (by decide) ?_
  obtain ⟨v1, hv1, h⟩ := bind_of h
  refine after_i X (run_V X (c_X6_refuse l E a_t a_refused a_now a_kept a_mind a_tape a_words a_wCell a_wFaces a_wTurns a_wSign a_wBy a_wFell a_telling a_holds a_sizes a_elements a_moved a_above a_out a_first (-2 : Int32) c_t c_refused H.size v1 hv1) (cwV 1 hts gX6_person_X6_refuse rfl rfl rfl hV_X6_refuse ⟨(Nat.le_of_ble_eq_true rfl), (Nat.le_of_ble_eq_true rfl)⟩) hP hD hS [0, 2] rfl rfl hl.1 (ci := 6) rfl rfl rfl (rest := []) rfl rfl (Nat.le_of_ble_eq_true rfl) dX6_person_48) hP hD hS [0, 2] rfl (ws1 := (W_X6_person E a_t a_now a_refused a_kept a_mind a_tape a_words a_wCell a_wFaces a_wTurns a_wSign a_wBy a_wFell a_telling a_holds a_sizes a_elements a_moved a_above a_out a_first c_t c_now (v1.2))) rfl (fun H locs hP hD hS => ?_)
  obtain rfl := Option.some.inj h
  exact ret_i X dX6_person_51 hP hD hS rfl
set_option maxRecDepth 100000 in
set_option maxHeartbeats 4000000 in
theorem w_X6_person (X : Ctx p m meth c cX6_person 5 ((some .int)) s args wsX6_person RX6 E A) (a_t : Nat) (a_now : Nat) (a_refused : Nat) (a_kept : Nat) (a_mind : Nat) (a_tape : Nat) (a_words : Nat) (a_wCell : Nat) (a_wFaces : Nat) (a_wTurns : Nat) (a_wSign : Nat) (a_wBy : Nat) (a_wFell : Nat) (a_telling : Nat) (a_holds : Nat) (a_sizes : Nat) (a_elements : Nat) (a_moved : Nat) (a_above : Nat) (a_out : Nat) (a_first : Nat) (c_t : Nat → Int32) (res : Int32 × (Nat → Int32) × (Nat → Int32)) (c_now : Nat → Int32) (c_refused : Nat → Int32) (l1 : Int32) (l2 : Int32) (l3 : Int32) (l4 : Int32) (ls : Array Slot) (H : Heap) (locs : List Loc) (h : f_X6_person l1 l2 l3 l4 c_t c_now c_refused = some res) (hP : va_P E.1 vwCl (W_X6_person E a_t a_now a_refused a_kept a_mind a_tape a_words a_wCell a_wFaces a_wTurns a_wSign a_wBy a_wFell a_telling a_holds a_sizes a_elements a_moved a_above a_out a_first c_t c_now c_refused) H) (hD : va_D A (W_X6_person E a_t a_now a_refused a_kept a_mind a_tape a_words a_wCell a_wFaces a_wTurns a_wSign a_wBy a_wFell a_telling a_holds a_sizes a_elements a_moved a_above a_out a_first c_t c_now c_refused)) (hS : va_S A s.heap H locs) (hl : lv_has ls 5 [(0, .ref a_t), (1, .int l1), (2, .int l2), (3, .int l3), (4, .int l4)]) : W p l e r_X6_person s m args below meth c H locs 0 0 (MQ below (qI E A (res.1) (W_X6_person E a_t a_now a_refused a_kept a_mind a_tape a_words a_wCell a_wFaces a_wTurns a_wSign a_wBy a_wFell a_telling a_holds a_sizes a_elements a_moved a_above a_out a_first c_t (res.2.1) (res.2.2))) args s 0 0 A) (F0 m 0 ls []) := by
  obtain ⟨hx, hb, hml, hr, hlk, hown, hts, hG, hA⟩ := id X
  have hK := hG.1
  have hN := hG.2.1
  unfold f_X6_person at h
  refine lv_iload_n hx hb dX6_person_0 rfl (lv_at hl 1 rfl) ?_
  refine lv_i2l (v := (l1.toInt64)) hx hb dX6_person_1 rfl ?_
  refine lv_lconst (v := (0 : Int64)) hx hb dX6_person_2 (by decide) ?_
  refine lv_ldc2 (v := (5 : Int64)) hx hb hown (hts (.constantLong RX6 110 (5)) (List.mem_of_getElem? (i := 1) rfl)) dX6_person_3 ?_
  obtain ⟨v1, hv1, h⟩ := bind_of h
  refine after_i X (run_S X (c_X6_isIn l E (l1.toInt64) (0 : Int64) (5 : Int64) H.size v1 hv1) (va_cwS 3 hts gX6_person_X6_isIn rfl rfl rfl hd_X6_isIn ⟨(Nat.le_of_ble_eq_true rfl), (Nat.le_of_ble_eq_true rfl)⟩) hP hD hS [] rfl rfl hl.1 (rest := []) rfl rfl (Nat.le_of_ble_eq_true rfl) dX6_person_6) hP hD hS [] rfl (ws1 := (W_X6_person E a_t a_now a_refused a_kept a_mind a_tape a_words a_wCell a_wFaces a_wTurns a_wSign a_wBy a_wFell a_telling a_holds a_sizes a_elements a_moved a_above a_out a_first c_t c_now c_refused)) rfl (fun H locs hP hD hS => ?_)
  refine lv_if_eq (tgt := 45) hx hb dX6_person_9 (by decide) (fun hc9 => ?_) (fun hc9 => ?_)
  · have h := if_t h hc9
    exact w_X6_person_b45 X a_t a_now a_refused a_kept a_mind a_tape a_words a_wCell a_wFaces a_wTurns a_wSign a_wBy a_wFell a_telling a_holds a_sizes a_elements a_moved a_above a_out a_first c_t res c_now c_refused _ _ _ h hP hD hS (lv_sub hl [0] rfl)
  · have h := if_f h hc9
    refine lv_iload_n hx hb dX6_person_12 rfl (lv_at hl 2 rfl) ?_
    refine lv_i2l (v := (l2.toInt64)) hx hb dX6_person_13 rfl ?_
    refine lv_lconst (v := (0 : Int64)) hx hb dX6_person_14 (by decide) ?_
    refine lv_ldc2 (v := (9 : Int64)) hx hb hown (hts (.constantLong RX6 112 (9)) (List.mem_of_getElem? (i := 2) rfl)) dX6_person_15 ?_
    obtain ⟨v2, hv2, h⟩ := bind_of h
    refine after_i X (run_S X (c_X6_isIn l E (l2.toInt64) (0 : Int64) (9 : Int64) H.size v2 hv2) (va_cwS 3 hts gX6_person_X6_isIn rfl rfl rfl hd_X6_isIn ⟨(Nat.le_of_ble_eq_true rfl), (Nat.le_of_ble_eq_true rfl)⟩) hP hD hS [] rfl rfl hl.1 (rest := []) rfl rfl (Nat.le_of_ble_eq_true rfl) dX6_person_18) hP hD hS [] rfl (ws1 := (W_X6_person E a_t a_now a_refused a_kept a_mind a_tape a_words a_wCell a_wFaces a_wTurns a_wSign a_wBy a_wFell a_telling a_holds a_sizes a_elements a_moved a_above a_out a_first c_t c_now c_refused)) rfl (fun H locs hP hD hS => ?_)
    refine lv_if_eq (tgt := 45) hx hb dX6_person_21 (by decide) (fun hc21 => ?_) (fun hc21 => ?_)
    · have h := if_t h hc21
      exact w_X6_person_b45 X a_t a_now a_refused a_kept a_mind a_tape a_words a_wCell a_wFaces a_wTurns a_wSign a_wBy a_wFell a_telling a_holds a_sizes a_elements a_moved a_above a_out a_first c_t res c_now c_refused _ _ _ h hP hD hS (lv_sub hl [0] rfl)
    · have h := if_f h hc21
      refine lv_aload_n hx hb dX6_person_24 rfl (lv_at hl 0 rfl) ?_
      refine lv_iload_n hx hb dX6_person_25 rfl (lv_at hl 3 rfl) ?_
      obtain ⟨v3, hv3, h⟩ := bind_of h
      refine after_i X (run_V X (c_X6_isCell l E a_t a_now a_refused a_kept a_mind a_tape a_words a_wCell a_wFaces a_wTurns a_wSign a_wBy a_wFell a_telling a_holds a_sizes a_elements a_moved a_above a_out a_first l3 c_t c_now H.size v3 hv3) (cwV 1 hts gX6_person_X6_isCell rfl rfl rfl hV_X6_isCell ⟨(Nat.le_of_ble_eq_true rfl), (Nat.le_of_ble_eq_true rfl)⟩) hP hD hS [0, 1] rfl rfl hl.1 (ci := 6) rfl rfl rfl (rest := []) rfl rfl (Nat.le_of_ble_eq_true rfl) dX6_person_26) hP hD hS [0, 1] rfl (ws1 := (W_X6_person E a_t a_now a_refused a_kept a_mind a_tape a_words a_wCell a_wFaces a_wTurns a_wSign a_wBy a_wFell a_telling a_holds a_sizes a_elements a_moved a_above a_out a_first c_t c_now c_refused)) rfl (fun H locs hP hD hS => ?_)
      refine lv_if_eq (tgt := 45) hx hb dX6_person_29 (by decide) (fun hc29 => ?_) (fun hc29 => ?_)
      · have h := if_t h hc29
        exact w_X6_person_b45 X a_t a_now a_refused a_kept a_mind a_tape a_words a_wCell a_wFaces a_wTurns a_wSign a_wBy a_wFell a_telling a_holds a_sizes a_elements a_moved a_above a_out a_first c_t res c_now c_refused _ _ _ h hP hD hS (lv_sub hl [0] rfl)
      · have h := if_f h hc29
        refine lv_iload hx hb dX6_person_32 (lv_at hl 4 rfl) ?_
        refine lv_i2l (v := (l4.toInt64)) hx hb dX6_person_34 rfl ?_
        refine lv_lconst (v := (0 : Int64)) hx hb dX6_person_35 (by decide) ?_
        refine lv_ldc2 (v := (3 : Int64)) hx hb hown (hts (.constantLong RX6 114 (3)) (List.mem_of_getElem? (i := 3) rfl)) dX6_person_36 ?_
        obtain ⟨v4, hv4, h⟩ := bind_of h
        refine after_i X (run_S X (c_X6_isIn l E (l4.toInt64) (0 : Int64) (3 : Int64) H.size v4 hv4) (va_cwS 3 hts gX6_person_X6_isIn rfl rfl rfl hd_X6_isIn ⟨(Nat.le_of_ble_eq_true rfl), (Nat.le_of_ble_eq_true rfl)⟩) hP hD hS [] rfl rfl hl.1 (rest := []) rfl rfl (Nat.le_of_ble_eq_true rfl) dX6_person_39) hP hD hS [] rfl (ws1 := (W_X6_person E a_t a_now a_refused a_kept a_mind a_tape a_words a_wCell a_wFaces a_wTurns a_wSign a_wBy a_wFell a_telling a_holds a_sizes a_elements a_moved a_above a_out a_first c_t c_now c_refused)) rfl (fun H locs hP hD hS => ?_)
        refine lv_if_ne (tgt := 52) hx hb dX6_person_42 (by decide) (fun hc42 => ?_) (fun hc42 => ?_)
        · have h := if_f h hc42
          refine lv_aload_n hx hb dX6_person_52 rfl (lv_at hl 0 rfl) ?_
          refine lv_iload_n hx hb dX6_person_53 rfl (lv_at hl 3 rfl) ?_
          obtain ⟨v5, hv5, h⟩ := bind_of h
          refine after_i X (run_V X (c_X6_hasPond l E a_t a_now a_refused a_kept a_mind a_tape a_words a_wCell a_wFaces a_wTurns a_wSign a_wBy a_wFell a_telling a_holds a_sizes a_elements a_moved a_above a_out a_first l3 c_t c_now H.size v5 hv5) (cwV 1 hts gX6_person_X6_hasPond rfl rfl rfl hV_X6_hasPond ⟨(Nat.le_of_ble_eq_true rfl), (Nat.le_of_ble_eq_true rfl)⟩) hP hD hS [0, 1] rfl rfl hl.1 (ci := 6) rfl rfl rfl (rest := []) rfl rfl (Nat.le_of_ble_eq_true rfl) dX6_person_54) hP hD hS [0, 1] rfl (ws1 := (W_X6_person E a_t a_now a_refused a_kept a_mind a_tape a_words a_wCell a_wFaces a_wTurns a_wSign a_wBy a_wFell a_telling a_holds a_sizes a_elements a_moved a_above a_out a_first c_t c_now c_refused)) rfl (fun H locs hP hD hS => ?_)
          refine lv_if_eq (tgt := 67) hx hb dX6_person_57 (by decide) (fun hc57 => ?_) (fun hc57 => ?_)
          · have h := if_t h hc57
            refine lv_aload_n hx hb dX6_person_67 rfl (lv_at hl 0 rfl) ?_
            obtain ⟨v6, hv6, h⟩ := bind_of h
            refine after_i X (run_V X (c_X6_many l E a_t a_now a_refused a_kept a_mind a_tape a_words a_wCell a_wFaces a_wTurns a_wSign a_wBy a_wFell a_telling a_holds a_sizes a_elements a_moved a_above a_out a_first c_t c_now H.size v6 hv6) (cwV 0 hts gX6_person_X6_many rfl rfl rfl hV_X6_many ⟨(Nat.le_of_ble_eq_true rfl), (Nat.le_of_ble_eq_true rfl)⟩) hP hD hS [0, 1] rfl rfl hl.1 (ci := 6) rfl rfl rfl (rest := []) rfl rfl (Nat.le_of_ble_eq_true rfl) dX6_person_68) hP hD hS [0, 1] rfl (ws1 := (W_X6_person E a_t a_now a_refused a_kept a_mind a_tape a_words a_wCell a_wFaces a_wTurns a_wSign a_wBy a_wFell a_telling a_holds a_sizes a_elements a_moved a_above a_out a_first c_t c_now c_refused)) rfl (fun H locs hP hD hS => ?_)
            refine lv_bipush (v := (8 : Int32)) hx hb dX6_person_71 (by decide) ?_
            refine lv_icmp_ne (tgt := 85) hx hb dX6_person_73 (by decide) (fun hc73 => ?_) (fun hc73 => ?_)
            · have h := if_f h hc73
              refine lv_aload_n hx hb dX6_person_85 rfl (lv_at hl 0 rfl) ?_
              refine lv_iload_n hx hb dX6_person_86 rfl (lv_at hl 1 rfl) ?_
              refine lv_iload_n hx hb dX6_person_87 rfl (lv_at hl 2 rfl) ?_
              refine lv_iload_n hx hb dX6_person_88 rfl (lv_at hl 3 rfl) ?_
              refine lv_iload hx hb dX6_person_89 (lv_at hl 4 rfl) ?_
              obtain ⟨v7, hv7, h⟩ := bind_of h
              refine after_i X (run_V X (c_X6_add l E a_t a_now a_refused a_kept a_mind a_tape a_words a_wCell a_wFaces a_wTurns a_wSign a_wBy a_wFell a_telling a_holds a_sizes a_elements a_moved a_above a_out a_first l1 l2 l3 l4 c_t c_now H.size v7 hv7) (cwV 4 hts gX6_person_X6_add rfl rfl rfl hV_X6_add ⟨(Nat.le_of_ble_eq_true rfl), (Nat.le_of_ble_eq_true rfl)⟩) hP hD hS [0, 1] rfl rfl hl.1 (ci := 6) rfl rfl rfl (rest := []) rfl rfl (Nat.le_of_ble_eq_true rfl) dX6_person_91) hP hD hS [0, 1] rfl (ws1 := (W_X6_person E a_t a_now a_refused a_kept a_mind a_tape a_words a_wCell a_wFaces a_wTurns a_wSign a_wBy a_wFell a_telling a_holds a_sizes a_elements a_moved a_above a_out a_first c_t (v7.2) c_refused)) rfl (fun H locs hP hD hS => ?_)
              obtain rfl := Option.some.inj h
              exact ret_i X dX6_person_94 hP hD hS rfl
            · have h := if_t h hc73
              refine lv_aload_n hx hb dX6_person_76 rfl (lv_at hl 0 rfl) ?_
              refine lv_bipush (v := (-6 : Int32)) hx hb dX6_person_77 (by decide) ?_
              obtain ⟨v8, hv8, h⟩ := bind_of h
              refine after_i X (run_V X (c_X6_refuse l E a_t a_refused a_now a_kept a_mind a_tape a_words a_wCell a_wFaces a_wTurns a_wSign a_wBy a_wFell a_telling a_holds a_sizes a_elements a_moved a_above a_out a_first (-6 : Int32) c_t c_refused H.size v8 hv8) (cwV 1 hts gX6_person_X6_refuse rfl rfl rfl hV_X6_refuse ⟨(Nat.le_of_ble_eq_true rfl), (Nat.le_of_ble_eq_true rfl)⟩) hP hD hS [0, 2] rfl rfl hl.1 (ci := 6) rfl rfl rfl (rest := []) rfl rfl (Nat.le_of_ble_eq_true rfl) dX6_person_79) hP hD hS [0, 2] rfl (ws1 := (W_X6_person E a_t a_now a_refused a_kept a_mind a_tape a_words a_wCell a_wFaces a_wTurns a_wSign a_wBy a_wFell a_telling a_holds a_sizes a_elements a_moved a_above a_out a_first c_t c_now (v8.2))) rfl (fun H locs hP hD hS => ?_)
              refine lv_goto (tgt := 94) hx hb dX6_person_82 (by decide) ?_
              obtain rfl := Option.some.inj h
              exact ret_i X dX6_person_94 hP hD hS rfl
          · have h := if_f h hc57
            refine lv_aload_n hx hb dX6_person_60 rfl (lv_at hl 0 rfl) ?_
            refine lv_bipush (v := (-5 : Int32)) hx hb dX6_person_61 (by decide) ?_
            obtain ⟨v9, hv9, h⟩ := bind_of h
            refine after_i X (run_V X (c_X6_refuse l E a_t a_refused a_now a_kept a_mind a_tape a_words a_wCell a_wFaces a_wTurns a_wSign a_wBy a_wFell a_telling a_holds a_sizes a_elements a_moved a_above a_out a_first (-5 : Int32) c_t c_refused H.size v9 hv9) (cwV 1 hts gX6_person_X6_refuse rfl rfl rfl hV_X6_refuse ⟨(Nat.le_of_ble_eq_true rfl), (Nat.le_of_ble_eq_true rfl)⟩) hP hD hS [0, 2] rfl rfl hl.1 (ci := 6) rfl rfl rfl (rest := []) rfl rfl (Nat.le_of_ble_eq_true rfl) dX6_person_63) hP hD hS [0, 2] rfl (ws1 := (W_X6_person E a_t a_now a_refused a_kept a_mind a_tape a_words a_wCell a_wFaces a_wTurns a_wSign a_wBy a_wFell a_telling a_holds a_sizes a_elements a_moved a_above a_out a_first c_t c_now (v9.2))) rfl (fun H locs hP hD hS => ?_)
            obtain rfl := Option.some.inj h
            exact ret_i X dX6_person_66 hP hD hS rfl
        · have h := if_t h hc42
          exact w_X6_person_b45 X a_t a_now a_refused a_kept a_mind a_tape a_words a_wCell a_wFaces a_wTurns a_wSign a_wBy a_wFell a_telling a_holds a_sizes a_elements a_moved a_above a_out a_first c_t res c_now c_refused _ _ _ h hP hD hS (lv_sub hl [0] rfl)
end
set_option maxRecDepth 100000 in
theorem c_X6_person (l : Launch) (E : Env0) (a_t : Nat) (a_now : Nat) (a_refused : Nat) (a_kept : Nat) (a_mind : Nat) (a_tape : Nat) (a_words : Nat) (a_wCell : Nat) (a_wFaces : Nat) (a_wTurns : Nat) (a_wSign : Nat) (a_wBy : Nat) (a_wFell : Nat) (a_telling : Nat) (a_holds : Nat) (a_sizes : Nat) (a_elements : Nat) (a_moved : Nat) (a_above : Nat) (a_out : Nat) (a_first : Nat) (l1 : Int32) (l2 : Int32) (l3 : Int32) (l4 : Int32) (c_t : Nat → Int32) (c_now : Nat → Int32) (c_refused : Nat → Int32) (sz : Nat) (res : Int32 × (Nat → Int32) × (Nat → Int32)) (h : f_X6_person l1 l2 l3 l4 c_t c_now c_refused = some res) : Met l yX6_person wsX6_person r_X6_person (cPre E [.ref a_t, .int l1, .int l2, .int l3, .int l4] (W_X6_person E a_t a_now a_refused a_kept a_mind a_tape a_words a_wCell a_wFaces a_wTurns a_wSign a_wBy a_wFell a_telling a_holds a_sizes a_elements a_moved a_above a_out a_first c_t c_now c_refused) sz) (qI E (va_A (W_X6_person E a_t a_now a_refused a_kept a_mind a_tape a_words a_wCell a_wFaces a_wTurns a_wSign a_wBy a_wFell a_telling a_holds a_sizes a_elements a_moved a_above a_out a_first c_t c_now c_refused) sz) (res.1) (W_X6_person E a_t a_now a_refused a_kept a_mind a_tape a_words a_wCell a_wFaces a_wTurns a_wSign a_wBy a_wFell a_telling a_holds a_sizes a_elements a_moved a_above a_out a_first c_t (res.2.1) (res.2.2))) 0 0 (va_A (W_X6_person E a_t a_now a_refused a_kept a_mind a_tape a_words a_wCell a_wFaces a_wTurns a_wSign a_wBy a_wFell a_telling a_holds a_sizes a_elements a_moved a_above a_out a_first c_t c_now c_refused) sz) :=
  met_of (Qc := fun A => qI E A (res.1) (W_X6_person E a_t a_now a_refused a_kept a_mind a_tape a_words a_wCell a_wFaces a_wTurns a_wSign a_wBy a_wFell a_telling a_holds a_sizes a_elements a_moved a_above a_out a_first c_t (res.2.1) (res.2.2))) (by decide) rfl (Nat.le_of_ble_eq_true rfl) (fun p e s m args below meth c X hP hD hS ls hl => w_X6_person X a_t a_now a_refused a_kept a_mind a_tape a_words a_wCell a_wFaces a_wTurns a_wSign a_wBy a_wFell a_telling a_holds a_sizes a_elements a_moved a_above a_out a_first c_t res c_now c_refused l1 l2 l3 l4 ls _ _ h hP hD hS hl)
-- ===== X6_tell
noncomputable abbrev W_X6_tell (E : Env0) (a_t : Nat) (a_now : Nat) (a_refused : Nat) (a_kept : Nat) (a_mind : Nat) (a_tape : Nat) (a_words : Nat) (a_wCell : Nat) (a_wFaces : Nat) (a_wTurns : Nat) (a_wSign : Nat) (a_wBy : Nat) (a_wFell : Nat) (a_telling : Nat) (a_holds : Nat) (a_sizes : Nat) (a_elements : Nat) (a_moved : Nat) (a_above : Nat) (a_out : Nat) (a_first : Nat) (c_t : Nat → Int32) (c_now : Nat → Int32) (c_refused : Nat → Int32) : va_W := [(a_t, .inr (6, [.ref a_refused, .ref a_now, .ref a_kept, .ref a_mind, .int (c_t 4), .ref a_tape, .int (c_t 6), .int (c_t 7), .int (c_t 8), .int (c_t 9), .ref a_words, .ref a_wCell, .ref a_wFaces, .ref a_wTurns, .ref a_wSign, .ref a_wBy, .ref a_wFell, .int (c_t 17), .ref a_telling, .ref a_holds, .ref a_sizes, .ref a_elements, .ref a_moved, .ref a_above, .ref a_out, .ref a_first])), (a_now, .inl (eI E, 97, .inl c_now)), (a_refused, .inl (eI E, 7, .inl c_refused))]
noncomputable abbrev r_X6_tell : Room := { frames := 1, cells := 0, slots := 0, locals := 25 }
theorem hd_X6_tell : yX6_tell.cls ≠ "java/lang/invoke/MethodHandle" ∧ yX6_tell.cls ≠ "java/lang/invoke/VarHandle" ∧ (parseMethodDescriptor yX6_tell.desc).map (fun d => d.parameters.length) = some 2 := by decide +kernel
theorem hV_X6_tell : yX6_tell.cls = RX6 ∧ yX6_tell.cls ≠ "java/lang/invoke/MethodHandle" ∧ yX6_tell.cls ≠ "java/lang/invoke/VarHandle" ∧ (parseMethodDescriptor yX6_tell.desc).map (fun d => d.parameters.length) = some 2 := ⟨rfl, hd_X6_tell⟩
theorem iX6_tell_X6 : ∀ w ∈ wsX60, w ∈ wsX6_tell := fun _ h => List.mem_cons_of_mem _ (List.mem_append_right _ (h))
section
variable {p : Program} {l : Launch} {e : Env} {s : State} {m : MethodId} {args : Array Value} {below : List Frame} {meth : Method} {c : Code} {E : Env0} {A : Nat → Prop}
set_option maxRecDepth 100000 in
set_option maxHeartbeats 4000000 in
theorem w_X6_tell_b33 (X : Ctx p m meth c cX6_tell 4 ((some .int)) s args wsX6_tell RX6 E A) (a_t : Nat) (a_now : Nat) (a_refused : Nat) (a_kept : Nat) (a_mind : Nat) (a_tape : Nat) (a_words : Nat) (a_wCell : Nat) (a_wFaces : Nat) (a_wTurns : Nat) (a_wSign : Nat) (a_wBy : Nat) (a_wFell : Nat) (a_telling : Nat) (a_holds : Nat) (a_sizes : Nat) (a_elements : Nat) (a_moved : Nat) (a_above : Nat) (a_out : Nat) (a_first : Nat) (c_t : Nat → Int32) (res : Int32 × (Nat → Int32) × (Nat → Int32)) (c_now : Nat → Int32) (c_refused : Nat → Int32) (ls : Array Slot) (H : Heap) (locs : List Loc) (h : f_X6_tell_b33 c_t c_now c_refused = some res) (hP : va_P E.1 vwCl (W_X6_tell E a_t a_now a_refused a_kept a_mind a_tape a_words a_wCell a_wFaces a_wTurns a_wSign a_wBy a_wFell a_telling a_holds a_sizes a_elements a_moved a_above a_out a_first c_t c_now c_refused) H) (hD : va_D A (W_X6_tell E a_t a_now a_refused a_kept a_mind a_tape a_words a_wCell a_wFaces a_wTurns a_wSign a_wBy a_wFell a_telling a_holds a_sizes a_elements a_moved a_above a_out a_first c_t c_now c_refused)) (hS : va_S A s.heap H locs) (hl : lv_has ls 4 [(0, .ref a_t)]) : W p l e r_X6_tell s m args below meth c H locs 0 0 (MQ below (qI E A (res.1) (W_X6_tell E a_t a_now a_refused a_kept a_mind a_tape a_words a_wCell a_wFaces a_wTurns a_wSign a_wBy a_wFell a_telling a_holds a_sizes a_elements a_moved a_above a_out a_first c_t (res.2.1) (res.2.2))) args s 0 0 A) (F0 m 33 ls []) := by
  obtain ⟨hx, hb, hml, hr, hlk, hown, hts, hG, hA⟩ := id X
  have hK := hG.1
  have hN := hG.2.1
  unfold f_X6_tell_b33 at h
  refine lv_aload_n hx hb dX6_tell_33 rfl (lv_at hl 0 rfl) ?_
  refine lv_bipush (v := (-2 : Int32)) hx hb dX6_tell_34 (by decide) ?_
  obtain ⟨v1, hv1, h⟩ := bind_of h
  refine after_i X (run_V X (c_X6_refuse l E a_t a_refused a_now a_kept a_mind a_tape a_words a_wCell a_wFaces a_wTurns a_wSign a_wBy a_wFell a_telling a_holds a_sizes a_elements a_moved a_above a_out a_first (-2 : Int32) c_t c_refused H.size v1 hv1) (cwV 1 hts gX6_tell_X6_refuse rfl rfl rfl hV_X6_refuse ⟨(Nat.le_of_ble_eq_true rfl), (Nat.le_of_ble_eq_true rfl)⟩) hP hD hS [0, 2] rfl rfl hl.1 (ci := 6) rfl rfl rfl (rest := []) rfl rfl (Nat.le_of_ble_eq_true rfl) dX6_tell_36) hP hD hS [0, 2] rfl (ws1 := (W_X6_tell E a_t a_now a_refused a_kept a_mind a_tape a_words a_wCell a_wFaces a_wTurns a_wSign a_wBy a_wFell a_telling a_holds a_sizes a_elements a_moved a_above a_out a_first c_t c_now (v1.2))) rfl (fun H locs hP hD hS => ?_)
  obtain rfl := Option.some.inj h
  exact ret_i X dX6_tell_39 hP hD hS rfl
set_option maxRecDepth 100000 in
set_option maxHeartbeats 4000000 in
theorem w_X6_tell_b27 (X : Ctx p m meth c cX6_tell 4 ((some .int)) s args wsX6_tell RX6 E A) (a_t : Nat) (a_now : Nat) (a_refused : Nat) (a_kept : Nat) (a_mind : Nat) (a_tape : Nat) (a_words : Nat) (a_wCell : Nat) (a_wFaces : Nat) (a_wTurns : Nat) (a_wSign : Nat) (a_wBy : Nat) (a_wFell : Nat) (a_telling : Nat) (a_holds : Nat) (a_sizes : Nat) (a_elements : Nat) (a_moved : Nat) (a_above : Nat) (a_out : Nat) (a_first : Nat) (c_t : Nat → Int32) (res : Int32 × (Nat → Int32) × (Nat → Int32)) (c_now : Nat → Int32) (c_refused : Nat → Int32) (l1 : Int32) (l2 : Int32) (s0 : Int64) (s1 : Int64) (s2 : Int64) (ls : Array Slot) (H : Heap) (locs : List Loc) (h : f_X6_tell_b27 c_t c_now c_refused l1 l2 s0 s1 s2 = some res) (hP : va_P E.1 vwCl (W_X6_tell E a_t a_now a_refused a_kept a_mind a_tape a_words a_wCell a_wFaces a_wTurns a_wSign a_wBy a_wFell a_telling a_holds a_sizes a_elements a_moved a_above a_out a_first c_t c_now c_refused) H) (hD : va_D A (W_X6_tell E a_t a_now a_refused a_kept a_mind a_tape a_words a_wCell a_wFaces a_wTurns a_wSign a_wBy a_wFell a_telling a_holds a_sizes a_elements a_moved a_above a_out a_first c_t c_now c_refused)) (hS : va_S A s.heap H locs) (hl : lv_has ls 4 [(0, .ref a_t), (1, .int l1), (2, .int l2)]) : W p l e r_X6_tell s m args below meth c H locs 0 0 (MQ below (qI E A (res.1) (W_X6_tell E a_t a_now a_refused a_kept a_mind a_tape a_words a_wCell a_wFaces a_wTurns a_wSign a_wBy a_wFell a_telling a_holds a_sizes a_elements a_moved a_above a_out a_first c_t (res.2.1) (res.2.2))) args s 0 0 A) (F0 m 27 ls [.long s0, .long s1, .long s2]) := by
  obtain ⟨hx, hb, hml, hr, hlk, hown, hts, hG, hA⟩ := id X
  have hK := hG.1
  have hN := hG.2.1
  unfold f_X6_tell_b27 at h
  obtain ⟨v1, hv1, h⟩ := bind_of h
  refine after_i X (run_S X (c_X6_isIn l E s2 s1 s0 H.size v1 hv1) (va_cwS 3 hts gX6_tell_X6_isIn rfl rfl rfl hd_X6_isIn ⟨(Nat.le_of_ble_eq_true rfl), (Nat.le_of_ble_eq_true rfl)⟩) hP hD hS [] rfl rfl hl.1 (rest := []) rfl rfl (Nat.le_of_ble_eq_true rfl) dX6_tell_27) hP hD hS [] rfl (ws1 := (W_X6_tell E a_t a_now a_refused a_kept a_mind a_tape a_words a_wCell a_wFaces a_wTurns a_wSign a_wBy a_wFell a_telling a_holds a_sizes a_elements a_moved a_above a_out a_first c_t c_now c_refused)) rfl (fun H locs hP hD hS => ?_)
  refine lv_if_ne (tgt := 40) hx hb dX6_tell_30 (by decide) (fun hc30 => ?_) (fun hc30 => ?_)
  · have h := if_f h hc30
    refine lv_aload_n hx hb dX6_tell_40 rfl (lv_at hl 0 rfl) ?_
    refine va_get (D := E.1) (ci := 6) (v := .ref a_now) (C := RX6) (T := TX6) (N := 26) hx hb hts iX6_tell_X6 hown hK hP 0 rfl rfl 1 (by decide) (hts (.fieldLink RX6 17 "LeftIsAgreedOnModel" "now" "[I") (List.mem_of_getElem? (i := 3) rfl)) (fun _ h9 => h9) rfl dX6_tell_41 ?_
    refine lv_bipush (v := (91 : Int32)) hx hb dX6_tell_44 (by decide) ?_
    refine lv_iload_n hx hb dX6_tell_46 rfl (lv_at hl 1 rfl) ?_
    refine lv_iadd hx hb dX6_tell_47 ?_
    obtain ⟨hz48, h⟩ := chk_of h
    refine ld_i X hP 1 rfl (inb.vp hz48) (v := (c_now (((91 : Int32) + l1)).toNatClampNeg)) rfl dX6_tell_48 ?_
    refine lv_istore_n (lv' := [(3, .int (c_now (((91 : Int32) + l1)).toNatClampNeg)), (0, .ref a_t), (1, .int l1), (2, .int l2)]) hx hb dX6_tell_49 rfl hl (by decide) rfl (fun ls hl => ?_)
    refine lv_aload_n hx hb dX6_tell_50 rfl (lv_at hl 1 rfl) ?_
    refine va_get (D := E.1) (ci := 6) (v := .ref a_now) (C := RX6) (T := TX6) (N := 26) hx hb hts iX6_tell_X6 hown hK hP 0 rfl rfl 1 (by decide) (hts (.fieldLink RX6 17 "LeftIsAgreedOnModel" "now" "[I") (List.mem_of_getElem? (i := 3) rfl)) (fun _ h9 => h9) rfl dX6_tell_51 ?_
    refine lv_bipush (v := (91 : Int32)) hx hb dX6_tell_54 (by decide) ?_
    refine lv_iload_n hx hb dX6_tell_56 rfl (lv_at hl 2 rfl) ?_
    refine lv_iadd hx hb dX6_tell_57 ?_
    refine lv_iload_n hx hb dX6_tell_58 rfl (lv_at hl 3 rfl) ?_
    obtain ⟨hz59, h⟩ := chk_of h
    refine st_i X hP hD hS 1 rfl (inb.vp hz59) (k := (((91 : Int32) + l1)).toNatClampNeg) rfl (ws1 := (W_X6_tell E a_t a_now a_refused a_kept a_mind a_tape a_words a_wCell a_wFaces a_wTurns a_wSign a_wBy a_wFell a_telling a_holds a_sizes a_elements a_moved a_above a_out a_first c_t (upd c_now ((((91 : Int32) + l1)).toNatClampNeg) l2) c_refused)) rfl dX6_tell_59 (fun H locs hP hD hS => ?_)
    refine lv_iload_n hx hb dX6_tell_60 rfl (lv_at hl 0 rfl) ?_
    obtain rfl := Option.some.inj h
    exact ret_i X dX6_tell_61 hP hD hS rfl
  · have h := if_t h hc30
    exact w_X6_tell_b33 X a_t a_now a_refused a_kept a_mind a_tape a_words a_wCell a_wFaces a_wTurns a_wSign a_wBy a_wFell a_telling a_holds a_sizes a_elements a_moved a_above a_out a_first c_t res c_now c_refused _ _ _ h hP hD hS (lv_sub hl [0] rfl)
set_option maxRecDepth 100000 in
set_option maxHeartbeats 4000000 in
theorem w_X6_tell (X : Ctx p m meth c cX6_tell 4 ((some .int)) s args wsX6_tell RX6 E A) (a_t : Nat) (a_now : Nat) (a_refused : Nat) (a_kept : Nat) (a_mind : Nat) (a_tape : Nat) (a_words : Nat) (a_wCell : Nat) (a_wFaces : Nat) (a_wTurns : Nat) (a_wSign : Nat) (a_wBy : Nat) (a_wFell : Nat) (a_telling : Nat) (a_holds : Nat) (a_sizes : Nat) (a_elements : Nat) (a_moved : Nat) (a_above : Nat) (a_out : Nat) (a_first : Nat) (c_t : Nat → Int32) (res : Int32 × (Nat → Int32) × (Nat → Int32)) (c_now : Nat → Int32) (c_refused : Nat → Int32) (l1 : Int32) (l2 : Int32) (ls : Array Slot) (H : Heap) (locs : List Loc) (h : f_X6_tell l1 l2 c_t c_now c_refused = some res) (hP : va_P E.1 vwCl (W_X6_tell E a_t a_now a_refused a_kept a_mind a_tape a_words a_wCell a_wFaces a_wTurns a_wSign a_wBy a_wFell a_telling a_holds a_sizes a_elements a_moved a_above a_out a_first c_t c_now c_refused) H) (hD : va_D A (W_X6_tell E a_t a_now a_refused a_kept a_mind a_tape a_words a_wCell a_wFaces a_wTurns a_wSign a_wBy a_wFell a_telling a_holds a_sizes a_elements a_moved a_above a_out a_first c_t c_now c_refused)) (hS : va_S A s.heap H locs) (hl : lv_has ls 4 [(0, .ref a_t), (1, .int l1), (2, .int l2)]) : W p l e r_X6_tell s m args below meth c H locs 0 0 (MQ below (qI E A (res.1) (W_X6_tell E a_t a_now a_refused a_kept a_mind a_tape a_words a_wCell a_wFaces a_wTurns a_wSign a_wBy a_wFell a_telling a_holds a_sizes a_elements a_moved a_above a_out a_first c_t (res.2.1) (res.2.2))) args s 0 0 A) (F0 m 0 ls []) := by
  obtain ⟨hx, hb, hml, hr, hlk, hown, hts, hG, hA⟩ := id X
  have hK := hG.1
  have hN := hG.2.1
  unfold f_X6_tell at h
  refine lv_iload_n hx hb dX6_tell_0 rfl (lv_at hl 1 rfl) ?_
  refine lv_i2l (v := (l1.toInt64)) hx hb dX6_tell_1 rfl ?_
  refine lv_lconst (v := (0 : Int64)) hx hb dX6_tell_2 (by decide) ?_
  refine lv_ldc2 (v := (2 : Int64)) hx hb hown (hts (.constantLong RX6 120 (2)) (List.mem_of_getElem? (i := 1) rfl)) dX6_tell_3 ?_
  obtain ⟨v1, hv1, h⟩ := bind_of h
  refine after_i X (run_S X (c_X6_isIn l E (l1.toInt64) (0 : Int64) (2 : Int64) H.size v1 hv1) (va_cwS 3 hts gX6_tell_X6_isIn rfl rfl rfl hd_X6_isIn ⟨(Nat.le_of_ble_eq_true rfl), (Nat.le_of_ble_eq_true rfl)⟩) hP hD hS [] rfl rfl hl.1 (rest := []) rfl rfl (Nat.le_of_ble_eq_true rfl) dX6_tell_6) hP hD hS [] rfl (ws1 := (W_X6_tell E a_t a_now a_refused a_kept a_mind a_tape a_words a_wCell a_wFaces a_wTurns a_wSign a_wBy a_wFell a_telling a_holds a_sizes a_elements a_moved a_above a_out a_first c_t c_now c_refused)) rfl (fun H locs hP hD hS => ?_)
  refine lv_if_eq (tgt := 33) hx hb dX6_tell_9 (by decide) (fun hc9 => ?_) (fun hc9 => ?_)
  · have h := if_t h hc9
    exact w_X6_tell_b33 X a_t a_now a_refused a_kept a_mind a_tape a_words a_wCell a_wFaces a_wTurns a_wSign a_wBy a_wFell a_telling a_holds a_sizes a_elements a_moved a_above a_out a_first c_t res c_now c_refused _ _ _ h hP hD hS (lv_sub hl [0] rfl)
  · have h := if_f h hc9
    refine lv_iload_n hx hb dX6_tell_12 rfl (lv_at hl 2 rfl) ?_
    refine lv_i2l (v := (l2.toInt64)) hx hb dX6_tell_13 rfl ?_
    refine lv_lconst (v := (0 : Int64)) hx hb dX6_tell_14 (by decide) ?_
    refine lv_iload_n hx hb dX6_tell_15 rfl (lv_at hl 1 rfl) ?_
    refine lv_iconst (v := (2 : Int32)) hx hb dX6_tell_16 (by decide) ?_
    refine lv_icmp_ne (tgt := 26) hx hb dX6_tell_17 (by decide) (fun hc17 => ?_) (fun hc17 => ?_)
    · have h := if_f h hc17
      refine lv_lconst (v := (1 : Int64)) hx hb dX6_tell_26 (by decide) ?_
      exact w_X6_tell_b27 X a_t a_now a_refused a_kept a_mind a_tape a_words a_wCell a_wFaces a_wTurns a_wSign a_wBy a_wFell a_telling a_holds a_sizes a_elements a_moved a_above a_out a_first c_t res c_now c_refused l1 l2 (1 : Int64) (0 : Int64) (l2.toInt64) _ _ _ h hP hD hS (lv_sub hl [0, 1, 2] rfl)
    · have h := if_t h hc17
      refine lv_ldc2 (v := (12 : Int64)) hx hb hown (hts (.constantLong RX6 122 (12)) (List.mem_of_getElem? (i := 2) rfl)) dX6_tell_20 ?_
      refine lv_goto (tgt := 27) hx hb dX6_tell_23 (by decide) ?_
      exact w_X6_tell_b27 X a_t a_now a_refused a_kept a_mind a_tape a_words a_wCell a_wFaces a_wTurns a_wSign a_wBy a_wFell a_telling a_holds a_sizes a_elements a_moved a_above a_out a_first c_t res c_now c_refused l1 l2 (12 : Int64) (0 : Int64) (l2.toInt64) _ _ _ h hP hD hS (lv_sub hl [0, 1, 2] rfl)
end
set_option maxRecDepth 100000 in
theorem c_X6_tell (l : Launch) (E : Env0) (a_t : Nat) (a_now : Nat) (a_refused : Nat) (a_kept : Nat) (a_mind : Nat) (a_tape : Nat) (a_words : Nat) (a_wCell : Nat) (a_wFaces : Nat) (a_wTurns : Nat) (a_wSign : Nat) (a_wBy : Nat) (a_wFell : Nat) (a_telling : Nat) (a_holds : Nat) (a_sizes : Nat) (a_elements : Nat) (a_moved : Nat) (a_above : Nat) (a_out : Nat) (a_first : Nat) (l1 : Int32) (l2 : Int32) (c_t : Nat → Int32) (c_now : Nat → Int32) (c_refused : Nat → Int32) (sz : Nat) (res : Int32 × (Nat → Int32) × (Nat → Int32)) (h : f_X6_tell l1 l2 c_t c_now c_refused = some res) : Met l yX6_tell wsX6_tell r_X6_tell (cPre E [.ref a_t, .int l1, .int l2] (W_X6_tell E a_t a_now a_refused a_kept a_mind a_tape a_words a_wCell a_wFaces a_wTurns a_wSign a_wBy a_wFell a_telling a_holds a_sizes a_elements a_moved a_above a_out a_first c_t c_now c_refused) sz) (qI E (va_A (W_X6_tell E a_t a_now a_refused a_kept a_mind a_tape a_words a_wCell a_wFaces a_wTurns a_wSign a_wBy a_wFell a_telling a_holds a_sizes a_elements a_moved a_above a_out a_first c_t c_now c_refused) sz) (res.1) (W_X6_tell E a_t a_now a_refused a_kept a_mind a_tape a_words a_wCell a_wFaces a_wTurns a_wSign a_wBy a_wFell a_telling a_holds a_sizes a_elements a_moved a_above a_out a_first c_t (res.2.1) (res.2.2))) 0 0 (va_A (W_X6_tell E a_t a_now a_refused a_kept a_mind a_tape a_words a_wCell a_wFaces a_wTurns a_wSign a_wBy a_wFell a_telling a_holds a_sizes a_elements a_moved a_above a_out a_first c_t c_now c_refused) sz) :=
  met_of (Qc := fun A => qI E A (res.1) (W_X6_tell E a_t a_now a_refused a_kept a_mind a_tape a_words a_wCell a_wFaces a_wTurns a_wSign a_wBy a_wFell a_telling a_holds a_sizes a_elements a_moved a_above a_out a_first c_t (res.2.1) (res.2.2))) (by decide) rfl (Nat.le_of_ble_eq_true rfl) (fun p e s m args below meth c X hP hD hS ls hl => w_X6_tell X a_t a_now a_refused a_kept a_mind a_tape a_words a_wCell a_wFaces a_wTurns a_wSign a_wBy a_wFell a_telling a_holds a_sizes a_elements a_moved a_above a_out a_first c_t res c_now c_refused l1 l2 ls _ _ h hP hD hS hl)
-- ===== X6_isFor_
noncomputable abbrev W_X6_isFor_ (E : Env0) (a_t : Nat) (a_now : Nat) (a_refused : Nat) (a_kept : Nat) (a_mind : Nat) (a_tape : Nat) (a_words : Nat) (a_wCell : Nat) (a_wFaces : Nat) (a_wTurns : Nat) (a_wSign : Nat) (a_wBy : Nat) (a_wFell : Nat) (a_telling : Nat) (a_holds : Nat) (a_sizes : Nat) (a_elements : Nat) (a_moved : Nat) (a_above : Nat) (a_out : Nat) (a_first : Nat) (c_t : Nat → Int32) (c_now : Nat → Int32) (c_refused : Nat → Int32) : va_W := [(a_t, .inr (6, [.ref a_refused, .ref a_now, .ref a_kept, .ref a_mind, .int (c_t 4), .ref a_tape, .int (c_t 6), .int (c_t 7), .int (c_t 8), .int (c_t 9), .ref a_words, .ref a_wCell, .ref a_wFaces, .ref a_wTurns, .ref a_wSign, .ref a_wBy, .ref a_wFell, .int (c_t 17), .ref a_telling, .ref a_holds, .ref a_sizes, .ref a_elements, .ref a_moved, .ref a_above, .ref a_out, .ref a_first])), (a_now, .inl (eI E, 97, .inl c_now)), (a_refused, .inl (eI E, 7, .inl c_refused))]
noncomputable abbrev r_X6_isFor_ : Room := { frames := 2, cells := 0, slots := 0, locals := 46 }
theorem hd_X6_isFor_ : yX6_isFor_.cls ≠ "java/lang/invoke/MethodHandle" ∧ yX6_isFor_.cls ≠ "java/lang/invoke/VarHandle" ∧ (parseMethodDescriptor yX6_isFor_.desc).map (fun d => d.parameters.length) = some 2 := by decide +kernel
theorem hV_X6_isFor_ : yX6_isFor_.cls = RX6 ∧ yX6_isFor_.cls ≠ "java/lang/invoke/MethodHandle" ∧ yX6_isFor_.cls ≠ "java/lang/invoke/VarHandle" ∧ (parseMethodDescriptor yX6_isFor_.desc).map (fun d => d.parameters.length) = some 2 := ⟨rfl, hd_X6_isFor_⟩
theorem iX6_isFor__X6 : ∀ w ∈ wsX60, w ∈ wsX6_isFor_ := fun _ h => List.mem_cons_of_mem _ (List.mem_append_right _ (h))
section
variable {p : Program} {l : Launch} {e : Env} {s : State} {m : MethodId} {args : Array Value} {below : List Frame} {meth : Method} {c : Code} {E : Env0} {A : Nat → Prop}
set_option maxRecDepth 100000 in
set_option maxHeartbeats 4000000 in
theorem w_X6_isFor__b18 (X : Ctx p m meth c cX6_isFor_ 4 ((some .int)) s args wsX6_isFor_ RX6 E A) (a_t : Nat) (a_now : Nat) (a_refused : Nat) (a_kept : Nat) (a_mind : Nat) (a_tape : Nat) (a_words : Nat) (a_wCell : Nat) (a_wFaces : Nat) (a_wTurns : Nat) (a_wSign : Nat) (a_wBy : Nat) (a_wFell : Nat) (a_telling : Nat) (a_holds : Nat) (a_sizes : Nat) (a_elements : Nat) (a_moved : Nat) (a_above : Nat) (a_out : Nat) (a_first : Nat) (c_t : Nat → Int32) (res : Int32 × (Nat → Int32) × (Nat → Int32)) (c_now : Nat → Int32) (c_refused : Nat → Int32) (ls : Array Slot) (H : Heap) (locs : List Loc) (h : f_X6_isFor__b18 c_t c_now c_refused = some res) (hP : va_P E.1 vwCl (W_X6_isFor_ E a_t a_now a_refused a_kept a_mind a_tape a_words a_wCell a_wFaces a_wTurns a_wSign a_wBy a_wFell a_telling a_holds a_sizes a_elements a_moved a_above a_out a_first c_t c_now c_refused) H) (hD : va_D A (W_X6_isFor_ E a_t a_now a_refused a_kept a_mind a_tape a_words a_wCell a_wFaces a_wTurns a_wSign a_wBy a_wFell a_telling a_holds a_sizes a_elements a_moved a_above a_out a_first c_t c_now c_refused)) (hS : va_S A s.heap H locs) (hl : lv_has ls 4 [(0, .ref a_t)]) : W p l e r_X6_isFor_ s m args below meth c H locs 0 0 (MQ below (qI E A (res.1) (W_X6_isFor_ E a_t a_now a_refused a_kept a_mind a_tape a_words a_wCell a_wFaces a_wTurns a_wSign a_wBy a_wFell a_telling a_holds a_sizes a_elements a_moved a_above a_out a_first c_t (res.2.1) (res.2.2))) args s 0 0 A) (F0 m 18 ls []) := by
  obtain ⟨hx, hb, hml, hr, hlk, hown, hts, hG, hA⟩ := id X
  have hK := hG.1
  have hN := hG.2.1
  unfold f_X6_isFor__b18 at h
  refine lv_aload_n hx hb dX6_isFor__18 rfl (lv_at hl 0 rfl) ?_
  refine lv_bipush (v := (-2 : Int32)) hx hb dX6_isFor__19 (by decide) ?_
  obtain ⟨v1, hv1, h⟩ := bind_of h
  refine after_i X (run_V X (c_X6_refuse l E a_t a_refused a_now a_kept a_mind a_tape a_words a_wCell a_wFaces a_wTurns a_wSign a_wBy a_wFell a_telling a_holds a_sizes a_elements a_moved a_above a_out a_first (-2 : Int32) c_t c_refused H.size v1 hv1) (cwV 1 hts gX6_isFor__X6_refuse rfl rfl rfl hV_X6_refuse ⟨(Nat.le_of_ble_eq_true rfl), (Nat.le_of_ble_eq_true rfl)⟩) hP hD hS [0, 2] rfl rfl hl.1 (ci := 6) rfl rfl rfl (rest := []) rfl rfl (Nat.le_of_ble_eq_true rfl) dX6_isFor__21) hP hD hS [0, 2] rfl (ws1 := (W_X6_isFor_ E a_t a_now a_refused a_kept a_mind a_tape a_words a_wCell a_wFaces a_wTurns a_wSign a_wBy a_wFell a_telling a_holds a_sizes a_elements a_moved a_above a_out a_first c_t c_now (v1.2))) rfl (fun H locs hP hD hS => ?_)
  obtain rfl := Option.some.inj h
  exact ret_i X dX6_isFor__24 hP hD hS rfl
set_option maxRecDepth 100000 in
set_option maxHeartbeats 4000000 in
theorem w_X6_isFor_ (X : Ctx p m meth c cX6_isFor_ 4 ((some .int)) s args wsX6_isFor_ RX6 E A) (a_t : Nat) (a_now : Nat) (a_refused : Nat) (a_kept : Nat) (a_mind : Nat) (a_tape : Nat) (a_words : Nat) (a_wCell : Nat) (a_wFaces : Nat) (a_wTurns : Nat) (a_wSign : Nat) (a_wBy : Nat) (a_wFell : Nat) (a_telling : Nat) (a_holds : Nat) (a_sizes : Nat) (a_elements : Nat) (a_moved : Nat) (a_above : Nat) (a_out : Nat) (a_first : Nat) (c_t : Nat → Int32) (res : Int32 × (Nat → Int32) × (Nat → Int32)) (c_now : Nat → Int32) (c_refused : Nat → Int32) (l1 : Int32) (l2 : Int32) (ls : Array Slot) (H : Heap) (locs : List Loc) (h : f_X6_isFor_ l1 l2 c_t c_now c_refused = some res) (hP : va_P E.1 vwCl (W_X6_isFor_ E a_t a_now a_refused a_kept a_mind a_tape a_words a_wCell a_wFaces a_wTurns a_wSign a_wBy a_wFell a_telling a_holds a_sizes a_elements a_moved a_above a_out a_first c_t c_now c_refused) H) (hD : va_D A (W_X6_isFor_ E a_t a_now a_refused a_kept a_mind a_tape a_words a_wCell a_wFaces a_wTurns a_wSign a_wBy a_wFell a_telling a_holds a_sizes a_elements a_moved a_above a_out a_first c_t c_now c_refused)) (hS : va_S A s.heap H locs) (hl : lv_has ls 4 [(0, .ref a_t), (1, .int l1), (2, .int l2)]) : W p l e r_X6_isFor_ s m args below meth c H locs 0 0 (MQ below (qI E A (res.1) (W_X6_isFor_ E a_t a_now a_refused a_kept a_mind a_tape a_words a_wCell a_wFaces a_wTurns a_wSign a_wBy a_wFell a_telling a_holds a_sizes a_elements a_moved a_above a_out a_first c_t (res.2.1) (res.2.2))) args s 0 0 A) (F0 m 0 ls []) := by
  obtain ⟨hx, hb, hml, hr, hlk, hown, hts, hG, hA⟩ := id X
  have hK := hG.1
  have hN := hG.2.1
  unfold f_X6_isFor_ at h
  refine lv_aload_n hx hb dX6_isFor__0 rfl (lv_at hl 0 rfl) ?_
  refine lv_iload_n hx hb dX6_isFor__1 rfl (lv_at hl 1 rfl) ?_
  obtain ⟨v1, hv1, h⟩ := bind_of h
  refine after_i X (run_V X (c_X6_isPerson l E a_t a_now a_refused a_kept a_mind a_tape a_words a_wCell a_wFaces a_wTurns a_wSign a_wBy a_wFell a_telling a_holds a_sizes a_elements a_moved a_above a_out a_first l1 c_t c_now H.size v1 hv1) (cwV 1 hts gX6_isFor__X6_isPerson rfl rfl rfl hV_X6_isPerson ⟨(Nat.le_of_ble_eq_true rfl), (Nat.le_of_ble_eq_true rfl)⟩) hP hD hS [0, 1] rfl rfl hl.1 (ci := 6) rfl rfl rfl (rest := []) rfl rfl (Nat.le_of_ble_eq_true rfl) dX6_isFor__2) hP hD hS [0, 1] rfl (ws1 := (W_X6_isFor_ E a_t a_now a_refused a_kept a_mind a_tape a_words a_wCell a_wFaces a_wTurns a_wSign a_wBy a_wFell a_telling a_holds a_sizes a_elements a_moved a_above a_out a_first c_t c_now c_refused)) rfl (fun H locs hP hD hS => ?_)
  refine lv_if_eq (tgt := 18) hx hb dX6_isFor__5 (by decide) (fun hc5 => ?_) (fun hc5 => ?_)
  · have h := if_t h hc5
    exact w_X6_isFor__b18 X a_t a_now a_refused a_kept a_mind a_tape a_words a_wCell a_wFaces a_wTurns a_wSign a_wBy a_wFell a_telling a_holds a_sizes a_elements a_moved a_above a_out a_first c_t res c_now c_refused _ _ _ h hP hD hS (lv_sub hl [0] rfl)
  · have h := if_f h hc5
    refine lv_iload_n hx hb dX6_isFor__8 rfl (lv_at hl 2 rfl) ?_
    refine lv_i2l (v := (l2.toInt64)) hx hb dX6_isFor__9 rfl ?_
    refine lv_lconst (v := (0 : Int64)) hx hb dX6_isFor__10 (by decide) ?_
    refine lv_lconst (v := (1 : Int64)) hx hb dX6_isFor__11 (by decide) ?_
    obtain ⟨v2, hv2, h⟩ := bind_of h
    refine after_i X (run_S X (c_X6_isIn l E (l2.toInt64) (0 : Int64) (1 : Int64) H.size v2 hv2) (va_cwS 3 hts gX6_isFor__X6_isIn rfl rfl rfl hd_X6_isIn ⟨(Nat.le_of_ble_eq_true rfl), (Nat.le_of_ble_eq_true rfl)⟩) hP hD hS [] rfl rfl hl.1 (rest := []) rfl rfl (Nat.le_of_ble_eq_true rfl) dX6_isFor__12) hP hD hS [] rfl (ws1 := (W_X6_isFor_ E a_t a_now a_refused a_kept a_mind a_tape a_words a_wCell a_wFaces a_wTurns a_wSign a_wBy a_wFell a_telling a_holds a_sizes a_elements a_moved a_above a_out a_first c_t c_now c_refused)) rfl (fun H locs hP hD hS => ?_)
    refine lv_if_ne (tgt := 25) hx hb dX6_isFor__15 (by decide) (fun hc15 => ?_) (fun hc15 => ?_)
    · have h := if_f h hc15
      refine lv_aload_n hx hb dX6_isFor__25 rfl (lv_at hl 0 rfl) ?_
      refine lv_iload_n hx hb dX6_isFor__26 rfl (lv_at hl 1 rfl) ?_
      obtain ⟨v3, hv3, h⟩ := bind_of h
      refine after_i X (run_V X (c_X6_isFor l E a_t a_now a_refused a_kept a_mind a_tape a_words a_wCell a_wFaces a_wTurns a_wSign a_wBy a_wFell a_telling a_holds a_sizes a_elements a_moved a_above a_out a_first l1 c_t c_now H.size v3 hv3) (cwV 1 hts gX6_isFor__X6_isFor rfl rfl rfl hV_X6_isFor ⟨(Nat.le_of_ble_eq_true rfl), (Nat.le_of_ble_eq_true rfl)⟩) hP hD hS [0, 1] rfl rfl hl.1 (ci := 6) rfl rfl rfl (rest := []) rfl rfl (Nat.le_of_ble_eq_true rfl) dX6_isFor__27) hP hD hS [0, 1] rfl (ws1 := (W_X6_isFor_ E a_t a_now a_refused a_kept a_mind a_tape a_words a_wCell a_wFaces a_wTurns a_wSign a_wBy a_wFell a_telling a_holds a_sizes a_elements a_moved a_above a_out a_first c_t c_now c_refused)) rfl (fun H locs hP hD hS => ?_)
      refine lv_istore_n (lv' := [(3, .int v3), (0, .ref a_t), (1, .int l1), (2, .int l2)]) hx hb dX6_isFor__30 rfl hl (by decide) rfl (fun ls hl => ?_)
      refine lv_aload_n hx hb dX6_isFor__31 rfl (lv_at hl 1 rfl) ?_
      refine va_get (D := E.1) (ci := 6) (v := .ref a_now) (C := RX6) (T := TX6) (N := 26) hx hb hts iX6_isFor__X6 hown hK hP 0 rfl rfl 1 (by decide) (hts (.fieldLink RX6 17 "LeftIsAgreedOnModel" "now" "[I") (List.mem_of_getElem? (i := 1) rfl)) (fun _ h9 => h9) rfl dX6_isFor__32 ?_
      refine lv_iconst (v := (5 : Int32)) hx hb dX6_isFor__35 (by decide) ?_
      refine lv_iload_n hx hb dX6_isFor__36 rfl (lv_at hl 2 rfl) ?_
      refine lv_imul hx hb dX6_isFor__37 ?_
      refine lv_iconst (v := (4 : Int32)) hx hb dX6_isFor__38 (by decide) ?_
      refine lv_iadd hx hb dX6_isFor__39 ?_
      refine lv_iload_n hx hb dX6_isFor__40 rfl (lv_at hl 3 rfl) ?_
      obtain ⟨hz41, h⟩ := chk_of h
      refine st_i X hP hD hS 1 rfl (inb.vp hz41) (k := ((((5 : Int32) * l1) + (4 : Int32))).toNatClampNeg) rfl (ws1 := (W_X6_isFor_ E a_t a_now a_refused a_kept a_mind a_tape a_words a_wCell a_wFaces a_wTurns a_wSign a_wBy a_wFell a_telling a_holds a_sizes a_elements a_moved a_above a_out a_first c_t (upd c_now (((((5 : Int32) * l1) + (4 : Int32))).toNatClampNeg) l2) c_refused)) rfl dX6_isFor__41 (fun H locs hP hD hS => ?_)
      refine lv_iload_n hx hb dX6_isFor__42 rfl (lv_at hl 0 rfl) ?_
      obtain rfl := Option.some.inj h
      exact ret_i X dX6_isFor__43 hP hD hS rfl
    · have h := if_t h hc15
      exact w_X6_isFor__b18 X a_t a_now a_refused a_kept a_mind a_tape a_words a_wCell a_wFaces a_wTurns a_wSign a_wBy a_wFell a_telling a_holds a_sizes a_elements a_moved a_above a_out a_first c_t res c_now c_refused _ _ _ h hP hD hS (lv_sub hl [0] rfl)
end
set_option maxRecDepth 100000 in
theorem c_X6_isFor_ (l : Launch) (E : Env0) (a_t : Nat) (a_now : Nat) (a_refused : Nat) (a_kept : Nat) (a_mind : Nat) (a_tape : Nat) (a_words : Nat) (a_wCell : Nat) (a_wFaces : Nat) (a_wTurns : Nat) (a_wSign : Nat) (a_wBy : Nat) (a_wFell : Nat) (a_telling : Nat) (a_holds : Nat) (a_sizes : Nat) (a_elements : Nat) (a_moved : Nat) (a_above : Nat) (a_out : Nat) (a_first : Nat) (l1 : Int32) (l2 : Int32) (c_t : Nat → Int32) (c_now : Nat → Int32) (c_refused : Nat → Int32) (sz : Nat) (res : Int32 × (Nat → Int32) × (Nat → Int32)) (h : f_X6_isFor_ l1 l2 c_t c_now c_refused = some res) : Met l yX6_isFor_ wsX6_isFor_ r_X6_isFor_ (cPre E [.ref a_t, .int l1, .int l2] (W_X6_isFor_ E a_t a_now a_refused a_kept a_mind a_tape a_words a_wCell a_wFaces a_wTurns a_wSign a_wBy a_wFell a_telling a_holds a_sizes a_elements a_moved a_above a_out a_first c_t c_now c_refused) sz) (qI E (va_A (W_X6_isFor_ E a_t a_now a_refused a_kept a_mind a_tape a_words a_wCell a_wFaces a_wTurns a_wSign a_wBy a_wFell a_telling a_holds a_sizes a_elements a_moved a_above a_out a_first c_t c_now c_refused) sz) (res.1) (W_X6_isFor_ E a_t a_now a_refused a_kept a_mind a_tape a_words a_wCell a_wFaces a_wTurns a_wSign a_wBy a_wFell a_telling a_holds a_sizes a_elements a_moved a_above a_out a_first c_t (res.2.1) (res.2.2))) 0 0 (va_A (W_X6_isFor_ E a_t a_now a_refused a_kept a_mind a_tape a_words a_wCell a_wFaces a_wTurns a_wSign a_wBy a_wFell a_telling a_holds a_sizes a_elements a_moved a_above a_out a_first c_t c_now c_refused) sz) :=
  met_of (Qc := fun A => qI E A (res.1) (W_X6_isFor_ E a_t a_now a_refused a_kept a_mind a_tape a_words a_wCell a_wFaces a_wTurns a_wSign a_wBy a_wFell a_telling a_holds a_sizes a_elements a_moved a_above a_out a_first c_t (res.2.1) (res.2.2))) (by decide) rfl (Nat.le_of_ble_eq_true rfl) (fun p e s m args below meth c X hP hD hS ls hl => w_X6_isFor_ X a_t a_now a_refused a_kept a_mind a_tape a_words a_wCell a_wFaces a_wTurns a_wSign a_wBy a_wFell a_telling a_holds a_sizes a_elements a_moved a_above a_out a_first c_t res c_now c_refused l1 l2 ls _ _ h hP hD hS hl)
-- ===== X6_put
noncomputable abbrev W_X6_put (E : Env0) (a_t : Nat) (a_now : Nat) (a_refused : Nat) (a_kept : Nat) (a_mind : Nat) (a_tape : Nat) (a_words : Nat) (a_wCell : Nat) (a_wFaces : Nat) (a_wTurns : Nat) (a_wSign : Nat) (a_wBy : Nat) (a_wFell : Nat) (a_telling : Nat) (a_holds : Nat) (a_sizes : Nat) (a_elements : Nat) (a_moved : Nat) (a_above : Nat) (a_out : Nat) (a_first : Nat) (c_t : Nat → Int32) (c_now : Nat → Int32) (c_refused : Nat → Int32) : va_W := [(a_t, .inr (6, [.ref a_refused, .ref a_now, .ref a_kept, .ref a_mind, .int (c_t 4), .ref a_tape, .int (c_t 6), .int (c_t 7), .int (c_t 8), .int (c_t 9), .ref a_words, .ref a_wCell, .ref a_wFaces, .ref a_wTurns, .ref a_wSign, .ref a_wBy, .ref a_wFell, .int (c_t 17), .ref a_telling, .ref a_holds, .ref a_sizes, .ref a_elements, .ref a_moved, .ref a_above, .ref a_out, .ref a_first])), (a_now, .inl (eI E, 97, .inl c_now)), (a_refused, .inl (eI E, 7, .inl c_refused))]
noncomputable abbrev r_X6_put : Room := { frames := 2, cells := 0, slots := 0, locals := 46 }
theorem hd_X6_put : yX6_put.cls ≠ "java/lang/invoke/MethodHandle" ∧ yX6_put.cls ≠ "java/lang/invoke/VarHandle" ∧ (parseMethodDescriptor yX6_put.desc).map (fun d => d.parameters.length) = some 3 := by decide +kernel
theorem hV_X6_put : yX6_put.cls = RX6 ∧ yX6_put.cls ≠ "java/lang/invoke/MethodHandle" ∧ yX6_put.cls ≠ "java/lang/invoke/VarHandle" ∧ (parseMethodDescriptor yX6_put.desc).map (fun d => d.parameters.length) = some 3 := ⟨rfl, hd_X6_put⟩
theorem iX6_put_X6 : ∀ w ∈ wsX60, w ∈ wsX6_put := fun _ h => List.mem_cons_of_mem _ (List.mem_append_right _ (h))
section
variable {p : Program} {l : Launch} {e : Env} {s : State} {m : MethodId} {args : Array Value} {below : List Frame} {meth : Method} {c : Code} {E : Env0} {A : Nat → Prop}
set_option maxRecDepth 100000 in
set_option maxHeartbeats 4000000 in
theorem w_X6_put_b28 (X : Ctx p m meth c cX6_put 5 ((some .int)) s args wsX6_put RX6 E A) (a_t : Nat) (a_now : Nat) (a_refused : Nat) (a_kept : Nat) (a_mind : Nat) (a_tape : Nat) (a_words : Nat) (a_wCell : Nat) (a_wFaces : Nat) (a_wTurns : Nat) (a_wSign : Nat) (a_wBy : Nat) (a_wFell : Nat) (a_telling : Nat) (a_holds : Nat) (a_sizes : Nat) (a_elements : Nat) (a_moved : Nat) (a_above : Nat) (a_out : Nat) (a_first : Nat) (c_t : Nat → Int32) (res : Int32 × (Nat → Int32) × (Nat → Int32)) (c_now : Nat → Int32) (c_refused : Nat → Int32) (ls : Array Slot) (H : Heap) (locs : List Loc) (h : f_X6_put_b28 c_t c_now c_refused = some res) (hP : va_P E.1 vwCl (W_X6_put E a_t a_now a_refused a_kept a_mind a_tape a_words a_wCell a_wFaces a_wTurns a_wSign a_wBy a_wFell a_telling a_holds a_sizes a_elements a_moved a_above a_out a_first c_t c_now c_refused) H) (hD : va_D A (W_X6_put E a_t a_now a_refused a_kept a_mind a_tape a_words a_wCell a_wFaces a_wTurns a_wSign a_wBy a_wFell a_telling a_holds a_sizes a_elements a_moved a_above a_out a_first c_t c_now c_refused)) (hS : va_S A s.heap H locs) (hl : lv_has ls 5 [(0, .ref a_t)]) : W p l e r_X6_put s m args below meth c H locs 0 0 (MQ below (qI E A (res.1) (W_X6_put E a_t a_now a_refused a_kept a_mind a_tape a_words a_wCell a_wFaces a_wTurns a_wSign a_wBy a_wFell a_telling a_holds a_sizes a_elements a_moved a_above a_out a_first c_t (res.2.1) (res.2.2))) args s 0 0 A) (F0 m 28 ls []) := by
  obtain ⟨hx, hb, hml, hr, hlk, hown, hts, hG, hA⟩ := id X
  have hK := hG.1
  have hN := hG.2.1
  unfold f_X6_put_b28 at h
  refine lv_aload_n hx hb dX6_put_28 rfl (lv_at hl 0 rfl) ?_
  refine lv_bipush (v := (-2 : Int32)) hx hb dX6_put_29 (by decide) ?_
  obtain ⟨v1, hv1, h⟩ := bind_of h
  refine after_i X (run_V X (c_X6_refuse l E a_t a_refused a_now a_kept a_mind a_tape a_words a_wCell a_wFaces a_wTurns a_wSign a_wBy a_wFell a_telling a_holds a_sizes a_elements a_moved a_above a_out a_first (-2 : Int32) c_t c_refused H.size v1 hv1) (cwV 1 hts gX6_put_X6_refuse rfl rfl rfl hV_X6_refuse ⟨(Nat.le_of_ble_eq_true rfl), (Nat.le_of_ble_eq_true rfl)⟩) hP hD hS [0, 2] rfl rfl hl.1 (ci := 6) rfl rfl rfl (rest := []) rfl rfl (Nat.le_of_ble_eq_true rfl) dX6_put_31) hP hD hS [0, 2] rfl (ws1 := (W_X6_put E a_t a_now a_refused a_kept a_mind a_tape a_words a_wCell a_wFaces a_wTurns a_wSign a_wBy a_wFell a_telling a_holds a_sizes a_elements a_moved a_above a_out a_first c_t c_now (v1.2))) rfl (fun H locs hP hD hS => ?_)
  obtain rfl := Option.some.inj h
  exact ret_i X dX6_put_34 hP hD hS rfl
set_option maxRecDepth 100000 in
set_option maxHeartbeats 4000000 in
theorem w_X6_put (X : Ctx p m meth c cX6_put 5 ((some .int)) s args wsX6_put RX6 E A) (a_t : Nat) (a_now : Nat) (a_refused : Nat) (a_kept : Nat) (a_mind : Nat) (a_tape : Nat) (a_words : Nat) (a_wCell : Nat) (a_wFaces : Nat) (a_wTurns : Nat) (a_wSign : Nat) (a_wBy : Nat) (a_wFell : Nat) (a_telling : Nat) (a_holds : Nat) (a_sizes : Nat) (a_elements : Nat) (a_moved : Nat) (a_above : Nat) (a_out : Nat) (a_first : Nat) (c_t : Nat → Int32) (res : Int32 × (Nat → Int32) × (Nat → Int32)) (c_now : Nat → Int32) (c_refused : Nat → Int32) (l1 : Int32) (l2 : Int32) (l3 : Int32) (ls : Array Slot) (H : Heap) (locs : List Loc) (h : f_X6_put l1 l2 l3 c_t c_now c_refused = some res) (hP : va_P E.1 vwCl (W_X6_put E a_t a_now a_refused a_kept a_mind a_tape a_words a_wCell a_wFaces a_wTurns a_wSign a_wBy a_wFell a_telling a_holds a_sizes a_elements a_moved a_above a_out a_first c_t c_now c_refused) H) (hD : va_D A (W_X6_put E a_t a_now a_refused a_kept a_mind a_tape a_words a_wCell a_wFaces a_wTurns a_wSign a_wBy a_wFell a_telling a_holds a_sizes a_elements a_moved a_above a_out a_first c_t c_now c_refused)) (hS : va_S A s.heap H locs) (hl : lv_has ls 5 [(0, .ref a_t), (1, .int l1), (2, .int l2), (3, .int l3)]) : W p l e r_X6_put s m args below meth c H locs 0 0 (MQ below (qI E A (res.1) (W_X6_put E a_t a_now a_refused a_kept a_mind a_tape a_words a_wCell a_wFaces a_wTurns a_wSign a_wBy a_wFell a_telling a_holds a_sizes a_elements a_moved a_above a_out a_first c_t (res.2.1) (res.2.2))) args s 0 0 A) (F0 m 0 ls []) := by
  obtain ⟨hx, hb, hml, hr, hlk, hown, hts, hG, hA⟩ := id X
  have hK := hG.1
  have hN := hG.2.1
  unfold f_X6_put at h
  refine lv_aload_n hx hb dX6_put_0 rfl (lv_at hl 0 rfl) ?_
  refine lv_iload_n hx hb dX6_put_1 rfl (lv_at hl 1 rfl) ?_
  obtain ⟨v1, hv1, h⟩ := bind_of h
  refine after_i X (run_V X (c_X6_isPerson l E a_t a_now a_refused a_kept a_mind a_tape a_words a_wCell a_wFaces a_wTurns a_wSign a_wBy a_wFell a_telling a_holds a_sizes a_elements a_moved a_above a_out a_first l1 c_t c_now H.size v1 hv1) (cwV 1 hts gX6_put_X6_isPerson rfl rfl rfl hV_X6_isPerson ⟨(Nat.le_of_ble_eq_true rfl), (Nat.le_of_ble_eq_true rfl)⟩) hP hD hS [0, 1] rfl rfl hl.1 (ci := 6) rfl rfl rfl (rest := []) rfl rfl (Nat.le_of_ble_eq_true rfl) dX6_put_2) hP hD hS [0, 1] rfl (ws1 := (W_X6_put E a_t a_now a_refused a_kept a_mind a_tape a_words a_wCell a_wFaces a_wTurns a_wSign a_wBy a_wFell a_telling a_holds a_sizes a_elements a_moved a_above a_out a_first c_t c_now c_refused)) rfl (fun H locs hP hD hS => ?_)
  refine lv_if_eq (tgt := 28) hx hb dX6_put_5 (by decide) (fun hc5 => ?_) (fun hc5 => ?_)
  · have h := if_t h hc5
    exact w_X6_put_b28 X a_t a_now a_refused a_kept a_mind a_tape a_words a_wCell a_wFaces a_wTurns a_wSign a_wBy a_wFell a_telling a_holds a_sizes a_elements a_moved a_above a_out a_first c_t res c_now c_refused _ _ _ h hP hD hS (lv_sub hl [0] rfl)
  · have h := if_f h hc5
    refine lv_aload_n hx hb dX6_put_8 rfl (lv_at hl 0 rfl) ?_
    refine lv_iload_n hx hb dX6_put_9 rfl (lv_at hl 2 rfl) ?_
    obtain ⟨v2, hv2, h⟩ := bind_of h
    refine after_i X (run_V X (c_X6_isCell l E a_t a_now a_refused a_kept a_mind a_tape a_words a_wCell a_wFaces a_wTurns a_wSign a_wBy a_wFell a_telling a_holds a_sizes a_elements a_moved a_above a_out a_first l2 c_t c_now H.size v2 hv2) (cwV 1 hts gX6_put_X6_isCell rfl rfl rfl hV_X6_isCell ⟨(Nat.le_of_ble_eq_true rfl), (Nat.le_of_ble_eq_true rfl)⟩) hP hD hS [0, 1] rfl rfl hl.1 (ci := 6) rfl rfl rfl (rest := []) rfl rfl (Nat.le_of_ble_eq_true rfl) dX6_put_10) hP hD hS [0, 1] rfl (ws1 := (W_X6_put E a_t a_now a_refused a_kept a_mind a_tape a_words a_wCell a_wFaces a_wTurns a_wSign a_wBy a_wFell a_telling a_holds a_sizes a_elements a_moved a_above a_out a_first c_t c_now c_refused)) rfl (fun H locs hP hD hS => ?_)
    refine lv_if_eq (tgt := 28) hx hb dX6_put_13 (by decide) (fun hc13 => ?_) (fun hc13 => ?_)
    · have h := if_t h hc13
      exact w_X6_put_b28 X a_t a_now a_refused a_kept a_mind a_tape a_words a_wCell a_wFaces a_wTurns a_wSign a_wBy a_wFell a_telling a_holds a_sizes a_elements a_moved a_above a_out a_first c_t res c_now c_refused _ _ _ h hP hD hS (lv_sub hl [0] rfl)
    · have h := if_f h hc13
      refine lv_iload_n hx hb dX6_put_16 rfl (lv_at hl 3 rfl) ?_
      refine lv_i2l (v := (l3.toInt64)) hx hb dX6_put_17 rfl ?_
      refine lv_lconst (v := (0 : Int64)) hx hb dX6_put_18 (by decide) ?_
      refine lv_ldc2 (v := (3 : Int64)) hx hb hown (hts (.constantLong RX6 114 (3)) (List.mem_of_getElem? (i := 1) rfl)) dX6_put_19 ?_
      obtain ⟨v3, hv3, h⟩ := bind_of h
      refine after_i X (run_S X (c_X6_isIn l E (l3.toInt64) (0 : Int64) (3 : Int64) H.size v3 hv3) (va_cwS 3 hts gX6_put_X6_isIn rfl rfl rfl hd_X6_isIn ⟨(Nat.le_of_ble_eq_true rfl), (Nat.le_of_ble_eq_true rfl)⟩) hP hD hS [] rfl rfl hl.1 (rest := []) rfl rfl (Nat.le_of_ble_eq_true rfl) dX6_put_22) hP hD hS [] rfl (ws1 := (W_X6_put E a_t a_now a_refused a_kept a_mind a_tape a_words a_wCell a_wFaces a_wTurns a_wSign a_wBy a_wFell a_telling a_holds a_sizes a_elements a_moved a_above a_out a_first c_t c_now c_refused)) rfl (fun H locs hP hD hS => ?_)
      refine lv_if_ne (tgt := 35) hx hb dX6_put_25 (by decide) (fun hc25 => ?_) (fun hc25 => ?_)
      · have h := if_f h hc25
        refine lv_aload_n hx hb dX6_put_35 rfl (lv_at hl 0 rfl) ?_
        refine lv_iload_n hx hb dX6_put_36 rfl (lv_at hl 2 rfl) ?_
        obtain ⟨v4, hv4, h⟩ := bind_of h
        refine after_i X (run_V X (c_X6_hasPond l E a_t a_now a_refused a_kept a_mind a_tape a_words a_wCell a_wFaces a_wTurns a_wSign a_wBy a_wFell a_telling a_holds a_sizes a_elements a_moved a_above a_out a_first l2 c_t c_now H.size v4 hv4) (cwV 1 hts gX6_put_X6_hasPond rfl rfl rfl hV_X6_hasPond ⟨(Nat.le_of_ble_eq_true rfl), (Nat.le_of_ble_eq_true rfl)⟩) hP hD hS [0, 1] rfl rfl hl.1 (ci := 6) rfl rfl rfl (rest := []) rfl rfl (Nat.le_of_ble_eq_true rfl) dX6_put_37) hP hD hS [0, 1] rfl (ws1 := (W_X6_put E a_t a_now a_refused a_kept a_mind a_tape a_words a_wCell a_wFaces a_wTurns a_wSign a_wBy a_wFell a_telling a_holds a_sizes a_elements a_moved a_above a_out a_first c_t c_now c_refused)) rfl (fun H locs hP hD hS => ?_)
        refine lv_if_eq (tgt := 50) hx hb dX6_put_40 (by decide) (fun hc40 => ?_) (fun hc40 => ?_)
        · have h := if_t h hc40
          refine lv_aload_n hx hb dX6_put_50 rfl (lv_at hl 0 rfl) ?_
          refine lv_iload_n hx hb dX6_put_51 rfl (lv_at hl 1 rfl) ?_
          obtain ⟨v5, hv5, h⟩ := bind_of h
          refine after_i X (run_V X (c_X6_cell l E a_t a_now a_refused a_kept a_mind a_tape a_words a_wCell a_wFaces a_wTurns a_wSign a_wBy a_wFell a_telling a_holds a_sizes a_elements a_moved a_above a_out a_first l1 c_t c_now H.size v5 hv5) (cwV 1 hts gX6_put_X6_cell rfl rfl rfl hV_X6_cell ⟨(Nat.le_of_ble_eq_true rfl), (Nat.le_of_ble_eq_true rfl)⟩) hP hD hS [0, 1] rfl rfl hl.1 (ci := 6) rfl rfl rfl (rest := []) rfl rfl (Nat.le_of_ble_eq_true rfl) dX6_put_52) hP hD hS [0, 1] rfl (ws1 := (W_X6_put E a_t a_now a_refused a_kept a_mind a_tape a_words a_wCell a_wFaces a_wTurns a_wSign a_wBy a_wFell a_telling a_holds a_sizes a_elements a_moved a_above a_out a_first c_t c_now c_refused)) rfl (fun H locs hP hD hS => ?_)
          refine lv_istore (lv' := [(4, .int v5), (0, .ref a_t), (1, .int l1), (2, .int l2), (3, .int l3)]) hx hb dX6_put_55 hl (by decide) rfl (fun ls hl => ?_)
          refine lv_aload_n hx hb dX6_put_57 rfl (lv_at hl 1 rfl) ?_
          refine va_get (D := E.1) (ci := 6) (v := .ref a_now) (C := RX6) (T := TX6) (N := 26) hx hb hts iX6_put_X6 hown hK hP 0 rfl rfl 1 (by decide) (hts (.fieldLink RX6 17 "LeftIsAgreedOnModel" "now" "[I") (List.mem_of_getElem? (i := 2) rfl)) (fun _ h9 => h9) rfl dX6_put_58 ?_
          refine lv_iconst (v := (5 : Int32)) hx hb dX6_put_61 (by decide) ?_
          refine lv_iload_n hx hb dX6_put_62 rfl (lv_at hl 2 rfl) ?_
          refine lv_imul hx hb dX6_put_63 ?_
          refine lv_iconst (v := (2 : Int32)) hx hb dX6_put_64 (by decide) ?_
          refine lv_iadd hx hb dX6_put_65 ?_
          refine lv_iload_n hx hb dX6_put_66 rfl (lv_at hl 3 rfl) ?_
          obtain ⟨hz67, h⟩ := chk_of h
          refine st_i X hP hD hS 1 rfl (inb.vp hz67) (k := ((((5 : Int32) * l1) + (2 : Int32))).toNatClampNeg) rfl (ws1 := (W_X6_put E a_t a_now a_refused a_kept a_mind a_tape a_words a_wCell a_wFaces a_wTurns a_wSign a_wBy a_wFell a_telling a_holds a_sizes a_elements a_moved a_above a_out a_first c_t (upd c_now (((((5 : Int32) * l1) + (2 : Int32))).toNatClampNeg) l2) c_refused)) rfl dX6_put_67 (fun H locs hP hD hS => ?_)
          refine lv_aload_n hx hb dX6_put_68 rfl (lv_at hl 1 rfl) ?_
          refine va_get (D := E.1) (ci := 6) (v := .ref a_now) (C := RX6) (T := TX6) (N := 26) hx hb hts iX6_put_X6 hown hK hP 0 rfl rfl 1 (by decide) (hts (.fieldLink RX6 17 "LeftIsAgreedOnModel" "now" "[I") (List.mem_of_getElem? (i := 2) rfl)) (fun _ h9 => h9) rfl dX6_put_69 ?_
          refine lv_iconst (v := (5 : Int32)) hx hb dX6_put_72 (by decide) ?_
          refine lv_iload_n hx hb dX6_put_73 rfl (lv_at hl 2 rfl) ?_
          refine lv_imul hx hb dX6_put_74 ?_
          refine lv_iconst (v := (3 : Int32)) hx hb dX6_put_75 (by decide) ?_
          refine lv_iadd hx hb dX6_put_76 ?_
          refine lv_iload_n hx hb dX6_put_77 rfl (lv_at hl 4 rfl) ?_
          obtain ⟨hz78, h⟩ := chk_of h
          refine st_i X hP hD hS 1 rfl (inb.vp hz78) (k := ((((5 : Int32) * l1) + (3 : Int32))).toNatClampNeg) rfl (ws1 := (W_X6_put E a_t a_now a_refused a_kept a_mind a_tape a_words a_wCell a_wFaces a_wTurns a_wSign a_wBy a_wFell a_telling a_holds a_sizes a_elements a_moved a_above a_out a_first c_t (upd (upd c_now (((((5 : Int32) * l1) + (2 : Int32))).toNatClampNeg) l2) (((((5 : Int32) * l1) + (3 : Int32))).toNatClampNeg) l3) c_refused)) rfl dX6_put_78 (fun H locs hP hD hS => ?_)
          refine lv_iload hx hb dX6_put_79 (lv_at hl 0 rfl) ?_
          obtain rfl := Option.some.inj h
          exact ret_i X dX6_put_81 hP hD hS rfl
        · have h := if_f h hc40
          refine lv_aload_n hx hb dX6_put_43 rfl (lv_at hl 0 rfl) ?_
          refine lv_bipush (v := (-5 : Int32)) hx hb dX6_put_44 (by decide) ?_
          obtain ⟨v6, hv6, h⟩ := bind_of h
          refine after_i X (run_V X (c_X6_refuse l E a_t a_refused a_now a_kept a_mind a_tape a_words a_wCell a_wFaces a_wTurns a_wSign a_wBy a_wFell a_telling a_holds a_sizes a_elements a_moved a_above a_out a_first (-5 : Int32) c_t c_refused H.size v6 hv6) (cwV 1 hts gX6_put_X6_refuse rfl rfl rfl hV_X6_refuse ⟨(Nat.le_of_ble_eq_true rfl), (Nat.le_of_ble_eq_true rfl)⟩) hP hD hS [0, 2] rfl rfl hl.1 (ci := 6) rfl rfl rfl (rest := []) rfl rfl (Nat.le_of_ble_eq_true rfl) dX6_put_46) hP hD hS [0, 2] rfl (ws1 := (W_X6_put E a_t a_now a_refused a_kept a_mind a_tape a_words a_wCell a_wFaces a_wTurns a_wSign a_wBy a_wFell a_telling a_holds a_sizes a_elements a_moved a_above a_out a_first c_t c_now (v6.2))) rfl (fun H locs hP hD hS => ?_)
          obtain rfl := Option.some.inj h
          exact ret_i X dX6_put_49 hP hD hS rfl
      · have h := if_t h hc25
        exact w_X6_put_b28 X a_t a_now a_refused a_kept a_mind a_tape a_words a_wCell a_wFaces a_wTurns a_wSign a_wBy a_wFell a_telling a_holds a_sizes a_elements a_moved a_above a_out a_first c_t res c_now c_refused _ _ _ h hP hD hS (lv_sub hl [0] rfl)
end
set_option maxRecDepth 100000 in
theorem c_X6_put (l : Launch) (E : Env0) (a_t : Nat) (a_now : Nat) (a_refused : Nat) (a_kept : Nat) (a_mind : Nat) (a_tape : Nat) (a_words : Nat) (a_wCell : Nat) (a_wFaces : Nat) (a_wTurns : Nat) (a_wSign : Nat) (a_wBy : Nat) (a_wFell : Nat) (a_telling : Nat) (a_holds : Nat) (a_sizes : Nat) (a_elements : Nat) (a_moved : Nat) (a_above : Nat) (a_out : Nat) (a_first : Nat) (l1 : Int32) (l2 : Int32) (l3 : Int32) (c_t : Nat → Int32) (c_now : Nat → Int32) (c_refused : Nat → Int32) (sz : Nat) (res : Int32 × (Nat → Int32) × (Nat → Int32)) (h : f_X6_put l1 l2 l3 c_t c_now c_refused = some res) : Met l yX6_put wsX6_put r_X6_put (cPre E [.ref a_t, .int l1, .int l2, .int l3] (W_X6_put E a_t a_now a_refused a_kept a_mind a_tape a_words a_wCell a_wFaces a_wTurns a_wSign a_wBy a_wFell a_telling a_holds a_sizes a_elements a_moved a_above a_out a_first c_t c_now c_refused) sz) (qI E (va_A (W_X6_put E a_t a_now a_refused a_kept a_mind a_tape a_words a_wCell a_wFaces a_wTurns a_wSign a_wBy a_wFell a_telling a_holds a_sizes a_elements a_moved a_above a_out a_first c_t c_now c_refused) sz) (res.1) (W_X6_put E a_t a_now a_refused a_kept a_mind a_tape a_words a_wCell a_wFaces a_wTurns a_wSign a_wBy a_wFell a_telling a_holds a_sizes a_elements a_moved a_above a_out a_first c_t (res.2.1) (res.2.2))) 0 0 (va_A (W_X6_put E a_t a_now a_refused a_kept a_mind a_tape a_words a_wCell a_wFaces a_wTurns a_wSign a_wBy a_wFell a_telling a_holds a_sizes a_elements a_moved a_above a_out a_first c_t c_now c_refused) sz) :=
  met_of (Qc := fun A => qI E A (res.1) (W_X6_put E a_t a_now a_refused a_kept a_mind a_tape a_words a_wCell a_wFaces a_wTurns a_wSign a_wBy a_wFell a_telling a_holds a_sizes a_elements a_moved a_above a_out a_first c_t (res.2.1) (res.2.2))) (by decide) rfl (Nat.le_of_ble_eq_true rfl) (fun p e s m args below meth c X hP hD hS ls hl => w_X6_put X a_t a_now a_refused a_kept a_mind a_tape a_words a_wCell a_wFaces a_wTurns a_wSign a_wBy a_wFell a_telling a_holds a_sizes a_elements a_moved a_above a_out a_first c_t res c_now c_refused l1 l2 l3 ls _ _ h hP hD hS hl)
