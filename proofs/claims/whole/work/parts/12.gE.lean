-- ===== X6_isIn
abbrev W_X6_isIn (E : Env0) : va_W := []
abbrev r_X6_isIn : Room := { frames := 0, cells := 0, slots := 0, locals := 0 }
theorem hd_X6_isIn : yX6_isIn.cls ≠ "java/lang/invoke/MethodHandle" ∧ yX6_isIn.cls ≠ "java/lang/invoke/VarHandle" ∧ (parseMethodDescriptor yX6_isIn.desc).map (fun d => d.parameters.length) = some 3 := by decide +kernel
section
variable {p : Program} {l : Launch} {e : Env} {s : State} {m : MethodId} {args : Array Value} {below : List Frame} {meth : Method} {c : Code} {E : Env0} {A : Nat → Prop}
set_option maxRecDepth 100000 in
set_option maxHeartbeats 4000000 in
theorem w_X6_isIn (X : Ctx p m meth c cX6_isIn 6 ((some .boolean)) s args wsX6_isIn RX6 E A) (res : Int32) (l0 : Int64) (l2 : Int64) (l4 : Int64) (ls : Array Slot) (H : Heap) (locs : List Loc) (h : f_X6_isIn l0 l2 l4 = some res) (hP : va_P E.1 vwCl (W_X6_isIn E) H) (hD : va_D A (W_X6_isIn E)) (hS : va_S A s.heap H locs) (hl : lv_has ls 6 [(0, .long l0), (2, .long l2), (4, .long l4)]) : W p l e r_X6_isIn s m args below meth c H locs 0 0 (MQ below (qI E A res (W_X6_isIn E)) args s 0 0 A) (F0 m 0 ls []) := by
  obtain ⟨hx, hb, hml, hr, hlk, hown, hts, hG, hA⟩ := id X
  have hK := hG.1
  have hN := hG.2.1
  unfold f_X6_isIn at h
  refine lv_lload_n hx hb dX6_isIn_0 rfl (lv_at hl 0 rfl) ?_
  refine lv_lload_n hx hb dX6_isIn_1 rfl (lv_at hl 1 rfl) ?_
  refine W.lcmp hx hb dX6_isIn_2 ?_
  refine lv_if_lt (tgt := 17) hx hb dX6_isIn_3 (by decide) (fun hc3 => ?_) (fun hc3 => ?_)
  · have h := if_t h hc3
    refine lv_iconst (v := (0 : Int32)) hx hb dX6_isIn_17 (by decide) ?_
    obtain rfl := Option.some.inj h
    exact ret_z X dX6_isIn_18 (by decide) hP hD hS rfl
  · have h := if_f h hc3
    refine lv_lload_n hx hb dX6_isIn_6 rfl (lv_at hl 0 rfl) ?_
    refine lv_lload hx hb dX6_isIn_7 (lv_at hl 2 rfl) ?_
    refine W.lcmp hx hb dX6_isIn_9 ?_
    refine lv_if_gt (tgt := 17) hx hb dX6_isIn_10 (by decide) (fun hc10 => ?_) (fun hc10 => ?_)
    · have h := if_t h hc10
      refine lv_iconst (v := (0 : Int32)) hx hb dX6_isIn_17 (by decide) ?_
      obtain rfl := Option.some.inj h
      exact ret_z X dX6_isIn_18 (by decide) hP hD hS rfl
    · have h := if_f h hc10
      refine lv_iconst (v := (1 : Int32)) hx hb dX6_isIn_13 (by decide) ?_
      refine lv_goto (tgt := 18) hx hb dX6_isIn_14 (by decide) ?_
      obtain rfl := Option.some.inj h
      exact ret_z X dX6_isIn_18 (by decide) hP hD hS rfl
end
set_option maxRecDepth 100000 in
theorem c_X6_isIn (l : Launch) (E : Env0) (l0 : Int64) (l2 : Int64) (l4 : Int64) (sz : Nat) (res : Int32) (h : f_X6_isIn l0 l2 l4 = some res) : Met l yX6_isIn wsX6_isIn r_X6_isIn (cPre E [.long l0, .long l2, .long l4] (W_X6_isIn E) sz) (qI E (va_A (W_X6_isIn E) sz) res (W_X6_isIn E)) 0 0 (va_A (W_X6_isIn E) sz) :=
  met_of (Qc := fun A => qI E A res (W_X6_isIn E)) (by decide) rfl (Nat.le_of_ble_eq_true rfl) (fun p e s m args below meth c X hP hD hS ls hl => w_X6_isIn X res l0 l2 l4 ls _ _ h hP hD hS hl)
-- ===== X6_refuse
abbrev W_X6_refuse (E : Env0) (a_t : Nat) (a_refused : Nat) (a_now : Nat) (a_kept : Nat) (a_mind : Nat) (a_tape : Nat) (a_words : Nat) (a_wCell : Nat) (a_wFaces : Nat) (a_wTurns : Nat) (a_wSign : Nat) (a_wBy : Nat) (a_wFell : Nat) (a_telling : Nat) (a_holds : Nat) (a_sizes : Nat) (a_elements : Nat) (a_moved : Nat) (a_above : Nat) (a_out : Nat) (a_first : Nat) (c_t : Nat → Int32) (c_refused : Nat → Int32) : va_W := [(a_t, .inr (6, [.ref a_refused, .ref a_now, .ref a_kept, .ref a_mind, .int (c_t 4), .ref a_tape, .int (c_t 6), .int (c_t 7), .int (c_t 8), .int (c_t 9), .ref a_words, .ref a_wCell, .ref a_wFaces, .ref a_wTurns, .ref a_wSign, .ref a_wBy, .ref a_wFell, .int (c_t 17), .ref a_telling, .ref a_holds, .ref a_sizes, .ref a_elements, .ref a_moved, .ref a_above, .ref a_out, .ref a_first])), (a_refused, .inl (eI E, 7, .inl c_refused))]
abbrev r_X6_refuse : Room := { frames := 0, cells := 0, slots := 0, locals := 0 }
theorem hd_X6_refuse : yX6_refuse.cls ≠ "java/lang/invoke/MethodHandle" ∧ yX6_refuse.cls ≠ "java/lang/invoke/VarHandle" ∧ (parseMethodDescriptor yX6_refuse.desc).map (fun d => d.parameters.length) = some 1 := by decide +kernel
theorem hV_X6_refuse : yX6_refuse.cls = RX6 ∧ yX6_refuse.cls ≠ "java/lang/invoke/MethodHandle" ∧ yX6_refuse.cls ≠ "java/lang/invoke/VarHandle" ∧ (parseMethodDescriptor yX6_refuse.desc).map (fun d => d.parameters.length) = some 1 := ⟨rfl, hd_X6_refuse⟩
theorem iX6_refuse_X6 : ∀ w ∈ wsX60, w ∈ wsX6_refuse := fun _ h => List.mem_cons_of_mem _ (List.mem_append_right _ (h))
section
variable {p : Program} {l : Launch} {e : Env} {s : State} {m : MethodId} {args : Array Value} {below : List Frame} {meth : Method} {c : Code} {E : Env0} {A : Nat → Prop}
set_option maxRecDepth 100000 in
set_option maxHeartbeats 4000000 in
theorem w_X6_refuse (X : Ctx p m meth c cX6_refuse 2 ((some .int)) s args wsX6_refuse RX6 E A) (a_t : Nat) (a_refused : Nat) (a_now : Nat) (a_kept : Nat) (a_mind : Nat) (a_tape : Nat) (a_words : Nat) (a_wCell : Nat) (a_wFaces : Nat) (a_wTurns : Nat) (a_wSign : Nat) (a_wBy : Nat) (a_wFell : Nat) (a_telling : Nat) (a_holds : Nat) (a_sizes : Nat) (a_elements : Nat) (a_moved : Nat) (a_above : Nat) (a_out : Nat) (a_first : Nat) (c_t : Nat → Int32) (res : Int32 × (Nat → Int32)) (c_refused : Nat → Int32) (l1 : Int32) (ls : Array Slot) (H : Heap) (locs : List Loc) (h : f_X6_refuse l1 c_t c_refused = some res) (hP : va_P E.1 vwCl (W_X6_refuse E a_t a_refused a_now a_kept a_mind a_tape a_words a_wCell a_wFaces a_wTurns a_wSign a_wBy a_wFell a_telling a_holds a_sizes a_elements a_moved a_above a_out a_first c_t c_refused) H) (hD : va_D A (W_X6_refuse E a_t a_refused a_now a_kept a_mind a_tape a_words a_wCell a_wFaces a_wTurns a_wSign a_wBy a_wFell a_telling a_holds a_sizes a_elements a_moved a_above a_out a_first c_t c_refused)) (hS : va_S A s.heap H locs) (hl : lv_has ls 2 [(0, .ref a_t), (1, .int l1)]) : W p l e r_X6_refuse s m args below meth c H locs 0 0 (MQ below (qI E A (res.1) (W_X6_refuse E a_t a_refused a_now a_kept a_mind a_tape a_words a_wCell a_wFaces a_wTurns a_wSign a_wBy a_wFell a_telling a_holds a_sizes a_elements a_moved a_above a_out a_first c_t (res.2))) args s 0 0 A) (F0 m 0 ls []) := by
  obtain ⟨hx, hb, hml, hr, hlk, hown, hts, hG, hA⟩ := id X
  have hK := hG.1
  have hN := hG.2.1
  unfold f_X6_refuse at h
  refine lv_aload_n hx hb dX6_refuse_0 rfl (lv_at hl 0 rfl) ?_
  refine va_get (D := E.1) (ci := 6) (v := .ref a_refused) (C := RX6) (T := TX6) (N := 26) hx hb hts iX6_refuse_X6 hown hK hP 0 rfl rfl 0 (by decide) (hts (.fieldLink RX6 7 "LeftIsAgreedOnModel" "refused" "[I") (List.mem_of_getElem? (i := 1) rfl)) (fun _ h9 => h9) rfl dX6_refuse_1 ?_
  refine lv_iload_n hx hb dX6_refuse_4 rfl (lv_at hl 1 rfl) ?_
  refine lv_ineg hx hb dX6_refuse_5 ?_
  refine lv_dup2_11 hx hb dX6_refuse_6 rfl rfl ?_
  obtain ⟨hz7, h⟩ := chk_of h
  refine ld_i X hP 1 rfl (inb.vp hz7) (v := (c_refused ((-l1)).toNatClampNeg)) rfl dX6_refuse_7 ?_
  refine lv_iconst (v := (1 : Int32)) hx hb dX6_refuse_8 (by decide) ?_
  refine lv_iadd hx hb dX6_refuse_9 ?_
  obtain ⟨hz10, h⟩ := chk_of h
  refine st_i X hP hD hS 1 rfl (inb.vp hz10) (k := ((-l1)).toNatClampNeg) rfl (ws1 := (W_X6_refuse E a_t a_refused a_now a_kept a_mind a_tape a_words a_wCell a_wFaces a_wTurns a_wSign a_wBy a_wFell a_telling a_holds a_sizes a_elements a_moved a_above a_out a_first c_t (upd c_refused (((-l1)).toNatClampNeg) ((c_refused ((-l1)).toNatClampNeg) + (1 : Int32))))) rfl dX6_refuse_10 (fun H locs hP hD hS => ?_)
  refine lv_iload_n hx hb dX6_refuse_11 rfl (lv_at hl 1 rfl) ?_
  obtain rfl := Option.some.inj h
  exact ret_i X dX6_refuse_12 hP hD hS rfl
end
set_option maxRecDepth 100000 in
theorem c_X6_refuse (l : Launch) (E : Env0) (a_t : Nat) (a_refused : Nat) (a_now : Nat) (a_kept : Nat) (a_mind : Nat) (a_tape : Nat) (a_words : Nat) (a_wCell : Nat) (a_wFaces : Nat) (a_wTurns : Nat) (a_wSign : Nat) (a_wBy : Nat) (a_wFell : Nat) (a_telling : Nat) (a_holds : Nat) (a_sizes : Nat) (a_elements : Nat) (a_moved : Nat) (a_above : Nat) (a_out : Nat) (a_first : Nat) (l1 : Int32) (c_t : Nat → Int32) (c_refused : Nat → Int32) (sz : Nat) (res : Int32 × (Nat → Int32)) (h : f_X6_refuse l1 c_t c_refused = some res) : Met l yX6_refuse wsX6_refuse r_X6_refuse (cPre E [.ref a_t, .int l1] (W_X6_refuse E a_t a_refused a_now a_kept a_mind a_tape a_words a_wCell a_wFaces a_wTurns a_wSign a_wBy a_wFell a_telling a_holds a_sizes a_elements a_moved a_above a_out a_first c_t c_refused) sz) (qI E (va_A (W_X6_refuse E a_t a_refused a_now a_kept a_mind a_tape a_words a_wCell a_wFaces a_wTurns a_wSign a_wBy a_wFell a_telling a_holds a_sizes a_elements a_moved a_above a_out a_first c_t c_refused) sz) (res.1) (W_X6_refuse E a_t a_refused a_now a_kept a_mind a_tape a_words a_wCell a_wFaces a_wTurns a_wSign a_wBy a_wFell a_telling a_holds a_sizes a_elements a_moved a_above a_out a_first c_t (res.2))) 0 0 (va_A (W_X6_refuse E a_t a_refused a_now a_kept a_mind a_tape a_words a_wCell a_wFaces a_wTurns a_wSign a_wBy a_wFell a_telling a_holds a_sizes a_elements a_moved a_above a_out a_first c_t c_refused) sz) :=
  met_of (Qc := fun A => qI E A (res.1) (W_X6_refuse E a_t a_refused a_now a_kept a_mind a_tape a_words a_wCell a_wFaces a_wTurns a_wSign a_wBy a_wFell a_telling a_holds a_sizes a_elements a_moved a_above a_out a_first c_t (res.2))) (by decide) rfl (Nat.le_of_ble_eq_true rfl) (fun p e s m args below meth c X hP hD hS ls hl => w_X6_refuse X a_t a_refused a_now a_kept a_mind a_tape a_words a_wCell a_wFaces a_wTurns a_wSign a_wBy a_wFell a_telling a_holds a_sizes a_elements a_moved a_above a_out a_first c_t res c_refused l1 ls _ _ h hP hD hS hl)
-- ===== X6_move
abbrev W_X6_move (E : Env0) (a_p0 : Nat) (a_p1 : Nat) (c_p0 : Nat → Int32) (c_p1 : Nat → Int32) : va_W := [(a_p0, .inl (eI E, 97, .inl c_p0)), (a_p1, .inl (eI E, 97, .inl c_p1))]
abbrev r_X6_move : Room := { frames := 0, cells := 0, slots := 0, locals := 0 }
theorem hd_X6_move : yX6_move.cls ≠ "java/lang/invoke/MethodHandle" ∧ yX6_move.cls ≠ "java/lang/invoke/VarHandle" ∧ (parseMethodDescriptor yX6_move.desc).map (fun d => d.parameters.length) = some 2 := by decide +kernel
section
variable {p : Program} {l : Launch} {e : Env} {s : State} {m : MethodId} {args : Array Value} {below : List Frame} {meth : Method} {c : Code} {E : Env0} {A : Nat → Prop}
set_option maxRecDepth 100000 in
set_option maxHeartbeats 4000000 in
theorem w_X6_move_b2 (X : Ctx p m meth c cX6_move 3 none s args wsX6_move RX6 E A) (a_p0 : Nat) (a_p1 : Nat) (c_p0 : Nat → Int32) (res : (Nat → Int32)) : ∀ (n : Nat) (c_p1 : Nat → Int32) (l2 : Int32) (ls : Array Slot) (H : Heap) (locs : List Loc), f_X6_move_b2 c_p0 n c_p1 l2 = some res → va_P E.1 vwCl (W_X6_move E a_p0 a_p1 c_p0 c_p1) H → va_D A (W_X6_move E a_p0 a_p1 c_p0 c_p1) → va_S A s.heap H locs → lv_has ls 3 [(0, .ref a_p0), (1, .ref a_p1), (2, .int l2)] → W p l e r_X6_move s m args below meth c H locs 0 0 (MQ below (qV E A (W_X6_move E a_p0 a_p1 c_p0 res)) args s 0 0 A) (F0 m 2 ls []) := by
  obtain ⟨hx, hb, hml, hr, hlk, hown, hts, hG, hA⟩ := id X
  have hK := hG.1
  have hN := hG.2.1
  intro n
  induction n with
  | zero =>
    intro c_p1 l2 ls H locs h
    exact absurd (show (none : Option ((Nat → Int32))) = some res from h) (by intro q; cases q)
  | succ n ih =>
    intro c_p1 l2 ls H locs h hP hD hS hl
    rw [f_X6_move_b2] at h
    refine lv_iload_n hx hb dX6_move_2 rfl (lv_at hl 2 rfl) ?_
    refine lv_bipush (v := (97 : Int32)) hx hb dX6_move_3 (by decide) ?_
    refine lv_icmp_ge (tgt := 20) hx hb dX6_move_5 (by decide) (fun hc5 => ?_) (fun hc5 => ?_)
    · have h := if_t h hc5
      obtain rfl := Option.some.inj h
      exact ret_v X dX6_move_20 hP hD hS
    · have h := if_f h hc5
      refine lv_aload_n hx hb dX6_move_8 rfl (lv_at hl 1 rfl) ?_
      refine lv_iload_n hx hb dX6_move_9 rfl (lv_at hl 2 rfl) ?_
      refine lv_aload_n hx hb dX6_move_10 rfl (lv_at hl 0 rfl) ?_
      refine lv_iload_n hx hb dX6_move_11 rfl (lv_at hl 2 rfl) ?_
      obtain ⟨hz12, h⟩ := chk_of h
      refine ld_i X hP 0 rfl (inb.vp hz12) (v := (c_p0 (l2).toNatClampNeg)) rfl dX6_move_12 ?_
      obtain ⟨hz13, h⟩ := chk_of h
      refine st_i X hP hD hS 1 rfl (inb.vp hz13) (k := (l2).toNatClampNeg) rfl (ws1 := (W_X6_move E a_p0 a_p1 c_p0 (upd c_p1 ((l2).toNatClampNeg) (c_p0 (l2).toNatClampNeg)))) rfl dX6_move_13 (fun H locs hP hD hS => ?_)
      refine lv_iinc (v := (l2 + (1 : Int32))) (lv' := [(2, .int (l2 + (1 : Int32))), (0, .ref a_p0), (1, .ref a_p1)]) hx hb dX6_move_14 hl (k := 2) rfl rfl (by decide) rfl (fun ls hl => ?_)
      refine lv_goto (tgt := 2) hx hb dX6_move_17 (by decide) ?_
      exact ih (upd c_p1 ((l2).toNatClampNeg) (c_p0 (l2).toNatClampNeg)) (l2 + (1 : Int32)) _ _ _ h hP hD hS (lv_sub hl [1, 2, 0] rfl)
set_option maxRecDepth 100000 in
set_option maxHeartbeats 4000000 in
theorem w_X6_move (X : Ctx p m meth c cX6_move 3 none s args wsX6_move RX6 E A) (a_p0 : Nat) (a_p1 : Nat) (c_p0 : Nat → Int32) (res : (Nat → Int32)) (c_p1 : Nat → Int32) (ls : Array Slot) (H : Heap) (locs : List Loc) (h : f_X6_move c_p0 c_p1 = some res) (hP : va_P E.1 vwCl (W_X6_move E a_p0 a_p1 c_p0 c_p1) H) (hD : va_D A (W_X6_move E a_p0 a_p1 c_p0 c_p1)) (hS : va_S A s.heap H locs) (hl : lv_has ls 3 [(0, .ref a_p0), (1, .ref a_p1)]) : W p l e r_X6_move s m args below meth c H locs 0 0 (MQ below (qV E A (W_X6_move E a_p0 a_p1 c_p0 res)) args s 0 0 A) (F0 m 0 ls []) := by
  obtain ⟨hx, hb, hml, hr, hlk, hown, hts, hG, hA⟩ := id X
  have hK := hG.1
  have hN := hG.2.1
  unfold f_X6_move at h
  refine lv_iconst (v := (0 : Int32)) hx hb dX6_move_0 (by decide) ?_
  refine lv_istore_n (lv' := [(2, .int (0 : Int32)), (0, .ref a_p0), (1, .ref a_p1)]) hx hb dX6_move_1 rfl hl (by decide) rfl (fun ls hl => ?_)
  exact w_X6_move_b2 X a_p0 a_p1 c_p0 res FU c_p1 (0 : Int32) _ _ _ h hP hD hS (lv_sub hl [1, 2, 0] rfl)
end
set_option maxRecDepth 100000 in
theorem c_X6_move (l : Launch) (E : Env0) (a_p0 : Nat) (a_p1 : Nat) (c_p0 : Nat → Int32) (c_p1 : Nat → Int32) (sz : Nat) (res : (Nat → Int32)) (h : f_X6_move c_p0 c_p1 = some res) : Met l yX6_move wsX6_move r_X6_move (cPre E [.ref a_p0, .ref a_p1] (W_X6_move E a_p0 a_p1 c_p0 c_p1) sz) (qV E (va_A (W_X6_move E a_p0 a_p1 c_p0 c_p1) sz) (W_X6_move E a_p0 a_p1 c_p0 res)) 0 0 (va_A (W_X6_move E a_p0 a_p1 c_p0 c_p1) sz) :=
  met_of (Qc := fun A => qV E A (W_X6_move E a_p0 a_p1 c_p0 res)) (by decide) rfl (Nat.le_of_ble_eq_true rfl) (fun p e s m args below meth c X hP hD hS ls hl => w_X6_move X a_p0 a_p1 c_p0 res c_p1 ls _ _ h hP hD hS hl)
-- ===== X6_many
abbrev W_X6_many (E : Env0) (a_t : Nat) (a_now : Nat) (a_refused : Nat) (a_kept : Nat) (a_mind : Nat) (a_tape : Nat) (a_words : Nat) (a_wCell : Nat) (a_wFaces : Nat) (a_wTurns : Nat) (a_wSign : Nat) (a_wBy : Nat) (a_wFell : Nat) (a_telling : Nat) (a_holds : Nat) (a_sizes : Nat) (a_elements : Nat) (a_moved : Nat) (a_above : Nat) (a_out : Nat) (a_first : Nat) (c_t : Nat → Int32) (c_now : Nat → Int32) : va_W := [(a_t, .inr (6, [.ref a_refused, .ref a_now, .ref a_kept, .ref a_mind, .int (c_t 4), .ref a_tape, .int (c_t 6), .int (c_t 7), .int (c_t 8), .int (c_t 9), .ref a_words, .ref a_wCell, .ref a_wFaces, .ref a_wTurns, .ref a_wSign, .ref a_wBy, .ref a_wFell, .int (c_t 17), .ref a_telling, .ref a_holds, .ref a_sizes, .ref a_elements, .ref a_moved, .ref a_above, .ref a_out, .ref a_first])), (a_now, .inl (eI E, 97, .inl c_now))]
abbrev r_X6_many : Room := { frames := 0, cells := 0, slots := 0, locals := 0 }
theorem hd_X6_many : yX6_many.cls ≠ "java/lang/invoke/MethodHandle" ∧ yX6_many.cls ≠ "java/lang/invoke/VarHandle" ∧ (parseMethodDescriptor yX6_many.desc).map (fun d => d.parameters.length) = some 0 := by decide +kernel
theorem hV_X6_many : yX6_many.cls = RX6 ∧ yX6_many.cls ≠ "java/lang/invoke/MethodHandle" ∧ yX6_many.cls ≠ "java/lang/invoke/VarHandle" ∧ (parseMethodDescriptor yX6_many.desc).map (fun d => d.parameters.length) = some 0 := ⟨rfl, hd_X6_many⟩
theorem iX6_many_X6 : ∀ w ∈ wsX60, w ∈ wsX6_many := fun _ h => List.mem_cons_of_mem _ (List.mem_append_right _ (h))
section
variable {p : Program} {l : Launch} {e : Env} {s : State} {m : MethodId} {args : Array Value} {below : List Frame} {meth : Method} {c : Code} {E : Env0} {A : Nat → Prop}
set_option maxRecDepth 100000 in
set_option maxHeartbeats 4000000 in
theorem w_X6_many (X : Ctx p m meth c cX6_many 1 ((some .int)) s args wsX6_many RX6 E A) (a_t : Nat) (a_now : Nat) (a_refused : Nat) (a_kept : Nat) (a_mind : Nat) (a_tape : Nat) (a_words : Nat) (a_wCell : Nat) (a_wFaces : Nat) (a_wTurns : Nat) (a_wSign : Nat) (a_wBy : Nat) (a_wFell : Nat) (a_telling : Nat) (a_holds : Nat) (a_sizes : Nat) (a_elements : Nat) (a_moved : Nat) (a_above : Nat) (a_out : Nat) (a_first : Nat) (c_t : Nat → Int32) (c_now : Nat → Int32) (res : Int32) (ls : Array Slot) (H : Heap) (locs : List Loc) (h : f_X6_many c_t c_now = some res) (hP : va_P E.1 vwCl (W_X6_many E a_t a_now a_refused a_kept a_mind a_tape a_words a_wCell a_wFaces a_wTurns a_wSign a_wBy a_wFell a_telling a_holds a_sizes a_elements a_moved a_above a_out a_first c_t c_now) H) (hD : va_D A (W_X6_many E a_t a_now a_refused a_kept a_mind a_tape a_words a_wCell a_wFaces a_wTurns a_wSign a_wBy a_wFell a_telling a_holds a_sizes a_elements a_moved a_above a_out a_first c_t c_now)) (hS : va_S A s.heap H locs) (hl : lv_has ls 1 [(0, .ref a_t)]) : W p l e r_X6_many s m args below meth c H locs 0 0 (MQ below (qI E A res (W_X6_many E a_t a_now a_refused a_kept a_mind a_tape a_words a_wCell a_wFaces a_wTurns a_wSign a_wBy a_wFell a_telling a_holds a_sizes a_elements a_moved a_above a_out a_first c_t c_now)) args s 0 0 A) (F0 m 0 ls []) := by
  obtain ⟨hx, hb, hml, hr, hlk, hown, hts, hG, hA⟩ := id X
  have hK := hG.1
  have hN := hG.2.1
  unfold f_X6_many at h
  refine lv_aload_n hx hb dX6_many_0 rfl (lv_at hl 0 rfl) ?_
  refine va_get (D := E.1) (ci := 6) (v := .ref a_now) (C := RX6) (T := TX6) (N := 26) hx hb hts iX6_many_X6 hown hK hP 0 rfl rfl 1 (by decide) (hts (.fieldLink RX6 17 "LeftIsAgreedOnModel" "now" "[I") (List.mem_of_getElem? (i := 1) rfl)) (fun _ h9 => h9) rfl dX6_many_1 ?_
  refine lv_bipush (v := (89 : Int32)) hx hb dX6_many_4 (by decide) ?_
  refine ld_i X hP 1 rfl (inb.vp (by decide)) (v := (c_now 89)) rfl dX6_many_6 ?_
  obtain rfl := Option.some.inj h
  exact ret_i X dX6_many_7 hP hD hS rfl
end
set_option maxRecDepth 100000 in
theorem c_X6_many (l : Launch) (E : Env0) (a_t : Nat) (a_now : Nat) (a_refused : Nat) (a_kept : Nat) (a_mind : Nat) (a_tape : Nat) (a_words : Nat) (a_wCell : Nat) (a_wFaces : Nat) (a_wTurns : Nat) (a_wSign : Nat) (a_wBy : Nat) (a_wFell : Nat) (a_telling : Nat) (a_holds : Nat) (a_sizes : Nat) (a_elements : Nat) (a_moved : Nat) (a_above : Nat) (a_out : Nat) (a_first : Nat) (c_t : Nat → Int32) (c_now : Nat → Int32) (sz : Nat) (res : Int32) (h : f_X6_many c_t c_now = some res) : Met l yX6_many wsX6_many r_X6_many (cPre E [.ref a_t] (W_X6_many E a_t a_now a_refused a_kept a_mind a_tape a_words a_wCell a_wFaces a_wTurns a_wSign a_wBy a_wFell a_telling a_holds a_sizes a_elements a_moved a_above a_out a_first c_t c_now) sz) (qI E (va_A (W_X6_many E a_t a_now a_refused a_kept a_mind a_tape a_words a_wCell a_wFaces a_wTurns a_wSign a_wBy a_wFell a_telling a_holds a_sizes a_elements a_moved a_above a_out a_first c_t c_now) sz) res (W_X6_many E a_t a_now a_refused a_kept a_mind a_tape a_words a_wCell a_wFaces a_wTurns a_wSign a_wBy a_wFell a_telling a_holds a_sizes a_elements a_moved a_above a_out a_first c_t c_now)) 0 0 (va_A (W_X6_many E a_t a_now a_refused a_kept a_mind a_tape a_words a_wCell a_wFaces a_wTurns a_wSign a_wBy a_wFell a_telling a_holds a_sizes a_elements a_moved a_above a_out a_first c_t c_now) sz) :=
  met_of (Qc := fun A => qI E A res (W_X6_many E a_t a_now a_refused a_kept a_mind a_tape a_words a_wCell a_wFaces a_wTurns a_wSign a_wBy a_wFell a_telling a_holds a_sizes a_elements a_moved a_above a_out a_first c_t c_now)) (by decide) rfl (Nat.le_of_ble_eq_true rfl) (fun p e s m args below meth c X hP hD hS ls hl => w_X6_many X a_t a_now a_refused a_kept a_mind a_tape a_words a_wCell a_wFaces a_wTurns a_wSign a_wBy a_wFell a_telling a_holds a_sizes a_elements a_moved a_above a_out a_first c_t c_now res ls _ _ h hP hD hS hl)
-- ===== X6_isPerson
abbrev W_X6_isPerson (E : Env0) (a_t : Nat) (a_now : Nat) (a_refused : Nat) (a_kept : Nat) (a_mind : Nat) (a_tape : Nat) (a_words : Nat) (a_wCell : Nat) (a_wFaces : Nat) (a_wTurns : Nat) (a_wSign : Nat) (a_wBy : Nat) (a_wFell : Nat) (a_telling : Nat) (a_holds : Nat) (a_sizes : Nat) (a_elements : Nat) (a_moved : Nat) (a_above : Nat) (a_out : Nat) (a_first : Nat) (c_t : Nat → Int32) (c_now : Nat → Int32) : va_W := [(a_t, .inr (6, [.ref a_refused, .ref a_now, .ref a_kept, .ref a_mind, .int (c_t 4), .ref a_tape, .int (c_t 6), .int (c_t 7), .int (c_t 8), .int (c_t 9), .ref a_words, .ref a_wCell, .ref a_wFaces, .ref a_wTurns, .ref a_wSign, .ref a_wBy, .ref a_wFell, .int (c_t 17), .ref a_telling, .ref a_holds, .ref a_sizes, .ref a_elements, .ref a_moved, .ref a_above, .ref a_out, .ref a_first])), (a_now, .inl (eI E, 97, .inl c_now))]
abbrev r_X6_isPerson : Room := { frames := 1, cells := 0, slots := 0, locals := 25 }
theorem hd_X6_isPerson : yX6_isPerson.cls ≠ "java/lang/invoke/MethodHandle" ∧ yX6_isPerson.cls ≠ "java/lang/invoke/VarHandle" ∧ (parseMethodDescriptor yX6_isPerson.desc).map (fun d => d.parameters.length) = some 1 := by decide +kernel
theorem hV_X6_isPerson : yX6_isPerson.cls = RX6 ∧ yX6_isPerson.cls ≠ "java/lang/invoke/MethodHandle" ∧ yX6_isPerson.cls ≠ "java/lang/invoke/VarHandle" ∧ (parseMethodDescriptor yX6_isPerson.desc).map (fun d => d.parameters.length) = some 1 := ⟨rfl, hd_X6_isPerson⟩
theorem iX6_isPerson_X6 : ∀ w ∈ wsX60, w ∈ wsX6_isPerson := fun _ h => List.mem_cons_of_mem _ (List.mem_append_right _ (h))
section
variable {p : Program} {l : Launch} {e : Env} {s : State} {m : MethodId} {args : Array Value} {below : List Frame} {meth : Method} {c : Code} {E : Env0} {A : Nat → Prop}
set_option maxRecDepth 100000 in
set_option maxHeartbeats 4000000 in
theorem w_X6_isPerson (X : Ctx p m meth c cX6_isPerson 2 ((some .boolean)) s args wsX6_isPerson RX6 E A) (a_t : Nat) (a_now : Nat) (a_refused : Nat) (a_kept : Nat) (a_mind : Nat) (a_tape : Nat) (a_words : Nat) (a_wCell : Nat) (a_wFaces : Nat) (a_wTurns : Nat) (a_wSign : Nat) (a_wBy : Nat) (a_wFell : Nat) (a_telling : Nat) (a_holds : Nat) (a_sizes : Nat) (a_elements : Nat) (a_moved : Nat) (a_above : Nat) (a_out : Nat) (a_first : Nat) (c_t : Nat → Int32) (c_now : Nat → Int32) (res : Int32) (l1 : Int32) (ls : Array Slot) (H : Heap) (locs : List Loc) (h : f_X6_isPerson l1 c_t c_now = some res) (hP : va_P E.1 vwCl (W_X6_isPerson E a_t a_now a_refused a_kept a_mind a_tape a_words a_wCell a_wFaces a_wTurns a_wSign a_wBy a_wFell a_telling a_holds a_sizes a_elements a_moved a_above a_out a_first c_t c_now) H) (hD : va_D A (W_X6_isPerson E a_t a_now a_refused a_kept a_mind a_tape a_words a_wCell a_wFaces a_wTurns a_wSign a_wBy a_wFell a_telling a_holds a_sizes a_elements a_moved a_above a_out a_first c_t c_now)) (hS : va_S A s.heap H locs) (hl : lv_has ls 2 [(0, .ref a_t), (1, .int l1)]) : W p l e r_X6_isPerson s m args below meth c H locs 0 0 (MQ below (qI E A res (W_X6_isPerson E a_t a_now a_refused a_kept a_mind a_tape a_words a_wCell a_wFaces a_wTurns a_wSign a_wBy a_wFell a_telling a_holds a_sizes a_elements a_moved a_above a_out a_first c_t c_now)) args s 0 0 A) (F0 m 0 ls []) := by
  obtain ⟨hx, hb, hml, hr, hlk, hown, hts, hG, hA⟩ := id X
  have hK := hG.1
  have hN := hG.2.1
  unfold f_X6_isPerson at h
  refine lv_iload_n hx hb dX6_isPerson_0 rfl (lv_at hl 1 rfl) ?_
  refine lv_i2l (v := (l1.toInt64)) hx hb dX6_isPerson_1 rfl ?_
  refine lv_lconst (v := (0 : Int64)) hx hb dX6_isPerson_2 (by decide) ?_
  refine lv_aload_n hx hb dX6_isPerson_3 rfl (lv_at hl 0 rfl) ?_
  refine va_get (D := E.1) (ci := 6) (v := .ref a_now) (C := RX6) (T := TX6) (N := 26) hx hb hts iX6_isPerson_X6 hown hK hP 0 rfl rfl 1 (by decide) (hts (.fieldLink RX6 17 "LeftIsAgreedOnModel" "now" "[I") (List.mem_of_getElem? (i := 1) rfl)) (fun _ h9 => h9) rfl dX6_isPerson_4 ?_
  refine lv_bipush (v := (89 : Int32)) hx hb dX6_isPerson_7 (by decide) ?_
  refine ld_i X hP 1 rfl (inb.vp (by decide)) (v := (c_now 89)) rfl dX6_isPerson_9 ?_
  refine lv_iconst (v := (1 : Int32)) hx hb dX6_isPerson_10 (by decide) ?_
  refine lv_isub hx hb dX6_isPerson_11 ?_
  refine lv_i2l (v := (((c_now 89) - (1 : Int32)).toInt64)) hx hb dX6_isPerson_12 rfl ?_
  obtain ⟨v1, hv1, h⟩ := bind_of h
  refine after_i X (run_S X (c_X6_isIn l E (l1.toInt64) (0 : Int64) (((c_now 89) - (1 : Int32)).toInt64) H.size v1 hv1) (va_cwS 3 hts gX6_isPerson_X6_isIn rfl rfl rfl hd_X6_isIn ⟨(Nat.le_of_ble_eq_true rfl), (Nat.le_of_ble_eq_true rfl)⟩) hP hD hS [] rfl rfl hl.1 (rest := []) rfl rfl (Nat.le_of_ble_eq_true rfl) dX6_isPerson_13) hP hD hS [] [0, 1] [0, 1] rfl rfl rfl (by decide) rfl (ws1 := (W_X6_isPerson E a_t a_now a_refused a_kept a_mind a_tape a_words a_wCell a_wFaces a_wTurns a_wSign a_wBy a_wFell a_telling a_holds a_sizes a_elements a_moved a_above a_out a_first c_t c_now)) rfl (fun H locs hP hD hS => ?_)
  obtain ⟨hz16, h⟩ := chk_of h
  obtain rfl := Option.some.inj h
  exact ret_z X dX6_isPerson_16 hz16 hP hD hS rfl
end
set_option maxRecDepth 100000 in
theorem c_X6_isPerson (l : Launch) (E : Env0) (a_t : Nat) (a_now : Nat) (a_refused : Nat) (a_kept : Nat) (a_mind : Nat) (a_tape : Nat) (a_words : Nat) (a_wCell : Nat) (a_wFaces : Nat) (a_wTurns : Nat) (a_wSign : Nat) (a_wBy : Nat) (a_wFell : Nat) (a_telling : Nat) (a_holds : Nat) (a_sizes : Nat) (a_elements : Nat) (a_moved : Nat) (a_above : Nat) (a_out : Nat) (a_first : Nat) (l1 : Int32) (c_t : Nat → Int32) (c_now : Nat → Int32) (sz : Nat) (res : Int32) (h : f_X6_isPerson l1 c_t c_now = some res) : Met l yX6_isPerson wsX6_isPerson r_X6_isPerson (cPre E [.ref a_t, .int l1] (W_X6_isPerson E a_t a_now a_refused a_kept a_mind a_tape a_words a_wCell a_wFaces a_wTurns a_wSign a_wBy a_wFell a_telling a_holds a_sizes a_elements a_moved a_above a_out a_first c_t c_now) sz) (qI E (va_A (W_X6_isPerson E a_t a_now a_refused a_kept a_mind a_tape a_words a_wCell a_wFaces a_wTurns a_wSign a_wBy a_wFell a_telling a_holds a_sizes a_elements a_moved a_above a_out a_first c_t c_now) sz) res (W_X6_isPerson E a_t a_now a_refused a_kept a_mind a_tape a_words a_wCell a_wFaces a_wTurns a_wSign a_wBy a_wFell a_telling a_holds a_sizes a_elements a_moved a_above a_out a_first c_t c_now)) 0 0 (va_A (W_X6_isPerson E a_t a_now a_refused a_kept a_mind a_tape a_words a_wCell a_wFaces a_wTurns a_wSign a_wBy a_wFell a_telling a_holds a_sizes a_elements a_moved a_above a_out a_first c_t c_now) sz) :=
  met_of (Qc := fun A => qI E A res (W_X6_isPerson E a_t a_now a_refused a_kept a_mind a_tape a_words a_wCell a_wFaces a_wTurns a_wSign a_wBy a_wFell a_telling a_holds a_sizes a_elements a_moved a_above a_out a_first c_t c_now)) (by decide) rfl (Nat.le_of_ble_eq_true rfl) (fun p e s m args below meth c X hP hD hS ls hl => w_X6_isPerson X a_t a_now a_refused a_kept a_mind a_tape a_words a_wCell a_wFaces a_wTurns a_wSign a_wBy a_wFell a_telling a_holds a_sizes a_elements a_moved a_above a_out a_first c_t c_now res l1 ls _ _ h hP hD hS hl)
-- ===== X6_kind
abbrev W_X6_kind (E : Env0) (a_t : Nat) (a_now : Nat) (a_refused : Nat) (a_kept : Nat) (a_mind : Nat) (a_tape : Nat) (a_words : Nat) (a_wCell : Nat) (a_wFaces : Nat) (a_wTurns : Nat) (a_wSign : Nat) (a_wBy : Nat) (a_wFell : Nat) (a_telling : Nat) (a_holds : Nat) (a_sizes : Nat) (a_elements : Nat) (a_moved : Nat) (a_above : Nat) (a_out : Nat) (a_first : Nat) (c_t : Nat → Int32) (c_now : Nat → Int32) : va_W := [(a_t, .inr (6, [.ref a_refused, .ref a_now, .ref a_kept, .ref a_mind, .int (c_t 4), .ref a_tape, .int (c_t 6), .int (c_t 7), .int (c_t 8), .int (c_t 9), .ref a_words, .ref a_wCell, .ref a_wFaces, .ref a_wTurns, .ref a_wSign, .ref a_wBy, .ref a_wFell, .int (c_t 17), .ref a_telling, .ref a_holds, .ref a_sizes, .ref a_elements, .ref a_moved, .ref a_above, .ref a_out, .ref a_first])), (a_now, .inl (eI E, 97, .inl c_now))]
abbrev r_X6_kind : Room := { frames := 0, cells := 0, slots := 0, locals := 0 }
theorem hd_X6_kind : yX6_kind.cls ≠ "java/lang/invoke/MethodHandle" ∧ yX6_kind.cls ≠ "java/lang/invoke/VarHandle" ∧ (parseMethodDescriptor yX6_kind.desc).map (fun d => d.parameters.length) = some 1 := by decide +kernel
theorem hV_X6_kind : yX6_kind.cls = RX6 ∧ yX6_kind.cls ≠ "java/lang/invoke/MethodHandle" ∧ yX6_kind.cls ≠ "java/lang/invoke/VarHandle" ∧ (parseMethodDescriptor yX6_kind.desc).map (fun d => d.parameters.length) = some 1 := ⟨rfl, hd_X6_kind⟩
theorem iX6_kind_X6 : ∀ w ∈ wsX60, w ∈ wsX6_kind := fun _ h => List.mem_cons_of_mem _ (List.mem_append_right _ (h))
section
variable {p : Program} {l : Launch} {e : Env} {s : State} {m : MethodId} {args : Array Value} {below : List Frame} {meth : Method} {c : Code} {E : Env0} {A : Nat → Prop}
set_option maxRecDepth 100000 in
set_option maxHeartbeats 4000000 in
theorem w_X6_kind (X : Ctx p m meth c cX6_kind 2 ((some .int)) s args wsX6_kind RX6 E A) (a_t : Nat) (a_now : Nat) (a_refused : Nat) (a_kept : Nat) (a_mind : Nat) (a_tape : Nat) (a_words : Nat) (a_wCell : Nat) (a_wFaces : Nat) (a_wTurns : Nat) (a_wSign : Nat) (a_wBy : Nat) (a_wFell : Nat) (a_telling : Nat) (a_holds : Nat) (a_sizes : Nat) (a_elements : Nat) (a_moved : Nat) (a_above : Nat) (a_out : Nat) (a_first : Nat) (c_t : Nat → Int32) (c_now : Nat → Int32) (res : Int32) (l1 : Int32) (ls : Array Slot) (H : Heap) (locs : List Loc) (h : f_X6_kind l1 c_t c_now = some res) (hP : va_P E.1 vwCl (W_X6_kind E a_t a_now a_refused a_kept a_mind a_tape a_words a_wCell a_wFaces a_wTurns a_wSign a_wBy a_wFell a_telling a_holds a_sizes a_elements a_moved a_above a_out a_first c_t c_now) H) (hD : va_D A (W_X6_kind E a_t a_now a_refused a_kept a_mind a_tape a_words a_wCell a_wFaces a_wTurns a_wSign a_wBy a_wFell a_telling a_holds a_sizes a_elements a_moved a_above a_out a_first c_t c_now)) (hS : va_S A s.heap H locs) (hl : lv_has ls 2 [(0, .ref a_t), (1, .int l1)]) : W p l e r_X6_kind s m args below meth c H locs 0 0 (MQ below (qI E A res (W_X6_kind E a_t a_now a_refused a_kept a_mind a_tape a_words a_wCell a_wFaces a_wTurns a_wSign a_wBy a_wFell a_telling a_holds a_sizes a_elements a_moved a_above a_out a_first c_t c_now)) args s 0 0 A) (F0 m 0 ls []) := by
  obtain ⟨hx, hb, hml, hr, hlk, hown, hts, hG, hA⟩ := id X
  have hK := hG.1
  have hN := hG.2.1
  unfold f_X6_kind at h
  refine lv_aload_n hx hb dX6_kind_0 rfl (lv_at hl 0 rfl) ?_
  refine va_get (D := E.1) (ci := 6) (v := .ref a_now) (C := RX6) (T := TX6) (N := 26) hx hb hts iX6_kind_X6 hown hK hP 0 rfl rfl 1 (by decide) (hts (.fieldLink RX6 17 "LeftIsAgreedOnModel" "now" "[I") (List.mem_of_getElem? (i := 1) rfl)) (fun _ h9 => h9) rfl dX6_kind_1 ?_
  refine lv_iconst (v := (5 : Int32)) hx hb dX6_kind_4 (by decide) ?_
  refine lv_iload_n hx hb dX6_kind_5 rfl (lv_at hl 1 rfl) ?_
  refine lv_imul hx hb dX6_kind_6 ?_
  obtain ⟨hz7, h⟩ := chk_of h
  refine ld_i X hP 1 rfl (inb.vp hz7) (v := (c_now (((5 : Int32) * l1)).toNatClampNeg)) rfl dX6_kind_7 ?_
  obtain rfl := Option.some.inj h
  exact ret_i X dX6_kind_8 hP hD hS rfl
end
set_option maxRecDepth 100000 in
theorem c_X6_kind (l : Launch) (E : Env0) (a_t : Nat) (a_now : Nat) (a_refused : Nat) (a_kept : Nat) (a_mind : Nat) (a_tape : Nat) (a_words : Nat) (a_wCell : Nat) (a_wFaces : Nat) (a_wTurns : Nat) (a_wSign : Nat) (a_wBy : Nat) (a_wFell : Nat) (a_telling : Nat) (a_holds : Nat) (a_sizes : Nat) (a_elements : Nat) (a_moved : Nat) (a_above : Nat) (a_out : Nat) (a_first : Nat) (l1 : Int32) (c_t : Nat → Int32) (c_now : Nat → Int32) (sz : Nat) (res : Int32) (h : f_X6_kind l1 c_t c_now = some res) : Met l yX6_kind wsX6_kind r_X6_kind (cPre E [.ref a_t, .int l1] (W_X6_kind E a_t a_now a_refused a_kept a_mind a_tape a_words a_wCell a_wFaces a_wTurns a_wSign a_wBy a_wFell a_telling a_holds a_sizes a_elements a_moved a_above a_out a_first c_t c_now) sz) (qI E (va_A (W_X6_kind E a_t a_now a_refused a_kept a_mind a_tape a_words a_wCell a_wFaces a_wTurns a_wSign a_wBy a_wFell a_telling a_holds a_sizes a_elements a_moved a_above a_out a_first c_t c_now) sz) res (W_X6_kind E a_t a_now a_refused a_kept a_mind a_tape a_words a_wCell a_wFaces a_wTurns a_wSign a_wBy a_wFell a_telling a_holds a_sizes a_elements a_moved a_above a_out a_first c_t c_now)) 0 0 (va_A (W_X6_kind E a_t a_now a_refused a_kept a_mind a_tape a_words a_wCell a_wFaces a_wTurns a_wSign a_wBy a_wFell a_telling a_holds a_sizes a_elements a_moved a_above a_out a_first c_t c_now) sz) :=
  met_of (Qc := fun A => qI E A res (W_X6_kind E a_t a_now a_refused a_kept a_mind a_tape a_words a_wCell a_wFaces a_wTurns a_wSign a_wBy a_wFell a_telling a_holds a_sizes a_elements a_moved a_above a_out a_first c_t c_now)) (by decide) rfl (Nat.le_of_ble_eq_true rfl) (fun p e s m args below meth c X hP hD hS ls hl => w_X6_kind X a_t a_now a_refused a_kept a_mind a_tape a_words a_wCell a_wFaces a_wTurns a_wSign a_wBy a_wFell a_telling a_holds a_sizes a_elements a_moved a_above a_out a_first c_t c_now res l1 ls _ _ h hP hD hS hl)
-- ===== X6_a
abbrev W_X6_a (E : Env0) (a_t : Nat) (a_now : Nat) (a_refused : Nat) (a_kept : Nat) (a_mind : Nat) (a_tape : Nat) (a_words : Nat) (a_wCell : Nat) (a_wFaces : Nat) (a_wTurns : Nat) (a_wSign : Nat) (a_wBy : Nat) (a_wFell : Nat) (a_telling : Nat) (a_holds : Nat) (a_sizes : Nat) (a_elements : Nat) (a_moved : Nat) (a_above : Nat) (a_out : Nat) (a_first : Nat) (c_t : Nat → Int32) (c_now : Nat → Int32) : va_W := [(a_t, .inr (6, [.ref a_refused, .ref a_now, .ref a_kept, .ref a_mind, .int (c_t 4), .ref a_tape, .int (c_t 6), .int (c_t 7), .int (c_t 8), .int (c_t 9), .ref a_words, .ref a_wCell, .ref a_wFaces, .ref a_wTurns, .ref a_wSign, .ref a_wBy, .ref a_wFell, .int (c_t 17), .ref a_telling, .ref a_holds, .ref a_sizes, .ref a_elements, .ref a_moved, .ref a_above, .ref a_out, .ref a_first])), (a_now, .inl (eI E, 97, .inl c_now))]
abbrev r_X6_a : Room := { frames := 0, cells := 0, slots := 0, locals := 0 }
theorem hd_X6_a : yX6_a.cls ≠ "java/lang/invoke/MethodHandle" ∧ yX6_a.cls ≠ "java/lang/invoke/VarHandle" ∧ (parseMethodDescriptor yX6_a.desc).map (fun d => d.parameters.length) = some 1 := by decide +kernel
theorem hV_X6_a : yX6_a.cls = RX6 ∧ yX6_a.cls ≠ "java/lang/invoke/MethodHandle" ∧ yX6_a.cls ≠ "java/lang/invoke/VarHandle" ∧ (parseMethodDescriptor yX6_a.desc).map (fun d => d.parameters.length) = some 1 := ⟨rfl, hd_X6_a⟩
theorem iX6_a_X6 : ∀ w ∈ wsX60, w ∈ wsX6_a := fun _ h => List.mem_cons_of_mem _ (List.mem_append_right _ (h))
section
variable {p : Program} {l : Launch} {e : Env} {s : State} {m : MethodId} {args : Array Value} {below : List Frame} {meth : Method} {c : Code} {E : Env0} {A : Nat → Prop}
set_option maxRecDepth 100000 in
set_option maxHeartbeats 4000000 in
theorem w_X6_a (X : Ctx p m meth c cX6_a 2 ((some .int)) s args wsX6_a RX6 E A) (a_t : Nat) (a_now : Nat) (a_refused : Nat) (a_kept : Nat) (a_mind : Nat) (a_tape : Nat) (a_words : Nat) (a_wCell : Nat) (a_wFaces : Nat) (a_wTurns : Nat) (a_wSign : Nat) (a_wBy : Nat) (a_wFell : Nat) (a_telling : Nat) (a_holds : Nat) (a_sizes : Nat) (a_elements : Nat) (a_moved : Nat) (a_above : Nat) (a_out : Nat) (a_first : Nat) (c_t : Nat → Int32) (c_now : Nat → Int32) (res : Int32) (l1 : Int32) (ls : Array Slot) (H : Heap) (locs : List Loc) (h : f_X6_a l1 c_t c_now = some res) (hP : va_P E.1 vwCl (W_X6_a E a_t a_now a_refused a_kept a_mind a_tape a_words a_wCell a_wFaces a_wTurns a_wSign a_wBy a_wFell a_telling a_holds a_sizes a_elements a_moved a_above a_out a_first c_t c_now) H) (hD : va_D A (W_X6_a E a_t a_now a_refused a_kept a_mind a_tape a_words a_wCell a_wFaces a_wTurns a_wSign a_wBy a_wFell a_telling a_holds a_sizes a_elements a_moved a_above a_out a_first c_t c_now)) (hS : va_S A s.heap H locs) (hl : lv_has ls 2 [(0, .ref a_t), (1, .int l1)]) : W p l e r_X6_a s m args below meth c H locs 0 0 (MQ below (qI E A res (W_X6_a E a_t a_now a_refused a_kept a_mind a_tape a_words a_wCell a_wFaces a_wTurns a_wSign a_wBy a_wFell a_telling a_holds a_sizes a_elements a_moved a_above a_out a_first c_t c_now)) args s 0 0 A) (F0 m 0 ls []) := by
  obtain ⟨hx, hb, hml, hr, hlk, hown, hts, hG, hA⟩ := id X
  have hK := hG.1
  have hN := hG.2.1
  unfold f_X6_a at h
  refine lv_aload_n hx hb dX6_a_0 rfl (lv_at hl 0 rfl) ?_
  refine va_get (D := E.1) (ci := 6) (v := .ref a_now) (C := RX6) (T := TX6) (N := 26) hx hb hts iX6_a_X6 hown hK hP 0 rfl rfl 1 (by decide) (hts (.fieldLink RX6 17 "LeftIsAgreedOnModel" "now" "[I") (List.mem_of_getElem? (i := 1) rfl)) (fun _ h9 => h9) rfl dX6_a_1 ?_
  refine lv_iconst (v := (5 : Int32)) hx hb dX6_a_4 (by decide) ?_
  refine lv_iload_n hx hb dX6_a_5 rfl (lv_at hl 1 rfl) ?_
  refine lv_imul hx hb dX6_a_6 ?_
  refine lv_iconst (v := (1 : Int32)) hx hb dX6_a_7 (by decide) ?_
  refine lv_iadd hx hb dX6_a_8 ?_
  obtain ⟨hz9, h⟩ := chk_of h
  refine ld_i X hP 1 rfl (inb.vp hz9) (v := (c_now ((((5 : Int32) * l1) + (1 : Int32))).toNatClampNeg)) rfl dX6_a_9 ?_
  obtain rfl := Option.some.inj h
  exact ret_i X dX6_a_10 hP hD hS rfl
end
set_option maxRecDepth 100000 in
theorem c_X6_a (l : Launch) (E : Env0) (a_t : Nat) (a_now : Nat) (a_refused : Nat) (a_kept : Nat) (a_mind : Nat) (a_tape : Nat) (a_words : Nat) (a_wCell : Nat) (a_wFaces : Nat) (a_wTurns : Nat) (a_wSign : Nat) (a_wBy : Nat) (a_wFell : Nat) (a_telling : Nat) (a_holds : Nat) (a_sizes : Nat) (a_elements : Nat) (a_moved : Nat) (a_above : Nat) (a_out : Nat) (a_first : Nat) (l1 : Int32) (c_t : Nat → Int32) (c_now : Nat → Int32) (sz : Nat) (res : Int32) (h : f_X6_a l1 c_t c_now = some res) : Met l yX6_a wsX6_a r_X6_a (cPre E [.ref a_t, .int l1] (W_X6_a E a_t a_now a_refused a_kept a_mind a_tape a_words a_wCell a_wFaces a_wTurns a_wSign a_wBy a_wFell a_telling a_holds a_sizes a_elements a_moved a_above a_out a_first c_t c_now) sz) (qI E (va_A (W_X6_a E a_t a_now a_refused a_kept a_mind a_tape a_words a_wCell a_wFaces a_wTurns a_wSign a_wBy a_wFell a_telling a_holds a_sizes a_elements a_moved a_above a_out a_first c_t c_now) sz) res (W_X6_a E a_t a_now a_refused a_kept a_mind a_tape a_words a_wCell a_wFaces a_wTurns a_wSign a_wBy a_wFell a_telling a_holds a_sizes a_elements a_moved a_above a_out a_first c_t c_now)) 0 0 (va_A (W_X6_a E a_t a_now a_refused a_kept a_mind a_tape a_words a_wCell a_wFaces a_wTurns a_wSign a_wBy a_wFell a_telling a_holds a_sizes a_elements a_moved a_above a_out a_first c_t c_now) sz) :=
  met_of (Qc := fun A => qI E A res (W_X6_a E a_t a_now a_refused a_kept a_mind a_tape a_words a_wCell a_wFaces a_wTurns a_wSign a_wBy a_wFell a_telling a_holds a_sizes a_elements a_moved a_above a_out a_first c_t c_now)) (by decide) rfl (Nat.le_of_ble_eq_true rfl) (fun p e s m args below meth c X hP hD hS ls hl => w_X6_a X a_t a_now a_refused a_kept a_mind a_tape a_words a_wCell a_wFaces a_wTurns a_wSign a_wBy a_wFell a_telling a_holds a_sizes a_elements a_moved a_above a_out a_first c_t c_now res l1 ls _ _ h hP hD hS hl)
-- ===== X6_cell
abbrev W_X6_cell (E : Env0) (a_t : Nat) (a_now : Nat) (a_refused : Nat) (a_kept : Nat) (a_mind : Nat) (a_tape : Nat) (a_words : Nat) (a_wCell : Nat) (a_wFaces : Nat) (a_wTurns : Nat) (a_wSign : Nat) (a_wBy : Nat) (a_wFell : Nat) (a_telling : Nat) (a_holds : Nat) (a_sizes : Nat) (a_elements : Nat) (a_moved : Nat) (a_above : Nat) (a_out : Nat) (a_first : Nat) (c_t : Nat → Int32) (c_now : Nat → Int32) : va_W := [(a_t, .inr (6, [.ref a_refused, .ref a_now, .ref a_kept, .ref a_mind, .int (c_t 4), .ref a_tape, .int (c_t 6), .int (c_t 7), .int (c_t 8), .int (c_t 9), .ref a_words, .ref a_wCell, .ref a_wFaces, .ref a_wTurns, .ref a_wSign, .ref a_wBy, .ref a_wFell, .int (c_t 17), .ref a_telling, .ref a_holds, .ref a_sizes, .ref a_elements, .ref a_moved, .ref a_above, .ref a_out, .ref a_first])), (a_now, .inl (eI E, 97, .inl c_now))]
abbrev r_X6_cell : Room := { frames := 0, cells := 0, slots := 0, locals := 0 }
theorem hd_X6_cell : yX6_cell.cls ≠ "java/lang/invoke/MethodHandle" ∧ yX6_cell.cls ≠ "java/lang/invoke/VarHandle" ∧ (parseMethodDescriptor yX6_cell.desc).map (fun d => d.parameters.length) = some 1 := by decide +kernel
theorem hV_X6_cell : yX6_cell.cls = RX6 ∧ yX6_cell.cls ≠ "java/lang/invoke/MethodHandle" ∧ yX6_cell.cls ≠ "java/lang/invoke/VarHandle" ∧ (parseMethodDescriptor yX6_cell.desc).map (fun d => d.parameters.length) = some 1 := ⟨rfl, hd_X6_cell⟩
theorem iX6_cell_X6 : ∀ w ∈ wsX60, w ∈ wsX6_cell := fun _ h => List.mem_cons_of_mem _ (List.mem_append_right _ (h))
section
variable {p : Program} {l : Launch} {e : Env} {s : State} {m : MethodId} {args : Array Value} {below : List Frame} {meth : Method} {c : Code} {E : Env0} {A : Nat → Prop}
set_option maxRecDepth 100000 in
set_option maxHeartbeats 4000000 in
theorem w_X6_cell (X : Ctx p m meth c cX6_cell 2 ((some .int)) s args wsX6_cell RX6 E A) (a_t : Nat) (a_now : Nat) (a_refused : Nat) (a_kept : Nat) (a_mind : Nat) (a_tape : Nat) (a_words : Nat) (a_wCell : Nat) (a_wFaces : Nat) (a_wTurns : Nat) (a_wSign : Nat) (a_wBy : Nat) (a_wFell : Nat) (a_telling : Nat) (a_holds : Nat) (a_sizes : Nat) (a_elements : Nat) (a_moved : Nat) (a_above : Nat) (a_out : Nat) (a_first : Nat) (c_t : Nat → Int32) (c_now : Nat → Int32) (res : Int32) (l1 : Int32) (ls : Array Slot) (H : Heap) (locs : List Loc) (h : f_X6_cell l1 c_t c_now = some res) (hP : va_P E.1 vwCl (W_X6_cell E a_t a_now a_refused a_kept a_mind a_tape a_words a_wCell a_wFaces a_wTurns a_wSign a_wBy a_wFell a_telling a_holds a_sizes a_elements a_moved a_above a_out a_first c_t c_now) H) (hD : va_D A (W_X6_cell E a_t a_now a_refused a_kept a_mind a_tape a_words a_wCell a_wFaces a_wTurns a_wSign a_wBy a_wFell a_telling a_holds a_sizes a_elements a_moved a_above a_out a_first c_t c_now)) (hS : va_S A s.heap H locs) (hl : lv_has ls 2 [(0, .ref a_t), (1, .int l1)]) : W p l e r_X6_cell s m args below meth c H locs 0 0 (MQ below (qI E A res (W_X6_cell E a_t a_now a_refused a_kept a_mind a_tape a_words a_wCell a_wFaces a_wTurns a_wSign a_wBy a_wFell a_telling a_holds a_sizes a_elements a_moved a_above a_out a_first c_t c_now)) args s 0 0 A) (F0 m 0 ls []) := by
  obtain ⟨hx, hb, hml, hr, hlk, hown, hts, hG, hA⟩ := id X
  have hK := hG.1
  have hN := hG.2.1
  unfold f_X6_cell at h
  refine lv_aload_n hx hb dX6_cell_0 rfl (lv_at hl 0 rfl) ?_
  refine va_get (D := E.1) (ci := 6) (v := .ref a_now) (C := RX6) (T := TX6) (N := 26) hx hb hts iX6_cell_X6 hown hK hP 0 rfl rfl 1 (by decide) (hts (.fieldLink RX6 17 "LeftIsAgreedOnModel" "now" "[I") (List.mem_of_getElem? (i := 1) rfl)) (fun _ h9 => h9) rfl dX6_cell_1 ?_
  refine lv_iconst (v := (5 : Int32)) hx hb dX6_cell_4 (by decide) ?_
  refine lv_iload_n hx hb dX6_cell_5 rfl (lv_at hl 1 rfl) ?_
  refine lv_imul hx hb dX6_cell_6 ?_
  refine lv_iconst (v := (2 : Int32)) hx hb dX6_cell_7 (by decide) ?_
  refine lv_iadd hx hb dX6_cell_8 ?_
  obtain ⟨hz9, h⟩ := chk_of h
  refine ld_i X hP 1 rfl (inb.vp hz9) (v := (c_now ((((5 : Int32) * l1) + (2 : Int32))).toNatClampNeg)) rfl dX6_cell_9 ?_
  obtain rfl := Option.some.inj h
  exact ret_i X dX6_cell_10 hP hD hS rfl
end
set_option maxRecDepth 100000 in
theorem c_X6_cell (l : Launch) (E : Env0) (a_t : Nat) (a_now : Nat) (a_refused : Nat) (a_kept : Nat) (a_mind : Nat) (a_tape : Nat) (a_words : Nat) (a_wCell : Nat) (a_wFaces : Nat) (a_wTurns : Nat) (a_wSign : Nat) (a_wBy : Nat) (a_wFell : Nat) (a_telling : Nat) (a_holds : Nat) (a_sizes : Nat) (a_elements : Nat) (a_moved : Nat) (a_above : Nat) (a_out : Nat) (a_first : Nat) (l1 : Int32) (c_t : Nat → Int32) (c_now : Nat → Int32) (sz : Nat) (res : Int32) (h : f_X6_cell l1 c_t c_now = some res) : Met l yX6_cell wsX6_cell r_X6_cell (cPre E [.ref a_t, .int l1] (W_X6_cell E a_t a_now a_refused a_kept a_mind a_tape a_words a_wCell a_wFaces a_wTurns a_wSign a_wBy a_wFell a_telling a_holds a_sizes a_elements a_moved a_above a_out a_first c_t c_now) sz) (qI E (va_A (W_X6_cell E a_t a_now a_refused a_kept a_mind a_tape a_words a_wCell a_wFaces a_wTurns a_wSign a_wBy a_wFell a_telling a_holds a_sizes a_elements a_moved a_above a_out a_first c_t c_now) sz) res (W_X6_cell E a_t a_now a_refused a_kept a_mind a_tape a_words a_wCell a_wFaces a_wTurns a_wSign a_wBy a_wFell a_telling a_holds a_sizes a_elements a_moved a_above a_out a_first c_t c_now)) 0 0 (va_A (W_X6_cell E a_t a_now a_refused a_kept a_mind a_tape a_words a_wCell a_wFaces a_wTurns a_wSign a_wBy a_wFell a_telling a_holds a_sizes a_elements a_moved a_above a_out a_first c_t c_now) sz) :=
  met_of (Qc := fun A => qI E A res (W_X6_cell E a_t a_now a_refused a_kept a_mind a_tape a_words a_wCell a_wFaces a_wTurns a_wSign a_wBy a_wFell a_telling a_holds a_sizes a_elements a_moved a_above a_out a_first c_t c_now)) (by decide) rfl (Nat.le_of_ble_eq_true rfl) (fun p e s m args below meth c X hP hD hS ls hl => w_X6_cell X a_t a_now a_refused a_kept a_mind a_tape a_words a_wCell a_wFaces a_wTurns a_wSign a_wBy a_wFell a_telling a_holds a_sizes a_elements a_moved a_above a_out a_first c_t c_now res l1 ls _ _ h hP hD hS hl)
-- ===== X6_faces
abbrev W_X6_faces (E : Env0) (a_t : Nat) (a_now : Nat) (a_refused : Nat) (a_kept : Nat) (a_mind : Nat) (a_tape : Nat) (a_words : Nat) (a_wCell : Nat) (a_wFaces : Nat) (a_wTurns : Nat) (a_wSign : Nat) (a_wBy : Nat) (a_wFell : Nat) (a_telling : Nat) (a_holds : Nat) (a_sizes : Nat) (a_elements : Nat) (a_moved : Nat) (a_above : Nat) (a_out : Nat) (a_first : Nat) (c_t : Nat → Int32) (c_now : Nat → Int32) : va_W := [(a_t, .inr (6, [.ref a_refused, .ref a_now, .ref a_kept, .ref a_mind, .int (c_t 4), .ref a_tape, .int (c_t 6), .int (c_t 7), .int (c_t 8), .int (c_t 9), .ref a_words, .ref a_wCell, .ref a_wFaces, .ref a_wTurns, .ref a_wSign, .ref a_wBy, .ref a_wFell, .int (c_t 17), .ref a_telling, .ref a_holds, .ref a_sizes, .ref a_elements, .ref a_moved, .ref a_above, .ref a_out, .ref a_first])), (a_now, .inl (eI E, 97, .inl c_now))]
abbrev r_X6_faces : Room := { frames := 0, cells := 0, slots := 0, locals := 0 }
theorem hd_X6_faces : yX6_faces.cls ≠ "java/lang/invoke/MethodHandle" ∧ yX6_faces.cls ≠ "java/lang/invoke/VarHandle" ∧ (parseMethodDescriptor yX6_faces.desc).map (fun d => d.parameters.length) = some 1 := by decide +kernel
theorem hV_X6_faces : yX6_faces.cls = RX6 ∧ yX6_faces.cls ≠ "java/lang/invoke/MethodHandle" ∧ yX6_faces.cls ≠ "java/lang/invoke/VarHandle" ∧ (parseMethodDescriptor yX6_faces.desc).map (fun d => d.parameters.length) = some 1 := ⟨rfl, hd_X6_faces⟩
theorem iX6_faces_X6 : ∀ w ∈ wsX60, w ∈ wsX6_faces := fun _ h => List.mem_cons_of_mem _ (List.mem_append_right _ (h))
section
variable {p : Program} {l : Launch} {e : Env} {s : State} {m : MethodId} {args : Array Value} {below : List Frame} {meth : Method} {c : Code} {E : Env0} {A : Nat → Prop}
set_option maxRecDepth 100000 in
set_option maxHeartbeats 4000000 in
theorem w_X6_faces (X : Ctx p m meth c cX6_faces 2 ((some .int)) s args wsX6_faces RX6 E A) (a_t : Nat) (a_now : Nat) (a_refused : Nat) (a_kept : Nat) (a_mind : Nat) (a_tape : Nat) (a_words : Nat) (a_wCell : Nat) (a_wFaces : Nat) (a_wTurns : Nat) (a_wSign : Nat) (a_wBy : Nat) (a_wFell : Nat) (a_telling : Nat) (a_holds : Nat) (a_sizes : Nat) (a_elements : Nat) (a_moved : Nat) (a_above : Nat) (a_out : Nat) (a_first : Nat) (c_t : Nat → Int32) (c_now : Nat → Int32) (res : Int32) (l1 : Int32) (ls : Array Slot) (H : Heap) (locs : List Loc) (h : f_X6_faces l1 c_t c_now = some res) (hP : va_P E.1 vwCl (W_X6_faces E a_t a_now a_refused a_kept a_mind a_tape a_words a_wCell a_wFaces a_wTurns a_wSign a_wBy a_wFell a_telling a_holds a_sizes a_elements a_moved a_above a_out a_first c_t c_now) H) (hD : va_D A (W_X6_faces E a_t a_now a_refused a_kept a_mind a_tape a_words a_wCell a_wFaces a_wTurns a_wSign a_wBy a_wFell a_telling a_holds a_sizes a_elements a_moved a_above a_out a_first c_t c_now)) (hS : va_S A s.heap H locs) (hl : lv_has ls 2 [(0, .ref a_t), (1, .int l1)]) : W p l e r_X6_faces s m args below meth c H locs 0 0 (MQ below (qI E A res (W_X6_faces E a_t a_now a_refused a_kept a_mind a_tape a_words a_wCell a_wFaces a_wTurns a_wSign a_wBy a_wFell a_telling a_holds a_sizes a_elements a_moved a_above a_out a_first c_t c_now)) args s 0 0 A) (F0 m 0 ls []) := by
  obtain ⟨hx, hb, hml, hr, hlk, hown, hts, hG, hA⟩ := id X
  have hK := hG.1
  have hN := hG.2.1
  unfold f_X6_faces at h
  refine lv_aload_n hx hb dX6_faces_0 rfl (lv_at hl 0 rfl) ?_
  refine va_get (D := E.1) (ci := 6) (v := .ref a_now) (C := RX6) (T := TX6) (N := 26) hx hb hts iX6_faces_X6 hown hK hP 0 rfl rfl 1 (by decide) (hts (.fieldLink RX6 17 "LeftIsAgreedOnModel" "now" "[I") (List.mem_of_getElem? (i := 1) rfl)) (fun _ h9 => h9) rfl dX6_faces_1 ?_
  refine lv_iconst (v := (5 : Int32)) hx hb dX6_faces_4 (by decide) ?_
  refine lv_iload_n hx hb dX6_faces_5 rfl (lv_at hl 1 rfl) ?_
  refine lv_imul hx hb dX6_faces_6 ?_
  refine lv_iconst (v := (3 : Int32)) hx hb dX6_faces_7 (by decide) ?_
  refine lv_iadd hx hb dX6_faces_8 ?_
  obtain ⟨hz9, h⟩ := chk_of h
  refine ld_i X hP 1 rfl (inb.vp hz9) (v := (c_now ((((5 : Int32) * l1) + (3 : Int32))).toNatClampNeg)) rfl dX6_faces_9 ?_
  obtain rfl := Option.some.inj h
  exact ret_i X dX6_faces_10 hP hD hS rfl
end
set_option maxRecDepth 100000 in
theorem c_X6_faces (l : Launch) (E : Env0) (a_t : Nat) (a_now : Nat) (a_refused : Nat) (a_kept : Nat) (a_mind : Nat) (a_tape : Nat) (a_words : Nat) (a_wCell : Nat) (a_wFaces : Nat) (a_wTurns : Nat) (a_wSign : Nat) (a_wBy : Nat) (a_wFell : Nat) (a_telling : Nat) (a_holds : Nat) (a_sizes : Nat) (a_elements : Nat) (a_moved : Nat) (a_above : Nat) (a_out : Nat) (a_first : Nat) (l1 : Int32) (c_t : Nat → Int32) (c_now : Nat → Int32) (sz : Nat) (res : Int32) (h : f_X6_faces l1 c_t c_now = some res) : Met l yX6_faces wsX6_faces r_X6_faces (cPre E [.ref a_t, .int l1] (W_X6_faces E a_t a_now a_refused a_kept a_mind a_tape a_words a_wCell a_wFaces a_wTurns a_wSign a_wBy a_wFell a_telling a_holds a_sizes a_elements a_moved a_above a_out a_first c_t c_now) sz) (qI E (va_A (W_X6_faces E a_t a_now a_refused a_kept a_mind a_tape a_words a_wCell a_wFaces a_wTurns a_wSign a_wBy a_wFell a_telling a_holds a_sizes a_elements a_moved a_above a_out a_first c_t c_now) sz) res (W_X6_faces E a_t a_now a_refused a_kept a_mind a_tape a_words a_wCell a_wFaces a_wTurns a_wSign a_wBy a_wFell a_telling a_holds a_sizes a_elements a_moved a_above a_out a_first c_t c_now)) 0 0 (va_A (W_X6_faces E a_t a_now a_refused a_kept a_mind a_tape a_words a_wCell a_wFaces a_wTurns a_wSign a_wBy a_wFell a_telling a_holds a_sizes a_elements a_moved a_above a_out a_first c_t c_now) sz) :=
  met_of (Qc := fun A => qI E A res (W_X6_faces E a_t a_now a_refused a_kept a_mind a_tape a_words a_wCell a_wFaces a_wTurns a_wSign a_wBy a_wFell a_telling a_holds a_sizes a_elements a_moved a_above a_out a_first c_t c_now)) (by decide) rfl (Nat.le_of_ble_eq_true rfl) (fun p e s m args below meth c X hP hD hS ls hl => w_X6_faces X a_t a_now a_refused a_kept a_mind a_tape a_words a_wCell a_wFaces a_wTurns a_wSign a_wBy a_wFell a_telling a_holds a_sizes a_elements a_moved a_above a_out a_first c_t c_now res l1 ls _ _ h hP hD hS hl)
-- ===== X6_isFor
abbrev W_X6_isFor (E : Env0) (a_t : Nat) (a_now : Nat) (a_refused : Nat) (a_kept : Nat) (a_mind : Nat) (a_tape : Nat) (a_words : Nat) (a_wCell : Nat) (a_wFaces : Nat) (a_wTurns : Nat) (a_wSign : Nat) (a_wBy : Nat) (a_wFell : Nat) (a_telling : Nat) (a_holds : Nat) (a_sizes : Nat) (a_elements : Nat) (a_moved : Nat) (a_above : Nat) (a_out : Nat) (a_first : Nat) (c_t : Nat → Int32) (c_now : Nat → Int32) : va_W := [(a_t, .inr (6, [.ref a_refused, .ref a_now, .ref a_kept, .ref a_mind, .int (c_t 4), .ref a_tape, .int (c_t 6), .int (c_t 7), .int (c_t 8), .int (c_t 9), .ref a_words, .ref a_wCell, .ref a_wFaces, .ref a_wTurns, .ref a_wSign, .ref a_wBy, .ref a_wFell, .int (c_t 17), .ref a_telling, .ref a_holds, .ref a_sizes, .ref a_elements, .ref a_moved, .ref a_above, .ref a_out, .ref a_first])), (a_now, .inl (eI E, 97, .inl c_now))]
abbrev r_X6_isFor : Room := { frames := 0, cells := 0, slots := 0, locals := 0 }
theorem hd_X6_isFor : yX6_isFor.cls ≠ "java/lang/invoke/MethodHandle" ∧ yX6_isFor.cls ≠ "java/lang/invoke/VarHandle" ∧ (parseMethodDescriptor yX6_isFor.desc).map (fun d => d.parameters.length) = some 1 := by decide +kernel
theorem hV_X6_isFor : yX6_isFor.cls = RX6 ∧ yX6_isFor.cls ≠ "java/lang/invoke/MethodHandle" ∧ yX6_isFor.cls ≠ "java/lang/invoke/VarHandle" ∧ (parseMethodDescriptor yX6_isFor.desc).map (fun d => d.parameters.length) = some 1 := ⟨rfl, hd_X6_isFor⟩
theorem iX6_isFor_X6 : ∀ w ∈ wsX60, w ∈ wsX6_isFor := fun _ h => List.mem_cons_of_mem _ (List.mem_append_right _ (h))
section
variable {p : Program} {l : Launch} {e : Env} {s : State} {m : MethodId} {args : Array Value} {below : List Frame} {meth : Method} {c : Code} {E : Env0} {A : Nat → Prop}
set_option maxRecDepth 100000 in
set_option maxHeartbeats 4000000 in
theorem w_X6_isFor (X : Ctx p m meth c cX6_isFor 2 ((some .int)) s args wsX6_isFor RX6 E A) (a_t : Nat) (a_now : Nat) (a_refused : Nat) (a_kept : Nat) (a_mind : Nat) (a_tape : Nat) (a_words : Nat) (a_wCell : Nat) (a_wFaces : Nat) (a_wTurns : Nat) (a_wSign : Nat) (a_wBy : Nat) (a_wFell : Nat) (a_telling : Nat) (a_holds : Nat) (a_sizes : Nat) (a_elements : Nat) (a_moved : Nat) (a_above : Nat) (a_out : Nat) (a_first : Nat) (c_t : Nat → Int32) (c_now : Nat → Int32) (res : Int32) (l1 : Int32) (ls : Array Slot) (H : Heap) (locs : List Loc) (h : f_X6_isFor l1 c_t c_now = some res) (hP : va_P E.1 vwCl (W_X6_isFor E a_t a_now a_refused a_kept a_mind a_tape a_words a_wCell a_wFaces a_wTurns a_wSign a_wBy a_wFell a_telling a_holds a_sizes a_elements a_moved a_above a_out a_first c_t c_now) H) (hD : va_D A (W_X6_isFor E a_t a_now a_refused a_kept a_mind a_tape a_words a_wCell a_wFaces a_wTurns a_wSign a_wBy a_wFell a_telling a_holds a_sizes a_elements a_moved a_above a_out a_first c_t c_now)) (hS : va_S A s.heap H locs) (hl : lv_has ls 2 [(0, .ref a_t), (1, .int l1)]) : W p l e r_X6_isFor s m args below meth c H locs 0 0 (MQ below (qI E A res (W_X6_isFor E a_t a_now a_refused a_kept a_mind a_tape a_words a_wCell a_wFaces a_wTurns a_wSign a_wBy a_wFell a_telling a_holds a_sizes a_elements a_moved a_above a_out a_first c_t c_now)) args s 0 0 A) (F0 m 0 ls []) := by
  obtain ⟨hx, hb, hml, hr, hlk, hown, hts, hG, hA⟩ := id X
  have hK := hG.1
  have hN := hG.2.1
  unfold f_X6_isFor at h
  refine lv_aload_n hx hb dX6_isFor_0 rfl (lv_at hl 0 rfl) ?_
  refine va_get (D := E.1) (ci := 6) (v := .ref a_now) (C := RX6) (T := TX6) (N := 26) hx hb hts iX6_isFor_X6 hown hK hP 0 rfl rfl 1 (by decide) (hts (.fieldLink RX6 17 "LeftIsAgreedOnModel" "now" "[I") (List.mem_of_getElem? (i := 1) rfl)) (fun _ h9 => h9) rfl dX6_isFor_1 ?_
  refine lv_iconst (v := (5 : Int32)) hx hb dX6_isFor_4 (by decide) ?_
  refine lv_iload_n hx hb dX6_isFor_5 rfl (lv_at hl 1 rfl) ?_
  refine lv_imul hx hb dX6_isFor_6 ?_
  refine lv_iconst (v := (4 : Int32)) hx hb dX6_isFor_7 (by decide) ?_
  refine lv_iadd hx hb dX6_isFor_8 ?_
  obtain ⟨hz9, h⟩ := chk_of h
  refine ld_i X hP 1 rfl (inb.vp hz9) (v := (c_now ((((5 : Int32) * l1) + (4 : Int32))).toNatClampNeg)) rfl dX6_isFor_9 ?_
  obtain rfl := Option.some.inj h
  exact ret_i X dX6_isFor_10 hP hD hS rfl
end
set_option maxRecDepth 100000 in
theorem c_X6_isFor (l : Launch) (E : Env0) (a_t : Nat) (a_now : Nat) (a_refused : Nat) (a_kept : Nat) (a_mind : Nat) (a_tape : Nat) (a_words : Nat) (a_wCell : Nat) (a_wFaces : Nat) (a_wTurns : Nat) (a_wSign : Nat) (a_wBy : Nat) (a_wFell : Nat) (a_telling : Nat) (a_holds : Nat) (a_sizes : Nat) (a_elements : Nat) (a_moved : Nat) (a_above : Nat) (a_out : Nat) (a_first : Nat) (l1 : Int32) (c_t : Nat → Int32) (c_now : Nat → Int32) (sz : Nat) (res : Int32) (h : f_X6_isFor l1 c_t c_now = some res) : Met l yX6_isFor wsX6_isFor r_X6_isFor (cPre E [.ref a_t, .int l1] (W_X6_isFor E a_t a_now a_refused a_kept a_mind a_tape a_words a_wCell a_wFaces a_wTurns a_wSign a_wBy a_wFell a_telling a_holds a_sizes a_elements a_moved a_above a_out a_first c_t c_now) sz) (qI E (va_A (W_X6_isFor E a_t a_now a_refused a_kept a_mind a_tape a_words a_wCell a_wFaces a_wTurns a_wSign a_wBy a_wFell a_telling a_holds a_sizes a_elements a_moved a_above a_out a_first c_t c_now) sz) res (W_X6_isFor E a_t a_now a_refused a_kept a_mind a_tape a_words a_wCell a_wFaces a_wTurns a_wSign a_wBy a_wFell a_telling a_holds a_sizes a_elements a_moved a_above a_out a_first c_t c_now)) 0 0 (va_A (W_X6_isFor E a_t a_now a_refused a_kept a_mind a_tape a_words a_wCell a_wFaces a_wTurns a_wSign a_wBy a_wFell a_telling a_holds a_sizes a_elements a_moved a_above a_out a_first c_t c_now) sz) :=
  met_of (Qc := fun A => qI E A res (W_X6_isFor E a_t a_now a_refused a_kept a_mind a_tape a_words a_wCell a_wFaces a_wTurns a_wSign a_wBy a_wFell a_telling a_holds a_sizes a_elements a_moved a_above a_out a_first c_t c_now)) (by decide) rfl (Nat.le_of_ble_eq_true rfl) (fun p e s m args below meth c X hP hD hS ls hl => w_X6_isFor X a_t a_now a_refused a_kept a_mind a_tape a_words a_wCell a_wFaces a_wTurns a_wSign a_wBy a_wFell a_telling a_holds a_sizes a_elements a_moved a_above a_out a_first c_t c_now res l1 ls _ _ h hP hD hS hl)
-- ===== X6_isCell
abbrev W_X6_isCell (E : Env0) (a_t : Nat) (a_now : Nat) (a_refused : Nat) (a_kept : Nat) (a_mind : Nat) (a_tape : Nat) (a_words : Nat) (a_wCell : Nat) (a_wFaces : Nat) (a_wTurns : Nat) (a_wSign : Nat) (a_wBy : Nat) (a_wFell : Nat) (a_telling : Nat) (a_holds : Nat) (a_sizes : Nat) (a_elements : Nat) (a_moved : Nat) (a_above : Nat) (a_out : Nat) (a_first : Nat) (c_t : Nat → Int32) (c_now : Nat → Int32) : va_W := [(a_t, .inr (6, [.ref a_refused, .ref a_now, .ref a_kept, .ref a_mind, .int (c_t 4), .ref a_tape, .int (c_t 6), .int (c_t 7), .int (c_t 8), .int (c_t 9), .ref a_words, .ref a_wCell, .ref a_wFaces, .ref a_wTurns, .ref a_wSign, .ref a_wBy, .ref a_wFell, .int (c_t 17), .ref a_telling, .ref a_holds, .ref a_sizes, .ref a_elements, .ref a_moved, .ref a_above, .ref a_out, .ref a_first])), (a_now, .inl (eI E, 97, .inl c_now))]
abbrev r_X6_isCell : Room := { frames := 0, cells := 0, slots := 0, locals := 0 }
theorem hd_X6_isCell : yX6_isCell.cls ≠ "java/lang/invoke/MethodHandle" ∧ yX6_isCell.cls ≠ "java/lang/invoke/VarHandle" ∧ (parseMethodDescriptor yX6_isCell.desc).map (fun d => d.parameters.length) = some 1 := by decide +kernel
theorem hV_X6_isCell : yX6_isCell.cls = RX6 ∧ yX6_isCell.cls ≠ "java/lang/invoke/MethodHandle" ∧ yX6_isCell.cls ≠ "java/lang/invoke/VarHandle" ∧ (parseMethodDescriptor yX6_isCell.desc).map (fun d => d.parameters.length) = some 1 := ⟨rfl, hd_X6_isCell⟩
theorem iX6_isCell_X6 : ∀ w ∈ wsX60, w ∈ wsX6_isCell := fun _ h => List.mem_cons_of_mem _ (List.mem_append_right _ (h))
section
variable {p : Program} {l : Launch} {e : Env} {s : State} {m : MethodId} {args : Array Value} {below : List Frame} {meth : Method} {c : Code} {E : Env0} {A : Nat → Prop}
set_option maxRecDepth 100000 in
set_option maxHeartbeats 4000000 in
theorem w_X6_isCell (X : Ctx p m meth c cX6_isCell 2 ((some .boolean)) s args wsX6_isCell RX6 E A) (a_t : Nat) (a_now : Nat) (a_refused : Nat) (a_kept : Nat) (a_mind : Nat) (a_tape : Nat) (a_words : Nat) (a_wCell : Nat) (a_wFaces : Nat) (a_wTurns : Nat) (a_wSign : Nat) (a_wBy : Nat) (a_wFell : Nat) (a_telling : Nat) (a_holds : Nat) (a_sizes : Nat) (a_elements : Nat) (a_moved : Nat) (a_above : Nat) (a_out : Nat) (a_first : Nat) (c_t : Nat → Int32) (c_now : Nat → Int32) (res : Int32) (l1 : Int32) (ls : Array Slot) (H : Heap) (locs : List Loc) (h : f_X6_isCell l1 c_t c_now = some res) (hP : va_P E.1 vwCl (W_X6_isCell E a_t a_now a_refused a_kept a_mind a_tape a_words a_wCell a_wFaces a_wTurns a_wSign a_wBy a_wFell a_telling a_holds a_sizes a_elements a_moved a_above a_out a_first c_t c_now) H) (hD : va_D A (W_X6_isCell E a_t a_now a_refused a_kept a_mind a_tape a_words a_wCell a_wFaces a_wTurns a_wSign a_wBy a_wFell a_telling a_holds a_sizes a_elements a_moved a_above a_out a_first c_t c_now)) (hS : va_S A s.heap H locs) (hl : lv_has ls 2 [(0, .ref a_t), (1, .int l1)]) : W p l e r_X6_isCell s m args below meth c H locs 0 0 (MQ below (qI E A res (W_X6_isCell E a_t a_now a_refused a_kept a_mind a_tape a_words a_wCell a_wFaces a_wTurns a_wSign a_wBy a_wFell a_telling a_holds a_sizes a_elements a_moved a_above a_out a_first c_t c_now)) args s 0 0 A) (F0 m 0 ls []) := by
  obtain ⟨hx, hb, hml, hr, hlk, hown, hts, hG, hA⟩ := id X
  have hK := hG.1
  have hN := hG.2.1
  unfold f_X6_isCell at h
  refine lv_iload_n hx hb dX6_isCell_0 rfl (lv_at hl 1 rfl) ?_
  refine lv_if_lt (tgt := 36) hx hb dX6_isCell_1 (by decide) (fun hc1 => ?_) (fun hc1 => ?_)
  · have h := if_t h hc1
    refine lv_iconst (v := (0 : Int32)) hx hb dX6_isCell_36 (by decide) ?_
    obtain rfl := Option.some.inj h
    exact ret_z X dX6_isCell_37 (by decide) hP hD hS rfl
  · have h := if_f h hc1
    refine lv_iload_n hx hb dX6_isCell_4 rfl (lv_at hl 1 rfl) ?_
    refine lv_bipush (v := (10 : Int32)) hx hb dX6_isCell_5 (by decide) ?_
    refine lv_idiv hx hb dX6_isCell_7 (by decide) ?_
    refine lv_aload_n hx hb dX6_isCell_8 rfl (lv_at hl 0 rfl) ?_
    refine va_get (D := E.1) (ci := 6) (v := .ref a_now) (C := RX6) (T := TX6) (N := 26) hx hb hts iX6_isCell_X6 hown hK hP 0 rfl rfl 1 (by decide) (hts (.fieldLink RX6 17 "LeftIsAgreedOnModel" "now" "[I") (List.mem_of_getElem? (i := 1) rfl)) (fun _ h9 => h9) rfl dX6_isCell_9 ?_
    refine lv_bipush (v := (90 : Int32)) hx hb dX6_isCell_12 (by decide) ?_
    refine ld_i X hP 1 rfl (inb.vp (by decide)) (v := (c_now 90)) rfl dX6_isCell_14 ?_
    refine lv_icmp_ge (tgt := 36) hx hb dX6_isCell_15 (by decide) (fun hc15 => ?_) (fun hc15 => ?_)
    · have h := if_t h hc15
      refine lv_iconst (v := (0 : Int32)) hx hb dX6_isCell_36 (by decide) ?_
      obtain rfl := Option.some.inj h
      exact ret_z X dX6_isCell_37 (by decide) hP hD hS rfl
    · have h := if_f h hc15
      refine lv_iload_n hx hb dX6_isCell_18 rfl (lv_at hl 1 rfl) ?_
      refine lv_bipush (v := (10 : Int32)) hx hb dX6_isCell_19 (by decide) ?_
      refine lv_irem hx hb dX6_isCell_21 (by decide) ?_
      refine lv_aload_n hx hb dX6_isCell_22 rfl (lv_at hl 0 rfl) ?_
      refine va_get (D := E.1) (ci := 6) (v := .ref a_now) (C := RX6) (T := TX6) (N := 26) hx hb hts iX6_isCell_X6 hown hK hP 0 rfl rfl 1 (by decide) (hts (.fieldLink RX6 17 "LeftIsAgreedOnModel" "now" "[I") (List.mem_of_getElem? (i := 1) rfl)) (fun _ h9 => h9) rfl dX6_isCell_23 ?_
      refine lv_bipush (v := (90 : Int32)) hx hb dX6_isCell_26 (by decide) ?_
      refine ld_i X hP 1 rfl (inb.vp (by decide)) (v := (c_now 90)) rfl dX6_isCell_28 ?_
      refine lv_icmp_ge (tgt := 36) hx hb dX6_isCell_29 (by decide) (fun hc29 => ?_) (fun hc29 => ?_)
      · have h := if_t h hc29
        refine lv_iconst (v := (0 : Int32)) hx hb dX6_isCell_36 (by decide) ?_
        obtain rfl := Option.some.inj h
        exact ret_z X dX6_isCell_37 (by decide) hP hD hS rfl
      · have h := if_f h hc29
        refine lv_iconst (v := (1 : Int32)) hx hb dX6_isCell_32 (by decide) ?_
        refine lv_goto (tgt := 37) hx hb dX6_isCell_33 (by decide) ?_
        obtain rfl := Option.some.inj h
        exact ret_z X dX6_isCell_37 (by decide) hP hD hS rfl
end
set_option maxRecDepth 100000 in
theorem c_X6_isCell (l : Launch) (E : Env0) (a_t : Nat) (a_now : Nat) (a_refused : Nat) (a_kept : Nat) (a_mind : Nat) (a_tape : Nat) (a_words : Nat) (a_wCell : Nat) (a_wFaces : Nat) (a_wTurns : Nat) (a_wSign : Nat) (a_wBy : Nat) (a_wFell : Nat) (a_telling : Nat) (a_holds : Nat) (a_sizes : Nat) (a_elements : Nat) (a_moved : Nat) (a_above : Nat) (a_out : Nat) (a_first : Nat) (l1 : Int32) (c_t : Nat → Int32) (c_now : Nat → Int32) (sz : Nat) (res : Int32) (h : f_X6_isCell l1 c_t c_now = some res) : Met l yX6_isCell wsX6_isCell r_X6_isCell (cPre E [.ref a_t, .int l1] (W_X6_isCell E a_t a_now a_refused a_kept a_mind a_tape a_words a_wCell a_wFaces a_wTurns a_wSign a_wBy a_wFell a_telling a_holds a_sizes a_elements a_moved a_above a_out a_first c_t c_now) sz) (qI E (va_A (W_X6_isCell E a_t a_now a_refused a_kept a_mind a_tape a_words a_wCell a_wFaces a_wTurns a_wSign a_wBy a_wFell a_telling a_holds a_sizes a_elements a_moved a_above a_out a_first c_t c_now) sz) res (W_X6_isCell E a_t a_now a_refused a_kept a_mind a_tape a_words a_wCell a_wFaces a_wTurns a_wSign a_wBy a_wFell a_telling a_holds a_sizes a_elements a_moved a_above a_out a_first c_t c_now)) 0 0 (va_A (W_X6_isCell E a_t a_now a_refused a_kept a_mind a_tape a_words a_wCell a_wFaces a_wTurns a_wSign a_wBy a_wFell a_telling a_holds a_sizes a_elements a_moved a_above a_out a_first c_t c_now) sz) :=
  met_of (Qc := fun A => qI E A res (W_X6_isCell E a_t a_now a_refused a_kept a_mind a_tape a_words a_wCell a_wFaces a_wTurns a_wSign a_wBy a_wFell a_telling a_holds a_sizes a_elements a_moved a_above a_out a_first c_t c_now)) (by decide) rfl (Nat.le_of_ble_eq_true rfl) (fun p e s m args below meth c X hP hD hS ls hl => w_X6_isCell X a_t a_now a_refused a_kept a_mind a_tape a_words a_wCell a_wFaces a_wTurns a_wSign a_wBy a_wFell a_telling a_holds a_sizes a_elements a_moved a_above a_out a_first c_t c_now res l1 ls _ _ h hP hD hS hl)
-- ===== X6_pondAt
abbrev W_X6_pondAt (E : Env0) : va_W := []
abbrev r_X6_pondAt : Room := { frames := 0, cells := 0, slots := 0, locals := 0 }
theorem hd_X6_pondAt : yX6_pondAt.cls ≠ "java/lang/invoke/MethodHandle" ∧ yX6_pondAt.cls ≠ "java/lang/invoke/VarHandle" ∧ (parseMethodDescriptor yX6_pondAt.desc).map (fun d => d.parameters.length) = some 1 := by decide +kernel
section
variable {p : Program} {l : Launch} {e : Env} {s : State} {m : MethodId} {args : Array Value} {below : List Frame} {meth : Method} {c : Code} {E : Env0} {A : Nat → Prop}
set_option maxRecDepth 100000 in
set_option maxHeartbeats 4000000 in
theorem w_X6_pondAt (X : Ctx p m meth c cX6_pondAt 1 ((some .int)) s args wsX6_pondAt RX6 E A) (res : Int32) (l0 : Int32) (ls : Array Slot) (H : Heap) (locs : List Loc) (h : f_X6_pondAt l0 = some res) (hP : va_P E.1 vwCl (W_X6_pondAt E) H) (hD : va_D A (W_X6_pondAt E)) (hS : va_S A s.heap H locs) (hl : lv_has ls 1 [(0, .int l0)]) : W p l e r_X6_pondAt s m args below meth c H locs 0 0 (MQ below (qI E A res (W_X6_pondAt E)) args s 0 0 A) (F0 m 0 ls []) := by
  obtain ⟨hx, hb, hml, hr, hlk, hown, hts, hG, hA⟩ := id X
  have hK := hG.1
  have hN := hG.2.1
  unfold f_X6_pondAt at h
  refine lv_bipush (v := (40 : Int32)) hx hb dX6_pondAt_0 (by decide) ?_
  refine lv_bipush (v := (7 : Int32)) hx hb dX6_pondAt_2 (by decide) ?_
  refine lv_iload_n hx hb dX6_pondAt_4 rfl (lv_at hl 0 rfl) ?_
  refine lv_bipush (v := (10 : Int32)) hx hb dX6_pondAt_5 (by decide) ?_
  refine lv_idiv hx hb dX6_pondAt_7 (by decide) ?_
  refine lv_imul hx hb dX6_pondAt_8 ?_
  refine lv_iadd hx hb dX6_pondAt_9 ?_
  refine lv_iload_n hx hb dX6_pondAt_10 rfl (lv_at hl 0 rfl) ?_
  refine lv_bipush (v := (10 : Int32)) hx hb dX6_pondAt_11 (by decide) ?_
  refine lv_irem hx hb dX6_pondAt_13 (by decide) ?_
  refine lv_iadd hx hb dX6_pondAt_14 ?_
  obtain rfl := Option.some.inj h
  exact ret_i X dX6_pondAt_15 hP hD hS rfl
end
set_option maxRecDepth 100000 in
theorem c_X6_pondAt (l : Launch) (E : Env0) (l0 : Int32) (sz : Nat) (res : Int32) (h : f_X6_pondAt l0 = some res) : Met l yX6_pondAt wsX6_pondAt r_X6_pondAt (cPre E [.int l0] (W_X6_pondAt E) sz) (qI E (va_A (W_X6_pondAt E) sz) res (W_X6_pondAt E)) 0 0 (va_A (W_X6_pondAt E) sz) :=
  met_of (Qc := fun A => qI E A res (W_X6_pondAt E)) (by decide) rfl (Nat.le_of_ble_eq_true rfl) (fun p e s m args below meth c X hP hD hS ls hl => w_X6_pondAt X res l0 ls _ _ h hP hD hS hl)
-- ===== X6_hasPond
abbrev W_X6_hasPond (E : Env0) (a_t : Nat) (a_now : Nat) (a_refused : Nat) (a_kept : Nat) (a_mind : Nat) (a_tape : Nat) (a_words : Nat) (a_wCell : Nat) (a_wFaces : Nat) (a_wTurns : Nat) (a_wSign : Nat) (a_wBy : Nat) (a_wFell : Nat) (a_telling : Nat) (a_holds : Nat) (a_sizes : Nat) (a_elements : Nat) (a_moved : Nat) (a_above : Nat) (a_out : Nat) (a_first : Nat) (c_t : Nat → Int32) (c_now : Nat → Int32) : va_W := [(a_t, .inr (6, [.ref a_refused, .ref a_now, .ref a_kept, .ref a_mind, .int (c_t 4), .ref a_tape, .int (c_t 6), .int (c_t 7), .int (c_t 8), .int (c_t 9), .ref a_words, .ref a_wCell, .ref a_wFaces, .ref a_wTurns, .ref a_wSign, .ref a_wBy, .ref a_wFell, .int (c_t 17), .ref a_telling, .ref a_holds, .ref a_sizes, .ref a_elements, .ref a_moved, .ref a_above, .ref a_out, .ref a_first])), (a_now, .inl (eI E, 97, .inl c_now))]
abbrev r_X6_hasPond : Room := { frames := 1, cells := 0, slots := 0, locals := 20 }
theorem hd_X6_hasPond : yX6_hasPond.cls ≠ "java/lang/invoke/MethodHandle" ∧ yX6_hasPond.cls ≠ "java/lang/invoke/VarHandle" ∧ (parseMethodDescriptor yX6_hasPond.desc).map (fun d => d.parameters.length) = some 1 := by decide +kernel
theorem hV_X6_hasPond : yX6_hasPond.cls = RX6 ∧ yX6_hasPond.cls ≠ "java/lang/invoke/MethodHandle" ∧ yX6_hasPond.cls ≠ "java/lang/invoke/VarHandle" ∧ (parseMethodDescriptor yX6_hasPond.desc).map (fun d => d.parameters.length) = some 1 := ⟨rfl, hd_X6_hasPond⟩
theorem iX6_hasPond_X6 : ∀ w ∈ wsX60, w ∈ wsX6_hasPond := fun _ h => List.mem_cons_of_mem _ (List.mem_append_right _ (h))
section
variable {p : Program} {l : Launch} {e : Env} {s : State} {m : MethodId} {args : Array Value} {below : List Frame} {meth : Method} {c : Code} {E : Env0} {A : Nat → Prop}
set_option maxRecDepth 100000 in
set_option maxHeartbeats 4000000 in
theorem w_X6_hasPond (X : Ctx p m meth c cX6_hasPond 2 ((some .boolean)) s args wsX6_hasPond RX6 E A) (a_t : Nat) (a_now : Nat) (a_refused : Nat) (a_kept : Nat) (a_mind : Nat) (a_tape : Nat) (a_words : Nat) (a_wCell : Nat) (a_wFaces : Nat) (a_wTurns : Nat) (a_wSign : Nat) (a_wBy : Nat) (a_wFell : Nat) (a_telling : Nat) (a_holds : Nat) (a_sizes : Nat) (a_elements : Nat) (a_moved : Nat) (a_above : Nat) (a_out : Nat) (a_first : Nat) (c_t : Nat → Int32) (c_now : Nat → Int32) (res : Int32) (l1 : Int32) (ls : Array Slot) (H : Heap) (locs : List Loc) (h : f_X6_hasPond l1 c_t c_now = some res) (hP : va_P E.1 vwCl (W_X6_hasPond E a_t a_now a_refused a_kept a_mind a_tape a_words a_wCell a_wFaces a_wTurns a_wSign a_wBy a_wFell a_telling a_holds a_sizes a_elements a_moved a_above a_out a_first c_t c_now) H) (hD : va_D A (W_X6_hasPond E a_t a_now a_refused a_kept a_mind a_tape a_words a_wCell a_wFaces a_wTurns a_wSign a_wBy a_wFell a_telling a_holds a_sizes a_elements a_moved a_above a_out a_first c_t c_now)) (hS : va_S A s.heap H locs) (hl : lv_has ls 2 [(0, .ref a_t), (1, .int l1)]) : W p l e r_X6_hasPond s m args below meth c H locs 0 0 (MQ below (qI E A res (W_X6_hasPond E a_t a_now a_refused a_kept a_mind a_tape a_words a_wCell a_wFaces a_wTurns a_wSign a_wBy a_wFell a_telling a_holds a_sizes a_elements a_moved a_above a_out a_first c_t c_now)) args s 0 0 A) (F0 m 0 ls []) := by
  obtain ⟨hx, hb, hml, hr, hlk, hown, hts, hG, hA⟩ := id X
  have hK := hG.1
  have hN := hG.2.1
  unfold f_X6_hasPond at h
  refine lv_aload_n hx hb dX6_hasPond_0 rfl (lv_at hl 0 rfl) ?_
  refine va_get (D := E.1) (ci := 6) (v := .ref a_now) (C := RX6) (T := TX6) (N := 26) hx hb hts iX6_hasPond_X6 hown hK hP 0 rfl rfl 1 (by decide) (hts (.fieldLink RX6 17 "LeftIsAgreedOnModel" "now" "[I") (List.mem_of_getElem? (i := 1) rfl)) (fun _ h9 => h9) rfl dX6_hasPond_1 ?_
  refine lv_iload_n hx hb dX6_hasPond_4 rfl (lv_at hl 1 rfl) ?_
  obtain ⟨v1, hv1, h⟩ := bind_of h
  refine after_i X (run_S X (c_X6_pondAt l E l1 H.size v1 hv1) (va_cwS 1 hts gX6_hasPond_X6_pondAt rfl rfl rfl hd_X6_pondAt ⟨(Nat.le_of_ble_eq_true rfl), (Nat.le_of_ble_eq_true rfl)⟩) hP hD hS [] rfl rfl hl.1 (rest := [.ref a_now]) rfl rfl (Nat.le_of_ble_eq_true rfl) dX6_hasPond_5) hP hD hS [] [0, 1] [0, 1] rfl rfl rfl (by decide) rfl (ws1 := (W_X6_hasPond E a_t a_now a_refused a_kept a_mind a_tape a_words a_wCell a_wFaces a_wTurns a_wSign a_wBy a_wFell a_telling a_holds a_sizes a_elements a_moved a_above a_out a_first c_t c_now)) rfl (fun H locs hP hD hS => ?_)
  obtain ⟨hz8, h⟩ := chk_of h
  refine ld_i X hP 1 rfl (inb.vp hz8) (v := (c_now (v1).toNatClampNeg)) rfl dX6_hasPond_8 ?_
  refine lv_iconst (v := (1 : Int32)) hx hb dX6_hasPond_9 (by decide) ?_
  refine lv_icmp_ne (tgt := 17) hx hb dX6_hasPond_10 (by decide) (fun hc10 => ?_) (fun hc10 => ?_)
  · have h := if_f h hc10
    refine lv_iconst (v := (0 : Int32)) hx hb dX6_hasPond_17 (by decide) ?_
    obtain rfl := Option.some.inj h
    exact ret_z X dX6_hasPond_18 (by decide) hP hD hS rfl
  · have h := if_t h hc10
    refine lv_iconst (v := (1 : Int32)) hx hb dX6_hasPond_13 (by decide) ?_
    refine lv_goto (tgt := 18) hx hb dX6_hasPond_14 (by decide) ?_
    obtain rfl := Option.some.inj h
    exact ret_z X dX6_hasPond_18 (by decide) hP hD hS rfl
end
set_option maxRecDepth 100000 in
theorem c_X6_hasPond (l : Launch) (E : Env0) (a_t : Nat) (a_now : Nat) (a_refused : Nat) (a_kept : Nat) (a_mind : Nat) (a_tape : Nat) (a_words : Nat) (a_wCell : Nat) (a_wFaces : Nat) (a_wTurns : Nat) (a_wSign : Nat) (a_wBy : Nat) (a_wFell : Nat) (a_telling : Nat) (a_holds : Nat) (a_sizes : Nat) (a_elements : Nat) (a_moved : Nat) (a_above : Nat) (a_out : Nat) (a_first : Nat) (l1 : Int32) (c_t : Nat → Int32) (c_now : Nat → Int32) (sz : Nat) (res : Int32) (h : f_X6_hasPond l1 c_t c_now = some res) : Met l yX6_hasPond wsX6_hasPond r_X6_hasPond (cPre E [.ref a_t, .int l1] (W_X6_hasPond E a_t a_now a_refused a_kept a_mind a_tape a_words a_wCell a_wFaces a_wTurns a_wSign a_wBy a_wFell a_telling a_holds a_sizes a_elements a_moved a_above a_out a_first c_t c_now) sz) (qI E (va_A (W_X6_hasPond E a_t a_now a_refused a_kept a_mind a_tape a_words a_wCell a_wFaces a_wTurns a_wSign a_wBy a_wFell a_telling a_holds a_sizes a_elements a_moved a_above a_out a_first c_t c_now) sz) res (W_X6_hasPond E a_t a_now a_refused a_kept a_mind a_tape a_words a_wCell a_wFaces a_wTurns a_wSign a_wBy a_wFell a_telling a_holds a_sizes a_elements a_moved a_above a_out a_first c_t c_now)) 0 0 (va_A (W_X6_hasPond E a_t a_now a_refused a_kept a_mind a_tape a_words a_wCell a_wFaces a_wTurns a_wSign a_wBy a_wFell a_telling a_holds a_sizes a_elements a_moved a_above a_out a_first c_t c_now) sz) :=
  met_of (Qc := fun A => qI E A res (W_X6_hasPond E a_t a_now a_refused a_kept a_mind a_tape a_words a_wCell a_wFaces a_wTurns a_wSign a_wBy a_wFell a_telling a_holds a_sizes a_elements a_moved a_above a_out a_first c_t c_now)) (by decide) rfl (Nat.le_of_ble_eq_true rfl) (fun p e s m args below meth c X hP hD hS ls hl => w_X6_hasPond X a_t a_now a_refused a_kept a_mind a_tape a_words a_wCell a_wFaces a_wTurns a_wSign a_wBy a_wFell a_telling a_holds a_sizes a_elements a_moved a_above a_out a_first c_t c_now res l1 ls _ _ h hP hD hS hl)
-- ===== X6_isSomebody
abbrev W_X6_isSomebody (E : Env0) (a_t : Nat) (a_now : Nat) (a_refused : Nat) (a_kept : Nat) (a_mind : Nat) (a_tape : Nat) (a_words : Nat) (a_wCell : Nat) (a_wFaces : Nat) (a_wTurns : Nat) (a_wSign : Nat) (a_wBy : Nat) (a_wFell : Nat) (a_telling : Nat) (a_holds : Nat) (a_sizes : Nat) (a_elements : Nat) (a_moved : Nat) (a_above : Nat) (a_out : Nat) (a_first : Nat) (c_t : Nat → Int32) (c_now : Nat → Int32) : va_W := [(a_t, .inr (6, [.ref a_refused, .ref a_now, .ref a_kept, .ref a_mind, .int (c_t 4), .ref a_tape, .int (c_t 6), .int (c_t 7), .int (c_t 8), .int (c_t 9), .ref a_words, .ref a_wCell, .ref a_wFaces, .ref a_wTurns, .ref a_wSign, .ref a_wBy, .ref a_wFell, .int (c_t 17), .ref a_telling, .ref a_holds, .ref a_sizes, .ref a_elements, .ref a_moved, .ref a_above, .ref a_out, .ref a_first])), (a_now, .inl (eI E, 97, .inl c_now))]
abbrev r_X6_isSomebody : Room := { frames := 1, cells := 0, slots := 0, locals := 21 }
theorem hd_X6_isSomebody : yX6_isSomebody.cls ≠ "java/lang/invoke/MethodHandle" ∧ yX6_isSomebody.cls ≠ "java/lang/invoke/VarHandle" ∧ (parseMethodDescriptor yX6_isSomebody.desc).map (fun d => d.parameters.length) = some 1 := by decide +kernel
theorem hV_X6_isSomebody : yX6_isSomebody.cls = RX6 ∧ yX6_isSomebody.cls ≠ "java/lang/invoke/MethodHandle" ∧ yX6_isSomebody.cls ≠ "java/lang/invoke/VarHandle" ∧ (parseMethodDescriptor yX6_isSomebody.desc).map (fun d => d.parameters.length) = some 1 := ⟨rfl, hd_X6_isSomebody⟩
section
variable {p : Program} {l : Launch} {e : Env} {s : State} {m : MethodId} {args : Array Value} {below : List Frame} {meth : Method} {c : Code} {E : Env0} {A : Nat → Prop}
set_option maxRecDepth 100000 in
set_option maxHeartbeats 4000000 in
theorem w_X6_isSomebody_b30 (X : Ctx p m meth c cX6_isSomebody 4 ((some .boolean)) s args wsX6_isSomebody RX6 E A) (a_t : Nat) (a_now : Nat) (a_refused : Nat) (a_kept : Nat) (a_mind : Nat) (a_tape : Nat) (a_words : Nat) (a_wCell : Nat) (a_wFaces : Nat) (a_wTurns : Nat) (a_wSign : Nat) (a_wBy : Nat) (a_wFell : Nat) (a_telling : Nat) (a_holds : Nat) (a_sizes : Nat) (a_elements : Nat) (a_moved : Nat) (a_above : Nat) (a_out : Nat) (a_first : Nat) (c_t : Nat → Int32) (c_now : Nat → Int32) (res : Int32) (k4 : Int32 → Int32 → Int32 → Option (Int32)) (hk4 : ∀ (l1 : Int32) (l2 : Int32) (l3 : Int32) (ls : Array Slot) (H : Heap) (locs : List Loc), k4 l1 l2 l3 = some res → va_P E.1 vwCl (W_X6_isSomebody E a_t a_now a_refused a_kept a_mind a_tape a_words a_wCell a_wFaces a_wTurns a_wSign a_wBy a_wFell a_telling a_holds a_sizes a_elements a_moved a_above a_out a_first c_t c_now) H → va_D A (W_X6_isSomebody E a_t a_now a_refused a_kept a_mind a_tape a_words a_wCell a_wFaces a_wTurns a_wSign a_wBy a_wFell a_telling a_holds a_sizes a_elements a_moved a_above a_out a_first c_t c_now) → va_S A s.heap H locs → lv_has ls 4 [(0, .ref a_t), (1, .int l1), (2, .int l2), (3, .int l3)] → W p l e r_X6_isSomebody s m args below meth c H locs 0 0 (MQ below (qI E A res (W_X6_isSomebody E a_t a_now a_refused a_kept a_mind a_tape a_words a_wCell a_wFaces a_wTurns a_wSign a_wBy a_wFell a_telling a_holds a_sizes a_elements a_moved a_above a_out a_first c_t c_now)) args s 0 0 A) (F0 m 4 ls [])) (l1 : Int32) (l3 : Int32) (s0 : Int32) (ls : Array Slot) (H : Heap) (locs : List Loc) (h : f_X6_isSomebody_b30 c_t c_now k4 l1 l3 s0 = some res) (hP : va_P E.1 vwCl (W_X6_isSomebody E a_t a_now a_refused a_kept a_mind a_tape a_words a_wCell a_wFaces a_wTurns a_wSign a_wBy a_wFell a_telling a_holds a_sizes a_elements a_moved a_above a_out a_first c_t c_now) H) (hD : va_D A (W_X6_isSomebody E a_t a_now a_refused a_kept a_mind a_tape a_words a_wCell a_wFaces a_wTurns a_wSign a_wBy a_wFell a_telling a_holds a_sizes a_elements a_moved a_above a_out a_first c_t c_now)) (hS : va_S A s.heap H locs) (hl : lv_has ls 4 [(0, .ref a_t), (1, .int l1), (3, .int l3)]) : W p l e r_X6_isSomebody s m args below meth c H locs 0 0 (MQ below (qI E A res (W_X6_isSomebody E a_t a_now a_refused a_kept a_mind a_tape a_words a_wCell a_wFaces a_wTurns a_wSign a_wBy a_wFell a_telling a_holds a_sizes a_elements a_moved a_above a_out a_first c_t c_now)) args s 0 0 A) (F0 m 30 ls [.int s0]) := by
  obtain ⟨hx, hb, hml, hr, hlk, hown, hts, hG, hA⟩ := id X
  have hK := hG.1
  have hN := hG.2.1
  unfold f_X6_isSomebody_b30 at h
  refine lv_istore_n (lv' := [(2, .int s0), (0, .ref a_t), (1, .int l1), (3, .int l3)]) hx hb dX6_isSomebody_30 rfl hl (by decide) rfl (fun ls hl => ?_)
  refine lv_iinc (v := (l3 + (1 : Int32))) (lv' := [(3, .int (l3 + (1 : Int32))), (2, .int s0), (0, .ref a_t), (1, .int l1)]) hx hb dX6_isSomebody_31 hl (k := 3) rfl rfl (by decide) rfl (fun ls hl => ?_)
  refine lv_goto (tgt := 4) hx hb dX6_isSomebody_34 (by decide) ?_
  exact hk4 l1 s0 (l3 + (1 : Int32)) _ _ _ h hP hD hS (lv_sub hl [2, 3, 1, 0] rfl)
set_option maxRecDepth 100000 in
set_option maxHeartbeats 4000000 in
theorem w_X6_isSomebody_b25 (X : Ctx p m meth c cX6_isSomebody 4 ((some .boolean)) s args wsX6_isSomebody RX6 E A) (a_t : Nat) (a_now : Nat) (a_refused : Nat) (a_kept : Nat) (a_mind : Nat) (a_tape : Nat) (a_words : Nat) (a_wCell : Nat) (a_wFaces : Nat) (a_wTurns : Nat) (a_wSign : Nat) (a_wBy : Nat) (a_wFell : Nat) (a_telling : Nat) (a_holds : Nat) (a_sizes : Nat) (a_elements : Nat) (a_moved : Nat) (a_above : Nat) (a_out : Nat) (a_first : Nat) (c_t : Nat → Int32) (c_now : Nat → Int32) (res : Int32) (k4 : Int32 → Int32 → Int32 → Option (Int32)) (hk4 : ∀ (l1 : Int32) (l2 : Int32) (l3 : Int32) (ls : Array Slot) (H : Heap) (locs : List Loc), k4 l1 l2 l3 = some res → va_P E.1 vwCl (W_X6_isSomebody E a_t a_now a_refused a_kept a_mind a_tape a_words a_wCell a_wFaces a_wTurns a_wSign a_wBy a_wFell a_telling a_holds a_sizes a_elements a_moved a_above a_out a_first c_t c_now) H → va_D A (W_X6_isSomebody E a_t a_now a_refused a_kept a_mind a_tape a_words a_wCell a_wFaces a_wTurns a_wSign a_wBy a_wFell a_telling a_holds a_sizes a_elements a_moved a_above a_out a_first c_t c_now) → va_S A s.heap H locs → lv_has ls 4 [(0, .ref a_t), (1, .int l1), (2, .int l2), (3, .int l3)] → W p l e r_X6_isSomebody s m args below meth c H locs 0 0 (MQ below (qI E A res (W_X6_isSomebody E a_t a_now a_refused a_kept a_mind a_tape a_words a_wCell a_wFaces a_wTurns a_wSign a_wBy a_wFell a_telling a_holds a_sizes a_elements a_moved a_above a_out a_first c_t c_now)) args s 0 0 A) (F0 m 4 ls [])) (l1 : Int32) (l3 : Int32) (ls : Array Slot) (H : Heap) (locs : List Loc) (h : f_X6_isSomebody_b25 c_t c_now k4 l1 l3 = some res) (hP : va_P E.1 vwCl (W_X6_isSomebody E a_t a_now a_refused a_kept a_mind a_tape a_words a_wCell a_wFaces a_wTurns a_wSign a_wBy a_wFell a_telling a_holds a_sizes a_elements a_moved a_above a_out a_first c_t c_now) H) (hD : va_D A (W_X6_isSomebody E a_t a_now a_refused a_kept a_mind a_tape a_words a_wCell a_wFaces a_wTurns a_wSign a_wBy a_wFell a_telling a_holds a_sizes a_elements a_moved a_above a_out a_first c_t c_now)) (hS : va_S A s.heap H locs) (hl : lv_has ls 4 [(0, .ref a_t), (1, .int l1), (3, .int l3)]) : W p l e r_X6_isSomebody s m args below meth c H locs 0 0 (MQ below (qI E A res (W_X6_isSomebody E a_t a_now a_refused a_kept a_mind a_tape a_words a_wCell a_wFaces a_wTurns a_wSign a_wBy a_wFell a_telling a_holds a_sizes a_elements a_moved a_above a_out a_first c_t c_now)) args s 0 0 A) (F0 m 25 ls []) := by
  obtain ⟨hx, hb, hml, hr, hlk, hown, hts, hG, hA⟩ := id X
  have hK := hG.1
  have hN := hG.2.1
  unfold f_X6_isSomebody_b25 at h
  refine lv_iconst (v := (1 : Int32)) hx hb dX6_isSomebody_25 (by decide) ?_
  refine lv_goto (tgt := 30) hx hb dX6_isSomebody_26 (by decide) ?_
  exact w_X6_isSomebody_b30 X a_t a_now a_refused a_kept a_mind a_tape a_words a_wCell a_wFaces a_wTurns a_wSign a_wBy a_wFell a_telling a_holds a_sizes a_elements a_moved a_above a_out a_first c_t c_now res k4 hk4 l1 l3 (1 : Int32) _ _ _ h hP hD hS (lv_sub hl [0, 1, 2] rfl)
set_option maxRecDepth 100000 in
set_option maxHeartbeats 4000000 in
theorem w_X6_isSomebody_b4 (X : Ctx p m meth c cX6_isSomebody 4 ((some .boolean)) s args wsX6_isSomebody RX6 E A) (a_t : Nat) (a_now : Nat) (a_refused : Nat) (a_kept : Nat) (a_mind : Nat) (a_tape : Nat) (a_words : Nat) (a_wCell : Nat) (a_wFaces : Nat) (a_wTurns : Nat) (a_wSign : Nat) (a_wBy : Nat) (a_wFell : Nat) (a_telling : Nat) (a_holds : Nat) (a_sizes : Nat) (a_elements : Nat) (a_moved : Nat) (a_above : Nat) (a_out : Nat) (a_first : Nat) (c_t : Nat → Int32) (c_now : Nat → Int32) (res : Int32) : ∀ (n : Nat) (l1 : Int32) (l2 : Int32) (l3 : Int32) (ls : Array Slot) (H : Heap) (locs : List Loc), f_X6_isSomebody_b4 c_t c_now n l1 l2 l3 = some res → va_P E.1 vwCl (W_X6_isSomebody E a_t a_now a_refused a_kept a_mind a_tape a_words a_wCell a_wFaces a_wTurns a_wSign a_wBy a_wFell a_telling a_holds a_sizes a_elements a_moved a_above a_out a_first c_t c_now) H → va_D A (W_X6_isSomebody E a_t a_now a_refused a_kept a_mind a_tape a_words a_wCell a_wFaces a_wTurns a_wSign a_wBy a_wFell a_telling a_holds a_sizes a_elements a_moved a_above a_out a_first c_t c_now) → va_S A s.heap H locs → lv_has ls 4 [(0, .ref a_t), (1, .int l1), (2, .int l2), (3, .int l3)] → W p l e r_X6_isSomebody s m args below meth c H locs 0 0 (MQ below (qI E A res (W_X6_isSomebody E a_t a_now a_refused a_kept a_mind a_tape a_words a_wCell a_wFaces a_wTurns a_wSign a_wBy a_wFell a_telling a_holds a_sizes a_elements a_moved a_above a_out a_first c_t c_now)) args s 0 0 A) (F0 m 4 ls []) := by
  obtain ⟨hx, hb, hml, hr, hlk, hown, hts, hG, hA⟩ := id X
  have hK := hG.1
  have hN := hG.2.1
  intro n
  induction n with
  | zero =>
    intro l1 l2 l3 ls H locs h
    exact absurd (show (none : Option (Int32)) = some res from h) (by intro q; cases q)
  | succ n ih =>
    intro l1 l2 l3 ls H locs h hP hD hS hl
    rw [f_X6_isSomebody_b4] at h
    refine lv_iload_n hx hb dX6_isSomebody_4 rfl (lv_at hl 3 rfl) ?_
    refine lv_aload_n hx hb dX6_isSomebody_5 rfl (lv_at hl 0 rfl) ?_
    obtain ⟨v1, hv1, h⟩ := bind_of h
    refine after_i X (run_V X (c_X6_many l E a_t a_now a_refused a_kept a_mind a_tape a_words a_wCell a_wFaces a_wTurns a_wSign a_wBy a_wFell a_telling a_holds a_sizes a_elements a_moved a_above a_out a_first c_t c_now H.size v1 hv1) (cwV 0 hts gX6_isSomebody_X6_many rfl rfl rfl hV_X6_many ⟨(Nat.le_of_ble_eq_true rfl), (Nat.le_of_ble_eq_true rfl)⟩) hP hD hS [0, 1] rfl rfl hl.1 (ci := 6) rfl rfl rfl (rest := [.int l3]) rfl rfl (Nat.le_of_ble_eq_true rfl) dX6_isSomebody_6) hP hD hS [0, 1] [] [0, 1] rfl rfl rfl (by decide) rfl (ws1 := (W_X6_isSomebody E a_t a_now a_refused a_kept a_mind a_tape a_words a_wCell a_wFaces a_wTurns a_wSign a_wBy a_wFell a_telling a_holds a_sizes a_elements a_moved a_above a_out a_first c_t c_now)) rfl (fun H locs hP hD hS => ?_)
    refine lv_icmp_ge (tgt := 37) hx hb dX6_isSomebody_9 (by decide) (fun hc9 => ?_) (fun hc9 => ?_)
    · have h := if_t h hc9
      refine lv_iload_n hx hb dX6_isSomebody_37 rfl (lv_at hl 2 rfl) ?_
      obtain ⟨hz38, h⟩ := chk_of h
      obtain rfl := Option.some.inj h
      exact ret_z X dX6_isSomebody_38 hz38 hP hD hS rfl
    · have h := if_f h hc9
      refine lv_iload_n hx hb dX6_isSomebody_12 rfl (lv_at hl 2 rfl) ?_
      refine lv_if_ne (tgt := 25) hx hb dX6_isSomebody_13 (by decide) (fun hc13 => ?_) (fun hc13 => ?_)
      · have h := if_f h hc13
        exact w_X6_isSomebody_b25 X a_t a_now a_refused a_kept a_mind a_tape a_words a_wCell a_wFaces a_wTurns a_wSign a_wBy a_wFell a_telling a_holds a_sizes a_elements a_moved a_above a_out a_first c_t c_now res (f_X6_isSomebody_b4 c_t c_now n) ih l1 l3 _ _ _ h hP hD hS (lv_sub hl [0, 1, 3] rfl)
      · have h := if_t h hc13
        refine lv_aload_n hx hb dX6_isSomebody_16 rfl (lv_at hl 0 rfl) ?_
        refine lv_iload_n hx hb dX6_isSomebody_17 rfl (lv_at hl 3 rfl) ?_
        obtain ⟨v2, hv2, h⟩ := bind_of h
        refine after_i X (run_V X (c_X6_cell l E a_t a_now a_refused a_kept a_mind a_tape a_words a_wCell a_wFaces a_wTurns a_wSign a_wBy a_wFell a_telling a_holds a_sizes a_elements a_moved a_above a_out a_first l3 c_t c_now H.size v2 hv2) (cwV 1 hts gX6_isSomebody_X6_cell rfl rfl rfl hV_X6_cell ⟨(Nat.le_of_ble_eq_true rfl), (Nat.le_of_ble_eq_true rfl)⟩) hP hD hS [0, 1] rfl rfl hl.1 (ci := 6) rfl rfl rfl (rest := []) rfl rfl (Nat.le_of_ble_eq_true rfl) dX6_isSomebody_18) hP hD hS [0, 1] [] [0, 1] rfl rfl rfl (by decide) rfl (ws1 := (W_X6_isSomebody E a_t a_now a_refused a_kept a_mind a_tape a_words a_wCell a_wFaces a_wTurns a_wSign a_wBy a_wFell a_telling a_holds a_sizes a_elements a_moved a_above a_out a_first c_t c_now)) rfl (fun H locs hP hD hS => ?_)
        refine lv_iload_n hx hb dX6_isSomebody_21 rfl (lv_at hl 1 rfl) ?_
        refine lv_icmp_ne (tgt := 29) hx hb dX6_isSomebody_22 (by decide) (fun hc22 => ?_) (fun hc22 => ?_)
        · have h := if_f h hc22
          refine lv_iconst (v := (0 : Int32)) hx hb dX6_isSomebody_29 (by decide) ?_
          exact w_X6_isSomebody_b30 X a_t a_now a_refused a_kept a_mind a_tape a_words a_wCell a_wFaces a_wTurns a_wSign a_wBy a_wFell a_telling a_holds a_sizes a_elements a_moved a_above a_out a_first c_t c_now res (f_X6_isSomebody_b4 c_t c_now n) ih l1 l3 (0 : Int32) _ _ _ h hP hD hS (lv_sub hl [0, 1, 3] rfl)
        · have h := if_t h hc22
          exact w_X6_isSomebody_b25 X a_t a_now a_refused a_kept a_mind a_tape a_words a_wCell a_wFaces a_wTurns a_wSign a_wBy a_wFell a_telling a_holds a_sizes a_elements a_moved a_above a_out a_first c_t c_now res (f_X6_isSomebody_b4 c_t c_now n) ih l1 l3 _ _ _ h hP hD hS (lv_sub hl [0, 1, 3] rfl)
set_option maxRecDepth 100000 in
set_option maxHeartbeats 4000000 in
theorem w_X6_isSomebody (X : Ctx p m meth c cX6_isSomebody 4 ((some .boolean)) s args wsX6_isSomebody RX6 E A) (a_t : Nat) (a_now : Nat) (a_refused : Nat) (a_kept : Nat) (a_mind : Nat) (a_tape : Nat) (a_words : Nat) (a_wCell : Nat) (a_wFaces : Nat) (a_wTurns : Nat) (a_wSign : Nat) (a_wBy : Nat) (a_wFell : Nat) (a_telling : Nat) (a_holds : Nat) (a_sizes : Nat) (a_elements : Nat) (a_moved : Nat) (a_above : Nat) (a_out : Nat) (a_first : Nat) (c_t : Nat → Int32) (c_now : Nat → Int32) (res : Int32) (l1 : Int32) (ls : Array Slot) (H : Heap) (locs : List Loc) (h : f_X6_isSomebody l1 c_t c_now = some res) (hP : va_P E.1 vwCl (W_X6_isSomebody E a_t a_now a_refused a_kept a_mind a_tape a_words a_wCell a_wFaces a_wTurns a_wSign a_wBy a_wFell a_telling a_holds a_sizes a_elements a_moved a_above a_out a_first c_t c_now) H) (hD : va_D A (W_X6_isSomebody E a_t a_now a_refused a_kept a_mind a_tape a_words a_wCell a_wFaces a_wTurns a_wSign a_wBy a_wFell a_telling a_holds a_sizes a_elements a_moved a_above a_out a_first c_t c_now)) (hS : va_S A s.heap H locs) (hl : lv_has ls 4 [(0, .ref a_t), (1, .int l1)]) : W p l e r_X6_isSomebody s m args below meth c H locs 0 0 (MQ below (qI E A res (W_X6_isSomebody E a_t a_now a_refused a_kept a_mind a_tape a_words a_wCell a_wFaces a_wTurns a_wSign a_wBy a_wFell a_telling a_holds a_sizes a_elements a_moved a_above a_out a_first c_t c_now)) args s 0 0 A) (F0 m 0 ls []) := by
  obtain ⟨hx, hb, hml, hr, hlk, hown, hts, hG, hA⟩ := id X
  have hK := hG.1
  have hN := hG.2.1
  unfold f_X6_isSomebody at h
  refine lv_iconst (v := (0 : Int32)) hx hb dX6_isSomebody_0 (by decide) ?_
  refine lv_istore_n (lv' := [(2, .int (0 : Int32)), (0, .ref a_t), (1, .int l1)]) hx hb dX6_isSomebody_1 rfl hl (by decide) rfl (fun ls hl => ?_)
  refine lv_iconst (v := (0 : Int32)) hx hb dX6_isSomebody_2 (by decide) ?_
  refine lv_istore_n (lv' := [(3, .int (0 : Int32)), (2, .int (0 : Int32)), (0, .ref a_t), (1, .int l1)]) hx hb dX6_isSomebody_3 rfl hl (by decide) rfl (fun ls hl => ?_)
  exact w_X6_isSomebody_b4 X a_t a_now a_refused a_kept a_mind a_tape a_words a_wCell a_wFaces a_wTurns a_wSign a_wBy a_wFell a_telling a_holds a_sizes a_elements a_moved a_above a_out a_first c_t c_now res FU l1 (0 : Int32) (0 : Int32) _ _ _ h hP hD hS (lv_sub hl [2, 3, 1, 0] rfl)
end
set_option maxRecDepth 100000 in
theorem c_X6_isSomebody (l : Launch) (E : Env0) (a_t : Nat) (a_now : Nat) (a_refused : Nat) (a_kept : Nat) (a_mind : Nat) (a_tape : Nat) (a_words : Nat) (a_wCell : Nat) (a_wFaces : Nat) (a_wTurns : Nat) (a_wSign : Nat) (a_wBy : Nat) (a_wFell : Nat) (a_telling : Nat) (a_holds : Nat) (a_sizes : Nat) (a_elements : Nat) (a_moved : Nat) (a_above : Nat) (a_out : Nat) (a_first : Nat) (l1 : Int32) (c_t : Nat → Int32) (c_now : Nat → Int32) (sz : Nat) (res : Int32) (h : f_X6_isSomebody l1 c_t c_now = some res) : Met l yX6_isSomebody wsX6_isSomebody r_X6_isSomebody (cPre E [.ref a_t, .int l1] (W_X6_isSomebody E a_t a_now a_refused a_kept a_mind a_tape a_words a_wCell a_wFaces a_wTurns a_wSign a_wBy a_wFell a_telling a_holds a_sizes a_elements a_moved a_above a_out a_first c_t c_now) sz) (qI E (va_A (W_X6_isSomebody E a_t a_now a_refused a_kept a_mind a_tape a_words a_wCell a_wFaces a_wTurns a_wSign a_wBy a_wFell a_telling a_holds a_sizes a_elements a_moved a_above a_out a_first c_t c_now) sz) res (W_X6_isSomebody E a_t a_now a_refused a_kept a_mind a_tape a_words a_wCell a_wFaces a_wTurns a_wSign a_wBy a_wFell a_telling a_holds a_sizes a_elements a_moved a_above a_out a_first c_t c_now)) 0 0 (va_A (W_X6_isSomebody E a_t a_now a_refused a_kept a_mind a_tape a_words a_wCell a_wFaces a_wTurns a_wSign a_wBy a_wFell a_telling a_holds a_sizes a_elements a_moved a_above a_out a_first c_t c_now) sz) :=
  met_of (Qc := fun A => qI E A res (W_X6_isSomebody E a_t a_now a_refused a_kept a_mind a_tape a_words a_wCell a_wFaces a_wTurns a_wSign a_wBy a_wFell a_telling a_holds a_sizes a_elements a_moved a_above a_out a_first c_t c_now)) (by decide) rfl (Nat.le_of_ble_eq_true rfl) (fun p e s m args below meth c X hP hD hS ls hl => w_X6_isSomebody X a_t a_now a_refused a_kept a_mind a_tape a_words a_wCell a_wFaces a_wTurns a_wSign a_wBy a_wFell a_telling a_holds a_sizes a_elements a_moved a_above a_out a_first c_t c_now res l1 ls _ _ h hP hD hS hl)
-- ===== X6_beside
abbrev W_X6_beside (E : Env0) (a_t : Nat) (a_now : Nat) (a_refused : Nat) (a_kept : Nat) (a_mind : Nat) (a_tape : Nat) (a_words : Nat) (a_wCell : Nat) (a_wFaces : Nat) (a_wTurns : Nat) (a_wSign : Nat) (a_wBy : Nat) (a_wFell : Nat) (a_telling : Nat) (a_holds : Nat) (a_sizes : Nat) (a_elements : Nat) (a_moved : Nat) (a_above : Nat) (a_out : Nat) (a_first : Nat) (c_t : Nat → Int32) (c_now : Nat → Int32) : va_W := [(a_t, .inr (6, [.ref a_refused, .ref a_now, .ref a_kept, .ref a_mind, .int (c_t 4), .ref a_tape, .int (c_t 6), .int (c_t 7), .int (c_t 8), .int (c_t 9), .ref a_words, .ref a_wCell, .ref a_wFaces, .ref a_wTurns, .ref a_wSign, .ref a_wBy, .ref a_wFell, .int (c_t 17), .ref a_telling, .ref a_holds, .ref a_sizes, .ref a_elements, .ref a_moved, .ref a_above, .ref a_out, .ref a_first])), (a_now, .inl (eI E, 97, .inl c_now))]
abbrev r_X6_beside : Room := { frames := 1, cells := 0, slots := 0, locals := 25 }
theorem hd_X6_beside : yX6_beside.cls ≠ "java/lang/invoke/MethodHandle" ∧ yX6_beside.cls ≠ "java/lang/invoke/VarHandle" ∧ (parseMethodDescriptor yX6_beside.desc).map (fun d => d.parameters.length) = some 2 := by decide +kernel
theorem hV_X6_beside : yX6_beside.cls = RX6 ∧ yX6_beside.cls ≠ "java/lang/invoke/MethodHandle" ∧ yX6_beside.cls ≠ "java/lang/invoke/VarHandle" ∧ (parseMethodDescriptor yX6_beside.desc).map (fun d => d.parameters.length) = some 2 := ⟨rfl, hd_X6_beside⟩
theorem iX6_beside_X6 : ∀ w ∈ wsX60, w ∈ wsX6_beside := fun _ h => List.mem_cons_of_mem _ (List.mem_append_right _ (h))
section
variable {p : Program} {l : Launch} {e : Env} {s : State} {m : MethodId} {args : Array Value} {below : List Frame} {meth : Method} {c : Code} {E : Env0} {A : Nat → Prop}
set_option maxRecDepth 100000 in
set_option maxHeartbeats 4000000 in
theorem w_X6_beside_b47 (X : Ctx p m meth c cX6_beside 5 ((some .int)) s args wsX6_beside RX6 E A) (a_t : Nat) (a_now : Nat) (a_refused : Nat) (a_kept : Nat) (a_mind : Nat) (a_tape : Nat) (a_words : Nat) (a_wCell : Nat) (a_wFaces : Nat) (a_wTurns : Nat) (a_wSign : Nat) (a_wBy : Nat) (a_wFell : Nat) (a_telling : Nat) (a_holds : Nat) (a_sizes : Nat) (a_elements : Nat) (a_moved : Nat) (a_above : Nat) (a_out : Nat) (a_first : Nat) (c_t : Nat → Int32) (c_now : Nat → Int32) (res : Int32) (l3 : Int32) (s0 : Int32) (s1 : Int32) (ls : Array Slot) (H : Heap) (locs : List Loc) (h : f_X6_beside_b47 c_t c_now l3 s0 s1 = some res) (hP : va_P E.1 vwCl (W_X6_beside E a_t a_now a_refused a_kept a_mind a_tape a_words a_wCell a_wFaces a_wTurns a_wSign a_wBy a_wFell a_telling a_holds a_sizes a_elements a_moved a_above a_out a_first c_t c_now) H) (hD : va_D A (W_X6_beside E a_t a_now a_refused a_kept a_mind a_tape a_words a_wCell a_wFaces a_wTurns a_wSign a_wBy a_wFell a_telling a_holds a_sizes a_elements a_moved a_above a_out a_first c_t c_now)) (hS : va_S A s.heap H locs) (hl : lv_has ls 5 [(0, .ref a_t), (3, .int l3)]) : W p l e r_X6_beside s m args below meth c H locs 0 0 (MQ below (qI E A res (W_X6_beside E a_t a_now a_refused a_kept a_mind a_tape a_words a_wCell a_wFaces a_wTurns a_wSign a_wBy a_wFell a_telling a_holds a_sizes a_elements a_moved a_above a_out a_first c_t c_now)) args s 0 0 A) (F0 m 47 ls [.int s0, .int s1]) := by
  obtain ⟨hx, hb, hml, hr, hlk, hown, hts, hG, hA⟩ := id X
  have hK := hG.1
  have hN := hG.2.1
  unfold f_X6_beside_b47 at h
  refine lv_iadd hx hb dX6_beside_47 ?_
  refine lv_istore (lv' := [(4, .int (s1 + s0)), (0, .ref a_t), (3, .int l3)]) hx hb dX6_beside_48 hl (by decide) rfl (fun ls hl => ?_)
  refine lv_iload_n hx hb dX6_beside_50 rfl (lv_at hl 2 rfl) ?_
  refine lv_i2l (v := (l3.toInt64)) hx hb dX6_beside_51 rfl ?_
  refine lv_lconst (v := (0 : Int64)) hx hb dX6_beside_52 (by decide) ?_
  refine lv_aload_n hx hb dX6_beside_53 rfl (lv_at hl 1 rfl) ?_
  refine va_get (D := E.1) (ci := 6) (v := .ref a_now) (C := RX6) (T := TX6) (N := 26) hx hb hts iX6_beside_X6 hown hK hP 0 rfl rfl 1 (by decide) (hts (.fieldLink RX6 17 "LeftIsAgreedOnModel" "now" "[I") (List.mem_of_getElem? (i := 1) rfl)) (fun _ h9 => h9) rfl dX6_beside_54 ?_
  refine lv_bipush (v := (90 : Int32)) hx hb dX6_beside_57 (by decide) ?_
  refine ld_i X hP 1 rfl (inb.vp (by decide)) (v := (c_now 90)) rfl dX6_beside_59 ?_
  refine lv_iconst (v := (1 : Int32)) hx hb dX6_beside_60 (by decide) ?_
  refine lv_isub hx hb dX6_beside_61 ?_
  refine lv_i2l (v := (((c_now 90) - (1 : Int32)).toInt64)) hx hb dX6_beside_62 rfl ?_
  obtain ⟨v1, hv1, h⟩ := bind_of h
  refine after_i X (run_S X (c_X6_isIn l E (l3.toInt64) (0 : Int64) (((c_now 90) - (1 : Int32)).toInt64) H.size v1 hv1) (va_cwS 3 hts gX6_beside_X6_isIn rfl rfl rfl hd_X6_isIn ⟨(Nat.le_of_ble_eq_true rfl), (Nat.le_of_ble_eq_true rfl)⟩) hP hD hS [] rfl rfl hl.1 (rest := []) rfl rfl (Nat.le_of_ble_eq_true rfl) dX6_beside_63) hP hD hS [] [0, 1] [0, 1] rfl rfl rfl (by decide) rfl (ws1 := (W_X6_beside E a_t a_now a_refused a_kept a_mind a_tape a_words a_wCell a_wFaces a_wTurns a_wSign a_wBy a_wFell a_telling a_holds a_sizes a_elements a_moved a_above a_out a_first c_t c_now)) rfl (fun H locs hP hD hS => ?_)
  refine lv_if_eq (tgt := 99) hx hb dX6_beside_66 (by decide) (fun hc66 => ?_) (fun hc66 => ?_)
  · have h := if_t h hc66
    refine lv_iconst (v := (-1 : Int32)) hx hb dX6_beside_99 (by decide) ?_
    obtain rfl := Option.some.inj h
    exact ret_i X dX6_beside_100 hP hD hS rfl
  · have h := if_f h hc66
    refine lv_iload hx hb dX6_beside_69 (lv_at hl 0 rfl) ?_
    refine lv_i2l (v := ((s1 + s0).toInt64)) hx hb dX6_beside_71 rfl ?_
    refine lv_lconst (v := (0 : Int64)) hx hb dX6_beside_72 (by decide) ?_
    refine lv_aload_n hx hb dX6_beside_73 rfl (lv_at hl 1 rfl) ?_
    refine va_get (D := E.1) (ci := 6) (v := .ref a_now) (C := RX6) (T := TX6) (N := 26) hx hb hts iX6_beside_X6 hown hK hP 0 rfl rfl 1 (by decide) (hts (.fieldLink RX6 17 "LeftIsAgreedOnModel" "now" "[I") (List.mem_of_getElem? (i := 1) rfl)) (fun _ h9 => h9) rfl dX6_beside_74 ?_
    refine lv_bipush (v := (90 : Int32)) hx hb dX6_beside_77 (by decide) ?_
    refine ld_i X hP 1 rfl (inb.vp (by decide)) (v := (c_now 90)) rfl dX6_beside_79 ?_
    refine lv_iconst (v := (1 : Int32)) hx hb dX6_beside_80 (by decide) ?_
    refine lv_isub hx hb dX6_beside_81 ?_
    refine lv_i2l (v := (((c_now 90) - (1 : Int32)).toInt64)) hx hb dX6_beside_82 rfl ?_
    obtain ⟨v2, hv2, h⟩ := bind_of h
    refine after_i X (run_S X (c_X6_isIn l E ((s1 + s0).toInt64) (0 : Int64) (((c_now 90) - (1 : Int32)).toInt64) H.size v2 hv2) (va_cwS 3 hts gX6_beside_X6_isIn rfl rfl rfl hd_X6_isIn ⟨(Nat.le_of_ble_eq_true rfl), (Nat.le_of_ble_eq_true rfl)⟩) hP hD hS [] rfl rfl hl.1 (rest := []) rfl rfl (Nat.le_of_ble_eq_true rfl) dX6_beside_83) hP hD hS [] [0, 1] [0, 1] rfl rfl rfl (by decide) rfl (ws1 := (W_X6_beside E a_t a_now a_refused a_kept a_mind a_tape a_words a_wCell a_wFaces a_wTurns a_wSign a_wBy a_wFell a_telling a_holds a_sizes a_elements a_moved a_above a_out a_first c_t c_now)) rfl (fun H locs hP hD hS => ?_)
    refine lv_if_eq (tgt := 99) hx hb dX6_beside_86 (by decide) (fun hc86 => ?_) (fun hc86 => ?_)
    · have h := if_t h hc86
      refine lv_iconst (v := (-1 : Int32)) hx hb dX6_beside_99 (by decide) ?_
      obtain rfl := Option.some.inj h
      exact ret_i X dX6_beside_100 hP hD hS rfl
    · have h := if_f h hc86
      refine lv_bipush (v := (10 : Int32)) hx hb dX6_beside_89 (by decide) ?_
      refine lv_iload_n hx hb dX6_beside_91 rfl (lv_at hl 2 rfl) ?_
      refine lv_imul hx hb dX6_beside_92 ?_
      refine lv_iload hx hb dX6_beside_93 (lv_at hl 0 rfl) ?_
      refine lv_iadd hx hb dX6_beside_95 ?_
      refine lv_goto (tgt := 100) hx hb dX6_beside_96 (by decide) ?_
      obtain rfl := Option.some.inj h
      exact ret_i X dX6_beside_100 hP hD hS rfl
set_option maxRecDepth 100000 in
set_option maxHeartbeats 4000000 in
theorem w_X6_beside_b22 (X : Ctx p m meth c cX6_beside 5 ((some .int)) s args wsX6_beside RX6 E A) (a_t : Nat) (a_now : Nat) (a_refused : Nat) (a_kept : Nat) (a_mind : Nat) (a_tape : Nat) (a_words : Nat) (a_wCell : Nat) (a_wFaces : Nat) (a_wTurns : Nat) (a_wSign : Nat) (a_wBy : Nat) (a_wFell : Nat) (a_telling : Nat) (a_holds : Nat) (a_sizes : Nat) (a_elements : Nat) (a_moved : Nat) (a_above : Nat) (a_out : Nat) (a_first : Nat) (c_t : Nat → Int32) (c_now : Nat → Int32) (res : Int32) (l1 : Int32) (l2 : Int32) (s0 : Int32) (s1 : Int32) (ls : Array Slot) (H : Heap) (locs : List Loc) (h : f_X6_beside_b22 c_t c_now l1 l2 s0 s1 = some res) (hP : va_P E.1 vwCl (W_X6_beside E a_t a_now a_refused a_kept a_mind a_tape a_words a_wCell a_wFaces a_wTurns a_wSign a_wBy a_wFell a_telling a_holds a_sizes a_elements a_moved a_above a_out a_first c_t c_now) H) (hD : va_D A (W_X6_beside E a_t a_now a_refused a_kept a_mind a_tape a_words a_wCell a_wFaces a_wTurns a_wSign a_wBy a_wFell a_telling a_holds a_sizes a_elements a_moved a_above a_out a_first c_t c_now)) (hS : va_S A s.heap H locs) (hl : lv_has ls 5 [(0, .ref a_t), (1, .int l1), (2, .int l2)]) : W p l e r_X6_beside s m args below meth c H locs 0 0 (MQ below (qI E A res (W_X6_beside E a_t a_now a_refused a_kept a_mind a_tape a_words a_wCell a_wFaces a_wTurns a_wSign a_wBy a_wFell a_telling a_holds a_sizes a_elements a_moved a_above a_out a_first c_t c_now)) args s 0 0 A) (F0 m 22 ls [.int s0, .int s1]) := by
  obtain ⟨hx, hb, hml, hr, hlk, hown, hts, hG, hA⟩ := id X
  have hK := hG.1
  have hN := hG.2.1
  unfold f_X6_beside_b22 at h
  refine lv_iadd hx hb dX6_beside_22 ?_
  refine lv_istore_n (lv' := [(3, .int (s1 + s0)), (0, .ref a_t), (1, .int l1), (2, .int l2)]) hx hb dX6_beside_23 rfl hl (by decide) rfl (fun ls hl => ?_)
  refine lv_iload_n hx hb dX6_beside_24 rfl (lv_at hl 2 rfl) ?_
  refine lv_bipush (v := (10 : Int32)) hx hb dX6_beside_25 (by decide) ?_
  refine lv_irem hx hb dX6_beside_27 (by decide) ?_
  refine lv_iload_n hx hb dX6_beside_28 rfl (lv_at hl 3 rfl) ?_
  refine lv_iconst (v := (3 : Int32)) hx hb dX6_beside_29 (by decide) ?_
  refine lv_icmp_ne (tgt := 37) hx hb dX6_beside_30 (by decide) (fun hc30 => ?_) (fun hc30 => ?_)
  · have h := if_f h hc30
    refine lv_iload_n hx hb dX6_beside_37 rfl (lv_at hl 3 rfl) ?_
    refine lv_iconst (v := (1 : Int32)) hx hb dX6_beside_38 (by decide) ?_
    refine lv_icmp_ne (tgt := 46) hx hb dX6_beside_39 (by decide) (fun hc39 => ?_) (fun hc39 => ?_)
    · have h := if_f h hc39
      refine lv_iconst (v := (0 : Int32)) hx hb dX6_beside_46 (by decide) ?_
      exact w_X6_beside_b47 X a_t a_now a_refused a_kept a_mind a_tape a_words a_wCell a_wFaces a_wTurns a_wSign a_wBy a_wFell a_telling a_holds a_sizes a_elements a_moved a_above a_out a_first c_t c_now res (s1 + s0) (0 : Int32) (l1 - l1 / (10 : Int32) * (10 : Int32)) _ _ _ h hP hD hS (lv_sub hl [1, 0] rfl)
    · have h := if_t h hc39
      refine lv_iconst (v := (1 : Int32)) hx hb dX6_beside_42 (by decide) ?_
      refine lv_goto (tgt := 47) hx hb dX6_beside_43 (by decide) ?_
      exact w_X6_beside_b47 X a_t a_now a_refused a_kept a_mind a_tape a_words a_wCell a_wFaces a_wTurns a_wSign a_wBy a_wFell a_telling a_holds a_sizes a_elements a_moved a_above a_out a_first c_t c_now res (s1 + s0) (1 : Int32) (l1 - l1 / (10 : Int32) * (10 : Int32)) _ _ _ h hP hD hS (lv_sub hl [1, 0] rfl)
  · have h := if_t h hc30
    refine lv_iconst (v := (-1 : Int32)) hx hb dX6_beside_33 (by decide) ?_
    refine lv_goto (tgt := 47) hx hb dX6_beside_34 (by decide) ?_
    exact w_X6_beside_b47 X a_t a_now a_refused a_kept a_mind a_tape a_words a_wCell a_wFaces a_wTurns a_wSign a_wBy a_wFell a_telling a_holds a_sizes a_elements a_moved a_above a_out a_first c_t c_now res (s1 + s0) (-1 : Int32) (l1 - l1 / (10 : Int32) * (10 : Int32)) _ _ _ h hP hD hS (lv_sub hl [1, 0] rfl)
set_option maxRecDepth 100000 in
set_option maxHeartbeats 4000000 in
theorem w_X6_beside (X : Ctx p m meth c cX6_beside 5 ((some .int)) s args wsX6_beside RX6 E A) (a_t : Nat) (a_now : Nat) (a_refused : Nat) (a_kept : Nat) (a_mind : Nat) (a_tape : Nat) (a_words : Nat) (a_wCell : Nat) (a_wFaces : Nat) (a_wTurns : Nat) (a_wSign : Nat) (a_wBy : Nat) (a_wFell : Nat) (a_telling : Nat) (a_holds : Nat) (a_sizes : Nat) (a_elements : Nat) (a_moved : Nat) (a_above : Nat) (a_out : Nat) (a_first : Nat) (c_t : Nat → Int32) (c_now : Nat → Int32) (res : Int32) (l1 : Int32) (l2 : Int32) (ls : Array Slot) (H : Heap) (locs : List Loc) (h : f_X6_beside l1 l2 c_t c_now = some res) (hP : va_P E.1 vwCl (W_X6_beside E a_t a_now a_refused a_kept a_mind a_tape a_words a_wCell a_wFaces a_wTurns a_wSign a_wBy a_wFell a_telling a_holds a_sizes a_elements a_moved a_above a_out a_first c_t c_now) H) (hD : va_D A (W_X6_beside E a_t a_now a_refused a_kept a_mind a_tape a_words a_wCell a_wFaces a_wTurns a_wSign a_wBy a_wFell a_telling a_holds a_sizes a_elements a_moved a_above a_out a_first c_t c_now)) (hS : va_S A s.heap H locs) (hl : lv_has ls 5 [(0, .ref a_t), (1, .int l1), (2, .int l2)]) : W p l e r_X6_beside s m args below meth c H locs 0 0 (MQ below (qI E A res (W_X6_beside E a_t a_now a_refused a_kept a_mind a_tape a_words a_wCell a_wFaces a_wTurns a_wSign a_wBy a_wFell a_telling a_holds a_sizes a_elements a_moved a_above a_out a_first c_t c_now)) args s 0 0 A) (F0 m 0 ls []) := by
  obtain ⟨hx, hb, hml, hr, hlk, hown, hts, hG, hA⟩ := id X
  have hK := hG.1
  have hN := hG.2.1
  unfold f_X6_beside at h
  refine lv_iload_n hx hb dX6_beside_0 rfl (lv_at hl 1 rfl) ?_
  refine lv_bipush (v := (10 : Int32)) hx hb dX6_beside_1 (by decide) ?_
  refine lv_idiv hx hb dX6_beside_3 (by decide) ?_
  refine lv_iload_n hx hb dX6_beside_4 rfl (lv_at hl 2 rfl) ?_
  refine lv_if_ne (tgt := 12) hx hb dX6_beside_5 (by decide) (fun hc5 => ?_) (fun hc5 => ?_)
  · have h := if_f h hc5
    refine lv_iload_n hx hb dX6_beside_12 rfl (lv_at hl 2 rfl) ?_
    refine lv_iconst (v := (2 : Int32)) hx hb dX6_beside_13 (by decide) ?_
    refine lv_icmp_ne (tgt := 21) hx hb dX6_beside_14 (by decide) (fun hc14 => ?_) (fun hc14 => ?_)
    · have h := if_f h hc14
      refine lv_iconst (v := (0 : Int32)) hx hb dX6_beside_21 (by decide) ?_
      exact w_X6_beside_b22 X a_t a_now a_refused a_kept a_mind a_tape a_words a_wCell a_wFaces a_wTurns a_wSign a_wBy a_wFell a_telling a_holds a_sizes a_elements a_moved a_above a_out a_first c_t c_now res l1 l2 (0 : Int32) (l1 / (10 : Int32)) _ _ _ h hP hD hS (lv_sub hl [0, 1, 2] rfl)
    · have h := if_t h hc14
      refine lv_iconst (v := (1 : Int32)) hx hb dX6_beside_17 (by decide) ?_
      refine lv_goto (tgt := 22) hx hb dX6_beside_18 (by decide) ?_
      exact w_X6_beside_b22 X a_t a_now a_refused a_kept a_mind a_tape a_words a_wCell a_wFaces a_wTurns a_wSign a_wBy a_wFell a_telling a_holds a_sizes a_elements a_moved a_above a_out a_first c_t c_now res l1 l2 (1 : Int32) (l1 / (10 : Int32)) _ _ _ h hP hD hS (lv_sub hl [0, 1, 2] rfl)
  · have h := if_t h hc5
    refine lv_iconst (v := (-1 : Int32)) hx hb dX6_beside_8 (by decide) ?_
    refine lv_goto (tgt := 22) hx hb dX6_beside_9 (by decide) ?_
    exact w_X6_beside_b22 X a_t a_now a_refused a_kept a_mind a_tape a_words a_wCell a_wFaces a_wTurns a_wSign a_wBy a_wFell a_telling a_holds a_sizes a_elements a_moved a_above a_out a_first c_t c_now res l1 l2 (-1 : Int32) (l1 / (10 : Int32)) _ _ _ h hP hD hS (lv_sub hl [0, 1, 2] rfl)
end
set_option maxRecDepth 100000 in
theorem c_X6_beside (l : Launch) (E : Env0) (a_t : Nat) (a_now : Nat) (a_refused : Nat) (a_kept : Nat) (a_mind : Nat) (a_tape : Nat) (a_words : Nat) (a_wCell : Nat) (a_wFaces : Nat) (a_wTurns : Nat) (a_wSign : Nat) (a_wBy : Nat) (a_wFell : Nat) (a_telling : Nat) (a_holds : Nat) (a_sizes : Nat) (a_elements : Nat) (a_moved : Nat) (a_above : Nat) (a_out : Nat) (a_first : Nat) (l1 : Int32) (l2 : Int32) (c_t : Nat → Int32) (c_now : Nat → Int32) (sz : Nat) (res : Int32) (h : f_X6_beside l1 l2 c_t c_now = some res) : Met l yX6_beside wsX6_beside r_X6_beside (cPre E [.ref a_t, .int l1, .int l2] (W_X6_beside E a_t a_now a_refused a_kept a_mind a_tape a_words a_wCell a_wFaces a_wTurns a_wSign a_wBy a_wFell a_telling a_holds a_sizes a_elements a_moved a_above a_out a_first c_t c_now) sz) (qI E (va_A (W_X6_beside E a_t a_now a_refused a_kept a_mind a_tape a_words a_wCell a_wFaces a_wTurns a_wSign a_wBy a_wFell a_telling a_holds a_sizes a_elements a_moved a_above a_out a_first c_t c_now) sz) res (W_X6_beside E a_t a_now a_refused a_kept a_mind a_tape a_words a_wCell a_wFaces a_wTurns a_wSign a_wBy a_wFell a_telling a_holds a_sizes a_elements a_moved a_above a_out a_first c_t c_now)) 0 0 (va_A (W_X6_beside E a_t a_now a_refused a_kept a_mind a_tape a_words a_wCell a_wFaces a_wTurns a_wSign a_wBy a_wFell a_telling a_holds a_sizes a_elements a_moved a_above a_out a_first c_t c_now) sz) :=
  met_of (Qc := fun A => qI E A res (W_X6_beside E a_t a_now a_refused a_kept a_mind a_tape a_words a_wCell a_wFaces a_wTurns a_wSign a_wBy a_wFell a_telling a_holds a_sizes a_elements a_moved a_above a_out a_first c_t c_now)) (by decide) rfl (Nat.le_of_ble_eq_true rfl) (fun p e s m args below meth c X hP hD hS ls hl => w_X6_beside X a_t a_now a_refused a_kept a_mind a_tape a_words a_wCell a_wFaces a_wTurns a_wSign a_wBy a_wFell a_telling a_holds a_sizes a_elements a_moved a_above a_out a_first c_t c_now res l1 l2 ls _ _ h hP hD hS hl)
-- ===== X6_isShore
abbrev W_X6_isShore (E : Env0) (a_t : Nat) (a_now : Nat) (a_refused : Nat) (a_kept : Nat) (a_mind : Nat) (a_tape : Nat) (a_words : Nat) (a_wCell : Nat) (a_wFaces : Nat) (a_wTurns : Nat) (a_wSign : Nat) (a_wBy : Nat) (a_wFell : Nat) (a_telling : Nat) (a_holds : Nat) (a_sizes : Nat) (a_elements : Nat) (a_moved : Nat) (a_above : Nat) (a_out : Nat) (a_first : Nat) (c_t : Nat → Int32) (c_now : Nat → Int32) : va_W := [(a_t, .inr (6, [.ref a_refused, .ref a_now, .ref a_kept, .ref a_mind, .int (c_t 4), .ref a_tape, .int (c_t 6), .int (c_t 7), .int (c_t 8), .int (c_t 9), .ref a_words, .ref a_wCell, .ref a_wFaces, .ref a_wTurns, .ref a_wSign, .ref a_wBy, .ref a_wFell, .int (c_t 17), .ref a_telling, .ref a_holds, .ref a_sizes, .ref a_elements, .ref a_moved, .ref a_above, .ref a_out, .ref a_first])), (a_now, .inl (eI E, 97, .inl c_now))]
abbrev r_X6_isShore : Room := { frames := 2, cells := 0, slots := 0, locals := 49 }
theorem hd_X6_isShore : yX6_isShore.cls ≠ "java/lang/invoke/MethodHandle" ∧ yX6_isShore.cls ≠ "java/lang/invoke/VarHandle" ∧ (parseMethodDescriptor yX6_isShore.desc).map (fun d => d.parameters.length) = some 1 := by decide +kernel
theorem hV_X6_isShore : yX6_isShore.cls = RX6 ∧ yX6_isShore.cls ≠ "java/lang/invoke/MethodHandle" ∧ yX6_isShore.cls ≠ "java/lang/invoke/VarHandle" ∧ (parseMethodDescriptor yX6_isShore.desc).map (fun d => d.parameters.length) = some 1 := ⟨rfl, hd_X6_isShore⟩
section
variable {p : Program} {l : Launch} {e : Env} {s : State} {m : MethodId} {args : Array Value} {below : List Frame} {meth : Method} {c : Code} {E : Env0} {A : Nat → Prop}
set_option maxRecDepth 100000 in
set_option maxHeartbeats 4000000 in
theorem w_X6_isShore_b41 (X : Ctx p m meth c cX6_isShore 5 ((some .boolean)) s args wsX6_isShore RX6 E A) (a_t : Nat) (a_now : Nat) (a_refused : Nat) (a_kept : Nat) (a_mind : Nat) (a_tape : Nat) (a_words : Nat) (a_wCell : Nat) (a_wFaces : Nat) (a_wTurns : Nat) (a_wSign : Nat) (a_wBy : Nat) (a_wFell : Nat) (a_telling : Nat) (a_holds : Nat) (a_sizes : Nat) (a_elements : Nat) (a_moved : Nat) (a_above : Nat) (a_out : Nat) (a_first : Nat) (c_t : Nat → Int32) (c_now : Nat → Int32) (res : Int32) (k4 : Int32 → Int32 → Int32 → Option (Int32)) (hk4 : ∀ (l1 : Int32) (l2 : Int32) (l3 : Int32) (ls : Array Slot) (H : Heap) (locs : List Loc), k4 l1 l2 l3 = some res → va_P E.1 vwCl (W_X6_isShore E a_t a_now a_refused a_kept a_mind a_tape a_words a_wCell a_wFaces a_wTurns a_wSign a_wBy a_wFell a_telling a_holds a_sizes a_elements a_moved a_above a_out a_first c_t c_now) H → va_D A (W_X6_isShore E a_t a_now a_refused a_kept a_mind a_tape a_words a_wCell a_wFaces a_wTurns a_wSign a_wBy a_wFell a_telling a_holds a_sizes a_elements a_moved a_above a_out a_first c_t c_now) → va_S A s.heap H locs → lv_has ls 5 [(0, .ref a_t), (1, .int l1), (2, .int l2), (3, .int l3)] → W p l e r_X6_isShore s m args below meth c H locs 0 0 (MQ below (qI E A res (W_X6_isShore E a_t a_now a_refused a_kept a_mind a_tape a_words a_wCell a_wFaces a_wTurns a_wSign a_wBy a_wFell a_telling a_holds a_sizes a_elements a_moved a_above a_out a_first c_t c_now)) args s 0 0 A) (F0 m 4 ls [])) (l1 : Int32) (l3 : Int32) (s0 : Int32) (ls : Array Slot) (H : Heap) (locs : List Loc) (h : f_X6_isShore_b41 c_t c_now k4 l1 l3 s0 = some res) (hP : va_P E.1 vwCl (W_X6_isShore E a_t a_now a_refused a_kept a_mind a_tape a_words a_wCell a_wFaces a_wTurns a_wSign a_wBy a_wFell a_telling a_holds a_sizes a_elements a_moved a_above a_out a_first c_t c_now) H) (hD : va_D A (W_X6_isShore E a_t a_now a_refused a_kept a_mind a_tape a_words a_wCell a_wFaces a_wTurns a_wSign a_wBy a_wFell a_telling a_holds a_sizes a_elements a_moved a_above a_out a_first c_t c_now)) (hS : va_S A s.heap H locs) (hl : lv_has ls 5 [(0, .ref a_t), (1, .int l1), (3, .int l3)]) : W p l e r_X6_isShore s m args below meth c H locs 0 0 (MQ below (qI E A res (W_X6_isShore E a_t a_now a_refused a_kept a_mind a_tape a_words a_wCell a_wFaces a_wTurns a_wSign a_wBy a_wFell a_telling a_holds a_sizes a_elements a_moved a_above a_out a_first c_t c_now)) args s 0 0 A) (F0 m 41 ls [.int s0]) := by
  obtain ⟨hx, hb, hml, hr, hlk, hown, hts, hG, hA⟩ := id X
  have hK := hG.1
  have hN := hG.2.1
  unfold f_X6_isShore_b41 at h
  refine lv_istore_n (lv' := [(2, .int s0), (0, .ref a_t), (1, .int l1), (3, .int l3)]) hx hb dX6_isShore_41 rfl hl (by decide) rfl (fun ls hl => ?_)
  refine lv_iinc (v := (l3 + (1 : Int32))) (lv' := [(3, .int (l3 + (1 : Int32))), (2, .int s0), (0, .ref a_t), (1, .int l1)]) hx hb dX6_isShore_42 hl (k := 3) rfl rfl (by decide) rfl (fun ls hl => ?_)
  refine lv_goto (tgt := 4) hx hb dX6_isShore_45 (by decide) ?_
  exact hk4 l1 s0 (l3 + (1 : Int32)) _ _ _ h hP hD hS (lv_sub hl [2, 3, 1, 0] rfl)
set_option maxRecDepth 100000 in
set_option maxHeartbeats 4000000 in
theorem w_X6_isShore_b36 (X : Ctx p m meth c cX6_isShore 5 ((some .boolean)) s args wsX6_isShore RX6 E A) (a_t : Nat) (a_now : Nat) (a_refused : Nat) (a_kept : Nat) (a_mind : Nat) (a_tape : Nat) (a_words : Nat) (a_wCell : Nat) (a_wFaces : Nat) (a_wTurns : Nat) (a_wSign : Nat) (a_wBy : Nat) (a_wFell : Nat) (a_telling : Nat) (a_holds : Nat) (a_sizes : Nat) (a_elements : Nat) (a_moved : Nat) (a_above : Nat) (a_out : Nat) (a_first : Nat) (c_t : Nat → Int32) (c_now : Nat → Int32) (res : Int32) (k4 : Int32 → Int32 → Int32 → Option (Int32)) (hk4 : ∀ (l1 : Int32) (l2 : Int32) (l3 : Int32) (ls : Array Slot) (H : Heap) (locs : List Loc), k4 l1 l2 l3 = some res → va_P E.1 vwCl (W_X6_isShore E a_t a_now a_refused a_kept a_mind a_tape a_words a_wCell a_wFaces a_wTurns a_wSign a_wBy a_wFell a_telling a_holds a_sizes a_elements a_moved a_above a_out a_first c_t c_now) H → va_D A (W_X6_isShore E a_t a_now a_refused a_kept a_mind a_tape a_words a_wCell a_wFaces a_wTurns a_wSign a_wBy a_wFell a_telling a_holds a_sizes a_elements a_moved a_above a_out a_first c_t c_now) → va_S A s.heap H locs → lv_has ls 5 [(0, .ref a_t), (1, .int l1), (2, .int l2), (3, .int l3)] → W p l e r_X6_isShore s m args below meth c H locs 0 0 (MQ below (qI E A res (W_X6_isShore E a_t a_now a_refused a_kept a_mind a_tape a_words a_wCell a_wFaces a_wTurns a_wSign a_wBy a_wFell a_telling a_holds a_sizes a_elements a_moved a_above a_out a_first c_t c_now)) args s 0 0 A) (F0 m 4 ls [])) (l1 : Int32) (l3 : Int32) (ls : Array Slot) (H : Heap) (locs : List Loc) (h : f_X6_isShore_b36 c_t c_now k4 l1 l3 = some res) (hP : va_P E.1 vwCl (W_X6_isShore E a_t a_now a_refused a_kept a_mind a_tape a_words a_wCell a_wFaces a_wTurns a_wSign a_wBy a_wFell a_telling a_holds a_sizes a_elements a_moved a_above a_out a_first c_t c_now) H) (hD : va_D A (W_X6_isShore E a_t a_now a_refused a_kept a_mind a_tape a_words a_wCell a_wFaces a_wTurns a_wSign a_wBy a_wFell a_telling a_holds a_sizes a_elements a_moved a_above a_out a_first c_t c_now)) (hS : va_S A s.heap H locs) (hl : lv_has ls 5 [(0, .ref a_t), (1, .int l1), (3, .int l3)]) : W p l e r_X6_isShore s m args below meth c H locs 0 0 (MQ below (qI E A res (W_X6_isShore E a_t a_now a_refused a_kept a_mind a_tape a_words a_wCell a_wFaces a_wTurns a_wSign a_wBy a_wFell a_telling a_holds a_sizes a_elements a_moved a_above a_out a_first c_t c_now)) args s 0 0 A) (F0 m 36 ls []) := by
  obtain ⟨hx, hb, hml, hr, hlk, hown, hts, hG, hA⟩ := id X
  have hK := hG.1
  have hN := hG.2.1
  unfold f_X6_isShore_b36 at h
  refine lv_iconst (v := (1 : Int32)) hx hb dX6_isShore_36 (by decide) ?_
  refine lv_goto (tgt := 41) hx hb dX6_isShore_37 (by decide) ?_
  exact w_X6_isShore_b41 X a_t a_now a_refused a_kept a_mind a_tape a_words a_wCell a_wFaces a_wTurns a_wSign a_wBy a_wFell a_telling a_holds a_sizes a_elements a_moved a_above a_out a_first c_t c_now res k4 hk4 l1 l3 (1 : Int32) _ _ _ h hP hD hS (lv_sub hl [0, 1, 2] rfl)
set_option maxRecDepth 100000 in
set_option maxHeartbeats 4000000 in
theorem w_X6_isShore_b40 (X : Ctx p m meth c cX6_isShore 5 ((some .boolean)) s args wsX6_isShore RX6 E A) (a_t : Nat) (a_now : Nat) (a_refused : Nat) (a_kept : Nat) (a_mind : Nat) (a_tape : Nat) (a_words : Nat) (a_wCell : Nat) (a_wFaces : Nat) (a_wTurns : Nat) (a_wSign : Nat) (a_wBy : Nat) (a_wFell : Nat) (a_telling : Nat) (a_holds : Nat) (a_sizes : Nat) (a_elements : Nat) (a_moved : Nat) (a_above : Nat) (a_out : Nat) (a_first : Nat) (c_t : Nat → Int32) (c_now : Nat → Int32) (res : Int32) (k4 : Int32 → Int32 → Int32 → Option (Int32)) (hk4 : ∀ (l1 : Int32) (l2 : Int32) (l3 : Int32) (ls : Array Slot) (H : Heap) (locs : List Loc), k4 l1 l2 l3 = some res → va_P E.1 vwCl (W_X6_isShore E a_t a_now a_refused a_kept a_mind a_tape a_words a_wCell a_wFaces a_wTurns a_wSign a_wBy a_wFell a_telling a_holds a_sizes a_elements a_moved a_above a_out a_first c_t c_now) H → va_D A (W_X6_isShore E a_t a_now a_refused a_kept a_mind a_tape a_words a_wCell a_wFaces a_wTurns a_wSign a_wBy a_wFell a_telling a_holds a_sizes a_elements a_moved a_above a_out a_first c_t c_now) → va_S A s.heap H locs → lv_has ls 5 [(0, .ref a_t), (1, .int l1), (2, .int l2), (3, .int l3)] → W p l e r_X6_isShore s m args below meth c H locs 0 0 (MQ below (qI E A res (W_X6_isShore E a_t a_now a_refused a_kept a_mind a_tape a_words a_wCell a_wFaces a_wTurns a_wSign a_wBy a_wFell a_telling a_holds a_sizes a_elements a_moved a_above a_out a_first c_t c_now)) args s 0 0 A) (F0 m 4 ls [])) (l1 : Int32) (l3 : Int32) (ls : Array Slot) (H : Heap) (locs : List Loc) (h : f_X6_isShore_b40 c_t c_now k4 l1 l3 = some res) (hP : va_P E.1 vwCl (W_X6_isShore E a_t a_now a_refused a_kept a_mind a_tape a_words a_wCell a_wFaces a_wTurns a_wSign a_wBy a_wFell a_telling a_holds a_sizes a_elements a_moved a_above a_out a_first c_t c_now) H) (hD : va_D A (W_X6_isShore E a_t a_now a_refused a_kept a_mind a_tape a_words a_wCell a_wFaces a_wTurns a_wSign a_wBy a_wFell a_telling a_holds a_sizes a_elements a_moved a_above a_out a_first c_t c_now)) (hS : va_S A s.heap H locs) (hl : lv_has ls 5 [(0, .ref a_t), (1, .int l1), (3, .int l3)]) : W p l e r_X6_isShore s m args below meth c H locs 0 0 (MQ below (qI E A res (W_X6_isShore E a_t a_now a_refused a_kept a_mind a_tape a_words a_wCell a_wFaces a_wTurns a_wSign a_wBy a_wFell a_telling a_holds a_sizes a_elements a_moved a_above a_out a_first c_t c_now)) args s 0 0 A) (F0 m 40 ls []) := by
  obtain ⟨hx, hb, hml, hr, hlk, hown, hts, hG, hA⟩ := id X
  have hK := hG.1
  have hN := hG.2.1
  unfold f_X6_isShore_b40 at h
  refine lv_iconst (v := (0 : Int32)) hx hb dX6_isShore_40 (by decide) ?_
  exact w_X6_isShore_b41 X a_t a_now a_refused a_kept a_mind a_tape a_words a_wCell a_wFaces a_wTurns a_wSign a_wBy a_wFell a_telling a_holds a_sizes a_elements a_moved a_above a_out a_first c_t c_now res k4 hk4 l1 l3 (0 : Int32) _ _ _ h hP hD hS (lv_sub hl [0, 1, 2] rfl)
set_option maxRecDepth 100000 in
set_option maxHeartbeats 4000000 in
theorem w_X6_isShore_b4 (X : Ctx p m meth c cX6_isShore 5 ((some .boolean)) s args wsX6_isShore RX6 E A) (a_t : Nat) (a_now : Nat) (a_refused : Nat) (a_kept : Nat) (a_mind : Nat) (a_tape : Nat) (a_words : Nat) (a_wCell : Nat) (a_wFaces : Nat) (a_wTurns : Nat) (a_wSign : Nat) (a_wBy : Nat) (a_wFell : Nat) (a_telling : Nat) (a_holds : Nat) (a_sizes : Nat) (a_elements : Nat) (a_moved : Nat) (a_above : Nat) (a_out : Nat) (a_first : Nat) (c_t : Nat → Int32) (c_now : Nat → Int32) (res : Int32) : ∀ (n : Nat) (l1 : Int32) (l2 : Int32) (l3 : Int32) (ls : Array Slot) (H : Heap) (locs : List Loc), f_X6_isShore_b4 c_t c_now n l1 l2 l3 = some res → va_P E.1 vwCl (W_X6_isShore E a_t a_now a_refused a_kept a_mind a_tape a_words a_wCell a_wFaces a_wTurns a_wSign a_wBy a_wFell a_telling a_holds a_sizes a_elements a_moved a_above a_out a_first c_t c_now) H → va_D A (W_X6_isShore E a_t a_now a_refused a_kept a_mind a_tape a_words a_wCell a_wFaces a_wTurns a_wSign a_wBy a_wFell a_telling a_holds a_sizes a_elements a_moved a_above a_out a_first c_t c_now) → va_S A s.heap H locs → lv_has ls 5 [(0, .ref a_t), (1, .int l1), (2, .int l2), (3, .int l3)] → W p l e r_X6_isShore s m args below meth c H locs 0 0 (MQ below (qI E A res (W_X6_isShore E a_t a_now a_refused a_kept a_mind a_tape a_words a_wCell a_wFaces a_wTurns a_wSign a_wBy a_wFell a_telling a_holds a_sizes a_elements a_moved a_above a_out a_first c_t c_now)) args s 0 0 A) (F0 m 4 ls []) := by
  obtain ⟨hx, hb, hml, hr, hlk, hown, hts, hG, hA⟩ := id X
  have hK := hG.1
  have hN := hG.2.1
  intro n
  induction n with
  | zero =>
    intro l1 l2 l3 ls H locs h
    exact absurd (show (none : Option (Int32)) = some res from h) (by intro q; cases q)
  | succ n ih =>
    intro l1 l2 l3 ls H locs h hP hD hS hl
    rw [f_X6_isShore_b4] at h
    refine lv_iload_n hx hb dX6_isShore_4 rfl (lv_at hl 3 rfl) ?_
    refine lv_iconst (v := (4 : Int32)) hx hb dX6_isShore_5 (by decide) ?_
    refine lv_icmp_ge (tgt := 48) hx hb dX6_isShore_6 (by decide) (fun hc6 => ?_) (fun hc6 => ?_)
    · have h := if_t h hc6
      refine lv_iload_n hx hb dX6_isShore_48 rfl (lv_at hl 2 rfl) ?_
      obtain ⟨hz49, h⟩ := chk_of h
      obtain rfl := Option.some.inj h
      exact ret_z X dX6_isShore_49 hz49 hP hD hS rfl
    · have h := if_f h hc6
      refine lv_aload_n hx hb dX6_isShore_9 rfl (lv_at hl 0 rfl) ?_
      refine lv_iload_n hx hb dX6_isShore_10 rfl (lv_at hl 1 rfl) ?_
      refine lv_iload_n hx hb dX6_isShore_11 rfl (lv_at hl 3 rfl) ?_
      obtain ⟨v1, hv1, h⟩ := bind_of h
      refine after_i X (run_V X (c_X6_beside l E a_t a_now a_refused a_kept a_mind a_tape a_words a_wCell a_wFaces a_wTurns a_wSign a_wBy a_wFell a_telling a_holds a_sizes a_elements a_moved a_above a_out a_first l1 l3 c_t c_now H.size v1 hv1) (cwV 2 hts gX6_isShore_X6_beside rfl rfl rfl hV_X6_beside ⟨(Nat.le_of_ble_eq_true rfl), (Nat.le_of_ble_eq_true rfl)⟩) hP hD hS [0, 1] rfl rfl hl.1 (ci := 6) rfl rfl rfl (rest := []) rfl rfl (Nat.le_of_ble_eq_true rfl) dX6_isShore_12) hP hD hS [0, 1] [] [0, 1] rfl rfl rfl (by decide) rfl (ws1 := (W_X6_isShore E a_t a_now a_refused a_kept a_mind a_tape a_words a_wCell a_wFaces a_wTurns a_wSign a_wBy a_wFell a_telling a_holds a_sizes a_elements a_moved a_above a_out a_first c_t c_now)) rfl (fun H locs hP hD hS => ?_)
      refine lv_istore (lv' := [(4, .int v1), (0, .ref a_t), (1, .int l1), (2, .int l2), (3, .int l3)]) hx hb dX6_isShore_15 hl (by decide) rfl (fun ls hl => ?_)
      refine lv_iload_n hx hb dX6_isShore_17 rfl (lv_at hl 3 rfl) ?_
      refine lv_if_ne (tgt := 36) hx hb dX6_isShore_18 (by decide) (fun hc18 => ?_) (fun hc18 => ?_)
      · have h := if_f h hc18
        exact w_X6_isShore_b36 X a_t a_now a_refused a_kept a_mind a_tape a_words a_wCell a_wFaces a_wTurns a_wSign a_wBy a_wFell a_telling a_holds a_sizes a_elements a_moved a_above a_out a_first c_t c_now res (f_X6_isShore_b4 c_t c_now n) ih l1 l3 _ _ _ h hP hD hS (lv_sub hl [1, 2, 4] rfl)
      · have h := if_t h hc18
        refine lv_iload hx hb dX6_isShore_21 (lv_at hl 0 rfl) ?_
        refine lv_iconst (v := (-1 : Int32)) hx hb dX6_isShore_23 (by decide) ?_
        refine lv_icmp_eq (tgt := 40) hx hb dX6_isShore_24 (by decide) (fun hc24 => ?_) (fun hc24 => ?_)
        · have h := if_t h hc24
          exact w_X6_isShore_b40 X a_t a_now a_refused a_kept a_mind a_tape a_words a_wCell a_wFaces a_wTurns a_wSign a_wBy a_wFell a_telling a_holds a_sizes a_elements a_moved a_above a_out a_first c_t c_now res (f_X6_isShore_b4 c_t c_now n) ih l1 l3 _ _ _ h hP hD hS (lv_sub hl [1, 2, 4] rfl)
        · have h := if_f h hc24
          refine lv_aload_n hx hb dX6_isShore_27 rfl (lv_at hl 1 rfl) ?_
          refine lv_iload hx hb dX6_isShore_28 (lv_at hl 0 rfl) ?_
          obtain ⟨v2, hv2, h⟩ := bind_of h
          refine after_i X (run_V X (c_X6_hasPond l E a_t a_now a_refused a_kept a_mind a_tape a_words a_wCell a_wFaces a_wTurns a_wSign a_wBy a_wFell a_telling a_holds a_sizes a_elements a_moved a_above a_out a_first v1 c_t c_now H.size v2 hv2) (cwV 1 hts gX6_isShore_X6_hasPond rfl rfl rfl hV_X6_hasPond ⟨(Nat.le_of_ble_eq_true rfl), (Nat.le_of_ble_eq_true rfl)⟩) hP hD hS [0, 1] rfl rfl hl.1 (ci := 6) rfl rfl rfl (rest := []) rfl rfl (Nat.le_of_ble_eq_true rfl) dX6_isShore_30) hP hD hS [0, 1] [] [0, 1] rfl rfl rfl (by decide) rfl (ws1 := (W_X6_isShore E a_t a_now a_refused a_kept a_mind a_tape a_words a_wCell a_wFaces a_wTurns a_wSign a_wBy a_wFell a_telling a_holds a_sizes a_elements a_moved a_above a_out a_first c_t c_now)) rfl (fun H locs hP hD hS => ?_)
          refine lv_if_eq (tgt := 40) hx hb dX6_isShore_33 (by decide) (fun hc33 => ?_) (fun hc33 => ?_)
          · have h := if_t h hc33
            exact w_X6_isShore_b40 X a_t a_now a_refused a_kept a_mind a_tape a_words a_wCell a_wFaces a_wTurns a_wSign a_wBy a_wFell a_telling a_holds a_sizes a_elements a_moved a_above a_out a_first c_t c_now res (f_X6_isShore_b4 c_t c_now n) ih l1 l3 _ _ _ h hP hD hS (lv_sub hl [1, 2, 4] rfl)
          · have h := if_f h hc33
            exact w_X6_isShore_b36 X a_t a_now a_refused a_kept a_mind a_tape a_words a_wCell a_wFaces a_wTurns a_wSign a_wBy a_wFell a_telling a_holds a_sizes a_elements a_moved a_above a_out a_first c_t c_now res (f_X6_isShore_b4 c_t c_now n) ih l1 l3 _ _ _ h hP hD hS (lv_sub hl [1, 2, 4] rfl)
set_option maxRecDepth 100000 in
set_option maxHeartbeats 4000000 in
theorem w_X6_isShore (X : Ctx p m meth c cX6_isShore 5 ((some .boolean)) s args wsX6_isShore RX6 E A) (a_t : Nat) (a_now : Nat) (a_refused : Nat) (a_kept : Nat) (a_mind : Nat) (a_tape : Nat) (a_words : Nat) (a_wCell : Nat) (a_wFaces : Nat) (a_wTurns : Nat) (a_wSign : Nat) (a_wBy : Nat) (a_wFell : Nat) (a_telling : Nat) (a_holds : Nat) (a_sizes : Nat) (a_elements : Nat) (a_moved : Nat) (a_above : Nat) (a_out : Nat) (a_first : Nat) (c_t : Nat → Int32) (c_now : Nat → Int32) (res : Int32) (l1 : Int32) (ls : Array Slot) (H : Heap) (locs : List Loc) (h : f_X6_isShore l1 c_t c_now = some res) (hP : va_P E.1 vwCl (W_X6_isShore E a_t a_now a_refused a_kept a_mind a_tape a_words a_wCell a_wFaces a_wTurns a_wSign a_wBy a_wFell a_telling a_holds a_sizes a_elements a_moved a_above a_out a_first c_t c_now) H) (hD : va_D A (W_X6_isShore E a_t a_now a_refused a_kept a_mind a_tape a_words a_wCell a_wFaces a_wTurns a_wSign a_wBy a_wFell a_telling a_holds a_sizes a_elements a_moved a_above a_out a_first c_t c_now)) (hS : va_S A s.heap H locs) (hl : lv_has ls 5 [(0, .ref a_t), (1, .int l1)]) : W p l e r_X6_isShore s m args below meth c H locs 0 0 (MQ below (qI E A res (W_X6_isShore E a_t a_now a_refused a_kept a_mind a_tape a_words a_wCell a_wFaces a_wTurns a_wSign a_wBy a_wFell a_telling a_holds a_sizes a_elements a_moved a_above a_out a_first c_t c_now)) args s 0 0 A) (F0 m 0 ls []) := by
  obtain ⟨hx, hb, hml, hr, hlk, hown, hts, hG, hA⟩ := id X
  have hK := hG.1
  have hN := hG.2.1
  unfold f_X6_isShore at h
  refine lv_iconst (v := (0 : Int32)) hx hb dX6_isShore_0 (by decide) ?_
  refine lv_istore_n (lv' := [(2, .int (0 : Int32)), (0, .ref a_t), (1, .int l1)]) hx hb dX6_isShore_1 rfl hl (by decide) rfl (fun ls hl => ?_)
  refine lv_iconst (v := (0 : Int32)) hx hb dX6_isShore_2 (by decide) ?_
  refine lv_istore_n (lv' := [(3, .int (0 : Int32)), (2, .int (0 : Int32)), (0, .ref a_t), (1, .int l1)]) hx hb dX6_isShore_3 rfl hl (by decide) rfl (fun ls hl => ?_)
  exact w_X6_isShore_b4 X a_t a_now a_refused a_kept a_mind a_tape a_words a_wCell a_wFaces a_wTurns a_wSign a_wBy a_wFell a_telling a_holds a_sizes a_elements a_moved a_above a_out a_first c_t c_now res FU l1 (0 : Int32) (0 : Int32) _ _ _ h hP hD hS (lv_sub hl [2, 3, 1, 0] rfl)
end
set_option maxRecDepth 100000 in
theorem c_X6_isShore (l : Launch) (E : Env0) (a_t : Nat) (a_now : Nat) (a_refused : Nat) (a_kept : Nat) (a_mind : Nat) (a_tape : Nat) (a_words : Nat) (a_wCell : Nat) (a_wFaces : Nat) (a_wTurns : Nat) (a_wSign : Nat) (a_wBy : Nat) (a_wFell : Nat) (a_telling : Nat) (a_holds : Nat) (a_sizes : Nat) (a_elements : Nat) (a_moved : Nat) (a_above : Nat) (a_out : Nat) (a_first : Nat) (l1 : Int32) (c_t : Nat → Int32) (c_now : Nat → Int32) (sz : Nat) (res : Int32) (h : f_X6_isShore l1 c_t c_now = some res) : Met l yX6_isShore wsX6_isShore r_X6_isShore (cPre E [.ref a_t, .int l1] (W_X6_isShore E a_t a_now a_refused a_kept a_mind a_tape a_words a_wCell a_wFaces a_wTurns a_wSign a_wBy a_wFell a_telling a_holds a_sizes a_elements a_moved a_above a_out a_first c_t c_now) sz) (qI E (va_A (W_X6_isShore E a_t a_now a_refused a_kept a_mind a_tape a_words a_wCell a_wFaces a_wTurns a_wSign a_wBy a_wFell a_telling a_holds a_sizes a_elements a_moved a_above a_out a_first c_t c_now) sz) res (W_X6_isShore E a_t a_now a_refused a_kept a_mind a_tape a_words a_wCell a_wFaces a_wTurns a_wSign a_wBy a_wFell a_telling a_holds a_sizes a_elements a_moved a_above a_out a_first c_t c_now)) 0 0 (va_A (W_X6_isShore E a_t a_now a_refused a_kept a_mind a_tape a_words a_wCell a_wFaces a_wTurns a_wSign a_wBy a_wFell a_telling a_holds a_sizes a_elements a_moved a_above a_out a_first c_t c_now) sz) :=
  met_of (Qc := fun A => qI E A res (W_X6_isShore E a_t a_now a_refused a_kept a_mind a_tape a_words a_wCell a_wFaces a_wTurns a_wSign a_wBy a_wFell a_telling a_holds a_sizes a_elements a_moved a_above a_out a_first c_t c_now)) (by decide) rfl (Nat.le_of_ble_eq_true rfl) (fun p e s m args below meth c X hP hD hS ls hl => w_X6_isShore X a_t a_now a_refused a_kept a_mind a_tape a_words a_wCell a_wFaces a_wTurns a_wSign a_wBy a_wFell a_telling a_holds a_sizes a_elements a_moved a_above a_out a_first c_t c_now res l1 ls _ _ h hP hD hS hl)
-- ===== X6_add
abbrev W_X6_add (E : Env0) (a_t : Nat) (a_now : Nat) (a_refused : Nat) (a_kept : Nat) (a_mind : Nat) (a_tape : Nat) (a_words : Nat) (a_wCell : Nat) (a_wFaces : Nat) (a_wTurns : Nat) (a_wSign : Nat) (a_wBy : Nat) (a_wFell : Nat) (a_telling : Nat) (a_holds : Nat) (a_sizes : Nat) (a_elements : Nat) (a_moved : Nat) (a_above : Nat) (a_out : Nat) (a_first : Nat) (c_t : Nat → Int32) (c_now : Nat → Int32) : va_W := [(a_t, .inr (6, [.ref a_refused, .ref a_now, .ref a_kept, .ref a_mind, .int (c_t 4), .ref a_tape, .int (c_t 6), .int (c_t 7), .int (c_t 8), .int (c_t 9), .ref a_words, .ref a_wCell, .ref a_wFaces, .ref a_wTurns, .ref a_wSign, .ref a_wBy, .ref a_wFell, .int (c_t 17), .ref a_telling, .ref a_holds, .ref a_sizes, .ref a_elements, .ref a_moved, .ref a_above, .ref a_out, .ref a_first])), (a_now, .inl (eI E, 97, .inl c_now))]
abbrev r_X6_add : Room := { frames := 0, cells := 0, slots := 0, locals := 0 }
theorem hd_X6_add : yX6_add.cls ≠ "java/lang/invoke/MethodHandle" ∧ yX6_add.cls ≠ "java/lang/invoke/VarHandle" ∧ (parseMethodDescriptor yX6_add.desc).map (fun d => d.parameters.length) = some 4 := by decide +kernel
theorem hV_X6_add : yX6_add.cls = RX6 ∧ yX6_add.cls ≠ "java/lang/invoke/MethodHandle" ∧ yX6_add.cls ≠ "java/lang/invoke/VarHandle" ∧ (parseMethodDescriptor yX6_add.desc).map (fun d => d.parameters.length) = some 4 := ⟨rfl, hd_X6_add⟩
theorem iX6_add_X6 : ∀ w ∈ wsX60, w ∈ wsX6_add := fun _ h => List.mem_cons_of_mem _ (List.mem_append_right _ (h))
section
variable {p : Program} {l : Launch} {e : Env} {s : State} {m : MethodId} {args : Array Value} {below : List Frame} {meth : Method} {c : Code} {E : Env0} {A : Nat → Prop}
set_option maxRecDepth 100000 in
set_option maxHeartbeats 4000000 in
theorem w_X6_add (X : Ctx p m meth c cX6_add 6 ((some .int)) s args wsX6_add RX6 E A) (a_t : Nat) (a_now : Nat) (a_refused : Nat) (a_kept : Nat) (a_mind : Nat) (a_tape : Nat) (a_words : Nat) (a_wCell : Nat) (a_wFaces : Nat) (a_wTurns : Nat) (a_wSign : Nat) (a_wBy : Nat) (a_wFell : Nat) (a_telling : Nat) (a_holds : Nat) (a_sizes : Nat) (a_elements : Nat) (a_moved : Nat) (a_above : Nat) (a_out : Nat) (a_first : Nat) (c_t : Nat → Int32) (res : Int32 × (Nat → Int32)) (c_now : Nat → Int32) (l1 : Int32) (l2 : Int32) (l3 : Int32) (l4 : Int32) (ls : Array Slot) (H : Heap) (locs : List Loc) (h : f_X6_add l1 l2 l3 l4 c_t c_now = some res) (hP : va_P E.1 vwCl (W_X6_add E a_t a_now a_refused a_kept a_mind a_tape a_words a_wCell a_wFaces a_wTurns a_wSign a_wBy a_wFell a_telling a_holds a_sizes a_elements a_moved a_above a_out a_first c_t c_now) H) (hD : va_D A (W_X6_add E a_t a_now a_refused a_kept a_mind a_tape a_words a_wCell a_wFaces a_wTurns a_wSign a_wBy a_wFell a_telling a_holds a_sizes a_elements a_moved a_above a_out a_first c_t c_now)) (hS : va_S A s.heap H locs) (hl : lv_has ls 6 [(0, .ref a_t), (1, .int l1), (2, .int l2), (3, .int l3), (4, .int l4)]) : W p l e r_X6_add s m args below meth c H locs 0 0 (MQ below (qI E A (res.1) (W_X6_add E a_t a_now a_refused a_kept a_mind a_tape a_words a_wCell a_wFaces a_wTurns a_wSign a_wBy a_wFell a_telling a_holds a_sizes a_elements a_moved a_above a_out a_first c_t (res.2))) args s 0 0 A) (F0 m 0 ls []) := by
  obtain ⟨hx, hb, hml, hr, hlk, hown, hts, hG, hA⟩ := id X
  have hK := hG.1
  have hN := hG.2.1
  unfold f_X6_add at h
  refine lv_aload_n hx hb dX6_add_0 rfl (lv_at hl 0 rfl) ?_
  refine va_get (D := E.1) (ci := 6) (v := .ref a_now) (C := RX6) (T := TX6) (N := 26) hx hb hts iX6_add_X6 hown hK hP 0 rfl rfl 1 (by decide) (hts (.fieldLink RX6 17 "LeftIsAgreedOnModel" "now" "[I") (List.mem_of_getElem? (i := 1) rfl)) (fun _ h9 => h9) rfl dX6_add_1 ?_
  refine lv_bipush (v := (89 : Int32)) hx hb dX6_add_4 (by decide) ?_
  refine ld_i X hP 1 rfl (inb.vp (by decide)) (v := (c_now 89)) rfl dX6_add_6 ?_
  refine lv_istore (lv' := [(5, .int (c_now 89)), (0, .ref a_t), (1, .int l1), (2, .int l2), (3, .int l3), (4, .int l4)]) hx hb dX6_add_7 hl (by decide) rfl (fun ls hl => ?_)
  refine lv_aload_n hx hb dX6_add_9 rfl (lv_at hl 1 rfl) ?_
  refine va_get (D := E.1) (ci := 6) (v := .ref a_now) (C := RX6) (T := TX6) (N := 26) hx hb hts iX6_add_X6 hown hK hP 0 rfl rfl 1 (by decide) (hts (.fieldLink RX6 17 "LeftIsAgreedOnModel" "now" "[I") (List.mem_of_getElem? (i := 1) rfl)) (fun _ h9 => h9) rfl dX6_add_10 ?_
  refine lv_iconst (v := (5 : Int32)) hx hb dX6_add_13 (by decide) ?_
  refine lv_iload hx hb dX6_add_14 (lv_at hl 0 rfl) ?_
  refine lv_imul hx hb dX6_add_16 ?_
  refine lv_iload_n hx hb dX6_add_17 rfl (lv_at hl 2 rfl) ?_
  obtain ⟨hz18, h⟩ := chk_of h
  refine st_i X hP hD hS 1 rfl (inb.vp hz18) (k := (((5 : Int32) * (c_now 89))).toNatClampNeg) rfl (ws1 := (W_X6_add E a_t a_now a_refused a_kept a_mind a_tape a_words a_wCell a_wFaces a_wTurns a_wSign a_wBy a_wFell a_telling a_holds a_sizes a_elements a_moved a_above a_out a_first c_t (upd c_now ((((5 : Int32) * (c_now 89))).toNatClampNeg) l1))) rfl dX6_add_18 (fun H locs hP hD hS => ?_)
  refine lv_aload_n hx hb dX6_add_19 rfl (lv_at hl 1 rfl) ?_
  refine va_get (D := E.1) (ci := 6) (v := .ref a_now) (C := RX6) (T := TX6) (N := 26) hx hb hts iX6_add_X6 hown hK hP 0 rfl rfl 1 (by decide) (hts (.fieldLink RX6 17 "LeftIsAgreedOnModel" "now" "[I") (List.mem_of_getElem? (i := 1) rfl)) (fun _ h9 => h9) rfl dX6_add_20 ?_
  refine lv_iconst (v := (5 : Int32)) hx hb dX6_add_23 (by decide) ?_
  refine lv_iload hx hb dX6_add_24 (lv_at hl 0 rfl) ?_
  refine lv_imul hx hb dX6_add_26 ?_
  refine lv_iconst (v := (1 : Int32)) hx hb dX6_add_27 (by decide) ?_
  refine lv_iadd hx hb dX6_add_28 ?_
  refine lv_iload_n hx hb dX6_add_29 rfl (lv_at hl 3 rfl) ?_
  obtain ⟨hz30, h⟩ := chk_of h
  refine st_i X hP hD hS 1 rfl (inb.vp hz30) (k := ((((5 : Int32) * (c_now 89)) + (1 : Int32))).toNatClampNeg) rfl (ws1 := (W_X6_add E a_t a_now a_refused a_kept a_mind a_tape a_words a_wCell a_wFaces a_wTurns a_wSign a_wBy a_wFell a_telling a_holds a_sizes a_elements a_moved a_above a_out a_first c_t (upd (upd c_now ((((5 : Int32) * (c_now 89))).toNatClampNeg) l1) (((((5 : Int32) * (c_now 89)) + (1 : Int32))).toNatClampNeg) l2))) rfl dX6_add_30 (fun H locs hP hD hS => ?_)
  refine lv_aload_n hx hb dX6_add_31 rfl (lv_at hl 1 rfl) ?_
  refine va_get (D := E.1) (ci := 6) (v := .ref a_now) (C := RX6) (T := TX6) (N := 26) hx hb hts iX6_add_X6 hown hK hP 0 rfl rfl 1 (by decide) (hts (.fieldLink RX6 17 "LeftIsAgreedOnModel" "now" "[I") (List.mem_of_getElem? (i := 1) rfl)) (fun _ h9 => h9) rfl dX6_add_32 ?_
  refine lv_iconst (v := (5 : Int32)) hx hb dX6_add_35 (by decide) ?_
  refine lv_iload hx hb dX6_add_36 (lv_at hl 0 rfl) ?_
  refine lv_imul hx hb dX6_add_38 ?_
  refine lv_iconst (v := (2 : Int32)) hx hb dX6_add_39 (by decide) ?_
  refine lv_iadd hx hb dX6_add_40 ?_
  refine lv_iload_n hx hb dX6_add_41 rfl (lv_at hl 4 rfl) ?_
  obtain ⟨hz42, h⟩ := chk_of h
  refine st_i X hP hD hS 1 rfl (inb.vp hz42) (k := ((((5 : Int32) * (c_now 89)) + (2 : Int32))).toNatClampNeg) rfl (ws1 := (W_X6_add E a_t a_now a_refused a_kept a_mind a_tape a_words a_wCell a_wFaces a_wTurns a_wSign a_wBy a_wFell a_telling a_holds a_sizes a_elements a_moved a_above a_out a_first c_t (upd (upd (upd c_now ((((5 : Int32) * (c_now 89))).toNatClampNeg) l1) (((((5 : Int32) * (c_now 89)) + (1 : Int32))).toNatClampNeg) l2) (((((5 : Int32) * (c_now 89)) + (2 : Int32))).toNatClampNeg) l3))) rfl dX6_add_42 (fun H locs hP hD hS => ?_)
  refine lv_aload_n hx hb dX6_add_43 rfl (lv_at hl 1 rfl) ?_
  refine va_get (D := E.1) (ci := 6) (v := .ref a_now) (C := RX6) (T := TX6) (N := 26) hx hb hts iX6_add_X6 hown hK hP 0 rfl rfl 1 (by decide) (hts (.fieldLink RX6 17 "LeftIsAgreedOnModel" "now" "[I") (List.mem_of_getElem? (i := 1) rfl)) (fun _ h9 => h9) rfl dX6_add_44 ?_
  refine lv_iconst (v := (5 : Int32)) hx hb dX6_add_47 (by decide) ?_
  refine lv_iload hx hb dX6_add_48 (lv_at hl 0 rfl) ?_
  refine lv_imul hx hb dX6_add_50 ?_
  refine lv_iconst (v := (3 : Int32)) hx hb dX6_add_51 (by decide) ?_
  refine lv_iadd hx hb dX6_add_52 ?_
  refine lv_iload hx hb dX6_add_53 (lv_at hl 5 rfl) ?_
  obtain ⟨hz55, h⟩ := chk_of h
  refine st_i X hP hD hS 1 rfl (inb.vp hz55) (k := ((((5 : Int32) * (c_now 89)) + (3 : Int32))).toNatClampNeg) rfl (ws1 := (W_X6_add E a_t a_now a_refused a_kept a_mind a_tape a_words a_wCell a_wFaces a_wTurns a_wSign a_wBy a_wFell a_telling a_holds a_sizes a_elements a_moved a_above a_out a_first c_t (upd (upd (upd (upd c_now ((((5 : Int32) * (c_now 89))).toNatClampNeg) l1) (((((5 : Int32) * (c_now 89)) + (1 : Int32))).toNatClampNeg) l2) (((((5 : Int32) * (c_now 89)) + (2 : Int32))).toNatClampNeg) l3) (((((5 : Int32) * (c_now 89)) + (3 : Int32))).toNatClampNeg) l4))) rfl dX6_add_55 (fun H locs hP hD hS => ?_)
  refine lv_aload_n hx hb dX6_add_56 rfl (lv_at hl 1 rfl) ?_
  refine va_get (D := E.1) (ci := 6) (v := .ref a_now) (C := RX6) (T := TX6) (N := 26) hx hb hts iX6_add_X6 hown hK hP 0 rfl rfl 1 (by decide) (hts (.fieldLink RX6 17 "LeftIsAgreedOnModel" "now" "[I") (List.mem_of_getElem? (i := 1) rfl)) (fun _ h9 => h9) rfl dX6_add_57 ?_
  refine lv_iconst (v := (5 : Int32)) hx hb dX6_add_60 (by decide) ?_
  refine lv_iload hx hb dX6_add_61 (lv_at hl 0 rfl) ?_
  refine lv_imul hx hb dX6_add_63 ?_
  refine lv_iconst (v := (4 : Int32)) hx hb dX6_add_64 (by decide) ?_
  refine lv_iadd hx hb dX6_add_65 ?_
  refine lv_iconst (v := (0 : Int32)) hx hb dX6_add_66 (by decide) ?_
  obtain ⟨hz67, h⟩ := chk_of h
  refine st_i X hP hD hS 1 rfl (inb.vp hz67) (k := ((((5 : Int32) * (c_now 89)) + (4 : Int32))).toNatClampNeg) rfl (ws1 := (W_X6_add E a_t a_now a_refused a_kept a_mind a_tape a_words a_wCell a_wFaces a_wTurns a_wSign a_wBy a_wFell a_telling a_holds a_sizes a_elements a_moved a_above a_out a_first c_t (upd (upd (upd (upd (upd c_now ((((5 : Int32) * (c_now 89))).toNatClampNeg) l1) (((((5 : Int32) * (c_now 89)) + (1 : Int32))).toNatClampNeg) l2) (((((5 : Int32) * (c_now 89)) + (2 : Int32))).toNatClampNeg) l3) (((((5 : Int32) * (c_now 89)) + (3 : Int32))).toNatClampNeg) l4) (((((5 : Int32) * (c_now 89)) + (4 : Int32))).toNatClampNeg) (0 : Int32)))) rfl dX6_add_67 (fun H locs hP hD hS => ?_)
  refine lv_aload_n hx hb dX6_add_68 rfl (lv_at hl 1 rfl) ?_
  refine va_get (D := E.1) (ci := 6) (v := .ref a_now) (C := RX6) (T := TX6) (N := 26) hx hb hts iX6_add_X6 hown hK hP 0 rfl rfl 1 (by decide) (hts (.fieldLink RX6 17 "LeftIsAgreedOnModel" "now" "[I") (List.mem_of_getElem? (i := 1) rfl)) (fun _ h9 => h9) rfl dX6_add_69 ?_
  refine lv_bipush (v := (89 : Int32)) hx hb dX6_add_72 (by decide) ?_
  refine lv_dup2_11 hx hb dX6_add_74 rfl rfl ?_
  refine ld_i X hP 1 rfl (inb.vp (by decide)) (v := ((upd (upd (upd (upd (upd c_now ((((5 : Int32) * (c_now 89))).toNatClampNeg) l1) (((((5 : Int32) * (c_now 89)) + (1 : Int32))).toNatClampNeg) l2) (((((5 : Int32) * (c_now 89)) + (2 : Int32))).toNatClampNeg) l3) (((((5 : Int32) * (c_now 89)) + (3 : Int32))).toNatClampNeg) l4) (((((5 : Int32) * (c_now 89)) + (4 : Int32))).toNatClampNeg) (0 : Int32)) 89)) rfl dX6_add_75 ?_
  refine lv_iconst (v := (1 : Int32)) hx hb dX6_add_76 (by decide) ?_
  refine lv_iadd hx hb dX6_add_77 ?_
  refine st_i X hP hD hS 1 rfl (inb.vp (by decide)) (k := 89) rfl (ws1 := (W_X6_add E a_t a_now a_refused a_kept a_mind a_tape a_words a_wCell a_wFaces a_wTurns a_wSign a_wBy a_wFell a_telling a_holds a_sizes a_elements a_moved a_above a_out a_first c_t (upd (upd (upd (upd (upd (upd c_now ((((5 : Int32) * (c_now 89))).toNatClampNeg) l1) (((((5 : Int32) * (c_now 89)) + (1 : Int32))).toNatClampNeg) l2) (((((5 : Int32) * (c_now 89)) + (2 : Int32))).toNatClampNeg) l3) (((((5 : Int32) * (c_now 89)) + (3 : Int32))).toNatClampNeg) l4) (((((5 : Int32) * (c_now 89)) + (4 : Int32))).toNatClampNeg) (0 : Int32)) 89 (((upd (upd (upd (upd (upd c_now ((((5 : Int32) * (c_now 89))).toNatClampNeg) l1) (((((5 : Int32) * (c_now 89)) + (1 : Int32))).toNatClampNeg) l2) (((((5 : Int32) * (c_now 89)) + (2 : Int32))).toNatClampNeg) l3) (((((5 : Int32) * (c_now 89)) + (3 : Int32))).toNatClampNeg) l4) (((((5 : Int32) * (c_now 89)) + (4 : Int32))).toNatClampNeg) (0 : Int32)) 89) + (1 : Int32))))) rfl dX6_add_78 (fun H locs hP hD hS => ?_)
  refine lv_iload hx hb dX6_add_79 (lv_at hl 0 rfl) ?_
  obtain rfl := Option.some.inj h
  exact ret_i X dX6_add_81 hP hD hS rfl
end
set_option maxRecDepth 100000 in
theorem c_X6_add (l : Launch) (E : Env0) (a_t : Nat) (a_now : Nat) (a_refused : Nat) (a_kept : Nat) (a_mind : Nat) (a_tape : Nat) (a_words : Nat) (a_wCell : Nat) (a_wFaces : Nat) (a_wTurns : Nat) (a_wSign : Nat) (a_wBy : Nat) (a_wFell : Nat) (a_telling : Nat) (a_holds : Nat) (a_sizes : Nat) (a_elements : Nat) (a_moved : Nat) (a_above : Nat) (a_out : Nat) (a_first : Nat) (l1 : Int32) (l2 : Int32) (l3 : Int32) (l4 : Int32) (c_t : Nat → Int32) (c_now : Nat → Int32) (sz : Nat) (res : Int32 × (Nat → Int32)) (h : f_X6_add l1 l2 l3 l4 c_t c_now = some res) : Met l yX6_add wsX6_add r_X6_add (cPre E [.ref a_t, .int l1, .int l2, .int l3, .int l4] (W_X6_add E a_t a_now a_refused a_kept a_mind a_tape a_words a_wCell a_wFaces a_wTurns a_wSign a_wBy a_wFell a_telling a_holds a_sizes a_elements a_moved a_above a_out a_first c_t c_now) sz) (qI E (va_A (W_X6_add E a_t a_now a_refused a_kept a_mind a_tape a_words a_wCell a_wFaces a_wTurns a_wSign a_wBy a_wFell a_telling a_holds a_sizes a_elements a_moved a_above a_out a_first c_t c_now) sz) (res.1) (W_X6_add E a_t a_now a_refused a_kept a_mind a_tape a_words a_wCell a_wFaces a_wTurns a_wSign a_wBy a_wFell a_telling a_holds a_sizes a_elements a_moved a_above a_out a_first c_t (res.2))) 0 0 (va_A (W_X6_add E a_t a_now a_refused a_kept a_mind a_tape a_words a_wCell a_wFaces a_wTurns a_wSign a_wBy a_wFell a_telling a_holds a_sizes a_elements a_moved a_above a_out a_first c_t c_now) sz) :=
  met_of (Qc := fun A => qI E A (res.1) (W_X6_add E a_t a_now a_refused a_kept a_mind a_tape a_words a_wCell a_wFaces a_wTurns a_wSign a_wBy a_wFell a_telling a_holds a_sizes a_elements a_moved a_above a_out a_first c_t (res.2))) (by decide) rfl (Nat.le_of_ble_eq_true rfl) (fun p e s m args below meth c X hP hD hS ls hl => w_X6_add X a_t a_now a_refused a_kept a_mind a_tape a_words a_wCell a_wFaces a_wTurns a_wSign a_wBy a_wFell a_telling a_holds a_sizes a_elements a_moved a_above a_out a_first c_t res c_now l1 l2 l3 l4 ls _ _ h hP hD hS hl)
-- ===== X6_side
abbrev W_X6_side (E : Env0) (a_t : Nat) (a_now : Nat) (a_refused : Nat) (a_kept : Nat) (a_mind : Nat) (a_tape : Nat) (a_words : Nat) (a_wCell : Nat) (a_wFaces : Nat) (a_wTurns : Nat) (a_wSign : Nat) (a_wBy : Nat) (a_wFell : Nat) (a_telling : Nat) (a_holds : Nat) (a_sizes : Nat) (a_elements : Nat) (a_moved : Nat) (a_above : Nat) (a_out : Nat) (a_first : Nat) (c_t : Nat → Int32) (c_now : Nat → Int32) (c_refused : Nat → Int32) : va_W := [(a_t, .inr (6, [.ref a_refused, .ref a_now, .ref a_kept, .ref a_mind, .int (c_t 4), .ref a_tape, .int (c_t 6), .int (c_t 7), .int (c_t 8), .int (c_t 9), .ref a_words, .ref a_wCell, .ref a_wFaces, .ref a_wTurns, .ref a_wSign, .ref a_wBy, .ref a_wFell, .int (c_t 17), .ref a_telling, .ref a_holds, .ref a_sizes, .ref a_elements, .ref a_moved, .ref a_above, .ref a_out, .ref a_first])), (a_now, .inl (eI E, 97, .inl c_now)), (a_refused, .inl (eI E, 7, .inl c_refused))]
abbrev r_X6_side : Room := { frames := 1, cells := 0, slots := 0, locals := 25 }
theorem hd_X6_side : yX6_side.cls ≠ "java/lang/invoke/MethodHandle" ∧ yX6_side.cls ≠ "java/lang/invoke/VarHandle" ∧ (parseMethodDescriptor yX6_side.desc).map (fun d => d.parameters.length) = some 1 := by decide +kernel
theorem hV_X6_side : yX6_side.cls = RX6 ∧ yX6_side.cls ≠ "java/lang/invoke/MethodHandle" ∧ yX6_side.cls ≠ "java/lang/invoke/VarHandle" ∧ (parseMethodDescriptor yX6_side.desc).map (fun d => d.parameters.length) = some 1 := ⟨rfl, hd_X6_side⟩
theorem iX6_side_X6 : ∀ w ∈ wsX60, w ∈ wsX6_side := fun _ h => List.mem_cons_of_mem _ (List.mem_append_right _ (h))
section
variable {p : Program} {l : Launch} {e : Env} {s : State} {m : MethodId} {args : Array Value} {below : List Frame} {meth : Method} {c : Code} {E : Env0} {A : Nat → Prop}
set_option maxRecDepth 100000 in
set_option maxHeartbeats 4000000 in
theorem w_X6_side (X : Ctx p m meth c cX6_side 3 ((some .int)) s args wsX6_side RX6 E A) (a_t : Nat) (a_now : Nat) (a_refused : Nat) (a_kept : Nat) (a_mind : Nat) (a_tape : Nat) (a_words : Nat) (a_wCell : Nat) (a_wFaces : Nat) (a_wTurns : Nat) (a_wSign : Nat) (a_wBy : Nat) (a_wFell : Nat) (a_telling : Nat) (a_holds : Nat) (a_sizes : Nat) (a_elements : Nat) (a_moved : Nat) (a_above : Nat) (a_out : Nat) (a_first : Nat) (c_t : Nat → Int32) (res : Int32 × (Nat → Int32) × (Nat → Int32)) (c_now : Nat → Int32) (c_refused : Nat → Int32) (l1 : Int32) (ls : Array Slot) (H : Heap) (locs : List Loc) (h : f_X6_side l1 c_t c_now c_refused = some res) (hP : va_P E.1 vwCl (W_X6_side E a_t a_now a_refused a_kept a_mind a_tape a_words a_wCell a_wFaces a_wTurns a_wSign a_wBy a_wFell a_telling a_holds a_sizes a_elements a_moved a_above a_out a_first c_t c_now c_refused) H) (hD : va_D A (W_X6_side E a_t a_now a_refused a_kept a_mind a_tape a_words a_wCell a_wFaces a_wTurns a_wSign a_wBy a_wFell a_telling a_holds a_sizes a_elements a_moved a_above a_out a_first c_t c_now c_refused)) (hS : va_S A s.heap H locs) (hl : lv_has ls 3 [(0, .ref a_t), (1, .int l1)]) : W p l e r_X6_side s m args below meth c H locs 0 0 (MQ below (qI E A (res.1) (W_X6_side E a_t a_now a_refused a_kept a_mind a_tape a_words a_wCell a_wFaces a_wTurns a_wSign a_wBy a_wFell a_telling a_holds a_sizes a_elements a_moved a_above a_out a_first c_t (res.2.1) (res.2.2))) args s 0 0 A) (F0 m 0 ls []) := by
  obtain ⟨hx, hb, hml, hr, hlk, hown, hts, hG, hA⟩ := id X
  have hK := hG.1
  have hN := hG.2.1
  unfold f_X6_side at h
  refine lv_iload_n hx hb dX6_side_0 rfl (lv_at hl 1 rfl) ?_
  refine lv_i2l (v := (l1.toInt64)) hx hb dX6_side_1 rfl ?_
  refine lv_aload_n hx hb dX6_side_2 rfl (lv_at hl 0 rfl) ?_
  refine va_get (D := E.1) (ci := 6) (v := .ref a_now) (C := RX6) (T := TX6) (N := 26) hx hb hts iX6_side_X6 hown hK hP 0 rfl rfl 1 (by decide) (hts (.fieldLink RX6 17 "LeftIsAgreedOnModel" "now" "[I") (List.mem_of_getElem? (i := 1) rfl)) (fun _ h9 => h9) rfl dX6_side_3 ?_
  refine lv_bipush (v := (90 : Int32)) hx hb dX6_side_6 (by decide) ?_
  refine ld_i X hP 1 rfl (inb.vp (by decide)) (v := (c_now 90)) rfl dX6_side_8 ?_
  refine lv_i2l (v := ((c_now 90).toInt64)) hx hb dX6_side_9 rfl ?_
  refine lv_ldc2 (v := (7 : Int64)) hx hb hown (hts (.constantLong RX6 99 (7)) (List.mem_of_getElem? (i := 2) rfl)) dX6_side_10 ?_
  obtain ⟨v1, hv1, h⟩ := bind_of h
  refine after_i X (run_S X (c_X6_isIn l E (l1.toInt64) ((c_now 90).toInt64) (7 : Int64) H.size v1 hv1) (va_cwS 3 hts gX6_side_X6_isIn rfl rfl rfl hd_X6_isIn ⟨(Nat.le_of_ble_eq_true rfl), (Nat.le_of_ble_eq_true rfl)⟩) hP hD hS [] rfl rfl hl.1 (rest := []) rfl rfl (Nat.le_of_ble_eq_true rfl) dX6_side_13) hP hD hS [] [0, 1, 2] [0, 1, 2] rfl rfl rfl (by decide) rfl (ws1 := (W_X6_side E a_t a_now a_refused a_kept a_mind a_tape a_words a_wCell a_wFaces a_wTurns a_wSign a_wBy a_wFell a_telling a_holds a_sizes a_elements a_moved a_above a_out a_first c_t c_now c_refused)) rfl (fun H locs hP hD hS => ?_)
  refine lv_if_ne (tgt := 26) hx hb dX6_side_16 (by decide) (fun hc16 => ?_) (fun hc16 => ?_)
  · have h := if_f h hc16
    refine lv_aload_n hx hb dX6_side_26 rfl (lv_at hl 0 rfl) ?_
    refine va_get (D := E.1) (ci := 6) (v := .ref a_now) (C := RX6) (T := TX6) (N := 26) hx hb hts iX6_side_X6 hown hK hP 0 rfl rfl 1 (by decide) (hts (.fieldLink RX6 17 "LeftIsAgreedOnModel" "now" "[I") (List.mem_of_getElem? (i := 1) rfl)) (fun _ h9 => h9) rfl dX6_side_27 ?_
    refine lv_bipush (v := (90 : Int32)) hx hb dX6_side_30 (by decide) ?_
    refine ld_i X hP 1 rfl (inb.vp (by decide)) (v := (c_now 90)) rfl dX6_side_32 ?_
    refine lv_istore_n (lv' := [(2, .int (c_now 90)), (0, .ref a_t), (1, .int l1)]) hx hb dX6_side_33 rfl hl (by decide) rfl (fun ls hl => ?_)
    refine lv_aload_n hx hb dX6_side_34 rfl (lv_at hl 1 rfl) ?_
    refine va_get (D := E.1) (ci := 6) (v := .ref a_now) (C := RX6) (T := TX6) (N := 26) hx hb hts iX6_side_X6 hown hK hP 0 rfl rfl 1 (by decide) (hts (.fieldLink RX6 17 "LeftIsAgreedOnModel" "now" "[I") (List.mem_of_getElem? (i := 1) rfl)) (fun _ h9 => h9) rfl dX6_side_35 ?_
    refine lv_bipush (v := (90 : Int32)) hx hb dX6_side_38 (by decide) ?_
    refine lv_iload_n hx hb dX6_side_40 rfl (lv_at hl 2 rfl) ?_
    refine st_i X hP hD hS 1 rfl (inb.vp (by decide)) (k := 90) rfl (ws1 := (W_X6_side E a_t a_now a_refused a_kept a_mind a_tape a_words a_wCell a_wFaces a_wTurns a_wSign a_wBy a_wFell a_telling a_holds a_sizes a_elements a_moved a_above a_out a_first c_t (upd c_now 90 l1) c_refused)) rfl dX6_side_41 (fun H locs hP hD hS => ?_)
    refine lv_iload_n hx hb dX6_side_42 rfl (lv_at hl 0 rfl) ?_
    obtain rfl := Option.some.inj h
    exact ret_i X dX6_side_43 hP hD hS rfl
  · have h := if_t h hc16
    refine lv_aload_n hx hb dX6_side_19 rfl (lv_at hl 0 rfl) ?_
    refine lv_bipush (v := (-2 : Int32)) hx hb dX6_side_20 (by decide) ?_
    obtain ⟨v2, hv2, h⟩ := bind_of h
    refine after_i X (run_V X (c_X6_refuse l E a_t a_refused a_now a_kept a_mind a_tape a_words a_wCell a_wFaces a_wTurns a_wSign a_wBy a_wFell a_telling a_holds a_sizes a_elements a_moved a_above a_out a_first (-2 : Int32) c_t c_refused H.size v2 hv2) (cwV 1 hts gX6_side_X6_refuse rfl rfl rfl hV_X6_refuse ⟨(Nat.le_of_ble_eq_true rfl), (Nat.le_of_ble_eq_true rfl)⟩) hP hD hS [0, 2] rfl rfl hl.1 (ci := 6) rfl rfl rfl (rest := []) rfl rfl (Nat.le_of_ble_eq_true rfl) dX6_side_22) hP hD hS [0, 2] [1] [1, 0, 2] rfl rfl rfl (by decide) rfl (ws1 := (W_X6_side E a_t a_now a_refused a_kept a_mind a_tape a_words a_wCell a_wFaces a_wTurns a_wSign a_wBy a_wFell a_telling a_holds a_sizes a_elements a_moved a_above a_out a_first c_t c_now (v2.2))) rfl (fun H locs hP hD hS => ?_)
    obtain rfl := Option.some.inj h
    exact ret_i X dX6_side_25 hP hD hS rfl
end
set_option maxRecDepth 100000 in
theorem c_X6_side (l : Launch) (E : Env0) (a_t : Nat) (a_now : Nat) (a_refused : Nat) (a_kept : Nat) (a_mind : Nat) (a_tape : Nat) (a_words : Nat) (a_wCell : Nat) (a_wFaces : Nat) (a_wTurns : Nat) (a_wSign : Nat) (a_wBy : Nat) (a_wFell : Nat) (a_telling : Nat) (a_holds : Nat) (a_sizes : Nat) (a_elements : Nat) (a_moved : Nat) (a_above : Nat) (a_out : Nat) (a_first : Nat) (l1 : Int32) (c_t : Nat → Int32) (c_now : Nat → Int32) (c_refused : Nat → Int32) (sz : Nat) (res : Int32 × (Nat → Int32) × (Nat → Int32)) (h : f_X6_side l1 c_t c_now c_refused = some res) : Met l yX6_side wsX6_side r_X6_side (cPre E [.ref a_t, .int l1] (W_X6_side E a_t a_now a_refused a_kept a_mind a_tape a_words a_wCell a_wFaces a_wTurns a_wSign a_wBy a_wFell a_telling a_holds a_sizes a_elements a_moved a_above a_out a_first c_t c_now c_refused) sz) (qI E (va_A (W_X6_side E a_t a_now a_refused a_kept a_mind a_tape a_words a_wCell a_wFaces a_wTurns a_wSign a_wBy a_wFell a_telling a_holds a_sizes a_elements a_moved a_above a_out a_first c_t c_now c_refused) sz) (res.1) (W_X6_side E a_t a_now a_refused a_kept a_mind a_tape a_words a_wCell a_wFaces a_wTurns a_wSign a_wBy a_wFell a_telling a_holds a_sizes a_elements a_moved a_above a_out a_first c_t (res.2.1) (res.2.2))) 0 0 (va_A (W_X6_side E a_t a_now a_refused a_kept a_mind a_tape a_words a_wCell a_wFaces a_wTurns a_wSign a_wBy a_wFell a_telling a_holds a_sizes a_elements a_moved a_above a_out a_first c_t c_now c_refused) sz) :=
  met_of (Qc := fun A => qI E A (res.1) (W_X6_side E a_t a_now a_refused a_kept a_mind a_tape a_words a_wCell a_wFaces a_wTurns a_wSign a_wBy a_wFell a_telling a_holds a_sizes a_elements a_moved a_above a_out a_first c_t (res.2.1) (res.2.2))) (by decide) rfl (Nat.le_of_ble_eq_true rfl) (fun p e s m args below meth c X hP hD hS ls hl => w_X6_side X a_t a_now a_refused a_kept a_mind a_tape a_words a_wCell a_wFaces a_wTurns a_wSign a_wBy a_wFell a_telling a_holds a_sizes a_elements a_moved a_above a_out a_first c_t res c_now c_refused l1 ls _ _ h hP hD hS hl)
-- ===== X6_pond
abbrev W_X6_pond (E : Env0) (a_t : Nat) (a_now : Nat) (a_refused : Nat) (a_kept : Nat) (a_mind : Nat) (a_tape : Nat) (a_words : Nat) (a_wCell : Nat) (a_wFaces : Nat) (a_wTurns : Nat) (a_wSign : Nat) (a_wBy : Nat) (a_wFell : Nat) (a_telling : Nat) (a_holds : Nat) (a_sizes : Nat) (a_elements : Nat) (a_moved : Nat) (a_above : Nat) (a_out : Nat) (a_first : Nat) (c_t : Nat → Int32) (c_now : Nat → Int32) (c_refused : Nat → Int32) : va_W := [(a_t, .inr (6, [.ref a_refused, .ref a_now, .ref a_kept, .ref a_mind, .int (c_t 4), .ref a_tape, .int (c_t 6), .int (c_t 7), .int (c_t 8), .int (c_t 9), .ref a_words, .ref a_wCell, .ref a_wFaces, .ref a_wTurns, .ref a_wSign, .ref a_wBy, .ref a_wFell, .int (c_t 17), .ref a_telling, .ref a_holds, .ref a_sizes, .ref a_elements, .ref a_moved, .ref a_above, .ref a_out, .ref a_first])), (a_now, .inl (eI E, 97, .inl c_now)), (a_refused, .inl (eI E, 7, .inl c_refused))]
abbrev r_X6_pond : Room := { frames := 2, cells := 0, slots := 0, locals := 44 }
theorem hd_X6_pond : yX6_pond.cls ≠ "java/lang/invoke/MethodHandle" ∧ yX6_pond.cls ≠ "java/lang/invoke/VarHandle" ∧ (parseMethodDescriptor yX6_pond.desc).map (fun d => d.parameters.length) = some 2 := by decide +kernel
theorem hV_X6_pond : yX6_pond.cls = RX6 ∧ yX6_pond.cls ≠ "java/lang/invoke/MethodHandle" ∧ yX6_pond.cls ≠ "java/lang/invoke/VarHandle" ∧ (parseMethodDescriptor yX6_pond.desc).map (fun d => d.parameters.length) = some 2 := ⟨rfl, hd_X6_pond⟩
theorem iX6_pond_X6 : ∀ w ∈ wsX60, w ∈ wsX6_pond := fun _ h => List.mem_cons_of_mem _ (List.mem_append_right _ (h))
section
variable {p : Program} {l : Launch} {e : Env} {s : State} {m : MethodId} {args : Array Value} {below : List Frame} {meth : Method} {c : Code} {E : Env0} {A : Nat → Prop}
set_option maxRecDepth 100000 in
set_option maxHeartbeats 4000000 in
theorem w_X6_pond_b61 (X : Ctx p m meth c cX6_pond 4 ((some .int)) s args wsX6_pond RX6 E A) (a_t : Nat) (a_now : Nat) (a_refused : Nat) (a_kept : Nat) (a_mind : Nat) (a_tape : Nat) (a_words : Nat) (a_wCell : Nat) (a_wFaces : Nat) (a_wTurns : Nat) (a_wSign : Nat) (a_wBy : Nat) (a_wFell : Nat) (a_telling : Nat) (a_holds : Nat) (a_sizes : Nat) (a_elements : Nat) (a_moved : Nat) (a_above : Nat) (a_out : Nat) (a_first : Nat) (c_t : Nat → Int32) (res : Int32 × (Nat → Int32) × (Nat → Int32)) (c_now : Nat → Int32) (c_refused : Nat → Int32) (l3 : Int32) (s0 : Int32) (s1 : Int32) (ls : Array Slot) (H : Heap) (locs : List Loc) (h : f_X6_pond_b61 c_t c_now c_refused l3 s0 s1 = some res) (hP : va_P E.1 vwCl (W_X6_pond E a_t a_now a_refused a_kept a_mind a_tape a_words a_wCell a_wFaces a_wTurns a_wSign a_wBy a_wFell a_telling a_holds a_sizes a_elements a_moved a_above a_out a_first c_t c_now c_refused) H) (hD : va_D A (W_X6_pond E a_t a_now a_refused a_kept a_mind a_tape a_words a_wCell a_wFaces a_wTurns a_wSign a_wBy a_wFell a_telling a_holds a_sizes a_elements a_moved a_above a_out a_first c_t c_now c_refused)) (hS : va_S A s.heap H locs) (hl : lv_has ls 4 [(3, .int l3)]) : W p l e r_X6_pond s m args below meth c H locs 0 0 (MQ below (qI E A (res.1) (W_X6_pond E a_t a_now a_refused a_kept a_mind a_tape a_words a_wCell a_wFaces a_wTurns a_wSign a_wBy a_wFell a_telling a_holds a_sizes a_elements a_moved a_above a_out a_first c_t (res.2.1) (res.2.2))) args s 0 0 A) (F0 m 61 ls [.int s0, .int s1, .ref a_now]) := by
  obtain ⟨hx, hb, hml, hr, hlk, hown, hts, hG, hA⟩ := id X
  have hK := hG.1
  have hN := hG.2.1
  unfold f_X6_pond_b61 at h
  obtain ⟨hz61, h⟩ := chk_of h
  refine st_i X hP hD hS 1 rfl (inb.vp hz61) (k := (s1).toNatClampNeg) rfl (ws1 := (W_X6_pond E a_t a_now a_refused a_kept a_mind a_tape a_words a_wCell a_wFaces a_wTurns a_wSign a_wBy a_wFell a_telling a_holds a_sizes a_elements a_moved a_above a_out a_first c_t (upd c_now ((s1).toNatClampNeg) s0) c_refused)) rfl dX6_pond_61 (fun H locs hP hD hS => ?_)
  refine lv_iload_n hx hb dX6_pond_62 rfl (lv_at hl 0 rfl) ?_
  obtain rfl := Option.some.inj h
  exact ret_i X dX6_pond_63 hP hD hS rfl
set_option maxRecDepth 100000 in
set_option maxHeartbeats 4000000 in
theorem w_X6_pond_b34 (X : Ctx p m meth c cX6_pond 4 ((some .int)) s args wsX6_pond RX6 E A) (a_t : Nat) (a_now : Nat) (a_refused : Nat) (a_kept : Nat) (a_mind : Nat) (a_tape : Nat) (a_words : Nat) (a_wCell : Nat) (a_wFaces : Nat) (a_wTurns : Nat) (a_wSign : Nat) (a_wBy : Nat) (a_wFell : Nat) (a_telling : Nat) (a_holds : Nat) (a_sizes : Nat) (a_elements : Nat) (a_moved : Nat) (a_above : Nat) (a_out : Nat) (a_first : Nat) (c_t : Nat → Int32) (res : Int32 × (Nat → Int32) × (Nat → Int32)) (c_now : Nat → Int32) (c_refused : Nat → Int32) (l1 : Int32) (l2 : Int32) (ls : Array Slot) (H : Heap) (locs : List Loc) (h : f_X6_pond_b34 c_t c_now c_refused l1 l2 = some res) (hP : va_P E.1 vwCl (W_X6_pond E a_t a_now a_refused a_kept a_mind a_tape a_words a_wCell a_wFaces a_wTurns a_wSign a_wBy a_wFell a_telling a_holds a_sizes a_elements a_moved a_above a_out a_first c_t c_now c_refused) H) (hD : va_D A (W_X6_pond E a_t a_now a_refused a_kept a_mind a_tape a_words a_wCell a_wFaces a_wTurns a_wSign a_wBy a_wFell a_telling a_holds a_sizes a_elements a_moved a_above a_out a_first c_t c_now c_refused)) (hS : va_S A s.heap H locs) (hl : lv_has ls 4 [(0, .ref a_t), (1, .int l1), (2, .int l2)]) : W p l e r_X6_pond s m args below meth c H locs 0 0 (MQ below (qI E A (res.1) (W_X6_pond E a_t a_now a_refused a_kept a_mind a_tape a_words a_wCell a_wFaces a_wTurns a_wSign a_wBy a_wFell a_telling a_holds a_sizes a_elements a_moved a_above a_out a_first c_t (res.2.1) (res.2.2))) args s 0 0 A) (F0 m 34 ls []) := by
  obtain ⟨hx, hb, hml, hr, hlk, hown, hts, hG, hA⟩ := id X
  have hK := hG.1
  have hN := hG.2.1
  unfold f_X6_pond_b34 at h
  refine lv_aload_n hx hb dX6_pond_34 rfl (lv_at hl 0 rfl) ?_
  refine va_get (D := E.1) (ci := 6) (v := .ref a_now) (C := RX6) (T := TX6) (N := 26) hx hb hts iX6_pond_X6 hown hK hP 0 rfl rfl 1 (by decide) (hts (.fieldLink RX6 17 "LeftIsAgreedOnModel" "now" "[I") (List.mem_of_getElem? (i := 1) rfl)) (fun _ h9 => h9) rfl dX6_pond_35 ?_
  refine lv_iload_n hx hb dX6_pond_38 rfl (lv_at hl 1 rfl) ?_
  obtain ⟨v1, hv1, h⟩ := bind_of h
  refine after_i X (run_S X (c_X6_pondAt l E l1 H.size v1 hv1) (va_cwS 1 hts gX6_pond_X6_pondAt rfl rfl rfl hd_X6_pondAt ⟨(Nat.le_of_ble_eq_true rfl), (Nat.le_of_ble_eq_true rfl)⟩) hP hD hS [] rfl rfl hl.1 (rest := [.ref a_now]) rfl rfl (Nat.le_of_ble_eq_true rfl) dX6_pond_39) hP hD hS [] [0, 1, 2] [0, 1, 2] rfl rfl rfl (by decide) rfl (ws1 := (W_X6_pond E a_t a_now a_refused a_kept a_mind a_tape a_words a_wCell a_wFaces a_wTurns a_wSign a_wBy a_wFell a_telling a_holds a_sizes a_elements a_moved a_above a_out a_first c_t c_now c_refused)) rfl (fun H locs hP hD hS => ?_)
  obtain ⟨hz42, h⟩ := chk_of h
  refine ld_i X hP 1 rfl (inb.vp hz42) (v := (c_now (v1).toNatClampNeg)) rfl dX6_pond_42 ?_
  refine lv_istore_n (lv' := [(3, .int (c_now (v1).toNatClampNeg)), (0, .ref a_t), (1, .int l1), (2, .int l2)]) hx hb dX6_pond_43 rfl hl (by decide) rfl (fun ls hl => ?_)
  refine lv_aload_n hx hb dX6_pond_44 rfl (lv_at hl 1 rfl) ?_
  refine va_get (D := E.1) (ci := 6) (v := .ref a_now) (C := RX6) (T := TX6) (N := 26) hx hb hts iX6_pond_X6 hown hK hP 0 rfl rfl 1 (by decide) (hts (.fieldLink RX6 17 "LeftIsAgreedOnModel" "now" "[I") (List.mem_of_getElem? (i := 1) rfl)) (fun _ h9 => h9) rfl dX6_pond_45 ?_
  refine lv_iload_n hx hb dX6_pond_48 rfl (lv_at hl 2 rfl) ?_
  obtain ⟨v2, hv2, h⟩ := bind_of h
  refine after_i X (run_S X (c_X6_pondAt l E l1 H.size v2 hv2) (va_cwS 1 hts gX6_pond_X6_pondAt rfl rfl rfl hd_X6_pondAt ⟨(Nat.le_of_ble_eq_true rfl), (Nat.le_of_ble_eq_true rfl)⟩) hP hD hS [] rfl rfl hl.1 (rest := [.ref a_now]) rfl rfl (Nat.le_of_ble_eq_true rfl) dX6_pond_49) hP hD hS [] [0, 1, 2] [0, 1, 2] rfl rfl rfl (by decide) rfl (ws1 := (W_X6_pond E a_t a_now a_refused a_kept a_mind a_tape a_words a_wCell a_wFaces a_wTurns a_wSign a_wBy a_wFell a_telling a_holds a_sizes a_elements a_moved a_above a_out a_first c_t c_now c_refused)) rfl (fun H locs hP hD hS => ?_)
  refine lv_iload_n hx hb dX6_pond_52 rfl (lv_at hl 3 rfl) ?_
  refine lv_if_eq (tgt := 60) hx hb dX6_pond_53 (by decide) (fun hc53 => ?_) (fun hc53 => ?_)
  · have h := if_t h hc53
    refine lv_iconst (v := (0 : Int32)) hx hb dX6_pond_60 (by decide) ?_
    exact w_X6_pond_b61 X a_t a_now a_refused a_kept a_mind a_tape a_words a_wCell a_wFaces a_wTurns a_wSign a_wBy a_wFell a_telling a_holds a_sizes a_elements a_moved a_above a_out a_first c_t res c_now c_refused (c_now (v1).toNatClampNeg) (0 : Int32) v2 _ _ _ h hP hD hS (lv_sub hl [0] rfl)
  · have h := if_f h hc53
    refine lv_iconst (v := (1 : Int32)) hx hb dX6_pond_56 (by decide) ?_
    refine lv_goto (tgt := 61) hx hb dX6_pond_57 (by decide) ?_
    exact w_X6_pond_b61 X a_t a_now a_refused a_kept a_mind a_tape a_words a_wCell a_wFaces a_wTurns a_wSign a_wBy a_wFell a_telling a_holds a_sizes a_elements a_moved a_above a_out a_first c_t res c_now c_refused (c_now (v1).toNatClampNeg) (1 : Int32) v2 _ _ _ h hP hD hS (lv_sub hl [0] rfl)
set_option maxRecDepth 100000 in
set_option maxHeartbeats 4000000 in
theorem w_X6_pond (X : Ctx p m meth c cX6_pond 4 ((some .int)) s args wsX6_pond RX6 E A) (a_t : Nat) (a_now : Nat) (a_refused : Nat) (a_kept : Nat) (a_mind : Nat) (a_tape : Nat) (a_words : Nat) (a_wCell : Nat) (a_wFaces : Nat) (a_wTurns : Nat) (a_wSign : Nat) (a_wBy : Nat) (a_wFell : Nat) (a_telling : Nat) (a_holds : Nat) (a_sizes : Nat) (a_elements : Nat) (a_moved : Nat) (a_above : Nat) (a_out : Nat) (a_first : Nat) (c_t : Nat → Int32) (res : Int32 × (Nat → Int32) × (Nat → Int32)) (c_now : Nat → Int32) (c_refused : Nat → Int32) (l1 : Int32) (l2 : Int32) (ls : Array Slot) (H : Heap) (locs : List Loc) (h : f_X6_pond l1 l2 c_t c_now c_refused = some res) (hP : va_P E.1 vwCl (W_X6_pond E a_t a_now a_refused a_kept a_mind a_tape a_words a_wCell a_wFaces a_wTurns a_wSign a_wBy a_wFell a_telling a_holds a_sizes a_elements a_moved a_above a_out a_first c_t c_now c_refused) H) (hD : va_D A (W_X6_pond E a_t a_now a_refused a_kept a_mind a_tape a_words a_wCell a_wFaces a_wTurns a_wSign a_wBy a_wFell a_telling a_holds a_sizes a_elements a_moved a_above a_out a_first c_t c_now c_refused)) (hS : va_S A s.heap H locs) (hl : lv_has ls 4 [(0, .ref a_t), (1, .int l1), (2, .int l2)]) : W p l e r_X6_pond s m args below meth c H locs 0 0 (MQ below (qI E A (res.1) (W_X6_pond E a_t a_now a_refused a_kept a_mind a_tape a_words a_wCell a_wFaces a_wTurns a_wSign a_wBy a_wFell a_telling a_holds a_sizes a_elements a_moved a_above a_out a_first c_t (res.2.1) (res.2.2))) args s 0 0 A) (F0 m 0 ls []) := by
  obtain ⟨hx, hb, hml, hr, hlk, hown, hts, hG, hA⟩ := id X
  have hK := hG.1
  have hN := hG.2.1
  unfold f_X6_pond at h
  refine lv_aload_n hx hb dX6_pond_0 rfl (lv_at hl 0 rfl) ?_
  refine lv_iload_n hx hb dX6_pond_1 rfl (lv_at hl 1 rfl) ?_
  obtain ⟨v1, hv1, h⟩ := bind_of h
  refine after_i X (run_V X (c_X6_isCell l E a_t a_now a_refused a_kept a_mind a_tape a_words a_wCell a_wFaces a_wTurns a_wSign a_wBy a_wFell a_telling a_holds a_sizes a_elements a_moved a_above a_out a_first l1 c_t c_now H.size v1 hv1) (cwV 1 hts gX6_pond_X6_isCell rfl rfl rfl hV_X6_isCell ⟨(Nat.le_of_ble_eq_true rfl), (Nat.le_of_ble_eq_true rfl)⟩) hP hD hS [0, 1] rfl rfl hl.1 (ci := 6) rfl rfl rfl (rest := []) rfl rfl (Nat.le_of_ble_eq_true rfl) dX6_pond_2) hP hD hS [0, 1] [2] [1, 2, 0] rfl rfl rfl (by decide) rfl (ws1 := (W_X6_pond E a_t a_now a_refused a_kept a_mind a_tape a_words a_wCell a_wFaces a_wTurns a_wSign a_wBy a_wFell a_telling a_holds a_sizes a_elements a_moved a_above a_out a_first c_t c_now c_refused)) rfl (fun H locs hP hD hS => ?_)
  refine lv_if_ne (tgt := 15) hx hb dX6_pond_5 (by decide) (fun hc5 => ?_) (fun hc5 => ?_)
  · have h := if_f h hc5
    refine lv_iload_n hx hb dX6_pond_15 rfl (lv_at hl 2 rfl) ?_
    refine lv_if_eq (tgt := 34) hx hb dX6_pond_16 (by decide) (fun hc16 => ?_) (fun hc16 => ?_)
    · have h := if_t h hc16
      exact w_X6_pond_b34 X a_t a_now a_refused a_kept a_mind a_tape a_words a_wCell a_wFaces a_wTurns a_wSign a_wBy a_wFell a_telling a_holds a_sizes a_elements a_moved a_above a_out a_first c_t res c_now c_refused l1 l2 _ _ _ h hP hD hS (lv_sub hl [0, 1, 2] rfl)
    · have h := if_f h hc16
      refine lv_aload_n hx hb dX6_pond_19 rfl (lv_at hl 0 rfl) ?_
      refine lv_iload_n hx hb dX6_pond_20 rfl (lv_at hl 1 rfl) ?_
      obtain ⟨v2, hv2, h⟩ := bind_of h
      refine after_i X (run_V X (c_X6_isSomebody l E a_t a_now a_refused a_kept a_mind a_tape a_words a_wCell a_wFaces a_wTurns a_wSign a_wBy a_wFell a_telling a_holds a_sizes a_elements a_moved a_above a_out a_first l1 c_t c_now H.size v2 hv2) (cwV 1 hts gX6_pond_X6_isSomebody rfl rfl rfl hV_X6_isSomebody ⟨(Nat.le_of_ble_eq_true rfl), (Nat.le_of_ble_eq_true rfl)⟩) hP hD hS [0, 1] rfl rfl hl.1 (ci := 6) rfl rfl rfl (rest := []) rfl rfl (Nat.le_of_ble_eq_true rfl) dX6_pond_21) hP hD hS [0, 1] [2] [1, 2, 0] rfl rfl rfl (by decide) rfl (ws1 := (W_X6_pond E a_t a_now a_refused a_kept a_mind a_tape a_words a_wCell a_wFaces a_wTurns a_wSign a_wBy a_wFell a_telling a_holds a_sizes a_elements a_moved a_above a_out a_first c_t c_now c_refused)) rfl (fun H locs hP hD hS => ?_)
      refine lv_if_eq (tgt := 34) hx hb dX6_pond_24 (by decide) (fun hc24 => ?_) (fun hc24 => ?_)
      · have h := if_t h hc24
        exact w_X6_pond_b34 X a_t a_now a_refused a_kept a_mind a_tape a_words a_wCell a_wFaces a_wTurns a_wSign a_wBy a_wFell a_telling a_holds a_sizes a_elements a_moved a_above a_out a_first c_t res c_now c_refused l1 l2 _ _ _ h hP hD hS (lv_sub hl [0, 1, 2] rfl)
      · have h := if_f h hc24
        refine lv_aload_n hx hb dX6_pond_27 rfl (lv_at hl 0 rfl) ?_
        refine lv_bipush (v := (-5 : Int32)) hx hb dX6_pond_28 (by decide) ?_
        obtain ⟨v3, hv3, h⟩ := bind_of h
        refine after_i X (run_V X (c_X6_refuse l E a_t a_refused a_now a_kept a_mind a_tape a_words a_wCell a_wFaces a_wTurns a_wSign a_wBy a_wFell a_telling a_holds a_sizes a_elements a_moved a_above a_out a_first (-5 : Int32) c_t c_refused H.size v3 hv3) (cwV 1 hts gX6_pond_X6_refuse rfl rfl rfl hV_X6_refuse ⟨(Nat.le_of_ble_eq_true rfl), (Nat.le_of_ble_eq_true rfl)⟩) hP hD hS [0, 2] rfl rfl hl.1 (ci := 6) rfl rfl rfl (rest := []) rfl rfl (Nat.le_of_ble_eq_true rfl) dX6_pond_30) hP hD hS [0, 2] [1] [1, 0, 2] rfl rfl rfl (by decide) rfl (ws1 := (W_X6_pond E a_t a_now a_refused a_kept a_mind a_tape a_words a_wCell a_wFaces a_wTurns a_wSign a_wBy a_wFell a_telling a_holds a_sizes a_elements a_moved a_above a_out a_first c_t c_now (v3.2))) rfl (fun H locs hP hD hS => ?_)
        obtain rfl := Option.some.inj h
        exact ret_i X dX6_pond_33 hP hD hS rfl
  · have h := if_t h hc5
    refine lv_aload_n hx hb dX6_pond_8 rfl (lv_at hl 0 rfl) ?_
    refine lv_bipush (v := (-2 : Int32)) hx hb dX6_pond_9 (by decide) ?_
    obtain ⟨v4, hv4, h⟩ := bind_of h
    refine after_i X (run_V X (c_X6_refuse l E a_t a_refused a_now a_kept a_mind a_tape a_words a_wCell a_wFaces a_wTurns a_wSign a_wBy a_wFell a_telling a_holds a_sizes a_elements a_moved a_above a_out a_first (-2 : Int32) c_t c_refused H.size v4 hv4) (cwV 1 hts gX6_pond_X6_refuse rfl rfl rfl hV_X6_refuse ⟨(Nat.le_of_ble_eq_true rfl), (Nat.le_of_ble_eq_true rfl)⟩) hP hD hS [0, 2] rfl rfl hl.1 (ci := 6) rfl rfl rfl (rest := []) rfl rfl (Nat.le_of_ble_eq_true rfl) dX6_pond_11) hP hD hS [0, 2] [1] [1, 0, 2] rfl rfl rfl (by decide) rfl (ws1 := (W_X6_pond E a_t a_now a_refused a_kept a_mind a_tape a_words a_wCell a_wFaces a_wTurns a_wSign a_wBy a_wFell a_telling a_holds a_sizes a_elements a_moved a_above a_out a_first c_t c_now (v4.2))) rfl (fun H locs hP hD hS => ?_)
    obtain rfl := Option.some.inj h
    exact ret_i X dX6_pond_14 hP hD hS rfl
end
set_option maxRecDepth 100000 in
theorem c_X6_pond (l : Launch) (E : Env0) (a_t : Nat) (a_now : Nat) (a_refused : Nat) (a_kept : Nat) (a_mind : Nat) (a_tape : Nat) (a_words : Nat) (a_wCell : Nat) (a_wFaces : Nat) (a_wTurns : Nat) (a_wSign : Nat) (a_wBy : Nat) (a_wFell : Nat) (a_telling : Nat) (a_holds : Nat) (a_sizes : Nat) (a_elements : Nat) (a_moved : Nat) (a_above : Nat) (a_out : Nat) (a_first : Nat) (l1 : Int32) (l2 : Int32) (c_t : Nat → Int32) (c_now : Nat → Int32) (c_refused : Nat → Int32) (sz : Nat) (res : Int32 × (Nat → Int32) × (Nat → Int32)) (h : f_X6_pond l1 l2 c_t c_now c_refused = some res) : Met l yX6_pond wsX6_pond r_X6_pond (cPre E [.ref a_t, .int l1, .int l2] (W_X6_pond E a_t a_now a_refused a_kept a_mind a_tape a_words a_wCell a_wFaces a_wTurns a_wSign a_wBy a_wFell a_telling a_holds a_sizes a_elements a_moved a_above a_out a_first c_t c_now c_refused) sz) (qI E (va_A (W_X6_pond E a_t a_now a_refused a_kept a_mind a_tape a_words a_wCell a_wFaces a_wTurns a_wSign a_wBy a_wFell a_telling a_holds a_sizes a_elements a_moved a_above a_out a_first c_t c_now c_refused) sz) (res.1) (W_X6_pond E a_t a_now a_refused a_kept a_mind a_tape a_words a_wCell a_wFaces a_wTurns a_wSign a_wBy a_wFell a_telling a_holds a_sizes a_elements a_moved a_above a_out a_first c_t (res.2.1) (res.2.2))) 0 0 (va_A (W_X6_pond E a_t a_now a_refused a_kept a_mind a_tape a_words a_wCell a_wFaces a_wTurns a_wSign a_wBy a_wFell a_telling a_holds a_sizes a_elements a_moved a_above a_out a_first c_t c_now c_refused) sz) :=
  met_of (Qc := fun A => qI E A (res.1) (W_X6_pond E a_t a_now a_refused a_kept a_mind a_tape a_words a_wCell a_wFaces a_wTurns a_wSign a_wBy a_wFell a_telling a_holds a_sizes a_elements a_moved a_above a_out a_first c_t (res.2.1) (res.2.2))) (by decide) rfl (Nat.le_of_ble_eq_true rfl) (fun p e s m args below meth c X hP hD hS ls hl => w_X6_pond X a_t a_now a_refused a_kept a_mind a_tape a_words a_wCell a_wFaces a_wTurns a_wSign a_wBy a_wFell a_telling a_holds a_sizes a_elements a_moved a_above a_out a_first c_t res c_now c_refused l1 l2 ls _ _ h hP hD hS hl)
-- ===== X6_person
abbrev W_X6_person (E : Env0) (a_t : Nat) (a_now : Nat) (a_refused : Nat) (a_kept : Nat) (a_mind : Nat) (a_tape : Nat) (a_words : Nat) (a_wCell : Nat) (a_wFaces : Nat) (a_wTurns : Nat) (a_wSign : Nat) (a_wBy : Nat) (a_wFell : Nat) (a_telling : Nat) (a_holds : Nat) (a_sizes : Nat) (a_elements : Nat) (a_moved : Nat) (a_above : Nat) (a_out : Nat) (a_first : Nat) (c_t : Nat → Int32) (c_now : Nat → Int32) (c_refused : Nat → Int32) : va_W := [(a_t, .inr (6, [.ref a_refused, .ref a_now, .ref a_kept, .ref a_mind, .int (c_t 4), .ref a_tape, .int (c_t 6), .int (c_t 7), .int (c_t 8), .int (c_t 9), .ref a_words, .ref a_wCell, .ref a_wFaces, .ref a_wTurns, .ref a_wSign, .ref a_wBy, .ref a_wFell, .int (c_t 17), .ref a_telling, .ref a_holds, .ref a_sizes, .ref a_elements, .ref a_moved, .ref a_above, .ref a_out, .ref a_first])), (a_now, .inl (eI E, 97, .inl c_now)), (a_refused, .inl (eI E, 7, .inl c_refused))]
abbrev r_X6_person : Room := { frames := 2, cells := 0, slots := 0, locals := 41 }
theorem hd_X6_person : yX6_person.cls ≠ "java/lang/invoke/MethodHandle" ∧ yX6_person.cls ≠ "java/lang/invoke/VarHandle" ∧ (parseMethodDescriptor yX6_person.desc).map (fun d => d.parameters.length) = some 4 := by decide +kernel
theorem hV_X6_person : yX6_person.cls = RX6 ∧ yX6_person.cls ≠ "java/lang/invoke/MethodHandle" ∧ yX6_person.cls ≠ "java/lang/invoke/VarHandle" ∧ (parseMethodDescriptor yX6_person.desc).map (fun d => d.parameters.length) = some 4 := ⟨rfl, hd_X6_person⟩
section
variable {p : Program} {l : Launch} {e : Env} {s : State} {m : MethodId} {args : Array Value} {below : List Frame} {meth : Method} {c : Code} {E : Env0} {A : Nat → Prop}
set_option maxRecDepth 100000 in
set_option maxHeartbeats 4000000 in
theorem w_X6_person_b45 (X : Ctx p m meth c cX6_person 5 ((some .int)) s args wsX6_person RX6 E A) (a_t : Nat) (a_now : Nat) (a_refused : Nat) (a_kept : Nat) (a_mind : Nat) (a_tape : Nat) (a_words : Nat) (a_wCell : Nat) (a_wFaces : Nat) (a_wTurns : Nat) (a_wSign : Nat) (a_wBy : Nat) (a_wFell : Nat) (a_telling : Nat) (a_holds : Nat) (a_sizes : Nat) (a_elements : Nat) (a_moved : Nat) (a_above : Nat) (a_out : Nat) (a_first : Nat) (c_t : Nat → Int32) (res : Int32 × (Nat → Int32) × (Nat → Int32)) (c_now : Nat → Int32) (c_refused : Nat → Int32) (ls : Array Slot) (H : Heap) (locs : List Loc) (h : f_X6_person_b45 c_t c_now c_refused = some res) (hP : va_P E.1 vwCl (W_X6_person E a_t a_now a_refused a_kept a_mind a_tape a_words a_wCell a_wFaces a_wTurns a_wSign a_wBy a_wFell a_telling a_holds a_sizes a_elements a_moved a_above a_out a_first c_t c_now c_refused) H) (hD : va_D A (W_X6_person E a_t a_now a_refused a_kept a_mind a_tape a_words a_wCell a_wFaces a_wTurns a_wSign a_wBy a_wFell a_telling a_holds a_sizes a_elements a_moved a_above a_out a_first c_t c_now c_refused)) (hS : va_S A s.heap H locs) (hl : lv_has ls 5 [(0, .ref a_t)]) : W p l e r_X6_person s m args below meth c H locs 0 0 (MQ below (qI E A (res.1) (W_X6_person E a_t a_now a_refused a_kept a_mind a_tape a_words a_wCell a_wFaces a_wTurns a_wSign a_wBy a_wFell a_telling a_holds a_sizes a_elements a_moved a_above a_out a_first c_t (res.2.1) (res.2.2))) args s 0 0 A) (F0 m 45 ls []) := by
  obtain ⟨hx, hb, hml, hr, hlk, hown, hts, hG, hA⟩ := id X
  have hK := hG.1
  have hN := hG.2.1
  unfold f_X6_person_b45 at h
  refine lv_aload_n hx hb dX6_person_45 rfl (lv_at hl 0 rfl) ?_
  refine lv_bipush (v := (-2 : Int32)) hx hb dX6_person_46 (by decide) ?_
  obtain ⟨v1, hv1, h⟩ := bind_of h
  refine after_i X (run_V X (c_X6_refuse l E a_t a_refused a_now a_kept a_mind a_tape a_words a_wCell a_wFaces a_wTurns a_wSign a_wBy a_wFell a_telling a_holds a_sizes a_elements a_moved a_above a_out a_first (-2 : Int32) c_t c_refused H.size v1 hv1) (cwV 1 hts gX6_person_X6_refuse rfl rfl rfl hV_X6_refuse ⟨(Nat.le_of_ble_eq_true rfl), (Nat.le_of_ble_eq_true rfl)⟩) hP hD hS [0, 2] rfl rfl hl.1 (ci := 6) rfl rfl rfl (rest := []) rfl rfl (Nat.le_of_ble_eq_true rfl) dX6_person_48) hP hD hS [0, 2] [1] [1, 0, 2] rfl rfl rfl (by decide) rfl (ws1 := (W_X6_person E a_t a_now a_refused a_kept a_mind a_tape a_words a_wCell a_wFaces a_wTurns a_wSign a_wBy a_wFell a_telling a_holds a_sizes a_elements a_moved a_above a_out a_first c_t c_now (v1.2))) rfl (fun H locs hP hD hS => ?_)
  obtain rfl := Option.some.inj h
  exact ret_i X dX6_person_51 hP hD hS rfl
set_option maxRecDepth 100000 in
set_option maxHeartbeats 4000000 in
theorem w_X6_person (X : Ctx p m meth c cX6_person 5 ((some .int)) s args wsX6_person RX6 E A) (a_t : Nat) (a_now : Nat) (a_refused : Nat) (a_kept : Nat) (a_mind : Nat) (a_tape : Nat) (a_words : Nat) (a_wCell : Nat) (a_wFaces : Nat) (a_wTurns : Nat) (a_wSign : Nat) (a_wBy : Nat) (a_wFell : Nat) (a_telling : Nat) (a_holds : Nat) (a_sizes : Nat) (a_elements : Nat) (a_moved : Nat) (a_above : Nat) (a_out : Nat) (a_first : Nat) (c_t : Nat → Int32) (res : Int32 × (Nat → Int32) × (Nat → Int32)) (c_now : Nat → Int32) (c_refused : Nat → Int32) (l1 : Int32) (l2 : Int32) (l3 : Int32) (l4 : Int32) (ls : Array Slot) (H : Heap) (locs : List Loc) (h : f_X6_person l1 l2 l3 l4 c_t c_now c_refused = some res) (hP : va_P E.1 vwCl (W_X6_person E a_t a_now a_refused a_kept a_mind a_tape a_words a_wCell a_wFaces a_wTurns a_wSign a_wBy a_wFell a_telling a_holds a_sizes a_elements a_moved a_above a_out a_first c_t c_now c_refused) H) (hD : va_D A (W_X6_person E a_t a_now a_refused a_kept a_mind a_tape a_words a_wCell a_wFaces a_wTurns a_wSign a_wBy a_wFell a_telling a_holds a_sizes a_elements a_moved a_above a_out a_first c_t c_now c_refused)) (hS : va_S A s.heap H locs) (hl : lv_has ls 5 [(0, .ref a_t), (1, .int l1), (2, .int l2), (3, .int l3), (4, .int l4)]) : W p l e r_X6_person s m args below meth c H locs 0 0 (MQ below (qI E A (res.1) (W_X6_person E a_t a_now a_refused a_kept a_mind a_tape a_words a_wCell a_wFaces a_wTurns a_wSign a_wBy a_wFell a_telling a_holds a_sizes a_elements a_moved a_above a_out a_first c_t (res.2.1) (res.2.2))) args s 0 0 A) (F0 m 0 ls []) := by
  obtain ⟨hx, hb, hml, hr, hlk, hown, hts, hG, hA⟩ := id X
  have hK := hG.1
  have hN := hG.2.1
  unfold f_X6_person at h
  refine lv_iload_n hx hb dX6_person_0 rfl (lv_at hl 1 rfl) ?_
  refine lv_i2l (v := (l1.toInt64)) hx hb dX6_person_1 rfl ?_
  refine lv_lconst (v := (0 : Int64)) hx hb dX6_person_2 (by decide) ?_
  refine lv_ldc2 (v := (5 : Int64)) hx hb hown (hts (.constantLong RX6 110 (5)) (List.mem_of_getElem? (i := 1) rfl)) dX6_person_3 ?_
  obtain ⟨v1, hv1, h⟩ := bind_of h
  refine after_i X (run_S X (c_X6_isIn l E (l1.toInt64) (0 : Int64) (5 : Int64) H.size v1 hv1) (va_cwS 3 hts gX6_person_X6_isIn rfl rfl rfl hd_X6_isIn ⟨(Nat.le_of_ble_eq_true rfl), (Nat.le_of_ble_eq_true rfl)⟩) hP hD hS [] rfl rfl hl.1 (rest := []) rfl rfl (Nat.le_of_ble_eq_true rfl) dX6_person_6) hP hD hS [] [0, 1, 2] [0, 1, 2] rfl rfl rfl (by decide) rfl (ws1 := (W_X6_person E a_t a_now a_refused a_kept a_mind a_tape a_words a_wCell a_wFaces a_wTurns a_wSign a_wBy a_wFell a_telling a_holds a_sizes a_elements a_moved a_above a_out a_first c_t c_now c_refused)) rfl (fun H locs hP hD hS => ?_)
  refine lv_if_eq (tgt := 45) hx hb dX6_person_9 (by decide) (fun hc9 => ?_) (fun hc9 => ?_)
  · have h := if_t h hc9
    exact w_X6_person_b45 X a_t a_now a_refused a_kept a_mind a_tape a_words a_wCell a_wFaces a_wTurns a_wSign a_wBy a_wFell a_telling a_holds a_sizes a_elements a_moved a_above a_out a_first c_t res c_now c_refused _ _ _ h hP hD hS (lv_sub hl [0] rfl)
  · have h := if_f h hc9
    refine lv_iload_n hx hb dX6_person_12 rfl (lv_at hl 2 rfl) ?_
    refine lv_i2l (v := (l2.toInt64)) hx hb dX6_person_13 rfl ?_
    refine lv_lconst (v := (0 : Int64)) hx hb dX6_person_14 (by decide) ?_
    refine lv_ldc2 (v := (9 : Int64)) hx hb hown (hts (.constantLong RX6 112 (9)) (List.mem_of_getElem? (i := 2) rfl)) dX6_person_15 ?_
    obtain ⟨v2, hv2, h⟩ := bind_of h
    refine after_i X (run_S X (c_X6_isIn l E (l2.toInt64) (0 : Int64) (9 : Int64) H.size v2 hv2) (va_cwS 3 hts gX6_person_X6_isIn rfl rfl rfl hd_X6_isIn ⟨(Nat.le_of_ble_eq_true rfl), (Nat.le_of_ble_eq_true rfl)⟩) hP hD hS [] rfl rfl hl.1 (rest := []) rfl rfl (Nat.le_of_ble_eq_true rfl) dX6_person_18) hP hD hS [] [0, 1, 2] [0, 1, 2] rfl rfl rfl (by decide) rfl (ws1 := (W_X6_person E a_t a_now a_refused a_kept a_mind a_tape a_words a_wCell a_wFaces a_wTurns a_wSign a_wBy a_wFell a_telling a_holds a_sizes a_elements a_moved a_above a_out a_first c_t c_now c_refused)) rfl (fun H locs hP hD hS => ?_)
    refine lv_if_eq (tgt := 45) hx hb dX6_person_21 (by decide) (fun hc21 => ?_) (fun hc21 => ?_)
    · have h := if_t h hc21
      exact w_X6_person_b45 X a_t a_now a_refused a_kept a_mind a_tape a_words a_wCell a_wFaces a_wTurns a_wSign a_wBy a_wFell a_telling a_holds a_sizes a_elements a_moved a_above a_out a_first c_t res c_now c_refused _ _ _ h hP hD hS (lv_sub hl [0] rfl)
    · have h := if_f h hc21
      refine lv_aload_n hx hb dX6_person_24 rfl (lv_at hl 0 rfl) ?_
      refine lv_iload_n hx hb dX6_person_25 rfl (lv_at hl 3 rfl) ?_
      obtain ⟨v3, hv3, h⟩ := bind_of h
      refine after_i X (run_V X (c_X6_isCell l E a_t a_now a_refused a_kept a_mind a_tape a_words a_wCell a_wFaces a_wTurns a_wSign a_wBy a_wFell a_telling a_holds a_sizes a_elements a_moved a_above a_out a_first l3 c_t c_now H.size v3 hv3) (cwV 1 hts gX6_person_X6_isCell rfl rfl rfl hV_X6_isCell ⟨(Nat.le_of_ble_eq_true rfl), (Nat.le_of_ble_eq_true rfl)⟩) hP hD hS [0, 1] rfl rfl hl.1 (ci := 6) rfl rfl rfl (rest := []) rfl rfl (Nat.le_of_ble_eq_true rfl) dX6_person_26) hP hD hS [0, 1] [2] [1, 2, 0] rfl rfl rfl (by decide) rfl (ws1 := (W_X6_person E a_t a_now a_refused a_kept a_mind a_tape a_words a_wCell a_wFaces a_wTurns a_wSign a_wBy a_wFell a_telling a_holds a_sizes a_elements a_moved a_above a_out a_first c_t c_now c_refused)) rfl (fun H locs hP hD hS => ?_)
      refine lv_if_eq (tgt := 45) hx hb dX6_person_29 (by decide) (fun hc29 => ?_) (fun hc29 => ?_)
      · have h := if_t h hc29
        exact w_X6_person_b45 X a_t a_now a_refused a_kept a_mind a_tape a_words a_wCell a_wFaces a_wTurns a_wSign a_wBy a_wFell a_telling a_holds a_sizes a_elements a_moved a_above a_out a_first c_t res c_now c_refused _ _ _ h hP hD hS (lv_sub hl [0] rfl)
      · have h := if_f h hc29
        refine lv_iload hx hb dX6_person_32 (lv_at hl 4 rfl) ?_
        refine lv_i2l (v := (l4.toInt64)) hx hb dX6_person_34 rfl ?_
        refine lv_lconst (v := (0 : Int64)) hx hb dX6_person_35 (by decide) ?_
        refine lv_ldc2 (v := (3 : Int64)) hx hb hown (hts (.constantLong RX6 114 (3)) (List.mem_of_getElem? (i := 3) rfl)) dX6_person_36 ?_
        obtain ⟨v4, hv4, h⟩ := bind_of h
        refine after_i X (run_S X (c_X6_isIn l E (l4.toInt64) (0 : Int64) (3 : Int64) H.size v4 hv4) (va_cwS 3 hts gX6_person_X6_isIn rfl rfl rfl hd_X6_isIn ⟨(Nat.le_of_ble_eq_true rfl), (Nat.le_of_ble_eq_true rfl)⟩) hP hD hS [] rfl rfl hl.1 (rest := []) rfl rfl (Nat.le_of_ble_eq_true rfl) dX6_person_39) hP hD hS [] [0, 1, 2] [0, 1, 2] rfl rfl rfl (by decide) rfl (ws1 := (W_X6_person E a_t a_now a_refused a_kept a_mind a_tape a_words a_wCell a_wFaces a_wTurns a_wSign a_wBy a_wFell a_telling a_holds a_sizes a_elements a_moved a_above a_out a_first c_t c_now c_refused)) rfl (fun H locs hP hD hS => ?_)
        refine lv_if_ne (tgt := 52) hx hb dX6_person_42 (by decide) (fun hc42 => ?_) (fun hc42 => ?_)
        · have h := if_f h hc42
          refine lv_aload_n hx hb dX6_person_52 rfl (lv_at hl 0 rfl) ?_
          refine lv_iload_n hx hb dX6_person_53 rfl (lv_at hl 3 rfl) ?_
          obtain ⟨v5, hv5, h⟩ := bind_of h
          refine after_i X (run_V X (c_X6_hasPond l E a_t a_now a_refused a_kept a_mind a_tape a_words a_wCell a_wFaces a_wTurns a_wSign a_wBy a_wFell a_telling a_holds a_sizes a_elements a_moved a_above a_out a_first l3 c_t c_now H.size v5 hv5) (cwV 1 hts gX6_person_X6_hasPond rfl rfl rfl hV_X6_hasPond ⟨(Nat.le_of_ble_eq_true rfl), (Nat.le_of_ble_eq_true rfl)⟩) hP hD hS [0, 1] rfl rfl hl.1 (ci := 6) rfl rfl rfl (rest := []) rfl rfl (Nat.le_of_ble_eq_true rfl) dX6_person_54) hP hD hS [0, 1] [2] [1, 2, 0] rfl rfl rfl (by decide) rfl (ws1 := (W_X6_person E a_t a_now a_refused a_kept a_mind a_tape a_words a_wCell a_wFaces a_wTurns a_wSign a_wBy a_wFell a_telling a_holds a_sizes a_elements a_moved a_above a_out a_first c_t c_now c_refused)) rfl (fun H locs hP hD hS => ?_)
          refine lv_if_eq (tgt := 67) hx hb dX6_person_57 (by decide) (fun hc57 => ?_) (fun hc57 => ?_)
          · have h := if_t h hc57
            refine lv_aload_n hx hb dX6_person_67 rfl (lv_at hl 0 rfl) ?_
            obtain ⟨v6, hv6, h⟩ := bind_of h
            refine after_i X (run_V X (c_X6_many l E a_t a_now a_refused a_kept a_mind a_tape a_words a_wCell a_wFaces a_wTurns a_wSign a_wBy a_wFell a_telling a_holds a_sizes a_elements a_moved a_above a_out a_first c_t c_now H.size v6 hv6) (cwV 0 hts gX6_person_X6_many rfl rfl rfl hV_X6_many ⟨(Nat.le_of_ble_eq_true rfl), (Nat.le_of_ble_eq_true rfl)⟩) hP hD hS [0, 1] rfl rfl hl.1 (ci := 6) rfl rfl rfl (rest := []) rfl rfl (Nat.le_of_ble_eq_true rfl) dX6_person_68) hP hD hS [0, 1] [2] [1, 2, 0] rfl rfl rfl (by decide) rfl (ws1 := (W_X6_person E a_t a_now a_refused a_kept a_mind a_tape a_words a_wCell a_wFaces a_wTurns a_wSign a_wBy a_wFell a_telling a_holds a_sizes a_elements a_moved a_above a_out a_first c_t c_now c_refused)) rfl (fun H locs hP hD hS => ?_)
            refine lv_bipush (v := (8 : Int32)) hx hb dX6_person_71 (by decide) ?_
            refine lv_icmp_ne (tgt := 85) hx hb dX6_person_73 (by decide) (fun hc73 => ?_) (fun hc73 => ?_)
            · have h := if_f h hc73
              refine lv_aload_n hx hb dX6_person_85 rfl (lv_at hl 0 rfl) ?_
              refine lv_iload_n hx hb dX6_person_86 rfl (lv_at hl 1 rfl) ?_
              refine lv_iload_n hx hb dX6_person_87 rfl (lv_at hl 2 rfl) ?_
              refine lv_iload_n hx hb dX6_person_88 rfl (lv_at hl 3 rfl) ?_
              refine lv_iload hx hb dX6_person_89 (lv_at hl 4 rfl) ?_
              obtain ⟨v7, hv7, h⟩ := bind_of h
              refine after_i X (run_V X (c_X6_add l E a_t a_now a_refused a_kept a_mind a_tape a_words a_wCell a_wFaces a_wTurns a_wSign a_wBy a_wFell a_telling a_holds a_sizes a_elements a_moved a_above a_out a_first l1 l2 l3 l4 c_t c_now H.size v7 hv7) (cwV 4 hts gX6_person_X6_add rfl rfl rfl hV_X6_add ⟨(Nat.le_of_ble_eq_true rfl), (Nat.le_of_ble_eq_true rfl)⟩) hP hD hS [0, 1] rfl rfl hl.1 (ci := 6) rfl rfl rfl (rest := []) rfl rfl (Nat.le_of_ble_eq_true rfl) dX6_person_91) hP hD hS [0, 1] [2] [1, 2, 0] rfl rfl rfl (by decide) rfl (ws1 := (W_X6_person E a_t a_now a_refused a_kept a_mind a_tape a_words a_wCell a_wFaces a_wTurns a_wSign a_wBy a_wFell a_telling a_holds a_sizes a_elements a_moved a_above a_out a_first c_t (v7.2) c_refused)) rfl (fun H locs hP hD hS => ?_)
              obtain rfl := Option.some.inj h
              exact ret_i X dX6_person_94 hP hD hS rfl
            · have h := if_t h hc73
              refine lv_aload_n hx hb dX6_person_76 rfl (lv_at hl 0 rfl) ?_
              refine lv_bipush (v := (-6 : Int32)) hx hb dX6_person_77 (by decide) ?_
              obtain ⟨v8, hv8, h⟩ := bind_of h
              refine after_i X (run_V X (c_X6_refuse l E a_t a_refused a_now a_kept a_mind a_tape a_words a_wCell a_wFaces a_wTurns a_wSign a_wBy a_wFell a_telling a_holds a_sizes a_elements a_moved a_above a_out a_first (-6 : Int32) c_t c_refused H.size v8 hv8) (cwV 1 hts gX6_person_X6_refuse rfl rfl rfl hV_X6_refuse ⟨(Nat.le_of_ble_eq_true rfl), (Nat.le_of_ble_eq_true rfl)⟩) hP hD hS [0, 2] rfl rfl hl.1 (ci := 6) rfl rfl rfl (rest := []) rfl rfl (Nat.le_of_ble_eq_true rfl) dX6_person_79) hP hD hS [0, 2] [1] [1, 0, 2] rfl rfl rfl (by decide) rfl (ws1 := (W_X6_person E a_t a_now a_refused a_kept a_mind a_tape a_words a_wCell a_wFaces a_wTurns a_wSign a_wBy a_wFell a_telling a_holds a_sizes a_elements a_moved a_above a_out a_first c_t c_now (v8.2))) rfl (fun H locs hP hD hS => ?_)
              refine lv_goto (tgt := 94) hx hb dX6_person_82 (by decide) ?_
              obtain rfl := Option.some.inj h
              exact ret_i X dX6_person_94 hP hD hS rfl
          · have h := if_f h hc57
            refine lv_aload_n hx hb dX6_person_60 rfl (lv_at hl 0 rfl) ?_
            refine lv_bipush (v := (-5 : Int32)) hx hb dX6_person_61 (by decide) ?_
            obtain ⟨v9, hv9, h⟩ := bind_of h
            refine after_i X (run_V X (c_X6_refuse l E a_t a_refused a_now a_kept a_mind a_tape a_words a_wCell a_wFaces a_wTurns a_wSign a_wBy a_wFell a_telling a_holds a_sizes a_elements a_moved a_above a_out a_first (-5 : Int32) c_t c_refused H.size v9 hv9) (cwV 1 hts gX6_person_X6_refuse rfl rfl rfl hV_X6_refuse ⟨(Nat.le_of_ble_eq_true rfl), (Nat.le_of_ble_eq_true rfl)⟩) hP hD hS [0, 2] rfl rfl hl.1 (ci := 6) rfl rfl rfl (rest := []) rfl rfl (Nat.le_of_ble_eq_true rfl) dX6_person_63) hP hD hS [0, 2] [1] [1, 0, 2] rfl rfl rfl (by decide) rfl (ws1 := (W_X6_person E a_t a_now a_refused a_kept a_mind a_tape a_words a_wCell a_wFaces a_wTurns a_wSign a_wBy a_wFell a_telling a_holds a_sizes a_elements a_moved a_above a_out a_first c_t c_now (v9.2))) rfl (fun H locs hP hD hS => ?_)
            obtain rfl := Option.some.inj h
            exact ret_i X dX6_person_66 hP hD hS rfl
        · have h := if_t h hc42
          exact w_X6_person_b45 X a_t a_now a_refused a_kept a_mind a_tape a_words a_wCell a_wFaces a_wTurns a_wSign a_wBy a_wFell a_telling a_holds a_sizes a_elements a_moved a_above a_out a_first c_t res c_now c_refused _ _ _ h hP hD hS (lv_sub hl [0] rfl)
end
set_option maxRecDepth 100000 in
theorem c_X6_person (l : Launch) (E : Env0) (a_t : Nat) (a_now : Nat) (a_refused : Nat) (a_kept : Nat) (a_mind : Nat) (a_tape : Nat) (a_words : Nat) (a_wCell : Nat) (a_wFaces : Nat) (a_wTurns : Nat) (a_wSign : Nat) (a_wBy : Nat) (a_wFell : Nat) (a_telling : Nat) (a_holds : Nat) (a_sizes : Nat) (a_elements : Nat) (a_moved : Nat) (a_above : Nat) (a_out : Nat) (a_first : Nat) (l1 : Int32) (l2 : Int32) (l3 : Int32) (l4 : Int32) (c_t : Nat → Int32) (c_now : Nat → Int32) (c_refused : Nat → Int32) (sz : Nat) (res : Int32 × (Nat → Int32) × (Nat → Int32)) (h : f_X6_person l1 l2 l3 l4 c_t c_now c_refused = some res) : Met l yX6_person wsX6_person r_X6_person (cPre E [.ref a_t, .int l1, .int l2, .int l3, .int l4] (W_X6_person E a_t a_now a_refused a_kept a_mind a_tape a_words a_wCell a_wFaces a_wTurns a_wSign a_wBy a_wFell a_telling a_holds a_sizes a_elements a_moved a_above a_out a_first c_t c_now c_refused) sz) (qI E (va_A (W_X6_person E a_t a_now a_refused a_kept a_mind a_tape a_words a_wCell a_wFaces a_wTurns a_wSign a_wBy a_wFell a_telling a_holds a_sizes a_elements a_moved a_above a_out a_first c_t c_now c_refused) sz) (res.1) (W_X6_person E a_t a_now a_refused a_kept a_mind a_tape a_words a_wCell a_wFaces a_wTurns a_wSign a_wBy a_wFell a_telling a_holds a_sizes a_elements a_moved a_above a_out a_first c_t (res.2.1) (res.2.2))) 0 0 (va_A (W_X6_person E a_t a_now a_refused a_kept a_mind a_tape a_words a_wCell a_wFaces a_wTurns a_wSign a_wBy a_wFell a_telling a_holds a_sizes a_elements a_moved a_above a_out a_first c_t c_now c_refused) sz) :=
  met_of (Qc := fun A => qI E A (res.1) (W_X6_person E a_t a_now a_refused a_kept a_mind a_tape a_words a_wCell a_wFaces a_wTurns a_wSign a_wBy a_wFell a_telling a_holds a_sizes a_elements a_moved a_above a_out a_first c_t (res.2.1) (res.2.2))) (by decide) rfl (Nat.le_of_ble_eq_true rfl) (fun p e s m args below meth c X hP hD hS ls hl => w_X6_person X a_t a_now a_refused a_kept a_mind a_tape a_words a_wCell a_wFaces a_wTurns a_wSign a_wBy a_wFell a_telling a_holds a_sizes a_elements a_moved a_above a_out a_first c_t res c_now c_refused l1 l2 l3 l4 ls _ _ h hP hD hS hl)
-- ===== X6_tell
abbrev W_X6_tell (E : Env0) (a_t : Nat) (a_now : Nat) (a_refused : Nat) (a_kept : Nat) (a_mind : Nat) (a_tape : Nat) (a_words : Nat) (a_wCell : Nat) (a_wFaces : Nat) (a_wTurns : Nat) (a_wSign : Nat) (a_wBy : Nat) (a_wFell : Nat) (a_telling : Nat) (a_holds : Nat) (a_sizes : Nat) (a_elements : Nat) (a_moved : Nat) (a_above : Nat) (a_out : Nat) (a_first : Nat) (c_t : Nat → Int32) (c_now : Nat → Int32) (c_refused : Nat → Int32) : va_W := [(a_t, .inr (6, [.ref a_refused, .ref a_now, .ref a_kept, .ref a_mind, .int (c_t 4), .ref a_tape, .int (c_t 6), .int (c_t 7), .int (c_t 8), .int (c_t 9), .ref a_words, .ref a_wCell, .ref a_wFaces, .ref a_wTurns, .ref a_wSign, .ref a_wBy, .ref a_wFell, .int (c_t 17), .ref a_telling, .ref a_holds, .ref a_sizes, .ref a_elements, .ref a_moved, .ref a_above, .ref a_out, .ref a_first])), (a_now, .inl (eI E, 97, .inl c_now)), (a_refused, .inl (eI E, 7, .inl c_refused))]
abbrev r_X6_tell : Room := { frames := 1, cells := 0, slots := 0, locals := 25 }
theorem hd_X6_tell : yX6_tell.cls ≠ "java/lang/invoke/MethodHandle" ∧ yX6_tell.cls ≠ "java/lang/invoke/VarHandle" ∧ (parseMethodDescriptor yX6_tell.desc).map (fun d => d.parameters.length) = some 2 := by decide +kernel
theorem hV_X6_tell : yX6_tell.cls = RX6 ∧ yX6_tell.cls ≠ "java/lang/invoke/MethodHandle" ∧ yX6_tell.cls ≠ "java/lang/invoke/VarHandle" ∧ (parseMethodDescriptor yX6_tell.desc).map (fun d => d.parameters.length) = some 2 := ⟨rfl, hd_X6_tell⟩
theorem iX6_tell_X6 : ∀ w ∈ wsX60, w ∈ wsX6_tell := fun _ h => List.mem_cons_of_mem _ (List.mem_append_right _ (h))
section
variable {p : Program} {l : Launch} {e : Env} {s : State} {m : MethodId} {args : Array Value} {below : List Frame} {meth : Method} {c : Code} {E : Env0} {A : Nat → Prop}
set_option maxRecDepth 100000 in
set_option maxHeartbeats 4000000 in
theorem w_X6_tell_b33 (X : Ctx p m meth c cX6_tell 4 ((some .int)) s args wsX6_tell RX6 E A) (a_t : Nat) (a_now : Nat) (a_refused : Nat) (a_kept : Nat) (a_mind : Nat) (a_tape : Nat) (a_words : Nat) (a_wCell : Nat) (a_wFaces : Nat) (a_wTurns : Nat) (a_wSign : Nat) (a_wBy : Nat) (a_wFell : Nat) (a_telling : Nat) (a_holds : Nat) (a_sizes : Nat) (a_elements : Nat) (a_moved : Nat) (a_above : Nat) (a_out : Nat) (a_first : Nat) (c_t : Nat → Int32) (res : Int32 × (Nat → Int32) × (Nat → Int32)) (c_now : Nat → Int32) (c_refused : Nat → Int32) (ls : Array Slot) (H : Heap) (locs : List Loc) (h : f_X6_tell_b33 c_t c_now c_refused = some res) (hP : va_P E.1 vwCl (W_X6_tell E a_t a_now a_refused a_kept a_mind a_tape a_words a_wCell a_wFaces a_wTurns a_wSign a_wBy a_wFell a_telling a_holds a_sizes a_elements a_moved a_above a_out a_first c_t c_now c_refused) H) (hD : va_D A (W_X6_tell E a_t a_now a_refused a_kept a_mind a_tape a_words a_wCell a_wFaces a_wTurns a_wSign a_wBy a_wFell a_telling a_holds a_sizes a_elements a_moved a_above a_out a_first c_t c_now c_refused)) (hS : va_S A s.heap H locs) (hl : lv_has ls 4 [(0, .ref a_t)]) : W p l e r_X6_tell s m args below meth c H locs 0 0 (MQ below (qI E A (res.1) (W_X6_tell E a_t a_now a_refused a_kept a_mind a_tape a_words a_wCell a_wFaces a_wTurns a_wSign a_wBy a_wFell a_telling a_holds a_sizes a_elements a_moved a_above a_out a_first c_t (res.2.1) (res.2.2))) args s 0 0 A) (F0 m 33 ls []) := by
  obtain ⟨hx, hb, hml, hr, hlk, hown, hts, hG, hA⟩ := id X
  have hK := hG.1
  have hN := hG.2.1
  unfold f_X6_tell_b33 at h
  refine lv_aload_n hx hb dX6_tell_33 rfl (lv_at hl 0 rfl) ?_
  refine lv_bipush (v := (-2 : Int32)) hx hb dX6_tell_34 (by decide) ?_
  obtain ⟨v1, hv1, h⟩ := bind_of h
  refine after_i X (run_V X (c_X6_refuse l E a_t a_refused a_now a_kept a_mind a_tape a_words a_wCell a_wFaces a_wTurns a_wSign a_wBy a_wFell a_telling a_holds a_sizes a_elements a_moved a_above a_out a_first (-2 : Int32) c_t c_refused H.size v1 hv1) (cwV 1 hts gX6_tell_X6_refuse rfl rfl rfl hV_X6_refuse ⟨(Nat.le_of_ble_eq_true rfl), (Nat.le_of_ble_eq_true rfl)⟩) hP hD hS [0, 2] rfl rfl hl.1 (ci := 6) rfl rfl rfl (rest := []) rfl rfl (Nat.le_of_ble_eq_true rfl) dX6_tell_36) hP hD hS [0, 2] [1] [1, 0, 2] rfl rfl rfl (by decide) rfl (ws1 := (W_X6_tell E a_t a_now a_refused a_kept a_mind a_tape a_words a_wCell a_wFaces a_wTurns a_wSign a_wBy a_wFell a_telling a_holds a_sizes a_elements a_moved a_above a_out a_first c_t c_now (v1.2))) rfl (fun H locs hP hD hS => ?_)
  obtain rfl := Option.some.inj h
  exact ret_i X dX6_tell_39 hP hD hS rfl
set_option maxRecDepth 100000 in
set_option maxHeartbeats 4000000 in
theorem w_X6_tell_b27 (X : Ctx p m meth c cX6_tell 4 ((some .int)) s args wsX6_tell RX6 E A) (a_t : Nat) (a_now : Nat) (a_refused : Nat) (a_kept : Nat) (a_mind : Nat) (a_tape : Nat) (a_words : Nat) (a_wCell : Nat) (a_wFaces : Nat) (a_wTurns : Nat) (a_wSign : Nat) (a_wBy : Nat) (a_wFell : Nat) (a_telling : Nat) (a_holds : Nat) (a_sizes : Nat) (a_elements : Nat) (a_moved : Nat) (a_above : Nat) (a_out : Nat) (a_first : Nat) (c_t : Nat → Int32) (res : Int32 × (Nat → Int32) × (Nat → Int32)) (c_now : Nat → Int32) (c_refused : Nat → Int32) (l1 : Int32) (l2 : Int32) (s0 : Int64) (s1 : Int64) (s2 : Int64) (ls : Array Slot) (H : Heap) (locs : List Loc) (h : f_X6_tell_b27 c_t c_now c_refused l1 l2 s0 s1 s2 = some res) (hP : va_P E.1 vwCl (W_X6_tell E a_t a_now a_refused a_kept a_mind a_tape a_words a_wCell a_wFaces a_wTurns a_wSign a_wBy a_wFell a_telling a_holds a_sizes a_elements a_moved a_above a_out a_first c_t c_now c_refused) H) (hD : va_D A (W_X6_tell E a_t a_now a_refused a_kept a_mind a_tape a_words a_wCell a_wFaces a_wTurns a_wSign a_wBy a_wFell a_telling a_holds a_sizes a_elements a_moved a_above a_out a_first c_t c_now c_refused)) (hS : va_S A s.heap H locs) (hl : lv_has ls 4 [(0, .ref a_t), (1, .int l1), (2, .int l2)]) : W p l e r_X6_tell s m args below meth c H locs 0 0 (MQ below (qI E A (res.1) (W_X6_tell E a_t a_now a_refused a_kept a_mind a_tape a_words a_wCell a_wFaces a_wTurns a_wSign a_wBy a_wFell a_telling a_holds a_sizes a_elements a_moved a_above a_out a_first c_t (res.2.1) (res.2.2))) args s 0 0 A) (F0 m 27 ls [.long s0, .long s1, .long s2]) := by
  obtain ⟨hx, hb, hml, hr, hlk, hown, hts, hG, hA⟩ := id X
  have hK := hG.1
  have hN := hG.2.1
  unfold f_X6_tell_b27 at h
  obtain ⟨v1, hv1, h⟩ := bind_of h
  refine after_i X (run_S X (c_X6_isIn l E s2 s1 s0 H.size v1 hv1) (va_cwS 3 hts gX6_tell_X6_isIn rfl rfl rfl hd_X6_isIn ⟨(Nat.le_of_ble_eq_true rfl), (Nat.le_of_ble_eq_true rfl)⟩) hP hD hS [] rfl rfl hl.1 (rest := []) rfl rfl (Nat.le_of_ble_eq_true rfl) dX6_tell_27) hP hD hS [] [0, 1, 2] [0, 1, 2] rfl rfl rfl (by decide) rfl (ws1 := (W_X6_tell E a_t a_now a_refused a_kept a_mind a_tape a_words a_wCell a_wFaces a_wTurns a_wSign a_wBy a_wFell a_telling a_holds a_sizes a_elements a_moved a_above a_out a_first c_t c_now c_refused)) rfl (fun H locs hP hD hS => ?_)
  refine lv_if_ne (tgt := 40) hx hb dX6_tell_30 (by decide) (fun hc30 => ?_) (fun hc30 => ?_)
  · have h := if_f h hc30
    refine lv_aload_n hx hb dX6_tell_40 rfl (lv_at hl 0 rfl) ?_
    refine va_get (D := E.1) (ci := 6) (v := .ref a_now) (C := RX6) (T := TX6) (N := 26) hx hb hts iX6_tell_X6 hown hK hP 0 rfl rfl 1 (by decide) (hts (.fieldLink RX6 17 "LeftIsAgreedOnModel" "now" "[I") (List.mem_of_getElem? (i := 3) rfl)) (fun _ h9 => h9) rfl dX6_tell_41 ?_
    refine lv_bipush (v := (91 : Int32)) hx hb dX6_tell_44 (by decide) ?_
    refine lv_iload_n hx hb dX6_tell_46 rfl (lv_at hl 1 rfl) ?_
    refine lv_iadd hx hb dX6_tell_47 ?_
    obtain ⟨hz48, h⟩ := chk_of h
    refine ld_i X hP 1 rfl (inb.vp hz48) (v := (c_now (((91 : Int32) + l1)).toNatClampNeg)) rfl dX6_tell_48 ?_
    refine lv_istore_n (lv' := [(3, .int (c_now (((91 : Int32) + l1)).toNatClampNeg)), (0, .ref a_t), (1, .int l1), (2, .int l2)]) hx hb dX6_tell_49 rfl hl (by decide) rfl (fun ls hl => ?_)
    refine lv_aload_n hx hb dX6_tell_50 rfl (lv_at hl 1 rfl) ?_
    refine va_get (D := E.1) (ci := 6) (v := .ref a_now) (C := RX6) (T := TX6) (N := 26) hx hb hts iX6_tell_X6 hown hK hP 0 rfl rfl 1 (by decide) (hts (.fieldLink RX6 17 "LeftIsAgreedOnModel" "now" "[I") (List.mem_of_getElem? (i := 3) rfl)) (fun _ h9 => h9) rfl dX6_tell_51 ?_
    refine lv_bipush (v := (91 : Int32)) hx hb dX6_tell_54 (by decide) ?_
    refine lv_iload_n hx hb dX6_tell_56 rfl (lv_at hl 2 rfl) ?_
    refine lv_iadd hx hb dX6_tell_57 ?_
    refine lv_iload_n hx hb dX6_tell_58 rfl (lv_at hl 3 rfl) ?_
    obtain ⟨hz59, h⟩ := chk_of h
    refine st_i X hP hD hS 1 rfl (inb.vp hz59) (k := (((91 : Int32) + l1)).toNatClampNeg) rfl (ws1 := (W_X6_tell E a_t a_now a_refused a_kept a_mind a_tape a_words a_wCell a_wFaces a_wTurns a_wSign a_wBy a_wFell a_telling a_holds a_sizes a_elements a_moved a_above a_out a_first c_t (upd c_now ((((91 : Int32) + l1)).toNatClampNeg) l2) c_refused)) rfl dX6_tell_59 (fun H locs hP hD hS => ?_)
    refine lv_iload_n hx hb dX6_tell_60 rfl (lv_at hl 0 rfl) ?_
    obtain rfl := Option.some.inj h
    exact ret_i X dX6_tell_61 hP hD hS rfl
  · have h := if_t h hc30
    exact w_X6_tell_b33 X a_t a_now a_refused a_kept a_mind a_tape a_words a_wCell a_wFaces a_wTurns a_wSign a_wBy a_wFell a_telling a_holds a_sizes a_elements a_moved a_above a_out a_first c_t res c_now c_refused _ _ _ h hP hD hS (lv_sub hl [0] rfl)
set_option maxRecDepth 100000 in
set_option maxHeartbeats 4000000 in
theorem w_X6_tell (X : Ctx p m meth c cX6_tell 4 ((some .int)) s args wsX6_tell RX6 E A) (a_t : Nat) (a_now : Nat) (a_refused : Nat) (a_kept : Nat) (a_mind : Nat) (a_tape : Nat) (a_words : Nat) (a_wCell : Nat) (a_wFaces : Nat) (a_wTurns : Nat) (a_wSign : Nat) (a_wBy : Nat) (a_wFell : Nat) (a_telling : Nat) (a_holds : Nat) (a_sizes : Nat) (a_elements : Nat) (a_moved : Nat) (a_above : Nat) (a_out : Nat) (a_first : Nat) (c_t : Nat → Int32) (res : Int32 × (Nat → Int32) × (Nat → Int32)) (c_now : Nat → Int32) (c_refused : Nat → Int32) (l1 : Int32) (l2 : Int32) (ls : Array Slot) (H : Heap) (locs : List Loc) (h : f_X6_tell l1 l2 c_t c_now c_refused = some res) (hP : va_P E.1 vwCl (W_X6_tell E a_t a_now a_refused a_kept a_mind a_tape a_words a_wCell a_wFaces a_wTurns a_wSign a_wBy a_wFell a_telling a_holds a_sizes a_elements a_moved a_above a_out a_first c_t c_now c_refused) H) (hD : va_D A (W_X6_tell E a_t a_now a_refused a_kept a_mind a_tape a_words a_wCell a_wFaces a_wTurns a_wSign a_wBy a_wFell a_telling a_holds a_sizes a_elements a_moved a_above a_out a_first c_t c_now c_refused)) (hS : va_S A s.heap H locs) (hl : lv_has ls 4 [(0, .ref a_t), (1, .int l1), (2, .int l2)]) : W p l e r_X6_tell s m args below meth c H locs 0 0 (MQ below (qI E A (res.1) (W_X6_tell E a_t a_now a_refused a_kept a_mind a_tape a_words a_wCell a_wFaces a_wTurns a_wSign a_wBy a_wFell a_telling a_holds a_sizes a_elements a_moved a_above a_out a_first c_t (res.2.1) (res.2.2))) args s 0 0 A) (F0 m 0 ls []) := by
  obtain ⟨hx, hb, hml, hr, hlk, hown, hts, hG, hA⟩ := id X
  have hK := hG.1
  have hN := hG.2.1
  unfold f_X6_tell at h
  refine lv_iload_n hx hb dX6_tell_0 rfl (lv_at hl 1 rfl) ?_
  refine lv_i2l (v := (l1.toInt64)) hx hb dX6_tell_1 rfl ?_
  refine lv_lconst (v := (0 : Int64)) hx hb dX6_tell_2 (by decide) ?_
  refine lv_ldc2 (v := (2 : Int64)) hx hb hown (hts (.constantLong RX6 120 (2)) (List.mem_of_getElem? (i := 1) rfl)) dX6_tell_3 ?_
  obtain ⟨v1, hv1, h⟩ := bind_of h
  refine after_i X (run_S X (c_X6_isIn l E (l1.toInt64) (0 : Int64) (2 : Int64) H.size v1 hv1) (va_cwS 3 hts gX6_tell_X6_isIn rfl rfl rfl hd_X6_isIn ⟨(Nat.le_of_ble_eq_true rfl), (Nat.le_of_ble_eq_true rfl)⟩) hP hD hS [] rfl rfl hl.1 (rest := []) rfl rfl (Nat.le_of_ble_eq_true rfl) dX6_tell_6) hP hD hS [] [0, 1, 2] [0, 1, 2] rfl rfl rfl (by decide) rfl (ws1 := (W_X6_tell E a_t a_now a_refused a_kept a_mind a_tape a_words a_wCell a_wFaces a_wTurns a_wSign a_wBy a_wFell a_telling a_holds a_sizes a_elements a_moved a_above a_out a_first c_t c_now c_refused)) rfl (fun H locs hP hD hS => ?_)
  refine lv_if_eq (tgt := 33) hx hb dX6_tell_9 (by decide) (fun hc9 => ?_) (fun hc9 => ?_)
  · have h := if_t h hc9
    exact w_X6_tell_b33 X a_t a_now a_refused a_kept a_mind a_tape a_words a_wCell a_wFaces a_wTurns a_wSign a_wBy a_wFell a_telling a_holds a_sizes a_elements a_moved a_above a_out a_first c_t res c_now c_refused _ _ _ h hP hD hS (lv_sub hl [0] rfl)
  · have h := if_f h hc9
    refine lv_iload_n hx hb dX6_tell_12 rfl (lv_at hl 2 rfl) ?_
    refine lv_i2l (v := (l2.toInt64)) hx hb dX6_tell_13 rfl ?_
    refine lv_lconst (v := (0 : Int64)) hx hb dX6_tell_14 (by decide) ?_
    refine lv_iload_n hx hb dX6_tell_15 rfl (lv_at hl 1 rfl) ?_
    refine lv_iconst (v := (2 : Int32)) hx hb dX6_tell_16 (by decide) ?_
    refine lv_icmp_ne (tgt := 26) hx hb dX6_tell_17 (by decide) (fun hc17 => ?_) (fun hc17 => ?_)
    · have h := if_f h hc17
      refine lv_lconst (v := (1 : Int64)) hx hb dX6_tell_26 (by decide) ?_
      exact w_X6_tell_b27 X a_t a_now a_refused a_kept a_mind a_tape a_words a_wCell a_wFaces a_wTurns a_wSign a_wBy a_wFell a_telling a_holds a_sizes a_elements a_moved a_above a_out a_first c_t res c_now c_refused l1 l2 (1 : Int64) (0 : Int64) (l2.toInt64) _ _ _ h hP hD hS (lv_sub hl [0, 1, 2] rfl)
    · have h := if_t h hc17
      refine lv_ldc2 (v := (12 : Int64)) hx hb hown (hts (.constantLong RX6 122 (12)) (List.mem_of_getElem? (i := 2) rfl)) dX6_tell_20 ?_
      refine lv_goto (tgt := 27) hx hb dX6_tell_23 (by decide) ?_
      exact w_X6_tell_b27 X a_t a_now a_refused a_kept a_mind a_tape a_words a_wCell a_wFaces a_wTurns a_wSign a_wBy a_wFell a_telling a_holds a_sizes a_elements a_moved a_above a_out a_first c_t res c_now c_refused l1 l2 (12 : Int64) (0 : Int64) (l2.toInt64) _ _ _ h hP hD hS (lv_sub hl [0, 1, 2] rfl)
end
set_option maxRecDepth 100000 in
theorem c_X6_tell (l : Launch) (E : Env0) (a_t : Nat) (a_now : Nat) (a_refused : Nat) (a_kept : Nat) (a_mind : Nat) (a_tape : Nat) (a_words : Nat) (a_wCell : Nat) (a_wFaces : Nat) (a_wTurns : Nat) (a_wSign : Nat) (a_wBy : Nat) (a_wFell : Nat) (a_telling : Nat) (a_holds : Nat) (a_sizes : Nat) (a_elements : Nat) (a_moved : Nat) (a_above : Nat) (a_out : Nat) (a_first : Nat) (l1 : Int32) (l2 : Int32) (c_t : Nat → Int32) (c_now : Nat → Int32) (c_refused : Nat → Int32) (sz : Nat) (res : Int32 × (Nat → Int32) × (Nat → Int32)) (h : f_X6_tell l1 l2 c_t c_now c_refused = some res) : Met l yX6_tell wsX6_tell r_X6_tell (cPre E [.ref a_t, .int l1, .int l2] (W_X6_tell E a_t a_now a_refused a_kept a_mind a_tape a_words a_wCell a_wFaces a_wTurns a_wSign a_wBy a_wFell a_telling a_holds a_sizes a_elements a_moved a_above a_out a_first c_t c_now c_refused) sz) (qI E (va_A (W_X6_tell E a_t a_now a_refused a_kept a_mind a_tape a_words a_wCell a_wFaces a_wTurns a_wSign a_wBy a_wFell a_telling a_holds a_sizes a_elements a_moved a_above a_out a_first c_t c_now c_refused) sz) (res.1) (W_X6_tell E a_t a_now a_refused a_kept a_mind a_tape a_words a_wCell a_wFaces a_wTurns a_wSign a_wBy a_wFell a_telling a_holds a_sizes a_elements a_moved a_above a_out a_first c_t (res.2.1) (res.2.2))) 0 0 (va_A (W_X6_tell E a_t a_now a_refused a_kept a_mind a_tape a_words a_wCell a_wFaces a_wTurns a_wSign a_wBy a_wFell a_telling a_holds a_sizes a_elements a_moved a_above a_out a_first c_t c_now c_refused) sz) :=
  met_of (Qc := fun A => qI E A (res.1) (W_X6_tell E a_t a_now a_refused a_kept a_mind a_tape a_words a_wCell a_wFaces a_wTurns a_wSign a_wBy a_wFell a_telling a_holds a_sizes a_elements a_moved a_above a_out a_first c_t (res.2.1) (res.2.2))) (by decide) rfl (Nat.le_of_ble_eq_true rfl) (fun p e s m args below meth c X hP hD hS ls hl => w_X6_tell X a_t a_now a_refused a_kept a_mind a_tape a_words a_wCell a_wFaces a_wTurns a_wSign a_wBy a_wFell a_telling a_holds a_sizes a_elements a_moved a_above a_out a_first c_t res c_now c_refused l1 l2 ls _ _ h hP hD hS hl)
-- ===== X6_isFor_
abbrev W_X6_isFor_ (E : Env0) (a_t : Nat) (a_now : Nat) (a_refused : Nat) (a_kept : Nat) (a_mind : Nat) (a_tape : Nat) (a_words : Nat) (a_wCell : Nat) (a_wFaces : Nat) (a_wTurns : Nat) (a_wSign : Nat) (a_wBy : Nat) (a_wFell : Nat) (a_telling : Nat) (a_holds : Nat) (a_sizes : Nat) (a_elements : Nat) (a_moved : Nat) (a_above : Nat) (a_out : Nat) (a_first : Nat) (c_t : Nat → Int32) (c_now : Nat → Int32) (c_refused : Nat → Int32) : va_W := [(a_t, .inr (6, [.ref a_refused, .ref a_now, .ref a_kept, .ref a_mind, .int (c_t 4), .ref a_tape, .int (c_t 6), .int (c_t 7), .int (c_t 8), .int (c_t 9), .ref a_words, .ref a_wCell, .ref a_wFaces, .ref a_wTurns, .ref a_wSign, .ref a_wBy, .ref a_wFell, .int (c_t 17), .ref a_telling, .ref a_holds, .ref a_sizes, .ref a_elements, .ref a_moved, .ref a_above, .ref a_out, .ref a_first])), (a_now, .inl (eI E, 97, .inl c_now)), (a_refused, .inl (eI E, 7, .inl c_refused))]
abbrev r_X6_isFor_ : Room := { frames := 2, cells := 0, slots := 0, locals := 46 }
theorem hd_X6_isFor_ : yX6_isFor_.cls ≠ "java/lang/invoke/MethodHandle" ∧ yX6_isFor_.cls ≠ "java/lang/invoke/VarHandle" ∧ (parseMethodDescriptor yX6_isFor_.desc).map (fun d => d.parameters.length) = some 2 := by decide +kernel
theorem hV_X6_isFor_ : yX6_isFor_.cls = RX6 ∧ yX6_isFor_.cls ≠ "java/lang/invoke/MethodHandle" ∧ yX6_isFor_.cls ≠ "java/lang/invoke/VarHandle" ∧ (parseMethodDescriptor yX6_isFor_.desc).map (fun d => d.parameters.length) = some 2 := ⟨rfl, hd_X6_isFor_⟩
theorem iX6_isFor__X6 : ∀ w ∈ wsX60, w ∈ wsX6_isFor_ := fun _ h => List.mem_cons_of_mem _ (List.mem_append_right _ (h))
section
variable {p : Program} {l : Launch} {e : Env} {s : State} {m : MethodId} {args : Array Value} {below : List Frame} {meth : Method} {c : Code} {E : Env0} {A : Nat → Prop}
set_option maxRecDepth 100000 in
set_option maxHeartbeats 4000000 in
theorem w_X6_isFor__b18 (X : Ctx p m meth c cX6_isFor_ 4 ((some .int)) s args wsX6_isFor_ RX6 E A) (a_t : Nat) (a_now : Nat) (a_refused : Nat) (a_kept : Nat) (a_mind : Nat) (a_tape : Nat) (a_words : Nat) (a_wCell : Nat) (a_wFaces : Nat) (a_wTurns : Nat) (a_wSign : Nat) (a_wBy : Nat) (a_wFell : Nat) (a_telling : Nat) (a_holds : Nat) (a_sizes : Nat) (a_elements : Nat) (a_moved : Nat) (a_above : Nat) (a_out : Nat) (a_first : Nat) (c_t : Nat → Int32) (res : Int32 × (Nat → Int32) × (Nat → Int32)) (c_now : Nat → Int32) (c_refused : Nat → Int32) (ls : Array Slot) (H : Heap) (locs : List Loc) (h : f_X6_isFor__b18 c_t c_now c_refused = some res) (hP : va_P E.1 vwCl (W_X6_isFor_ E a_t a_now a_refused a_kept a_mind a_tape a_words a_wCell a_wFaces a_wTurns a_wSign a_wBy a_wFell a_telling a_holds a_sizes a_elements a_moved a_above a_out a_first c_t c_now c_refused) H) (hD : va_D A (W_X6_isFor_ E a_t a_now a_refused a_kept a_mind a_tape a_words a_wCell a_wFaces a_wTurns a_wSign a_wBy a_wFell a_telling a_holds a_sizes a_elements a_moved a_above a_out a_first c_t c_now c_refused)) (hS : va_S A s.heap H locs) (hl : lv_has ls 4 [(0, .ref a_t)]) : W p l e r_X6_isFor_ s m args below meth c H locs 0 0 (MQ below (qI E A (res.1) (W_X6_isFor_ E a_t a_now a_refused a_kept a_mind a_tape a_words a_wCell a_wFaces a_wTurns a_wSign a_wBy a_wFell a_telling a_holds a_sizes a_elements a_moved a_above a_out a_first c_t (res.2.1) (res.2.2))) args s 0 0 A) (F0 m 18 ls []) := by
  obtain ⟨hx, hb, hml, hr, hlk, hown, hts, hG, hA⟩ := id X
  have hK := hG.1
  have hN := hG.2.1
  unfold f_X6_isFor__b18 at h
  refine lv_aload_n hx hb dX6_isFor__18 rfl (lv_at hl 0 rfl) ?_
  refine lv_bipush (v := (-2 : Int32)) hx hb dX6_isFor__19 (by decide) ?_
  obtain ⟨v1, hv1, h⟩ := bind_of h
  refine after_i X (run_V X (c_X6_refuse l E a_t a_refused a_now a_kept a_mind a_tape a_words a_wCell a_wFaces a_wTurns a_wSign a_wBy a_wFell a_telling a_holds a_sizes a_elements a_moved a_above a_out a_first (-2 : Int32) c_t c_refused H.size v1 hv1) (cwV 1 hts gX6_isFor__X6_refuse rfl rfl rfl hV_X6_refuse ⟨(Nat.le_of_ble_eq_true rfl), (Nat.le_of_ble_eq_true rfl)⟩) hP hD hS [0, 2] rfl rfl hl.1 (ci := 6) rfl rfl rfl (rest := []) rfl rfl (Nat.le_of_ble_eq_true rfl) dX6_isFor__21) hP hD hS [0, 2] [1] [1, 0, 2] rfl rfl rfl (by decide) rfl (ws1 := (W_X6_isFor_ E a_t a_now a_refused a_kept a_mind a_tape a_words a_wCell a_wFaces a_wTurns a_wSign a_wBy a_wFell a_telling a_holds a_sizes a_elements a_moved a_above a_out a_first c_t c_now (v1.2))) rfl (fun H locs hP hD hS => ?_)
  obtain rfl := Option.some.inj h
  exact ret_i X dX6_isFor__24 hP hD hS rfl
set_option maxRecDepth 100000 in
set_option maxHeartbeats 4000000 in
theorem w_X6_isFor_ (X : Ctx p m meth c cX6_isFor_ 4 ((some .int)) s args wsX6_isFor_ RX6 E A) (a_t : Nat) (a_now : Nat) (a_refused : Nat) (a_kept : Nat) (a_mind : Nat) (a_tape : Nat) (a_words : Nat) (a_wCell : Nat) (a_wFaces : Nat) (a_wTurns : Nat) (a_wSign : Nat) (a_wBy : Nat) (a_wFell : Nat) (a_telling : Nat) (a_holds : Nat) (a_sizes : Nat) (a_elements : Nat) (a_moved : Nat) (a_above : Nat) (a_out : Nat) (a_first : Nat) (c_t : Nat → Int32) (res : Int32 × (Nat → Int32) × (Nat → Int32)) (c_now : Nat → Int32) (c_refused : Nat → Int32) (l1 : Int32) (l2 : Int32) (ls : Array Slot) (H : Heap) (locs : List Loc) (h : f_X6_isFor_ l1 l2 c_t c_now c_refused = some res) (hP : va_P E.1 vwCl (W_X6_isFor_ E a_t a_now a_refused a_kept a_mind a_tape a_words a_wCell a_wFaces a_wTurns a_wSign a_wBy a_wFell a_telling a_holds a_sizes a_elements a_moved a_above a_out a_first c_t c_now c_refused) H) (hD : va_D A (W_X6_isFor_ E a_t a_now a_refused a_kept a_mind a_tape a_words a_wCell a_wFaces a_wTurns a_wSign a_wBy a_wFell a_telling a_holds a_sizes a_elements a_moved a_above a_out a_first c_t c_now c_refused)) (hS : va_S A s.heap H locs) (hl : lv_has ls 4 [(0, .ref a_t), (1, .int l1), (2, .int l2)]) : W p l e r_X6_isFor_ s m args below meth c H locs 0 0 (MQ below (qI E A (res.1) (W_X6_isFor_ E a_t a_now a_refused a_kept a_mind a_tape a_words a_wCell a_wFaces a_wTurns a_wSign a_wBy a_wFell a_telling a_holds a_sizes a_elements a_moved a_above a_out a_first c_t (res.2.1) (res.2.2))) args s 0 0 A) (F0 m 0 ls []) := by
  obtain ⟨hx, hb, hml, hr, hlk, hown, hts, hG, hA⟩ := id X
  have hK := hG.1
  have hN := hG.2.1
  unfold f_X6_isFor_ at h
  refine lv_aload_n hx hb dX6_isFor__0 rfl (lv_at hl 0 rfl) ?_
  refine lv_iload_n hx hb dX6_isFor__1 rfl (lv_at hl 1 rfl) ?_
  obtain ⟨v1, hv1, h⟩ := bind_of h
  refine after_i X (run_V X (c_X6_isPerson l E a_t a_now a_refused a_kept a_mind a_tape a_words a_wCell a_wFaces a_wTurns a_wSign a_wBy a_wFell a_telling a_holds a_sizes a_elements a_moved a_above a_out a_first l1 c_t c_now H.size v1 hv1) (cwV 1 hts gX6_isFor__X6_isPerson rfl rfl rfl hV_X6_isPerson ⟨(Nat.le_of_ble_eq_true rfl), (Nat.le_of_ble_eq_true rfl)⟩) hP hD hS [0, 1] rfl rfl hl.1 (ci := 6) rfl rfl rfl (rest := []) rfl rfl (Nat.le_of_ble_eq_true rfl) dX6_isFor__2) hP hD hS [0, 1] [2] [1, 2, 0] rfl rfl rfl (by decide) rfl (ws1 := (W_X6_isFor_ E a_t a_now a_refused a_kept a_mind a_tape a_words a_wCell a_wFaces a_wTurns a_wSign a_wBy a_wFell a_telling a_holds a_sizes a_elements a_moved a_above a_out a_first c_t c_now c_refused)) rfl (fun H locs hP hD hS => ?_)
  refine lv_if_eq (tgt := 18) hx hb dX6_isFor__5 (by decide) (fun hc5 => ?_) (fun hc5 => ?_)
  · have h := if_t h hc5
    exact w_X6_isFor__b18 X a_t a_now a_refused a_kept a_mind a_tape a_words a_wCell a_wFaces a_wTurns a_wSign a_wBy a_wFell a_telling a_holds a_sizes a_elements a_moved a_above a_out a_first c_t res c_now c_refused _ _ _ h hP hD hS (lv_sub hl [0] rfl)
  · have h := if_f h hc5
    refine lv_iload_n hx hb dX6_isFor__8 rfl (lv_at hl 2 rfl) ?_
    refine lv_i2l (v := (l2.toInt64)) hx hb dX6_isFor__9 rfl ?_
    refine lv_lconst (v := (0 : Int64)) hx hb dX6_isFor__10 (by decide) ?_
    refine lv_lconst (v := (1 : Int64)) hx hb dX6_isFor__11 (by decide) ?_
    obtain ⟨v2, hv2, h⟩ := bind_of h
    refine after_i X (run_S X (c_X6_isIn l E (l2.toInt64) (0 : Int64) (1 : Int64) H.size v2 hv2) (va_cwS 3 hts gX6_isFor__X6_isIn rfl rfl rfl hd_X6_isIn ⟨(Nat.le_of_ble_eq_true rfl), (Nat.le_of_ble_eq_true rfl)⟩) hP hD hS [] rfl rfl hl.1 (rest := []) rfl rfl (Nat.le_of_ble_eq_true rfl) dX6_isFor__12) hP hD hS [] [0, 1, 2] [0, 1, 2] rfl rfl rfl (by decide) rfl (ws1 := (W_X6_isFor_ E a_t a_now a_refused a_kept a_mind a_tape a_words a_wCell a_wFaces a_wTurns a_wSign a_wBy a_wFell a_telling a_holds a_sizes a_elements a_moved a_above a_out a_first c_t c_now c_refused)) rfl (fun H locs hP hD hS => ?_)
    refine lv_if_ne (tgt := 25) hx hb dX6_isFor__15 (by decide) (fun hc15 => ?_) (fun hc15 => ?_)
    · have h := if_f h hc15
      refine lv_aload_n hx hb dX6_isFor__25 rfl (lv_at hl 0 rfl) ?_
      refine lv_iload_n hx hb dX6_isFor__26 rfl (lv_at hl 1 rfl) ?_
      obtain ⟨v3, hv3, h⟩ := bind_of h
      refine after_i X (run_V X (c_X6_isFor l E a_t a_now a_refused a_kept a_mind a_tape a_words a_wCell a_wFaces a_wTurns a_wSign a_wBy a_wFell a_telling a_holds a_sizes a_elements a_moved a_above a_out a_first l1 c_t c_now H.size v3 hv3) (cwV 1 hts gX6_isFor__X6_isFor rfl rfl rfl hV_X6_isFor ⟨(Nat.le_of_ble_eq_true rfl), (Nat.le_of_ble_eq_true rfl)⟩) hP hD hS [0, 1] rfl rfl hl.1 (ci := 6) rfl rfl rfl (rest := []) rfl rfl (Nat.le_of_ble_eq_true rfl) dX6_isFor__27) hP hD hS [0, 1] [2] [1, 2, 0] rfl rfl rfl (by decide) rfl (ws1 := (W_X6_isFor_ E a_t a_now a_refused a_kept a_mind a_tape a_words a_wCell a_wFaces a_wTurns a_wSign a_wBy a_wFell a_telling a_holds a_sizes a_elements a_moved a_above a_out a_first c_t c_now c_refused)) rfl (fun H locs hP hD hS => ?_)
      refine lv_istore_n (lv' := [(3, .int v3), (0, .ref a_t), (1, .int l1), (2, .int l2)]) hx hb dX6_isFor__30 rfl hl (by decide) rfl (fun ls hl => ?_)
      refine lv_aload_n hx hb dX6_isFor__31 rfl (lv_at hl 1 rfl) ?_
      refine va_get (D := E.1) (ci := 6) (v := .ref a_now) (C := RX6) (T := TX6) (N := 26) hx hb hts iX6_isFor__X6 hown hK hP 0 rfl rfl 1 (by decide) (hts (.fieldLink RX6 17 "LeftIsAgreedOnModel" "now" "[I") (List.mem_of_getElem? (i := 1) rfl)) (fun _ h9 => h9) rfl dX6_isFor__32 ?_
      refine lv_iconst (v := (5 : Int32)) hx hb dX6_isFor__35 (by decide) ?_
      refine lv_iload_n hx hb dX6_isFor__36 rfl (lv_at hl 2 rfl) ?_
      refine lv_imul hx hb dX6_isFor__37 ?_
      refine lv_iconst (v := (4 : Int32)) hx hb dX6_isFor__38 (by decide) ?_
      refine lv_iadd hx hb dX6_isFor__39 ?_
      refine lv_iload_n hx hb dX6_isFor__40 rfl (lv_at hl 3 rfl) ?_
      obtain ⟨hz41, h⟩ := chk_of h
      refine st_i X hP hD hS 1 rfl (inb.vp hz41) (k := ((((5 : Int32) * l1) + (4 : Int32))).toNatClampNeg) rfl (ws1 := (W_X6_isFor_ E a_t a_now a_refused a_kept a_mind a_tape a_words a_wCell a_wFaces a_wTurns a_wSign a_wBy a_wFell a_telling a_holds a_sizes a_elements a_moved a_above a_out a_first c_t (upd c_now (((((5 : Int32) * l1) + (4 : Int32))).toNatClampNeg) l2) c_refused)) rfl dX6_isFor__41 (fun H locs hP hD hS => ?_)
      refine lv_iload_n hx hb dX6_isFor__42 rfl (lv_at hl 0 rfl) ?_
      obtain rfl := Option.some.inj h
      exact ret_i X dX6_isFor__43 hP hD hS rfl
    · have h := if_t h hc15
      exact w_X6_isFor__b18 X a_t a_now a_refused a_kept a_mind a_tape a_words a_wCell a_wFaces a_wTurns a_wSign a_wBy a_wFell a_telling a_holds a_sizes a_elements a_moved a_above a_out a_first c_t res c_now c_refused _ _ _ h hP hD hS (lv_sub hl [0] rfl)
end
set_option maxRecDepth 100000 in
theorem c_X6_isFor_ (l : Launch) (E : Env0) (a_t : Nat) (a_now : Nat) (a_refused : Nat) (a_kept : Nat) (a_mind : Nat) (a_tape : Nat) (a_words : Nat) (a_wCell : Nat) (a_wFaces : Nat) (a_wTurns : Nat) (a_wSign : Nat) (a_wBy : Nat) (a_wFell : Nat) (a_telling : Nat) (a_holds : Nat) (a_sizes : Nat) (a_elements : Nat) (a_moved : Nat) (a_above : Nat) (a_out : Nat) (a_first : Nat) (l1 : Int32) (l2 : Int32) (c_t : Nat → Int32) (c_now : Nat → Int32) (c_refused : Nat → Int32) (sz : Nat) (res : Int32 × (Nat → Int32) × (Nat → Int32)) (h : f_X6_isFor_ l1 l2 c_t c_now c_refused = some res) : Met l yX6_isFor_ wsX6_isFor_ r_X6_isFor_ (cPre E [.ref a_t, .int l1, .int l2] (W_X6_isFor_ E a_t a_now a_refused a_kept a_mind a_tape a_words a_wCell a_wFaces a_wTurns a_wSign a_wBy a_wFell a_telling a_holds a_sizes a_elements a_moved a_above a_out a_first c_t c_now c_refused) sz) (qI E (va_A (W_X6_isFor_ E a_t a_now a_refused a_kept a_mind a_tape a_words a_wCell a_wFaces a_wTurns a_wSign a_wBy a_wFell a_telling a_holds a_sizes a_elements a_moved a_above a_out a_first c_t c_now c_refused) sz) (res.1) (W_X6_isFor_ E a_t a_now a_refused a_kept a_mind a_tape a_words a_wCell a_wFaces a_wTurns a_wSign a_wBy a_wFell a_telling a_holds a_sizes a_elements a_moved a_above a_out a_first c_t (res.2.1) (res.2.2))) 0 0 (va_A (W_X6_isFor_ E a_t a_now a_refused a_kept a_mind a_tape a_words a_wCell a_wFaces a_wTurns a_wSign a_wBy a_wFell a_telling a_holds a_sizes a_elements a_moved a_above a_out a_first c_t c_now c_refused) sz) :=
  met_of (Qc := fun A => qI E A (res.1) (W_X6_isFor_ E a_t a_now a_refused a_kept a_mind a_tape a_words a_wCell a_wFaces a_wTurns a_wSign a_wBy a_wFell a_telling a_holds a_sizes a_elements a_moved a_above a_out a_first c_t (res.2.1) (res.2.2))) (by decide) rfl (Nat.le_of_ble_eq_true rfl) (fun p e s m args below meth c X hP hD hS ls hl => w_X6_isFor_ X a_t a_now a_refused a_kept a_mind a_tape a_words a_wCell a_wFaces a_wTurns a_wSign a_wBy a_wFell a_telling a_holds a_sizes a_elements a_moved a_above a_out a_first c_t res c_now c_refused l1 l2 ls _ _ h hP hD hS hl)
-- ===== X6_put
abbrev W_X6_put (E : Env0) (a_t : Nat) (a_now : Nat) (a_refused : Nat) (a_kept : Nat) (a_mind : Nat) (a_tape : Nat) (a_words : Nat) (a_wCell : Nat) (a_wFaces : Nat) (a_wTurns : Nat) (a_wSign : Nat) (a_wBy : Nat) (a_wFell : Nat) (a_telling : Nat) (a_holds : Nat) (a_sizes : Nat) (a_elements : Nat) (a_moved : Nat) (a_above : Nat) (a_out : Nat) (a_first : Nat) (c_t : Nat → Int32) (c_now : Nat → Int32) (c_refused : Nat → Int32) : va_W := [(a_t, .inr (6, [.ref a_refused, .ref a_now, .ref a_kept, .ref a_mind, .int (c_t 4), .ref a_tape, .int (c_t 6), .int (c_t 7), .int (c_t 8), .int (c_t 9), .ref a_words, .ref a_wCell, .ref a_wFaces, .ref a_wTurns, .ref a_wSign, .ref a_wBy, .ref a_wFell, .int (c_t 17), .ref a_telling, .ref a_holds, .ref a_sizes, .ref a_elements, .ref a_moved, .ref a_above, .ref a_out, .ref a_first])), (a_now, .inl (eI E, 97, .inl c_now)), (a_refused, .inl (eI E, 7, .inl c_refused))]
abbrev r_X6_put : Room := { frames := 2, cells := 0, slots := 0, locals := 46 }
theorem hd_X6_put : yX6_put.cls ≠ "java/lang/invoke/MethodHandle" ∧ yX6_put.cls ≠ "java/lang/invoke/VarHandle" ∧ (parseMethodDescriptor yX6_put.desc).map (fun d => d.parameters.length) = some 3 := by decide +kernel
theorem hV_X6_put : yX6_put.cls = RX6 ∧ yX6_put.cls ≠ "java/lang/invoke/MethodHandle" ∧ yX6_put.cls ≠ "java/lang/invoke/VarHandle" ∧ (parseMethodDescriptor yX6_put.desc).map (fun d => d.parameters.length) = some 3 := ⟨rfl, hd_X6_put⟩
theorem iX6_put_X6 : ∀ w ∈ wsX60, w ∈ wsX6_put := fun _ h => List.mem_cons_of_mem _ (List.mem_append_right _ (h))
section
variable {p : Program} {l : Launch} {e : Env} {s : State} {m : MethodId} {args : Array Value} {below : List Frame} {meth : Method} {c : Code} {E : Env0} {A : Nat → Prop}
set_option maxRecDepth 100000 in
set_option maxHeartbeats 4000000 in
theorem w_X6_put_b28 (X : Ctx p m meth c cX6_put 5 ((some .int)) s args wsX6_put RX6 E A) (a_t : Nat) (a_now : Nat) (a_refused : Nat) (a_kept : Nat) (a_mind : Nat) (a_tape : Nat) (a_words : Nat) (a_wCell : Nat) (a_wFaces : Nat) (a_wTurns : Nat) (a_wSign : Nat) (a_wBy : Nat) (a_wFell : Nat) (a_telling : Nat) (a_holds : Nat) (a_sizes : Nat) (a_elements : Nat) (a_moved : Nat) (a_above : Nat) (a_out : Nat) (a_first : Nat) (c_t : Nat → Int32) (res : Int32 × (Nat → Int32) × (Nat → Int32)) (c_now : Nat → Int32) (c_refused : Nat → Int32) (ls : Array Slot) (H : Heap) (locs : List Loc) (h : f_X6_put_b28 c_t c_now c_refused = some res) (hP : va_P E.1 vwCl (W_X6_put E a_t a_now a_refused a_kept a_mind a_tape a_words a_wCell a_wFaces a_wTurns a_wSign a_wBy a_wFell a_telling a_holds a_sizes a_elements a_moved a_above a_out a_first c_t c_now c_refused) H) (hD : va_D A (W_X6_put E a_t a_now a_refused a_kept a_mind a_tape a_words a_wCell a_wFaces a_wTurns a_wSign a_wBy a_wFell a_telling a_holds a_sizes a_elements a_moved a_above a_out a_first c_t c_now c_refused)) (hS : va_S A s.heap H locs) (hl : lv_has ls 5 [(0, .ref a_t)]) : W p l e r_X6_put s m args below meth c H locs 0 0 (MQ below (qI E A (res.1) (W_X6_put E a_t a_now a_refused a_kept a_mind a_tape a_words a_wCell a_wFaces a_wTurns a_wSign a_wBy a_wFell a_telling a_holds a_sizes a_elements a_moved a_above a_out a_first c_t (res.2.1) (res.2.2))) args s 0 0 A) (F0 m 28 ls []) := by
  obtain ⟨hx, hb, hml, hr, hlk, hown, hts, hG, hA⟩ := id X
  have hK := hG.1
  have hN := hG.2.1
  unfold f_X6_put_b28 at h
  refine lv_aload_n hx hb dX6_put_28 rfl (lv_at hl 0 rfl) ?_
  refine lv_bipush (v := (-2 : Int32)) hx hb dX6_put_29 (by decide) ?_
  obtain ⟨v1, hv1, h⟩ := bind_of h
  refine after_i X (run_V X (c_X6_refuse l E a_t a_refused a_now a_kept a_mind a_tape a_words a_wCell a_wFaces a_wTurns a_wSign a_wBy a_wFell a_telling a_holds a_sizes a_elements a_moved a_above a_out a_first (-2 : Int32) c_t c_refused H.size v1 hv1) (cwV 1 hts gX6_put_X6_refuse rfl rfl rfl hV_X6_refuse ⟨(Nat.le_of_ble_eq_true rfl), (Nat.le_of_ble_eq_true rfl)⟩) hP hD hS [0, 2] rfl rfl hl.1 (ci := 6) rfl rfl rfl (rest := []) rfl rfl (Nat.le_of_ble_eq_true rfl) dX6_put_31) hP hD hS [0, 2] [1] [1, 0, 2] rfl rfl rfl (by decide) rfl (ws1 := (W_X6_put E a_t a_now a_refused a_kept a_mind a_tape a_words a_wCell a_wFaces a_wTurns a_wSign a_wBy a_wFell a_telling a_holds a_sizes a_elements a_moved a_above a_out a_first c_t c_now (v1.2))) rfl (fun H locs hP hD hS => ?_)
  obtain rfl := Option.some.inj h
  exact ret_i X dX6_put_34 hP hD hS rfl
set_option maxRecDepth 100000 in
set_option maxHeartbeats 4000000 in
theorem w_X6_put (X : Ctx p m meth c cX6_put 5 ((some .int)) s args wsX6_put RX6 E A) (a_t : Nat) (a_now : Nat) (a_refused : Nat) (a_kept : Nat) (a_mind : Nat) (a_tape : Nat) (a_words : Nat) (a_wCell : Nat) (a_wFaces : Nat) (a_wTurns : Nat) (a_wSign : Nat) (a_wBy : Nat) (a_wFell : Nat) (a_telling : Nat) (a_holds : Nat) (a_sizes : Nat) (a_elements : Nat) (a_moved : Nat) (a_above : Nat) (a_out : Nat) (a_first : Nat) (c_t : Nat → Int32) (res : Int32 × (Nat → Int32) × (Nat → Int32)) (c_now : Nat → Int32) (c_refused : Nat → Int32) (l1 : Int32) (l2 : Int32) (l3 : Int32) (ls : Array Slot) (H : Heap) (locs : List Loc) (h : f_X6_put l1 l2 l3 c_t c_now c_refused = some res) (hP : va_P E.1 vwCl (W_X6_put E a_t a_now a_refused a_kept a_mind a_tape a_words a_wCell a_wFaces a_wTurns a_wSign a_wBy a_wFell a_telling a_holds a_sizes a_elements a_moved a_above a_out a_first c_t c_now c_refused) H) (hD : va_D A (W_X6_put E a_t a_now a_refused a_kept a_mind a_tape a_words a_wCell a_wFaces a_wTurns a_wSign a_wBy a_wFell a_telling a_holds a_sizes a_elements a_moved a_above a_out a_first c_t c_now c_refused)) (hS : va_S A s.heap H locs) (hl : lv_has ls 5 [(0, .ref a_t), (1, .int l1), (2, .int l2), (3, .int l3)]) : W p l e r_X6_put s m args below meth c H locs 0 0 (MQ below (qI E A (res.1) (W_X6_put E a_t a_now a_refused a_kept a_mind a_tape a_words a_wCell a_wFaces a_wTurns a_wSign a_wBy a_wFell a_telling a_holds a_sizes a_elements a_moved a_above a_out a_first c_t (res.2.1) (res.2.2))) args s 0 0 A) (F0 m 0 ls []) := by
  obtain ⟨hx, hb, hml, hr, hlk, hown, hts, hG, hA⟩ := id X
  have hK := hG.1
  have hN := hG.2.1
  unfold f_X6_put at h
  refine lv_aload_n hx hb dX6_put_0 rfl (lv_at hl 0 rfl) ?_
  refine lv_iload_n hx hb dX6_put_1 rfl (lv_at hl 1 rfl) ?_
  obtain ⟨v1, hv1, h⟩ := bind_of h
  refine after_i X (run_V X (c_X6_isPerson l E a_t a_now a_refused a_kept a_mind a_tape a_words a_wCell a_wFaces a_wTurns a_wSign a_wBy a_wFell a_telling a_holds a_sizes a_elements a_moved a_above a_out a_first l1 c_t c_now H.size v1 hv1) (cwV 1 hts gX6_put_X6_isPerson rfl rfl rfl hV_X6_isPerson ⟨(Nat.le_of_ble_eq_true rfl), (Nat.le_of_ble_eq_true rfl)⟩) hP hD hS [0, 1] rfl rfl hl.1 (ci := 6) rfl rfl rfl (rest := []) rfl rfl (Nat.le_of_ble_eq_true rfl) dX6_put_2) hP hD hS [0, 1] [2] [1, 2, 0] rfl rfl rfl (by decide) rfl (ws1 := (W_X6_put E a_t a_now a_refused a_kept a_mind a_tape a_words a_wCell a_wFaces a_wTurns a_wSign a_wBy a_wFell a_telling a_holds a_sizes a_elements a_moved a_above a_out a_first c_t c_now c_refused)) rfl (fun H locs hP hD hS => ?_)
  refine lv_if_eq (tgt := 28) hx hb dX6_put_5 (by decide) (fun hc5 => ?_) (fun hc5 => ?_)
  · have h := if_t h hc5
    exact w_X6_put_b28 X a_t a_now a_refused a_kept a_mind a_tape a_words a_wCell a_wFaces a_wTurns a_wSign a_wBy a_wFell a_telling a_holds a_sizes a_elements a_moved a_above a_out a_first c_t res c_now c_refused _ _ _ h hP hD hS (lv_sub hl [0] rfl)
  · have h := if_f h hc5
    refine lv_aload_n hx hb dX6_put_8 rfl (lv_at hl 0 rfl) ?_
    refine lv_iload_n hx hb dX6_put_9 rfl (lv_at hl 2 rfl) ?_
    obtain ⟨v2, hv2, h⟩ := bind_of h
    refine after_i X (run_V X (c_X6_isCell l E a_t a_now a_refused a_kept a_mind a_tape a_words a_wCell a_wFaces a_wTurns a_wSign a_wBy a_wFell a_telling a_holds a_sizes a_elements a_moved a_above a_out a_first l2 c_t c_now H.size v2 hv2) (cwV 1 hts gX6_put_X6_isCell rfl rfl rfl hV_X6_isCell ⟨(Nat.le_of_ble_eq_true rfl), (Nat.le_of_ble_eq_true rfl)⟩) hP hD hS [0, 1] rfl rfl hl.1 (ci := 6) rfl rfl rfl (rest := []) rfl rfl (Nat.le_of_ble_eq_true rfl) dX6_put_10) hP hD hS [0, 1] [2] [1, 2, 0] rfl rfl rfl (by decide) rfl (ws1 := (W_X6_put E a_t a_now a_refused a_kept a_mind a_tape a_words a_wCell a_wFaces a_wTurns a_wSign a_wBy a_wFell a_telling a_holds a_sizes a_elements a_moved a_above a_out a_first c_t c_now c_refused)) rfl (fun H locs hP hD hS => ?_)
    refine lv_if_eq (tgt := 28) hx hb dX6_put_13 (by decide) (fun hc13 => ?_) (fun hc13 => ?_)
    · have h := if_t h hc13
      exact w_X6_put_b28 X a_t a_now a_refused a_kept a_mind a_tape a_words a_wCell a_wFaces a_wTurns a_wSign a_wBy a_wFell a_telling a_holds a_sizes a_elements a_moved a_above a_out a_first c_t res c_now c_refused _ _ _ h hP hD hS (lv_sub hl [0] rfl)
    · have h := if_f h hc13
      refine lv_iload_n hx hb dX6_put_16 rfl (lv_at hl 3 rfl) ?_
      refine lv_i2l (v := (l3.toInt64)) hx hb dX6_put_17 rfl ?_
      refine lv_lconst (v := (0 : Int64)) hx hb dX6_put_18 (by decide) ?_
      refine lv_ldc2 (v := (3 : Int64)) hx hb hown (hts (.constantLong RX6 114 (3)) (List.mem_of_getElem? (i := 1) rfl)) dX6_put_19 ?_
      obtain ⟨v3, hv3, h⟩ := bind_of h
      refine after_i X (run_S X (c_X6_isIn l E (l3.toInt64) (0 : Int64) (3 : Int64) H.size v3 hv3) (va_cwS 3 hts gX6_put_X6_isIn rfl rfl rfl hd_X6_isIn ⟨(Nat.le_of_ble_eq_true rfl), (Nat.le_of_ble_eq_true rfl)⟩) hP hD hS [] rfl rfl hl.1 (rest := []) rfl rfl (Nat.le_of_ble_eq_true rfl) dX6_put_22) hP hD hS [] [0, 1, 2] [0, 1, 2] rfl rfl rfl (by decide) rfl (ws1 := (W_X6_put E a_t a_now a_refused a_kept a_mind a_tape a_words a_wCell a_wFaces a_wTurns a_wSign a_wBy a_wFell a_telling a_holds a_sizes a_elements a_moved a_above a_out a_first c_t c_now c_refused)) rfl (fun H locs hP hD hS => ?_)
      refine lv_if_ne (tgt := 35) hx hb dX6_put_25 (by decide) (fun hc25 => ?_) (fun hc25 => ?_)
      · have h := if_f h hc25
        refine lv_aload_n hx hb dX6_put_35 rfl (lv_at hl 0 rfl) ?_
        refine lv_iload_n hx hb dX6_put_36 rfl (lv_at hl 2 rfl) ?_
        obtain ⟨v4, hv4, h⟩ := bind_of h
        refine after_i X (run_V X (c_X6_hasPond l E a_t a_now a_refused a_kept a_mind a_tape a_words a_wCell a_wFaces a_wTurns a_wSign a_wBy a_wFell a_telling a_holds a_sizes a_elements a_moved a_above a_out a_first l2 c_t c_now H.size v4 hv4) (cwV 1 hts gX6_put_X6_hasPond rfl rfl rfl hV_X6_hasPond ⟨(Nat.le_of_ble_eq_true rfl), (Nat.le_of_ble_eq_true rfl)⟩) hP hD hS [0, 1] rfl rfl hl.1 (ci := 6) rfl rfl rfl (rest := []) rfl rfl (Nat.le_of_ble_eq_true rfl) dX6_put_37) hP hD hS [0, 1] [2] [1, 2, 0] rfl rfl rfl (by decide) rfl (ws1 := (W_X6_put E a_t a_now a_refused a_kept a_mind a_tape a_words a_wCell a_wFaces a_wTurns a_wSign a_wBy a_wFell a_telling a_holds a_sizes a_elements a_moved a_above a_out a_first c_t c_now c_refused)) rfl (fun H locs hP hD hS => ?_)
        refine lv_if_eq (tgt := 50) hx hb dX6_put_40 (by decide) (fun hc40 => ?_) (fun hc40 => ?_)
        · have h := if_t h hc40
          refine lv_aload_n hx hb dX6_put_50 rfl (lv_at hl 0 rfl) ?_
          refine lv_iload_n hx hb dX6_put_51 rfl (lv_at hl 1 rfl) ?_
          obtain ⟨v5, hv5, h⟩ := bind_of h
          refine after_i X (run_V X (c_X6_cell l E a_t a_now a_refused a_kept a_mind a_tape a_words a_wCell a_wFaces a_wTurns a_wSign a_wBy a_wFell a_telling a_holds a_sizes a_elements a_moved a_above a_out a_first l1 c_t c_now H.size v5 hv5) (cwV 1 hts gX6_put_X6_cell rfl rfl rfl hV_X6_cell ⟨(Nat.le_of_ble_eq_true rfl), (Nat.le_of_ble_eq_true rfl)⟩) hP hD hS [0, 1] rfl rfl hl.1 (ci := 6) rfl rfl rfl (rest := []) rfl rfl (Nat.le_of_ble_eq_true rfl) dX6_put_52) hP hD hS [0, 1] [2] [1, 2, 0] rfl rfl rfl (by decide) rfl (ws1 := (W_X6_put E a_t a_now a_refused a_kept a_mind a_tape a_words a_wCell a_wFaces a_wTurns a_wSign a_wBy a_wFell a_telling a_holds a_sizes a_elements a_moved a_above a_out a_first c_t c_now c_refused)) rfl (fun H locs hP hD hS => ?_)
          refine lv_istore (lv' := [(4, .int v5), (0, .ref a_t), (1, .int l1), (2, .int l2), (3, .int l3)]) hx hb dX6_put_55 hl (by decide) rfl (fun ls hl => ?_)
          refine lv_aload_n hx hb dX6_put_57 rfl (lv_at hl 1 rfl) ?_
          refine va_get (D := E.1) (ci := 6) (v := .ref a_now) (C := RX6) (T := TX6) (N := 26) hx hb hts iX6_put_X6 hown hK hP 0 rfl rfl 1 (by decide) (hts (.fieldLink RX6 17 "LeftIsAgreedOnModel" "now" "[I") (List.mem_of_getElem? (i := 2) rfl)) (fun _ h9 => h9) rfl dX6_put_58 ?_
          refine lv_iconst (v := (5 : Int32)) hx hb dX6_put_61 (by decide) ?_
          refine lv_iload_n hx hb dX6_put_62 rfl (lv_at hl 2 rfl) ?_
          refine lv_imul hx hb dX6_put_63 ?_
          refine lv_iconst (v := (2 : Int32)) hx hb dX6_put_64 (by decide) ?_
          refine lv_iadd hx hb dX6_put_65 ?_
          refine lv_iload_n hx hb dX6_put_66 rfl (lv_at hl 3 rfl) ?_
          obtain ⟨hz67, h⟩ := chk_of h
          refine st_i X hP hD hS 1 rfl (inb.vp hz67) (k := ((((5 : Int32) * l1) + (2 : Int32))).toNatClampNeg) rfl (ws1 := (W_X6_put E a_t a_now a_refused a_kept a_mind a_tape a_words a_wCell a_wFaces a_wTurns a_wSign a_wBy a_wFell a_telling a_holds a_sizes a_elements a_moved a_above a_out a_first c_t (upd c_now (((((5 : Int32) * l1) + (2 : Int32))).toNatClampNeg) l2) c_refused)) rfl dX6_put_67 (fun H locs hP hD hS => ?_)
          refine lv_aload_n hx hb dX6_put_68 rfl (lv_at hl 1 rfl) ?_
          refine va_get (D := E.1) (ci := 6) (v := .ref a_now) (C := RX6) (T := TX6) (N := 26) hx hb hts iX6_put_X6 hown hK hP 0 rfl rfl 1 (by decide) (hts (.fieldLink RX6 17 "LeftIsAgreedOnModel" "now" "[I") (List.mem_of_getElem? (i := 2) rfl)) (fun _ h9 => h9) rfl dX6_put_69 ?_
          refine lv_iconst (v := (5 : Int32)) hx hb dX6_put_72 (by decide) ?_
          refine lv_iload_n hx hb dX6_put_73 rfl (lv_at hl 2 rfl) ?_
          refine lv_imul hx hb dX6_put_74 ?_
          refine lv_iconst (v := (3 : Int32)) hx hb dX6_put_75 (by decide) ?_
          refine lv_iadd hx hb dX6_put_76 ?_
          refine lv_iload_n hx hb dX6_put_77 rfl (lv_at hl 4 rfl) ?_
          obtain ⟨hz78, h⟩ := chk_of h
          refine st_i X hP hD hS 1 rfl (inb.vp hz78) (k := ((((5 : Int32) * l1) + (3 : Int32))).toNatClampNeg) rfl (ws1 := (W_X6_put E a_t a_now a_refused a_kept a_mind a_tape a_words a_wCell a_wFaces a_wTurns a_wSign a_wBy a_wFell a_telling a_holds a_sizes a_elements a_moved a_above a_out a_first c_t (upd (upd c_now (((((5 : Int32) * l1) + (2 : Int32))).toNatClampNeg) l2) (((((5 : Int32) * l1) + (3 : Int32))).toNatClampNeg) l3) c_refused)) rfl dX6_put_78 (fun H locs hP hD hS => ?_)
          refine lv_iload hx hb dX6_put_79 (lv_at hl 0 rfl) ?_
          obtain rfl := Option.some.inj h
          exact ret_i X dX6_put_81 hP hD hS rfl
        · have h := if_f h hc40
          refine lv_aload_n hx hb dX6_put_43 rfl (lv_at hl 0 rfl) ?_
          refine lv_bipush (v := (-5 : Int32)) hx hb dX6_put_44 (by decide) ?_
          obtain ⟨v6, hv6, h⟩ := bind_of h
          refine after_i X (run_V X (c_X6_refuse l E a_t a_refused a_now a_kept a_mind a_tape a_words a_wCell a_wFaces a_wTurns a_wSign a_wBy a_wFell a_telling a_holds a_sizes a_elements a_moved a_above a_out a_first (-5 : Int32) c_t c_refused H.size v6 hv6) (cwV 1 hts gX6_put_X6_refuse rfl rfl rfl hV_X6_refuse ⟨(Nat.le_of_ble_eq_true rfl), (Nat.le_of_ble_eq_true rfl)⟩) hP hD hS [0, 2] rfl rfl hl.1 (ci := 6) rfl rfl rfl (rest := []) rfl rfl (Nat.le_of_ble_eq_true rfl) dX6_put_46) hP hD hS [0, 2] [1] [1, 0, 2] rfl rfl rfl (by decide) rfl (ws1 := (W_X6_put E a_t a_now a_refused a_kept a_mind a_tape a_words a_wCell a_wFaces a_wTurns a_wSign a_wBy a_wFell a_telling a_holds a_sizes a_elements a_moved a_above a_out a_first c_t c_now (v6.2))) rfl (fun H locs hP hD hS => ?_)
          obtain rfl := Option.some.inj h
          exact ret_i X dX6_put_49 hP hD hS rfl
      · have h := if_t h hc25
        exact w_X6_put_b28 X a_t a_now a_refused a_kept a_mind a_tape a_words a_wCell a_wFaces a_wTurns a_wSign a_wBy a_wFell a_telling a_holds a_sizes a_elements a_moved a_above a_out a_first c_t res c_now c_refused _ _ _ h hP hD hS (lv_sub hl [0] rfl)
end
set_option maxRecDepth 100000 in
theorem c_X6_put (l : Launch) (E : Env0) (a_t : Nat) (a_now : Nat) (a_refused : Nat) (a_kept : Nat) (a_mind : Nat) (a_tape : Nat) (a_words : Nat) (a_wCell : Nat) (a_wFaces : Nat) (a_wTurns : Nat) (a_wSign : Nat) (a_wBy : Nat) (a_wFell : Nat) (a_telling : Nat) (a_holds : Nat) (a_sizes : Nat) (a_elements : Nat) (a_moved : Nat) (a_above : Nat) (a_out : Nat) (a_first : Nat) (l1 : Int32) (l2 : Int32) (l3 : Int32) (c_t : Nat → Int32) (c_now : Nat → Int32) (c_refused : Nat → Int32) (sz : Nat) (res : Int32 × (Nat → Int32) × (Nat → Int32)) (h : f_X6_put l1 l2 l3 c_t c_now c_refused = some res) : Met l yX6_put wsX6_put r_X6_put (cPre E [.ref a_t, .int l1, .int l2, .int l3] (W_X6_put E a_t a_now a_refused a_kept a_mind a_tape a_words a_wCell a_wFaces a_wTurns a_wSign a_wBy a_wFell a_telling a_holds a_sizes a_elements a_moved a_above a_out a_first c_t c_now c_refused) sz) (qI E (va_A (W_X6_put E a_t a_now a_refused a_kept a_mind a_tape a_words a_wCell a_wFaces a_wTurns a_wSign a_wBy a_wFell a_telling a_holds a_sizes a_elements a_moved a_above a_out a_first c_t c_now c_refused) sz) (res.1) (W_X6_put E a_t a_now a_refused a_kept a_mind a_tape a_words a_wCell a_wFaces a_wTurns a_wSign a_wBy a_wFell a_telling a_holds a_sizes a_elements a_moved a_above a_out a_first c_t (res.2.1) (res.2.2))) 0 0 (va_A (W_X6_put E a_t a_now a_refused a_kept a_mind a_tape a_words a_wCell a_wFaces a_wTurns a_wSign a_wBy a_wFell a_telling a_holds a_sizes a_elements a_moved a_above a_out a_first c_t c_now c_refused) sz) :=
  met_of (Qc := fun A => qI E A (res.1) (W_X6_put E a_t a_now a_refused a_kept a_mind a_tape a_words a_wCell a_wFaces a_wTurns a_wSign a_wBy a_wFell a_telling a_holds a_sizes a_elements a_moved a_above a_out a_first c_t (res.2.1) (res.2.2))) (by decide) rfl (Nat.le_of_ble_eq_true rfl) (fun p e s m args below meth c X hP hD hS ls hl => w_X6_put X a_t a_now a_refused a_kept a_mind a_tape a_words a_wCell a_wFaces a_wTurns a_wSign a_wBy a_wFell a_telling a_holds a_sizes a_elements a_moved a_above a_out a_first c_t res c_now c_refused l1 l2 l3 ls _ _ h hP hD hS hl)
-- ===== X6_isPond
abbrev W_X6_isPond (E : Env0) (a_t : Nat) (a_now : Nat) (a_refused : Nat) (a_kept : Nat) (a_mind : Nat) (a_tape : Nat) (a_words : Nat) (a_wCell : Nat) (a_wFaces : Nat) (a_wTurns : Nat) (a_wSign : Nat) (a_wBy : Nat) (a_wFell : Nat) (a_telling : Nat) (a_holds : Nat) (a_sizes : Nat) (a_elements : Nat) (a_moved : Nat) (a_above : Nat) (a_out : Nat) (a_first : Nat) (c_t : Nat → Int32) (c_now : Nat → Int32) (c_refused : Nat → Int32) : va_W := [(a_t, .inr (6, [.ref a_refused, .ref a_now, .ref a_kept, .ref a_mind, .int (c_t 4), .ref a_tape, .int (c_t 6), .int (c_t 7), .int (c_t 8), .int (c_t 9), .ref a_words, .ref a_wCell, .ref a_wFaces, .ref a_wTurns, .ref a_wSign, .ref a_wBy, .ref a_wFell, .int (c_t 17), .ref a_telling, .ref a_holds, .ref a_sizes, .ref a_elements, .ref a_moved, .ref a_above, .ref a_out, .ref a_first])), (a_now, .inl (eI E, 97, .inl c_now)), (a_refused, .inl (eI E, 7, .inl c_refused))]
abbrev r_X6_isPond : Room := { frames := 1, cells := 0, slots := 0, locals := 21 }
theorem hd_X6_isPond : yX6_isPond.cls ≠ "java/lang/invoke/MethodHandle" ∧ yX6_isPond.cls ≠ "java/lang/invoke/VarHandle" ∧ (parseMethodDescriptor yX6_isPond.desc).map (fun d => d.parameters.length) = some 1 := by decide +kernel
theorem hV_X6_isPond : yX6_isPond.cls = RX6 ∧ yX6_isPond.cls ≠ "java/lang/invoke/MethodHandle" ∧ yX6_isPond.cls ≠ "java/lang/invoke/VarHandle" ∧ (parseMethodDescriptor yX6_isPond.desc).map (fun d => d.parameters.length) = some 1 := ⟨rfl, hd_X6_isPond⟩
theorem iX6_isPond_X6 : ∀ w ∈ wsX60, w ∈ wsX6_isPond := fun _ h => List.mem_cons_of_mem _ (List.mem_append_right _ (h))
section
variable {p : Program} {l : Launch} {e : Env} {s : State} {m : MethodId} {args : Array Value} {below : List Frame} {meth : Method} {c : Code} {E : Env0} {A : Nat → Prop}
set_option maxRecDepth 100000 in
set_option maxHeartbeats 4000000 in
theorem w_X6_isPond (X : Ctx p m meth c cX6_isPond 2 ((some .int)) s args wsX6_isPond RX6 E A) (a_t : Nat) (a_now : Nat) (a_refused : Nat) (a_kept : Nat) (a_mind : Nat) (a_tape : Nat) (a_words : Nat) (a_wCell : Nat) (a_wFaces : Nat) (a_wTurns : Nat) (a_wSign : Nat) (a_wBy : Nat) (a_wFell : Nat) (a_telling : Nat) (a_holds : Nat) (a_sizes : Nat) (a_elements : Nat) (a_moved : Nat) (a_above : Nat) (a_out : Nat) (a_first : Nat) (c_t : Nat → Int32) (c_now : Nat → Int32) (res : Int32 × (Nat → Int32)) (c_refused : Nat → Int32) (l1 : Int32) (ls : Array Slot) (H : Heap) (locs : List Loc) (h : f_X6_isPond l1 c_t c_now c_refused = some res) (hP : va_P E.1 vwCl (W_X6_isPond E a_t a_now a_refused a_kept a_mind a_tape a_words a_wCell a_wFaces a_wTurns a_wSign a_wBy a_wFell a_telling a_holds a_sizes a_elements a_moved a_above a_out a_first c_t c_now c_refused) H) (hD : va_D A (W_X6_isPond E a_t a_now a_refused a_kept a_mind a_tape a_words a_wCell a_wFaces a_wTurns a_wSign a_wBy a_wFell a_telling a_holds a_sizes a_elements a_moved a_above a_out a_first c_t c_now c_refused)) (hS : va_S A s.heap H locs) (hl : lv_has ls 2 [(0, .ref a_t), (1, .int l1)]) : W p l e r_X6_isPond s m args below meth c H locs 0 0 (MQ below (qI E A (res.1) (W_X6_isPond E a_t a_now a_refused a_kept a_mind a_tape a_words a_wCell a_wFaces a_wTurns a_wSign a_wBy a_wFell a_telling a_holds a_sizes a_elements a_moved a_above a_out a_first c_t c_now (res.2))) args s 0 0 A) (F0 m 0 ls []) := by
  obtain ⟨hx, hb, hml, hr, hlk, hown, hts, hG, hA⟩ := id X
  have hK := hG.1
  have hN := hG.2.1
  unfold f_X6_isPond at h
  refine lv_aload_n hx hb dX6_isPond_0 rfl (lv_at hl 0 rfl) ?_
  refine lv_iload_n hx hb dX6_isPond_1 rfl (lv_at hl 1 rfl) ?_
  obtain ⟨v1, hv1, h⟩ := bind_of h
  refine after_i X (run_V X (c_X6_isCell l E a_t a_now a_refused a_kept a_mind a_tape a_words a_wCell a_wFaces a_wTurns a_wSign a_wBy a_wFell a_telling a_holds a_sizes a_elements a_moved a_above a_out a_first l1 c_t c_now H.size v1 hv1) (cwV 1 hts gX6_isPond_X6_isCell rfl rfl rfl hV_X6_isCell ⟨(Nat.le_of_ble_eq_true rfl), (Nat.le_of_ble_eq_true rfl)⟩) hP hD hS [0, 1] rfl rfl hl.1 (ci := 6) rfl rfl rfl (rest := []) rfl rfl (Nat.le_of_ble_eq_true rfl) dX6_isPond_2) hP hD hS [0, 1] [2] [1, 2, 0] rfl rfl rfl (by decide) rfl (ws1 := (W_X6_isPond E a_t a_now a_refused a_kept a_mind a_tape a_words a_wCell a_wFaces a_wTurns a_wSign a_wBy a_wFell a_telling a_holds a_sizes a_elements a_moved a_above a_out a_first c_t c_now c_refused)) rfl (fun H locs hP hD hS => ?_)
  refine lv_if_eq (tgt := 20) hx hb dX6_isPond_5 (by decide) (fun hc5 => ?_) (fun hc5 => ?_)
  · have h := if_t h hc5
    refine lv_aload_n hx hb dX6_isPond_20 rfl (lv_at hl 0 rfl) ?_
    refine lv_bipush (v := (-2 : Int32)) hx hb dX6_isPond_21 (by decide) ?_
    obtain ⟨v2, hv2, h⟩ := bind_of h
    refine after_i X (run_V X (c_X6_refuse l E a_t a_refused a_now a_kept a_mind a_tape a_words a_wCell a_wFaces a_wTurns a_wSign a_wBy a_wFell a_telling a_holds a_sizes a_elements a_moved a_above a_out a_first (-2 : Int32) c_t c_refused H.size v2 hv2) (cwV 1 hts gX6_isPond_X6_refuse rfl rfl rfl hV_X6_refuse ⟨(Nat.le_of_ble_eq_true rfl), (Nat.le_of_ble_eq_true rfl)⟩) hP hD hS [0, 2] rfl rfl hl.1 (ci := 6) rfl rfl rfl (rest := []) rfl rfl (Nat.le_of_ble_eq_true rfl) dX6_isPond_23) hP hD hS [0, 2] [1] [1, 0, 2] rfl rfl rfl (by decide) rfl (ws1 := (W_X6_isPond E a_t a_now a_refused a_kept a_mind a_tape a_words a_wCell a_wFaces a_wTurns a_wSign a_wBy a_wFell a_telling a_holds a_sizes a_elements a_moved a_above a_out a_first c_t c_now (v2.2))) rfl (fun H locs hP hD hS => ?_)
    obtain rfl := Option.some.inj h
    exact ret_i X dX6_isPond_26 hP hD hS rfl
  · have h := if_f h hc5
    refine lv_aload_n hx hb dX6_isPond_8 rfl (lv_at hl 0 rfl) ?_
    refine va_get (D := E.1) (ci := 6) (v := .ref a_now) (C := RX6) (T := TX6) (N := 26) hx hb hts iX6_isPond_X6 hown hK hP 0 rfl rfl 1 (by decide) (hts (.fieldLink RX6 17 "LeftIsAgreedOnModel" "now" "[I") (List.mem_of_getElem? (i := 1) rfl)) (fun _ h9 => h9) rfl dX6_isPond_9 ?_
    refine lv_iload_n hx hb dX6_isPond_12 rfl (lv_at hl 1 rfl) ?_
    obtain ⟨v3, hv3, h⟩ := bind_of h
    refine after_i X (run_S X (c_X6_pondAt l E l1 H.size v3 hv3) (va_cwS 1 hts gX6_isPond_X6_pondAt rfl rfl rfl hd_X6_pondAt ⟨(Nat.le_of_ble_eq_true rfl), (Nat.le_of_ble_eq_true rfl)⟩) hP hD hS [] rfl rfl hl.1 (rest := [.ref a_now]) rfl rfl (Nat.le_of_ble_eq_true rfl) dX6_isPond_13) hP hD hS [] [0, 1, 2] [0, 1, 2] rfl rfl rfl (by decide) rfl (ws1 := (W_X6_isPond E a_t a_now a_refused a_kept a_mind a_tape a_words a_wCell a_wFaces a_wTurns a_wSign a_wBy a_wFell a_telling a_holds a_sizes a_elements a_moved a_above a_out a_first c_t c_now c_refused)) rfl (fun H locs hP hD hS => ?_)
    obtain ⟨hz16, h⟩ := chk_of h
    refine ld_i X hP 1 rfl (inb.vp hz16) (v := (c_now (v3).toNatClampNeg)) rfl dX6_isPond_16 ?_
    refine lv_goto (tgt := 26) hx hb dX6_isPond_17 (by decide) ?_
    obtain rfl := Option.some.inj h
    exact ret_i X dX6_isPond_26 hP hD hS rfl
end
set_option maxRecDepth 100000 in
theorem c_X6_isPond (l : Launch) (E : Env0) (a_t : Nat) (a_now : Nat) (a_refused : Nat) (a_kept : Nat) (a_mind : Nat) (a_tape : Nat) (a_words : Nat) (a_wCell : Nat) (a_wFaces : Nat) (a_wTurns : Nat) (a_wSign : Nat) (a_wBy : Nat) (a_wFell : Nat) (a_telling : Nat) (a_holds : Nat) (a_sizes : Nat) (a_elements : Nat) (a_moved : Nat) (a_above : Nat) (a_out : Nat) (a_first : Nat) (l1 : Int32) (c_t : Nat → Int32) (c_now : Nat → Int32) (c_refused : Nat → Int32) (sz : Nat) (res : Int32 × (Nat → Int32)) (h : f_X6_isPond l1 c_t c_now c_refused = some res) : Met l yX6_isPond wsX6_isPond r_X6_isPond (cPre E [.ref a_t, .int l1] (W_X6_isPond E a_t a_now a_refused a_kept a_mind a_tape a_words a_wCell a_wFaces a_wTurns a_wSign a_wBy a_wFell a_telling a_holds a_sizes a_elements a_moved a_above a_out a_first c_t c_now c_refused) sz) (qI E (va_A (W_X6_isPond E a_t a_now a_refused a_kept a_mind a_tape a_words a_wCell a_wFaces a_wTurns a_wSign a_wBy a_wFell a_telling a_holds a_sizes a_elements a_moved a_above a_out a_first c_t c_now c_refused) sz) (res.1) (W_X6_isPond E a_t a_now a_refused a_kept a_mind a_tape a_words a_wCell a_wFaces a_wTurns a_wSign a_wBy a_wFell a_telling a_holds a_sizes a_elements a_moved a_above a_out a_first c_t c_now (res.2))) 0 0 (va_A (W_X6_isPond E a_t a_now a_refused a_kept a_mind a_tape a_words a_wCell a_wFaces a_wTurns a_wSign a_wBy a_wFell a_telling a_holds a_sizes a_elements a_moved a_above a_out a_first c_t c_now c_refused) sz) :=
  met_of (Qc := fun A => qI E A (res.1) (W_X6_isPond E a_t a_now a_refused a_kept a_mind a_tape a_words a_wCell a_wFaces a_wTurns a_wSign a_wBy a_wFell a_telling a_holds a_sizes a_elements a_moved a_above a_out a_first c_t c_now (res.2))) (by decide) rfl (Nat.le_of_ble_eq_true rfl) (fun p e s m args below meth c X hP hD hS ls hl => w_X6_isPond X a_t a_now a_refused a_kept a_mind a_tape a_words a_wCell a_wFaces a_wTurns a_wSign a_wBy a_wFell a_telling a_holds a_sizes a_elements a_moved a_above a_out a_first c_t c_now res c_refused l1 ls _ _ h hP hD hS hl)
-- ===== X6_feed
abbrev W_X6_feed (E : Env0) (a_t : Nat) (a_refused : Nat) (a_tape : Nat) (a_now : Nat) (a_kept : Nat) (a_mind : Nat) (a_words : Nat) (a_wCell : Nat) (a_wFaces : Nat) (a_wTurns : Nat) (a_wSign : Nat) (a_wBy : Nat) (a_wFell : Nat) (a_telling : Nat) (a_holds : Nat) (a_sizes : Nat) (a_elements : Nat) (a_moved : Nat) (a_above : Nat) (a_out : Nat) (a_first : Nat) (c_t : Nat → Int32) (c_refused : Nat → Int32) (c_tape : Nat → Int32) : va_W := [(a_t, .inr (6, [.ref a_refused, .ref a_now, .ref a_kept, .ref a_mind, .int (c_t 4), .ref a_tape, .int (c_t 6), .int (c_t 7), .int (c_t 8), .int (c_t 9), .ref a_words, .ref a_wCell, .ref a_wFaces, .ref a_wTurns, .ref a_wSign, .ref a_wBy, .ref a_wFell, .int (c_t 17), .ref a_telling, .ref a_holds, .ref a_sizes, .ref a_elements, .ref a_moved, .ref a_above, .ref a_out, .ref a_first])), (a_refused, .inl (eI E, 7, .inl c_refused)), (a_tape, .inl (eI E, 250, .inl c_tape))]
abbrev r_X6_feed : Room := { frames := 1, cells := 0, slots := 0, locals := 25 }
theorem hd_X6_feed : yX6_feed.cls ≠ "java/lang/invoke/MethodHandle" ∧ yX6_feed.cls ≠ "java/lang/invoke/VarHandle" ∧ (parseMethodDescriptor yX6_feed.desc).map (fun d => d.parameters.length) = some 1 := by decide +kernel
theorem hV_X6_feed : yX6_feed.cls = RX6 ∧ yX6_feed.cls ≠ "java/lang/invoke/MethodHandle" ∧ yX6_feed.cls ≠ "java/lang/invoke/VarHandle" ∧ (parseMethodDescriptor yX6_feed.desc).map (fun d => d.parameters.length) = some 1 := ⟨rfl, hd_X6_feed⟩
theorem iX6_feed_X6 : ∀ w ∈ wsX60, w ∈ wsX6_feed := fun _ h => List.mem_cons_of_mem _ (List.mem_append_right _ (h))
section
variable {p : Program} {l : Launch} {e : Env} {s : State} {m : MethodId} {args : Array Value} {below : List Frame} {meth : Method} {c : Code} {E : Env0} {A : Nat → Prop}
set_option maxRecDepth 100000 in
set_option maxHeartbeats 4000000 in
theorem w_X6_feed (X : Ctx p m meth c cX6_feed 2 ((some .int)) s args wsX6_feed RX6 E A) (a_t : Nat) (a_refused : Nat) (a_tape : Nat) (a_now : Nat) (a_kept : Nat) (a_mind : Nat) (a_words : Nat) (a_wCell : Nat) (a_wFaces : Nat) (a_wTurns : Nat) (a_wSign : Nat) (a_wBy : Nat) (a_wFell : Nat) (a_telling : Nat) (a_holds : Nat) (a_sizes : Nat) (a_elements : Nat) (a_moved : Nat) (a_above : Nat) (a_out : Nat) (a_first : Nat) (res : Int32 × (Nat → Int32) × (Nat → Int32) × (Nat → Int32)) (c_t : Nat → Int32) (c_refused : Nat → Int32) (c_tape : Nat → Int32) (l1 : Int32) (ls : Array Slot) (H : Heap) (locs : List Loc) (h : f_X6_feed l1 c_t c_refused c_tape = some res) (hP : va_P E.1 vwCl (W_X6_feed E a_t a_refused a_tape a_now a_kept a_mind a_words a_wCell a_wFaces a_wTurns a_wSign a_wBy a_wFell a_telling a_holds a_sizes a_elements a_moved a_above a_out a_first c_t c_refused c_tape) H) (hD : va_D A (W_X6_feed E a_t a_refused a_tape a_now a_kept a_mind a_words a_wCell a_wFaces a_wTurns a_wSign a_wBy a_wFell a_telling a_holds a_sizes a_elements a_moved a_above a_out a_first c_t c_refused c_tape)) (hS : va_S A s.heap H locs) (hl : lv_has ls 2 [(0, .ref a_t), (1, .int l1)]) : W p l e r_X6_feed s m args below meth c H locs 0 0 (MQ below (qI E A (res.1) (W_X6_feed E a_t a_refused a_tape a_now a_kept a_mind a_words a_wCell a_wFaces a_wTurns a_wSign a_wBy a_wFell a_telling a_holds a_sizes a_elements a_moved a_above a_out a_first (res.2.1) (res.2.2.1) (res.2.2.2))) args s 0 0 A) (F0 m 0 ls []) := by
  obtain ⟨hx, hb, hml, hr, hlk, hown, hts, hG, hA⟩ := id X
  have hK := hG.1
  have hN := hG.2.1
  unfold f_X6_feed at h
  refine lv_iload_n hx hb dX6_feed_0 rfl (lv_at hl 1 rfl) ?_
  refine lv_i2l (v := (l1.toInt64)) hx hb dX6_feed_1 rfl ?_
  refine lv_lconst (v := (0 : Int64)) hx hb dX6_feed_2 (by decide) ?_
  refine lv_ldc2 (v := (255 : Int64)) hx hb hown (hts (.constantLong RX6 130 (255)) (List.mem_of_getElem? (i := 1) rfl)) dX6_feed_3 ?_
  obtain ⟨v1, hv1, h⟩ := bind_of h
  refine after_i X (run_S X (c_X6_isIn l E (l1.toInt64) (0 : Int64) (255 : Int64) H.size v1 hv1) (va_cwS 3 hts gX6_feed_X6_isIn rfl rfl rfl hd_X6_isIn ⟨(Nat.le_of_ble_eq_true rfl), (Nat.le_of_ble_eq_true rfl)⟩) hP hD hS [] rfl rfl hl.1 (rest := []) rfl rfl (Nat.le_of_ble_eq_true rfl) dX6_feed_6) hP hD hS [] [0, 1, 2] [0, 1, 2] rfl rfl rfl (by decide) rfl (ws1 := (W_X6_feed E a_t a_refused a_tape a_now a_kept a_mind a_words a_wCell a_wFaces a_wTurns a_wSign a_wBy a_wFell a_telling a_holds a_sizes a_elements a_moved a_above a_out a_first c_t c_refused c_tape)) rfl (fun H locs hP hD hS => ?_)
  refine lv_if_ne (tgt := 19) hx hb dX6_feed_9 (by decide) (fun hc9 => ?_) (fun hc9 => ?_)
  · have h := if_f h hc9
    refine lv_aload_n hx hb dX6_feed_19 rfl (lv_at hl 0 rfl) ?_
    refine va_get (D := E.1) (ci := 6) (v := .int (c_t 6)) (C := RX6) (T := TX6) (N := 26) hx hb hts iX6_feed_X6 hown hK hP 0 rfl rfl 6 (by decide) (hts (.fieldLink RX6 132 "LeftIsAgreedOnModel" "size" "I") (List.mem_of_getElem? (i := 2) rfl)) (fun _ h9 => h9) rfl dX6_feed_20 ?_
    refine lv_sipush (v := (250 : Int32)) hx hb dX6_feed_23 (by decide) ?_
    refine lv_icmp_ne (tgt := 36) hx hb dX6_feed_26 (by decide) (fun hc26 => ?_) (fun hc26 => ?_)
    · have h := if_f h hc26
      refine lv_aload_n hx hb dX6_feed_36 rfl (lv_at hl 0 rfl) ?_
      refine va_get (D := E.1) (ci := 6) (v := .ref a_tape) (C := RX6) (T := TX6) (N := 26) hx hb hts iX6_feed_X6 hown hK hP 0 rfl rfl 5 (by decide) (hts (.fieldLink RX6 26 "LeftIsAgreedOnModel" "tape" "[I") (List.mem_of_getElem? (i := 3) rfl)) (fun _ h9 => h9) rfl dX6_feed_37 ?_
      refine lv_aload_n hx hb dX6_feed_40 rfl (lv_at hl 0 rfl) ?_
      refine va_get (D := E.1) (ci := 6) (v := .int (c_t 6)) (C := RX6) (T := TX6) (N := 26) hx hb hts iX6_feed_X6 hown hK hP 0 rfl rfl 6 (by decide) (hts (.fieldLink RX6 132 "LeftIsAgreedOnModel" "size" "I") (List.mem_of_getElem? (i := 2) rfl)) (fun _ h9 => h9) rfl dX6_feed_41 ?_
      refine lv_iload_n hx hb dX6_feed_44 rfl (lv_at hl 1 rfl) ?_
      obtain ⟨hz45, h⟩ := chk_of h
      refine st_i X hP hD hS 2 rfl (inb.vp hz45) (k := ((c_t 6)).toNatClampNeg) rfl (ws1 := (W_X6_feed E a_t a_refused a_tape a_now a_kept a_mind a_words a_wCell a_wFaces a_wTurns a_wSign a_wBy a_wFell a_telling a_holds a_sizes a_elements a_moved a_above a_out a_first c_t c_refused (upd c_tape (((c_t 6)).toNatClampNeg) l1))) rfl dX6_feed_45 (fun H locs hP hD hS => ?_)
      refine lv_aload_n hx hb dX6_feed_46 rfl (lv_at hl 0 rfl) ?_
      refine lv_dup hx hb dX6_feed_47 rfl ?_
      refine va_get (D := E.1) (ci := 6) (v := .int (c_t 6)) (C := RX6) (T := TX6) (N := 26) hx hb hts iX6_feed_X6 hown hK hP 0 rfl rfl 6 (by decide) (hts (.fieldLink RX6 132 "LeftIsAgreedOnModel" "size" "I") (List.mem_of_getElem? (i := 2) rfl)) (fun _ h9 => h9) rfl dX6_feed_48 ?_
      refine lv_iconst (v := (1 : Int32)) hx hb dX6_feed_51 (by decide) ?_
      refine lv_iadd hx hb dX6_feed_52 ?_
      refine va_put (D := E.1) (ci := 6) (v := .int ((c_t 6) + (1 : Int32))) (ty := .int) (C := RX6) (T := TX6) (N := 26) hx hb hts iX6_feed_X6 tyX6 tyX6_ok nmX6 hown hK hP hD hS 0 rfl rfl 6 (by decide) (hts (.fieldLink RX6 132 "LeftIsAgreedOnModel" "size" "I") (List.mem_of_getElem? (i := 2) rfl)) (fun _ h9 => h9) rfl (tyX6_ok 6 (by decide)) rfl rfl (Nat.le_of_ble_eq_true rfl) dX6_feed_53 (fun H locs hP hD hS => ?_)
      have hP : va_P E.1 vwCl (W_X6_feed E a_t a_refused a_tape a_now a_kept a_mind a_words a_wCell a_wFaces a_wTurns a_wSign a_wBy a_wFell a_telling a_holds a_sizes a_elements a_moved a_above a_out a_first (upd c_t 6 ((c_t 6) + (1 : Int32))) c_refused (upd c_tape (((c_t 6)).toNatClampNeg) l1)) H := hP
      have hD : va_D A (W_X6_feed E a_t a_refused a_tape a_now a_kept a_mind a_words a_wCell a_wFaces a_wTurns a_wSign a_wBy a_wFell a_telling a_holds a_sizes a_elements a_moved a_above a_out a_first (upd c_t 6 ((c_t 6) + (1 : Int32))) c_refused (upd c_tape (((c_t 6)).toNatClampNeg) l1)) := hD
      refine lv_aload_n hx hb dX6_feed_56 rfl (lv_at hl 0 rfl) ?_
      refine va_get (D := E.1) (ci := 6) (v := .int ((upd c_t 6 ((c_t 6) + (1 : Int32))) 6)) (C := RX6) (T := TX6) (N := 26) hx hb hts iX6_feed_X6 hown hK hP 0 rfl rfl 6 (by decide) (hts (.fieldLink RX6 132 "LeftIsAgreedOnModel" "size" "I") (List.mem_of_getElem? (i := 2) rfl)) (fun _ h9 => h9) rfl dX6_feed_57 ?_
      obtain rfl := Option.some.inj h
      exact ret_i X dX6_feed_60 hP hD hS rfl
    · have h := if_t h hc26
      refine lv_aload_n hx hb dX6_feed_29 rfl (lv_at hl 0 rfl) ?_
      refine lv_bipush (v := (-6 : Int32)) hx hb dX6_feed_30 (by decide) ?_
      obtain ⟨v2, hv2, h⟩ := bind_of h
      refine after_i X (run_V X (c_X6_refuse l E a_t a_refused a_now a_kept a_mind a_tape a_words a_wCell a_wFaces a_wTurns a_wSign a_wBy a_wFell a_telling a_holds a_sizes a_elements a_moved a_above a_out a_first (-6 : Int32) c_t c_refused H.size v2 hv2) (cwV 1 hts gX6_feed_X6_refuse rfl rfl rfl hV_X6_refuse ⟨(Nat.le_of_ble_eq_true rfl), (Nat.le_of_ble_eq_true rfl)⟩) hP hD hS [0, 1] rfl rfl hl.1 (ci := 6) rfl rfl rfl (rest := []) rfl rfl (Nat.le_of_ble_eq_true rfl) dX6_feed_32) hP hD hS [0, 1] [2] [1, 2, 0] rfl rfl rfl (by decide) rfl (ws1 := (W_X6_feed E a_t a_refused a_tape a_now a_kept a_mind a_words a_wCell a_wFaces a_wTurns a_wSign a_wBy a_wFell a_telling a_holds a_sizes a_elements a_moved a_above a_out a_first c_t (v2.2) c_tape)) rfl (fun H locs hP hD hS => ?_)
      obtain rfl := Option.some.inj h
      exact ret_i X dX6_feed_35 hP hD hS rfl
  · have h := if_t h hc9
    refine lv_aload_n hx hb dX6_feed_12 rfl (lv_at hl 0 rfl) ?_
    refine lv_bipush (v := (-2 : Int32)) hx hb dX6_feed_13 (by decide) ?_
    obtain ⟨v3, hv3, h⟩ := bind_of h
    refine after_i X (run_V X (c_X6_refuse l E a_t a_refused a_now a_kept a_mind a_tape a_words a_wCell a_wFaces a_wTurns a_wSign a_wBy a_wFell a_telling a_holds a_sizes a_elements a_moved a_above a_out a_first (-2 : Int32) c_t c_refused H.size v3 hv3) (cwV 1 hts gX6_feed_X6_refuse rfl rfl rfl hV_X6_refuse ⟨(Nat.le_of_ble_eq_true rfl), (Nat.le_of_ble_eq_true rfl)⟩) hP hD hS [0, 1] rfl rfl hl.1 (ci := 6) rfl rfl rfl (rest := []) rfl rfl (Nat.le_of_ble_eq_true rfl) dX6_feed_15) hP hD hS [0, 1] [2] [1, 2, 0] rfl rfl rfl (by decide) rfl (ws1 := (W_X6_feed E a_t a_refused a_tape a_now a_kept a_mind a_words a_wCell a_wFaces a_wTurns a_wSign a_wBy a_wFell a_telling a_holds a_sizes a_elements a_moved a_above a_out a_first c_t (v3.2) c_tape)) rfl (fun H locs hP hD hS => ?_)
    obtain rfl := Option.some.inj h
    exact ret_i X dX6_feed_18 hP hD hS rfl
end
set_option maxRecDepth 100000 in
theorem c_X6_feed (l : Launch) (E : Env0) (a_t : Nat) (a_refused : Nat) (a_tape : Nat) (a_now : Nat) (a_kept : Nat) (a_mind : Nat) (a_words : Nat) (a_wCell : Nat) (a_wFaces : Nat) (a_wTurns : Nat) (a_wSign : Nat) (a_wBy : Nat) (a_wFell : Nat) (a_telling : Nat) (a_holds : Nat) (a_sizes : Nat) (a_elements : Nat) (a_moved : Nat) (a_above : Nat) (a_out : Nat) (a_first : Nat) (l1 : Int32) (c_t : Nat → Int32) (c_refused : Nat → Int32) (c_tape : Nat → Int32) (sz : Nat) (res : Int32 × (Nat → Int32) × (Nat → Int32) × (Nat → Int32)) (h : f_X6_feed l1 c_t c_refused c_tape = some res) : Met l yX6_feed wsX6_feed r_X6_feed (cPre E [.ref a_t, .int l1] (W_X6_feed E a_t a_refused a_tape a_now a_kept a_mind a_words a_wCell a_wFaces a_wTurns a_wSign a_wBy a_wFell a_telling a_holds a_sizes a_elements a_moved a_above a_out a_first c_t c_refused c_tape) sz) (qI E (va_A (W_X6_feed E a_t a_refused a_tape a_now a_kept a_mind a_words a_wCell a_wFaces a_wTurns a_wSign a_wBy a_wFell a_telling a_holds a_sizes a_elements a_moved a_above a_out a_first c_t c_refused c_tape) sz) (res.1) (W_X6_feed E a_t a_refused a_tape a_now a_kept a_mind a_words a_wCell a_wFaces a_wTurns a_wSign a_wBy a_wFell a_telling a_holds a_sizes a_elements a_moved a_above a_out a_first (res.2.1) (res.2.2.1) (res.2.2.2))) 0 0 (va_A (W_X6_feed E a_t a_refused a_tape a_now a_kept a_mind a_words a_wCell a_wFaces a_wTurns a_wSign a_wBy a_wFell a_telling a_holds a_sizes a_elements a_moved a_above a_out a_first c_t c_refused c_tape) sz) :=
  met_of (Qc := fun A => qI E A (res.1) (W_X6_feed E a_t a_refused a_tape a_now a_kept a_mind a_words a_wCell a_wFaces a_wTurns a_wSign a_wBy a_wFell a_telling a_holds a_sizes a_elements a_moved a_above a_out a_first (res.2.1) (res.2.2.1) (res.2.2.2))) (by decide) rfl (Nat.le_of_ble_eq_true rfl) (fun p e s m args below meth c X hP hD hS ls hl => w_X6_feed X a_t a_refused a_tape a_now a_kept a_mind a_words a_wCell a_wFaces a_wTurns a_wSign a_wBy a_wFell a_telling a_holds a_sizes a_elements a_moved a_above a_out a_first res c_t c_refused c_tape l1 ls _ _ h hP hD hS hl)
-- ===== X6_wipe
abbrev W_X6_wipe (E : Env0) (a_t : Nat) (a_refused : Nat) (a_now : Nat) (a_kept : Nat) (a_mind : Nat) (a_tape : Nat) (a_words : Nat) (a_wCell : Nat) (a_wFaces : Nat) (a_wTurns : Nat) (a_wSign : Nat) (a_wBy : Nat) (a_wFell : Nat) (a_telling : Nat) (a_holds : Nat) (a_sizes : Nat) (a_elements : Nat) (a_moved : Nat) (a_above : Nat) (a_out : Nat) (a_first : Nat) (c_t : Nat → Int32) : va_W := [(a_t, .inr (6, [.ref a_refused, .ref a_now, .ref a_kept, .ref a_mind, .int (c_t 4), .ref a_tape, .int (c_t 6), .int (c_t 7), .int (c_t 8), .int (c_t 9), .ref a_words, .ref a_wCell, .ref a_wFaces, .ref a_wTurns, .ref a_wSign, .ref a_wBy, .ref a_wFell, .int (c_t 17), .ref a_telling, .ref a_holds, .ref a_sizes, .ref a_elements, .ref a_moved, .ref a_above, .ref a_out, .ref a_first]))]
abbrev r_X6_wipe : Room := { frames := 0, cells := 0, slots := 0, locals := 0 }
theorem hd_X6_wipe : yX6_wipe.cls ≠ "java/lang/invoke/MethodHandle" ∧ yX6_wipe.cls ≠ "java/lang/invoke/VarHandle" ∧ (parseMethodDescriptor yX6_wipe.desc).map (fun d => d.parameters.length) = some 0 := by decide +kernel
theorem hV_X6_wipe : yX6_wipe.cls = RX6 ∧ yX6_wipe.cls ≠ "java/lang/invoke/MethodHandle" ∧ yX6_wipe.cls ≠ "java/lang/invoke/VarHandle" ∧ (parseMethodDescriptor yX6_wipe.desc).map (fun d => d.parameters.length) = some 0 := ⟨rfl, hd_X6_wipe⟩
theorem iX6_wipe_X6 : ∀ w ∈ wsX60, w ∈ wsX6_wipe := fun _ h => List.mem_cons_of_mem _ (List.mem_append_right _ (h))
section
variable {p : Program} {l : Launch} {e : Env} {s : State} {m : MethodId} {args : Array Value} {below : List Frame} {meth : Method} {c : Code} {E : Env0} {A : Nat → Prop}
set_option maxRecDepth 100000 in
set_option maxHeartbeats 4000000 in
theorem w_X6_wipe (X : Ctx p m meth c cX6_wipe 2 ((some .int)) s args wsX6_wipe RX6 E A) (a_t : Nat) (a_refused : Nat) (a_now : Nat) (a_kept : Nat) (a_mind : Nat) (a_tape : Nat) (a_words : Nat) (a_wCell : Nat) (a_wFaces : Nat) (a_wTurns : Nat) (a_wSign : Nat) (a_wBy : Nat) (a_wFell : Nat) (a_telling : Nat) (a_holds : Nat) (a_sizes : Nat) (a_elements : Nat) (a_moved : Nat) (a_above : Nat) (a_out : Nat) (a_first : Nat) (res : Int32 × (Nat → Int32)) (c_t : Nat → Int32) (ls : Array Slot) (H : Heap) (locs : List Loc) (h : f_X6_wipe c_t = some res) (hP : va_P E.1 vwCl (W_X6_wipe E a_t a_refused a_now a_kept a_mind a_tape a_words a_wCell a_wFaces a_wTurns a_wSign a_wBy a_wFell a_telling a_holds a_sizes a_elements a_moved a_above a_out a_first c_t) H) (hD : va_D A (W_X6_wipe E a_t a_refused a_now a_kept a_mind a_tape a_words a_wCell a_wFaces a_wTurns a_wSign a_wBy a_wFell a_telling a_holds a_sizes a_elements a_moved a_above a_out a_first c_t)) (hS : va_S A s.heap H locs) (hl : lv_has ls 2 [(0, .ref a_t)]) : W p l e r_X6_wipe s m args below meth c H locs 0 0 (MQ below (qI E A (res.1) (W_X6_wipe E a_t a_refused a_now a_kept a_mind a_tape a_words a_wCell a_wFaces a_wTurns a_wSign a_wBy a_wFell a_telling a_holds a_sizes a_elements a_moved a_above a_out a_first (res.2))) args s 0 0 A) (F0 m 0 ls []) := by
  obtain ⟨hx, hb, hml, hr, hlk, hown, hts, hG, hA⟩ := id X
  have hK := hG.1
  have hN := hG.2.1
  unfold f_X6_wipe at h
  refine lv_aload_n hx hb dX6_wipe_0 rfl (lv_at hl 0 rfl) ?_
  refine va_get (D := E.1) (ci := 6) (v := .int (c_t 6)) (C := RX6) (T := TX6) (N := 26) hx hb hts iX6_wipe_X6 hown hK hP 0 rfl rfl 6 (by decide) (hts (.fieldLink RX6 132 "LeftIsAgreedOnModel" "size" "I") (List.mem_of_getElem? (i := 1) rfl)) (fun _ h9 => h9) rfl dX6_wipe_1 ?_
  refine lv_istore_n (lv' := [(1, .int (c_t 6)), (0, .ref a_t)]) hx hb dX6_wipe_4 rfl hl (by decide) rfl (fun ls hl => ?_)
  refine lv_aload_n hx hb dX6_wipe_5 rfl (lv_at hl 1 rfl) ?_
  refine lv_iconst (v := (0 : Int32)) hx hb dX6_wipe_6 (by decide) ?_
  refine va_put (D := E.1) (ci := 6) (v := .int (0 : Int32)) (ty := .int) (C := RX6) (T := TX6) (N := 26) hx hb hts iX6_wipe_X6 tyX6 tyX6_ok nmX6 hown hK hP hD hS 0 rfl rfl 6 (by decide) (hts (.fieldLink RX6 132 "LeftIsAgreedOnModel" "size" "I") (List.mem_of_getElem? (i := 1) rfl)) (fun _ h9 => h9) rfl (tyX6_ok 6 (by decide)) rfl rfl (Nat.le_of_ble_eq_true rfl) dX6_wipe_7 (fun H locs hP hD hS => ?_)
  have hP : va_P E.1 vwCl (W_X6_wipe E a_t a_refused a_now a_kept a_mind a_tape a_words a_wCell a_wFaces a_wTurns a_wSign a_wBy a_wFell a_telling a_holds a_sizes a_elements a_moved a_above a_out a_first (upd c_t 6 (0 : Int32))) H := hP
  have hD : va_D A (W_X6_wipe E a_t a_refused a_now a_kept a_mind a_tape a_words a_wCell a_wFaces a_wTurns a_wSign a_wBy a_wFell a_telling a_holds a_sizes a_elements a_moved a_above a_out a_first (upd c_t 6 (0 : Int32))) := hD
  refine lv_iload_n hx hb dX6_wipe_10 rfl (lv_at hl 0 rfl) ?_
  obtain rfl := Option.some.inj h
  exact ret_i X dX6_wipe_11 hP hD hS rfl
end
set_option maxRecDepth 100000 in
theorem c_X6_wipe (l : Launch) (E : Env0) (a_t : Nat) (a_refused : Nat) (a_now : Nat) (a_kept : Nat) (a_mind : Nat) (a_tape : Nat) (a_words : Nat) (a_wCell : Nat) (a_wFaces : Nat) (a_wTurns : Nat) (a_wSign : Nat) (a_wBy : Nat) (a_wFell : Nat) (a_telling : Nat) (a_holds : Nat) (a_sizes : Nat) (a_elements : Nat) (a_moved : Nat) (a_above : Nat) (a_out : Nat) (a_first : Nat) (c_t : Nat → Int32) (sz : Nat) (res : Int32 × (Nat → Int32)) (h : f_X6_wipe c_t = some res) : Met l yX6_wipe wsX6_wipe r_X6_wipe (cPre E [.ref a_t] (W_X6_wipe E a_t a_refused a_now a_kept a_mind a_tape a_words a_wCell a_wFaces a_wTurns a_wSign a_wBy a_wFell a_telling a_holds a_sizes a_elements a_moved a_above a_out a_first c_t) sz) (qI E (va_A (W_X6_wipe E a_t a_refused a_now a_kept a_mind a_tape a_words a_wCell a_wFaces a_wTurns a_wSign a_wBy a_wFell a_telling a_holds a_sizes a_elements a_moved a_above a_out a_first c_t) sz) (res.1) (W_X6_wipe E a_t a_refused a_now a_kept a_mind a_tape a_words a_wCell a_wFaces a_wTurns a_wSign a_wBy a_wFell a_telling a_holds a_sizes a_elements a_moved a_above a_out a_first (res.2))) 0 0 (va_A (W_X6_wipe E a_t a_refused a_now a_kept a_mind a_tape a_words a_wCell a_wFaces a_wTurns a_wSign a_wBy a_wFell a_telling a_holds a_sizes a_elements a_moved a_above a_out a_first c_t) sz) :=
  met_of (Qc := fun A => qI E A (res.1) (W_X6_wipe E a_t a_refused a_now a_kept a_mind a_tape a_words a_wCell a_wFaces a_wTurns a_wSign a_wBy a_wFell a_telling a_holds a_sizes a_elements a_moved a_above a_out a_first (res.2))) (by decide) rfl (Nat.le_of_ble_eq_true rfl) (fun p e s m args below meth c X hP hD hS ls hl => w_X6_wipe X a_t a_refused a_now a_kept a_mind a_tape a_words a_wCell a_wFaces a_wTurns a_wSign a_wBy a_wFell a_telling a_holds a_sizes a_elements a_moved a_above a_out a_first res c_t ls _ _ h hP hD hS hl)
-- ===== X6_sortAt
abbrev W_X6_sortAt (E : Env0) (a_t : Nat) (a_tape : Nat) (a_refused : Nat) (a_now : Nat) (a_kept : Nat) (a_mind : Nat) (a_words : Nat) (a_wCell : Nat) (a_wFaces : Nat) (a_wTurns : Nat) (a_wSign : Nat) (a_wBy : Nat) (a_wFell : Nat) (a_telling : Nat) (a_holds : Nat) (a_sizes : Nat) (a_elements : Nat) (a_moved : Nat) (a_above : Nat) (a_out : Nat) (a_first : Nat) (c_t : Nat → Int32) (c_tape : Nat → Int32) : va_W := [(a_t, .inr (6, [.ref a_refused, .ref a_now, .ref a_kept, .ref a_mind, .int (c_t 4), .ref a_tape, .int (c_t 6), .int (c_t 7), .int (c_t 8), .int (c_t 9), .ref a_words, .ref a_wCell, .ref a_wFaces, .ref a_wTurns, .ref a_wSign, .ref a_wBy, .ref a_wFell, .int (c_t 17), .ref a_telling, .ref a_holds, .ref a_sizes, .ref a_elements, .ref a_moved, .ref a_above, .ref a_out, .ref a_first])), (a_tape, .inl (eI E, 250, .inl c_tape))]
abbrev r_X6_sortAt : Room := { frames := 1, cells := 0, slots := 0, locals := 25 }
theorem hd_X6_sortAt : yX6_sortAt.cls ≠ "java/lang/invoke/MethodHandle" ∧ yX6_sortAt.cls ≠ "java/lang/invoke/VarHandle" ∧ (parseMethodDescriptor yX6_sortAt.desc).map (fun d => d.parameters.length) = some 1 := by decide +kernel
theorem hV_X6_sortAt : yX6_sortAt.cls = RX6 ∧ yX6_sortAt.cls ≠ "java/lang/invoke/MethodHandle" ∧ yX6_sortAt.cls ≠ "java/lang/invoke/VarHandle" ∧ (parseMethodDescriptor yX6_sortAt.desc).map (fun d => d.parameters.length) = some 1 := ⟨rfl, hd_X6_sortAt⟩
theorem iX6_sortAt_X6 : ∀ w ∈ wsX60, w ∈ wsX6_sortAt := fun _ h => List.mem_cons_of_mem _ (List.mem_append_right _ (h))
section
variable {p : Program} {l : Launch} {e : Env} {s : State} {m : MethodId} {args : Array Value} {below : List Frame} {meth : Method} {c : Code} {E : Env0} {A : Nat → Prop}
set_option maxRecDepth 100000 in
set_option maxHeartbeats 4000000 in
theorem w_X6_sortAt (X : Ctx p m meth c cX6_sortAt 2 ((some .int)) s args wsX6_sortAt RX6 E A) (a_t : Nat) (a_tape : Nat) (a_refused : Nat) (a_now : Nat) (a_kept : Nat) (a_mind : Nat) (a_words : Nat) (a_wCell : Nat) (a_wFaces : Nat) (a_wTurns : Nat) (a_wSign : Nat) (a_wBy : Nat) (a_wFell : Nat) (a_telling : Nat) (a_holds : Nat) (a_sizes : Nat) (a_elements : Nat) (a_moved : Nat) (a_above : Nat) (a_out : Nat) (a_first : Nat) (c_t : Nat → Int32) (c_tape : Nat → Int32) (res : Int32) (l1 : Int32) (ls : Array Slot) (H : Heap) (locs : List Loc) (h : f_X6_sortAt l1 c_t c_tape = some res) (hP : va_P E.1 vwCl (W_X6_sortAt E a_t a_tape a_refused a_now a_kept a_mind a_words a_wCell a_wFaces a_wTurns a_wSign a_wBy a_wFell a_telling a_holds a_sizes a_elements a_moved a_above a_out a_first c_t c_tape) H) (hD : va_D A (W_X6_sortAt E a_t a_tape a_refused a_now a_kept a_mind a_words a_wCell a_wFaces a_wTurns a_wSign a_wBy a_wFell a_telling a_holds a_sizes a_elements a_moved a_above a_out a_first c_t c_tape)) (hS : va_S A s.heap H locs) (hl : lv_has ls 2 [(0, .ref a_t), (1, .int l1)]) : W p l e r_X6_sortAt s m args below meth c H locs 0 0 (MQ below (qI E A res (W_X6_sortAt E a_t a_tape a_refused a_now a_kept a_mind a_words a_wCell a_wFaces a_wTurns a_wSign a_wBy a_wFell a_telling a_holds a_sizes a_elements a_moved a_above a_out a_first c_t c_tape)) args s 0 0 A) (F0 m 0 ls []) := by
  obtain ⟨hx, hb, hml, hr, hlk, hown, hts, hG, hA⟩ := id X
  have hK := hG.1
  have hN := hG.2.1
  unfold f_X6_sortAt at h
  refine lv_iload_n hx hb dX6_sortAt_0 rfl (lv_at hl 1 rfl) ?_
  refine lv_aload_n hx hb dX6_sortAt_1 rfl (lv_at hl 0 rfl) ?_
  refine va_get (D := E.1) (ci := 6) (v := .int (c_t 6)) (C := RX6) (T := TX6) (N := 26) hx hb hts iX6_sortAt_X6 hown hK hP 0 rfl rfl 6 (by decide) (hts (.fieldLink RX6 132 "LeftIsAgreedOnModel" "size" "I") (List.mem_of_getElem? (i := 1) rfl)) (fun _ h9 => h9) rfl dX6_sortAt_2 ?_
  refine lv_icmp_lt (tgt := 12) hx hb dX6_sortAt_5 (by decide) (fun hc5 => ?_) (fun hc5 => ?_)
  · have h := if_t h hc5
    refine lv_aload_n hx hb dX6_sortAt_12 rfl (lv_at hl 0 rfl) ?_
    refine va_get (D := E.1) (ci := 6) (v := .ref a_tape) (C := RX6) (T := TX6) (N := 26) hx hb hts iX6_sortAt_X6 hown hK hP 0 rfl rfl 5 (by decide) (hts (.fieldLink RX6 26 "LeftIsAgreedOnModel" "tape" "[I") (List.mem_of_getElem? (i := 2) rfl)) (fun _ h9 => h9) rfl dX6_sortAt_13 ?_
    refine lv_iload_n hx hb dX6_sortAt_16 rfl (lv_at hl 1 rfl) ?_
    obtain ⟨hz17, h⟩ := chk_of h
    refine ld_i X hP 1 rfl (inb.vp hz17) (v := (c_tape (l1).toNatClampNeg)) rfl dX6_sortAt_17 ?_
    refine lv_i2l (v := ((c_tape (l1).toNatClampNeg).toInt64)) hx hb dX6_sortAt_18 rfl ?_
    refine lv_ldc2 (v := (97 : Int64)) hx hb hown (hts (.constantLong RX6 136 (97)) (List.mem_of_getElem? (i := 3) rfl)) dX6_sortAt_19 ?_
    refine lv_ldc2 (v := (122 : Int64)) hx hb hown (hts (.constantLong RX6 138 (122)) (List.mem_of_getElem? (i := 4) rfl)) dX6_sortAt_22 ?_
    obtain ⟨v1, hv1, h⟩ := bind_of h
    refine after_i X (run_S X (c_X6_isIn l E ((c_tape (l1).toNatClampNeg).toInt64) (97 : Int64) (122 : Int64) H.size v1 hv1) (va_cwS 3 hts gX6_sortAt_X6_isIn rfl rfl rfl hd_X6_isIn ⟨(Nat.le_of_ble_eq_true rfl), (Nat.le_of_ble_eq_true rfl)⟩) hP hD hS [] rfl rfl hl.1 (rest := []) rfl rfl (Nat.le_of_ble_eq_true rfl) dX6_sortAt_25) hP hD hS [] [0, 1] [0, 1] rfl rfl rfl (by decide) rfl (ws1 := (W_X6_sortAt E a_t a_tape a_refused a_now a_kept a_mind a_words a_wCell a_wFaces a_wTurns a_wSign a_wBy a_wFell a_telling a_holds a_sizes a_elements a_moved a_above a_out a_first c_t c_tape)) rfl (fun H locs hP hD hS => ?_)
    refine lv_if_eq (tgt := 35) hx hb dX6_sortAt_28 (by decide) (fun hc28 => ?_) (fun hc28 => ?_)
    · have h := if_t h hc28
      refine lv_aload_n hx hb dX6_sortAt_35 rfl (lv_at hl 0 rfl) ?_
      refine va_get (D := E.1) (ci := 6) (v := .ref a_tape) (C := RX6) (T := TX6) (N := 26) hx hb hts iX6_sortAt_X6 hown hK hP 0 rfl rfl 5 (by decide) (hts (.fieldLink RX6 26 "LeftIsAgreedOnModel" "tape" "[I") (List.mem_of_getElem? (i := 2) rfl)) (fun _ h9 => h9) rfl dX6_sortAt_36 ?_
      refine lv_iload_n hx hb dX6_sortAt_39 rfl (lv_at hl 1 rfl) ?_
      obtain ⟨hz40, h⟩ := chk_of h
      refine ld_i X hP 1 rfl (inb.vp hz40) (v := (c_tape (l1).toNatClampNeg)) rfl dX6_sortAt_40 ?_
      refine lv_i2l (v := ((c_tape (l1).toNatClampNeg).toInt64)) hx hb dX6_sortAt_41 rfl ?_
      refine lv_ldc2 (v := (48 : Int64)) hx hb hown (hts (.constantLong RX6 140 (48)) (List.mem_of_getElem? (i := 5) rfl)) dX6_sortAt_42 ?_
      refine lv_ldc2 (v := (57 : Int64)) hx hb hown (hts (.constantLong RX6 142 (57)) (List.mem_of_getElem? (i := 6) rfl)) dX6_sortAt_45 ?_
      obtain ⟨v2, hv2, h⟩ := bind_of h
      refine after_i X (run_S X (c_X6_isIn l E ((c_tape (l1).toNatClampNeg).toInt64) (48 : Int64) (57 : Int64) H.size v2 hv2) (va_cwS 3 hts gX6_sortAt_X6_isIn rfl rfl rfl hd_X6_isIn ⟨(Nat.le_of_ble_eq_true rfl), (Nat.le_of_ble_eq_true rfl)⟩) hP hD hS [] rfl rfl hl.1 (rest := []) rfl rfl (Nat.le_of_ble_eq_true rfl) dX6_sortAt_48) hP hD hS [] [0, 1] [0, 1] rfl rfl rfl (by decide) rfl (ws1 := (W_X6_sortAt E a_t a_tape a_refused a_now a_kept a_mind a_words a_wCell a_wFaces a_wTurns a_wSign a_wBy a_wFell a_telling a_holds a_sizes a_elements a_moved a_above a_out a_first c_t c_tape)) rfl (fun H locs hP hD hS => ?_)
      refine lv_if_eq (tgt := 58) hx hb dX6_sortAt_51 (by decide) (fun hc51 => ?_) (fun hc51 => ?_)
      · have h := if_t h hc51
        refine lv_aload_n hx hb dX6_sortAt_58 rfl (lv_at hl 0 rfl) ?_
        refine va_get (D := E.1) (ci := 6) (v := .ref a_tape) (C := RX6) (T := TX6) (N := 26) hx hb hts iX6_sortAt_X6 hown hK hP 0 rfl rfl 5 (by decide) (hts (.fieldLink RX6 26 "LeftIsAgreedOnModel" "tape" "[I") (List.mem_of_getElem? (i := 2) rfl)) (fun _ h9 => h9) rfl dX6_sortAt_59 ?_
        refine lv_iload_n hx hb dX6_sortAt_62 rfl (lv_at hl 1 rfl) ?_
        obtain ⟨hz63, h⟩ := chk_of h
        refine ld_i X hP 1 rfl (inb.vp hz63) (v := (c_tape (l1).toNatClampNeg)) rfl dX6_sortAt_63 ?_
        refine lv_bipush (v := (59 : Int32)) hx hb dX6_sortAt_64 (by decide) ?_
        refine lv_icmp_ne (tgt := 73) hx hb dX6_sortAt_66 (by decide) (fun hc66 => ?_) (fun hc66 => ?_)
        · have h := if_f h hc66
          refine lv_iconst (v := (4 : Int32)) hx hb dX6_sortAt_73 (by decide) ?_
          obtain rfl := Option.some.inj h
          exact ret_i X dX6_sortAt_74 hP hD hS rfl
        · have h := if_t h hc66
          refine lv_iconst (v := (3 : Int32)) hx hb dX6_sortAt_69 (by decide) ?_
          refine lv_goto (tgt := 74) hx hb dX6_sortAt_70 (by decide) ?_
          obtain rfl := Option.some.inj h
          exact ret_i X dX6_sortAt_74 hP hD hS rfl
      · have h := if_f h hc51
        refine lv_iconst (v := (2 : Int32)) hx hb dX6_sortAt_54 (by decide) ?_
        refine lv_goto (tgt := 74) hx hb dX6_sortAt_55 (by decide) ?_
        obtain rfl := Option.some.inj h
        exact ret_i X dX6_sortAt_74 hP hD hS rfl
    · have h := if_f h hc28
      refine lv_iconst (v := (1 : Int32)) hx hb dX6_sortAt_31 (by decide) ?_
      refine lv_goto (tgt := 74) hx hb dX6_sortAt_32 (by decide) ?_
      obtain rfl := Option.some.inj h
      exact ret_i X dX6_sortAt_74 hP hD hS rfl
  · have h := if_f h hc5
    refine lv_iconst (v := (0 : Int32)) hx hb dX6_sortAt_8 (by decide) ?_
    refine lv_goto (tgt := 74) hx hb dX6_sortAt_9 (by decide) ?_
    obtain rfl := Option.some.inj h
    exact ret_i X dX6_sortAt_74 hP hD hS rfl
end
set_option maxRecDepth 100000 in
theorem c_X6_sortAt (l : Launch) (E : Env0) (a_t : Nat) (a_tape : Nat) (a_refused : Nat) (a_now : Nat) (a_kept : Nat) (a_mind : Nat) (a_words : Nat) (a_wCell : Nat) (a_wFaces : Nat) (a_wTurns : Nat) (a_wSign : Nat) (a_wBy : Nat) (a_wFell : Nat) (a_telling : Nat) (a_holds : Nat) (a_sizes : Nat) (a_elements : Nat) (a_moved : Nat) (a_above : Nat) (a_out : Nat) (a_first : Nat) (l1 : Int32) (c_t : Nat → Int32) (c_tape : Nat → Int32) (sz : Nat) (res : Int32) (h : f_X6_sortAt l1 c_t c_tape = some res) : Met l yX6_sortAt wsX6_sortAt r_X6_sortAt (cPre E [.ref a_t, .int l1] (W_X6_sortAt E a_t a_tape a_refused a_now a_kept a_mind a_words a_wCell a_wFaces a_wTurns a_wSign a_wBy a_wFell a_telling a_holds a_sizes a_elements a_moved a_above a_out a_first c_t c_tape) sz) (qI E (va_A (W_X6_sortAt E a_t a_tape a_refused a_now a_kept a_mind a_words a_wCell a_wFaces a_wTurns a_wSign a_wBy a_wFell a_telling a_holds a_sizes a_elements a_moved a_above a_out a_first c_t c_tape) sz) res (W_X6_sortAt E a_t a_tape a_refused a_now a_kept a_mind a_words a_wCell a_wFaces a_wTurns a_wSign a_wBy a_wFell a_telling a_holds a_sizes a_elements a_moved a_above a_out a_first c_t c_tape)) 0 0 (va_A (W_X6_sortAt E a_t a_tape a_refused a_now a_kept a_mind a_words a_wCell a_wFaces a_wTurns a_wSign a_wBy a_wFell a_telling a_holds a_sizes a_elements a_moved a_above a_out a_first c_t c_tape) sz) :=
  met_of (Qc := fun A => qI E A res (W_X6_sortAt E a_t a_tape a_refused a_now a_kept a_mind a_words a_wCell a_wFaces a_wTurns a_wSign a_wBy a_wFell a_telling a_holds a_sizes a_elements a_moved a_above a_out a_first c_t c_tape)) (by decide) rfl (Nat.le_of_ble_eq_true rfl) (fun p e s m args below meth c X hP hD hS ls hl => w_X6_sortAt X a_t a_tape a_refused a_now a_kept a_mind a_words a_wCell a_wFaces a_wTurns a_wSign a_wBy a_wFell a_telling a_holds a_sizes a_elements a_moved a_above a_out a_first c_t c_tape res l1 ls _ _ h hP hD hS hl)
-- ===== X6_next
abbrev W_X6_next (E : Env0) (a_t : Nat) (a_tape : Nat) (a_refused : Nat) (a_now : Nat) (a_kept : Nat) (a_mind : Nat) (a_words : Nat) (a_wCell : Nat) (a_wFaces : Nat) (a_wTurns : Nat) (a_wSign : Nat) (a_wBy : Nat) (a_wFell : Nat) (a_telling : Nat) (a_holds : Nat) (a_sizes : Nat) (a_elements : Nat) (a_moved : Nat) (a_above : Nat) (a_out : Nat) (a_first : Nat) (c_t : Nat → Int32) (c_tape : Nat → Int32) : va_W := [(a_t, .inr (6, [.ref a_refused, .ref a_now, .ref a_kept, .ref a_mind, .int (c_t 4), .ref a_tape, .int (c_t 6), .int (c_t 7), .int (c_t 8), .int (c_t 9), .ref a_words, .ref a_wCell, .ref a_wFaces, .ref a_wTurns, .ref a_wSign, .ref a_wBy, .ref a_wFell, .int (c_t 17), .ref a_telling, .ref a_holds, .ref a_sizes, .ref a_elements, .ref a_moved, .ref a_above, .ref a_out, .ref a_first])), (a_tape, .inl (eI E, 250, .inl c_tape))]
abbrev r_X6_next : Room := { frames := 2, cells := 0, slots := 0, locals := 46 }
theorem hd_X6_next : yX6_next.cls ≠ "java/lang/invoke/MethodHandle" ∧ yX6_next.cls ≠ "java/lang/invoke/VarHandle" ∧ (parseMethodDescriptor yX6_next.desc).map (fun d => d.parameters.length) = some 0 := by decide +kernel
theorem hV_X6_next : yX6_next.cls = RX6 ∧ yX6_next.cls ≠ "java/lang/invoke/MethodHandle" ∧ yX6_next.cls ≠ "java/lang/invoke/VarHandle" ∧ (parseMethodDescriptor yX6_next.desc).map (fun d => d.parameters.length) = some 0 := ⟨rfl, hd_X6_next⟩
theorem iX6_next_X6 : ∀ w ∈ wsX60, w ∈ wsX6_next := fun _ h => List.mem_cons_of_mem _ (List.mem_append_right _ (h))
section
variable {p : Program} {l : Launch} {e : Env} {s : State} {m : MethodId} {args : Array Value} {below : List Frame} {meth : Method} {c : Code} {E : Env0} {A : Nat → Prop}
set_option maxRecDepth 100000 in
set_option maxHeartbeats 4000000 in
theorem w_X6_next_b75 (X : Ctx p m meth c cX6_next 1 none s args wsX6_next RX6 E A) (a_t : Nat) (a_tape : Nat) (a_refused : Nat) (a_now : Nat) (a_kept : Nat) (a_mind : Nat) (a_words : Nat) (a_wCell : Nat) (a_wFaces : Nat) (a_wTurns : Nat) (a_wSign : Nat) (a_wBy : Nat) (a_wFell : Nat) (a_telling : Nat) (a_holds : Nat) (a_sizes : Nat) (a_elements : Nat) (a_moved : Nat) (a_above : Nat) (a_out : Nat) (a_first : Nat) (c_tape : Nat → Int32) (res : (Nat → Int32)) : ∀ (n : Nat) (c_t : Nat → Int32) (ls : Array Slot) (H : Heap) (locs : List Loc), f_X6_next_b75 c_tape n c_t = some res → va_P E.1 vwCl (W_X6_next E a_t a_tape a_refused a_now a_kept a_mind a_words a_wCell a_wFaces a_wTurns a_wSign a_wBy a_wFell a_telling a_holds a_sizes a_elements a_moved a_above a_out a_first c_t c_tape) H → va_D A (W_X6_next E a_t a_tape a_refused a_now a_kept a_mind a_words a_wCell a_wFaces a_wTurns a_wSign a_wBy a_wFell a_telling a_holds a_sizes a_elements a_moved a_above a_out a_first c_t c_tape) → va_S A s.heap H locs → lv_has ls 1 [(0, .ref a_t)] → W p l e r_X6_next s m args below meth c H locs 0 0 (MQ below (qV E A (W_X6_next E a_t a_tape a_refused a_now a_kept a_mind a_words a_wCell a_wFaces a_wTurns a_wSign a_wBy a_wFell a_telling a_holds a_sizes a_elements a_moved a_above a_out a_first res c_tape)) args s 0 0 A) (F0 m 75 ls []) := by
  obtain ⟨hx, hb, hml, hr, hlk, hown, hts, hG, hA⟩ := id X
  have hK := hG.1
  have hN := hG.2.1
  intro n
  induction n with
  | zero =>
    intro c_t ls H locs h
    exact absurd (show (none : Option ((Nat → Int32))) = some res from h) (by intro q; cases q)
  | succ n ih =>
    intro c_t ls H locs h hP hD hS hl
    rw [f_X6_next_b75] at h
    refine lv_aload_n hx hb dX6_next_75 rfl (lv_at hl 0 rfl) ?_
    refine va_get (D := E.1) (ci := 6) (v := .int (c_t 9)) (C := RX6) (T := TX6) (N := 26) hx hb hts iX6_next_X6 hown hK hP 0 rfl rfl 9 (by decide) (hts (.fieldLink RX6 153 "LeftIsAgreedOnModel" "sort" "I") (List.mem_of_getElem? (i := 5) rfl)) (fun _ h9 => h9) rfl dX6_next_76 ?_
    refine lv_iconst (v := (3 : Int32)) hx hb dX6_next_79 (by decide) ?_
    refine lv_icmp_ge (tgt := 111) hx hb dX6_next_80 (by decide) (fun hc80 => ?_) (fun hc80 => ?_)
    · have h := if_t h hc80
      obtain rfl := Option.some.inj h
      exact ret_v X dX6_next_111 hP hD hS
    · have h := if_f h hc80
      refine lv_aload_n hx hb dX6_next_83 rfl (lv_at hl 0 rfl) ?_
      refine lv_aload_n hx hb dX6_next_84 rfl (lv_at hl 0 rfl) ?_
      refine va_get (D := E.1) (ci := 6) (v := .int (c_t 7)) (C := RX6) (T := TX6) (N := 26) hx hb hts iX6_next_X6 hown hK hP 0 rfl rfl 7 (by decide) (hts (.fieldLink RX6 144 "LeftIsAgreedOnModel" "at" "I") (List.mem_of_getElem? (i := 1) rfl)) (fun _ h9 => h9) rfl dX6_next_85 ?_
      obtain ⟨v1, hv1, h⟩ := bind_of h
      refine after_i X (run_V X (c_X6_sortAt l E a_t a_tape a_refused a_now a_kept a_mind a_words a_wCell a_wFaces a_wTurns a_wSign a_wBy a_wFell a_telling a_holds a_sizes a_elements a_moved a_above a_out a_first (c_t 7) c_t c_tape H.size v1 hv1) (cwV 1 hts gX6_next_X6_sortAt rfl rfl rfl hV_X6_sortAt ⟨(Nat.le_of_ble_eq_true rfl), (Nat.le_of_ble_eq_true rfl)⟩) hP hD hS [0, 1] rfl rfl hl.1 (ci := 6) rfl rfl rfl (rest := []) rfl rfl (Nat.le_of_ble_eq_true rfl) dX6_next_88) hP hD hS [0, 1] [] [0, 1] rfl rfl rfl (by decide) rfl (ws1 := (W_X6_next E a_t a_tape a_refused a_now a_kept a_mind a_words a_wCell a_wFaces a_wTurns a_wSign a_wBy a_wFell a_telling a_holds a_sizes a_elements a_moved a_above a_out a_first c_t c_tape)) rfl (fun H locs hP hD hS => ?_)
      refine lv_aload_n hx hb dX6_next_91 rfl (lv_at hl 0 rfl) ?_
      refine va_get (D := E.1) (ci := 6) (v := .int (c_t 9)) (C := RX6) (T := TX6) (N := 26) hx hb hts iX6_next_X6 hown hK hP 0 rfl rfl 9 (by decide) (hts (.fieldLink RX6 153 "LeftIsAgreedOnModel" "sort" "I") (List.mem_of_getElem? (i := 5) rfl)) (fun _ h9 => h9) rfl dX6_next_92 ?_
      refine lv_icmp_ne (tgt := 111) hx hb dX6_next_95 (by decide) (fun hc95 => ?_) (fun hc95 => ?_)
      · have h := if_f h hc95
        obtain rfl := Option.some.inj h
        exact ret_v X dX6_next_111 hP hD hS
      · have h := if_t h hc95
        refine lv_aload_n hx hb dX6_next_98 rfl (lv_at hl 0 rfl) ?_
        refine lv_dup hx hb dX6_next_99 rfl ?_
        refine va_get (D := E.1) (ci := 6) (v := .int (c_t 7)) (C := RX6) (T := TX6) (N := 26) hx hb hts iX6_next_X6 hown hK hP 0 rfl rfl 7 (by decide) (hts (.fieldLink RX6 144 "LeftIsAgreedOnModel" "at" "I") (List.mem_of_getElem? (i := 1) rfl)) (fun _ h9 => h9) rfl dX6_next_100 ?_
        refine lv_iconst (v := (1 : Int32)) hx hb dX6_next_103 (by decide) ?_
        refine lv_iadd hx hb dX6_next_104 ?_
        refine va_put (D := E.1) (ci := 6) (v := .int ((c_t 7) + (1 : Int32))) (ty := .int) (C := RX6) (T := TX6) (N := 26) hx hb hts iX6_next_X6 tyX6 tyX6_ok nmX6 hown hK hP hD hS 0 rfl rfl 7 (by decide) (hts (.fieldLink RX6 144 "LeftIsAgreedOnModel" "at" "I") (List.mem_of_getElem? (i := 1) rfl)) (fun _ h9 => h9) rfl (tyX6_ok 7 (by decide)) rfl rfl (Nat.le_of_ble_eq_true rfl) dX6_next_105 (fun H locs hP hD hS => ?_)
        have hP : va_P E.1 vwCl (W_X6_next E a_t a_tape a_refused a_now a_kept a_mind a_words a_wCell a_wFaces a_wTurns a_wSign a_wBy a_wFell a_telling a_holds a_sizes a_elements a_moved a_above a_out a_first (upd c_t 7 ((c_t 7) + (1 : Int32))) c_tape) H := hP
        have hD : va_D A (W_X6_next E a_t a_tape a_refused a_now a_kept a_mind a_words a_wCell a_wFaces a_wTurns a_wSign a_wBy a_wFell a_telling a_holds a_sizes a_elements a_moved a_above a_out a_first (upd c_t 7 ((c_t 7) + (1 : Int32))) c_tape) := hD
        refine lv_goto (tgt := 75) hx hb dX6_next_108 (by decide) ?_
        exact ih (upd c_t 7 ((c_t 7) + (1 : Int32))) _ _ _ h hP hD hS (lv_sub hl [0] rfl)
set_option maxRecDepth 100000 in
set_option maxHeartbeats 4000000 in
theorem w_X6_next_b38 (X : Ctx p m meth c cX6_next 1 none s args wsX6_next RX6 E A) (a_t : Nat) (a_tape : Nat) (a_refused : Nat) (a_now : Nat) (a_kept : Nat) (a_mind : Nat) (a_words : Nat) (a_wCell : Nat) (a_wFaces : Nat) (a_wTurns : Nat) (a_wSign : Nat) (a_wBy : Nat) (a_wFell : Nat) (a_telling : Nat) (a_holds : Nat) (a_sizes : Nat) (a_elements : Nat) (a_moved : Nat) (a_above : Nat) (a_out : Nat) (a_first : Nat) (c_tape : Nat → Int32) (res : (Nat → Int32)) (c_t : Nat → Int32) (ls : Array Slot) (H : Heap) (locs : List Loc) (h : f_X6_next_b38 c_tape c_t = some res) (hP : va_P E.1 vwCl (W_X6_next E a_t a_tape a_refused a_now a_kept a_mind a_words a_wCell a_wFaces a_wTurns a_wSign a_wBy a_wFell a_telling a_holds a_sizes a_elements a_moved a_above a_out a_first c_t c_tape) H) (hD : va_D A (W_X6_next E a_t a_tape a_refused a_now a_kept a_mind a_words a_wCell a_wFaces a_wTurns a_wSign a_wBy a_wFell a_telling a_holds a_sizes a_elements a_moved a_above a_out a_first c_t c_tape)) (hS : va_S A s.heap H locs) (hl : lv_has ls 1 [(0, .ref a_t)]) : W p l e r_X6_next s m args below meth c H locs 0 0 (MQ below (qV E A (W_X6_next E a_t a_tape a_refused a_now a_kept a_mind a_words a_wCell a_wFaces a_wTurns a_wSign a_wBy a_wFell a_telling a_holds a_sizes a_elements a_moved a_above a_out a_first res c_tape)) args s 0 0 A) (F0 m 38 ls []) := by
  obtain ⟨hx, hb, hml, hr, hlk, hown, hts, hG, hA⟩ := id X
  have hK := hG.1
  have hN := hG.2.1
  unfold f_X6_next_b38 at h
  refine lv_aload_n hx hb dX6_next_38 rfl (lv_at hl 0 rfl) ?_
  refine lv_aload_n hx hb dX6_next_39 rfl (lv_at hl 0 rfl) ?_
  refine va_get (D := E.1) (ci := 6) (v := .int (c_t 7)) (C := RX6) (T := TX6) (N := 26) hx hb hts iX6_next_X6 hown hK hP 0 rfl rfl 7 (by decide) (hts (.fieldLink RX6 144 "LeftIsAgreedOnModel" "at" "I") (List.mem_of_getElem? (i := 1) rfl)) (fun _ h9 => h9) rfl dX6_next_40 ?_
  refine va_put (D := E.1) (ci := 6) (v := .int (c_t 7)) (ty := .int) (C := RX6) (T := TX6) (N := 26) hx hb hts iX6_next_X6 tyX6 tyX6_ok nmX6 hown hK hP hD hS 0 rfl rfl 8 (by decide) (hts (.fieldLink RX6 147 "LeftIsAgreedOnModel" "from" "I") (List.mem_of_getElem? (i := 4) rfl)) (fun _ h9 => h9) rfl (tyX6_ok 8 (by decide)) rfl rfl (Nat.le_of_ble_eq_true rfl) dX6_next_43 (fun H locs hP hD hS => ?_)
  have hP : va_P E.1 vwCl (W_X6_next E a_t a_tape a_refused a_now a_kept a_mind a_words a_wCell a_wFaces a_wTurns a_wSign a_wBy a_wFell a_telling a_holds a_sizes a_elements a_moved a_above a_out a_first (upd c_t 8 (c_t 7)) c_tape) H := hP
  have hD : va_D A (W_X6_next E a_t a_tape a_refused a_now a_kept a_mind a_words a_wCell a_wFaces a_wTurns a_wSign a_wBy a_wFell a_telling a_holds a_sizes a_elements a_moved a_above a_out a_first (upd c_t 8 (c_t 7)) c_tape) := hD
  refine lv_aload_n hx hb dX6_next_46 rfl (lv_at hl 0 rfl) ?_
  refine lv_aload_n hx hb dX6_next_47 rfl (lv_at hl 0 rfl) ?_
  refine lv_aload_n hx hb dX6_next_48 rfl (lv_at hl 0 rfl) ?_
  refine va_get (D := E.1) (ci := 6) (v := .int ((upd c_t 8 (c_t 7)) 7)) (C := RX6) (T := TX6) (N := 26) hx hb hts iX6_next_X6 hown hK hP 0 rfl rfl 7 (by decide) (hts (.fieldLink RX6 144 "LeftIsAgreedOnModel" "at" "I") (List.mem_of_getElem? (i := 1) rfl)) (fun _ h9 => h9) rfl dX6_next_49 ?_
  obtain ⟨v1, hv1, h⟩ := bind_of h
  refine after_i X (run_V X (c_X6_sortAt l E a_t a_tape a_refused a_now a_kept a_mind a_words a_wCell a_wFaces a_wTurns a_wSign a_wBy a_wFell a_telling a_holds a_sizes a_elements a_moved a_above a_out a_first ((upd c_t 8 (c_t 7)) 7) (upd c_t 8 (c_t 7)) c_tape H.size v1 hv1) (cwV 1 hts gX6_next_X6_sortAt rfl rfl rfl hV_X6_sortAt ⟨(Nat.le_of_ble_eq_true rfl), (Nat.le_of_ble_eq_true rfl)⟩) hP hD hS [0, 1] rfl rfl hl.1 (ci := 6) rfl rfl rfl (rest := [.ref a_t]) rfl rfl (Nat.le_of_ble_eq_true rfl) dX6_next_52) hP hD hS [0, 1] [] [0, 1] rfl rfl rfl (by decide) rfl (ws1 := (W_X6_next E a_t a_tape a_refused a_now a_kept a_mind a_words a_wCell a_wFaces a_wTurns a_wSign a_wBy a_wFell a_telling a_holds a_sizes a_elements a_moved a_above a_out a_first (upd c_t 8 (c_t 7)) c_tape)) rfl (fun H locs hP hD hS => ?_)
  refine va_put (D := E.1) (ci := 6) (v := .int v1) (ty := .int) (C := RX6) (T := TX6) (N := 26) hx hb hts iX6_next_X6 tyX6 tyX6_ok nmX6 hown hK hP hD hS 0 rfl rfl 9 (by decide) (hts (.fieldLink RX6 153 "LeftIsAgreedOnModel" "sort" "I") (List.mem_of_getElem? (i := 5) rfl)) (fun _ h9 => h9) rfl (tyX6_ok 9 (by decide)) rfl rfl (Nat.le_of_ble_eq_true rfl) dX6_next_55 (fun H locs hP hD hS => ?_)
  have hP : va_P E.1 vwCl (W_X6_next E a_t a_tape a_refused a_now a_kept a_mind a_words a_wCell a_wFaces a_wTurns a_wSign a_wBy a_wFell a_telling a_holds a_sizes a_elements a_moved a_above a_out a_first (upd (upd c_t 8 (c_t 7)) 9 v1) c_tape) H := hP
  have hD : va_D A (W_X6_next E a_t a_tape a_refused a_now a_kept a_mind a_words a_wCell a_wFaces a_wTurns a_wSign a_wBy a_wFell a_telling a_holds a_sizes a_elements a_moved a_above a_out a_first (upd (upd c_t 8 (c_t 7)) 9 v1) c_tape) := hD
  refine lv_aload_n hx hb dX6_next_58 rfl (lv_at hl 0 rfl) ?_
  refine va_get (D := E.1) (ci := 6) (v := .int ((upd (upd c_t 8 (c_t 7)) 9 v1) 9)) (C := RX6) (T := TX6) (N := 26) hx hb hts iX6_next_X6 hown hK hP 0 rfl rfl 9 (by decide) (hts (.fieldLink RX6 153 "LeftIsAgreedOnModel" "sort" "I") (List.mem_of_getElem? (i := 5) rfl)) (fun _ h9 => h9) rfl dX6_next_59 ?_
  refine lv_if_le (tgt := 111) hx hb dX6_next_62 (by decide) (fun hc62 => ?_) (fun hc62 => ?_)
  · have h := if_t h hc62
    obtain rfl := Option.some.inj h
    exact ret_v X dX6_next_111 hP hD hS
  · have h := if_f h hc62
    refine lv_aload_n hx hb dX6_next_65 rfl (lv_at hl 0 rfl) ?_
    refine lv_dup hx hb dX6_next_66 rfl ?_
    refine va_get (D := E.1) (ci := 6) (v := .int ((upd (upd c_t 8 (c_t 7)) 9 v1) 7)) (C := RX6) (T := TX6) (N := 26) hx hb hts iX6_next_X6 hown hK hP 0 rfl rfl 7 (by decide) (hts (.fieldLink RX6 144 "LeftIsAgreedOnModel" "at" "I") (List.mem_of_getElem? (i := 1) rfl)) (fun _ h9 => h9) rfl dX6_next_67 ?_
    refine lv_iconst (v := (1 : Int32)) hx hb dX6_next_70 (by decide) ?_
    refine lv_iadd hx hb dX6_next_71 ?_
    refine va_put (D := E.1) (ci := 6) (v := .int (((upd (upd c_t 8 (c_t 7)) 9 v1) 7) + (1 : Int32))) (ty := .int) (C := RX6) (T := TX6) (N := 26) hx hb hts iX6_next_X6 tyX6 tyX6_ok nmX6 hown hK hP hD hS 0 rfl rfl 7 (by decide) (hts (.fieldLink RX6 144 "LeftIsAgreedOnModel" "at" "I") (List.mem_of_getElem? (i := 1) rfl)) (fun _ h9 => h9) rfl (tyX6_ok 7 (by decide)) rfl rfl (Nat.le_of_ble_eq_true rfl) dX6_next_72 (fun H locs hP hD hS => ?_)
    have hP : va_P E.1 vwCl (W_X6_next E a_t a_tape a_refused a_now a_kept a_mind a_words a_wCell a_wFaces a_wTurns a_wSign a_wBy a_wFell a_telling a_holds a_sizes a_elements a_moved a_above a_out a_first (upd (upd (upd c_t 8 (c_t 7)) 9 v1) 7 (((upd (upd c_t 8 (c_t 7)) 9 v1) 7) + (1 : Int32))) c_tape) H := hP
    have hD : va_D A (W_X6_next E a_t a_tape a_refused a_now a_kept a_mind a_words a_wCell a_wFaces a_wTurns a_wSign a_wBy a_wFell a_telling a_holds a_sizes a_elements a_moved a_above a_out a_first (upd (upd (upd c_t 8 (c_t 7)) 9 v1) 7 (((upd (upd c_t 8 (c_t 7)) 9 v1) 7) + (1 : Int32))) c_tape) := hD
    exact w_X6_next_b75 X a_t a_tape a_refused a_now a_kept a_mind a_words a_wCell a_wFaces a_wTurns a_wSign a_wBy a_wFell a_telling a_holds a_sizes a_elements a_moved a_above a_out a_first c_tape res FU (upd (upd (upd c_t 8 (c_t 7)) 9 v1) 7 (((upd (upd c_t 8 (c_t 7)) 9 v1) 7) + (1 : Int32))) _ _ _ h hP hD hS (lv_sub hl [0] rfl)
set_option maxRecDepth 100000 in
set_option maxHeartbeats 4000000 in
theorem w_X6_next_b0 (X : Ctx p m meth c cX6_next 1 none s args wsX6_next RX6 E A) (a_t : Nat) (a_tape : Nat) (a_refused : Nat) (a_now : Nat) (a_kept : Nat) (a_mind : Nat) (a_words : Nat) (a_wCell : Nat) (a_wFaces : Nat) (a_wTurns : Nat) (a_wSign : Nat) (a_wBy : Nat) (a_wFell : Nat) (a_telling : Nat) (a_holds : Nat) (a_sizes : Nat) (a_elements : Nat) (a_moved : Nat) (a_above : Nat) (a_out : Nat) (a_first : Nat) (c_tape : Nat → Int32) (res : (Nat → Int32)) : ∀ (n : Nat) (c_t : Nat → Int32) (ls : Array Slot) (H : Heap) (locs : List Loc), f_X6_next_b0 c_tape n c_t = some res → va_P E.1 vwCl (W_X6_next E a_t a_tape a_refused a_now a_kept a_mind a_words a_wCell a_wFaces a_wTurns a_wSign a_wBy a_wFell a_telling a_holds a_sizes a_elements a_moved a_above a_out a_first c_t c_tape) H → va_D A (W_X6_next E a_t a_tape a_refused a_now a_kept a_mind a_words a_wCell a_wFaces a_wTurns a_wSign a_wBy a_wFell a_telling a_holds a_sizes a_elements a_moved a_above a_out a_first c_t c_tape) → va_S A s.heap H locs → lv_has ls 1 [(0, .ref a_t)] → W p l e r_X6_next s m args below meth c H locs 0 0 (MQ below (qV E A (W_X6_next E a_t a_tape a_refused a_now a_kept a_mind a_words a_wCell a_wFaces a_wTurns a_wSign a_wBy a_wFell a_telling a_holds a_sizes a_elements a_moved a_above a_out a_first res c_tape)) args s 0 0 A) (F0 m 0 ls []) := by
  obtain ⟨hx, hb, hml, hr, hlk, hown, hts, hG, hA⟩ := id X
  have hK := hG.1
  have hN := hG.2.1
  intro n
  induction n with
  | zero =>
    intro c_t ls H locs h
    exact absurd (show (none : Option ((Nat → Int32))) = some res from h) (by intro q; cases q)
  | succ n ih =>
    intro c_t ls H locs h hP hD hS hl
    rw [f_X6_next_b0] at h
    refine lv_aload_n hx hb dX6_next_0 rfl (lv_at hl 0 rfl) ?_
    refine va_get (D := E.1) (ci := 6) (v := .int (c_t 7)) (C := RX6) (T := TX6) (N := 26) hx hb hts iX6_next_X6 hown hK hP 0 rfl rfl 7 (by decide) (hts (.fieldLink RX6 144 "LeftIsAgreedOnModel" "at" "I") (List.mem_of_getElem? (i := 1) rfl)) (fun _ h9 => h9) rfl dX6_next_1 ?_
    refine lv_aload_n hx hb dX6_next_4 rfl (lv_at hl 0 rfl) ?_
    refine va_get (D := E.1) (ci := 6) (v := .int (c_t 6)) (C := RX6) (T := TX6) (N := 26) hx hb hts iX6_next_X6 hown hK hP 0 rfl rfl 6 (by decide) (hts (.fieldLink RX6 132 "LeftIsAgreedOnModel" "size" "I") (List.mem_of_getElem? (i := 2) rfl)) (fun _ h9 => h9) rfl dX6_next_5 ?_
    refine lv_icmp_ge (tgt := 38) hx hb dX6_next_8 (by decide) (fun hc8 => ?_) (fun hc8 => ?_)
    · have h := if_t h hc8
      exact w_X6_next_b38 X a_t a_tape a_refused a_now a_kept a_mind a_words a_wCell a_wFaces a_wTurns a_wSign a_wBy a_wFell a_telling a_holds a_sizes a_elements a_moved a_above a_out a_first c_tape res c_t _ _ _ h hP hD hS (lv_sub hl [0] rfl)
    · have h := if_f h hc8
      refine lv_aload_n hx hb dX6_next_11 rfl (lv_at hl 0 rfl) ?_
      refine va_get (D := E.1) (ci := 6) (v := .ref a_tape) (C := RX6) (T := TX6) (N := 26) hx hb hts iX6_next_X6 hown hK hP 0 rfl rfl 5 (by decide) (hts (.fieldLink RX6 26 "LeftIsAgreedOnModel" "tape" "[I") (List.mem_of_getElem? (i := 3) rfl)) (fun _ h9 => h9) rfl dX6_next_12 ?_
      refine lv_aload_n hx hb dX6_next_15 rfl (lv_at hl 0 rfl) ?_
      refine va_get (D := E.1) (ci := 6) (v := .int (c_t 7)) (C := RX6) (T := TX6) (N := 26) hx hb hts iX6_next_X6 hown hK hP 0 rfl rfl 7 (by decide) (hts (.fieldLink RX6 144 "LeftIsAgreedOnModel" "at" "I") (List.mem_of_getElem? (i := 1) rfl)) (fun _ h9 => h9) rfl dX6_next_16 ?_
      obtain ⟨hz19, h⟩ := chk_of h
      refine ld_i X hP 1 rfl (inb.vp hz19) (v := (c_tape ((c_t 7)).toNatClampNeg)) rfl dX6_next_19 ?_
      refine lv_bipush (v := (32 : Int32)) hx hb dX6_next_20 (by decide) ?_
      refine lv_icmp_ne (tgt := 38) hx hb dX6_next_22 (by decide) (fun hc22 => ?_) (fun hc22 => ?_)
      · have h := if_f h hc22
        exact w_X6_next_b38 X a_t a_tape a_refused a_now a_kept a_mind a_words a_wCell a_wFaces a_wTurns a_wSign a_wBy a_wFell a_telling a_holds a_sizes a_elements a_moved a_above a_out a_first c_tape res c_t _ _ _ h hP hD hS (lv_sub hl [0] rfl)
      · have h := if_t h hc22
        refine lv_aload_n hx hb dX6_next_25 rfl (lv_at hl 0 rfl) ?_
        refine lv_dup hx hb dX6_next_26 rfl ?_
        refine va_get (D := E.1) (ci := 6) (v := .int (c_t 7)) (C := RX6) (T := TX6) (N := 26) hx hb hts iX6_next_X6 hown hK hP 0 rfl rfl 7 (by decide) (hts (.fieldLink RX6 144 "LeftIsAgreedOnModel" "at" "I") (List.mem_of_getElem? (i := 1) rfl)) (fun _ h9 => h9) rfl dX6_next_27 ?_
        refine lv_iconst (v := (1 : Int32)) hx hb dX6_next_30 (by decide) ?_
        refine lv_iadd hx hb dX6_next_31 ?_
        refine va_put (D := E.1) (ci := 6) (v := .int ((c_t 7) + (1 : Int32))) (ty := .int) (C := RX6) (T := TX6) (N := 26) hx hb hts iX6_next_X6 tyX6 tyX6_ok nmX6 hown hK hP hD hS 0 rfl rfl 7 (by decide) (hts (.fieldLink RX6 144 "LeftIsAgreedOnModel" "at" "I") (List.mem_of_getElem? (i := 1) rfl)) (fun _ h9 => h9) rfl (tyX6_ok 7 (by decide)) rfl rfl (Nat.le_of_ble_eq_true rfl) dX6_next_32 (fun H locs hP hD hS => ?_)
        have hP : va_P E.1 vwCl (W_X6_next E a_t a_tape a_refused a_now a_kept a_mind a_words a_wCell a_wFaces a_wTurns a_wSign a_wBy a_wFell a_telling a_holds a_sizes a_elements a_moved a_above a_out a_first (upd c_t 7 ((c_t 7) + (1 : Int32))) c_tape) H := hP
        have hD : va_D A (W_X6_next E a_t a_tape a_refused a_now a_kept a_mind a_words a_wCell a_wFaces a_wTurns a_wSign a_wBy a_wFell a_telling a_holds a_sizes a_elements a_moved a_above a_out a_first (upd c_t 7 ((c_t 7) + (1 : Int32))) c_tape) := hD
        refine lv_goto (tgt := 0) hx hb dX6_next_35 (by decide) ?_
        exact ih (upd c_t 7 ((c_t 7) + (1 : Int32))) _ _ _ h hP hD hS (lv_sub hl [0] rfl)
set_option maxRecDepth 100000 in
set_option maxHeartbeats 4000000 in
theorem w_X6_next (X : Ctx p m meth c cX6_next 1 none s args wsX6_next RX6 E A) (a_t : Nat) (a_tape : Nat) (a_refused : Nat) (a_now : Nat) (a_kept : Nat) (a_mind : Nat) (a_words : Nat) (a_wCell : Nat) (a_wFaces : Nat) (a_wTurns : Nat) (a_wSign : Nat) (a_wBy : Nat) (a_wFell : Nat) (a_telling : Nat) (a_holds : Nat) (a_sizes : Nat) (a_elements : Nat) (a_moved : Nat) (a_above : Nat) (a_out : Nat) (a_first : Nat) (c_tape : Nat → Int32) (res : (Nat → Int32)) (c_t : Nat → Int32) (ls : Array Slot) (H : Heap) (locs : List Loc) (h : f_X6_next c_t c_tape = some res) (hP : va_P E.1 vwCl (W_X6_next E a_t a_tape a_refused a_now a_kept a_mind a_words a_wCell a_wFaces a_wTurns a_wSign a_wBy a_wFell a_telling a_holds a_sizes a_elements a_moved a_above a_out a_first c_t c_tape) H) (hD : va_D A (W_X6_next E a_t a_tape a_refused a_now a_kept a_mind a_words a_wCell a_wFaces a_wTurns a_wSign a_wBy a_wFell a_telling a_holds a_sizes a_elements a_moved a_above a_out a_first c_t c_tape)) (hS : va_S A s.heap H locs) (hl : lv_has ls 1 [(0, .ref a_t)]) : W p l e r_X6_next s m args below meth c H locs 0 0 (MQ below (qV E A (W_X6_next E a_t a_tape a_refused a_now a_kept a_mind a_words a_wCell a_wFaces a_wTurns a_wSign a_wBy a_wFell a_telling a_holds a_sizes a_elements a_moved a_above a_out a_first res c_tape)) args s 0 0 A) (F0 m 0 ls []) := by
  obtain ⟨hx, hb, hml, hr, hlk, hown, hts, hG, hA⟩ := id X
  have hK := hG.1
  have hN := hG.2.1
  unfold f_X6_next at h
  exact w_X6_next_b0 X a_t a_tape a_refused a_now a_kept a_mind a_words a_wCell a_wFaces a_wTurns a_wSign a_wBy a_wFell a_telling a_holds a_sizes a_elements a_moved a_above a_out a_first c_tape res FU c_t _ _ _ h hP hD hS (lv_sub hl [0] rfl)
end
set_option maxRecDepth 100000 in
theorem c_X6_next (l : Launch) (E : Env0) (a_t : Nat) (a_tape : Nat) (a_refused : Nat) (a_now : Nat) (a_kept : Nat) (a_mind : Nat) (a_words : Nat) (a_wCell : Nat) (a_wFaces : Nat) (a_wTurns : Nat) (a_wSign : Nat) (a_wBy : Nat) (a_wFell : Nat) (a_telling : Nat) (a_holds : Nat) (a_sizes : Nat) (a_elements : Nat) (a_moved : Nat) (a_above : Nat) (a_out : Nat) (a_first : Nat) (c_t : Nat → Int32) (c_tape : Nat → Int32) (sz : Nat) (res : (Nat → Int32)) (h : f_X6_next c_t c_tape = some res) : Met l yX6_next wsX6_next r_X6_next (cPre E [.ref a_t] (W_X6_next E a_t a_tape a_refused a_now a_kept a_mind a_words a_wCell a_wFaces a_wTurns a_wSign a_wBy a_wFell a_telling a_holds a_sizes a_elements a_moved a_above a_out a_first c_t c_tape) sz) (qV E (va_A (W_X6_next E a_t a_tape a_refused a_now a_kept a_mind a_words a_wCell a_wFaces a_wTurns a_wSign a_wBy a_wFell a_telling a_holds a_sizes a_elements a_moved a_above a_out a_first c_t c_tape) sz) (W_X6_next E a_t a_tape a_refused a_now a_kept a_mind a_words a_wCell a_wFaces a_wTurns a_wSign a_wBy a_wFell a_telling a_holds a_sizes a_elements a_moved a_above a_out a_first res c_tape)) 0 0 (va_A (W_X6_next E a_t a_tape a_refused a_now a_kept a_mind a_words a_wCell a_wFaces a_wTurns a_wSign a_wBy a_wFell a_telling a_holds a_sizes a_elements a_moved a_above a_out a_first c_t c_tape) sz) :=
  met_of (Qc := fun A => qV E A (W_X6_next E a_t a_tape a_refused a_now a_kept a_mind a_words a_wCell a_wFaces a_wTurns a_wSign a_wBy a_wFell a_telling a_holds a_sizes a_elements a_moved a_above a_out a_first res c_tape)) (by decide) rfl (Nat.le_of_ble_eq_true rfl) (fun p e s m args below meth c X hP hD hS ls hl => w_X6_next X a_t a_tape a_refused a_now a_kept a_mind a_words a_wCell a_wFaces a_wTurns a_wSign a_wBy a_wFell a_telling a_holds a_sizes a_elements a_moved a_above a_out a_first c_tape res c_t ls _ _ h hP hD hS hl)
-- ===== X6_word
abbrev W_X6_word (E : Env0) (a_t : Nat) (a_tape : Nat) (a_words : Nat) (a_refused : Nat) (a_now : Nat) (a_kept : Nat) (a_mind : Nat) (a_wCell : Nat) (a_wFaces : Nat) (a_wTurns : Nat) (a_wSign : Nat) (a_wBy : Nat) (a_wFell : Nat) (a_telling : Nat) (a_holds : Nat) (a_sizes : Nat) (a_elements : Nat) (a_moved : Nat) (a_above : Nat) (a_out : Nat) (a_first : Nat) (c_t : Nat → Int32) (c_tape : Nat → Int32) (c_words : Nat → Int32) : va_W := [(a_t, .inr (6, [.ref a_refused, .ref a_now, .ref a_kept, .ref a_mind, .int (c_t 4), .ref a_tape, .int (c_t 6), .int (c_t 7), .int (c_t 8), .int (c_t 9), .ref a_words, .ref a_wCell, .ref a_wFaces, .ref a_wTurns, .ref a_wSign, .ref a_wBy, .ref a_wFell, .int (c_t 17), .ref a_telling, .ref a_holds, .ref a_sizes, .ref a_elements, .ref a_moved, .ref a_above, .ref a_out, .ref a_first])), (a_tape, .inl (eI E, 250, .inl c_tape)), (a_words, .inl (eC E, 48, .inl c_words))]
abbrev r_X6_word : Room := { frames := 0, cells := 0, slots := 0, locals := 0 }
theorem hd_X6_word : yX6_word.cls ≠ "java/lang/invoke/MethodHandle" ∧ yX6_word.cls ≠ "java/lang/invoke/VarHandle" ∧ (parseMethodDescriptor yX6_word.desc).map (fun d => d.parameters.length) = some 0 := by decide +kernel
theorem hV_X6_word : yX6_word.cls = RX6 ∧ yX6_word.cls ≠ "java/lang/invoke/MethodHandle" ∧ yX6_word.cls ≠ "java/lang/invoke/VarHandle" ∧ (parseMethodDescriptor yX6_word.desc).map (fun d => d.parameters.length) = some 0 := ⟨rfl, hd_X6_word⟩
theorem iX6_word_X6 : ∀ w ∈ wsX60, w ∈ wsX6_word := fun _ h => List.mem_cons_of_mem _ (List.mem_append_right _ (h))
section
variable {p : Program} {l : Launch} {e : Env} {s : State} {m : MethodId} {args : Array Value} {below : List Frame} {meth : Method} {c : Code} {E : Env0} {A : Nat → Prop}
set_option maxRecDepth 100000 in
set_option maxHeartbeats 4000000 in
theorem w_X6_word_b102 (X : Ctx p m meth c cX6_word 5 ((some .int)) s args wsX6_word RX6 E A) (a_t : Nat) (a_tape : Nat) (a_words : Nat) (a_refused : Nat) (a_now : Nat) (a_kept : Nat) (a_mind : Nat) (a_wCell : Nat) (a_wFaces : Nat) (a_wTurns : Nat) (a_wSign : Nat) (a_wBy : Nat) (a_wFell : Nat) (a_telling : Nat) (a_holds : Nat) (a_sizes : Nat) (a_elements : Nat) (a_moved : Nat) (a_above : Nat) (a_out : Nat) (a_first : Nat) (c_t : Nat → Int32) (c_tape : Nat → Int32) (c_words : Nat → Int32) (res : Int32) (k4 : Int32 → Int32 → Option (Int32)) (hk4 : ∀ (l1 : Int32) (l2 : Int32) (ls : Array Slot) (H : Heap) (locs : List Loc), k4 l1 l2 = some res → va_P E.1 vwCl (W_X6_word E a_t a_tape a_words a_refused a_now a_kept a_mind a_wCell a_wFaces a_wTurns a_wSign a_wBy a_wFell a_telling a_holds a_sizes a_elements a_moved a_above a_out a_first c_t c_tape c_words) H → va_D A (W_X6_word E a_t a_tape a_words a_refused a_now a_kept a_mind a_wCell a_wFaces a_wTurns a_wSign a_wBy a_wFell a_telling a_holds a_sizes a_elements a_moved a_above a_out a_first c_t c_tape c_words) → va_S A s.heap H locs → lv_has ls 5 [(0, .ref a_t), (1, .int l1), (2, .int l2)] → W p l e r_X6_word s m args below meth c H locs 0 0 (MQ below (qI E A res (W_X6_word E a_t a_tape a_words a_refused a_now a_kept a_mind a_wCell a_wFaces a_wTurns a_wSign a_wBy a_wFell a_telling a_holds a_sizes a_elements a_moved a_above a_out a_first c_t c_tape c_words)) args s 0 0 A) (F0 m 4 ls [])) (k41 : Int32 → Int32 → Int32 → Int32 → Option (Int32)) (hk41 : ∀ (l1 : Int32) (l2 : Int32) (l3 : Int32) (l4 : Int32) (ls : Array Slot) (H : Heap) (locs : List Loc), k41 l1 l2 l3 l4 = some res → va_P E.1 vwCl (W_X6_word E a_t a_tape a_words a_refused a_now a_kept a_mind a_wCell a_wFaces a_wTurns a_wSign a_wBy a_wFell a_telling a_holds a_sizes a_elements a_moved a_above a_out a_first c_t c_tape c_words) H → va_D A (W_X6_word E a_t a_tape a_words a_refused a_now a_kept a_mind a_wCell a_wFaces a_wTurns a_wSign a_wBy a_wFell a_telling a_holds a_sizes a_elements a_moved a_above a_out a_first c_t c_tape c_words) → va_S A s.heap H locs → lv_has ls 5 [(0, .ref a_t), (1, .int l1), (2, .int l2), (3, .int l3), (4, .int l4)] → W p l e r_X6_word s m args below meth c H locs 0 0 (MQ below (qI E A res (W_X6_word E a_t a_tape a_words a_refused a_now a_kept a_mind a_wCell a_wFaces a_wTurns a_wSign a_wBy a_wFell a_telling a_holds a_sizes a_elements a_moved a_above a_out a_first c_t c_tape c_words)) args s 0 0 A) (F0 m 41 ls [])) (l1 : Int32) (l2 : Int32) (l4 : Int32) (s0 : Int32) (ls : Array Slot) (H : Heap) (locs : List Loc) (h : f_X6_word_b102 c_t c_tape c_words k4 k41 l1 l2 l4 s0 = some res) (hP : va_P E.1 vwCl (W_X6_word E a_t a_tape a_words a_refused a_now a_kept a_mind a_wCell a_wFaces a_wTurns a_wSign a_wBy a_wFell a_telling a_holds a_sizes a_elements a_moved a_above a_out a_first c_t c_tape c_words) H) (hD : va_D A (W_X6_word E a_t a_tape a_words a_refused a_now a_kept a_mind a_wCell a_wFaces a_wTurns a_wSign a_wBy a_wFell a_telling a_holds a_sizes a_elements a_moved a_above a_out a_first c_t c_tape c_words)) (hS : va_S A s.heap H locs) (hl : lv_has ls 5 [(0, .ref a_t), (1, .int l1), (2, .int l2), (4, .int l4)]) : W p l e r_X6_word s m args below meth c H locs 0 0 (MQ below (qI E A res (W_X6_word E a_t a_tape a_words a_refused a_now a_kept a_mind a_wCell a_wFaces a_wTurns a_wSign a_wBy a_wFell a_telling a_holds a_sizes a_elements a_moved a_above a_out a_first c_t c_tape c_words)) args s 0 0 A) (F0 m 102 ls [.int s0]) := by
  obtain ⟨hx, hb, hml, hr, hlk, hown, hts, hG, hA⟩ := id X
  have hK := hG.1
  have hN := hG.2.1
  unfold f_X6_word_b102 at h
  refine lv_istore_n (lv' := [(3, .int s0), (0, .ref a_t), (1, .int l1), (2, .int l2), (4, .int l4)]) hx hb dX6_word_102 rfl hl (by decide) rfl (fun ls hl => ?_)
  refine lv_iinc (v := (l4 + (1 : Int32))) (lv' := [(4, .int (l4 + (1 : Int32))), (3, .int s0), (0, .ref a_t), (1, .int l1), (2, .int l2)]) hx hb dX6_word_103 hl (k := 4) rfl rfl (by decide) rfl (fun ls hl => ?_)
  refine lv_goto (tgt := 41) hx hb dX6_word_106 (by decide) ?_
  exact hk41 l1 l2 s0 (l4 + (1 : Int32)) _ _ _ h hP hD hS (lv_sub hl [2, 3, 4, 1, 0] rfl)
set_option maxRecDepth 100000 in
set_option maxHeartbeats 4000000 in
theorem w_X6_word_b82 (X : Ctx p m meth c cX6_word 5 ((some .int)) s args wsX6_word RX6 E A) (a_t : Nat) (a_tape : Nat) (a_words : Nat) (a_refused : Nat) (a_now : Nat) (a_kept : Nat) (a_mind : Nat) (a_wCell : Nat) (a_wFaces : Nat) (a_wTurns : Nat) (a_wSign : Nat) (a_wBy : Nat) (a_wFell : Nat) (a_telling : Nat) (a_holds : Nat) (a_sizes : Nat) (a_elements : Nat) (a_moved : Nat) (a_above : Nat) (a_out : Nat) (a_first : Nat) (c_t : Nat → Int32) (c_tape : Nat → Int32) (c_words : Nat → Int32) (res : Int32) (k4 : Int32 → Int32 → Option (Int32)) (hk4 : ∀ (l1 : Int32) (l2 : Int32) (ls : Array Slot) (H : Heap) (locs : List Loc), k4 l1 l2 = some res → va_P E.1 vwCl (W_X6_word E a_t a_tape a_words a_refused a_now a_kept a_mind a_wCell a_wFaces a_wTurns a_wSign a_wBy a_wFell a_telling a_holds a_sizes a_elements a_moved a_above a_out a_first c_t c_tape c_words) H → va_D A (W_X6_word E a_t a_tape a_words a_refused a_now a_kept a_mind a_wCell a_wFaces a_wTurns a_wSign a_wBy a_wFell a_telling a_holds a_sizes a_elements a_moved a_above a_out a_first c_t c_tape c_words) → va_S A s.heap H locs → lv_has ls 5 [(0, .ref a_t), (1, .int l1), (2, .int l2)] → W p l e r_X6_word s m args below meth c H locs 0 0 (MQ below (qI E A res (W_X6_word E a_t a_tape a_words a_refused a_now a_kept a_mind a_wCell a_wFaces a_wTurns a_wSign a_wBy a_wFell a_telling a_holds a_sizes a_elements a_moved a_above a_out a_first c_t c_tape c_words)) args s 0 0 A) (F0 m 4 ls [])) (k41 : Int32 → Int32 → Int32 → Int32 → Option (Int32)) (hk41 : ∀ (l1 : Int32) (l2 : Int32) (l3 : Int32) (l4 : Int32) (ls : Array Slot) (H : Heap) (locs : List Loc), k41 l1 l2 l3 l4 = some res → va_P E.1 vwCl (W_X6_word E a_t a_tape a_words a_refused a_now a_kept a_mind a_wCell a_wFaces a_wTurns a_wSign a_wBy a_wFell a_telling a_holds a_sizes a_elements a_moved a_above a_out a_first c_t c_tape c_words) H → va_D A (W_X6_word E a_t a_tape a_words a_refused a_now a_kept a_mind a_wCell a_wFaces a_wTurns a_wSign a_wBy a_wFell a_telling a_holds a_sizes a_elements a_moved a_above a_out a_first c_t c_tape c_words) → va_S A s.heap H locs → lv_has ls 5 [(0, .ref a_t), (1, .int l1), (2, .int l2), (3, .int l3), (4, .int l4)] → W p l e r_X6_word s m args below meth c H locs 0 0 (MQ below (qI E A res (W_X6_word E a_t a_tape a_words a_refused a_now a_kept a_mind a_wCell a_wFaces a_wTurns a_wSign a_wBy a_wFell a_telling a_holds a_sizes a_elements a_moved a_above a_out a_first c_t c_tape c_words)) args s 0 0 A) (F0 m 41 ls [])) (l1 : Int32) (l2 : Int32) (l4 : Int32) (s0 : Int32) (ls : Array Slot) (H : Heap) (locs : List Loc) (h : f_X6_word_b82 c_t c_tape c_words k4 k41 l1 l2 l4 s0 = some res) (hP : va_P E.1 vwCl (W_X6_word E a_t a_tape a_words a_refused a_now a_kept a_mind a_wCell a_wFaces a_wTurns a_wSign a_wBy a_wFell a_telling a_holds a_sizes a_elements a_moved a_above a_out a_first c_t c_tape c_words) H) (hD : va_D A (W_X6_word E a_t a_tape a_words a_refused a_now a_kept a_mind a_wCell a_wFaces a_wTurns a_wSign a_wBy a_wFell a_telling a_holds a_sizes a_elements a_moved a_above a_out a_first c_t c_tape c_words)) (hS : va_S A s.heap H locs) (hl : lv_has ls 5 [(0, .ref a_t), (1, .int l1), (2, .int l2), (4, .int l4)]) : W p l e r_X6_word s m args below meth c H locs 0 0 (MQ below (qI E A res (W_X6_word E a_t a_tape a_words a_refused a_now a_kept a_mind a_wCell a_wFaces a_wTurns a_wSign a_wBy a_wFell a_telling a_holds a_sizes a_elements a_moved a_above a_out a_first c_t c_tape c_words)) args s 0 0 A) (F0 m 82 ls [.int s0]) := by
  obtain ⟨hx, hb, hml, hr, hlk, hown, hts, hG, hA⟩ := id X
  have hK := hG.1
  have hN := hG.2.1
  unfold f_X6_word_b82 at h
  refine lv_aload_n hx hb dX6_word_82 rfl (lv_at hl 0 rfl) ?_
  refine va_get (D := E.1) (ci := 6) (v := .ref a_words) (C := RX6) (T := TX6) (N := 26) hx hb hts iX6_word_X6 hown hK hP 0 rfl rfl 10 (by decide) (hts (.fieldLink RX6 29 "LeftIsAgreedOnModel" "words" "[C") (List.mem_of_getElem? (i := 5) rfl)) (fun _ h9 => h9) rfl dX6_word_83 ?_
  refine lv_bipush (v := (6 : Int32)) hx hb dX6_word_86 (by decide) ?_
  refine lv_iload_n hx hb dX6_word_88 rfl (lv_at hl 2 rfl) ?_
  refine lv_imul hx hb dX6_word_89 ?_
  refine lv_iload hx hb dX6_word_90 (lv_at hl 3 rfl) ?_
  refine lv_iadd hx hb dX6_word_92 ?_
  obtain ⟨hz93, h⟩ := chk_of h
  refine ld_c X hP 2 rfl (inb.vp hz93) (v := (c_words ((((6 : Int32) * l2) + l4)).toNatClampNeg)) rfl dX6_word_93 ?_
  refine lv_icmp_ne (tgt := 101) hx hb dX6_word_94 (by decide) (fun hc94 => ?_) (fun hc94 => ?_)
  · have h := if_f h hc94
    refine lv_iconst (v := (0 : Int32)) hx hb dX6_word_101 (by decide) ?_
    exact w_X6_word_b102 X a_t a_tape a_words a_refused a_now a_kept a_mind a_wCell a_wFaces a_wTurns a_wSign a_wBy a_wFell a_telling a_holds a_sizes a_elements a_moved a_above a_out a_first c_t c_tape c_words res k4 hk4 k41 hk41 l1 l2 l4 (0 : Int32) _ _ _ h hP hD hS (lv_sub hl [0, 1, 2, 3] rfl)
  · have h := if_t h hc94
    refine lv_iconst (v := (1 : Int32)) hx hb dX6_word_97 (by decide) ?_
    refine lv_goto (tgt := 102) hx hb dX6_word_98 (by decide) ?_
    exact w_X6_word_b102 X a_t a_tape a_words a_refused a_now a_kept a_mind a_wCell a_wFaces a_wTurns a_wSign a_wBy a_wFell a_telling a_holds a_sizes a_elements a_moved a_above a_out a_first c_t c_tape c_words res k4 hk4 k41 hk41 l1 l2 l4 (1 : Int32) _ _ _ h hP hD hS (lv_sub hl [0, 1, 2, 3] rfl)
set_option maxRecDepth 100000 in
set_option maxHeartbeats 4000000 in
theorem w_X6_word_b118 (X : Ctx p m meth c cX6_word 5 ((some .int)) s args wsX6_word RX6 E A) (a_t : Nat) (a_tape : Nat) (a_words : Nat) (a_refused : Nat) (a_now : Nat) (a_kept : Nat) (a_mind : Nat) (a_wCell : Nat) (a_wFaces : Nat) (a_wTurns : Nat) (a_wSign : Nat) (a_wBy : Nat) (a_wFell : Nat) (a_telling : Nat) (a_holds : Nat) (a_sizes : Nat) (a_elements : Nat) (a_moved : Nat) (a_above : Nat) (a_out : Nat) (a_first : Nat) (c_t : Nat → Int32) (c_tape : Nat → Int32) (c_words : Nat → Int32) (res : Int32) (k4 : Int32 → Int32 → Option (Int32)) (hk4 : ∀ (l1 : Int32) (l2 : Int32) (ls : Array Slot) (H : Heap) (locs : List Loc), k4 l1 l2 = some res → va_P E.1 vwCl (W_X6_word E a_t a_tape a_words a_refused a_now a_kept a_mind a_wCell a_wFaces a_wTurns a_wSign a_wBy a_wFell a_telling a_holds a_sizes a_elements a_moved a_above a_out a_first c_t c_tape c_words) H → va_D A (W_X6_word E a_t a_tape a_words a_refused a_now a_kept a_mind a_wCell a_wFaces a_wTurns a_wSign a_wBy a_wFell a_telling a_holds a_sizes a_elements a_moved a_above a_out a_first c_t c_tape c_words) → va_S A s.heap H locs → lv_has ls 5 [(0, .ref a_t), (1, .int l1), (2, .int l2)] → W p l e r_X6_word s m args below meth c H locs 0 0 (MQ below (qI E A res (W_X6_word E a_t a_tape a_words a_refused a_now a_kept a_mind a_wCell a_wFaces a_wTurns a_wSign a_wBy a_wFell a_telling a_holds a_sizes a_elements a_moved a_above a_out a_first c_t c_tape c_words)) args s 0 0 A) (F0 m 4 ls [])) (l2 : Int32) (s0 : Int32) (ls : Array Slot) (H : Heap) (locs : List Loc) (h : f_X6_word_b118 c_t c_tape c_words k4 l2 s0 = some res) (hP : va_P E.1 vwCl (W_X6_word E a_t a_tape a_words a_refused a_now a_kept a_mind a_wCell a_wFaces a_wTurns a_wSign a_wBy a_wFell a_telling a_holds a_sizes a_elements a_moved a_above a_out a_first c_t c_tape c_words) H) (hD : va_D A (W_X6_word E a_t a_tape a_words a_refused a_now a_kept a_mind a_wCell a_wFaces a_wTurns a_wSign a_wBy a_wFell a_telling a_holds a_sizes a_elements a_moved a_above a_out a_first c_t c_tape c_words)) (hS : va_S A s.heap H locs) (hl : lv_has ls 5 [(0, .ref a_t), (2, .int l2)]) : W p l e r_X6_word s m args below meth c H locs 0 0 (MQ below (qI E A res (W_X6_word E a_t a_tape a_words a_refused a_now a_kept a_mind a_wCell a_wFaces a_wTurns a_wSign a_wBy a_wFell a_telling a_holds a_sizes a_elements a_moved a_above a_out a_first c_t c_tape c_words)) args s 0 0 A) (F0 m 118 ls [.int s0]) := by
  obtain ⟨hx, hb, hml, hr, hlk, hown, hts, hG, hA⟩ := id X
  have hK := hG.1
  have hN := hG.2.1
  unfold f_X6_word_b118 at h
  refine lv_istore_n (lv' := [(1, .int s0), (0, .ref a_t), (2, .int l2)]) hx hb dX6_word_118 rfl hl (by decide) rfl (fun ls hl => ?_)
  refine lv_iinc (v := (l2 + (1 : Int32))) (lv' := [(2, .int (l2 + (1 : Int32))), (1, .int s0), (0, .ref a_t)]) hx hb dX6_word_119 hl (k := 2) rfl rfl (by decide) rfl (fun ls hl => ?_)
  refine lv_goto (tgt := 4) hx hb dX6_word_122 (by decide) ?_
  exact hk4 s0 (l2 + (1 : Int32)) _ _ _ h hP hD hS (lv_sub hl [2, 1, 0] rfl)
set_option maxRecDepth 100000 in
set_option maxHeartbeats 4000000 in
theorem w_X6_word_b109 (X : Ctx p m meth c cX6_word 5 ((some .int)) s args wsX6_word RX6 E A) (a_t : Nat) (a_tape : Nat) (a_words : Nat) (a_refused : Nat) (a_now : Nat) (a_kept : Nat) (a_mind : Nat) (a_wCell : Nat) (a_wFaces : Nat) (a_wTurns : Nat) (a_wSign : Nat) (a_wBy : Nat) (a_wFell : Nat) (a_telling : Nat) (a_holds : Nat) (a_sizes : Nat) (a_elements : Nat) (a_moved : Nat) (a_above : Nat) (a_out : Nat) (a_first : Nat) (c_t : Nat → Int32) (c_tape : Nat → Int32) (c_words : Nat → Int32) (res : Int32) (k4 : Int32 → Int32 → Option (Int32)) (hk4 : ∀ (l1 : Int32) (l2 : Int32) (ls : Array Slot) (H : Heap) (locs : List Loc), k4 l1 l2 = some res → va_P E.1 vwCl (W_X6_word E a_t a_tape a_words a_refused a_now a_kept a_mind a_wCell a_wFaces a_wTurns a_wSign a_wBy a_wFell a_telling a_holds a_sizes a_elements a_moved a_above a_out a_first c_t c_tape c_words) H → va_D A (W_X6_word E a_t a_tape a_words a_refused a_now a_kept a_mind a_wCell a_wFaces a_wTurns a_wSign a_wBy a_wFell a_telling a_holds a_sizes a_elements a_moved a_above a_out a_first c_t c_tape c_words) → va_S A s.heap H locs → lv_has ls 5 [(0, .ref a_t), (1, .int l1), (2, .int l2)] → W p l e r_X6_word s m args below meth c H locs 0 0 (MQ below (qI E A res (W_X6_word E a_t a_tape a_words a_refused a_now a_kept a_mind a_wCell a_wFaces a_wTurns a_wSign a_wBy a_wFell a_telling a_holds a_sizes a_elements a_moved a_above a_out a_first c_t c_tape c_words)) args s 0 0 A) (F0 m 4 ls [])) (l1 : Int32) (l2 : Int32) (l3 : Int32) (ls : Array Slot) (H : Heap) (locs : List Loc) (h : f_X6_word_b109 c_t c_tape c_words k4 l1 l2 l3 = some res) (hP : va_P E.1 vwCl (W_X6_word E a_t a_tape a_words a_refused a_now a_kept a_mind a_wCell a_wFaces a_wTurns a_wSign a_wBy a_wFell a_telling a_holds a_sizes a_elements a_moved a_above a_out a_first c_t c_tape c_words) H) (hD : va_D A (W_X6_word E a_t a_tape a_words a_refused a_now a_kept a_mind a_wCell a_wFaces a_wTurns a_wSign a_wBy a_wFell a_telling a_holds a_sizes a_elements a_moved a_above a_out a_first c_t c_tape c_words)) (hS : va_S A s.heap H locs) (hl : lv_has ls 5 [(0, .ref a_t), (1, .int l1), (2, .int l2), (3, .int l3)]) : W p l e r_X6_word s m args below meth c H locs 0 0 (MQ below (qI E A res (W_X6_word E a_t a_tape a_words a_refused a_now a_kept a_mind a_wCell a_wFaces a_wTurns a_wSign a_wBy a_wFell a_telling a_holds a_sizes a_elements a_moved a_above a_out a_first c_t c_tape c_words)) args s 0 0 A) (F0 m 109 ls []) := by
  obtain ⟨hx, hb, hml, hr, hlk, hown, hts, hG, hA⟩ := id X
  have hK := hG.1
  have hN := hG.2.1
  unfold f_X6_word_b109 at h
  refine lv_iload_n hx hb dX6_word_109 rfl (lv_at hl 3 rfl) ?_
  refine lv_if_eq (tgt := 117) hx hb dX6_word_110 (by decide) (fun hc110 => ?_) (fun hc110 => ?_)
  · have h := if_t h hc110
    refine lv_iload_n hx hb dX6_word_117 rfl (lv_at hl 1 rfl) ?_
    exact w_X6_word_b118 X a_t a_tape a_words a_refused a_now a_kept a_mind a_wCell a_wFaces a_wTurns a_wSign a_wBy a_wFell a_telling a_holds a_sizes a_elements a_moved a_above a_out a_first c_t c_tape c_words res k4 hk4 l2 l1 _ _ _ h hP hD hS (lv_sub hl [0, 2] rfl)
  · have h := if_f h hc110
    refine lv_iload_n hx hb dX6_word_113 rfl (lv_at hl 2 rfl) ?_
    refine lv_goto (tgt := 118) hx hb dX6_word_114 (by decide) ?_
    exact w_X6_word_b118 X a_t a_tape a_words a_refused a_now a_kept a_mind a_wCell a_wFaces a_wTurns a_wSign a_wBy a_wFell a_telling a_holds a_sizes a_elements a_moved a_above a_out a_first c_t c_tape c_words res k4 hk4 l2 l2 _ _ _ h hP hD hS (lv_sub hl [0, 2] rfl)
set_option maxRecDepth 100000 in
set_option maxHeartbeats 4000000 in
theorem w_X6_word_b41 (X : Ctx p m meth c cX6_word 5 ((some .int)) s args wsX6_word RX6 E A) (a_t : Nat) (a_tape : Nat) (a_words : Nat) (a_refused : Nat) (a_now : Nat) (a_kept : Nat) (a_mind : Nat) (a_wCell : Nat) (a_wFaces : Nat) (a_wTurns : Nat) (a_wSign : Nat) (a_wBy : Nat) (a_wFell : Nat) (a_telling : Nat) (a_holds : Nat) (a_sizes : Nat) (a_elements : Nat) (a_moved : Nat) (a_above : Nat) (a_out : Nat) (a_first : Nat) (c_t : Nat → Int32) (c_tape : Nat → Int32) (c_words : Nat → Int32) (res : Int32) (k4 : Int32 → Int32 → Option (Int32)) (hk4 : ∀ (l1 : Int32) (l2 : Int32) (ls : Array Slot) (H : Heap) (locs : List Loc), k4 l1 l2 = some res → va_P E.1 vwCl (W_X6_word E a_t a_tape a_words a_refused a_now a_kept a_mind a_wCell a_wFaces a_wTurns a_wSign a_wBy a_wFell a_telling a_holds a_sizes a_elements a_moved a_above a_out a_first c_t c_tape c_words) H → va_D A (W_X6_word E a_t a_tape a_words a_refused a_now a_kept a_mind a_wCell a_wFaces a_wTurns a_wSign a_wBy a_wFell a_telling a_holds a_sizes a_elements a_moved a_above a_out a_first c_t c_tape c_words) → va_S A s.heap H locs → lv_has ls 5 [(0, .ref a_t), (1, .int l1), (2, .int l2)] → W p l e r_X6_word s m args below meth c H locs 0 0 (MQ below (qI E A res (W_X6_word E a_t a_tape a_words a_refused a_now a_kept a_mind a_wCell a_wFaces a_wTurns a_wSign a_wBy a_wFell a_telling a_holds a_sizes a_elements a_moved a_above a_out a_first c_t c_tape c_words)) args s 0 0 A) (F0 m 4 ls [])) : ∀ (n : Nat) (l1 : Int32) (l2 : Int32) (l3 : Int32) (l4 : Int32) (ls : Array Slot) (H : Heap) (locs : List Loc), f_X6_word_b41 c_t c_tape c_words k4 n l1 l2 l3 l4 = some res → va_P E.1 vwCl (W_X6_word E a_t a_tape a_words a_refused a_now a_kept a_mind a_wCell a_wFaces a_wTurns a_wSign a_wBy a_wFell a_telling a_holds a_sizes a_elements a_moved a_above a_out a_first c_t c_tape c_words) H → va_D A (W_X6_word E a_t a_tape a_words a_refused a_now a_kept a_mind a_wCell a_wFaces a_wTurns a_wSign a_wBy a_wFell a_telling a_holds a_sizes a_elements a_moved a_above a_out a_first c_t c_tape c_words) → va_S A s.heap H locs → lv_has ls 5 [(0, .ref a_t), (1, .int l1), (2, .int l2), (3, .int l3), (4, .int l4)] → W p l e r_X6_word s m args below meth c H locs 0 0 (MQ below (qI E A res (W_X6_word E a_t a_tape a_words a_refused a_now a_kept a_mind a_wCell a_wFaces a_wTurns a_wSign a_wBy a_wFell a_telling a_holds a_sizes a_elements a_moved a_above a_out a_first c_t c_tape c_words)) args s 0 0 A) (F0 m 41 ls []) := by
  obtain ⟨hx, hb, hml, hr, hlk, hown, hts, hG, hA⟩ := id X
  have hK := hG.1
  have hN := hG.2.1
  intro n
  induction n with
  | zero =>
    intro l1 l2 l3 l4 ls H locs h
    exact absurd (show (none : Option (Int32)) = some res from h) (by intro q; cases q)
  | succ n ih =>
    intro l1 l2 l3 l4 ls H locs h hP hD hS hl
    rw [f_X6_word_b41] at h
    refine lv_iload hx hb dX6_word_41 (lv_at hl 4 rfl) ?_
    refine lv_bipush (v := (6 : Int32)) hx hb dX6_word_43 (by decide) ?_
    refine lv_icmp_ge (tgt := 109) hx hb dX6_word_45 (by decide) (fun hc45 => ?_) (fun hc45 => ?_)
    · have h := if_t h hc45
      exact w_X6_word_b109 X a_t a_tape a_words a_refused a_now a_kept a_mind a_wCell a_wFaces a_wTurns a_wSign a_wBy a_wFell a_telling a_holds a_sizes a_elements a_moved a_above a_out a_first c_t c_tape c_words res k4 hk4 l1 l2 l3 _ _ _ h hP hD hS (lv_sub hl [0, 1, 2, 3] rfl)
    · have h := if_f h hc45
      refine lv_iload_n hx hb dX6_word_48 rfl (lv_at hl 3 rfl) ?_
      refine lv_if_eq (tgt := 109) hx hb dX6_word_49 (by decide) (fun hc49 => ?_) (fun hc49 => ?_)
      · have h := if_t h hc49
        exact w_X6_word_b109 X a_t a_tape a_words a_refused a_now a_kept a_mind a_wCell a_wFaces a_wTurns a_wSign a_wBy a_wFell a_telling a_holds a_sizes a_elements a_moved a_above a_out a_first c_t c_tape c_words res k4 hk4 l1 l2 l3 _ _ _ h hP hD hS (lv_sub hl [0, 1, 2, 3] rfl)
      · have h := if_f h hc49
        refine lv_aload_n hx hb dX6_word_52 rfl (lv_at hl 0 rfl) ?_
        refine va_get (D := E.1) (ci := 6) (v := .int (c_t 8)) (C := RX6) (T := TX6) (N := 26) hx hb hts iX6_word_X6 hown hK hP 0 rfl rfl 8 (by decide) (hts (.fieldLink RX6 147 "LeftIsAgreedOnModel" "from" "I") (List.mem_of_getElem? (i := 3) rfl)) (fun _ h9 => h9) rfl dX6_word_53 ?_
        refine lv_iload hx hb dX6_word_56 (lv_at hl 4 rfl) ?_
        refine lv_iadd hx hb dX6_word_58 ?_
        refine lv_aload_n hx hb dX6_word_59 rfl (lv_at hl 0 rfl) ?_
        refine va_get (D := E.1) (ci := 6) (v := .int (c_t 7)) (C := RX6) (T := TX6) (N := 26) hx hb hts iX6_word_X6 hown hK hP 0 rfl rfl 7 (by decide) (hts (.fieldLink RX6 144 "LeftIsAgreedOnModel" "at" "I") (List.mem_of_getElem? (i := 2) rfl)) (fun _ h9 => h9) rfl dX6_word_60 ?_
        refine lv_icmp_ge (tgt := 81) hx hb dX6_word_63 (by decide) (fun hc63 => ?_) (fun hc63 => ?_)
        · have h := if_t h hc63
          refine lv_iconst (v := (0 : Int32)) hx hb dX6_word_81 (by decide) ?_
          exact w_X6_word_b82 X a_t a_tape a_words a_refused a_now a_kept a_mind a_wCell a_wFaces a_wTurns a_wSign a_wBy a_wFell a_telling a_holds a_sizes a_elements a_moved a_above a_out a_first c_t c_tape c_words res k4 hk4 (f_X6_word_b41 c_t c_tape c_words k4 n) ih l1 l2 l4 (0 : Int32) _ _ _ h hP hD hS (lv_sub hl [0, 1, 2, 4] rfl)
        · have h := if_f h hc63
          refine lv_aload_n hx hb dX6_word_66 rfl (lv_at hl 0 rfl) ?_
          refine va_get (D := E.1) (ci := 6) (v := .ref a_tape) (C := RX6) (T := TX6) (N := 26) hx hb hts iX6_word_X6 hown hK hP 0 rfl rfl 5 (by decide) (hts (.fieldLink RX6 26 "LeftIsAgreedOnModel" "tape" "[I") (List.mem_of_getElem? (i := 4) rfl)) (fun _ h9 => h9) rfl dX6_word_67 ?_
          refine lv_aload_n hx hb dX6_word_70 rfl (lv_at hl 0 rfl) ?_
          refine va_get (D := E.1) (ci := 6) (v := .int (c_t 8)) (C := RX6) (T := TX6) (N := 26) hx hb hts iX6_word_X6 hown hK hP 0 rfl rfl 8 (by decide) (hts (.fieldLink RX6 147 "LeftIsAgreedOnModel" "from" "I") (List.mem_of_getElem? (i := 3) rfl)) (fun _ h9 => h9) rfl dX6_word_71 ?_
          refine lv_iload hx hb dX6_word_74 (lv_at hl 4 rfl) ?_
          refine lv_iadd hx hb dX6_word_76 ?_
          obtain ⟨hz77, h⟩ := chk_of h
          refine ld_i X hP 1 rfl (inb.vp hz77) (v := (c_tape (((c_t 8) + l4)).toNatClampNeg)) rfl dX6_word_77 ?_
          refine lv_goto (tgt := 82) hx hb dX6_word_78 (by decide) ?_
          exact w_X6_word_b82 X a_t a_tape a_words a_refused a_now a_kept a_mind a_wCell a_wFaces a_wTurns a_wSign a_wBy a_wFell a_telling a_holds a_sizes a_elements a_moved a_above a_out a_first c_t c_tape c_words res k4 hk4 (f_X6_word_b41 c_t c_tape c_words k4 n) ih l1 l2 l4 (c_tape (((c_t 8) + l4)).toNatClampNeg) _ _ _ h hP hD hS (lv_sub hl [0, 1, 2, 4] rfl)
set_option maxRecDepth 100000 in
set_option maxHeartbeats 4000000 in
theorem w_X6_word_b37 (X : Ctx p m meth c cX6_word 5 ((some .int)) s args wsX6_word RX6 E A) (a_t : Nat) (a_tape : Nat) (a_words : Nat) (a_refused : Nat) (a_now : Nat) (a_kept : Nat) (a_mind : Nat) (a_wCell : Nat) (a_wFaces : Nat) (a_wTurns : Nat) (a_wSign : Nat) (a_wBy : Nat) (a_wFell : Nat) (a_telling : Nat) (a_holds : Nat) (a_sizes : Nat) (a_elements : Nat) (a_moved : Nat) (a_above : Nat) (a_out : Nat) (a_first : Nat) (c_t : Nat → Int32) (c_tape : Nat → Int32) (c_words : Nat → Int32) (res : Int32) (k4 : Int32 → Int32 → Option (Int32)) (hk4 : ∀ (l1 : Int32) (l2 : Int32) (ls : Array Slot) (H : Heap) (locs : List Loc), k4 l1 l2 = some res → va_P E.1 vwCl (W_X6_word E a_t a_tape a_words a_refused a_now a_kept a_mind a_wCell a_wFaces a_wTurns a_wSign a_wBy a_wFell a_telling a_holds a_sizes a_elements a_moved a_above a_out a_first c_t c_tape c_words) H → va_D A (W_X6_word E a_t a_tape a_words a_refused a_now a_kept a_mind a_wCell a_wFaces a_wTurns a_wSign a_wBy a_wFell a_telling a_holds a_sizes a_elements a_moved a_above a_out a_first c_t c_tape c_words) → va_S A s.heap H locs → lv_has ls 5 [(0, .ref a_t), (1, .int l1), (2, .int l2)] → W p l e r_X6_word s m args below meth c H locs 0 0 (MQ below (qI E A res (W_X6_word E a_t a_tape a_words a_refused a_now a_kept a_mind a_wCell a_wFaces a_wTurns a_wSign a_wBy a_wFell a_telling a_holds a_sizes a_elements a_moved a_above a_out a_first c_t c_tape c_words)) args s 0 0 A) (F0 m 4 ls [])) (l1 : Int32) (l2 : Int32) (s0 : Int32) (ls : Array Slot) (H : Heap) (locs : List Loc) (h : f_X6_word_b37 c_t c_tape c_words k4 l1 l2 s0 = some res) (hP : va_P E.1 vwCl (W_X6_word E a_t a_tape a_words a_refused a_now a_kept a_mind a_wCell a_wFaces a_wTurns a_wSign a_wBy a_wFell a_telling a_holds a_sizes a_elements a_moved a_above a_out a_first c_t c_tape c_words) H) (hD : va_D A (W_X6_word E a_t a_tape a_words a_refused a_now a_kept a_mind a_wCell a_wFaces a_wTurns a_wSign a_wBy a_wFell a_telling a_holds a_sizes a_elements a_moved a_above a_out a_first c_t c_tape c_words)) (hS : va_S A s.heap H locs) (hl : lv_has ls 5 [(0, .ref a_t), (1, .int l1), (2, .int l2)]) : W p l e r_X6_word s m args below meth c H locs 0 0 (MQ below (qI E A res (W_X6_word E a_t a_tape a_words a_refused a_now a_kept a_mind a_wCell a_wFaces a_wTurns a_wSign a_wBy a_wFell a_telling a_holds a_sizes a_elements a_moved a_above a_out a_first c_t c_tape c_words)) args s 0 0 A) (F0 m 37 ls [.int s0]) := by
  obtain ⟨hx, hb, hml, hr, hlk, hown, hts, hG, hA⟩ := id X
  have hK := hG.1
  have hN := hG.2.1
  unfold f_X6_word_b37 at h
  refine lv_istore_n (lv' := [(3, .int s0), (0, .ref a_t), (1, .int l1), (2, .int l2)]) hx hb dX6_word_37 rfl hl (by decide) rfl (fun ls hl => ?_)
  refine lv_iconst (v := (0 : Int32)) hx hb dX6_word_38 (by decide) ?_
  refine lv_istore (lv' := [(4, .int (0 : Int32)), (3, .int s0), (0, .ref a_t), (1, .int l1), (2, .int l2)]) hx hb dX6_word_39 hl (by decide) rfl (fun ls hl => ?_)
  exact w_X6_word_b41 X a_t a_tape a_words a_refused a_now a_kept a_mind a_wCell a_wFaces a_wTurns a_wSign a_wBy a_wFell a_telling a_holds a_sizes a_elements a_moved a_above a_out a_first c_t c_tape c_words res k4 hk4 FU l1 l2 s0 (0 : Int32) _ _ _ h hP hD hS (lv_sub hl [2, 3, 4, 1, 0] rfl)
set_option maxRecDepth 100000 in
set_option maxHeartbeats 4000000 in
theorem w_X6_word_b36 (X : Ctx p m meth c cX6_word 5 ((some .int)) s args wsX6_word RX6 E A) (a_t : Nat) (a_tape : Nat) (a_words : Nat) (a_refused : Nat) (a_now : Nat) (a_kept : Nat) (a_mind : Nat) (a_wCell : Nat) (a_wFaces : Nat) (a_wTurns : Nat) (a_wSign : Nat) (a_wBy : Nat) (a_wFell : Nat) (a_telling : Nat) (a_holds : Nat) (a_sizes : Nat) (a_elements : Nat) (a_moved : Nat) (a_above : Nat) (a_out : Nat) (a_first : Nat) (c_t : Nat → Int32) (c_tape : Nat → Int32) (c_words : Nat → Int32) (res : Int32) (k4 : Int32 → Int32 → Option (Int32)) (hk4 : ∀ (l1 : Int32) (l2 : Int32) (ls : Array Slot) (H : Heap) (locs : List Loc), k4 l1 l2 = some res → va_P E.1 vwCl (W_X6_word E a_t a_tape a_words a_refused a_now a_kept a_mind a_wCell a_wFaces a_wTurns a_wSign a_wBy a_wFell a_telling a_holds a_sizes a_elements a_moved a_above a_out a_first c_t c_tape c_words) H → va_D A (W_X6_word E a_t a_tape a_words a_refused a_now a_kept a_mind a_wCell a_wFaces a_wTurns a_wSign a_wBy a_wFell a_telling a_holds a_sizes a_elements a_moved a_above a_out a_first c_t c_tape c_words) → va_S A s.heap H locs → lv_has ls 5 [(0, .ref a_t), (1, .int l1), (2, .int l2)] → W p l e r_X6_word s m args below meth c H locs 0 0 (MQ below (qI E A res (W_X6_word E a_t a_tape a_words a_refused a_now a_kept a_mind a_wCell a_wFaces a_wTurns a_wSign a_wBy a_wFell a_telling a_holds a_sizes a_elements a_moved a_above a_out a_first c_t c_tape c_words)) args s 0 0 A) (F0 m 4 ls [])) (l1 : Int32) (l2 : Int32) (ls : Array Slot) (H : Heap) (locs : List Loc) (h : f_X6_word_b36 c_t c_tape c_words k4 l1 l2 = some res) (hP : va_P E.1 vwCl (W_X6_word E a_t a_tape a_words a_refused a_now a_kept a_mind a_wCell a_wFaces a_wTurns a_wSign a_wBy a_wFell a_telling a_holds a_sizes a_elements a_moved a_above a_out a_first c_t c_tape c_words) H) (hD : va_D A (W_X6_word E a_t a_tape a_words a_refused a_now a_kept a_mind a_wCell a_wFaces a_wTurns a_wSign a_wBy a_wFell a_telling a_holds a_sizes a_elements a_moved a_above a_out a_first c_t c_tape c_words)) (hS : va_S A s.heap H locs) (hl : lv_has ls 5 [(0, .ref a_t), (1, .int l1), (2, .int l2)]) : W p l e r_X6_word s m args below meth c H locs 0 0 (MQ below (qI E A res (W_X6_word E a_t a_tape a_words a_refused a_now a_kept a_mind a_wCell a_wFaces a_wTurns a_wSign a_wBy a_wFell a_telling a_holds a_sizes a_elements a_moved a_above a_out a_first c_t c_tape c_words)) args s 0 0 A) (F0 m 36 ls []) := by
  obtain ⟨hx, hb, hml, hr, hlk, hown, hts, hG, hA⟩ := id X
  have hK := hG.1
  have hN := hG.2.1
  unfold f_X6_word_b36 at h
  refine lv_iconst (v := (0 : Int32)) hx hb dX6_word_36 (by decide) ?_
  exact w_X6_word_b37 X a_t a_tape a_words a_refused a_now a_kept a_mind a_wCell a_wFaces a_wTurns a_wSign a_wBy a_wFell a_telling a_holds a_sizes a_elements a_moved a_above a_out a_first c_t c_tape c_words res k4 hk4 l1 l2 (0 : Int32) _ _ _ h hP hD hS (lv_sub hl [0, 1, 2] rfl)
set_option maxRecDepth 100000 in
set_option maxHeartbeats 4000000 in
theorem w_X6_word_b4 (X : Ctx p m meth c cX6_word 5 ((some .int)) s args wsX6_word RX6 E A) (a_t : Nat) (a_tape : Nat) (a_words : Nat) (a_refused : Nat) (a_now : Nat) (a_kept : Nat) (a_mind : Nat) (a_wCell : Nat) (a_wFaces : Nat) (a_wTurns : Nat) (a_wSign : Nat) (a_wBy : Nat) (a_wFell : Nat) (a_telling : Nat) (a_holds : Nat) (a_sizes : Nat) (a_elements : Nat) (a_moved : Nat) (a_above : Nat) (a_out : Nat) (a_first : Nat) (c_t : Nat → Int32) (c_tape : Nat → Int32) (c_words : Nat → Int32) (res : Int32) : ∀ (n : Nat) (l1 : Int32) (l2 : Int32) (ls : Array Slot) (H : Heap) (locs : List Loc), f_X6_word_b4 c_t c_tape c_words n l1 l2 = some res → va_P E.1 vwCl (W_X6_word E a_t a_tape a_words a_refused a_now a_kept a_mind a_wCell a_wFaces a_wTurns a_wSign a_wBy a_wFell a_telling a_holds a_sizes a_elements a_moved a_above a_out a_first c_t c_tape c_words) H → va_D A (W_X6_word E a_t a_tape a_words a_refused a_now a_kept a_mind a_wCell a_wFaces a_wTurns a_wSign a_wBy a_wFell a_telling a_holds a_sizes a_elements a_moved a_above a_out a_first c_t c_tape c_words) → va_S A s.heap H locs → lv_has ls 5 [(0, .ref a_t), (1, .int l1), (2, .int l2)] → W p l e r_X6_word s m args below meth c H locs 0 0 (MQ below (qI E A res (W_X6_word E a_t a_tape a_words a_refused a_now a_kept a_mind a_wCell a_wFaces a_wTurns a_wSign a_wBy a_wFell a_telling a_holds a_sizes a_elements a_moved a_above a_out a_first c_t c_tape c_words)) args s 0 0 A) (F0 m 4 ls []) := by
  obtain ⟨hx, hb, hml, hr, hlk, hown, hts, hG, hA⟩ := id X
  have hK := hG.1
  have hN := hG.2.1
  intro n
  induction n with
  | zero =>
    intro l1 l2 ls H locs h
    exact absurd (show (none : Option (Int32)) = some res from h) (by intro q; cases q)
  | succ n ih =>
    intro l1 l2 ls H locs h hP hD hS hl
    rw [f_X6_word_b4] at h
    refine lv_iload_n hx hb dX6_word_4 rfl (lv_at hl 2 rfl) ?_
    refine lv_bipush (v := (8 : Int32)) hx hb dX6_word_5 (by decide) ?_
    refine lv_icmp_ge (tgt := 125) hx hb dX6_word_7 (by decide) (fun hc7 => ?_) (fun hc7 => ?_)
    · have h := if_t h hc7
      refine lv_iload_n hx hb dX6_word_125 rfl (lv_at hl 1 rfl) ?_
      obtain rfl := Option.some.inj h
      exact ret_i X dX6_word_126 hP hD hS rfl
    · have h := if_f h hc7
      refine lv_aload_n hx hb dX6_word_10 rfl (lv_at hl 0 rfl) ?_
      refine va_get (D := E.1) (ci := 6) (v := .int (c_t 9)) (C := RX6) (T := TX6) (N := 26) hx hb hts iX6_word_X6 hown hK hP 0 rfl rfl 9 (by decide) (hts (.fieldLink RX6 153 "LeftIsAgreedOnModel" "sort" "I") (List.mem_of_getElem? (i := 1) rfl)) (fun _ h9 => h9) rfl dX6_word_11 ?_
      refine lv_iconst (v := (1 : Int32)) hx hb dX6_word_14 (by decide) ?_
      refine lv_icmp_ne (tgt := 36) hx hb dX6_word_15 (by decide) (fun hc15 => ?_) (fun hc15 => ?_)
      · have h := if_f h hc15
        exact w_X6_word_b36 X a_t a_tape a_words a_refused a_now a_kept a_mind a_wCell a_wFaces a_wTurns a_wSign a_wBy a_wFell a_telling a_holds a_sizes a_elements a_moved a_above a_out a_first c_t c_tape c_words res (f_X6_word_b4 c_t c_tape c_words n) ih l1 l2 _ _ _ h hP hD hS (lv_sub hl [0, 1, 2] rfl)
      · have h := if_t h hc15
        refine lv_aload_n hx hb dX6_word_18 rfl (lv_at hl 0 rfl) ?_
        refine va_get (D := E.1) (ci := 6) (v := .int (c_t 7)) (C := RX6) (T := TX6) (N := 26) hx hb hts iX6_word_X6 hown hK hP 0 rfl rfl 7 (by decide) (hts (.fieldLink RX6 144 "LeftIsAgreedOnModel" "at" "I") (List.mem_of_getElem? (i := 2) rfl)) (fun _ h9 => h9) rfl dX6_word_19 ?_
        refine lv_aload_n hx hb dX6_word_22 rfl (lv_at hl 0 rfl) ?_
        refine va_get (D := E.1) (ci := 6) (v := .int (c_t 8)) (C := RX6) (T := TX6) (N := 26) hx hb hts iX6_word_X6 hown hK hP 0 rfl rfl 8 (by decide) (hts (.fieldLink RX6 147 "LeftIsAgreedOnModel" "from" "I") (List.mem_of_getElem? (i := 3) rfl)) (fun _ h9 => h9) rfl dX6_word_23 ?_
        refine lv_isub hx hb dX6_word_26 ?_
        refine lv_bipush (v := (6 : Int32)) hx hb dX6_word_27 (by decide) ?_
        refine lv_icmp_gt (tgt := 36) hx hb dX6_word_29 (by decide) (fun hc29 => ?_) (fun hc29 => ?_)
        · have h := if_t h hc29
          exact w_X6_word_b36 X a_t a_tape a_words a_refused a_now a_kept a_mind a_wCell a_wFaces a_wTurns a_wSign a_wBy a_wFell a_telling a_holds a_sizes a_elements a_moved a_above a_out a_first c_t c_tape c_words res (f_X6_word_b4 c_t c_tape c_words n) ih l1 l2 _ _ _ h hP hD hS (lv_sub hl [0, 1, 2] rfl)
        · have h := if_f h hc29
          refine lv_iconst (v := (1 : Int32)) hx hb dX6_word_32 (by decide) ?_
          refine lv_goto (tgt := 37) hx hb dX6_word_33 (by decide) ?_
          exact w_X6_word_b37 X a_t a_tape a_words a_refused a_now a_kept a_mind a_wCell a_wFaces a_wTurns a_wSign a_wBy a_wFell a_telling a_holds a_sizes a_elements a_moved a_above a_out a_first c_t c_tape c_words res (f_X6_word_b4 c_t c_tape c_words n) ih l1 l2 (1 : Int32) _ _ _ h hP hD hS (lv_sub hl [0, 1, 2] rfl)
set_option maxRecDepth 100000 in
set_option maxHeartbeats 4000000 in
theorem w_X6_word (X : Ctx p m meth c cX6_word 5 ((some .int)) s args wsX6_word RX6 E A) (a_t : Nat) (a_tape : Nat) (a_words : Nat) (a_refused : Nat) (a_now : Nat) (a_kept : Nat) (a_mind : Nat) (a_wCell : Nat) (a_wFaces : Nat) (a_wTurns : Nat) (a_wSign : Nat) (a_wBy : Nat) (a_wFell : Nat) (a_telling : Nat) (a_holds : Nat) (a_sizes : Nat) (a_elements : Nat) (a_moved : Nat) (a_above : Nat) (a_out : Nat) (a_first : Nat) (c_t : Nat → Int32) (c_tape : Nat → Int32) (c_words : Nat → Int32) (res : Int32) (ls : Array Slot) (H : Heap) (locs : List Loc) (h : f_X6_word c_t c_tape c_words = some res) (hP : va_P E.1 vwCl (W_X6_word E a_t a_tape a_words a_refused a_now a_kept a_mind a_wCell a_wFaces a_wTurns a_wSign a_wBy a_wFell a_telling a_holds a_sizes a_elements a_moved a_above a_out a_first c_t c_tape c_words) H) (hD : va_D A (W_X6_word E a_t a_tape a_words a_refused a_now a_kept a_mind a_wCell a_wFaces a_wTurns a_wSign a_wBy a_wFell a_telling a_holds a_sizes a_elements a_moved a_above a_out a_first c_t c_tape c_words)) (hS : va_S A s.heap H locs) (hl : lv_has ls 5 [(0, .ref a_t)]) : W p l e r_X6_word s m args below meth c H locs 0 0 (MQ below (qI E A res (W_X6_word E a_t a_tape a_words a_refused a_now a_kept a_mind a_wCell a_wFaces a_wTurns a_wSign a_wBy a_wFell a_telling a_holds a_sizes a_elements a_moved a_above a_out a_first c_t c_tape c_words)) args s 0 0 A) (F0 m 0 ls []) := by
  obtain ⟨hx, hb, hml, hr, hlk, hown, hts, hG, hA⟩ := id X
  have hK := hG.1
  have hN := hG.2.1
  unfold f_X6_word at h
  refine lv_iconst (v := (-1 : Int32)) hx hb dX6_word_0 (by decide) ?_
  refine lv_istore_n (lv' := [(1, .int (-1 : Int32)), (0, .ref a_t)]) hx hb dX6_word_1 rfl hl (by decide) rfl (fun ls hl => ?_)
  refine lv_iconst (v := (0 : Int32)) hx hb dX6_word_2 (by decide) ?_
  refine lv_istore_n (lv' := [(2, .int (0 : Int32)), (1, .int (-1 : Int32)), (0, .ref a_t)]) hx hb dX6_word_3 rfl hl (by decide) rfl (fun ls hl => ?_)
  exact w_X6_word_b4 X a_t a_tape a_words a_refused a_now a_kept a_mind a_wCell a_wFaces a_wTurns a_wSign a_wBy a_wFell a_telling a_holds a_sizes a_elements a_moved a_above a_out a_first c_t c_tape c_words res FU (-1 : Int32) (0 : Int32) _ _ _ h hP hD hS (lv_sub hl [2, 1, 0] rfl)
end
set_option maxRecDepth 100000 in
theorem c_X6_word (l : Launch) (E : Env0) (a_t : Nat) (a_tape : Nat) (a_words : Nat) (a_refused : Nat) (a_now : Nat) (a_kept : Nat) (a_mind : Nat) (a_wCell : Nat) (a_wFaces : Nat) (a_wTurns : Nat) (a_wSign : Nat) (a_wBy : Nat) (a_wFell : Nat) (a_telling : Nat) (a_holds : Nat) (a_sizes : Nat) (a_elements : Nat) (a_moved : Nat) (a_above : Nat) (a_out : Nat) (a_first : Nat) (c_t : Nat → Int32) (c_tape : Nat → Int32) (c_words : Nat → Int32) (sz : Nat) (res : Int32) (h : f_X6_word c_t c_tape c_words = some res) : Met l yX6_word wsX6_word r_X6_word (cPre E [.ref a_t] (W_X6_word E a_t a_tape a_words a_refused a_now a_kept a_mind a_wCell a_wFaces a_wTurns a_wSign a_wBy a_wFell a_telling a_holds a_sizes a_elements a_moved a_above a_out a_first c_t c_tape c_words) sz) (qI E (va_A (W_X6_word E a_t a_tape a_words a_refused a_now a_kept a_mind a_wCell a_wFaces a_wTurns a_wSign a_wBy a_wFell a_telling a_holds a_sizes a_elements a_moved a_above a_out a_first c_t c_tape c_words) sz) res (W_X6_word E a_t a_tape a_words a_refused a_now a_kept a_mind a_wCell a_wFaces a_wTurns a_wSign a_wBy a_wFell a_telling a_holds a_sizes a_elements a_moved a_above a_out a_first c_t c_tape c_words)) 0 0 (va_A (W_X6_word E a_t a_tape a_words a_refused a_now a_kept a_mind a_wCell a_wFaces a_wTurns a_wSign a_wBy a_wFell a_telling a_holds a_sizes a_elements a_moved a_above a_out a_first c_t c_tape c_words) sz) :=
  met_of (Qc := fun A => qI E A res (W_X6_word E a_t a_tape a_words a_refused a_now a_kept a_mind a_wCell a_wFaces a_wTurns a_wSign a_wBy a_wFell a_telling a_holds a_sizes a_elements a_moved a_above a_out a_first c_t c_tape c_words)) (by decide) rfl (Nat.le_of_ble_eq_true rfl) (fun p e s m args below meth c X hP hD hS ls hl => w_X6_word X a_t a_tape a_words a_refused a_now a_kept a_mind a_wCell a_wFaces a_wTurns a_wSign a_wBy a_wFell a_telling a_holds a_sizes a_elements a_moved a_above a_out a_first c_t c_tape c_words res ls _ _ h hP hD hS hl)
-- ===== X6_number
abbrev W_X6_number (E : Env0) (a_t : Nat) (a_tape : Nat) (a_refused : Nat) (a_now : Nat) (a_kept : Nat) (a_mind : Nat) (a_words : Nat) (a_wCell : Nat) (a_wFaces : Nat) (a_wTurns : Nat) (a_wSign : Nat) (a_wBy : Nat) (a_wFell : Nat) (a_telling : Nat) (a_holds : Nat) (a_sizes : Nat) (a_elements : Nat) (a_moved : Nat) (a_above : Nat) (a_out : Nat) (a_first : Nat) (c_t : Nat → Int32) (c_tape : Nat → Int32) : va_W := [(a_t, .inr (6, [.ref a_refused, .ref a_now, .ref a_kept, .ref a_mind, .int (c_t 4), .ref a_tape, .int (c_t 6), .int (c_t 7), .int (c_t 8), .int (c_t 9), .ref a_words, .ref a_wCell, .ref a_wFaces, .ref a_wTurns, .ref a_wSign, .ref a_wBy, .ref a_wFell, .int (c_t 17), .ref a_telling, .ref a_holds, .ref a_sizes, .ref a_elements, .ref a_moved, .ref a_above, .ref a_out, .ref a_first])), (a_tape, .inl (eI E, 250, .inl c_tape))]
abbrev r_X6_number : Room := { frames := 3, cells := 0, slots := 0, locals := 66 }
theorem hd_X6_number : yX6_number.cls ≠ "java/lang/invoke/MethodHandle" ∧ yX6_number.cls ≠ "java/lang/invoke/VarHandle" ∧ (parseMethodDescriptor yX6_number.desc).map (fun d => d.parameters.length) = some 2 := by decide +kernel
theorem hV_X6_number : yX6_number.cls = RX6 ∧ yX6_number.cls ≠ "java/lang/invoke/MethodHandle" ∧ yX6_number.cls ≠ "java/lang/invoke/VarHandle" ∧ (parseMethodDescriptor yX6_number.desc).map (fun d => d.parameters.length) = some 2 := ⟨rfl, hd_X6_number⟩
theorem iX6_number_X6 : ∀ w ∈ wsX60, w ∈ wsX6_number := fun _ h => List.mem_cons_of_mem _ (List.mem_append_right _ (h))
section
variable {p : Program} {l : Launch} {e : Env} {s : State} {m : MethodId} {args : Array Value} {below : List Frame} {meth : Method} {c : Code} {E : Env0} {A : Nat → Prop}
set_option maxRecDepth 100000 in
set_option maxHeartbeats 4000000 in
theorem w_X6_number_b35 (X : Ctx p m meth c cX6_number 5 ((some .int)) s args wsX6_number RX6 E A) (a_t : Nat) (a_tape : Nat) (a_refused : Nat) (a_now : Nat) (a_kept : Nat) (a_mind : Nat) (a_words : Nat) (a_wCell : Nat) (a_wFaces : Nat) (a_wTurns : Nat) (a_wSign : Nat) (a_wBy : Nat) (a_wFell : Nat) (a_telling : Nat) (a_holds : Nat) (a_sizes : Nat) (a_elements : Nat) (a_moved : Nat) (a_above : Nat) (a_out : Nat) (a_first : Nat) (c_tape : Nat → Int32) (res : Int32 × (Nat → Int32)) : ∀ (n : Nat) (c_t : Nat → Int32) (l1 : Int32) (l2 : Int32) (l3 : Int32) (l4 : Int32) (ls : Array Slot) (H : Heap) (locs : List Loc), f_X6_number_b35 c_tape n c_t l1 l2 l3 l4 = some res → va_P E.1 vwCl (W_X6_number E a_t a_tape a_refused a_now a_kept a_mind a_words a_wCell a_wFaces a_wTurns a_wSign a_wBy a_wFell a_telling a_holds a_sizes a_elements a_moved a_above a_out a_first c_t c_tape) H → va_D A (W_X6_number E a_t a_tape a_refused a_now a_kept a_mind a_words a_wCell a_wFaces a_wTurns a_wSign a_wBy a_wFell a_telling a_holds a_sizes a_elements a_moved a_above a_out a_first c_t c_tape) → va_S A s.heap H locs → lv_has ls 5 [(0, .ref a_t), (1, .int l1), (2, .int l2), (3, .int l3), (4, .int l4)] → W p l e r_X6_number s m args below meth c H locs 0 0 (MQ below (qI E A (res.1) (W_X6_number E a_t a_tape a_refused a_now a_kept a_mind a_words a_wCell a_wFaces a_wTurns a_wSign a_wBy a_wFell a_telling a_holds a_sizes a_elements a_moved a_above a_out a_first (res.2) c_tape)) args s 0 0 A) (F0 m 35 ls []) := by
  obtain ⟨hx, hb, hml, hr, hlk, hown, hts, hG, hA⟩ := id X
  have hK := hG.1
  have hN := hG.2.1
  intro n
  induction n with
  | zero =>
    intro c_t l1 l2 l3 l4 ls H locs h
    exact absurd (show (none : Option (Int32 × (Nat → Int32))) = some res from h) (by intro q; cases q)
  | succ n ih =>
    intro c_t l1 l2 l3 l4 ls H locs h hP hD hS hl
    rw [f_X6_number_b35] at h
    refine lv_iload hx hb dX6_number_35 (lv_at hl 4 rfl) ?_
    refine lv_aload_n hx hb dX6_number_37 rfl (lv_at hl 0 rfl) ?_
    refine va_get (D := E.1) (ci := 6) (v := .int (c_t 7)) (C := RX6) (T := TX6) (N := 26) hx hb hts iX6_number_X6 hown hK hP 0 rfl rfl 7 (by decide) (hts (.fieldLink RX6 144 "LeftIsAgreedOnModel" "at" "I") (List.mem_of_getElem? (i := 2) rfl)) (fun _ h9 => h9) rfl dX6_number_38 ?_
    refine lv_icmp_ge (tgt := 66) hx hb dX6_number_41 (by decide) (fun hc41 => ?_) (fun hc41 => ?_)
    · have h := if_t h hc41
      refine lv_iload_n hx hb dX6_number_66 rfl (lv_at hl 3 rfl) ?_
      refine lv_i2l (v := (l3.toInt64)) hx hb dX6_number_67 rfl ?_
      refine lv_iload_n hx hb dX6_number_68 rfl (lv_at hl 1 rfl) ?_
      refine lv_i2l (v := (l1.toInt64)) hx hb dX6_number_69 rfl ?_
      refine lv_iload_n hx hb dX6_number_70 rfl (lv_at hl 2 rfl) ?_
      refine lv_i2l (v := (l2.toInt64)) hx hb dX6_number_71 rfl ?_
      obtain ⟨v1, hv1, h⟩ := bind_of h
      refine after_i X (run_S X (c_X6_isIn l E (l3.toInt64) (l1.toInt64) (l2.toInt64) H.size v1 hv1) (va_cwS 3 hts gX6_number_X6_isIn rfl rfl rfl hd_X6_isIn ⟨(Nat.le_of_ble_eq_true rfl), (Nat.le_of_ble_eq_true rfl)⟩) hP hD hS [] rfl rfl hl.1 (rest := []) rfl rfl (Nat.le_of_ble_eq_true rfl) dX6_number_72) hP hD hS [] [0, 1] [0, 1] rfl rfl rfl (by decide) rfl (ws1 := (W_X6_number E a_t a_tape a_refused a_now a_kept a_mind a_words a_wCell a_wFaces a_wTurns a_wSign a_wBy a_wFell a_telling a_holds a_sizes a_elements a_moved a_above a_out a_first c_t c_tape)) rfl (fun H locs hP hD hS => ?_)
      refine lv_if_eq (tgt := 82) hx hb dX6_number_75 (by decide) (fun hc75 => ?_) (fun hc75 => ?_)
      · have h := if_t h hc75
        refine lv_iconst (v := (-1 : Int32)) hx hb dX6_number_82 (by decide) ?_
        obtain rfl := Option.some.inj h
        exact ret_i X dX6_number_83 hP hD hS rfl
      · have h := if_f h hc75
        refine lv_iload_n hx hb dX6_number_78 rfl (lv_at hl 3 rfl) ?_
        refine lv_goto (tgt := 83) hx hb dX6_number_79 (by decide) ?_
        obtain rfl := Option.some.inj h
        exact ret_i X dX6_number_83 hP hD hS rfl
    · have h := if_f h hc41
      refine lv_bipush (v := (10 : Int32)) hx hb dX6_number_44 (by decide) ?_
      refine lv_iload_n hx hb dX6_number_46 rfl (lv_at hl 3 rfl) ?_
      refine lv_imul hx hb dX6_number_47 ?_
      refine lv_aload_n hx hb dX6_number_48 rfl (lv_at hl 0 rfl) ?_
      refine va_get (D := E.1) (ci := 6) (v := .ref a_tape) (C := RX6) (T := TX6) (N := 26) hx hb hts iX6_number_X6 hown hK hP 0 rfl rfl 5 (by decide) (hts (.fieldLink RX6 26 "LeftIsAgreedOnModel" "tape" "[I") (List.mem_of_getElem? (i := 4) rfl)) (fun _ h9 => h9) rfl dX6_number_49 ?_
      refine lv_iload hx hb dX6_number_52 (lv_at hl 4 rfl) ?_
      obtain ⟨hz54, h⟩ := chk_of h
      refine ld_i X hP 1 rfl (inb.vp hz54) (v := (c_tape (l4).toNatClampNeg)) rfl dX6_number_54 ?_
      refine lv_iadd hx hb dX6_number_55 ?_
      refine lv_bipush (v := (48 : Int32)) hx hb dX6_number_56 (by decide) ?_
      refine lv_isub hx hb dX6_number_58 ?_
      refine lv_istore_n (lv' := [(3, .int ((((10 : Int32) * l3) + (c_tape (l4).toNatClampNeg)) - (48 : Int32))), (0, .ref a_t), (1, .int l1), (2, .int l2), (4, .int l4)]) hx hb dX6_number_59 rfl hl (by decide) rfl (fun ls hl => ?_)
      refine lv_iinc (v := (l4 + (1 : Int32))) (lv' := [(4, .int (l4 + (1 : Int32))), (3, .int ((((10 : Int32) * l3) + (c_tape (l4).toNatClampNeg)) - (48 : Int32))), (0, .ref a_t), (1, .int l1), (2, .int l2)]) hx hb dX6_number_60 hl (k := 4) rfl rfl (by decide) rfl (fun ls hl => ?_)
      refine lv_goto (tgt := 35) hx hb dX6_number_63 (by decide) ?_
      exact ih c_t l1 l2 ((((10 : Int32) * l3) + (c_tape (l4).toNatClampNeg)) - (48 : Int32)) (l4 + (1 : Int32)) _ _ _ h hP hD hS (lv_sub hl [2, 3, 4, 1, 0] rfl)
set_option maxRecDepth 100000 in
set_option maxHeartbeats 4000000 in
theorem w_X6_number (X : Ctx p m meth c cX6_number 5 ((some .int)) s args wsX6_number RX6 E A) (a_t : Nat) (a_tape : Nat) (a_refused : Nat) (a_now : Nat) (a_kept : Nat) (a_mind : Nat) (a_words : Nat) (a_wCell : Nat) (a_wFaces : Nat) (a_wTurns : Nat) (a_wSign : Nat) (a_wBy : Nat) (a_wFell : Nat) (a_telling : Nat) (a_holds : Nat) (a_sizes : Nat) (a_elements : Nat) (a_moved : Nat) (a_above : Nat) (a_out : Nat) (a_first : Nat) (c_tape : Nat → Int32) (res : Int32 × (Nat → Int32)) (c_t : Nat → Int32) (l1 : Int32) (l2 : Int32) (ls : Array Slot) (H : Heap) (locs : List Loc) (h : f_X6_number l1 l2 c_t c_tape = some res) (hP : va_P E.1 vwCl (W_X6_number E a_t a_tape a_refused a_now a_kept a_mind a_words a_wCell a_wFaces a_wTurns a_wSign a_wBy a_wFell a_telling a_holds a_sizes a_elements a_moved a_above a_out a_first c_t c_tape) H) (hD : va_D A (W_X6_number E a_t a_tape a_refused a_now a_kept a_mind a_words a_wCell a_wFaces a_wTurns a_wSign a_wBy a_wFell a_telling a_holds a_sizes a_elements a_moved a_above a_out a_first c_t c_tape)) (hS : va_S A s.heap H locs) (hl : lv_has ls 5 [(0, .ref a_t), (1, .int l1), (2, .int l2)]) : W p l e r_X6_number s m args below meth c H locs 0 0 (MQ below (qI E A (res.1) (W_X6_number E a_t a_tape a_refused a_now a_kept a_mind a_words a_wCell a_wFaces a_wTurns a_wSign a_wBy a_wFell a_telling a_holds a_sizes a_elements a_moved a_above a_out a_first (res.2) c_tape)) args s 0 0 A) (F0 m 0 ls []) := by
  obtain ⟨hx, hb, hml, hr, hlk, hown, hts, hG, hA⟩ := id X
  have hK := hG.1
  have hN := hG.2.1
  unfold f_X6_number at h
  refine lv_aload_n hx hb dX6_number_0 rfl (lv_at hl 0 rfl) ?_
  obtain ⟨v1, hv1, h⟩ := bind_of h
  refine after_v X (run_V X (c_X6_next l E a_t a_tape a_refused a_now a_kept a_mind a_words a_wCell a_wFaces a_wTurns a_wSign a_wBy a_wFell a_telling a_holds a_sizes a_elements a_moved a_above a_out a_first c_t c_tape H.size v1 hv1) (cwV 0 hts gX6_number_X6_next rfl rfl rfl hV_X6_next ⟨(Nat.le_of_ble_eq_true rfl), (Nat.le_of_ble_eq_true rfl)⟩) hP hD hS [0, 1] rfl rfl hl.1 (ci := 6) rfl rfl rfl (rest := []) rfl rfl (Nat.le_of_ble_eq_true rfl) dX6_number_1) hP hD hS [0, 1] [] [0, 1] rfl rfl rfl (by decide) rfl (ws1 := (W_X6_number E a_t a_tape a_refused a_now a_kept a_mind a_words a_wCell a_wFaces a_wTurns a_wSign a_wBy a_wFell a_telling a_holds a_sizes a_elements a_moved a_above a_out a_first v1 c_tape)) rfl (fun H locs hP hD hS => ?_)
  refine lv_aload_n hx hb dX6_number_4 rfl (lv_at hl 0 rfl) ?_
  refine va_get (D := E.1) (ci := 6) (v := .int (v1 9)) (C := RX6) (T := TX6) (N := 26) hx hb hts iX6_number_X6 hown hK hP 0 rfl rfl 9 (by decide) (hts (.fieldLink RX6 153 "LeftIsAgreedOnModel" "sort" "I") (List.mem_of_getElem? (i := 1) rfl)) (fun _ h9 => h9) rfl dX6_number_5 ?_
  refine lv_iconst (v := (2 : Int32)) hx hb dX6_number_8 (by decide) ?_
  refine lv_icmp_ne (tgt := 25) hx hb dX6_number_9 (by decide) (fun hc9 => ?_) (fun hc9 => ?_)
  · have h := if_f h hc9
    refine lv_iconst (v := (-1 : Int32)) hx hb dX6_number_25 (by decide) ?_
    obtain rfl := Option.some.inj h
    exact ret_i X dX6_number_26 hP hD hS rfl
  · have h := if_t h hc9
    refine lv_aload_n hx hb dX6_number_12 rfl (lv_at hl 0 rfl) ?_
    refine va_get (D := E.1) (ci := 6) (v := .int (v1 7)) (C := RX6) (T := TX6) (N := 26) hx hb hts iX6_number_X6 hown hK hP 0 rfl rfl 7 (by decide) (hts (.fieldLink RX6 144 "LeftIsAgreedOnModel" "at" "I") (List.mem_of_getElem? (i := 2) rfl)) (fun _ h9 => h9) rfl dX6_number_13 ?_
    refine lv_aload_n hx hb dX6_number_16 rfl (lv_at hl 0 rfl) ?_
    refine va_get (D := E.1) (ci := 6) (v := .int (v1 8)) (C := RX6) (T := TX6) (N := 26) hx hb hts iX6_number_X6 hown hK hP 0 rfl rfl 8 (by decide) (hts (.fieldLink RX6 147 "LeftIsAgreedOnModel" "from" "I") (List.mem_of_getElem? (i := 3) rfl)) (fun _ h9 => h9) rfl dX6_number_17 ?_
    refine lv_isub hx hb dX6_number_20 ?_
    refine lv_iconst (v := (2 : Int32)) hx hb dX6_number_21 (by decide) ?_
    refine lv_icmp_le (tgt := 27) hx hb dX6_number_22 (by decide) (fun hc22 => ?_) (fun hc22 => ?_)
    · have h := if_t h hc22
      refine lv_iconst (v := (0 : Int32)) hx hb dX6_number_27 (by decide) ?_
      refine lv_istore_n (lv' := [(3, .int (0 : Int32)), (0, .ref a_t), (1, .int l1), (2, .int l2)]) hx hb dX6_number_28 rfl hl (by decide) rfl (fun ls hl => ?_)
      refine lv_aload_n hx hb dX6_number_29 rfl (lv_at hl 1 rfl) ?_
      refine va_get (D := E.1) (ci := 6) (v := .int (v1 8)) (C := RX6) (T := TX6) (N := 26) hx hb hts iX6_number_X6 hown hK hP 0 rfl rfl 8 (by decide) (hts (.fieldLink RX6 147 "LeftIsAgreedOnModel" "from" "I") (List.mem_of_getElem? (i := 3) rfl)) (fun _ h9 => h9) rfl dX6_number_30 ?_
      refine lv_istore (lv' := [(4, .int (v1 8)), (3, .int (0 : Int32)), (0, .ref a_t), (1, .int l1), (2, .int l2)]) hx hb dX6_number_33 hl (by decide) rfl (fun ls hl => ?_)
      exact w_X6_number_b35 X a_t a_tape a_refused a_now a_kept a_mind a_words a_wCell a_wFaces a_wTurns a_wSign a_wBy a_wFell a_telling a_holds a_sizes a_elements a_moved a_above a_out a_first c_tape res FU v1 l1 l2 (0 : Int32) (v1 8) _ _ _ h hP hD hS (lv_sub hl [2, 3, 4, 1, 0] rfl)
    · have h := if_f h hc22
      refine lv_iconst (v := (-1 : Int32)) hx hb dX6_number_25 (by decide) ?_
      obtain rfl := Option.some.inj h
      exact ret_i X dX6_number_26 hP hD hS rfl
end
set_option maxRecDepth 100000 in
theorem c_X6_number (l : Launch) (E : Env0) (a_t : Nat) (a_tape : Nat) (a_refused : Nat) (a_now : Nat) (a_kept : Nat) (a_mind : Nat) (a_words : Nat) (a_wCell : Nat) (a_wFaces : Nat) (a_wTurns : Nat) (a_wSign : Nat) (a_wBy : Nat) (a_wFell : Nat) (a_telling : Nat) (a_holds : Nat) (a_sizes : Nat) (a_elements : Nat) (a_moved : Nat) (a_above : Nat) (a_out : Nat) (a_first : Nat) (l1 : Int32) (l2 : Int32) (c_t : Nat → Int32) (c_tape : Nat → Int32) (sz : Nat) (res : Int32 × (Nat → Int32)) (h : f_X6_number l1 l2 c_t c_tape = some res) : Met l yX6_number wsX6_number r_X6_number (cPre E [.ref a_t, .int l1, .int l2] (W_X6_number E a_t a_tape a_refused a_now a_kept a_mind a_words a_wCell a_wFaces a_wTurns a_wSign a_wBy a_wFell a_telling a_holds a_sizes a_elements a_moved a_above a_out a_first c_t c_tape) sz) (qI E (va_A (W_X6_number E a_t a_tape a_refused a_now a_kept a_mind a_words a_wCell a_wFaces a_wTurns a_wSign a_wBy a_wFell a_telling a_holds a_sizes a_elements a_moved a_above a_out a_first c_t c_tape) sz) (res.1) (W_X6_number E a_t a_tape a_refused a_now a_kept a_mind a_words a_wCell a_wFaces a_wTurns a_wSign a_wBy a_wFell a_telling a_holds a_sizes a_elements a_moved a_above a_out a_first (res.2) c_tape)) 0 0 (va_A (W_X6_number E a_t a_tape a_refused a_now a_kept a_mind a_words a_wCell a_wFaces a_wTurns a_wSign a_wBy a_wFell a_telling a_holds a_sizes a_elements a_moved a_above a_out a_first c_t c_tape) sz) :=
  met_of (Qc := fun A => qI E A (res.1) (W_X6_number E a_t a_tape a_refused a_now a_kept a_mind a_words a_wCell a_wFaces a_wTurns a_wSign a_wBy a_wFell a_telling a_holds a_sizes a_elements a_moved a_above a_out a_first (res.2) c_tape)) (by decide) rfl (Nat.le_of_ble_eq_true rfl) (fun p e s m args below meth c X hP hD hS ls hl => w_X6_number X a_t a_tape a_refused a_now a_kept a_mind a_words a_wCell a_wFaces a_wTurns a_wSign a_wBy a_wFell a_telling a_holds a_sizes a_elements a_moved a_above a_out a_first c_tape res c_t l1 l2 ls _ _ h hP hD hS hl)
-- ===== X6_cellNumber
abbrev W_X6_cellNumber (E : Env0) (a_t : Nat) (a_now : Nat) (a_tape : Nat) (a_refused : Nat) (a_kept : Nat) (a_mind : Nat) (a_words : Nat) (a_wCell : Nat) (a_wFaces : Nat) (a_wTurns : Nat) (a_wSign : Nat) (a_wBy : Nat) (a_wFell : Nat) (a_telling : Nat) (a_holds : Nat) (a_sizes : Nat) (a_elements : Nat) (a_moved : Nat) (a_above : Nat) (a_out : Nat) (a_first : Nat) (c_t : Nat → Int32) (c_now : Nat → Int32) (c_tape : Nat → Int32) : va_W := [(a_t, .inr (6, [.ref a_refused, .ref a_now, .ref a_kept, .ref a_mind, .int (c_t 4), .ref a_tape, .int (c_t 6), .int (c_t 7), .int (c_t 8), .int (c_t 9), .ref a_words, .ref a_wCell, .ref a_wFaces, .ref a_wTurns, .ref a_wSign, .ref a_wBy, .ref a_wFell, .int (c_t 17), .ref a_telling, .ref a_holds, .ref a_sizes, .ref a_elements, .ref a_moved, .ref a_above, .ref a_out, .ref a_first])), (a_now, .inl (eI E, 97, .inl c_now)), (a_tape, .inl (eI E, 250, .inl c_tape))]
abbrev r_X6_cellNumber : Room := { frames := 4, cells := 0, slots := 0, locals := 90 }
theorem hd_X6_cellNumber : yX6_cellNumber.cls ≠ "java/lang/invoke/MethodHandle" ∧ yX6_cellNumber.cls ≠ "java/lang/invoke/VarHandle" ∧ (parseMethodDescriptor yX6_cellNumber.desc).map (fun d => d.parameters.length) = some 0 := by decide +kernel
theorem hV_X6_cellNumber : yX6_cellNumber.cls = RX6 ∧ yX6_cellNumber.cls ≠ "java/lang/invoke/MethodHandle" ∧ yX6_cellNumber.cls ≠ "java/lang/invoke/VarHandle" ∧ (parseMethodDescriptor yX6_cellNumber.desc).map (fun d => d.parameters.length) = some 0 := ⟨rfl, hd_X6_cellNumber⟩
section
variable {p : Program} {l : Launch} {e : Env} {s : State} {m : MethodId} {args : Array Value} {below : List Frame} {meth : Method} {c : Code} {E : Env0} {A : Nat → Prop}
set_option maxRecDepth 100000 in
set_option maxHeartbeats 4000000 in
theorem w_X6_cellNumber (X : Ctx p m meth c cX6_cellNumber 2 ((some .int)) s args wsX6_cellNumber RX6 E A) (a_t : Nat) (a_now : Nat) (a_tape : Nat) (a_refused : Nat) (a_kept : Nat) (a_mind : Nat) (a_words : Nat) (a_wCell : Nat) (a_wFaces : Nat) (a_wTurns : Nat) (a_wSign : Nat) (a_wBy : Nat) (a_wFell : Nat) (a_telling : Nat) (a_holds : Nat) (a_sizes : Nat) (a_elements : Nat) (a_moved : Nat) (a_above : Nat) (a_out : Nat) (a_first : Nat) (c_now : Nat → Int32) (c_tape : Nat → Int32) (res : Int32 × (Nat → Int32)) (c_t : Nat → Int32) (ls : Array Slot) (H : Heap) (locs : List Loc) (h : f_X6_cellNumber c_t c_now c_tape = some res) (hP : va_P E.1 vwCl (W_X6_cellNumber E a_t a_now a_tape a_refused a_kept a_mind a_words a_wCell a_wFaces a_wTurns a_wSign a_wBy a_wFell a_telling a_holds a_sizes a_elements a_moved a_above a_out a_first c_t c_now c_tape) H) (hD : va_D A (W_X6_cellNumber E a_t a_now a_tape a_refused a_kept a_mind a_words a_wCell a_wFaces a_wTurns a_wSign a_wBy a_wFell a_telling a_holds a_sizes a_elements a_moved a_above a_out a_first c_t c_now c_tape)) (hS : va_S A s.heap H locs) (hl : lv_has ls 2 [(0, .ref a_t)]) : W p l e r_X6_cellNumber s m args below meth c H locs 0 0 (MQ below (qI E A (res.1) (W_X6_cellNumber E a_t a_now a_tape a_refused a_kept a_mind a_words a_wCell a_wFaces a_wTurns a_wSign a_wBy a_wFell a_telling a_holds a_sizes a_elements a_moved a_above a_out a_first (res.2) c_now c_tape)) args s 0 0 A) (F0 m 0 ls []) := by
  obtain ⟨hx, hb, hml, hr, hlk, hown, hts, hG, hA⟩ := id X
  have hK := hG.1
  have hN := hG.2.1
  unfold f_X6_cellNumber at h
  refine lv_aload_n hx hb dX6_cellNumber_0 rfl (lv_at hl 0 rfl) ?_
  refine lv_iconst (v := (0 : Int32)) hx hb dX6_cellNumber_1 (by decide) ?_
  refine lv_bipush (v := (99 : Int32)) hx hb dX6_cellNumber_2 (by decide) ?_
  obtain ⟨v1, hv1, h⟩ := bind_of h
  refine after_i X (run_V X (c_X6_number l E a_t a_tape a_refused a_now a_kept a_mind a_words a_wCell a_wFaces a_wTurns a_wSign a_wBy a_wFell a_telling a_holds a_sizes a_elements a_moved a_above a_out a_first (0 : Int32) (99 : Int32) c_t c_tape H.size v1 hv1) (cwV 2 hts gX6_cellNumber_X6_number rfl rfl rfl hV_X6_number ⟨(Nat.le_of_ble_eq_true rfl), (Nat.le_of_ble_eq_true rfl)⟩) hP hD hS [0, 2] rfl rfl hl.1 (ci := 6) rfl rfl rfl (rest := []) rfl rfl (Nat.le_of_ble_eq_true rfl) dX6_cellNumber_4) hP hD hS [0, 2] [1] [1, 0, 2] rfl rfl rfl (by decide) rfl (ws1 := (W_X6_cellNumber E a_t a_now a_tape a_refused a_kept a_mind a_words a_wCell a_wFaces a_wTurns a_wSign a_wBy a_wFell a_telling a_holds a_sizes a_elements a_moved a_above a_out a_first (v1.2) c_now c_tape)) rfl (fun H locs hP hD hS => ?_)
  refine lv_istore_n (lv' := [(1, .int (v1.1)), (0, .ref a_t)]) hx hb dX6_cellNumber_7 rfl hl (by decide) rfl (fun ls hl => ?_)
  refine lv_iload_n hx hb dX6_cellNumber_8 rfl (lv_at hl 0 rfl) ?_
  refine lv_iconst (v := (-1 : Int32)) hx hb dX6_cellNumber_9 (by decide) ?_
  refine lv_icmp_eq (tgt := 21) hx hb dX6_cellNumber_10 (by decide) (fun hc10 => ?_) (fun hc10 => ?_)
  · have h := if_t h hc10
    refine lv_iconst (v := (-1 : Int32)) hx hb dX6_cellNumber_21 (by decide) ?_
    refine lv_goto (tgt := 26) hx hb dX6_cellNumber_22 (by decide) ?_
    obtain rfl := Option.some.inj h
    exact ret_i X dX6_cellNumber_26 hP hD hS rfl
  · have h := if_f h hc10
    refine lv_aload_n hx hb dX6_cellNumber_13 rfl (lv_at hl 1 rfl) ?_
    refine lv_iload_n hx hb dX6_cellNumber_14 rfl (lv_at hl 0 rfl) ?_
    obtain ⟨v2, hv2, h⟩ := bind_of h
    refine after_i X (run_V X (c_X6_isCell l E a_t a_now a_refused a_kept a_mind a_tape a_words a_wCell a_wFaces a_wTurns a_wSign a_wBy a_wFell a_telling a_holds a_sizes a_elements a_moved a_above a_out a_first (v1.1) (v1.2) c_now H.size v2 hv2) (cwV 1 hts gX6_cellNumber_X6_isCell rfl rfl rfl hV_X6_isCell ⟨(Nat.le_of_ble_eq_true rfl), (Nat.le_of_ble_eq_true rfl)⟩) hP hD hS [0, 1] rfl rfl hl.1 (ci := 6) rfl rfl rfl (rest := []) rfl rfl (Nat.le_of_ble_eq_true rfl) dX6_cellNumber_15) hP hD hS [0, 1] [2] [1, 2, 0] rfl rfl rfl (by decide) rfl (ws1 := (W_X6_cellNumber E a_t a_now a_tape a_refused a_kept a_mind a_words a_wCell a_wFaces a_wTurns a_wSign a_wBy a_wFell a_telling a_holds a_sizes a_elements a_moved a_above a_out a_first (v1.2) c_now c_tape)) rfl (fun H locs hP hD hS => ?_)
    refine lv_if_ne (tgt := 25) hx hb dX6_cellNumber_18 (by decide) (fun hc18 => ?_) (fun hc18 => ?_)
    · have h := if_f h hc18
      refine lv_iload_n hx hb dX6_cellNumber_25 rfl (lv_at hl 0 rfl) ?_
      obtain rfl := Option.some.inj h
      exact ret_i X dX6_cellNumber_26 hP hD hS rfl
    · have h := if_t h hc18
      refine lv_iconst (v := (-1 : Int32)) hx hb dX6_cellNumber_21 (by decide) ?_
      refine lv_goto (tgt := 26) hx hb dX6_cellNumber_22 (by decide) ?_
      obtain rfl := Option.some.inj h
      exact ret_i X dX6_cellNumber_26 hP hD hS rfl
end
set_option maxRecDepth 100000 in
theorem c_X6_cellNumber (l : Launch) (E : Env0) (a_t : Nat) (a_now : Nat) (a_tape : Nat) (a_refused : Nat) (a_kept : Nat) (a_mind : Nat) (a_words : Nat) (a_wCell : Nat) (a_wFaces : Nat) (a_wTurns : Nat) (a_wSign : Nat) (a_wBy : Nat) (a_wFell : Nat) (a_telling : Nat) (a_holds : Nat) (a_sizes : Nat) (a_elements : Nat) (a_moved : Nat) (a_above : Nat) (a_out : Nat) (a_first : Nat) (c_t : Nat → Int32) (c_now : Nat → Int32) (c_tape : Nat → Int32) (sz : Nat) (res : Int32 × (Nat → Int32)) (h : f_X6_cellNumber c_t c_now c_tape = some res) : Met l yX6_cellNumber wsX6_cellNumber r_X6_cellNumber (cPre E [.ref a_t] (W_X6_cellNumber E a_t a_now a_tape a_refused a_kept a_mind a_words a_wCell a_wFaces a_wTurns a_wSign a_wBy a_wFell a_telling a_holds a_sizes a_elements a_moved a_above a_out a_first c_t c_now c_tape) sz) (qI E (va_A (W_X6_cellNumber E a_t a_now a_tape a_refused a_kept a_mind a_words a_wCell a_wFaces a_wTurns a_wSign a_wBy a_wFell a_telling a_holds a_sizes a_elements a_moved a_above a_out a_first c_t c_now c_tape) sz) (res.1) (W_X6_cellNumber E a_t a_now a_tape a_refused a_kept a_mind a_words a_wCell a_wFaces a_wTurns a_wSign a_wBy a_wFell a_telling a_holds a_sizes a_elements a_moved a_above a_out a_first (res.2) c_now c_tape)) 0 0 (va_A (W_X6_cellNumber E a_t a_now a_tape a_refused a_kept a_mind a_words a_wCell a_wFaces a_wTurns a_wSign a_wBy a_wFell a_telling a_holds a_sizes a_elements a_moved a_above a_out a_first c_t c_now c_tape) sz) :=
  met_of (Qc := fun A => qI E A (res.1) (W_X6_cellNumber E a_t a_now a_tape a_refused a_kept a_mind a_words a_wCell a_wFaces a_wTurns a_wSign a_wBy a_wFell a_telling a_holds a_sizes a_elements a_moved a_above a_out a_first (res.2) c_now c_tape)) (by decide) rfl (Nat.le_of_ble_eq_true rfl) (fun p e s m args below meth c X hP hD hS ls hl => w_X6_cellNumber X a_t a_now a_tape a_refused a_kept a_mind a_words a_wCell a_wFaces a_wTurns a_wSign a_wBy a_wFell a_telling a_holds a_sizes a_elements a_moved a_above a_out a_first c_now c_tape res c_t ls _ _ h hP hD hS hl)
-- ===== X6_isPersonStatement
abbrev W_X6_isPersonStatement (E : Env0) (a_t : Nat) (a_now : Nat) (a_tape : Nat) (a_refused : Nat) (a_kept : Nat) (a_mind : Nat) (a_words : Nat) (a_wCell : Nat) (a_wFaces : Nat) (a_wTurns : Nat) (a_wSign : Nat) (a_wBy : Nat) (a_wFell : Nat) (a_telling : Nat) (a_holds : Nat) (a_sizes : Nat) (a_elements : Nat) (a_moved : Nat) (a_above : Nat) (a_out : Nat) (a_first : Nat) (c_t : Nat → Int32) (c_now : Nat → Int32) (c_tape : Nat → Int32) : va_W := [(a_t, .inr (6, [.ref a_refused, .ref a_now, .ref a_kept, .ref a_mind, .int (c_t 4), .ref a_tape, .int (c_t 6), .int (c_t 7), .int (c_t 8), .int (c_t 9), .ref a_words, .ref a_wCell, .ref a_wFaces, .ref a_wTurns, .ref a_wSign, .ref a_wBy, .ref a_wFell, .int (c_t 17), .ref a_telling, .ref a_holds, .ref a_sizes, .ref a_elements, .ref a_moved, .ref a_above, .ref a_out, .ref a_first])), (a_now, .inl (eI E, 97, .inl c_now)), (a_tape, .inl (eI E, 250, .inl c_tape))]
abbrev r_X6_isPersonStatement : Room := { frames := 5, cells := 0, slots := 0, locals := 111 }
theorem hd_X6_isPersonStatement : yX6_isPersonStatement.cls ≠ "java/lang/invoke/MethodHandle" ∧ yX6_isPersonStatement.cls ≠ "java/lang/invoke/VarHandle" ∧ (parseMethodDescriptor yX6_isPersonStatement.desc).map (fun d => d.parameters.length) = some 0 := by decide +kernel
theorem hV_X6_isPersonStatement : yX6_isPersonStatement.cls = RX6 ∧ yX6_isPersonStatement.cls ≠ "java/lang/invoke/MethodHandle" ∧ yX6_isPersonStatement.cls ≠ "java/lang/invoke/VarHandle" ∧ (parseMethodDescriptor yX6_isPersonStatement.desc).map (fun d => d.parameters.length) = some 0 := ⟨rfl, hd_X6_isPersonStatement⟩
section
variable {p : Program} {l : Launch} {e : Env} {s : State} {m : MethodId} {args : Array Value} {below : List Frame} {meth : Method} {c : Code} {E : Env0} {A : Nat → Prop}
set_option maxRecDepth 100000 in
set_option maxHeartbeats 4000000 in
theorem w_X6_isPersonStatement_b61 (X : Ctx p m meth c cX6_isPersonStatement 5 ((some .boolean)) s args wsX6_isPersonStatement RX6 E A) (a_t : Nat) (a_now : Nat) (a_tape : Nat) (a_refused : Nat) (a_kept : Nat) (a_mind : Nat) (a_words : Nat) (a_wCell : Nat) (a_wFaces : Nat) (a_wTurns : Nat) (a_wSign : Nat) (a_wBy : Nat) (a_wFell : Nat) (a_telling : Nat) (a_holds : Nat) (a_sizes : Nat) (a_elements : Nat) (a_moved : Nat) (a_above : Nat) (a_out : Nat) (a_first : Nat) (c_tape : Nat → Int32) (res : Int32 × (Nat → Int32) × (Nat → Int32)) (c_t : Nat → Int32) (c_now : Nat → Int32) (l1 : Int32) (l2 : Int32) (l3 : Int32) (s0 : Int32) (ls : Array Slot) (H : Heap) (locs : List Loc) (h : f_X6_isPersonStatement_b61 c_tape c_t c_now l1 l2 l3 s0 = some res) (hP : va_P E.1 vwCl (W_X6_isPersonStatement E a_t a_now a_tape a_refused a_kept a_mind a_words a_wCell a_wFaces a_wTurns a_wSign a_wBy a_wFell a_telling a_holds a_sizes a_elements a_moved a_above a_out a_first c_t c_now c_tape) H) (hD : va_D A (W_X6_isPersonStatement E a_t a_now a_tape a_refused a_kept a_mind a_words a_wCell a_wFaces a_wTurns a_wSign a_wBy a_wFell a_telling a_holds a_sizes a_elements a_moved a_above a_out a_first c_t c_now c_tape)) (hS : va_S A s.heap H locs) (hl : lv_has ls 5 [(0, .ref a_t), (1, .int l1), (2, .int l2), (3, .int l3)]) : W p l e r_X6_isPersonStatement s m args below meth c H locs 0 0 (MQ below (qI E A (res.1) (W_X6_isPersonStatement E a_t a_now a_tape a_refused a_kept a_mind a_words a_wCell a_wFaces a_wTurns a_wSign a_wBy a_wFell a_telling a_holds a_sizes a_elements a_moved a_above a_out a_first (res.2.1) (res.2.2) c_tape)) args s 0 0 A) (F0 m 61 ls [.int s0]) := by
  obtain ⟨hx, hb, hml, hr, hlk, hown, hts, hG, hA⟩ := id X
  have hK := hG.1
  have hN := hG.2.1
  unfold f_X6_isPersonStatement_b61 at h
  refine lv_istore (lv' := [(4, .int s0), (0, .ref a_t), (1, .int l1), (2, .int l2), (3, .int l3)]) hx hb dX6_isPersonStatement_61 hl (by decide) rfl (fun ls hl => ?_)
  refine lv_iload hx hb dX6_isPersonStatement_63 (lv_at hl 0 rfl) ?_
  refine lv_iconst (v := (-1 : Int32)) hx hb dX6_isPersonStatement_65 (by decide) ?_
  refine lv_icmp_ne (tgt := 71) hx hb dX6_isPersonStatement_66 (by decide) (fun hc66 => ?_) (fun hc66 => ?_)
  · have h := if_f h hc66
    refine lv_aload_n hx hb dX6_isPersonStatement_71 rfl (lv_at hl 1 rfl) ?_
    refine lv_iload_n hx hb dX6_isPersonStatement_72 rfl (lv_at hl 2 rfl) ?_
    refine lv_iload_n hx hb dX6_isPersonStatement_73 rfl (lv_at hl 3 rfl) ?_
    refine lv_iload_n hx hb dX6_isPersonStatement_74 rfl (lv_at hl 4 rfl) ?_
    refine lv_iload hx hb dX6_isPersonStatement_75 (lv_at hl 0 rfl) ?_
    obtain ⟨v1, hv1, h⟩ := bind_of h
    refine after_i X (run_V X (c_X6_add l E a_t a_now a_refused a_kept a_mind a_tape a_words a_wCell a_wFaces a_wTurns a_wSign a_wBy a_wFell a_telling a_holds a_sizes a_elements a_moved a_above a_out a_first l1 l2 l3 s0 c_t c_now H.size v1 hv1) (cwV 4 hts gX6_isPersonStatement_X6_add rfl rfl rfl hV_X6_add ⟨(Nat.le_of_ble_eq_true rfl), (Nat.le_of_ble_eq_true rfl)⟩) hP hD hS [0, 1] rfl rfl hl.1 (ci := 6) rfl rfl rfl (rest := []) rfl rfl (Nat.le_of_ble_eq_true rfl) dX6_isPersonStatement_77) hP hD hS [0, 1] [2] [1, 2, 0] rfl rfl rfl (by decide) rfl (ws1 := (W_X6_isPersonStatement E a_t a_now a_tape a_refused a_kept a_mind a_words a_wCell a_wFaces a_wTurns a_wSign a_wBy a_wFell a_telling a_holds a_sizes a_elements a_moved a_above a_out a_first c_t (v1.2) c_tape)) rfl (fun H locs hP hD hS => ?_)
    refine lv_pop hx hb dX6_isPersonStatement_80 rfl ?_
    refine lv_iconst (v := (1 : Int32)) hx hb dX6_isPersonStatement_81 (by decide) ?_
    obtain rfl := Option.some.inj h
    exact ret_z X dX6_isPersonStatement_82 (by decide) hP hD hS rfl
  · have h := if_t h hc66
    refine lv_iconst (v := (0 : Int32)) hx hb dX6_isPersonStatement_69 (by decide) ?_
    obtain rfl := Option.some.inj h
    exact ret_z X dX6_isPersonStatement_70 (by decide) hP hD hS rfl
set_option maxRecDepth 100000 in
set_option maxHeartbeats 4000000 in
theorem w_X6_isPersonStatement_b51 (X : Ctx p m meth c cX6_isPersonStatement 5 ((some .boolean)) s args wsX6_isPersonStatement RX6 E A) (a_t : Nat) (a_now : Nat) (a_tape : Nat) (a_refused : Nat) (a_kept : Nat) (a_mind : Nat) (a_words : Nat) (a_wCell : Nat) (a_wFaces : Nat) (a_wTurns : Nat) (a_wSign : Nat) (a_wBy : Nat) (a_wFell : Nat) (a_telling : Nat) (a_holds : Nat) (a_sizes : Nat) (a_elements : Nat) (a_moved : Nat) (a_above : Nat) (a_out : Nat) (a_first : Nat) (c_tape : Nat → Int32) (res : Int32 × (Nat → Int32) × (Nat → Int32)) (c_t : Nat → Int32) (c_now : Nat → Int32) (l1 : Int32) (l2 : Int32) (l3 : Int32) (ls : Array Slot) (H : Heap) (locs : List Loc) (h : f_X6_isPersonStatement_b51 c_tape c_t c_now l1 l2 l3 = some res) (hP : va_P E.1 vwCl (W_X6_isPersonStatement E a_t a_now a_tape a_refused a_kept a_mind a_words a_wCell a_wFaces a_wTurns a_wSign a_wBy a_wFell a_telling a_holds a_sizes a_elements a_moved a_above a_out a_first c_t c_now c_tape) H) (hD : va_D A (W_X6_isPersonStatement E a_t a_now a_tape a_refused a_kept a_mind a_words a_wCell a_wFaces a_wTurns a_wSign a_wBy a_wFell a_telling a_holds a_sizes a_elements a_moved a_above a_out a_first c_t c_now c_tape)) (hS : va_S A s.heap H locs) (hl : lv_has ls 5 [(0, .ref a_t), (1, .int l1), (2, .int l2), (3, .int l3)]) : W p l e r_X6_isPersonStatement s m args below meth c H locs 0 0 (MQ below (qI E A (res.1) (W_X6_isPersonStatement E a_t a_now a_tape a_refused a_kept a_mind a_words a_wCell a_wFaces a_wTurns a_wSign a_wBy a_wFell a_telling a_holds a_sizes a_elements a_moved a_above a_out a_first (res.2.1) (res.2.2) c_tape)) args s 0 0 A) (F0 m 51 ls []) := by
  obtain ⟨hx, hb, hml, hr, hlk, hown, hts, hG, hA⟩ := id X
  have hK := hG.1
  have hN := hG.2.1
  unfold f_X6_isPersonStatement_b51 at h
  refine lv_iconst (v := (-1 : Int32)) hx hb dX6_isPersonStatement_51 (by decide) ?_
  refine lv_goto (tgt := 61) hx hb dX6_isPersonStatement_52 (by decide) ?_
  exact w_X6_isPersonStatement_b61 X a_t a_now a_tape a_refused a_kept a_mind a_words a_wCell a_wFaces a_wTurns a_wSign a_wBy a_wFell a_telling a_holds a_sizes a_elements a_moved a_above a_out a_first c_tape res c_t c_now l1 l2 l3 (-1 : Int32) _ _ _ h hP hD hS (lv_sub hl [0, 1, 2, 3] rfl)
set_option maxRecDepth 100000 in
set_option maxHeartbeats 4000000 in
theorem w_X6_isPersonStatement_b37 (X : Ctx p m meth c cX6_isPersonStatement 5 ((some .boolean)) s args wsX6_isPersonStatement RX6 E A) (a_t : Nat) (a_now : Nat) (a_tape : Nat) (a_refused : Nat) (a_kept : Nat) (a_mind : Nat) (a_words : Nat) (a_wCell : Nat) (a_wFaces : Nat) (a_wTurns : Nat) (a_wSign : Nat) (a_wBy : Nat) (a_wFell : Nat) (a_telling : Nat) (a_holds : Nat) (a_sizes : Nat) (a_elements : Nat) (a_moved : Nat) (a_above : Nat) (a_out : Nat) (a_first : Nat) (c_tape : Nat → Int32) (res : Int32 × (Nat → Int32) × (Nat → Int32)) (c_t : Nat → Int32) (c_now : Nat → Int32) (l1 : Int32) (l2 : Int32) (s0 : Int32) (ls : Array Slot) (H : Heap) (locs : List Loc) (h : f_X6_isPersonStatement_b37 c_tape c_t c_now l1 l2 s0 = some res) (hP : va_P E.1 vwCl (W_X6_isPersonStatement E a_t a_now a_tape a_refused a_kept a_mind a_words a_wCell a_wFaces a_wTurns a_wSign a_wBy a_wFell a_telling a_holds a_sizes a_elements a_moved a_above a_out a_first c_t c_now c_tape) H) (hD : va_D A (W_X6_isPersonStatement E a_t a_now a_tape a_refused a_kept a_mind a_words a_wCell a_wFaces a_wTurns a_wSign a_wBy a_wFell a_telling a_holds a_sizes a_elements a_moved a_above a_out a_first c_t c_now c_tape)) (hS : va_S A s.heap H locs) (hl : lv_has ls 5 [(0, .ref a_t), (1, .int l1), (2, .int l2)]) : W p l e r_X6_isPersonStatement s m args below meth c H locs 0 0 (MQ below (qI E A (res.1) (W_X6_isPersonStatement E a_t a_now a_tape a_refused a_kept a_mind a_words a_wCell a_wFaces a_wTurns a_wSign a_wBy a_wFell a_telling a_holds a_sizes a_elements a_moved a_above a_out a_first (res.2.1) (res.2.2) c_tape)) args s 0 0 A) (F0 m 37 ls [.int s0]) := by
  obtain ⟨hx, hb, hml, hr, hlk, hown, hts, hG, hA⟩ := id X
  have hK := hG.1
  have hN := hG.2.1
  unfold f_X6_isPersonStatement_b37 at h
  refine lv_istore_n (lv' := [(3, .int s0), (0, .ref a_t), (1, .int l1), (2, .int l2)]) hx hb dX6_isPersonStatement_37 rfl hl (by decide) rfl (fun ls hl => ?_)
  refine lv_iload_n hx hb dX6_isPersonStatement_38 rfl (lv_at hl 0 rfl) ?_
  refine lv_iconst (v := (-1 : Int32)) hx hb dX6_isPersonStatement_39 (by decide) ?_
  refine lv_icmp_eq (tgt := 51) hx hb dX6_isPersonStatement_40 (by decide) (fun hc40 => ?_) (fun hc40 => ?_)
  · have h := if_t h hc40
    exact w_X6_isPersonStatement_b51 X a_t a_now a_tape a_refused a_kept a_mind a_words a_wCell a_wFaces a_wTurns a_wSign a_wBy a_wFell a_telling a_holds a_sizes a_elements a_moved a_above a_out a_first c_tape res c_t c_now l1 l2 s0 _ _ _ h hP hD hS (lv_sub hl [1, 2, 3, 0] rfl)
  · have h := if_f h hc40
    refine lv_aload_n hx hb dX6_isPersonStatement_43 rfl (lv_at hl 1 rfl) ?_
    refine lv_iload_n hx hb dX6_isPersonStatement_44 rfl (lv_at hl 0 rfl) ?_
    obtain ⟨v1, hv1, h⟩ := bind_of h
    refine after_i X (run_V X (c_X6_hasPond l E a_t a_now a_refused a_kept a_mind a_tape a_words a_wCell a_wFaces a_wTurns a_wSign a_wBy a_wFell a_telling a_holds a_sizes a_elements a_moved a_above a_out a_first s0 c_t c_now H.size v1 hv1) (cwV 1 hts gX6_isPersonStatement_X6_hasPond rfl rfl rfl hV_X6_hasPond ⟨(Nat.le_of_ble_eq_true rfl), (Nat.le_of_ble_eq_true rfl)⟩) hP hD hS [0, 1] rfl rfl hl.1 (ci := 6) rfl rfl rfl (rest := []) rfl rfl (Nat.le_of_ble_eq_true rfl) dX6_isPersonStatement_45) hP hD hS [0, 1] [2] [1, 2, 0] rfl rfl rfl (by decide) rfl (ws1 := (W_X6_isPersonStatement E a_t a_now a_tape a_refused a_kept a_mind a_words a_wCell a_wFaces a_wTurns a_wSign a_wBy a_wFell a_telling a_holds a_sizes a_elements a_moved a_above a_out a_first c_t c_now c_tape)) rfl (fun H locs hP hD hS => ?_)
    refine lv_if_eq (tgt := 55) hx hb dX6_isPersonStatement_48 (by decide) (fun hc48 => ?_) (fun hc48 => ?_)
    · have h := if_t h hc48
      refine lv_aload_n hx hb dX6_isPersonStatement_55 rfl (lv_at hl 1 rfl) ?_
      refine lv_iconst (v := (0 : Int32)) hx hb dX6_isPersonStatement_56 (by decide) ?_
      refine lv_iconst (v := (3 : Int32)) hx hb dX6_isPersonStatement_57 (by decide) ?_
      obtain ⟨v2, hv2, h⟩ := bind_of h
      refine after_i X (run_V X (c_X6_number l E a_t a_tape a_refused a_now a_kept a_mind a_words a_wCell a_wFaces a_wTurns a_wSign a_wBy a_wFell a_telling a_holds a_sizes a_elements a_moved a_above a_out a_first (0 : Int32) (3 : Int32) c_t c_tape H.size v2 hv2) (cwV 2 hts gX6_isPersonStatement_X6_number rfl rfl rfl hV_X6_number ⟨(Nat.le_of_ble_eq_true rfl), (Nat.le_of_ble_eq_true rfl)⟩) hP hD hS [0, 2] rfl rfl hl.1 (ci := 6) rfl rfl rfl (rest := []) rfl rfl (Nat.le_of_ble_eq_true rfl) dX6_isPersonStatement_58) hP hD hS [0, 2] [1] [1, 0, 2] rfl rfl rfl (by decide) rfl (ws1 := (W_X6_isPersonStatement E a_t a_now a_tape a_refused a_kept a_mind a_words a_wCell a_wFaces a_wTurns a_wSign a_wBy a_wFell a_telling a_holds a_sizes a_elements a_moved a_above a_out a_first (v2.2) c_now c_tape)) rfl (fun H locs hP hD hS => ?_)
      exact w_X6_isPersonStatement_b61 X a_t a_now a_tape a_refused a_kept a_mind a_words a_wCell a_wFaces a_wTurns a_wSign a_wBy a_wFell a_telling a_holds a_sizes a_elements a_moved a_above a_out a_first c_tape res (v2.2) c_now l1 l2 s0 (v2.1) _ _ _ h hP hD hS (lv_sub hl [1, 2, 3, 0] rfl)
    · have h := if_f h hc48
      exact w_X6_isPersonStatement_b51 X a_t a_now a_tape a_refused a_kept a_mind a_words a_wCell a_wFaces a_wTurns a_wSign a_wBy a_wFell a_telling a_holds a_sizes a_elements a_moved a_above a_out a_first c_tape res c_t c_now l1 l2 s0 _ _ _ h hP hD hS (lv_sub hl [1, 2, 3, 0] rfl)
set_option maxRecDepth 100000 in
set_option maxHeartbeats 4000000 in
theorem w_X6_isPersonStatement_b23 (X : Ctx p m meth c cX6_isPersonStatement 5 ((some .boolean)) s args wsX6_isPersonStatement RX6 E A) (a_t : Nat) (a_now : Nat) (a_tape : Nat) (a_refused : Nat) (a_kept : Nat) (a_mind : Nat) (a_words : Nat) (a_wCell : Nat) (a_wFaces : Nat) (a_wTurns : Nat) (a_wSign : Nat) (a_wBy : Nat) (a_wFell : Nat) (a_telling : Nat) (a_holds : Nat) (a_sizes : Nat) (a_elements : Nat) (a_moved : Nat) (a_above : Nat) (a_out : Nat) (a_first : Nat) (c_tape : Nat → Int32) (res : Int32 × (Nat → Int32) × (Nat → Int32)) (c_t : Nat → Int32) (c_now : Nat → Int32) (l1 : Int32) (s0 : Int32) (ls : Array Slot) (H : Heap) (locs : List Loc) (h : f_X6_isPersonStatement_b23 c_tape c_t c_now l1 s0 = some res) (hP : va_P E.1 vwCl (W_X6_isPersonStatement E a_t a_now a_tape a_refused a_kept a_mind a_words a_wCell a_wFaces a_wTurns a_wSign a_wBy a_wFell a_telling a_holds a_sizes a_elements a_moved a_above a_out a_first c_t c_now c_tape) H) (hD : va_D A (W_X6_isPersonStatement E a_t a_now a_tape a_refused a_kept a_mind a_words a_wCell a_wFaces a_wTurns a_wSign a_wBy a_wFell a_telling a_holds a_sizes a_elements a_moved a_above a_out a_first c_t c_now c_tape)) (hS : va_S A s.heap H locs) (hl : lv_has ls 5 [(0, .ref a_t), (1, .int l1)]) : W p l e r_X6_isPersonStatement s m args below meth c H locs 0 0 (MQ below (qI E A (res.1) (W_X6_isPersonStatement E a_t a_now a_tape a_refused a_kept a_mind a_words a_wCell a_wFaces a_wTurns a_wSign a_wBy a_wFell a_telling a_holds a_sizes a_elements a_moved a_above a_out a_first (res.2.1) (res.2.2) c_tape)) args s 0 0 A) (F0 m 23 ls [.int s0]) := by
  obtain ⟨hx, hb, hml, hr, hlk, hown, hts, hG, hA⟩ := id X
  have hK := hG.1
  have hN := hG.2.1
  unfold f_X6_isPersonStatement_b23 at h
  refine lv_istore_n (lv' := [(2, .int s0), (0, .ref a_t), (1, .int l1)]) hx hb dX6_isPersonStatement_23 rfl hl (by decide) rfl (fun ls hl => ?_)
  refine lv_iload_n hx hb dX6_isPersonStatement_24 rfl (lv_at hl 0 rfl) ?_
  refine lv_iconst (v := (-1 : Int32)) hx hb dX6_isPersonStatement_25 (by decide) ?_
  refine lv_icmp_ne (tgt := 33) hx hb dX6_isPersonStatement_26 (by decide) (fun hc26 => ?_) (fun hc26 => ?_)
  · have h := if_f h hc26
    refine lv_aload_n hx hb dX6_isPersonStatement_33 rfl (lv_at hl 1 rfl) ?_
    obtain ⟨v1, hv1, h⟩ := bind_of h
    refine after_i X (run_V X (c_X6_cellNumber l E a_t a_now a_tape a_refused a_kept a_mind a_words a_wCell a_wFaces a_wTurns a_wSign a_wBy a_wFell a_telling a_holds a_sizes a_elements a_moved a_above a_out a_first c_t c_now c_tape H.size v1 hv1) (cwV 0 hts gX6_isPersonStatement_X6_cellNumber rfl rfl rfl hV_X6_cellNumber ⟨(Nat.le_of_ble_eq_true rfl), (Nat.le_of_ble_eq_true rfl)⟩) hP hD hS [0, 1, 2] rfl rfl hl.1 (ci := 6) rfl rfl rfl (rest := []) rfl rfl (Nat.le_of_ble_eq_true rfl) dX6_isPersonStatement_34) hP hD hS [0, 1, 2] [] [0, 1, 2] rfl rfl rfl (by decide) rfl (ws1 := (W_X6_isPersonStatement E a_t a_now a_tape a_refused a_kept a_mind a_words a_wCell a_wFaces a_wTurns a_wSign a_wBy a_wFell a_telling a_holds a_sizes a_elements a_moved a_above a_out a_first (v1.2) c_now c_tape)) rfl (fun H locs hP hD hS => ?_)
    exact w_X6_isPersonStatement_b37 X a_t a_now a_tape a_refused a_kept a_mind a_words a_wCell a_wFaces a_wTurns a_wSign a_wBy a_wFell a_telling a_holds a_sizes a_elements a_moved a_above a_out a_first c_tape res (v1.2) c_now l1 s0 (v1.1) _ _ _ h hP hD hS (lv_sub hl [1, 2, 0] rfl)
  · have h := if_t h hc26
    refine lv_iconst (v := (-1 : Int32)) hx hb dX6_isPersonStatement_29 (by decide) ?_
    refine lv_goto (tgt := 37) hx hb dX6_isPersonStatement_30 (by decide) ?_
    exact w_X6_isPersonStatement_b37 X a_t a_now a_tape a_refused a_kept a_mind a_words a_wCell a_wFaces a_wTurns a_wSign a_wBy a_wFell a_telling a_holds a_sizes a_elements a_moved a_above a_out a_first c_tape res c_t c_now l1 s0 (-1 : Int32) _ _ _ h hP hD hS (lv_sub hl [1, 2, 0] rfl)
set_option maxRecDepth 100000 in
set_option maxHeartbeats 4000000 in
theorem w_X6_isPersonStatement (X : Ctx p m meth c cX6_isPersonStatement 5 ((some .boolean)) s args wsX6_isPersonStatement RX6 E A) (a_t : Nat) (a_now : Nat) (a_tape : Nat) (a_refused : Nat) (a_kept : Nat) (a_mind : Nat) (a_words : Nat) (a_wCell : Nat) (a_wFaces : Nat) (a_wTurns : Nat) (a_wSign : Nat) (a_wBy : Nat) (a_wFell : Nat) (a_telling : Nat) (a_holds : Nat) (a_sizes : Nat) (a_elements : Nat) (a_moved : Nat) (a_above : Nat) (a_out : Nat) (a_first : Nat) (c_tape : Nat → Int32) (res : Int32 × (Nat → Int32) × (Nat → Int32)) (c_t : Nat → Int32) (c_now : Nat → Int32) (ls : Array Slot) (H : Heap) (locs : List Loc) (h : f_X6_isPersonStatement c_t c_now c_tape = some res) (hP : va_P E.1 vwCl (W_X6_isPersonStatement E a_t a_now a_tape a_refused a_kept a_mind a_words a_wCell a_wFaces a_wTurns a_wSign a_wBy a_wFell a_telling a_holds a_sizes a_elements a_moved a_above a_out a_first c_t c_now c_tape) H) (hD : va_D A (W_X6_isPersonStatement E a_t a_now a_tape a_refused a_kept a_mind a_words a_wCell a_wFaces a_wTurns a_wSign a_wBy a_wFell a_telling a_holds a_sizes a_elements a_moved a_above a_out a_first c_t c_now c_tape)) (hS : va_S A s.heap H locs) (hl : lv_has ls 5 [(0, .ref a_t)]) : W p l e r_X6_isPersonStatement s m args below meth c H locs 0 0 (MQ below (qI E A (res.1) (W_X6_isPersonStatement E a_t a_now a_tape a_refused a_kept a_mind a_words a_wCell a_wFaces a_wTurns a_wSign a_wBy a_wFell a_telling a_holds a_sizes a_elements a_moved a_above a_out a_first (res.2.1) (res.2.2) c_tape)) args s 0 0 A) (F0 m 0 ls []) := by
  obtain ⟨hx, hb, hml, hr, hlk, hown, hts, hG, hA⟩ := id X
  have hK := hG.1
  have hN := hG.2.1
  unfold f_X6_isPersonStatement at h
  refine lv_aload_n hx hb dX6_isPersonStatement_0 rfl (lv_at hl 0 rfl) ?_
  refine lv_iconst (v := (0 : Int32)) hx hb dX6_isPersonStatement_1 (by decide) ?_
  refine lv_iconst (v := (5 : Int32)) hx hb dX6_isPersonStatement_2 (by decide) ?_
  obtain ⟨v1, hv1, h⟩ := bind_of h
  refine after_i X (run_V X (c_X6_number l E a_t a_tape a_refused a_now a_kept a_mind a_words a_wCell a_wFaces a_wTurns a_wSign a_wBy a_wFell a_telling a_holds a_sizes a_elements a_moved a_above a_out a_first (0 : Int32) (5 : Int32) c_t c_tape H.size v1 hv1) (cwV 2 hts gX6_isPersonStatement_X6_number rfl rfl rfl hV_X6_number ⟨(Nat.le_of_ble_eq_true rfl), (Nat.le_of_ble_eq_true rfl)⟩) hP hD hS [0, 2] rfl rfl hl.1 (ci := 6) rfl rfl rfl (rest := []) rfl rfl (Nat.le_of_ble_eq_true rfl) dX6_isPersonStatement_3) hP hD hS [0, 2] [1] [1, 0, 2] rfl rfl rfl (by decide) rfl (ws1 := (W_X6_isPersonStatement E a_t a_now a_tape a_refused a_kept a_mind a_words a_wCell a_wFaces a_wTurns a_wSign a_wBy a_wFell a_telling a_holds a_sizes a_elements a_moved a_above a_out a_first (v1.2) c_now c_tape)) rfl (fun H locs hP hD hS => ?_)
  refine lv_istore_n (lv' := [(1, .int (v1.1)), (0, .ref a_t)]) hx hb dX6_isPersonStatement_6 rfl hl (by decide) rfl (fun ls hl => ?_)
  refine lv_iload_n hx hb dX6_isPersonStatement_7 rfl (lv_at hl 0 rfl) ?_
  refine lv_iconst (v := (-1 : Int32)) hx hb dX6_isPersonStatement_8 (by decide) ?_
  refine lv_icmp_ne (tgt := 16) hx hb dX6_isPersonStatement_9 (by decide) (fun hc9 => ?_) (fun hc9 => ?_)
  · have h := if_f h hc9
    refine lv_aload_n hx hb dX6_isPersonStatement_16 rfl (lv_at hl 1 rfl) ?_
    refine lv_iconst (v := (0 : Int32)) hx hb dX6_isPersonStatement_17 (by decide) ?_
    refine lv_bipush (v := (9 : Int32)) hx hb dX6_isPersonStatement_18 (by decide) ?_
    obtain ⟨v2, hv2, h⟩ := bind_of h
    refine after_i X (run_V X (c_X6_number l E a_t a_tape a_refused a_now a_kept a_mind a_words a_wCell a_wFaces a_wTurns a_wSign a_wBy a_wFell a_telling a_holds a_sizes a_elements a_moved a_above a_out a_first (0 : Int32) (9 : Int32) (v1.2) c_tape H.size v2 hv2) (cwV 2 hts gX6_isPersonStatement_X6_number rfl rfl rfl hV_X6_number ⟨(Nat.le_of_ble_eq_true rfl), (Nat.le_of_ble_eq_true rfl)⟩) hP hD hS [0, 2] rfl rfl hl.1 (ci := 6) rfl rfl rfl (rest := []) rfl rfl (Nat.le_of_ble_eq_true rfl) dX6_isPersonStatement_20) hP hD hS [0, 2] [1] [1, 0, 2] rfl rfl rfl (by decide) rfl (ws1 := (W_X6_isPersonStatement E a_t a_now a_tape a_refused a_kept a_mind a_words a_wCell a_wFaces a_wTurns a_wSign a_wBy a_wFell a_telling a_holds a_sizes a_elements a_moved a_above a_out a_first (v2.2) c_now c_tape)) rfl (fun H locs hP hD hS => ?_)
    exact w_X6_isPersonStatement_b23 X a_t a_now a_tape a_refused a_kept a_mind a_words a_wCell a_wFaces a_wTurns a_wSign a_wBy a_wFell a_telling a_holds a_sizes a_elements a_moved a_above a_out a_first c_tape res (v2.2) c_now (v1.1) (v2.1) _ _ _ h hP hD hS (lv_sub hl [1, 0] rfl)
  · have h := if_t h hc9
    refine lv_iconst (v := (-1 : Int32)) hx hb dX6_isPersonStatement_12 (by decide) ?_
    refine lv_goto (tgt := 23) hx hb dX6_isPersonStatement_13 (by decide) ?_
    exact w_X6_isPersonStatement_b23 X a_t a_now a_tape a_refused a_kept a_mind a_words a_wCell a_wFaces a_wTurns a_wSign a_wBy a_wFell a_telling a_holds a_sizes a_elements a_moved a_above a_out a_first c_tape res (v1.2) c_now (v1.1) (-1 : Int32) _ _ _ h hP hD hS (lv_sub hl [1, 0] rfl)
end
set_option maxRecDepth 100000 in
theorem c_X6_isPersonStatement (l : Launch) (E : Env0) (a_t : Nat) (a_now : Nat) (a_tape : Nat) (a_refused : Nat) (a_kept : Nat) (a_mind : Nat) (a_words : Nat) (a_wCell : Nat) (a_wFaces : Nat) (a_wTurns : Nat) (a_wSign : Nat) (a_wBy : Nat) (a_wFell : Nat) (a_telling : Nat) (a_holds : Nat) (a_sizes : Nat) (a_elements : Nat) (a_moved : Nat) (a_above : Nat) (a_out : Nat) (a_first : Nat) (c_t : Nat → Int32) (c_now : Nat → Int32) (c_tape : Nat → Int32) (sz : Nat) (res : Int32 × (Nat → Int32) × (Nat → Int32)) (h : f_X6_isPersonStatement c_t c_now c_tape = some res) : Met l yX6_isPersonStatement wsX6_isPersonStatement r_X6_isPersonStatement (cPre E [.ref a_t] (W_X6_isPersonStatement E a_t a_now a_tape a_refused a_kept a_mind a_words a_wCell a_wFaces a_wTurns a_wSign a_wBy a_wFell a_telling a_holds a_sizes a_elements a_moved a_above a_out a_first c_t c_now c_tape) sz) (qI E (va_A (W_X6_isPersonStatement E a_t a_now a_tape a_refused a_kept a_mind a_words a_wCell a_wFaces a_wTurns a_wSign a_wBy a_wFell a_telling a_holds a_sizes a_elements a_moved a_above a_out a_first c_t c_now c_tape) sz) (res.1) (W_X6_isPersonStatement E a_t a_now a_tape a_refused a_kept a_mind a_words a_wCell a_wFaces a_wTurns a_wSign a_wBy a_wFell a_telling a_holds a_sizes a_elements a_moved a_above a_out a_first (res.2.1) (res.2.2) c_tape)) 0 0 (va_A (W_X6_isPersonStatement E a_t a_now a_tape a_refused a_kept a_mind a_words a_wCell a_wFaces a_wTurns a_wSign a_wBy a_wFell a_telling a_holds a_sizes a_elements a_moved a_above a_out a_first c_t c_now c_tape) sz) :=
  met_of (Qc := fun A => qI E A (res.1) (W_X6_isPersonStatement E a_t a_now a_tape a_refused a_kept a_mind a_words a_wCell a_wFaces a_wTurns a_wSign a_wBy a_wFell a_telling a_holds a_sizes a_elements a_moved a_above a_out a_first (res.2.1) (res.2.2) c_tape)) (by decide) rfl (Nat.le_of_ble_eq_true rfl) (fun p e s m args below meth c X hP hD hS ls hl => w_X6_isPersonStatement X a_t a_now a_tape a_refused a_kept a_mind a_words a_wCell a_wFaces a_wTurns a_wSign a_wBy a_wFell a_telling a_holds a_sizes a_elements a_moved a_above a_out a_first c_tape res c_t c_now ls _ _ h hP hD hS hl)
-- ===== X6_isStatement
abbrev W_X6_isStatement (E : Env0) (a_t : Nat) (a_now : Nat) (a_tape : Nat) (a_words : Nat) (a_refused : Nat) (a_kept : Nat) (a_mind : Nat) (a_wCell : Nat) (a_wFaces : Nat) (a_wTurns : Nat) (a_wSign : Nat) (a_wBy : Nat) (a_wFell : Nat) (a_telling : Nat) (a_holds : Nat) (a_sizes : Nat) (a_elements : Nat) (a_moved : Nat) (a_above : Nat) (a_out : Nat) (a_first : Nat) (c_t : Nat → Int32) (c_now : Nat → Int32) (c_tape : Nat → Int32) (c_words : Nat → Int32) : va_W := [(a_t, .inr (6, [.ref a_refused, .ref a_now, .ref a_kept, .ref a_mind, .int (c_t 4), .ref a_tape, .int (c_t 6), .int (c_t 7), .int (c_t 8), .int (c_t 9), .ref a_words, .ref a_wCell, .ref a_wFaces, .ref a_wTurns, .ref a_wSign, .ref a_wBy, .ref a_wFell, .int (c_t 17), .ref a_telling, .ref a_holds, .ref a_sizes, .ref a_elements, .ref a_moved, .ref a_above, .ref a_out, .ref a_first])), (a_now, .inl (eI E, 97, .inl c_now)), (a_tape, .inl (eI E, 250, .inl c_tape)), (a_words, .inl (eC E, 48, .inl c_words))]
abbrev r_X6_isStatement : Room := { frames := 6, cells := 0, slots := 0, locals := 135 }
theorem hd_X6_isStatement : yX6_isStatement.cls ≠ "java/lang/invoke/MethodHandle" ∧ yX6_isStatement.cls ≠ "java/lang/invoke/VarHandle" ∧ (parseMethodDescriptor yX6_isStatement.desc).map (fun d => d.parameters.length) = some 0 := by decide +kernel
theorem hV_X6_isStatement : yX6_isStatement.cls = RX6 ∧ yX6_isStatement.cls ≠ "java/lang/invoke/MethodHandle" ∧ yX6_isStatement.cls ≠ "java/lang/invoke/VarHandle" ∧ (parseMethodDescriptor yX6_isStatement.desc).map (fun d => d.parameters.length) = some 0 := ⟨rfl, hd_X6_isStatement⟩
theorem iX6_isStatement_X6 : ∀ w ∈ wsX60, w ∈ wsX6_isStatement := fun _ h => List.mem_cons_of_mem _ (List.mem_append_right _ (h))
section
variable {p : Program} {l : Launch} {e : Env} {s : State} {m : MethodId} {args : Array Value} {below : List Frame} {meth : Method} {c : Code} {E : Env0} {A : Nat → Prop}
set_option maxRecDepth 100000 in
set_option maxHeartbeats 4000000 in
theorem w_X6_isStatement_b75 (X : Ctx p m meth c cX6_isStatement 4 ((some .boolean)) s args wsX6_isStatement RX6 E A) (a_t : Nat) (a_now : Nat) (a_tape : Nat) (a_words : Nat) (a_refused : Nat) (a_kept : Nat) (a_mind : Nat) (a_wCell : Nat) (a_wFaces : Nat) (a_wTurns : Nat) (a_wSign : Nat) (a_wBy : Nat) (a_wFell : Nat) (a_telling : Nat) (a_holds : Nat) (a_sizes : Nat) (a_elements : Nat) (a_moved : Nat) (a_above : Nat) (a_out : Nat) (a_first : Nat) (c_tape : Nat → Int32) (c_words : Nat → Int32) (res : Int32 × (Nat → Int32) × (Nat → Int32)) (c_t : Nat → Int32) (c_now : Nat → Int32) (l1 : Int32) (l2 : Int32) (ls : Array Slot) (H : Heap) (locs : List Loc) (h : f_X6_isStatement_b75 c_tape c_words c_t c_now l1 l2 = some res) (hP : va_P E.1 vwCl (W_X6_isStatement E a_t a_now a_tape a_words a_refused a_kept a_mind a_wCell a_wFaces a_wTurns a_wSign a_wBy a_wFell a_telling a_holds a_sizes a_elements a_moved a_above a_out a_first c_t c_now c_tape c_words) H) (hD : va_D A (W_X6_isStatement E a_t a_now a_tape a_words a_refused a_kept a_mind a_wCell a_wFaces a_wTurns a_wSign a_wBy a_wFell a_telling a_holds a_sizes a_elements a_moved a_above a_out a_first c_t c_now c_tape c_words)) (hS : va_S A s.heap H locs) (hl : lv_has ls 4 [(0, .ref a_t), (1, .int l1), (2, .int l2)]) : W p l e r_X6_isStatement s m args below meth c H locs 0 0 (MQ below (qI E A (res.1) (W_X6_isStatement E a_t a_now a_tape a_words a_refused a_kept a_mind a_wCell a_wFaces a_wTurns a_wSign a_wBy a_wFell a_telling a_holds a_sizes a_elements a_moved a_above a_out a_first (res.2.1) (res.2.2) c_tape c_words)) args s 0 0 A) (F0 m 75 ls []) := by
  obtain ⟨hx, hb, hml, hr, hlk, hown, hts, hG, hA⟩ := id X
  have hK := hG.1
  have hN := hG.2.1
  unfold f_X6_isStatement_b75 at h
  refine lv_aload_n hx hb dX6_isStatement_75 rfl (lv_at hl 0 rfl) ?_
  refine va_get (D := E.1) (ci := 6) (v := .ref a_now) (C := RX6) (T := TX6) (N := 26) hx hb hts iX6_isStatement_X6 hown hK hP 0 rfl rfl 1 (by decide) (hts (.fieldLink RX6 17 "LeftIsAgreedOnModel" "now" "[I") (List.mem_of_getElem? (i := 1) rfl)) (fun _ h9 => h9) rfl dX6_isStatement_76 ?_
  refine lv_iload_n hx hb dX6_isStatement_79 rfl (lv_at hl 2 rfl) ?_
  obtain ⟨v1, hv1, h⟩ := bind_of h
  refine after_i X (run_S X (c_X6_pondAt l E l2 H.size v1 hv1) (va_cwS 1 hts gX6_isStatement_X6_pondAt rfl rfl rfl hd_X6_pondAt ⟨(Nat.le_of_ble_eq_true rfl), (Nat.le_of_ble_eq_true rfl)⟩) hP hD hS [] rfl rfl hl.1 (rest := [.ref a_now]) rfl rfl (Nat.le_of_ble_eq_true rfl) dX6_isStatement_80) hP hD hS [] [0, 1, 2, 3] [0, 1, 2, 3] rfl rfl rfl (by decide) rfl (ws1 := (W_X6_isStatement E a_t a_now a_tape a_words a_refused a_kept a_mind a_wCell a_wFaces a_wTurns a_wSign a_wBy a_wFell a_telling a_holds a_sizes a_elements a_moved a_above a_out a_first c_t c_now c_tape c_words)) rfl (fun H locs hP hD hS => ?_)
  refine lv_iconst (v := (2 : Int32)) hx hb dX6_isStatement_83 (by decide) ?_
  refine lv_iload_n hx hb dX6_isStatement_84 rfl (lv_at hl 1 rfl) ?_
  refine lv_isub hx hb dX6_isStatement_85 ?_
  obtain ⟨hz86, h⟩ := chk_of h
  refine st_i X hP hD hS 1 rfl (inb.vp hz86) (k := (v1).toNatClampNeg) rfl (ws1 := (W_X6_isStatement E a_t a_now a_tape a_words a_refused a_kept a_mind a_wCell a_wFaces a_wTurns a_wSign a_wBy a_wFell a_telling a_holds a_sizes a_elements a_moved a_above a_out a_first c_t (upd c_now ((v1).toNatClampNeg) ((2 : Int32) - l1)) c_tape c_words)) rfl dX6_isStatement_86 (fun H locs hP hD hS => ?_)
  refine lv_iconst (v := (1 : Int32)) hx hb dX6_isStatement_87 (by decide) ?_
  obtain rfl := Option.some.inj h
  exact ret_z X dX6_isStatement_88 (by decide) hP hD hS rfl
set_option maxRecDepth 100000 in
set_option maxHeartbeats 4000000 in
theorem w_X6_isStatement_b50 (X : Ctx p m meth c cX6_isStatement 4 ((some .boolean)) s args wsX6_isStatement RX6 E A) (a_t : Nat) (a_now : Nat) (a_tape : Nat) (a_words : Nat) (a_refused : Nat) (a_kept : Nat) (a_mind : Nat) (a_wCell : Nat) (a_wFaces : Nat) (a_wTurns : Nat) (a_wSign : Nat) (a_wBy : Nat) (a_wFell : Nat) (a_telling : Nat) (a_holds : Nat) (a_sizes : Nat) (a_elements : Nat) (a_moved : Nat) (a_above : Nat) (a_out : Nat) (a_first : Nat) (c_tape : Nat → Int32) (c_words : Nat → Int32) (res : Int32 × (Nat → Int32) × (Nat → Int32)) (c_t : Nat → Int32) (c_now : Nat → Int32) (l1 : Int32) (ls : Array Slot) (H : Heap) (locs : List Loc) (h : f_X6_isStatement_b50 c_tape c_words c_t c_now l1 = some res) (hP : va_P E.1 vwCl (W_X6_isStatement E a_t a_now a_tape a_words a_refused a_kept a_mind a_wCell a_wFaces a_wTurns a_wSign a_wBy a_wFell a_telling a_holds a_sizes a_elements a_moved a_above a_out a_first c_t c_now c_tape c_words) H) (hD : va_D A (W_X6_isStatement E a_t a_now a_tape a_words a_refused a_kept a_mind a_wCell a_wFaces a_wTurns a_wSign a_wBy a_wFell a_telling a_holds a_sizes a_elements a_moved a_above a_out a_first c_t c_now c_tape c_words)) (hS : va_S A s.heap H locs) (hl : lv_has ls 4 [(0, .ref a_t), (1, .int l1)]) : W p l e r_X6_isStatement s m args below meth c H locs 0 0 (MQ below (qI E A (res.1) (W_X6_isStatement E a_t a_now a_tape a_words a_refused a_kept a_mind a_wCell a_wFaces a_wTurns a_wSign a_wBy a_wFell a_telling a_holds a_sizes a_elements a_moved a_above a_out a_first (res.2.1) (res.2.2) c_tape c_words)) args s 0 0 A) (F0 m 50 ls []) := by
  obtain ⟨hx, hb, hml, hr, hlk, hown, hts, hG, hA⟩ := id X
  have hK := hG.1
  have hN := hG.2.1
  unfold f_X6_isStatement_b50 at h
  refine lv_aload_n hx hb dX6_isStatement_50 rfl (lv_at hl 0 rfl) ?_
  obtain ⟨v1, hv1, h⟩ := bind_of h
  refine after_i X (run_V X (c_X6_cellNumber l E a_t a_now a_tape a_refused a_kept a_mind a_words a_wCell a_wFaces a_wTurns a_wSign a_wBy a_wFell a_telling a_holds a_sizes a_elements a_moved a_above a_out a_first c_t c_now c_tape H.size v1 hv1) (cwV 0 hts gX6_isStatement_X6_cellNumber rfl rfl rfl hV_X6_cellNumber ⟨(Nat.le_of_ble_eq_true rfl), (Nat.le_of_ble_eq_true rfl)⟩) hP hD hS [0, 1, 2] rfl rfl hl.1 (ci := 6) rfl rfl rfl (rest := []) rfl rfl (Nat.le_of_ble_eq_true rfl) dX6_isStatement_51) hP hD hS [0, 1, 2] [3] [1, 2, 3, 0] rfl rfl rfl (by decide) rfl (ws1 := (W_X6_isStatement E a_t a_now a_tape a_words a_refused a_kept a_mind a_wCell a_wFaces a_wTurns a_wSign a_wBy a_wFell a_telling a_holds a_sizes a_elements a_moved a_above a_out a_first (v1.2) c_now c_tape c_words)) rfl (fun H locs hP hD hS => ?_)
  refine lv_istore_n (lv' := [(2, .int (v1.1)), (0, .ref a_t), (1, .int l1)]) hx hb dX6_isStatement_54 rfl hl (by decide) rfl (fun ls hl => ?_)
  refine lv_iload_n hx hb dX6_isStatement_55 rfl (lv_at hl 0 rfl) ?_
  refine lv_iconst (v := (-1 : Int32)) hx hb dX6_isStatement_56 (by decide) ?_
  refine lv_icmp_eq (tgt := 73) hx hb dX6_isStatement_57 (by decide) (fun hc57 => ?_) (fun hc57 => ?_)
  · have h := if_t h hc57
    refine lv_iconst (v := (0 : Int32)) hx hb dX6_isStatement_73 (by decide) ?_
    obtain rfl := Option.some.inj h
    exact ret_z X dX6_isStatement_74 (by decide) hP hD hS rfl
  · have h := if_f h hc57
    refine lv_iload_n hx hb dX6_isStatement_60 rfl (lv_at hl 2 rfl) ?_
    refine lv_iconst (v := (1 : Int32)) hx hb dX6_isStatement_61 (by decide) ?_
    refine lv_icmp_ne (tgt := 75) hx hb dX6_isStatement_62 (by decide) (fun hc62 => ?_) (fun hc62 => ?_)
    · have h := if_f h hc62
      exact w_X6_isStatement_b75 X a_t a_now a_tape a_words a_refused a_kept a_mind a_wCell a_wFaces a_wTurns a_wSign a_wBy a_wFell a_telling a_holds a_sizes a_elements a_moved a_above a_out a_first c_tape c_words res (v1.2) c_now l1 (v1.1) _ _ _ h hP hD hS (lv_sub hl [1, 2, 0] rfl)
    · have h := if_t h hc62
      refine lv_aload_n hx hb dX6_isStatement_65 rfl (lv_at hl 1 rfl) ?_
      refine lv_iload_n hx hb dX6_isStatement_66 rfl (lv_at hl 0 rfl) ?_
      obtain ⟨v2, hv2, h⟩ := bind_of h
      refine after_i X (run_V X (c_X6_isSomebody l E a_t a_now a_refused a_kept a_mind a_tape a_words a_wCell a_wFaces a_wTurns a_wSign a_wBy a_wFell a_telling a_holds a_sizes a_elements a_moved a_above a_out a_first (v1.1) (v1.2) c_now H.size v2 hv2) (cwV 1 hts gX6_isStatement_X6_isSomebody rfl rfl rfl hV_X6_isSomebody ⟨(Nat.le_of_ble_eq_true rfl), (Nat.le_of_ble_eq_true rfl)⟩) hP hD hS [0, 1] rfl rfl hl.1 (ci := 6) rfl rfl rfl (rest := []) rfl rfl (Nat.le_of_ble_eq_true rfl) dX6_isStatement_67) hP hD hS [0, 1] [2, 3] [2, 3, 0, 1] rfl rfl rfl (by decide) rfl (ws1 := (W_X6_isStatement E a_t a_now a_tape a_words a_refused a_kept a_mind a_wCell a_wFaces a_wTurns a_wSign a_wBy a_wFell a_telling a_holds a_sizes a_elements a_moved a_above a_out a_first (v1.2) c_now c_tape c_words)) rfl (fun H locs hP hD hS => ?_)
      refine lv_if_eq (tgt := 75) hx hb dX6_isStatement_70 (by decide) (fun hc70 => ?_) (fun hc70 => ?_)
      · have h := if_t h hc70
        exact w_X6_isStatement_b75 X a_t a_now a_tape a_words a_refused a_kept a_mind a_wCell a_wFaces a_wTurns a_wSign a_wBy a_wFell a_telling a_holds a_sizes a_elements a_moved a_above a_out a_first c_tape c_words res (v1.2) c_now l1 (v1.1) _ _ _ h hP hD hS (lv_sub hl [1, 2, 0] rfl)
      · have h := if_f h hc70
        refine lv_iconst (v := (0 : Int32)) hx hb dX6_isStatement_73 (by decide) ?_
        obtain rfl := Option.some.inj h
        exact ret_z X dX6_isStatement_74 (by decide) hP hD hS rfl
set_option maxRecDepth 100000 in
set_option maxHeartbeats 4000000 in
theorem w_X6_isStatement_b172 (X : Ctx p m meth c cX6_isStatement 4 ((some .boolean)) s args wsX6_isStatement RX6 E A) (a_t : Nat) (a_now : Nat) (a_tape : Nat) (a_words : Nat) (a_refused : Nat) (a_kept : Nat) (a_mind : Nat) (a_wCell : Nat) (a_wFaces : Nat) (a_wTurns : Nat) (a_wSign : Nat) (a_wBy : Nat) (a_wFell : Nat) (a_telling : Nat) (a_holds : Nat) (a_sizes : Nat) (a_elements : Nat) (a_moved : Nat) (a_above : Nat) (a_out : Nat) (a_first : Nat) (c_tape : Nat → Int32) (c_words : Nat → Int32) (res : Int32 × (Nat → Int32) × (Nat → Int32)) (c_t : Nat → Int32) (c_now : Nat → Int32) (l2 : Int32) (s0 : Int32) (s1 : Int32) (ls : Array Slot) (H : Heap) (locs : List Loc) (h : f_X6_isStatement_b172 c_tape c_words c_t c_now l2 s0 s1 = some res) (hP : va_P E.1 vwCl (W_X6_isStatement E a_t a_now a_tape a_words a_refused a_kept a_mind a_wCell a_wFaces a_wTurns a_wSign a_wBy a_wFell a_telling a_holds a_sizes a_elements a_moved a_above a_out a_first c_t c_now c_tape c_words) H) (hD : va_D A (W_X6_isStatement E a_t a_now a_tape a_words a_refused a_kept a_mind a_wCell a_wFaces a_wTurns a_wSign a_wBy a_wFell a_telling a_holds a_sizes a_elements a_moved a_above a_out a_first c_t c_now c_tape c_words)) (hS : va_S A s.heap H locs) (hl : lv_has ls 4 [(0, .ref a_t), (2, .int l2)]) : W p l e r_X6_isStatement s m args below meth c H locs 0 0 (MQ below (qI E A (res.1) (W_X6_isStatement E a_t a_now a_tape a_words a_refused a_kept a_mind a_wCell a_wFaces a_wTurns a_wSign a_wBy a_wFell a_telling a_holds a_sizes a_elements a_moved a_above a_out a_first (res.2.1) (res.2.2) c_tape c_words)) args s 0 0 A) (F0 m 172 ls [.int s0, .int s1, .ref a_t]) := by
  obtain ⟨hx, hb, hml, hr, hlk, hown, hts, hG, hA⟩ := id X
  have hK := hG.1
  have hN := hG.2.1
  unfold f_X6_isStatement_b172 at h
  obtain ⟨v1, hv1, h⟩ := bind_of h
  refine after_i X (run_V X (c_X6_number l E a_t a_tape a_refused a_now a_kept a_mind a_words a_wCell a_wFaces a_wTurns a_wSign a_wBy a_wFell a_telling a_holds a_sizes a_elements a_moved a_above a_out a_first s1 s0 c_t c_tape H.size v1 hv1) (cwV 2 hts gX6_isStatement_X6_number rfl rfl rfl hV_X6_number ⟨(Nat.le_of_ble_eq_true rfl), (Nat.le_of_ble_eq_true rfl)⟩) hP hD hS [0, 2] rfl rfl hl.1 (ci := 6) rfl rfl rfl (rest := []) rfl rfl (Nat.le_of_ble_eq_true rfl) dX6_isStatement_172) hP hD hS [0, 2] [1, 3] [2, 0, 3, 1] rfl rfl rfl (by decide) rfl (ws1 := (W_X6_isStatement E a_t a_now a_tape a_words a_refused a_kept a_mind a_wCell a_wFaces a_wTurns a_wSign a_wBy a_wFell a_telling a_holds a_sizes a_elements a_moved a_above a_out a_first (v1.2) c_now c_tape c_words)) rfl (fun H locs hP hD hS => ?_)
  refine lv_istore_n (lv' := [(3, .int (v1.1)), (0, .ref a_t), (2, .int l2)]) hx hb dX6_isStatement_175 rfl hl (by decide) rfl (fun ls hl => ?_)
  refine lv_iload_n hx hb dX6_isStatement_176 rfl (lv_at hl 0 rfl) ?_
  refine lv_iconst (v := (-1 : Int32)) hx hb dX6_isStatement_177 (by decide) ?_
  refine lv_icmp_ne (tgt := 183) hx hb dX6_isStatement_178 (by decide) (fun hc178 => ?_) (fun hc178 => ?_)
  · have h := if_f h hc178
    refine lv_aload_n hx hb dX6_isStatement_183 rfl (lv_at hl 1 rfl) ?_
    refine va_get (D := E.1) (ci := 6) (v := .ref a_now) (C := RX6) (T := TX6) (N := 26) hx hb hts iX6_isStatement_X6 hown hK hP 0 rfl rfl 1 (by decide) (hts (.fieldLink RX6 17 "LeftIsAgreedOnModel" "now" "[I") (List.mem_of_getElem? (i := 1) rfl)) (fun _ h9 => h9) rfl dX6_isStatement_184 ?_
    refine lv_iload_n hx hb dX6_isStatement_187 rfl (lv_at hl 2 rfl) ?_
    refine lv_iload_n hx hb dX6_isStatement_188 rfl (lv_at hl 0 rfl) ?_
    obtain ⟨hz189, h⟩ := chk_of h
    refine st_i X hP hD hS 1 rfl (inb.vp hz189) (k := (l2).toNatClampNeg) rfl (ws1 := (W_X6_isStatement E a_t a_now a_tape a_words a_refused a_kept a_mind a_wCell a_wFaces a_wTurns a_wSign a_wBy a_wFell a_telling a_holds a_sizes a_elements a_moved a_above a_out a_first (v1.2) (upd c_now ((l2).toNatClampNeg) (v1.1)) c_tape c_words)) rfl dX6_isStatement_189 (fun H locs hP hD hS => ?_)
    refine lv_iconst (v := (1 : Int32)) hx hb dX6_isStatement_190 (by decide) ?_
    obtain rfl := Option.some.inj h
    exact ret_z X dX6_isStatement_191 (by decide) hP hD hS rfl
  · have h := if_t h hc178
    refine lv_iconst (v := (0 : Int32)) hx hb dX6_isStatement_181 (by decide) ?_
    obtain rfl := Option.some.inj h
    exact ret_z X dX6_isStatement_182 (by decide) hP hD hS rfl
set_option maxRecDepth 100000 in
set_option maxHeartbeats 4000000 in
theorem w_X6_isStatement_b151 (X : Ctx p m meth c cX6_isStatement 4 ((some .boolean)) s args wsX6_isStatement RX6 E A) (a_t : Nat) (a_now : Nat) (a_tape : Nat) (a_words : Nat) (a_refused : Nat) (a_kept : Nat) (a_mind : Nat) (a_wCell : Nat) (a_wFaces : Nat) (a_wTurns : Nat) (a_wSign : Nat) (a_wBy : Nat) (a_wFell : Nat) (a_telling : Nat) (a_holds : Nat) (a_sizes : Nat) (a_elements : Nat) (a_moved : Nat) (a_above : Nat) (a_out : Nat) (a_first : Nat) (c_tape : Nat → Int32) (c_words : Nat → Int32) (res : Int32 × (Nat → Int32) × (Nat → Int32)) (c_t : Nat → Int32) (c_now : Nat → Int32) (l1 : Int32) (l2 : Int32) (s0 : Int32) (ls : Array Slot) (H : Heap) (locs : List Loc) (h : f_X6_isStatement_b151 c_tape c_words c_t c_now l1 l2 s0 = some res) (hP : va_P E.1 vwCl (W_X6_isStatement E a_t a_now a_tape a_words a_refused a_kept a_mind a_wCell a_wFaces a_wTurns a_wSign a_wBy a_wFell a_telling a_holds a_sizes a_elements a_moved a_above a_out a_first c_t c_now c_tape c_words) H) (hD : va_D A (W_X6_isStatement E a_t a_now a_tape a_words a_refused a_kept a_mind a_wCell a_wFaces a_wTurns a_wSign a_wBy a_wFell a_telling a_holds a_sizes a_elements a_moved a_above a_out a_first c_t c_now c_tape c_words)) (hS : va_S A s.heap H locs) (hl : lv_has ls 4 [(0, .ref a_t), (1, .int l1), (2, .int l2)]) : W p l e r_X6_isStatement s m args below meth c H locs 0 0 (MQ below (qI E A (res.1) (W_X6_isStatement E a_t a_now a_tape a_words a_refused a_kept a_mind a_wCell a_wFaces a_wTurns a_wSign a_wBy a_wFell a_telling a_holds a_sizes a_elements a_moved a_above a_out a_first (res.2.1) (res.2.2) c_tape c_words)) args s 0 0 A) (F0 m 151 ls [.int s0, .ref a_t]) := by
  obtain ⟨hx, hb, hml, hr, hlk, hown, hts, hG, hA⟩ := id X
  have hK := hG.1
  have hN := hG.2.1
  unfold f_X6_isStatement_b151 at h
  refine lv_iload_n hx hb dX6_isStatement_151 rfl (lv_at hl 1 rfl) ?_
  refine lv_if_ne (tgt := 160) hx hb dX6_isStatement_152 (by decide) (fun hc152 => ?_) (fun hc152 => ?_)
  · have h := if_f h hc152
    refine lv_iload_n hx hb dX6_isStatement_160 rfl (lv_at hl 1 rfl) ?_
    refine lv_bipush (v := (7 : Int32)) hx hb dX6_isStatement_161 (by decide) ?_
    refine lv_icmp_ne (tgt := 171) hx hb dX6_isStatement_163 (by decide) (fun hc163 => ?_) (fun hc163 => ?_)
    · have h := if_f h hc163
      refine lv_iconst (v := (1 : Int32)) hx hb dX6_isStatement_171 (by decide) ?_
      exact w_X6_isStatement_b172 X a_t a_now a_tape a_words a_refused a_kept a_mind a_wCell a_wFaces a_wTurns a_wSign a_wBy a_wFell a_telling a_holds a_sizes a_elements a_moved a_above a_out a_first c_tape c_words res c_t c_now l2 (1 : Int32) s0 _ _ _ h hP hD hS (lv_sub hl [0, 2] rfl)
    · have h := if_t h hc163
      refine lv_bipush (v := (12 : Int32)) hx hb dX6_isStatement_166 (by decide) ?_
      refine lv_goto (tgt := 172) hx hb dX6_isStatement_168 (by decide) ?_
      exact w_X6_isStatement_b172 X a_t a_now a_tape a_words a_refused a_kept a_mind a_wCell a_wFaces a_wTurns a_wSign a_wBy a_wFell a_telling a_holds a_sizes a_elements a_moved a_above a_out a_first c_tape c_words res c_t c_now l2 (12 : Int32) s0 _ _ _ h hP hD hS (lv_sub hl [0, 2] rfl)
  · have h := if_t h hc152
    refine lv_bipush (v := (7 : Int32)) hx hb dX6_isStatement_155 (by decide) ?_
    refine lv_goto (tgt := 172) hx hb dX6_isStatement_157 (by decide) ?_
    exact w_X6_isStatement_b172 X a_t a_now a_tape a_words a_refused a_kept a_mind a_wCell a_wFaces a_wTurns a_wSign a_wBy a_wFell a_telling a_holds a_sizes a_elements a_moved a_above a_out a_first c_tape c_words res c_t c_now l2 (7 : Int32) s0 _ _ _ h hP hD hS (lv_sub hl [0, 2] rfl)
set_option maxRecDepth 100000 in
set_option maxHeartbeats 4000000 in
theorem w_X6_isStatement_b135 (X : Ctx p m meth c cX6_isStatement 4 ((some .boolean)) s args wsX6_isStatement RX6 E A) (a_t : Nat) (a_now : Nat) (a_tape : Nat) (a_words : Nat) (a_refused : Nat) (a_kept : Nat) (a_mind : Nat) (a_wCell : Nat) (a_wFaces : Nat) (a_wTurns : Nat) (a_wSign : Nat) (a_wBy : Nat) (a_wFell : Nat) (a_telling : Nat) (a_holds : Nat) (a_sizes : Nat) (a_elements : Nat) (a_moved : Nat) (a_above : Nat) (a_out : Nat) (a_first : Nat) (c_tape : Nat → Int32) (c_words : Nat → Int32) (res : Int32 × (Nat → Int32) × (Nat → Int32)) (c_t : Nat → Int32) (c_now : Nat → Int32) (l1 : Int32) (l2 : Int32) (ls : Array Slot) (H : Heap) (locs : List Loc) (h : f_X6_isStatement_b135 c_tape c_words c_t c_now l1 l2 = some res) (hP : va_P E.1 vwCl (W_X6_isStatement E a_t a_now a_tape a_words a_refused a_kept a_mind a_wCell a_wFaces a_wTurns a_wSign a_wBy a_wFell a_telling a_holds a_sizes a_elements a_moved a_above a_out a_first c_t c_now c_tape c_words) H) (hD : va_D A (W_X6_isStatement E a_t a_now a_tape a_words a_refused a_kept a_mind a_wCell a_wFaces a_wTurns a_wSign a_wBy a_wFell a_telling a_holds a_sizes a_elements a_moved a_above a_out a_first c_t c_now c_tape c_words)) (hS : va_S A s.heap H locs) (hl : lv_has ls 4 [(0, .ref a_t), (1, .int l1), (2, .int l2)]) : W p l e r_X6_isStatement s m args below meth c H locs 0 0 (MQ below (qI E A (res.1) (W_X6_isStatement E a_t a_now a_tape a_words a_refused a_kept a_mind a_wCell a_wFaces a_wTurns a_wSign a_wBy a_wFell a_telling a_holds a_sizes a_elements a_moved a_above a_out a_first (res.2.1) (res.2.2) c_tape c_words)) args s 0 0 A) (F0 m 135 ls []) := by
  obtain ⟨hx, hb, hml, hr, hlk, hown, hts, hG, hA⟩ := id X
  have hK := hG.1
  have hN := hG.2.1
  unfold f_X6_isStatement_b135 at h
  refine lv_aload_n hx hb dX6_isStatement_135 rfl (lv_at hl 0 rfl) ?_
  refine lv_iload_n hx hb dX6_isStatement_136 rfl (lv_at hl 1 rfl) ?_
  refine lv_if_ne (tgt := 150) hx hb dX6_isStatement_137 (by decide) (fun hc137 => ?_) (fun hc137 => ?_)
  · have h := if_f h hc137
    refine lv_iconst (v := (0 : Int32)) hx hb dX6_isStatement_150 (by decide) ?_
    exact w_X6_isStatement_b151 X a_t a_now a_tape a_words a_refused a_kept a_mind a_wCell a_wFaces a_wTurns a_wSign a_wBy a_wFell a_telling a_holds a_sizes a_elements a_moved a_above a_out a_first c_tape c_words res c_t c_now l1 l2 (0 : Int32) _ _ _ h hP hD hS (lv_sub hl [0, 1, 2] rfl)
  · have h := if_t h hc137
    refine lv_aload_n hx hb dX6_isStatement_140 rfl (lv_at hl 0 rfl) ?_
    refine va_get (D := E.1) (ci := 6) (v := .ref a_now) (C := RX6) (T := TX6) (N := 26) hx hb hts iX6_isStatement_X6 hown hK hP 0 rfl rfl 1 (by decide) (hts (.fieldLink RX6 17 "LeftIsAgreedOnModel" "now" "[I") (List.mem_of_getElem? (i := 1) rfl)) (fun _ h9 => h9) rfl dX6_isStatement_141 ?_
    refine lv_bipush (v := (90 : Int32)) hx hb dX6_isStatement_144 (by decide) ?_
    refine ld_i X hP 1 rfl (inb.vp (by decide)) (v := (c_now 90)) rfl dX6_isStatement_146 ?_
    refine lv_goto (tgt := 151) hx hb dX6_isStatement_147 (by decide) ?_
    exact w_X6_isStatement_b151 X a_t a_now a_tape a_words a_refused a_kept a_mind a_wCell a_wFaces a_wTurns a_wSign a_wBy a_wFell a_telling a_holds a_sizes a_elements a_moved a_above a_out a_first c_tape c_words res c_t c_now l1 l2 (c_now 90) _ _ _ h hP hD hS (lv_sub hl [0, 1, 2] rfl)
set_option maxRecDepth 100000 in
set_option maxHeartbeats 4000000 in
theorem w_X6_isStatement_b104 (X : Ctx p m meth c cX6_isStatement 4 ((some .boolean)) s args wsX6_isStatement RX6 E A) (a_t : Nat) (a_now : Nat) (a_tape : Nat) (a_words : Nat) (a_refused : Nat) (a_kept : Nat) (a_mind : Nat) (a_wCell : Nat) (a_wFaces : Nat) (a_wTurns : Nat) (a_wSign : Nat) (a_wBy : Nat) (a_wFell : Nat) (a_telling : Nat) (a_holds : Nat) (a_sizes : Nat) (a_elements : Nat) (a_moved : Nat) (a_above : Nat) (a_out : Nat) (a_first : Nat) (c_tape : Nat → Int32) (c_words : Nat → Int32) (res : Int32 × (Nat → Int32) × (Nat → Int32)) (c_t : Nat → Int32) (c_now : Nat → Int32) (l1 : Int32) (s0 : Int32) (ls : Array Slot) (H : Heap) (locs : List Loc) (h : f_X6_isStatement_b104 c_tape c_words c_t c_now l1 s0 = some res) (hP : va_P E.1 vwCl (W_X6_isStatement E a_t a_now a_tape a_words a_refused a_kept a_mind a_wCell a_wFaces a_wTurns a_wSign a_wBy a_wFell a_telling a_holds a_sizes a_elements a_moved a_above a_out a_first c_t c_now c_tape c_words) H) (hD : va_D A (W_X6_isStatement E a_t a_now a_tape a_words a_refused a_kept a_mind a_wCell a_wFaces a_wTurns a_wSign a_wBy a_wFell a_telling a_holds a_sizes a_elements a_moved a_above a_out a_first c_t c_now c_tape c_words)) (hS : va_S A s.heap H locs) (hl : lv_has ls 4 [(0, .ref a_t), (1, .int l1)]) : W p l e r_X6_isStatement s m args below meth c H locs 0 0 (MQ below (qI E A (res.1) (W_X6_isStatement E a_t a_now a_tape a_words a_refused a_kept a_mind a_wCell a_wFaces a_wTurns a_wSign a_wBy a_wFell a_telling a_holds a_sizes a_elements a_moved a_above a_out a_first (res.2.1) (res.2.2) c_tape c_words)) args s 0 0 A) (F0 m 104 ls [.int s0]) := by
  obtain ⟨hx, hb, hml, hr, hlk, hown, hts, hG, hA⟩ := id X
  have hK := hG.1
  have hN := hG.2.1
  unfold f_X6_isStatement_b104 at h
  refine lv_istore_n (lv' := [(2, .int s0), (0, .ref a_t), (1, .int l1)]) hx hb dX6_isStatement_104 rfl hl (by decide) rfl (fun ls hl => ?_)
  refine lv_iload_n hx hb dX6_isStatement_105 rfl (lv_at hl 2 rfl) ?_
  refine lv_iconst (v := (4 : Int32)) hx hb dX6_isStatement_106 (by decide) ?_
  refine lv_icmp_ne (tgt := 135) hx hb dX6_isStatement_107 (by decide) (fun hc107 => ?_) (fun hc107 => ?_)
  · have h := if_f h hc107
    exact w_X6_isStatement_b135 X a_t a_now a_tape a_words a_refused a_kept a_mind a_wCell a_wFaces a_wTurns a_wSign a_wBy a_wFell a_telling a_holds a_sizes a_elements a_moved a_above a_out a_first c_tape c_words res c_t c_now l1 s0 _ _ _ h hP hD hS (lv_sub hl [1, 2, 0] rfl)
  · have h := if_t h hc107
    refine lv_aload_n hx hb dX6_isStatement_110 rfl (lv_at hl 1 rfl) ?_
    refine lv_iconst (v := (0 : Int32)) hx hb dX6_isStatement_111 (by decide) ?_
    refine lv_aload_n hx hb dX6_isStatement_112 rfl (lv_at hl 1 rfl) ?_
    obtain ⟨v1, hv1, h⟩ := bind_of h
    refine after_i X (run_V X (c_X6_many l E a_t a_now a_refused a_kept a_mind a_tape a_words a_wCell a_wFaces a_wTurns a_wSign a_wBy a_wFell a_telling a_holds a_sizes a_elements a_moved a_above a_out a_first c_t c_now H.size v1 hv1) (cwV 0 hts gX6_isStatement_X6_many rfl rfl rfl hV_X6_many ⟨(Nat.le_of_ble_eq_true rfl), (Nat.le_of_ble_eq_true rfl)⟩) hP hD hS [0, 1] rfl rfl hl.1 (ci := 6) rfl rfl rfl (rest := [.int (0 : Int32), .ref a_t]) rfl rfl (Nat.le_of_ble_eq_true rfl) dX6_isStatement_113) hP hD hS [0, 1] [2, 3] [2, 3, 0, 1] rfl rfl rfl (by decide) rfl (ws1 := (W_X6_isStatement E a_t a_now a_tape a_words a_refused a_kept a_mind a_wCell a_wFaces a_wTurns a_wSign a_wBy a_wFell a_telling a_holds a_sizes a_elements a_moved a_above a_out a_first c_t c_now c_tape c_words)) rfl (fun H locs hP hD hS => ?_)
    refine lv_iconst (v := (1 : Int32)) hx hb dX6_isStatement_116 (by decide) ?_
    refine lv_isub hx hb dX6_isStatement_117 ?_
    obtain ⟨v2, hv2, h⟩ := bind_of h
    refine after_i X (run_V X (c_X6_number l E a_t a_tape a_refused a_now a_kept a_mind a_words a_wCell a_wFaces a_wTurns a_wSign a_wBy a_wFell a_telling a_holds a_sizes a_elements a_moved a_above a_out a_first (0 : Int32) (v1 - (1 : Int32)) c_t c_tape H.size v2 hv2) (cwV 2 hts gX6_isStatement_X6_number rfl rfl rfl hV_X6_number ⟨(Nat.le_of_ble_eq_true rfl), (Nat.le_of_ble_eq_true rfl)⟩) hP hD hS [0, 2] rfl rfl hl.1 (ci := 6) rfl rfl rfl (rest := []) rfl rfl (Nat.le_of_ble_eq_true rfl) dX6_isStatement_118) hP hD hS [0, 2] [1, 3] [2, 0, 3, 1] rfl rfl rfl (by decide) rfl (ws1 := (W_X6_isStatement E a_t a_now a_tape a_words a_refused a_kept a_mind a_wCell a_wFaces a_wTurns a_wSign a_wBy a_wFell a_telling a_holds a_sizes a_elements a_moved a_above a_out a_first (v2.2) c_now c_tape c_words)) rfl (fun H locs hP hD hS => ?_)
    refine lv_istore_n (lv' := [(3, .int (v2.1)), (2, .int s0), (0, .ref a_t), (1, .int l1)]) hx hb dX6_isStatement_121 rfl hl (by decide) rfl (fun ls hl => ?_)
    refine lv_iload_n hx hb dX6_isStatement_122 rfl (lv_at hl 0 rfl) ?_
    refine lv_iconst (v := (-1 : Int32)) hx hb dX6_isStatement_123 (by decide) ?_
    refine lv_icmp_ne (tgt := 129) hx hb dX6_isStatement_124 (by decide) (fun hc124 => ?_) (fun hc124 => ?_)
    · have h := if_f h hc124
      refine lv_iconst (v := (5 : Int32)) hx hb dX6_isStatement_129 (by decide) ?_
      refine lv_iload_n hx hb dX6_isStatement_130 rfl (lv_at hl 0 rfl) ?_
      refine lv_imul hx hb dX6_isStatement_131 ?_
      refine lv_iconst (v := (4 : Int32)) hx hb dX6_isStatement_132 (by decide) ?_
      refine lv_iadd hx hb dX6_isStatement_133 ?_
      refine lv_istore_n (lv' := [(2, .int (((5 : Int32) * (v2.1)) + (4 : Int32))), (3, .int (v2.1)), (0, .ref a_t), (1, .int l1)]) hx hb dX6_isStatement_134 rfl hl (by decide) rfl (fun ls hl => ?_)
      exact w_X6_isStatement_b135 X a_t a_now a_tape a_words a_refused a_kept a_mind a_wCell a_wFaces a_wTurns a_wSign a_wBy a_wFell a_telling a_holds a_sizes a_elements a_moved a_above a_out a_first c_tape c_words res (v2.2) c_now l1 (((5 : Int32) * (v2.1)) + (4 : Int32)) _ _ _ h hP hD hS (lv_sub hl [2, 3, 0] rfl)
    · have h := if_t h hc124
      refine lv_iconst (v := (0 : Int32)) hx hb dX6_isStatement_127 (by decide) ?_
      obtain rfl := Option.some.inj h
      exact ret_z X dX6_isStatement_128 (by decide) hP hD hS rfl
set_option maxRecDepth 100000 in
set_option maxHeartbeats 4000000 in
theorem w_X6_isStatement_b30 (X : Ctx p m meth c cX6_isStatement 4 ((some .boolean)) s args wsX6_isStatement RX6 E A) (a_t : Nat) (a_now : Nat) (a_tape : Nat) (a_words : Nat) (a_refused : Nat) (a_kept : Nat) (a_mind : Nat) (a_wCell : Nat) (a_wFaces : Nat) (a_wTurns : Nat) (a_wSign : Nat) (a_wBy : Nat) (a_wFell : Nat) (a_telling : Nat) (a_holds : Nat) (a_sizes : Nat) (a_elements : Nat) (a_moved : Nat) (a_above : Nat) (a_out : Nat) (a_first : Nat) (c_tape : Nat → Int32) (c_words : Nat → Int32) (res : Int32 × (Nat → Int32) × (Nat → Int32)) (c_t : Nat → Int32) (c_now : Nat → Int32) (l1 : Int32) (ls : Array Slot) (H : Heap) (locs : List Loc) (h : f_X6_isStatement_b30 c_tape c_words c_t c_now l1 = some res) (hP : va_P E.1 vwCl (W_X6_isStatement E a_t a_now a_tape a_words a_refused a_kept a_mind a_wCell a_wFaces a_wTurns a_wSign a_wBy a_wFell a_telling a_holds a_sizes a_elements a_moved a_above a_out a_first c_t c_now c_tape c_words) H) (hD : va_D A (W_X6_isStatement E a_t a_now a_tape a_words a_refused a_kept a_mind a_wCell a_wFaces a_wTurns a_wSign a_wBy a_wFell a_telling a_holds a_sizes a_elements a_moved a_above a_out a_first c_t c_now c_tape c_words)) (hS : va_S A s.heap H locs) (hl : lv_has ls 4 [(0, .ref a_t), (1, .int l1)]) : W p l e r_X6_isStatement s m args below meth c H locs 0 0 (MQ below (qI E A (res.1) (W_X6_isStatement E a_t a_now a_tape a_words a_refused a_kept a_mind a_wCell a_wFaces a_wTurns a_wSign a_wBy a_wFell a_telling a_holds a_sizes a_elements a_moved a_above a_out a_first (res.2.1) (res.2.2) c_tape c_words)) args s 0 0 A) (F0 m 30 ls []) := by
  obtain ⟨hx, hb, hml, hr, hlk, hown, hts, hG, hA⟩ := id X
  have hK := hG.1
  have hN := hG.2.1
  unfold f_X6_isStatement_b30 at h
  refine lv_iload_n hx hb dX6_isStatement_30 rfl (lv_at hl 1 rfl) ?_
  refine lv_iconst (v := (3 : Int32)) hx hb dX6_isStatement_31 (by decide) ?_
  refine lv_icmp_ne (tgt := 40) hx hb dX6_isStatement_32 (by decide) (fun hc32 => ?_) (fun hc32 => ?_)
  · have h := if_f h hc32
    refine lv_iload_n hx hb dX6_isStatement_40 rfl (lv_at hl 1 rfl) ?_
    refine lv_iconst (v := (1 : Int32)) hx hb dX6_isStatement_41 (by decide) ?_
    refine lv_icmp_eq (tgt := 50) hx hb dX6_isStatement_42 (by decide) (fun hc42 => ?_) (fun hc42 => ?_)
    · have h := if_t h hc42
      exact w_X6_isStatement_b50 X a_t a_now a_tape a_words a_refused a_kept a_mind a_wCell a_wFaces a_wTurns a_wSign a_wBy a_wFell a_telling a_holds a_sizes a_elements a_moved a_above a_out a_first c_tape c_words res c_t c_now l1 _ _ _ h hP hD hS (lv_sub hl [0, 1] rfl)
    · have h := if_f h hc42
      refine lv_iload_n hx hb dX6_isStatement_45 rfl (lv_at hl 1 rfl) ?_
      refine lv_iconst (v := (2 : Int32)) hx hb dX6_isStatement_46 (by decide) ?_
      refine lv_icmp_ne (tgt := 89) hx hb dX6_isStatement_47 (by decide) (fun hc47 => ?_) (fun hc47 => ?_)
      · have h := if_f h hc47
        refine lv_iload_n hx hb dX6_isStatement_89 rfl (lv_at hl 1 rfl) ?_
        refine lv_if_ne (tgt := 98) hx hb dX6_isStatement_90 (by decide) (fun hc90 => ?_) (fun hc90 => ?_)
        · have h := if_f h hc90
          refine lv_bipush (v := (91 : Int32)) hx hb dX6_isStatement_98 (by decide) ?_
          refine lv_iload_n hx hb dX6_isStatement_100 rfl (lv_at hl 1 rfl) ?_
          refine lv_iadd hx hb dX6_isStatement_101 ?_
          refine lv_iconst (v := (5 : Int32)) hx hb dX6_isStatement_102 (by decide) ?_
          refine lv_isub hx hb dX6_isStatement_103 ?_
          exact w_X6_isStatement_b104 X a_t a_now a_tape a_words a_refused a_kept a_mind a_wCell a_wFaces a_wTurns a_wSign a_wBy a_wFell a_telling a_holds a_sizes a_elements a_moved a_above a_out a_first c_tape c_words res c_t c_now l1 (((91 : Int32) + l1) - (5 : Int32)) _ _ _ h hP hD hS (lv_sub hl [0, 1] rfl)
        · have h := if_t h hc90
          refine lv_bipush (v := (90 : Int32)) hx hb dX6_isStatement_93 (by decide) ?_
          refine lv_goto (tgt := 104) hx hb dX6_isStatement_95 (by decide) ?_
          exact w_X6_isStatement_b104 X a_t a_now a_tape a_words a_refused a_kept a_mind a_wCell a_wFaces a_wTurns a_wSign a_wBy a_wFell a_telling a_holds a_sizes a_elements a_moved a_above a_out a_first c_tape c_words res c_t c_now l1 (90 : Int32) _ _ _ h hP hD hS (lv_sub hl [0, 1] rfl)
      · have h := if_t h hc47
        exact w_X6_isStatement_b50 X a_t a_now a_tape a_words a_refused a_kept a_mind a_wCell a_wFaces a_wTurns a_wSign a_wBy a_wFell a_telling a_holds a_sizes a_elements a_moved a_above a_out a_first c_tape c_words res c_t c_now l1 _ _ _ h hP hD hS (lv_sub hl [0, 1] rfl)
  · have h := if_t h hc32
    refine lv_aload_n hx hb dX6_isStatement_35 rfl (lv_at hl 0 rfl) ?_
    obtain ⟨v1, hv1, h⟩ := bind_of h
    refine after_i X (run_V X (c_X6_isPersonStatement l E a_t a_now a_tape a_refused a_kept a_mind a_words a_wCell a_wFaces a_wTurns a_wSign a_wBy a_wFell a_telling a_holds a_sizes a_elements a_moved a_above a_out a_first c_t c_now c_tape H.size v1 hv1) (cwV 0 hts gX6_isStatement_X6_isPersonStatement rfl rfl rfl hV_X6_isPersonStatement ⟨(Nat.le_of_ble_eq_true rfl), (Nat.le_of_ble_eq_true rfl)⟩) hP hD hS [0, 1, 2] rfl rfl hl.1 (ci := 6) rfl rfl rfl (rest := []) rfl rfl (Nat.le_of_ble_eq_true rfl) dX6_isStatement_36) hP hD hS [0, 1, 2] [3] [1, 2, 3, 0] rfl rfl rfl (by decide) rfl (ws1 := (W_X6_isStatement E a_t a_now a_tape a_words a_refused a_kept a_mind a_wCell a_wFaces a_wTurns a_wSign a_wBy a_wFell a_telling a_holds a_sizes a_elements a_moved a_above a_out a_first (v1.2.1) (v1.2.2) c_tape c_words)) rfl (fun H locs hP hD hS => ?_)
    obtain ⟨hz39, h⟩ := chk_of h
    obtain rfl := Option.some.inj h
    exact ret_z X dX6_isStatement_39 hz39 hP hD hS rfl
set_option maxRecDepth 100000 in
set_option maxHeartbeats 4000000 in
theorem w_X6_isStatement (X : Ctx p m meth c cX6_isStatement 4 ((some .boolean)) s args wsX6_isStatement RX6 E A) (a_t : Nat) (a_now : Nat) (a_tape : Nat) (a_words : Nat) (a_refused : Nat) (a_kept : Nat) (a_mind : Nat) (a_wCell : Nat) (a_wFaces : Nat) (a_wTurns : Nat) (a_wSign : Nat) (a_wBy : Nat) (a_wFell : Nat) (a_telling : Nat) (a_holds : Nat) (a_sizes : Nat) (a_elements : Nat) (a_moved : Nat) (a_above : Nat) (a_out : Nat) (a_first : Nat) (c_tape : Nat → Int32) (c_words : Nat → Int32) (res : Int32 × (Nat → Int32) × (Nat → Int32)) (c_t : Nat → Int32) (c_now : Nat → Int32) (ls : Array Slot) (H : Heap) (locs : List Loc) (h : f_X6_isStatement c_t c_now c_tape c_words = some res) (hP : va_P E.1 vwCl (W_X6_isStatement E a_t a_now a_tape a_words a_refused a_kept a_mind a_wCell a_wFaces a_wTurns a_wSign a_wBy a_wFell a_telling a_holds a_sizes a_elements a_moved a_above a_out a_first c_t c_now c_tape c_words) H) (hD : va_D A (W_X6_isStatement E a_t a_now a_tape a_words a_refused a_kept a_mind a_wCell a_wFaces a_wTurns a_wSign a_wBy a_wFell a_telling a_holds a_sizes a_elements a_moved a_above a_out a_first c_t c_now c_tape c_words)) (hS : va_S A s.heap H locs) (hl : lv_has ls 4 [(0, .ref a_t)]) : W p l e r_X6_isStatement s m args below meth c H locs 0 0 (MQ below (qI E A (res.1) (W_X6_isStatement E a_t a_now a_tape a_words a_refused a_kept a_mind a_wCell a_wFaces a_wTurns a_wSign a_wBy a_wFell a_telling a_holds a_sizes a_elements a_moved a_above a_out a_first (res.2.1) (res.2.2) c_tape c_words)) args s 0 0 A) (F0 m 0 ls []) := by
  obtain ⟨hx, hb, hml, hr, hlk, hown, hts, hG, hA⟩ := id X
  have hK := hG.1
  have hN := hG.2.1
  unfold f_X6_isStatement at h
  refine lv_aload_n hx hb dX6_isStatement_0 rfl (lv_at hl 0 rfl) ?_
  obtain ⟨v1, hv1, h⟩ := bind_of h
  refine after_v X (run_V X (c_X6_next l E a_t a_tape a_refused a_now a_kept a_mind a_words a_wCell a_wFaces a_wTurns a_wSign a_wBy a_wFell a_telling a_holds a_sizes a_elements a_moved a_above a_out a_first c_t c_tape H.size v1 hv1) (cwV 0 hts gX6_isStatement_X6_next rfl rfl rfl hV_X6_next ⟨(Nat.le_of_ble_eq_true rfl), (Nat.le_of_ble_eq_true rfl)⟩) hP hD hS [0, 2] rfl rfl hl.1 (ci := 6) rfl rfl rfl (rest := []) rfl rfl (Nat.le_of_ble_eq_true rfl) dX6_isStatement_1) hP hD hS [0, 2] [1, 3] [2, 0, 3, 1] rfl rfl rfl (by decide) rfl (ws1 := (W_X6_isStatement E a_t a_now a_tape a_words a_refused a_kept a_mind a_wCell a_wFaces a_wTurns a_wSign a_wBy a_wFell a_telling a_holds a_sizes a_elements a_moved a_above a_out a_first v1 c_now c_tape c_words)) rfl (fun H locs hP hD hS => ?_)
  refine lv_aload_n hx hb dX6_isStatement_4 rfl (lv_at hl 0 rfl) ?_
  obtain ⟨v2, hv2, h⟩ := bind_of h
  refine after_i X (run_V X (c_X6_word l E a_t a_tape a_words a_refused a_now a_kept a_mind a_wCell a_wFaces a_wTurns a_wSign a_wBy a_wFell a_telling a_holds a_sizes a_elements a_moved a_above a_out a_first v1 c_tape c_words H.size v2 hv2) (cwV 0 hts gX6_isStatement_X6_word rfl rfl rfl hV_X6_word ⟨(Nat.le_of_ble_eq_true rfl), (Nat.le_of_ble_eq_true rfl)⟩) hP hD hS [0, 2, 3] rfl rfl hl.1 (ci := 6) rfl rfl rfl (rest := []) rfl rfl (Nat.le_of_ble_eq_true rfl) dX6_isStatement_5) hP hD hS [0, 2, 3] [1] [1, 0, 2, 3] rfl rfl rfl (by decide) rfl (ws1 := (W_X6_isStatement E a_t a_now a_tape a_words a_refused a_kept a_mind a_wCell a_wFaces a_wTurns a_wSign a_wBy a_wFell a_telling a_holds a_sizes a_elements a_moved a_above a_out a_first v1 c_now c_tape c_words)) rfl (fun H locs hP hD hS => ?_)
  refine lv_istore_n (lv' := [(1, .int v2), (0, .ref a_t)]) hx hb dX6_isStatement_8 rfl hl (by decide) rfl (fun ls hl => ?_)
  refine lv_iload_n hx hb dX6_isStatement_9 rfl (lv_at hl 0 rfl) ?_
  refine lv_iconst (v := (-1 : Int32)) hx hb dX6_isStatement_10 (by decide) ?_
  refine lv_icmp_eq (tgt := 28) hx hb dX6_isStatement_11 (by decide) (fun hc11 => ?_) (fun hc11 => ?_)
  · have h := if_t h hc11
    refine lv_iconst (v := (0 : Int32)) hx hb dX6_isStatement_28 (by decide) ?_
    obtain rfl := Option.some.inj h
    exact ret_z X dX6_isStatement_29 (by decide) hP hD hS rfl
  · have h := if_f h hc11
    refine lv_iload_n hx hb dX6_isStatement_14 rfl (lv_at hl 0 rfl) ?_
    refine lv_iconst (v := (3 : Int32)) hx hb dX6_isStatement_15 (by decide) ?_
    refine lv_icmp_ne (tgt := 30) hx hb dX6_isStatement_16 (by decide) (fun hc16 => ?_) (fun hc16 => ?_)
    · have h := if_f h hc16
      exact w_X6_isStatement_b30 X a_t a_now a_tape a_words a_refused a_kept a_mind a_wCell a_wFaces a_wTurns a_wSign a_wBy a_wFell a_telling a_holds a_sizes a_elements a_moved a_above a_out a_first c_tape c_words res v1 c_now v2 _ _ _ h hP hD hS (lv_sub hl [1, 0] rfl)
    · have h := if_t h hc16
      refine lv_aload_n hx hb dX6_isStatement_19 rfl (lv_at hl 1 rfl) ?_
      obtain ⟨v3, hv3, h⟩ := bind_of h
      refine after_i X (run_V X (c_X6_many l E a_t a_now a_refused a_kept a_mind a_tape a_words a_wCell a_wFaces a_wTurns a_wSign a_wBy a_wFell a_telling a_holds a_sizes a_elements a_moved a_above a_out a_first v1 c_now H.size v3 hv3) (cwV 0 hts gX6_isStatement_X6_many rfl rfl rfl hV_X6_many ⟨(Nat.le_of_ble_eq_true rfl), (Nat.le_of_ble_eq_true rfl)⟩) hP hD hS [0, 1] rfl rfl hl.1 (ci := 6) rfl rfl rfl (rest := []) rfl rfl (Nat.le_of_ble_eq_true rfl) dX6_isStatement_20) hP hD hS [0, 1] [2, 3] [2, 3, 0, 1] rfl rfl rfl (by decide) rfl (ws1 := (W_X6_isStatement E a_t a_now a_tape a_words a_refused a_kept a_mind a_wCell a_wFaces a_wTurns a_wSign a_wBy a_wFell a_telling a_holds a_sizes a_elements a_moved a_above a_out a_first v1 c_now c_tape c_words)) rfl (fun H locs hP hD hS => ?_)
      refine lv_bipush (v := (8 : Int32)) hx hb dX6_isStatement_23 (by decide) ?_
      refine lv_icmp_ne (tgt := 30) hx hb dX6_isStatement_25 (by decide) (fun hc25 => ?_) (fun hc25 => ?_)
      · have h := if_f h hc25
        exact w_X6_isStatement_b30 X a_t a_now a_tape a_words a_refused a_kept a_mind a_wCell a_wFaces a_wTurns a_wSign a_wBy a_wFell a_telling a_holds a_sizes a_elements a_moved a_above a_out a_first c_tape c_words res v1 c_now v2 _ _ _ h hP hD hS (lv_sub hl [1, 0] rfl)
      · have h := if_t h hc25
        refine lv_iconst (v := (0 : Int32)) hx hb dX6_isStatement_28 (by decide) ?_
        obtain rfl := Option.some.inj h
        exact ret_z X dX6_isStatement_29 (by decide) hP hD hS rfl
end
set_option maxRecDepth 100000 in
theorem c_X6_isStatement (l : Launch) (E : Env0) (a_t : Nat) (a_now : Nat) (a_tape : Nat) (a_words : Nat) (a_refused : Nat) (a_kept : Nat) (a_mind : Nat) (a_wCell : Nat) (a_wFaces : Nat) (a_wTurns : Nat) (a_wSign : Nat) (a_wBy : Nat) (a_wFell : Nat) (a_telling : Nat) (a_holds : Nat) (a_sizes : Nat) (a_elements : Nat) (a_moved : Nat) (a_above : Nat) (a_out : Nat) (a_first : Nat) (c_t : Nat → Int32) (c_now : Nat → Int32) (c_tape : Nat → Int32) (c_words : Nat → Int32) (sz : Nat) (res : Int32 × (Nat → Int32) × (Nat → Int32)) (h : f_X6_isStatement c_t c_now c_tape c_words = some res) : Met l yX6_isStatement wsX6_isStatement r_X6_isStatement (cPre E [.ref a_t] (W_X6_isStatement E a_t a_now a_tape a_words a_refused a_kept a_mind a_wCell a_wFaces a_wTurns a_wSign a_wBy a_wFell a_telling a_holds a_sizes a_elements a_moved a_above a_out a_first c_t c_now c_tape c_words) sz) (qI E (va_A (W_X6_isStatement E a_t a_now a_tape a_words a_refused a_kept a_mind a_wCell a_wFaces a_wTurns a_wSign a_wBy a_wFell a_telling a_holds a_sizes a_elements a_moved a_above a_out a_first c_t c_now c_tape c_words) sz) (res.1) (W_X6_isStatement E a_t a_now a_tape a_words a_refused a_kept a_mind a_wCell a_wFaces a_wTurns a_wSign a_wBy a_wFell a_telling a_holds a_sizes a_elements a_moved a_above a_out a_first (res.2.1) (res.2.2) c_tape c_words)) 0 0 (va_A (W_X6_isStatement E a_t a_now a_tape a_words a_refused a_kept a_mind a_wCell a_wFaces a_wTurns a_wSign a_wBy a_wFell a_telling a_holds a_sizes a_elements a_moved a_above a_out a_first c_t c_now c_tape c_words) sz) :=
  met_of (Qc := fun A => qI E A (res.1) (W_X6_isStatement E a_t a_now a_tape a_words a_refused a_kept a_mind a_wCell a_wFaces a_wTurns a_wSign a_wBy a_wFell a_telling a_holds a_sizes a_elements a_moved a_above a_out a_first (res.2.1) (res.2.2) c_tape c_words)) (by decide) rfl (Nat.le_of_ble_eq_true rfl) (fun p e s m args below meth c X hP hD hS ls hl => w_X6_isStatement X a_t a_now a_tape a_words a_refused a_kept a_mind a_wCell a_wFaces a_wTurns a_wSign a_wBy a_wFell a_telling a_holds a_sizes a_elements a_moved a_above a_out a_first c_tape c_words res c_t c_now ls _ _ h hP hD hS hl)
-- ===== X6_island
abbrev W_X6_island (E : Env0) (a_t : Nat) (a_mind : Nat) (a_now : Nat) (a_refused : Nat) (a_tape : Nat) (a_words : Nat) (a_kept : Nat) (a_wCell : Nat) (a_wFaces : Nat) (a_wTurns : Nat) (a_wSign : Nat) (a_wBy : Nat) (a_wFell : Nat) (a_telling : Nat) (a_holds : Nat) (a_sizes : Nat) (a_elements : Nat) (a_moved : Nat) (a_above : Nat) (a_out : Nat) (a_first : Nat) (c_t : Nat → Int32) (c_mind : Nat → Int32) (c_now : Nat → Int32) (c_refused : Nat → Int32) (c_tape : Nat → Int32) (c_words : Nat → Int32) : va_W := [(a_t, .inr (6, [.ref a_refused, .ref a_now, .ref a_kept, .ref a_mind, .int (c_t 4), .ref a_tape, .int (c_t 6), .int (c_t 7), .int (c_t 8), .int (c_t 9), .ref a_words, .ref a_wCell, .ref a_wFaces, .ref a_wTurns, .ref a_wSign, .ref a_wBy, .ref a_wFell, .int (c_t 17), .ref a_telling, .ref a_holds, .ref a_sizes, .ref a_elements, .ref a_moved, .ref a_above, .ref a_out, .ref a_first])), (a_mind, .inl (eI E, 97, .inl c_mind)), (a_now, .inl (eI E, 97, .inl c_now)), (a_refused, .inl (eI E, 7, .inl c_refused)), (a_tape, .inl (eI E, 250, .inl c_tape)), (a_words, .inl (eC E, 48, .inl c_words))]
abbrev r_X6_island : Room := { frames := 7, cells := 0, slots := 0, locals := 158 }
theorem hd_X6_island : yX6_island.cls ≠ "java/lang/invoke/MethodHandle" ∧ yX6_island.cls ≠ "java/lang/invoke/VarHandle" ∧ (parseMethodDescriptor yX6_island.desc).map (fun d => d.parameters.length) = some 0 := by decide +kernel
theorem hV_X6_island : yX6_island.cls = RX6 ∧ yX6_island.cls ≠ "java/lang/invoke/MethodHandle" ∧ yX6_island.cls ≠ "java/lang/invoke/VarHandle" ∧ (parseMethodDescriptor yX6_island.desc).map (fun d => d.parameters.length) = some 0 := ⟨rfl, hd_X6_island⟩
theorem iX6_island_X6 : ∀ w ∈ wsX60, w ∈ wsX6_island := fun _ h => List.mem_cons_of_mem _ (List.mem_append_right _ (h))
section
variable {p : Program} {l : Launch} {e : Env} {s : State} {m : MethodId} {args : Array Value} {below : List Frame} {meth : Method} {c : Code} {E : Env0} {A : Nat → Prop}
set_option maxRecDepth 100000 in
set_option maxHeartbeats 4000000 in
theorem w_X6_island_b68 (X : Ctx p m meth c cX6_island 3 ((some .int)) s args wsX6_island RX6 E A) (a_t : Nat) (a_mind : Nat) (a_now : Nat) (a_refused : Nat) (a_tape : Nat) (a_words : Nat) (a_kept : Nat) (a_wCell : Nat) (a_wFaces : Nat) (a_wTurns : Nat) (a_wSign : Nat) (a_wBy : Nat) (a_wFell : Nat) (a_telling : Nat) (a_holds : Nat) (a_sizes : Nat) (a_elements : Nat) (a_moved : Nat) (a_above : Nat) (a_out : Nat) (a_first : Nat) (c_tape : Nat → Int32) (c_words : Nat → Int32) (res : Int32 × (Nat → Int32) × (Nat → Int32) × (Nat → Int32) × (Nat → Int32)) (k23 : (Nat → Int32) → (Nat → Int32) → (Nat → Int32) → (Nat → Int32) → Int32 → Int32 → Option (Int32 × (Nat → Int32) × (Nat → Int32) × (Nat → Int32) × (Nat → Int32))) (hk23 : ∀ (c_t : Nat → Int32) (c_mind : Nat → Int32) (c_now : Nat → Int32) (c_refused : Nat → Int32) (l1 : Int32) (l2 : Int32) (ls : Array Slot) (H : Heap) (locs : List Loc), k23 c_t c_mind c_now c_refused l1 l2 = some res → va_P E.1 vwCl (W_X6_island E a_t a_mind a_now a_refused a_tape a_words a_kept a_wCell a_wFaces a_wTurns a_wSign a_wBy a_wFell a_telling a_holds a_sizes a_elements a_moved a_above a_out a_first c_t c_mind c_now c_refused c_tape c_words) H → va_D A (W_X6_island E a_t a_mind a_now a_refused a_tape a_words a_kept a_wCell a_wFaces a_wTurns a_wSign a_wBy a_wFell a_telling a_holds a_sizes a_elements a_moved a_above a_out a_first c_t c_mind c_now c_refused c_tape c_words) → va_S A s.heap H locs → lv_has ls 3 [(0, .ref a_t), (1, .int l1), (2, .int l2)] → W p l e r_X6_island s m args below meth c H locs 0 0 (MQ below (qI E A (res.1) (W_X6_island E a_t a_mind a_now a_refused a_tape a_words a_kept a_wCell a_wFaces a_wTurns a_wSign a_wBy a_wFell a_telling a_holds a_sizes a_elements a_moved a_above a_out a_first (res.2.1) (res.2.2.1) (res.2.2.2.1) (res.2.2.2.2) c_tape c_words)) args s 0 0 A) (F0 m 23 ls [])) (c_t : Nat → Int32) (c_mind : Nat → Int32) (c_now : Nat → Int32) (c_refused : Nat → Int32) (l1 : Int32) (s0 : Int32) (ls : Array Slot) (H : Heap) (locs : List Loc) (h : f_X6_island_b68 c_tape c_words k23 c_t c_mind c_now c_refused l1 s0 = some res) (hP : va_P E.1 vwCl (W_X6_island E a_t a_mind a_now a_refused a_tape a_words a_kept a_wCell a_wFaces a_wTurns a_wSign a_wBy a_wFell a_telling a_holds a_sizes a_elements a_moved a_above a_out a_first c_t c_mind c_now c_refused c_tape c_words) H) (hD : va_D A (W_X6_island E a_t a_mind a_now a_refused a_tape a_words a_kept a_wCell a_wFaces a_wTurns a_wSign a_wBy a_wFell a_telling a_holds a_sizes a_elements a_moved a_above a_out a_first c_t c_mind c_now c_refused c_tape c_words)) (hS : va_S A s.heap H locs) (hl : lv_has ls 3 [(0, .ref a_t), (1, .int l1)]) : W p l e r_X6_island s m args below meth c H locs 0 0 (MQ below (qI E A (res.1) (W_X6_island E a_t a_mind a_now a_refused a_tape a_words a_kept a_wCell a_wFaces a_wTurns a_wSign a_wBy a_wFell a_telling a_holds a_sizes a_elements a_moved a_above a_out a_first (res.2.1) (res.2.2.1) (res.2.2.2.1) (res.2.2.2.2) c_tape c_words)) args s 0 0 A) (F0 m 68 ls [.int s0]) := by
  obtain ⟨hx, hb, hml, hr, hlk, hown, hts, hG, hA⟩ := id X
  have hK := hG.1
  have hN := hG.2.1
  unfold f_X6_island_b68 at h
  refine lv_istore_n (lv' := [(2, .int s0), (0, .ref a_t), (1, .int l1)]) hx hb dX6_island_68 rfl hl (by decide) rfl (fun ls hl => ?_)
  refine lv_goto (tgt := 23) hx hb dX6_island_69 (by decide) ?_
  exact hk23 c_t c_mind c_now c_refused l1 s0 _ _ _ h hP hD hS (lv_sub hl [1, 2, 0] rfl)
set_option maxRecDepth 100000 in
set_option maxHeartbeats 4000000 in
theorem w_X6_island_b67 (X : Ctx p m meth c cX6_island 3 ((some .int)) s args wsX6_island RX6 E A) (a_t : Nat) (a_mind : Nat) (a_now : Nat) (a_refused : Nat) (a_tape : Nat) (a_words : Nat) (a_kept : Nat) (a_wCell : Nat) (a_wFaces : Nat) (a_wTurns : Nat) (a_wSign : Nat) (a_wBy : Nat) (a_wFell : Nat) (a_telling : Nat) (a_holds : Nat) (a_sizes : Nat) (a_elements : Nat) (a_moved : Nat) (a_above : Nat) (a_out : Nat) (a_first : Nat) (c_tape : Nat → Int32) (c_words : Nat → Int32) (res : Int32 × (Nat → Int32) × (Nat → Int32) × (Nat → Int32) × (Nat → Int32)) (k23 : (Nat → Int32) → (Nat → Int32) → (Nat → Int32) → (Nat → Int32) → Int32 → Int32 → Option (Int32 × (Nat → Int32) × (Nat → Int32) × (Nat → Int32) × (Nat → Int32))) (hk23 : ∀ (c_t : Nat → Int32) (c_mind : Nat → Int32) (c_now : Nat → Int32) (c_refused : Nat → Int32) (l1 : Int32) (l2 : Int32) (ls : Array Slot) (H : Heap) (locs : List Loc), k23 c_t c_mind c_now c_refused l1 l2 = some res → va_P E.1 vwCl (W_X6_island E a_t a_mind a_now a_refused a_tape a_words a_kept a_wCell a_wFaces a_wTurns a_wSign a_wBy a_wFell a_telling a_holds a_sizes a_elements a_moved a_above a_out a_first c_t c_mind c_now c_refused c_tape c_words) H → va_D A (W_X6_island E a_t a_mind a_now a_refused a_tape a_words a_kept a_wCell a_wFaces a_wTurns a_wSign a_wBy a_wFell a_telling a_holds a_sizes a_elements a_moved a_above a_out a_first c_t c_mind c_now c_refused c_tape c_words) → va_S A s.heap H locs → lv_has ls 3 [(0, .ref a_t), (1, .int l1), (2, .int l2)] → W p l e r_X6_island s m args below meth c H locs 0 0 (MQ below (qI E A (res.1) (W_X6_island E a_t a_mind a_now a_refused a_tape a_words a_kept a_wCell a_wFaces a_wTurns a_wSign a_wBy a_wFell a_telling a_holds a_sizes a_elements a_moved a_above a_out a_first (res.2.1) (res.2.2.1) (res.2.2.2.1) (res.2.2.2.2) c_tape c_words)) args s 0 0 A) (F0 m 23 ls [])) (c_t : Nat → Int32) (c_mind : Nat → Int32) (c_now : Nat → Int32) (c_refused : Nat → Int32) (l1 : Int32) (ls : Array Slot) (H : Heap) (locs : List Loc) (h : f_X6_island_b67 c_tape c_words k23 c_t c_mind c_now c_refused l1 = some res) (hP : va_P E.1 vwCl (W_X6_island E a_t a_mind a_now a_refused a_tape a_words a_kept a_wCell a_wFaces a_wTurns a_wSign a_wBy a_wFell a_telling a_holds a_sizes a_elements a_moved a_above a_out a_first c_t c_mind c_now c_refused c_tape c_words) H) (hD : va_D A (W_X6_island E a_t a_mind a_now a_refused a_tape a_words a_kept a_wCell a_wFaces a_wTurns a_wSign a_wBy a_wFell a_telling a_holds a_sizes a_elements a_moved a_above a_out a_first c_t c_mind c_now c_refused c_tape c_words)) (hS : va_S A s.heap H locs) (hl : lv_has ls 3 [(0, .ref a_t), (1, .int l1)]) : W p l e r_X6_island s m args below meth c H locs 0 0 (MQ below (qI E A (res.1) (W_X6_island E a_t a_mind a_now a_refused a_tape a_words a_kept a_wCell a_wFaces a_wTurns a_wSign a_wBy a_wFell a_telling a_holds a_sizes a_elements a_moved a_above a_out a_first (res.2.1) (res.2.2.1) (res.2.2.2.1) (res.2.2.2.2) c_tape c_words)) args s 0 0 A) (F0 m 67 ls []) := by
  obtain ⟨hx, hb, hml, hr, hlk, hown, hts, hG, hA⟩ := id X
  have hK := hG.1
  have hN := hG.2.1
  unfold f_X6_island_b67 at h
  refine lv_iconst (v := (0 : Int32)) hx hb dX6_island_67 (by decide) ?_
  exact w_X6_island_b68 X a_t a_mind a_now a_refused a_tape a_words a_kept a_wCell a_wFaces a_wTurns a_wSign a_wBy a_wFell a_telling a_holds a_sizes a_elements a_moved a_above a_out a_first c_tape c_words res k23 hk23 c_t c_mind c_now c_refused l1 (0 : Int32) _ _ _ h hP hD hS (lv_sub hl [0, 1] rfl)
set_option maxRecDepth 100000 in
set_option maxHeartbeats 4000000 in
theorem w_X6_island_b23 (X : Ctx p m meth c cX6_island 3 ((some .int)) s args wsX6_island RX6 E A) (a_t : Nat) (a_mind : Nat) (a_now : Nat) (a_refused : Nat) (a_tape : Nat) (a_words : Nat) (a_kept : Nat) (a_wCell : Nat) (a_wFaces : Nat) (a_wTurns : Nat) (a_wSign : Nat) (a_wBy : Nat) (a_wFell : Nat) (a_telling : Nat) (a_holds : Nat) (a_sizes : Nat) (a_elements : Nat) (a_moved : Nat) (a_above : Nat) (a_out : Nat) (a_first : Nat) (c_tape : Nat → Int32) (c_words : Nat → Int32) (res : Int32 × (Nat → Int32) × (Nat → Int32) × (Nat → Int32) × (Nat → Int32)) : ∀ (n : Nat) (c_t : Nat → Int32) (c_mind : Nat → Int32) (c_now : Nat → Int32) (c_refused : Nat → Int32) (l1 : Int32) (l2 : Int32) (ls : Array Slot) (H : Heap) (locs : List Loc), f_X6_island_b23 c_tape c_words n c_t c_mind c_now c_refused l1 l2 = some res → va_P E.1 vwCl (W_X6_island E a_t a_mind a_now a_refused a_tape a_words a_kept a_wCell a_wFaces a_wTurns a_wSign a_wBy a_wFell a_telling a_holds a_sizes a_elements a_moved a_above a_out a_first c_t c_mind c_now c_refused c_tape c_words) H → va_D A (W_X6_island E a_t a_mind a_now a_refused a_tape a_words a_kept a_wCell a_wFaces a_wTurns a_wSign a_wBy a_wFell a_telling a_holds a_sizes a_elements a_moved a_above a_out a_first c_t c_mind c_now c_refused c_tape c_words) → va_S A s.heap H locs → lv_has ls 3 [(0, .ref a_t), (1, .int l1), (2, .int l2)] → W p l e r_X6_island s m args below meth c H locs 0 0 (MQ below (qI E A (res.1) (W_X6_island E a_t a_mind a_now a_refused a_tape a_words a_kept a_wCell a_wFaces a_wTurns a_wSign a_wBy a_wFell a_telling a_holds a_sizes a_elements a_moved a_above a_out a_first (res.2.1) (res.2.2.1) (res.2.2.2.1) (res.2.2.2.2) c_tape c_words)) args s 0 0 A) (F0 m 23 ls []) := by
  obtain ⟨hx, hb, hml, hr, hlk, hown, hts, hG, hA⟩ := id X
  have hK := hG.1
  have hN := hG.2.1
  intro n
  induction n with
  | zero =>
    intro c_t c_mind c_now c_refused l1 l2 ls H locs h
    exact absurd (show (none : Option (Int32 × (Nat → Int32) × (Nat → Int32) × (Nat → Int32) × (Nat → Int32))) = some res from h) (by intro q; cases q)
  | succ n ih =>
    intro c_t c_mind c_now c_refused l1 l2 ls H locs h hP hD hS hl
    rw [f_X6_island_b23] at h
    refine lv_iload_n hx hb dX6_island_23 rfl (lv_at hl 2 rfl) ?_
    refine lv_if_eq (tgt := 72) hx hb dX6_island_24 (by decide) (fun hc24 => ?_) (fun hc24 => ?_)
    · have h := if_t h hc24
      refine lv_aload_n hx hb dX6_island_72 rfl (lv_at hl 0 rfl) ?_
      refine va_get (D := E.1) (ci := 6) (v := .ref a_mind) (C := RX6) (T := TX6) (N := 26) hx hb hts iX6_island_X6 hown hK hP 0 rfl rfl 3 (by decide) (hts (.fieldLink RX6 23 "LeftIsAgreedOnModel" "mind" "[I") (List.mem_of_getElem? (i := 2) rfl)) (fun _ h9 => h9) rfl dX6_island_73 ?_
      refine lv_aload_n hx hb dX6_island_76 rfl (lv_at hl 0 rfl) ?_
      refine va_get (D := E.1) (ci := 6) (v := .ref a_now) (C := RX6) (T := TX6) (N := 26) hx hb hts iX6_island_X6 hown hK hP 0 rfl rfl 1 (by decide) (hts (.fieldLink RX6 17 "LeftIsAgreedOnModel" "now" "[I") (List.mem_of_getElem? (i := 1) rfl)) (fun _ h9 => h9) rfl dX6_island_77 ?_
      obtain ⟨v1, hv1, h⟩ := bind_of h
      refine after_v X (run_S X (c_X6_move l E a_mind a_now c_mind c_now H.size v1 hv1) (va_cwS 2 hts gX6_island_X6_move rfl rfl rfl hd_X6_move ⟨(Nat.le_of_ble_eq_true rfl), (Nat.le_of_ble_eq_true rfl)⟩) hP hD hS [1, 2] rfl rfl hl.1 (rest := []) rfl rfl (Nat.le_of_ble_eq_true rfl) dX6_island_80) hP hD hS [1, 2] [0, 3, 4, 5] [0, 4, 5, 1, 2, 3] rfl rfl rfl (by decide) rfl (ws1 := (W_X6_island E a_t a_mind a_now a_refused a_tape a_words a_kept a_wCell a_wFaces a_wTurns a_wSign a_wBy a_wFell a_telling a_holds a_sizes a_elements a_moved a_above a_out a_first c_t c_mind v1 c_refused c_tape c_words)) rfl (fun H locs hP hD hS => ?_)
      refine lv_aload_n hx hb dX6_island_83 rfl (lv_at hl 0 rfl) ?_
      refine lv_iconst (v := (0 : Int32)) hx hb dX6_island_84 (by decide) ?_
      refine va_put (D := E.1) (ci := 6) (v := .int (0 : Int32)) (ty := .int) (C := RX6) (T := TX6) (N := 26) hx hb hts iX6_island_X6 tyX6 tyX6_ok nmX6 hown hK hP hD hS 0 rfl rfl 6 (by decide) (hts (.fieldLink RX6 132 "LeftIsAgreedOnModel" "size" "I") (List.mem_of_getElem? (i := 5) rfl)) (fun _ h9 => h9) rfl (tyX6_ok 6 (by decide)) rfl rfl (Nat.le_of_ble_eq_true rfl) dX6_island_85 (fun H locs hP hD hS => ?_)
      have hP : va_P E.1 vwCl (W_X6_island E a_t a_mind a_now a_refused a_tape a_words a_kept a_wCell a_wFaces a_wTurns a_wSign a_wBy a_wFell a_telling a_holds a_sizes a_elements a_moved a_above a_out a_first (upd c_t 6 (0 : Int32)) c_mind v1 c_refused c_tape c_words) H := hP
      have hD : va_D A (W_X6_island E a_t a_mind a_now a_refused a_tape a_words a_kept a_wCell a_wFaces a_wTurns a_wSign a_wBy a_wFell a_telling a_holds a_sizes a_elements a_moved a_above a_out a_first (upd c_t 6 (0 : Int32)) c_mind v1 c_refused c_tape c_words) := hD
      refine lv_aload_n hx hb dX6_island_88 rfl (lv_at hl 0 rfl) ?_
      refine lv_bipush (v := (-2 : Int32)) hx hb dX6_island_89 (by decide) ?_
      obtain ⟨v2, hv2, h⟩ := bind_of h
      refine after_i X (run_V X (c_X6_refuse l E a_t a_refused a_now a_kept a_mind a_tape a_words a_wCell a_wFaces a_wTurns a_wSign a_wBy a_wFell a_telling a_holds a_sizes a_elements a_moved a_above a_out a_first (-2 : Int32) (upd c_t 6 (0 : Int32)) c_refused H.size v2 hv2) (cwV 1 hts gX6_island_X6_refuse rfl rfl rfl hV_X6_refuse ⟨(Nat.le_of_ble_eq_true rfl), (Nat.le_of_ble_eq_true rfl)⟩) hP hD hS [0, 3] rfl rfl hl.1 (ci := 6) rfl rfl rfl (rest := []) rfl rfl (Nat.le_of_ble_eq_true rfl) dX6_island_91) hP hD hS [0, 3] [1, 2, 4, 5] [4, 0, 1, 5, 2, 3] rfl rfl rfl (by decide) rfl (ws1 := (W_X6_island E a_t a_mind a_now a_refused a_tape a_words a_kept a_wCell a_wFaces a_wTurns a_wSign a_wBy a_wFell a_telling a_holds a_sizes a_elements a_moved a_above a_out a_first (upd c_t 6 (0 : Int32)) c_mind v1 (v2.2) c_tape c_words)) rfl (fun H locs hP hD hS => ?_)
      refine lv_pop hx hb dX6_island_94 rfl ?_
      refine lv_bipush (v := (-20 : Int32)) hx hb dX6_island_95 (by decide) ?_
      refine lv_aload_n hx hb dX6_island_97 rfl (lv_at hl 0 rfl) ?_
      refine va_get (D := E.1) (ci := 6) (v := .int ((upd c_t 6 (0 : Int32)) 8)) (C := RX6) (T := TX6) (N := 26) hx hb hts iX6_island_X6 hown hK hP 0 rfl rfl 8 (by decide) (hts (.fieldLink RX6 147 "LeftIsAgreedOnModel" "from" "I") (List.mem_of_getElem? (i := 6) rfl)) (fun _ h9 => h9) rfl dX6_island_98 ?_
      refine lv_isub hx hb dX6_island_101 ?_
      obtain rfl := Option.some.inj h
      exact ret_i X dX6_island_102 hP hD hS rfl
    · have h := if_f h hc24
      refine lv_iinc (v := (l1 + (1 : Int32))) (lv' := [(1, .int (l1 + (1 : Int32))), (0, .ref a_t), (2, .int l2)]) hx hb dX6_island_27 hl (k := 1) rfl rfl (by decide) rfl (fun ls hl => ?_)
      refine lv_aload_n hx hb dX6_island_30 rfl (lv_at hl 1 rfl) ?_
      obtain ⟨v3, hv3, h⟩ := bind_of h
      refine after_v X (run_V X (c_X6_next l E a_t a_tape a_refused a_now a_kept a_mind a_words a_wCell a_wFaces a_wTurns a_wSign a_wBy a_wFell a_telling a_holds a_sizes a_elements a_moved a_above a_out a_first c_t c_tape H.size v3 hv3) (cwV 0 hts gX6_island_X6_next rfl rfl rfl hV_X6_next ⟨(Nat.le_of_ble_eq_true rfl), (Nat.le_of_ble_eq_true rfl)⟩) hP hD hS [0, 4] rfl rfl hl.1 (ci := 6) rfl rfl rfl (rest := []) rfl rfl (Nat.le_of_ble_eq_true rfl) dX6_island_31) hP hD hS [0, 4] [1, 2, 3, 5] [4, 0, 1, 2, 5, 3] rfl rfl rfl (by decide) rfl (ws1 := (W_X6_island E a_t a_mind a_now a_refused a_tape a_words a_kept a_wCell a_wFaces a_wTurns a_wSign a_wBy a_wFell a_telling a_holds a_sizes a_elements a_moved a_above a_out a_first v3 c_mind c_now c_refused c_tape c_words)) rfl (fun H locs hP hD hS => ?_)
      refine lv_aload_n hx hb dX6_island_34 rfl (lv_at hl 1 rfl) ?_
      refine va_get (D := E.1) (ci := 6) (v := .int (v3 9)) (C := RX6) (T := TX6) (N := 26) hx hb hts iX6_island_X6 hown hK hP 0 rfl rfl 9 (by decide) (hts (.fieldLink RX6 153 "LeftIsAgreedOnModel" "sort" "I") (List.mem_of_getElem? (i := 4) rfl)) (fun _ h9 => h9) rfl dX6_island_35 ?_
      refine lv_if_ne (tgt := 48) hx hb dX6_island_38 (by decide) (fun hc38 => ?_) (fun hc38 => ?_)
      · have h := if_f h hc38
        refine lv_aload_n hx hb dX6_island_48 rfl (lv_at hl 1 rfl) ?_
        refine va_get (D := E.1) (ci := 6) (v := .int (v3 9)) (C := RX6) (T := TX6) (N := 26) hx hb hts iX6_island_X6 hown hK hP 0 rfl rfl 9 (by decide) (hts (.fieldLink RX6 153 "LeftIsAgreedOnModel" "sort" "I") (List.mem_of_getElem? (i := 4) rfl)) (fun _ h9 => h9) rfl dX6_island_49 ?_
        refine lv_iconst (v := (3 : Int32)) hx hb dX6_island_52 (by decide) ?_
        refine lv_icmp_ne (tgt := 67) hx hb dX6_island_53 (by decide) (fun hc53 => ?_) (fun hc53 => ?_)
        · have h := if_f h hc53
          exact w_X6_island_b67 X a_t a_mind a_now a_refused a_tape a_words a_kept a_wCell a_wFaces a_wTurns a_wSign a_wBy a_wFell a_telling a_holds a_sizes a_elements a_moved a_above a_out a_first c_tape c_words res (f_X6_island_b23 c_tape c_words n) ih v3 c_mind c_now c_refused (l1 + (1 : Int32)) _ _ _ h hP hD hS (lv_sub hl [1, 0] rfl)
        · have h := if_t h hc53
          refine lv_aload_n hx hb dX6_island_56 rfl (lv_at hl 1 rfl) ?_
          obtain ⟨v4, hv4, h⟩ := bind_of h
          refine after_i X (run_V X (c_X6_isStatement l E a_t a_now a_tape a_words a_refused a_kept a_mind a_wCell a_wFaces a_wTurns a_wSign a_wBy a_wFell a_telling a_holds a_sizes a_elements a_moved a_above a_out a_first v3 c_now c_tape c_words H.size v4 hv4) (cwV 0 hts gX6_island_X6_isStatement rfl rfl rfl hV_X6_isStatement ⟨(Nat.le_of_ble_eq_true rfl), (Nat.le_of_ble_eq_true rfl)⟩) hP hD hS [0, 2, 4, 5] rfl rfl hl.1 (ci := 6) rfl rfl rfl (rest := []) rfl rfl (Nat.le_of_ble_eq_true rfl) dX6_island_57) hP hD hS [0, 2, 4, 5] [1, 3] [2, 0, 3, 1, 4, 5] rfl rfl rfl (by decide) rfl (ws1 := (W_X6_island E a_t a_mind a_now a_refused a_tape a_words a_kept a_wCell a_wFaces a_wTurns a_wSign a_wBy a_wFell a_telling a_holds a_sizes a_elements a_moved a_above a_out a_first (v4.2.1) c_mind (v4.2.2) c_refused c_tape c_words)) rfl (fun H locs hP hD hS => ?_)
          refine lv_if_eq (tgt := 67) hx hb dX6_island_60 (by decide) (fun hc60 => ?_) (fun hc60 => ?_)
          · have h := if_t h hc60
            exact w_X6_island_b67 X a_t a_mind a_now a_refused a_tape a_words a_kept a_wCell a_wFaces a_wTurns a_wSign a_wBy a_wFell a_telling a_holds a_sizes a_elements a_moved a_above a_out a_first c_tape c_words res (f_X6_island_b23 c_tape c_words n) ih (v4.2.1) c_mind (v4.2.2) c_refused (l1 + (1 : Int32)) _ _ _ h hP hD hS (lv_sub hl [1, 0] rfl)
          · have h := if_f h hc60
            refine lv_iconst (v := (1 : Int32)) hx hb dX6_island_63 (by decide) ?_
            refine lv_goto (tgt := 68) hx hb dX6_island_64 (by decide) ?_
            exact w_X6_island_b68 X a_t a_mind a_now a_refused a_tape a_words a_kept a_wCell a_wFaces a_wTurns a_wSign a_wBy a_wFell a_telling a_holds a_sizes a_elements a_moved a_above a_out a_first c_tape c_words res (f_X6_island_b23 c_tape c_words n) ih (v4.2.1) c_mind (v4.2.2) c_refused (l1 + (1 : Int32)) (1 : Int32) _ _ _ h hP hD hS (lv_sub hl [1, 0] rfl)
      · have h := if_t h hc38
        refine lv_aload_n hx hb dX6_island_41 rfl (lv_at hl 1 rfl) ?_
        refine lv_iconst (v := (0 : Int32)) hx hb dX6_island_42 (by decide) ?_
        refine va_put (D := E.1) (ci := 6) (v := .int (0 : Int32)) (ty := .int) (C := RX6) (T := TX6) (N := 26) hx hb hts iX6_island_X6 tyX6 tyX6_ok nmX6 hown hK hP hD hS 0 rfl rfl 6 (by decide) (hts (.fieldLink RX6 132 "LeftIsAgreedOnModel" "size" "I") (List.mem_of_getElem? (i := 5) rfl)) (fun _ h9 => h9) rfl (tyX6_ok 6 (by decide)) rfl rfl (Nat.le_of_ble_eq_true rfl) dX6_island_43 (fun H locs hP hD hS => ?_)
        have hP : va_P E.1 vwCl (W_X6_island E a_t a_mind a_now a_refused a_tape a_words a_kept a_wCell a_wFaces a_wTurns a_wSign a_wBy a_wFell a_telling a_holds a_sizes a_elements a_moved a_above a_out a_first (upd v3 6 (0 : Int32)) c_mind c_now c_refused c_tape c_words) H := hP
        have hD : va_D A (W_X6_island E a_t a_mind a_now a_refused a_tape a_words a_kept a_wCell a_wFaces a_wTurns a_wSign a_wBy a_wFell a_telling a_holds a_sizes a_elements a_moved a_above a_out a_first (upd v3 6 (0 : Int32)) c_mind c_now c_refused c_tape c_words) := hD
        refine lv_iload_n hx hb dX6_island_46 rfl (lv_at hl 0 rfl) ?_
        obtain rfl := Option.some.inj h
        exact ret_i X dX6_island_47 hP hD hS rfl
set_option maxRecDepth 100000 in
set_option maxHeartbeats 4000000 in
theorem w_X6_island (X : Ctx p m meth c cX6_island 3 ((some .int)) s args wsX6_island RX6 E A) (a_t : Nat) (a_mind : Nat) (a_now : Nat) (a_refused : Nat) (a_tape : Nat) (a_words : Nat) (a_kept : Nat) (a_wCell : Nat) (a_wFaces : Nat) (a_wTurns : Nat) (a_wSign : Nat) (a_wBy : Nat) (a_wFell : Nat) (a_telling : Nat) (a_holds : Nat) (a_sizes : Nat) (a_elements : Nat) (a_moved : Nat) (a_above : Nat) (a_out : Nat) (a_first : Nat) (c_tape : Nat → Int32) (c_words : Nat → Int32) (res : Int32 × (Nat → Int32) × (Nat → Int32) × (Nat → Int32) × (Nat → Int32)) (c_t : Nat → Int32) (c_mind : Nat → Int32) (c_now : Nat → Int32) (c_refused : Nat → Int32) (ls : Array Slot) (H : Heap) (locs : List Loc) (h : f_X6_island c_t c_mind c_now c_refused c_tape c_words = some res) (hP : va_P E.1 vwCl (W_X6_island E a_t a_mind a_now a_refused a_tape a_words a_kept a_wCell a_wFaces a_wTurns a_wSign a_wBy a_wFell a_telling a_holds a_sizes a_elements a_moved a_above a_out a_first c_t c_mind c_now c_refused c_tape c_words) H) (hD : va_D A (W_X6_island E a_t a_mind a_now a_refused a_tape a_words a_kept a_wCell a_wFaces a_wTurns a_wSign a_wBy a_wFell a_telling a_holds a_sizes a_elements a_moved a_above a_out a_first c_t c_mind c_now c_refused c_tape c_words)) (hS : va_S A s.heap H locs) (hl : lv_has ls 3 [(0, .ref a_t)]) : W p l e r_X6_island s m args below meth c H locs 0 0 (MQ below (qI E A (res.1) (W_X6_island E a_t a_mind a_now a_refused a_tape a_words a_kept a_wCell a_wFaces a_wTurns a_wSign a_wBy a_wFell a_telling a_holds a_sizes a_elements a_moved a_above a_out a_first (res.2.1) (res.2.2.1) (res.2.2.2.1) (res.2.2.2.2) c_tape c_words)) args s 0 0 A) (F0 m 0 ls []) := by
  obtain ⟨hx, hb, hml, hr, hlk, hown, hts, hG, hA⟩ := id X
  have hK := hG.1
  have hN := hG.2.1
  unfold f_X6_island at h
  refine lv_aload_n hx hb dX6_island_0 rfl (lv_at hl 0 rfl) ?_
  refine va_get (D := E.1) (ci := 6) (v := .ref a_now) (C := RX6) (T := TX6) (N := 26) hx hb hts iX6_island_X6 hown hK hP 0 rfl rfl 1 (by decide) (hts (.fieldLink RX6 17 "LeftIsAgreedOnModel" "now" "[I") (List.mem_of_getElem? (i := 1) rfl)) (fun _ h9 => h9) rfl dX6_island_1 ?_
  refine lv_aload_n hx hb dX6_island_4 rfl (lv_at hl 0 rfl) ?_
  refine va_get (D := E.1) (ci := 6) (v := .ref a_mind) (C := RX6) (T := TX6) (N := 26) hx hb hts iX6_island_X6 hown hK hP 0 rfl rfl 3 (by decide) (hts (.fieldLink RX6 23 "LeftIsAgreedOnModel" "mind" "[I") (List.mem_of_getElem? (i := 2) rfl)) (fun _ h9 => h9) rfl dX6_island_5 ?_
  obtain ⟨v1, hv1, h⟩ := bind_of h
  refine after_v X (run_S X (c_X6_move l E a_now a_mind c_now c_mind H.size v1 hv1) (va_cwS 2 hts gX6_island_X6_move rfl rfl rfl hd_X6_move ⟨(Nat.le_of_ble_eq_true rfl), (Nat.le_of_ble_eq_true rfl)⟩) hP hD hS [2, 1] rfl rfl hl.1 (rest := []) rfl rfl (Nat.le_of_ble_eq_true rfl) dX6_island_8) hP hD hS [2, 1] [0, 3, 4, 5] [0, 5, 4, 1, 2, 3] rfl rfl rfl (by decide) rfl (ws1 := (W_X6_island E a_t a_mind a_now a_refused a_tape a_words a_kept a_wCell a_wFaces a_wTurns a_wSign a_wBy a_wFell a_telling a_holds a_sizes a_elements a_moved a_above a_out a_first c_t v1 c_now c_refused c_tape c_words)) rfl (fun H locs hP hD hS => ?_)
  refine lv_aload_n hx hb dX6_island_11 rfl (lv_at hl 0 rfl) ?_
  refine lv_iconst (v := (0 : Int32)) hx hb dX6_island_12 (by decide) ?_
  refine va_put (D := E.1) (ci := 6) (v := .int (0 : Int32)) (ty := .int) (C := RX6) (T := TX6) (N := 26) hx hb hts iX6_island_X6 tyX6 tyX6_ok nmX6 hown hK hP hD hS 0 rfl rfl 7 (by decide) (hts (.fieldLink RX6 144 "LeftIsAgreedOnModel" "at" "I") (List.mem_of_getElem? (i := 3) rfl)) (fun _ h9 => h9) rfl (tyX6_ok 7 (by decide)) rfl rfl (Nat.le_of_ble_eq_true rfl) dX6_island_13 (fun H locs hP hD hS => ?_)
  have hP : va_P E.1 vwCl (W_X6_island E a_t a_mind a_now a_refused a_tape a_words a_kept a_wCell a_wFaces a_wTurns a_wSign a_wBy a_wFell a_telling a_holds a_sizes a_elements a_moved a_above a_out a_first (upd c_t 7 (0 : Int32)) v1 c_now c_refused c_tape c_words) H := hP
  have hD : va_D A (W_X6_island E a_t a_mind a_now a_refused a_tape a_words a_kept a_wCell a_wFaces a_wTurns a_wSign a_wBy a_wFell a_telling a_holds a_sizes a_elements a_moved a_above a_out a_first (upd c_t 7 (0 : Int32)) v1 c_now c_refused c_tape c_words) := hD
  refine lv_iconst (v := (0 : Int32)) hx hb dX6_island_16 (by decide) ?_
  refine lv_istore_n (lv' := [(1, .int (0 : Int32)), (0, .ref a_t)]) hx hb dX6_island_17 rfl hl (by decide) rfl (fun ls hl => ?_)
  refine lv_aload_n hx hb dX6_island_18 rfl (lv_at hl 1 rfl) ?_
  obtain ⟨v2, hv2, h⟩ := bind_of h
  refine after_i X (run_V X (c_X6_isStatement l E a_t a_now a_tape a_words a_refused a_kept a_mind a_wCell a_wFaces a_wTurns a_wSign a_wBy a_wFell a_telling a_holds a_sizes a_elements a_moved a_above a_out a_first (upd c_t 7 (0 : Int32)) c_now c_tape c_words H.size v2 hv2) (cwV 0 hts gX6_island_X6_isStatement rfl rfl rfl hV_X6_isStatement ⟨(Nat.le_of_ble_eq_true rfl), (Nat.le_of_ble_eq_true rfl)⟩) hP hD hS [0, 2, 4, 5] rfl rfl hl.1 (ci := 6) rfl rfl rfl (rest := []) rfl rfl (Nat.le_of_ble_eq_true rfl) dX6_island_19) hP hD hS [0, 2, 4, 5] [1, 3] [2, 0, 3, 1, 4, 5] rfl rfl rfl (by decide) rfl (ws1 := (W_X6_island E a_t a_mind a_now a_refused a_tape a_words a_kept a_wCell a_wFaces a_wTurns a_wSign a_wBy a_wFell a_telling a_holds a_sizes a_elements a_moved a_above a_out a_first (v2.2.1) v1 (v2.2.2) c_refused c_tape c_words)) rfl (fun H locs hP hD hS => ?_)
  refine lv_istore_n (lv' := [(2, .int (v2.1)), (1, .int (0 : Int32)), (0, .ref a_t)]) hx hb dX6_island_22 rfl hl (by decide) rfl (fun ls hl => ?_)
  exact w_X6_island_b23 X a_t a_mind a_now a_refused a_tape a_words a_kept a_wCell a_wFaces a_wTurns a_wSign a_wBy a_wFell a_telling a_holds a_sizes a_elements a_moved a_above a_out a_first c_tape c_words res FU (v2.2.1) v1 (v2.2.2) c_refused (0 : Int32) (v2.1) _ _ _ h hP hD hS (lv_sub hl [2, 1, 0] rfl)
end
set_option maxRecDepth 100000 in
theorem c_X6_island (l : Launch) (E : Env0) (a_t : Nat) (a_mind : Nat) (a_now : Nat) (a_refused : Nat) (a_tape : Nat) (a_words : Nat) (a_kept : Nat) (a_wCell : Nat) (a_wFaces : Nat) (a_wTurns : Nat) (a_wSign : Nat) (a_wBy : Nat) (a_wFell : Nat) (a_telling : Nat) (a_holds : Nat) (a_sizes : Nat) (a_elements : Nat) (a_moved : Nat) (a_above : Nat) (a_out : Nat) (a_first : Nat) (c_t : Nat → Int32) (c_mind : Nat → Int32) (c_now : Nat → Int32) (c_refused : Nat → Int32) (c_tape : Nat → Int32) (c_words : Nat → Int32) (sz : Nat) (res : Int32 × (Nat → Int32) × (Nat → Int32) × (Nat → Int32) × (Nat → Int32)) (h : f_X6_island c_t c_mind c_now c_refused c_tape c_words = some res) : Met l yX6_island wsX6_island r_X6_island (cPre E [.ref a_t] (W_X6_island E a_t a_mind a_now a_refused a_tape a_words a_kept a_wCell a_wFaces a_wTurns a_wSign a_wBy a_wFell a_telling a_holds a_sizes a_elements a_moved a_above a_out a_first c_t c_mind c_now c_refused c_tape c_words) sz) (qI E (va_A (W_X6_island E a_t a_mind a_now a_refused a_tape a_words a_kept a_wCell a_wFaces a_wTurns a_wSign a_wBy a_wFell a_telling a_holds a_sizes a_elements a_moved a_above a_out a_first c_t c_mind c_now c_refused c_tape c_words) sz) (res.1) (W_X6_island E a_t a_mind a_now a_refused a_tape a_words a_kept a_wCell a_wFaces a_wTurns a_wSign a_wBy a_wFell a_telling a_holds a_sizes a_elements a_moved a_above a_out a_first (res.2.1) (res.2.2.1) (res.2.2.2.1) (res.2.2.2.2) c_tape c_words)) 0 0 (va_A (W_X6_island E a_t a_mind a_now a_refused a_tape a_words a_kept a_wCell a_wFaces a_wTurns a_wSign a_wBy a_wFell a_telling a_holds a_sizes a_elements a_moved a_above a_out a_first c_t c_mind c_now c_refused c_tape c_words) sz) :=
  met_of (Qc := fun A => qI E A (res.1) (W_X6_island E a_t a_mind a_now a_refused a_tape a_words a_kept a_wCell a_wFaces a_wTurns a_wSign a_wBy a_wFell a_telling a_holds a_sizes a_elements a_moved a_above a_out a_first (res.2.1) (res.2.2.1) (res.2.2.2.1) (res.2.2.2.2) c_tape c_words)) (by decide) rfl (Nat.le_of_ble_eq_true rfl) (fun p e s m args below meth c X hP hD hS ls hl => w_X6_island X a_t a_mind a_now a_refused a_tape a_words a_kept a_wCell a_wFaces a_wTurns a_wSign a_wBy a_wFell a_telling a_holds a_sizes a_elements a_moved a_above a_out a_first c_tape c_words res c_t c_mind c_now c_refused ls _ _ h hP hD hS hl)
-- ===== X6_start
abbrev W_X6_start (E : Env0) (a_t : Nat) (a_wCell : Nat) (a_wFaces : Nat) (a_wFell : Nat) (a_wTurns : Nat) (a_refused : Nat) (a_now : Nat) (a_kept : Nat) (a_mind : Nat) (a_tape : Nat) (a_words : Nat) (a_wSign : Nat) (a_wBy : Nat) (a_telling : Nat) (a_holds : Nat) (a_sizes : Nat) (a_elements : Nat) (a_moved : Nat) (a_above : Nat) (a_out : Nat) (a_first : Nat) (c_t : Nat → Int32) (c_wCell : Nat → Int32) (c_wFaces : Nat → Int32) (c_wFell : Nat → Int32) (c_wTurns : Nat → Int32) : va_W := [(a_t, .inr (6, [.ref a_refused, .ref a_now, .ref a_kept, .ref a_mind, .int (c_t 4), .ref a_tape, .int (c_t 6), .int (c_t 7), .int (c_t 8), .int (c_t 9), .ref a_words, .ref a_wCell, .ref a_wFaces, .ref a_wTurns, .ref a_wSign, .ref a_wBy, .ref a_wFell, .int (c_t 17), .ref a_telling, .ref a_holds, .ref a_sizes, .ref a_elements, .ref a_moved, .ref a_above, .ref a_out, .ref a_first])), (a_wCell, .inl (eI E, 2, .inl c_wCell)), (a_wFaces, .inl (eI E, 2, .inl c_wFaces)), (a_wFell, .inl (eI E, 2, .inl c_wFell)), (a_wTurns, .inl (eI E, 2, .inl c_wTurns))]
abbrev r_X6_start : Room := { frames := 0, cells := 0, slots := 0, locals := 0 }
theorem hd_X6_start : yX6_start.cls ≠ "java/lang/invoke/MethodHandle" ∧ yX6_start.cls ≠ "java/lang/invoke/VarHandle" ∧ (parseMethodDescriptor yX6_start.desc).map (fun d => d.parameters.length) = some 3 := by decide +kernel
theorem hV_X6_start : yX6_start.cls = RX6 ∧ yX6_start.cls ≠ "java/lang/invoke/MethodHandle" ∧ yX6_start.cls ≠ "java/lang/invoke/VarHandle" ∧ (parseMethodDescriptor yX6_start.desc).map (fun d => d.parameters.length) = some 3 := ⟨rfl, hd_X6_start⟩
theorem iX6_start_X6 : ∀ w ∈ wsX60, w ∈ wsX6_start := fun _ h => List.mem_cons_of_mem _ (List.mem_append_right _ (h))
section
variable {p : Program} {l : Launch} {e : Env} {s : State} {m : MethodId} {args : Array Value} {below : List Frame} {meth : Method} {c : Code} {E : Env0} {A : Nat → Prop}
set_option maxRecDepth 100000 in
set_option maxHeartbeats 4000000 in
theorem w_X6_start (X : Ctx p m meth c cX6_start 4 none s args wsX6_start RX6 E A) (a_t : Nat) (a_wCell : Nat) (a_wFaces : Nat) (a_wFell : Nat) (a_wTurns : Nat) (a_refused : Nat) (a_now : Nat) (a_kept : Nat) (a_mind : Nat) (a_tape : Nat) (a_words : Nat) (a_wSign : Nat) (a_wBy : Nat) (a_telling : Nat) (a_holds : Nat) (a_sizes : Nat) (a_elements : Nat) (a_moved : Nat) (a_above : Nat) (a_out : Nat) (a_first : Nat) (c_t : Nat → Int32) (res : (Nat → Int32) × (Nat → Int32) × (Nat → Int32) × (Nat → Int32)) (c_wCell : Nat → Int32) (c_wFaces : Nat → Int32) (c_wFell : Nat → Int32) (c_wTurns : Nat → Int32) (l1 : Int32) (l2 : Int32) (l3 : Int32) (ls : Array Slot) (H : Heap) (locs : List Loc) (h : f_X6_start l1 l2 l3 c_t c_wCell c_wFaces c_wFell c_wTurns = some res) (hP : va_P E.1 vwCl (W_X6_start E a_t a_wCell a_wFaces a_wFell a_wTurns a_refused a_now a_kept a_mind a_tape a_words a_wSign a_wBy a_telling a_holds a_sizes a_elements a_moved a_above a_out a_first c_t c_wCell c_wFaces c_wFell c_wTurns) H) (hD : va_D A (W_X6_start E a_t a_wCell a_wFaces a_wFell a_wTurns a_refused a_now a_kept a_mind a_tape a_words a_wSign a_wBy a_telling a_holds a_sizes a_elements a_moved a_above a_out a_first c_t c_wCell c_wFaces c_wFell c_wTurns)) (hS : va_S A s.heap H locs) (hl : lv_has ls 4 [(0, .ref a_t), (1, .int l1), (2, .int l2), (3, .int l3)]) : W p l e r_X6_start s m args below meth c H locs 0 0 (MQ below (qV E A (W_X6_start E a_t a_wCell a_wFaces a_wFell a_wTurns a_refused a_now a_kept a_mind a_tape a_words a_wSign a_wBy a_telling a_holds a_sizes a_elements a_moved a_above a_out a_first c_t (res.1) (res.2.1) (res.2.2.1) (res.2.2.2))) args s 0 0 A) (F0 m 0 ls []) := by
  obtain ⟨hx, hb, hml, hr, hlk, hown, hts, hG, hA⟩ := id X
  have hK := hG.1
  have hN := hG.2.1
  unfold f_X6_start at h
  refine lv_aload_n hx hb dX6_start_0 rfl (lv_at hl 0 rfl) ?_
  refine va_get (D := E.1) (ci := 6) (v := .ref a_wCell) (C := RX6) (T := TX6) (N := 26) hx hb hts iX6_start_X6 hown hK hP 0 rfl rfl 11 (by decide) (hts (.fieldLink RX6 33 "LeftIsAgreedOnModel" "wCell" "[I") (List.mem_of_getElem? (i := 1) rfl)) (fun _ h9 => h9) rfl dX6_start_1 ?_
  refine lv_iload_n hx hb dX6_start_4 rfl (lv_at hl 1 rfl) ?_
  refine lv_iload_n hx hb dX6_start_5 rfl (lv_at hl 2 rfl) ?_
  obtain ⟨hz6, h⟩ := chk_of h
  refine st_i X hP hD hS 1 rfl (inb.vp hz6) (k := (l1).toNatClampNeg) rfl (ws1 := (W_X6_start E a_t a_wCell a_wFaces a_wFell a_wTurns a_refused a_now a_kept a_mind a_tape a_words a_wSign a_wBy a_telling a_holds a_sizes a_elements a_moved a_above a_out a_first c_t (upd c_wCell ((l1).toNatClampNeg) l2) c_wFaces c_wFell c_wTurns)) rfl dX6_start_6 (fun H locs hP hD hS => ?_)
  refine lv_aload_n hx hb dX6_start_7 rfl (lv_at hl 0 rfl) ?_
  refine va_get (D := E.1) (ci := 6) (v := .ref a_wFaces) (C := RX6) (T := TX6) (N := 26) hx hb hts iX6_start_X6 hown hK hP 0 rfl rfl 12 (by decide) (hts (.fieldLink RX6 36 "LeftIsAgreedOnModel" "wFaces" "[I") (List.mem_of_getElem? (i := 2) rfl)) (fun _ h9 => h9) rfl dX6_start_8 ?_
  refine lv_iload_n hx hb dX6_start_11 rfl (lv_at hl 1 rfl) ?_
  refine lv_iload_n hx hb dX6_start_12 rfl (lv_at hl 3 rfl) ?_
  obtain ⟨hz13, h⟩ := chk_of h
  refine st_i X hP hD hS 2 rfl (inb.vp hz13) (k := (l1).toNatClampNeg) rfl (ws1 := (W_X6_start E a_t a_wCell a_wFaces a_wFell a_wTurns a_refused a_now a_kept a_mind a_tape a_words a_wSign a_wBy a_telling a_holds a_sizes a_elements a_moved a_above a_out a_first c_t (upd c_wCell ((l1).toNatClampNeg) l2) (upd c_wFaces ((l1).toNatClampNeg) l3) c_wFell c_wTurns)) rfl dX6_start_13 (fun H locs hP hD hS => ?_)
  refine lv_aload_n hx hb dX6_start_14 rfl (lv_at hl 0 rfl) ?_
  refine va_get (D := E.1) (ci := 6) (v := .ref a_wTurns) (C := RX6) (T := TX6) (N := 26) hx hb hts iX6_start_X6 hown hK hP 0 rfl rfl 13 (by decide) (hts (.fieldLink RX6 39 "LeftIsAgreedOnModel" "wTurns" "[I") (List.mem_of_getElem? (i := 3) rfl)) (fun _ h9 => h9) rfl dX6_start_15 ?_
  refine lv_iload_n hx hb dX6_start_18 rfl (lv_at hl 1 rfl) ?_
  refine lv_iconst (v := (0 : Int32)) hx hb dX6_start_19 (by decide) ?_
  obtain ⟨hz20, h⟩ := chk_of h
  refine st_i X hP hD hS 4 rfl (inb.vp hz20) (k := (l1).toNatClampNeg) rfl (ws1 := (W_X6_start E a_t a_wCell a_wFaces a_wFell a_wTurns a_refused a_now a_kept a_mind a_tape a_words a_wSign a_wBy a_telling a_holds a_sizes a_elements a_moved a_above a_out a_first c_t (upd c_wCell ((l1).toNatClampNeg) l2) (upd c_wFaces ((l1).toNatClampNeg) l3) c_wFell (upd c_wTurns ((l1).toNatClampNeg) (0 : Int32)))) rfl dX6_start_20 (fun H locs hP hD hS => ?_)
  refine lv_aload_n hx hb dX6_start_21 rfl (lv_at hl 0 rfl) ?_
  refine va_get (D := E.1) (ci := 6) (v := .ref a_wFell) (C := RX6) (T := TX6) (N := 26) hx hb hts iX6_start_X6 hown hK hP 0 rfl rfl 16 (by decide) (hts (.fieldLink RX6 48 "LeftIsAgreedOnModel" "wFell" "[I") (List.mem_of_getElem? (i := 4) rfl)) (fun _ h9 => h9) rfl dX6_start_22 ?_
  refine lv_iload_n hx hb dX6_start_25 rfl (lv_at hl 1 rfl) ?_
  refine lv_iconst (v := (-1 : Int32)) hx hb dX6_start_26 (by decide) ?_
  obtain ⟨hz27, h⟩ := chk_of h
  refine st_i X hP hD hS 3 rfl (inb.vp hz27) (k := (l1).toNatClampNeg) rfl (ws1 := (W_X6_start E a_t a_wCell a_wFaces a_wFell a_wTurns a_refused a_now a_kept a_mind a_tape a_words a_wSign a_wBy a_telling a_holds a_sizes a_elements a_moved a_above a_out a_first c_t (upd c_wCell ((l1).toNatClampNeg) l2) (upd c_wFaces ((l1).toNatClampNeg) l3) (upd c_wFell ((l1).toNatClampNeg) (-1 : Int32)) (upd c_wTurns ((l1).toNatClampNeg) (0 : Int32)))) rfl dX6_start_27 (fun H locs hP hD hS => ?_)
  obtain rfl := Option.some.inj h
  exact ret_v X dX6_start_28 hP hD hS
end
set_option maxRecDepth 100000 in
theorem c_X6_start (l : Launch) (E : Env0) (a_t : Nat) (a_wCell : Nat) (a_wFaces : Nat) (a_wFell : Nat) (a_wTurns : Nat) (a_refused : Nat) (a_now : Nat) (a_kept : Nat) (a_mind : Nat) (a_tape : Nat) (a_words : Nat) (a_wSign : Nat) (a_wBy : Nat) (a_telling : Nat) (a_holds : Nat) (a_sizes : Nat) (a_elements : Nat) (a_moved : Nat) (a_above : Nat) (a_out : Nat) (a_first : Nat) (l1 : Int32) (l2 : Int32) (l3 : Int32) (c_t : Nat → Int32) (c_wCell : Nat → Int32) (c_wFaces : Nat → Int32) (c_wFell : Nat → Int32) (c_wTurns : Nat → Int32) (sz : Nat) (res : (Nat → Int32) × (Nat → Int32) × (Nat → Int32) × (Nat → Int32)) (h : f_X6_start l1 l2 l3 c_t c_wCell c_wFaces c_wFell c_wTurns = some res) : Met l yX6_start wsX6_start r_X6_start (cPre E [.ref a_t, .int l1, .int l2, .int l3] (W_X6_start E a_t a_wCell a_wFaces a_wFell a_wTurns a_refused a_now a_kept a_mind a_tape a_words a_wSign a_wBy a_telling a_holds a_sizes a_elements a_moved a_above a_out a_first c_t c_wCell c_wFaces c_wFell c_wTurns) sz) (qV E (va_A (W_X6_start E a_t a_wCell a_wFaces a_wFell a_wTurns a_refused a_now a_kept a_mind a_tape a_words a_wSign a_wBy a_telling a_holds a_sizes a_elements a_moved a_above a_out a_first c_t c_wCell c_wFaces c_wFell c_wTurns) sz) (W_X6_start E a_t a_wCell a_wFaces a_wFell a_wTurns a_refused a_now a_kept a_mind a_tape a_words a_wSign a_wBy a_telling a_holds a_sizes a_elements a_moved a_above a_out a_first c_t (res.1) (res.2.1) (res.2.2.1) (res.2.2.2))) 0 0 (va_A (W_X6_start E a_t a_wCell a_wFaces a_wFell a_wTurns a_refused a_now a_kept a_mind a_tape a_words a_wSign a_wBy a_telling a_holds a_sizes a_elements a_moved a_above a_out a_first c_t c_wCell c_wFaces c_wFell c_wTurns) sz) :=
  met_of (Qc := fun A => qV E A (W_X6_start E a_t a_wCell a_wFaces a_wFell a_wTurns a_refused a_now a_kept a_mind a_tape a_words a_wSign a_wBy a_telling a_holds a_sizes a_elements a_moved a_above a_out a_first c_t (res.1) (res.2.1) (res.2.2.1) (res.2.2.2))) (by decide) rfl (Nat.le_of_ble_eq_true rfl) (fun p e s m args below meth c X hP hD hS ls hl => w_X6_start X a_t a_wCell a_wFaces a_wFell a_wTurns a_refused a_now a_kept a_mind a_tape a_words a_wSign a_wBy a_telling a_holds a_sizes a_elements a_moved a_above a_out a_first c_t res c_wCell c_wFaces c_wFell c_wTurns l1 l2 l3 ls _ _ h hP hD hS hl)
-- ===== X6_goesBy
abbrev W_X6_goesBy (E : Env0) (a_t : Nat) (a_now : Nat) (a_wBy : Nat) (a_wCell : Nat) (a_wSign : Nat) (a_wTurns : Nat) (a_refused : Nat) (a_kept : Nat) (a_mind : Nat) (a_tape : Nat) (a_words : Nat) (a_wFaces : Nat) (a_wFell : Nat) (a_telling : Nat) (a_holds : Nat) (a_sizes : Nat) (a_elements : Nat) (a_moved : Nat) (a_above : Nat) (a_out : Nat) (a_first : Nat) (c_t : Nat → Int32) (c_now : Nat → Int32) (c_wBy : Nat → Int32) (c_wCell : Nat → Int32) (c_wSign : Nat → Int32) (c_wTurns : Nat → Int32) : va_W := [(a_t, .inr (6, [.ref a_refused, .ref a_now, .ref a_kept, .ref a_mind, .int (c_t 4), .ref a_tape, .int (c_t 6), .int (c_t 7), .int (c_t 8), .int (c_t 9), .ref a_words, .ref a_wCell, .ref a_wFaces, .ref a_wTurns, .ref a_wSign, .ref a_wBy, .ref a_wFell, .int (c_t 17), .ref a_telling, .ref a_holds, .ref a_sizes, .ref a_elements, .ref a_moved, .ref a_above, .ref a_out, .ref a_first])), (a_now, .inl (eI E, 97, .inl c_now)), (a_wBy, .inl (eI E, 2, .inl c_wBy)), (a_wCell, .inl (eI E, 2, .inl c_wCell)), (a_wSign, .inl (eI E, 2, .inl c_wSign)), (a_wTurns, .inl (eI E, 2, .inl c_wTurns))]
abbrev r_X6_goesBy : Room := { frames := 3, cells := 0, slots := 0, locals := 73 }
theorem hd_X6_goesBy : yX6_goesBy.cls ≠ "java/lang/invoke/MethodHandle" ∧ yX6_goesBy.cls ≠ "java/lang/invoke/VarHandle" ∧ (parseMethodDescriptor yX6_goesBy.desc).map (fun d => d.parameters.length) = some 3 := by decide +kernel
theorem hV_X6_goesBy : yX6_goesBy.cls = RX6 ∧ yX6_goesBy.cls ≠ "java/lang/invoke/MethodHandle" ∧ yX6_goesBy.cls ≠ "java/lang/invoke/VarHandle" ∧ (parseMethodDescriptor yX6_goesBy.desc).map (fun d => d.parameters.length) = some 3 := ⟨rfl, hd_X6_goesBy⟩
theorem iX6_goesBy_X6 : ∀ w ∈ wsX60, w ∈ wsX6_goesBy := fun _ h => List.mem_cons_of_mem _ (List.mem_append_right _ (h))
section
variable {p : Program} {l : Launch} {e : Env} {s : State} {m : MethodId} {args : Array Value} {below : List Frame} {meth : Method} {c : Code} {E : Env0} {A : Nat → Prop}
set_option maxRecDepth 100000 in
set_option maxHeartbeats 4000000 in
theorem w_X6_goesBy (X : Ctx p m meth c cX6_goesBy 5 ((some .int)) s args wsX6_goesBy RX6 E A) (a_t : Nat) (a_now : Nat) (a_wBy : Nat) (a_wCell : Nat) (a_wSign : Nat) (a_wTurns : Nat) (a_refused : Nat) (a_kept : Nat) (a_mind : Nat) (a_tape : Nat) (a_words : Nat) (a_wFaces : Nat) (a_wFell : Nat) (a_telling : Nat) (a_holds : Nat) (a_sizes : Nat) (a_elements : Nat) (a_moved : Nat) (a_above : Nat) (a_out : Nat) (a_first : Nat) (c_t : Nat → Int32) (c_now : Nat → Int32) (c_wBy : Nat → Int32) (c_wCell : Nat → Int32) (c_wSign : Nat → Int32) (c_wTurns : Nat → Int32) (res : Int32) (l1 : Int32) (l2 : Int32) (l3 : Int32) (ls : Array Slot) (H : Heap) (locs : List Loc) (h : f_X6_goesBy l1 l2 l3 c_t c_now c_wBy c_wCell c_wSign c_wTurns = some res) (hP : va_P E.1 vwCl (W_X6_goesBy E a_t a_now a_wBy a_wCell a_wSign a_wTurns a_refused a_kept a_mind a_tape a_words a_wFaces a_wFell a_telling a_holds a_sizes a_elements a_moved a_above a_out a_first c_t c_now c_wBy c_wCell c_wSign c_wTurns) H) (hD : va_D A (W_X6_goesBy E a_t a_now a_wBy a_wCell a_wSign a_wTurns a_refused a_kept a_mind a_tape a_words a_wFaces a_wFell a_telling a_holds a_sizes a_elements a_moved a_above a_out a_first c_t c_now c_wBy c_wCell c_wSign c_wTurns)) (hS : va_S A s.heap H locs) (hl : lv_has ls 5 [(0, .ref a_t), (1, .int l1), (2, .int l2), (3, .int l3)]) : W p l e r_X6_goesBy s m args below meth c H locs 0 0 (MQ below (qI E A res (W_X6_goesBy E a_t a_now a_wBy a_wCell a_wSign a_wTurns a_refused a_kept a_mind a_tape a_words a_wFaces a_wFell a_telling a_holds a_sizes a_elements a_moved a_above a_out a_first c_t c_now c_wBy c_wCell c_wSign c_wTurns)) args s 0 0 A) (F0 m 0 ls []) := by
  obtain ⟨hx, hb, hml, hr, hlk, hown, hts, hG, hA⟩ := id X
  have hK := hG.1
  have hN := hG.2.1
  unfold f_X6_goesBy at h
  refine lv_aload_n hx hb dX6_goesBy_0 rfl (lv_at hl 0 rfl) ?_
  refine va_get (D := E.1) (ci := 6) (v := .ref a_now) (C := RX6) (T := TX6) (N := 26) hx hb hts iX6_goesBy_X6 hown hK hP 0 rfl rfl 1 (by decide) (hts (.fieldLink RX6 17 "LeftIsAgreedOnModel" "now" "[I") (List.mem_of_getElem? (i := 1) rfl)) (fun _ h9 => h9) rfl dX6_goesBy_1 ?_
  refine lv_bipush (v := (91 : Int32)) hx hb dX6_goesBy_4 (by decide) ?_
  refine ld_i X hP 1 rfl (inb.vp (by decide)) (v := (c_now 91)) rfl dX6_goesBy_6 ?_
  refine lv_istore (lv' := [(4, .int (c_now 91)), (0, .ref a_t), (1, .int l1), (2, .int l2), (3, .int l3)]) hx hb dX6_goesBy_7 hl (by decide) rfl (fun ls hl => ?_)
  refine lv_aload_n hx hb dX6_goesBy_9 rfl (lv_at hl 1 rfl) ?_
  refine lv_iload_n hx hb dX6_goesBy_10 rfl (lv_at hl 3 rfl) ?_
  obtain ⟨v1, hv1, h⟩ := bind_of h
  refine after_i X (run_V X (c_X6_kind l E a_t a_now a_refused a_kept a_mind a_tape a_words a_wCell a_wFaces a_wTurns a_wSign a_wBy a_wFell a_telling a_holds a_sizes a_elements a_moved a_above a_out a_first l2 c_t c_now H.size v1 hv1) (cwV 1 hts gX6_goesBy_X6_kind rfl rfl rfl hV_X6_kind ⟨(Nat.le_of_ble_eq_true rfl), (Nat.le_of_ble_eq_true rfl)⟩) hP hD hS [0, 1] rfl rfl hl.1 (ci := 6) rfl rfl rfl (rest := []) rfl rfl (Nat.le_of_ble_eq_true rfl) dX6_goesBy_11) hP hD hS [0, 1] [2, 3, 4, 5] [4, 5, 0, 1, 2, 3] rfl rfl rfl (by decide) rfl (ws1 := (W_X6_goesBy E a_t a_now a_wBy a_wCell a_wSign a_wTurns a_refused a_kept a_mind a_tape a_words a_wFaces a_wFell a_telling a_holds a_sizes a_elements a_moved a_above a_out a_first c_t c_now c_wBy c_wCell c_wSign c_wTurns)) rfl (fun H locs hP hD hS => ?_)
  by_cases hs14_0 : v1 = (0 : Int32)
  · have h := if_t h hs14_0
    refine lv_tableIn (off := (34)) (tgt := 48) hx hb dX6_goesBy_14 (by rw [hs14_0]; decide) (by rw [hs14_0]; decide) (by rw [hs14_0]; rfl) (by decide) ?_
    refine lv_iload hx hb dX6_goesBy_48 (lv_at hl 0 rfl) ?_
    obtain rfl := Option.some.inj h
    exact ret_i X dX6_goesBy_50 hP hD hS rfl
  · have h := if_f h hs14_0
    by_cases hs14_1 : v1 = (1 : Int32)
    · have h := if_t h hs14_1
      refine lv_tableIn (off := (37)) (tgt := 51) hx hb dX6_goesBy_14 (by rw [hs14_1]; decide) (by rw [hs14_1]; decide) (by rw [hs14_1]; rfl) (by decide) ?_
      refine lv_aload_n hx hb dX6_goesBy_51 rfl (lv_at hl 1 rfl) ?_
      refine va_get (D := E.1) (ci := 6) (v := .ref a_now) (C := RX6) (T := TX6) (N := 26) hx hb hts iX6_goesBy_X6 hown hK hP 0 rfl rfl 1 (by decide) (hts (.fieldLink RX6 17 "LeftIsAgreedOnModel" "now" "[I") (List.mem_of_getElem? (i := 1) rfl)) (fun _ h9 => h9) rfl dX6_goesBy_52 ?_
      refine lv_bipush (v := (92 : Int32)) hx hb dX6_goesBy_55 (by decide) ?_
      refine ld_i X hP 1 rfl (inb.vp (by decide)) (v := (c_now 92)) rfl dX6_goesBy_57 ?_
      obtain rfl := Option.some.inj h
      exact ret_i X dX6_goesBy_58 hP hD hS rfl
    · have h := if_f h hs14_1
      by_cases hs14_2 : v1 = (2 : Int32)
      · have h := if_t h hs14_2
        refine lv_tableIn (off := (45)) (tgt := 59) hx hb dX6_goesBy_14 (by rw [hs14_2]; decide) (by rw [hs14_2]; decide) (by rw [hs14_2]; rfl) (by decide) ?_
        refine lv_aload_n hx hb dX6_goesBy_59 rfl (lv_at hl 1 rfl) ?_
        refine va_get (D := E.1) (ci := 6) (v := .ref a_wTurns) (C := RX6) (T := TX6) (N := 26) hx hb hts iX6_goesBy_X6 hown hK hP 0 rfl rfl 13 (by decide) (hts (.fieldLink RX6 39 "LeftIsAgreedOnModel" "wTurns" "[I") (List.mem_of_getElem? (i := 2) rfl)) (fun _ h9 => h9) rfl dX6_goesBy_60 ?_
        refine lv_iload_n hx hb dX6_goesBy_63 rfl (lv_at hl 2 rfl) ?_
        obtain ⟨hz64, h⟩ := chk_of h
        refine ld_i X hP 5 rfl (inb.vp hz64) (v := (c_wTurns (l1).toNatClampNeg)) rfl dX6_goesBy_64 ?_
        refine lv_iconst (v := (2 : Int32)) hx hb dX6_goesBy_65 (by decide) ?_
        refine lv_irem hx hb dX6_goesBy_66 (by decide) ?_
        refine lv_if_ne (tgt := 75) hx hb dX6_goesBy_67 (by decide) (fun hc67 => ?_) (fun hc67 => ?_)
        · have h := if_f h hc67
          refine lv_iconst (v := (1 : Int32)) hx hb dX6_goesBy_75 (by decide) ?_
          refine lv_iload hx hb dX6_goesBy_76 (lv_at hl 0 rfl) ?_
          refine lv_isub hx hb dX6_goesBy_78 ?_
          obtain rfl := Option.some.inj h
          exact ret_i X dX6_goesBy_79 hP hD hS rfl
        · have h := if_t h hc67
          refine lv_iload hx hb dX6_goesBy_70 (lv_at hl 0 rfl) ?_
          refine lv_goto (tgt := 79) hx hb dX6_goesBy_72 (by decide) ?_
          obtain rfl := Option.some.inj h
          exact ret_i X dX6_goesBy_79 hP hD hS rfl
      · have h := if_f h hs14_2
        by_cases hs14_3 : v1 = (3 : Int32)
        · have h := if_t h hs14_3
          refine lv_tableIn (off := (66)) (tgt := 80) hx hb dX6_goesBy_14 (by rw [hs14_3]; decide) (by rw [hs14_3]; decide) (by rw [hs14_3]; rfl) (by decide) ?_
          refine lv_aload_n hx hb dX6_goesBy_80 rfl (lv_at hl 1 rfl) ?_
          refine lv_iload_n hx hb dX6_goesBy_81 rfl (lv_at hl 3 rfl) ?_
          obtain ⟨v2, hv2, h⟩ := bind_of h
          refine after_i X (run_V X (c_X6_isFor l E a_t a_now a_refused a_kept a_mind a_tape a_words a_wCell a_wFaces a_wTurns a_wSign a_wBy a_wFell a_telling a_holds a_sizes a_elements a_moved a_above a_out a_first l2 c_t c_now H.size v2 hv2) (cwV 1 hts gX6_goesBy_X6_isFor rfl rfl rfl hV_X6_isFor ⟨(Nat.le_of_ble_eq_true rfl), (Nat.le_of_ble_eq_true rfl)⟩) hP hD hS [0, 1] rfl rfl hl.1 (ci := 6) rfl rfl rfl (rest := []) rfl rfl (Nat.le_of_ble_eq_true rfl) dX6_goesBy_82) hP hD hS [0, 1] [2, 3, 4, 5] [4, 5, 0, 1, 2, 3] rfl rfl rfl (by decide) rfl (ws1 := (W_X6_goesBy E a_t a_now a_wBy a_wCell a_wSign a_wTurns a_refused a_kept a_mind a_tape a_words a_wFaces a_wFell a_telling a_holds a_sizes a_elements a_moved a_above a_out a_first c_t c_now c_wBy c_wCell c_wSign c_wTurns)) rfl (fun H locs hP hD hS => ?_)
          obtain rfl := Option.some.inj h
          exact ret_i X dX6_goesBy_85 hP hD hS rfl
        · have h := if_f h hs14_3
          by_cases hs14_4 : v1 = (4 : Int32)
          · have h := if_t h hs14_4
            refine lv_tableIn (off := (72)) (tgt := 86) hx hb dX6_goesBy_14 (by rw [hs14_4]; decide) (by rw [hs14_4]; decide) (by rw [hs14_4]; rfl) (by decide) ?_
            refine lv_aload_n hx hb dX6_goesBy_86 rfl (lv_at hl 1 rfl) ?_
            refine lv_aload_n hx hb dX6_goesBy_87 rfl (lv_at hl 1 rfl) ?_
            refine va_get (D := E.1) (ci := 6) (v := .ref a_wCell) (C := RX6) (T := TX6) (N := 26) hx hb hts iX6_goesBy_X6 hown hK hP 0 rfl rfl 11 (by decide) (hts (.fieldLink RX6 33 "LeftIsAgreedOnModel" "wCell" "[I") (List.mem_of_getElem? (i := 3) rfl)) (fun _ h9 => h9) rfl dX6_goesBy_88 ?_
            refine lv_iload_n hx hb dX6_goesBy_91 rfl (lv_at hl 2 rfl) ?_
            obtain ⟨hz92, h⟩ := chk_of h
            refine ld_i X hP 3 rfl (inb.vp hz92) (v := (c_wCell (l1).toNatClampNeg)) rfl dX6_goesBy_92 ?_
            obtain ⟨v3, hv3, h⟩ := bind_of h
            refine after_i X (run_V X (c_X6_isShore l E a_t a_now a_refused a_kept a_mind a_tape a_words a_wCell a_wFaces a_wTurns a_wSign a_wBy a_wFell a_telling a_holds a_sizes a_elements a_moved a_above a_out a_first (c_wCell (l1).toNatClampNeg) c_t c_now H.size v3 hv3) (cwV 1 hts gX6_goesBy_X6_isShore rfl rfl rfl hV_X6_isShore ⟨(Nat.le_of_ble_eq_true rfl), (Nat.le_of_ble_eq_true rfl)⟩) hP hD hS [0, 1] rfl rfl hl.1 (ci := 6) rfl rfl rfl (rest := []) rfl rfl (Nat.le_of_ble_eq_true rfl) dX6_goesBy_93) hP hD hS [0, 1] [2, 3, 4, 5] [4, 5, 0, 1, 2, 3] rfl rfl rfl (by decide) rfl (ws1 := (W_X6_goesBy E a_t a_now a_wBy a_wCell a_wSign a_wTurns a_refused a_kept a_mind a_tape a_words a_wFaces a_wFell a_telling a_holds a_sizes a_elements a_moved a_above a_out a_first c_t c_now c_wBy c_wCell c_wSign c_wTurns)) rfl (fun H locs hP hD hS => ?_)
            refine lv_if_eq (tgt := 106) hx hb dX6_goesBy_96 (by decide) (fun hc96 => ?_) (fun hc96 => ?_)
            · have h := if_t h hc96
              refine lv_iload hx hb dX6_goesBy_106 (lv_at hl 0 rfl) ?_
              obtain rfl := Option.some.inj h
              exact ret_i X dX6_goesBy_108 hP hD hS rfl
            · have h := if_f h hc96
              refine lv_iconst (v := (1 : Int32)) hx hb dX6_goesBy_99 (by decide) ?_
              refine lv_iload hx hb dX6_goesBy_100 (lv_at hl 0 rfl) ?_
              refine lv_isub hx hb dX6_goesBy_102 ?_
              refine lv_goto (tgt := 108) hx hb dX6_goesBy_103 (by decide) ?_
              obtain rfl := Option.some.inj h
              exact ret_i X dX6_goesBy_108 hP hD hS rfl
          · have h := if_f h hs14_4
            refine lv_tableOut (tgt := 109) hx hb dX6_goesBy_14 (tsw_0_4 hs14_0 hs14_1 hs14_2 hs14_3 hs14_4) (by decide) ?_
            refine lv_aload_n hx hb dX6_goesBy_109 rfl (lv_at hl 1 rfl) ?_
            refine va_get (D := E.1) (ci := 6) (v := .ref a_wTurns) (C := RX6) (T := TX6) (N := 26) hx hb hts iX6_goesBy_X6 hown hK hP 0 rfl rfl 13 (by decide) (hts (.fieldLink RX6 39 "LeftIsAgreedOnModel" "wTurns" "[I") (List.mem_of_getElem? (i := 2) rfl)) (fun _ h9 => h9) rfl dX6_goesBy_110 ?_
            refine lv_iload_n hx hb dX6_goesBy_113 rfl (lv_at hl 2 rfl) ?_
            obtain ⟨hz114, h⟩ := chk_of h
            refine ld_i X hP 5 rfl (inb.vp hz114) (v := (c_wTurns (l1).toNatClampNeg)) rfl dX6_goesBy_114 ?_
            refine lv_if_ne (tgt := 123) hx hb dX6_goesBy_115 (by decide) (fun hc115 => ?_) (fun hc115 => ?_)
            · have h := if_f h hc115
              refine lv_aload_n hx hb dX6_goesBy_123 rfl (lv_at hl 1 rfl) ?_
              refine va_get (D := E.1) (ci := 6) (v := .ref a_wSign) (C := RX6) (T := TX6) (N := 26) hx hb hts iX6_goesBy_X6 hown hK hP 0 rfl rfl 14 (by decide) (hts (.fieldLink RX6 42 "LeftIsAgreedOnModel" "wSign" "[I") (List.mem_of_getElem? (i := 4) rfl)) (fun _ h9 => h9) rfl dX6_goesBy_124 ?_
              refine lv_iload_n hx hb dX6_goesBy_127 rfl (lv_at hl 2 rfl) ?_
              obtain ⟨hz128, h⟩ := chk_of h
              refine ld_i X hP 4 rfl (inb.vp hz128) (v := (c_wSign (l1).toNatClampNeg)) rfl dX6_goesBy_128 ?_
              refine lv_iload_n hx hb dX6_goesBy_129 rfl (lv_at hl 4 rfl) ?_
              refine lv_icmp_ne (tgt := 144) hx hb dX6_goesBy_130 (by decide) (fun hc130 => ?_) (fun hc130 => ?_)
              · have h := if_f h hc130
                refine lv_aload_n hx hb dX6_goesBy_144 rfl (lv_at hl 1 rfl) ?_
                refine va_get (D := E.1) (ci := 6) (v := .ref a_wBy) (C := RX6) (T := TX6) (N := 26) hx hb hts iX6_goesBy_X6 hown hK hP 0 rfl rfl 15 (by decide) (hts (.fieldLink RX6 45 "LeftIsAgreedOnModel" "wBy" "[I") (List.mem_of_getElem? (i := 5) rfl)) (fun _ h9 => h9) rfl dX6_goesBy_145 ?_
                refine lv_iload_n hx hb dX6_goesBy_148 rfl (lv_at hl 2 rfl) ?_
                obtain ⟨hz149, h⟩ := chk_of h
                refine ld_i X hP 2 rfl (inb.vp hz149) (v := (c_wBy (l1).toNatClampNeg)) rfl dX6_goesBy_149 ?_
                obtain rfl := Option.some.inj h
                exact ret_i X dX6_goesBy_150 hP hD hS rfl
              · have h := if_t h hc130
                refine lv_iconst (v := (1 : Int32)) hx hb dX6_goesBy_133 (by decide) ?_
                refine lv_aload_n hx hb dX6_goesBy_134 rfl (lv_at hl 1 rfl) ?_
                refine va_get (D := E.1) (ci := 6) (v := .ref a_wBy) (C := RX6) (T := TX6) (N := 26) hx hb hts iX6_goesBy_X6 hown hK hP 0 rfl rfl 15 (by decide) (hts (.fieldLink RX6 45 "LeftIsAgreedOnModel" "wBy" "[I") (List.mem_of_getElem? (i := 5) rfl)) (fun _ h9 => h9) rfl dX6_goesBy_135 ?_
                refine lv_iload_n hx hb dX6_goesBy_138 rfl (lv_at hl 2 rfl) ?_
                obtain ⟨hz139, h⟩ := chk_of h
                refine ld_i X hP 2 rfl (inb.vp hz139) (v := (c_wBy (l1).toNatClampNeg)) rfl dX6_goesBy_139 ?_
                refine lv_isub hx hb dX6_goesBy_140 ?_
                refine lv_goto (tgt := 150) hx hb dX6_goesBy_141 (by decide) ?_
                obtain rfl := Option.some.inj h
                exact ret_i X dX6_goesBy_150 hP hD hS rfl
            · have h := if_t h hc115
              refine lv_iload hx hb dX6_goesBy_118 (lv_at hl 0 rfl) ?_
              refine lv_goto (tgt := 150) hx hb dX6_goesBy_120 (by decide) ?_
              obtain rfl := Option.some.inj h
              exact ret_i X dX6_goesBy_150 hP hD hS rfl
end
set_option maxRecDepth 100000 in
theorem c_X6_goesBy (l : Launch) (E : Env0) (a_t : Nat) (a_now : Nat) (a_wBy : Nat) (a_wCell : Nat) (a_wSign : Nat) (a_wTurns : Nat) (a_refused : Nat) (a_kept : Nat) (a_mind : Nat) (a_tape : Nat) (a_words : Nat) (a_wFaces : Nat) (a_wFell : Nat) (a_telling : Nat) (a_holds : Nat) (a_sizes : Nat) (a_elements : Nat) (a_moved : Nat) (a_above : Nat) (a_out : Nat) (a_first : Nat) (l1 : Int32) (l2 : Int32) (l3 : Int32) (c_t : Nat → Int32) (c_now : Nat → Int32) (c_wBy : Nat → Int32) (c_wCell : Nat → Int32) (c_wSign : Nat → Int32) (c_wTurns : Nat → Int32) (sz : Nat) (res : Int32) (h : f_X6_goesBy l1 l2 l3 c_t c_now c_wBy c_wCell c_wSign c_wTurns = some res) : Met l yX6_goesBy wsX6_goesBy r_X6_goesBy (cPre E [.ref a_t, .int l1, .int l2, .int l3] (W_X6_goesBy E a_t a_now a_wBy a_wCell a_wSign a_wTurns a_refused a_kept a_mind a_tape a_words a_wFaces a_wFell a_telling a_holds a_sizes a_elements a_moved a_above a_out a_first c_t c_now c_wBy c_wCell c_wSign c_wTurns) sz) (qI E (va_A (W_X6_goesBy E a_t a_now a_wBy a_wCell a_wSign a_wTurns a_refused a_kept a_mind a_tape a_words a_wFaces a_wFell a_telling a_holds a_sizes a_elements a_moved a_above a_out a_first c_t c_now c_wBy c_wCell c_wSign c_wTurns) sz) res (W_X6_goesBy E a_t a_now a_wBy a_wCell a_wSign a_wTurns a_refused a_kept a_mind a_tape a_words a_wFaces a_wFell a_telling a_holds a_sizes a_elements a_moved a_above a_out a_first c_t c_now c_wBy c_wCell c_wSign c_wTurns)) 0 0 (va_A (W_X6_goesBy E a_t a_now a_wBy a_wCell a_wSign a_wTurns a_refused a_kept a_mind a_tape a_words a_wFaces a_wFell a_telling a_holds a_sizes a_elements a_moved a_above a_out a_first c_t c_now c_wBy c_wCell c_wSign c_wTurns) sz) :=
  met_of (Qc := fun A => qI E A res (W_X6_goesBy E a_t a_now a_wBy a_wCell a_wSign a_wTurns a_refused a_kept a_mind a_tape a_words a_wFaces a_wFell a_telling a_holds a_sizes a_elements a_moved a_above a_out a_first c_t c_now c_wBy c_wCell c_wSign c_wTurns)) (by decide) rfl (Nat.le_of_ble_eq_true rfl) (fun p e s m args below meth c X hP hD hS ls hl => w_X6_goesBy X a_t a_now a_wBy a_wCell a_wSign a_wTurns a_refused a_kept a_mind a_tape a_words a_wFaces a_wFell a_telling a_holds a_sizes a_elements a_moved a_above a_out a_first c_t c_now c_wBy c_wCell c_wSign c_wTurns res l1 l2 l3 ls _ _ h hP hD hS hl)
-- ===== X6_step
abbrev W_X6_step (E : Env0) (a_t : Nat) (a_now : Nat) (a_wBy : Nat) (a_wCell : Nat) (a_wFaces : Nat) (a_wFell : Nat) (a_wSign : Nat) (a_wTurns : Nat) (a_refused : Nat) (a_kept : Nat) (a_mind : Nat) (a_tape : Nat) (a_words : Nat) (a_telling : Nat) (a_holds : Nat) (a_sizes : Nat) (a_elements : Nat) (a_moved : Nat) (a_above : Nat) (a_out : Nat) (a_first : Nat) (c_t : Nat → Int32) (c_now : Nat → Int32) (c_wBy : Nat → Int32) (c_wCell : Nat → Int32) (c_wFaces : Nat → Int32) (c_wFell : Nat → Int32) (c_wSign : Nat → Int32) (c_wTurns : Nat → Int32) : va_W := [(a_t, .inr (6, [.ref a_refused, .ref a_now, .ref a_kept, .ref a_mind, .int (c_t 4), .ref a_tape, .int (c_t 6), .int (c_t 7), .int (c_t 8), .int (c_t 9), .ref a_words, .ref a_wCell, .ref a_wFaces, .ref a_wTurns, .ref a_wSign, .ref a_wBy, .ref a_wFell, .int (c_t 17), .ref a_telling, .ref a_holds, .ref a_sizes, .ref a_elements, .ref a_moved, .ref a_above, .ref a_out, .ref a_first])), (a_now, .inl (eI E, 97, .inl c_now)), (a_wBy, .inl (eI E, 2, .inl c_wBy)), (a_wCell, .inl (eI E, 2, .inl c_wCell)), (a_wFaces, .inl (eI E, 2, .inl c_wFaces)), (a_wFell, .inl (eI E, 2, .inl c_wFell)), (a_wSign, .inl (eI E, 2, .inl c_wSign)), (a_wTurns, .inl (eI E, 2, .inl c_wTurns))]
abbrev r_X6_step : Room := { frames := 4, cells := 0, slots := 0, locals := 97 }
theorem hd_X6_step : yX6_step.cls ≠ "java/lang/invoke/MethodHandle" ∧ yX6_step.cls ≠ "java/lang/invoke/VarHandle" ∧ (parseMethodDescriptor yX6_step.desc).map (fun d => d.parameters.length) = some 4 := by decide +kernel
theorem hV_X6_step : yX6_step.cls = RX6 ∧ yX6_step.cls ≠ "java/lang/invoke/MethodHandle" ∧ yX6_step.cls ≠ "java/lang/invoke/VarHandle" ∧ (parseMethodDescriptor yX6_step.desc).map (fun d => d.parameters.length) = some 4 := ⟨rfl, hd_X6_step⟩
theorem iX6_step_X6 : ∀ w ∈ wsX60, w ∈ wsX6_step := fun _ h => List.mem_cons_of_mem _ (List.mem_append_right _ (h))
section
variable {p : Program} {l : Launch} {e : Env} {s : State} {m : MethodId} {args : Array Value} {below : List Frame} {meth : Method} {c : Code} {E : Env0} {A : Nat → Prop}
set_option maxRecDepth 100000 in
set_option maxHeartbeats 4000000 in
theorem w_X6_step_b82 (X : Ctx p m meth c cX6_step 6 none s args wsX6_step RX6 E A) (a_t : Nat) (a_now : Nat) (a_wBy : Nat) (a_wCell : Nat) (a_wFaces : Nat) (a_wFell : Nat) (a_wSign : Nat) (a_wTurns : Nat) (a_refused : Nat) (a_kept : Nat) (a_mind : Nat) (a_tape : Nat) (a_words : Nat) (a_telling : Nat) (a_holds : Nat) (a_sizes : Nat) (a_elements : Nat) (a_moved : Nat) (a_above : Nat) (a_out : Nat) (a_first : Nat) (c_now : Nat → Int32) (res : (Nat → Int32) × (Nat → Int32) × (Nat → Int32) × (Nat → Int32) × (Nat → Int32) × (Nat → Int32) × (Nat → Int32)) (c_t : Nat → Int32) (c_wBy : Nat → Int32) (c_wCell : Nat → Int32) (c_wFaces : Nat → Int32) (c_wFell : Nat → Int32) (c_wSign : Nat → Int32) (c_wTurns : Nat → Int32) (s0 : Int32) (s1 : Int32) (ls : Array Slot) (H : Heap) (locs : List Loc) (h : f_X6_step_b82 c_now c_t c_wBy c_wCell c_wFaces c_wFell c_wSign c_wTurns s0 s1 = some res) (hP : va_P E.1 vwCl (W_X6_step E a_t a_now a_wBy a_wCell a_wFaces a_wFell a_wSign a_wTurns a_refused a_kept a_mind a_tape a_words a_telling a_holds a_sizes a_elements a_moved a_above a_out a_first c_t c_now c_wBy c_wCell c_wFaces c_wFell c_wSign c_wTurns) H) (hD : va_D A (W_X6_step E a_t a_now a_wBy a_wCell a_wFaces a_wFell a_wSign a_wTurns a_refused a_kept a_mind a_tape a_words a_telling a_holds a_sizes a_elements a_moved a_above a_out a_first c_t c_now c_wBy c_wCell c_wFaces c_wFell c_wSign c_wTurns)) (hS : va_S A s.heap H locs) (hl : lv_has ls 6 []) : W p l e r_X6_step s m args below meth c H locs 0 0 (MQ below (qV E A (W_X6_step E a_t a_now a_wBy a_wCell a_wFaces a_wFell a_wSign a_wTurns a_refused a_kept a_mind a_tape a_words a_telling a_holds a_sizes a_elements a_moved a_above a_out a_first (res.1) c_now (res.2.1) (res.2.2.1) (res.2.2.2.1) (res.2.2.2.2.1) (res.2.2.2.2.2.1) (res.2.2.2.2.2.2))) args s 0 0 A) (F0 m 82 ls [.int s0, .int s1, .ref a_wFell]) := by
  obtain ⟨hx, hb, hml, hr, hlk, hown, hts, hG, hA⟩ := id X
  have hK := hG.1
  have hN := hG.2.1
  unfold f_X6_step_b82 at h
  obtain ⟨hz82, h⟩ := chk_of h
  refine st_i X hP hD hS 5 rfl (inb.vp hz82) (k := (s1).toNatClampNeg) rfl (ws1 := (W_X6_step E a_t a_now a_wBy a_wCell a_wFaces a_wFell a_wSign a_wTurns a_refused a_kept a_mind a_tape a_words a_telling a_holds a_sizes a_elements a_moved a_above a_out a_first c_t c_now c_wBy c_wCell c_wFaces (upd c_wFell ((s1).toNatClampNeg) s0) c_wSign c_wTurns)) rfl dX6_step_82 (fun H locs hP hD hS => ?_)
  obtain rfl := Option.some.inj h
  exact ret_v X dX6_step_83 hP hD hS
set_option maxRecDepth 100000 in
set_option maxHeartbeats 4000000 in
theorem w_X6_step_b133 (X : Ctx p m meth c cX6_step 6 none s args wsX6_step RX6 E A) (a_t : Nat) (a_now : Nat) (a_wBy : Nat) (a_wCell : Nat) (a_wFaces : Nat) (a_wFell : Nat) (a_wSign : Nat) (a_wTurns : Nat) (a_refused : Nat) (a_kept : Nat) (a_mind : Nat) (a_tape : Nat) (a_words : Nat) (a_telling : Nat) (a_holds : Nat) (a_sizes : Nat) (a_elements : Nat) (a_moved : Nat) (a_above : Nat) (a_out : Nat) (a_first : Nat) (c_now : Nat → Int32) (res : (Nat → Int32) × (Nat → Int32) × (Nat → Int32) × (Nat → Int32) × (Nat → Int32) × (Nat → Int32) × (Nat → Int32)) (c_t : Nat → Int32) (c_wBy : Nat → Int32) (c_wCell : Nat → Int32) (c_wFaces : Nat → Int32) (c_wFell : Nat → Int32) (c_wSign : Nat → Int32) (c_wTurns : Nat → Int32) (l1 : Int32) (l3 : Int32) (l5 : Int32) (s0 : Int32) (s1 : Int32) (s2 : Int32) (ls : Array Slot) (H : Heap) (locs : List Loc) (h : f_X6_step_b133 c_now c_t c_wBy c_wCell c_wFaces c_wFell c_wSign c_wTurns l1 l3 l5 s0 s1 s2 = some res) (hP : va_P E.1 vwCl (W_X6_step E a_t a_now a_wBy a_wCell a_wFaces a_wFell a_wSign a_wTurns a_refused a_kept a_mind a_tape a_words a_telling a_holds a_sizes a_elements a_moved a_above a_out a_first c_t c_now c_wBy c_wCell c_wFaces c_wFell c_wSign c_wTurns) H) (hD : va_D A (W_X6_step E a_t a_now a_wBy a_wCell a_wFaces a_wFell a_wSign a_wTurns a_refused a_kept a_mind a_tape a_words a_telling a_holds a_sizes a_elements a_moved a_above a_out a_first c_t c_now c_wBy c_wCell c_wFaces c_wFell c_wSign c_wTurns)) (hS : va_S A s.heap H locs) (hl : lv_has ls 6 [(0, .ref a_t), (1, .int l1), (3, .int l3), (5, .int l5)]) : W p l e r_X6_step s m args below meth c H locs 0 0 (MQ below (qV E A (W_X6_step E a_t a_now a_wBy a_wCell a_wFaces a_wFell a_wSign a_wTurns a_refused a_kept a_mind a_tape a_words a_telling a_holds a_sizes a_elements a_moved a_above a_out a_first (res.1) c_now (res.2.1) (res.2.2.1) (res.2.2.2.1) (res.2.2.2.2.1) (res.2.2.2.2.2.1) (res.2.2.2.2.2.2))) args s 0 0 A) (F0 m 133 ls [.int s0, .int s1, .int s2, .ref a_wFaces]) := by
  obtain ⟨hx, hb, hml, hr, hlk, hown, hts, hG, hA⟩ := id X
  have hK := hG.1
  have hN := hG.2.1
  unfold f_X6_step_b133 at h
  refine lv_iadd hx hb dX6_step_133 ?_
  refine lv_iconst (v := (4 : Int32)) hx hb dX6_step_134 (by decide) ?_
  refine lv_irem hx hb dX6_step_135 (by decide) ?_
  obtain ⟨hz136, h⟩ := chk_of h
  refine st_i X hP hD hS 4 rfl (inb.vp hz136) (k := (s2).toNatClampNeg) rfl (ws1 := (W_X6_step E a_t a_now a_wBy a_wCell a_wFaces a_wFell a_wSign a_wTurns a_refused a_kept a_mind a_tape a_words a_telling a_holds a_sizes a_elements a_moved a_above a_out a_first c_t c_now c_wBy c_wCell (upd c_wFaces ((s2).toNatClampNeg) ((s1 + s0) - (s1 + s0) / (4 : Int32) * (4 : Int32))) c_wFell c_wSign c_wTurns)) rfl dX6_step_136 (fun H locs hP hD hS => ?_)
  refine lv_aload_n hx hb dX6_step_137 rfl (lv_at hl 0 rfl) ?_
  refine va_get (D := E.1) (ci := 6) (v := .ref a_wTurns) (C := RX6) (T := TX6) (N := 26) hx hb hts iX6_step_X6 hown hK hP 0 rfl rfl 13 (by decide) (hts (.fieldLink RX6 39 "LeftIsAgreedOnModel" "wTurns" "[I") (List.mem_of_getElem? (i := 5) rfl)) (fun _ h9 => h9) rfl dX6_step_138 ?_
  refine lv_iload_n hx hb dX6_step_141 rfl (lv_at hl 1 rfl) ?_
  refine lv_dup2_11 hx hb dX6_step_142 rfl rfl ?_
  obtain ⟨hz143, h⟩ := chk_of h
  refine ld_i X hP 7 rfl (inb.vp hz143) (v := (c_wTurns (l1).toNatClampNeg)) rfl dX6_step_143 ?_
  refine lv_iconst (v := (1 : Int32)) hx hb dX6_step_144 (by decide) ?_
  refine lv_iadd hx hb dX6_step_145 ?_
  obtain ⟨hz146, h⟩ := chk_of h
  refine st_i X hP hD hS 7 rfl (inb.vp hz146) (k := (l1).toNatClampNeg) rfl (ws1 := (W_X6_step E a_t a_now a_wBy a_wCell a_wFaces a_wFell a_wSign a_wTurns a_refused a_kept a_mind a_tape a_words a_telling a_holds a_sizes a_elements a_moved a_above a_out a_first c_t c_now c_wBy c_wCell (upd c_wFaces ((s2).toNatClampNeg) ((s1 + s0) - (s1 + s0) / (4 : Int32) * (4 : Int32))) c_wFell c_wSign (upd c_wTurns ((l1).toNatClampNeg) ((c_wTurns (l1).toNatClampNeg) + (1 : Int32))))) rfl dX6_step_146 (fun H locs hP hD hS => ?_)
  refine lv_aload_n hx hb dX6_step_147 rfl (lv_at hl 0 rfl) ?_
  refine va_get (D := E.1) (ci := 6) (v := .ref a_wSign) (C := RX6) (T := TX6) (N := 26) hx hb hts iX6_step_X6 hown hK hP 0 rfl rfl 14 (by decide) (hts (.fieldLink RX6 42 "LeftIsAgreedOnModel" "wSign" "[I") (List.mem_of_getElem? (i := 6) rfl)) (fun _ h9 => h9) rfl dX6_step_148 ?_
  refine lv_iload_n hx hb dX6_step_151 rfl (lv_at hl 1 rfl) ?_
  refine lv_iload_n hx hb dX6_step_152 rfl (lv_at hl 2 rfl) ?_
  obtain ⟨hz153, h⟩ := chk_of h
  refine st_i X hP hD hS 6 rfl (inb.vp hz153) (k := (l1).toNatClampNeg) rfl (ws1 := (W_X6_step E a_t a_now a_wBy a_wCell a_wFaces a_wFell a_wSign a_wTurns a_refused a_kept a_mind a_tape a_words a_telling a_holds a_sizes a_elements a_moved a_above a_out a_first c_t c_now c_wBy c_wCell (upd c_wFaces ((s2).toNatClampNeg) ((s1 + s0) - (s1 + s0) / (4 : Int32) * (4 : Int32))) c_wFell (upd c_wSign ((l1).toNatClampNeg) l3) (upd c_wTurns ((l1).toNatClampNeg) ((c_wTurns (l1).toNatClampNeg) + (1 : Int32))))) rfl dX6_step_153 (fun H locs hP hD hS => ?_)
  refine lv_aload_n hx hb dX6_step_154 rfl (lv_at hl 0 rfl) ?_
  refine va_get (D := E.1) (ci := 6) (v := .ref a_wBy) (C := RX6) (T := TX6) (N := 26) hx hb hts iX6_step_X6 hown hK hP 0 rfl rfl 15 (by decide) (hts (.fieldLink RX6 45 "LeftIsAgreedOnModel" "wBy" "[I") (List.mem_of_getElem? (i := 7) rfl)) (fun _ h9 => h9) rfl dX6_step_155 ?_
  refine lv_iload_n hx hb dX6_step_158 rfl (lv_at hl 1 rfl) ?_
  refine lv_iload hx hb dX6_step_159 (lv_at hl 3 rfl) ?_
  obtain ⟨hz161, h⟩ := chk_of h
  refine st_i X hP hD hS 2 rfl (inb.vp hz161) (k := (l1).toNatClampNeg) rfl (ws1 := (W_X6_step E a_t a_now a_wBy a_wCell a_wFaces a_wFell a_wSign a_wTurns a_refused a_kept a_mind a_tape a_words a_telling a_holds a_sizes a_elements a_moved a_above a_out a_first c_t c_now (upd c_wBy ((l1).toNatClampNeg) l5) c_wCell (upd c_wFaces ((s2).toNatClampNeg) ((s1 + s0) - (s1 + s0) / (4 : Int32) * (4 : Int32))) c_wFell (upd c_wSign ((l1).toNatClampNeg) l3) (upd c_wTurns ((l1).toNatClampNeg) ((c_wTurns (l1).toNatClampNeg) + (1 : Int32))))) rfl dX6_step_161 (fun H locs hP hD hS => ?_)
  obtain rfl := Option.some.inj h
  exact ret_v X dX6_step_162 hP hD hS
set_option maxRecDepth 100000 in
set_option maxHeartbeats 4000000 in
theorem w_X6_step_b125 (X : Ctx p m meth c cX6_step 6 none s args wsX6_step RX6 E A) (a_t : Nat) (a_now : Nat) (a_wBy : Nat) (a_wCell : Nat) (a_wFaces : Nat) (a_wFell : Nat) (a_wSign : Nat) (a_wTurns : Nat) (a_refused : Nat) (a_kept : Nat) (a_mind : Nat) (a_tape : Nat) (a_words : Nat) (a_telling : Nat) (a_holds : Nat) (a_sizes : Nat) (a_elements : Nat) (a_moved : Nat) (a_above : Nat) (a_out : Nat) (a_first : Nat) (c_now : Nat → Int32) (res : (Nat → Int32) × (Nat → Int32) × (Nat → Int32) × (Nat → Int32) × (Nat → Int32) × (Nat → Int32) × (Nat → Int32)) (c_t : Nat → Int32) (c_wBy : Nat → Int32) (c_wCell : Nat → Int32) (c_wFaces : Nat → Int32) (c_wFell : Nat → Int32) (c_wSign : Nat → Int32) (c_wTurns : Nat → Int32) (l1 : Int32) (l3 : Int32) (l5 : Int32) (s0 : Int32) (s1 : Int32) (s2 : Int32) (s3 : Int32) (ls : Array Slot) (H : Heap) (locs : List Loc) (h : f_X6_step_b125 c_now c_t c_wBy c_wCell c_wFaces c_wFell c_wSign c_wTurns l1 l3 l5 s0 s1 s2 s3 = some res) (hP : va_P E.1 vwCl (W_X6_step E a_t a_now a_wBy a_wCell a_wFaces a_wFell a_wSign a_wTurns a_refused a_kept a_mind a_tape a_words a_telling a_holds a_sizes a_elements a_moved a_above a_out a_first c_t c_now c_wBy c_wCell c_wFaces c_wFell c_wSign c_wTurns) H) (hD : va_D A (W_X6_step E a_t a_now a_wBy a_wCell a_wFaces a_wFell a_wSign a_wTurns a_refused a_kept a_mind a_tape a_words a_telling a_holds a_sizes a_elements a_moved a_above a_out a_first c_t c_now c_wBy c_wCell c_wFaces c_wFell c_wSign c_wTurns)) (hS : va_S A s.heap H locs) (hl : lv_has ls 6 [(0, .ref a_t), (1, .int l1), (3, .int l3), (5, .int l5)]) : W p l e r_X6_step s m args below meth c H locs 0 0 (MQ below (qV E A (W_X6_step E a_t a_now a_wBy a_wCell a_wFaces a_wFell a_wSign a_wTurns a_refused a_kept a_mind a_tape a_words a_telling a_holds a_sizes a_elements a_moved a_above a_out a_first (res.1) c_now (res.2.1) (res.2.2.1) (res.2.2.2.1) (res.2.2.2.2.1) (res.2.2.2.2.2.1) (res.2.2.2.2.2.2))) args s 0 0 A) (F0 m 125 ls [.int s0, .int s1, .int s2, .int s3, .ref a_wFaces]) := by
  obtain ⟨hx, hb, hml, hr, hlk, hown, hts, hG, hA⟩ := id X
  have hK := hG.1
  have hN := hG.2.1
  unfold f_X6_step_b125 at h
  refine lv_icmp_ne (tgt := 132) hx hb dX6_step_125 (by decide) (fun hc125 => ?_) (fun hc125 => ?_)
  · have h := if_f h hc125
    refine lv_iconst (v := (3 : Int32)) hx hb dX6_step_132 (by decide) ?_
    exact w_X6_step_b133 X a_t a_now a_wBy a_wCell a_wFaces a_wFell a_wSign a_wTurns a_refused a_kept a_mind a_tape a_words a_telling a_holds a_sizes a_elements a_moved a_above a_out a_first c_now res c_t c_wBy c_wCell c_wFaces c_wFell c_wSign c_wTurns l1 l3 l5 (3 : Int32) s2 s3 _ _ _ h hP hD hS (lv_sub hl [0, 1, 2, 3] rfl)
  · have h := if_t h hc125
    refine lv_iconst (v := (1 : Int32)) hx hb dX6_step_128 (by decide) ?_
    refine lv_goto (tgt := 133) hx hb dX6_step_129 (by decide) ?_
    exact w_X6_step_b133 X a_t a_now a_wBy a_wCell a_wFaces a_wFell a_wSign a_wTurns a_refused a_kept a_mind a_tape a_words a_telling a_holds a_sizes a_elements a_moved a_above a_out a_first c_now res c_t c_wBy c_wCell c_wFaces c_wFell c_wSign c_wTurns l1 l3 l5 (1 : Int32) s2 s3 _ _ _ h hP hD hS (lv_sub hl [0, 1, 2, 3] rfl)
set_option maxRecDepth 100000 in
set_option maxHeartbeats 4000000 in
theorem w_X6_step_b115 (X : Ctx p m meth c cX6_step 6 none s args wsX6_step RX6 E A) (a_t : Nat) (a_now : Nat) (a_wBy : Nat) (a_wCell : Nat) (a_wFaces : Nat) (a_wFell : Nat) (a_wSign : Nat) (a_wTurns : Nat) (a_refused : Nat) (a_kept : Nat) (a_mind : Nat) (a_tape : Nat) (a_words : Nat) (a_telling : Nat) (a_holds : Nat) (a_sizes : Nat) (a_elements : Nat) (a_moved : Nat) (a_above : Nat) (a_out : Nat) (a_first : Nat) (c_now : Nat → Int32) (res : (Nat → Int32) × (Nat → Int32) × (Nat → Int32) × (Nat → Int32) × (Nat → Int32) × (Nat → Int32) × (Nat → Int32)) (c_t : Nat → Int32) (c_wBy : Nat → Int32) (c_wCell : Nat → Int32) (c_wFaces : Nat → Int32) (c_wFell : Nat → Int32) (c_wSign : Nat → Int32) (c_wTurns : Nat → Int32) (l1 : Int32) (l3 : Int32) (l5 : Int32) (s0 : Int32) (s1 : Int32) (s2 : Int32) (ls : Array Slot) (H : Heap) (locs : List Loc) (h : f_X6_step_b115 c_now c_t c_wBy c_wCell c_wFaces c_wFell c_wSign c_wTurns l1 l3 l5 s0 s1 s2 = some res) (hP : va_P E.1 vwCl (W_X6_step E a_t a_now a_wBy a_wCell a_wFaces a_wFell a_wSign a_wTurns a_refused a_kept a_mind a_tape a_words a_telling a_holds a_sizes a_elements a_moved a_above a_out a_first c_t c_now c_wBy c_wCell c_wFaces c_wFell c_wSign c_wTurns) H) (hD : va_D A (W_X6_step E a_t a_now a_wBy a_wCell a_wFaces a_wFell a_wSign a_wTurns a_refused a_kept a_mind a_tape a_words a_telling a_holds a_sizes a_elements a_moved a_above a_out a_first c_t c_now c_wBy c_wCell c_wFaces c_wFell c_wSign c_wTurns)) (hS : va_S A s.heap H locs) (hl : lv_has ls 6 [(0, .ref a_t), (1, .int l1), (3, .int l3), (5, .int l5)]) : W p l e r_X6_step s m args below meth c H locs 0 0 (MQ below (qV E A (W_X6_step E a_t a_now a_wBy a_wCell a_wFaces a_wFell a_wSign a_wTurns a_refused a_kept a_mind a_tape a_words a_telling a_holds a_sizes a_elements a_moved a_above a_out a_first (res.1) c_now (res.2.1) (res.2.2.1) (res.2.2.2.1) (res.2.2.2.2.1) (res.2.2.2.2.2.1) (res.2.2.2.2.2.2))) args s 0 0 A) (F0 m 115 ls [.int s0, .int s1, .int s2, .ref a_wFaces]) := by
  obtain ⟨hx, hb, hml, hr, hlk, hown, hts, hG, hA⟩ := id X
  have hK := hG.1
  have hN := hG.2.1
  unfold f_X6_step_b115 at h
  refine lv_iload_n hx hb dX6_step_115 rfl (lv_at hl 2 rfl) ?_
  refine lv_iconst (v := (1 : Int32)) hx hb dX6_step_116 (by decide) ?_
  refine lv_icmp_ne (tgt := 124) hx hb dX6_step_117 (by decide) (fun hc117 => ?_) (fun hc117 => ?_)
  · have h := if_f h hc117
    refine lv_iconst (v := (0 : Int32)) hx hb dX6_step_124 (by decide) ?_
    exact w_X6_step_b125 X a_t a_now a_wBy a_wCell a_wFaces a_wFell a_wSign a_wTurns a_refused a_kept a_mind a_tape a_words a_telling a_holds a_sizes a_elements a_moved a_above a_out a_first c_now res c_t c_wBy c_wCell c_wFaces c_wFell c_wSign c_wTurns l1 l3 l5 (0 : Int32) s0 s1 s2 _ _ _ h hP hD hS (lv_sub hl [0, 1, 2, 3] rfl)
  · have h := if_t h hc117
    refine lv_iconst (v := (1 : Int32)) hx hb dX6_step_120 (by decide) ?_
    refine lv_goto (tgt := 125) hx hb dX6_step_121 (by decide) ?_
    exact w_X6_step_b125 X a_t a_now a_wBy a_wCell a_wFaces a_wFell a_wSign a_wTurns a_refused a_kept a_mind a_tape a_words a_telling a_holds a_sizes a_elements a_moved a_above a_out a_first c_now res c_t c_wBy c_wCell c_wFaces c_wFell c_wSign c_wTurns l1 l3 l5 (1 : Int32) s0 s1 s2 _ _ _ h hP hD hS (lv_sub hl [0, 1, 2, 3] rfl)
set_option maxRecDepth 100000 in
set_option maxHeartbeats 4000000 in
theorem w_X6_step (X : Ctx p m meth c cX6_step 6 none s args wsX6_step RX6 E A) (a_t : Nat) (a_now : Nat) (a_wBy : Nat) (a_wCell : Nat) (a_wFaces : Nat) (a_wFell : Nat) (a_wSign : Nat) (a_wTurns : Nat) (a_refused : Nat) (a_kept : Nat) (a_mind : Nat) (a_tape : Nat) (a_words : Nat) (a_telling : Nat) (a_holds : Nat) (a_sizes : Nat) (a_elements : Nat) (a_moved : Nat) (a_above : Nat) (a_out : Nat) (a_first : Nat) (c_now : Nat → Int32) (res : (Nat → Int32) × (Nat → Int32) × (Nat → Int32) × (Nat → Int32) × (Nat → Int32) × (Nat → Int32) × (Nat → Int32)) (c_t : Nat → Int32) (c_wBy : Nat → Int32) (c_wCell : Nat → Int32) (c_wFaces : Nat → Int32) (c_wFell : Nat → Int32) (c_wSign : Nat → Int32) (c_wTurns : Nat → Int32) (l1 : Int32) (l2 : Int32) (l3 : Int32) (l4 : Int32) (ls : Array Slot) (H : Heap) (locs : List Loc) (h : f_X6_step l1 l2 l3 l4 c_t c_now c_wBy c_wCell c_wFaces c_wFell c_wSign c_wTurns = some res) (hP : va_P E.1 vwCl (W_X6_step E a_t a_now a_wBy a_wCell a_wFaces a_wFell a_wSign a_wTurns a_refused a_kept a_mind a_tape a_words a_telling a_holds a_sizes a_elements a_moved a_above a_out a_first c_t c_now c_wBy c_wCell c_wFaces c_wFell c_wSign c_wTurns) H) (hD : va_D A (W_X6_step E a_t a_now a_wBy a_wCell a_wFaces a_wFell a_wSign a_wTurns a_refused a_kept a_mind a_tape a_words a_telling a_holds a_sizes a_elements a_moved a_above a_out a_first c_t c_now c_wBy c_wCell c_wFaces c_wFell c_wSign c_wTurns)) (hS : va_S A s.heap H locs) (hl : lv_has ls 6 [(0, .ref a_t), (1, .int l1), (2, .int l2), (3, .int l3), (4, .int l4)]) : W p l e r_X6_step s m args below meth c H locs 0 0 (MQ below (qV E A (W_X6_step E a_t a_now a_wBy a_wCell a_wFaces a_wFell a_wSign a_wTurns a_refused a_kept a_mind a_tape a_words a_telling a_holds a_sizes a_elements a_moved a_above a_out a_first (res.1) c_now (res.2.1) (res.2.2.1) (res.2.2.2.1) (res.2.2.2.2.1) (res.2.2.2.2.2.1) (res.2.2.2.2.2.2))) args s 0 0 A) (F0 m 0 ls []) := by
  obtain ⟨hx, hb, hml, hr, hlk, hown, hts, hG, hA⟩ := id X
  have hK := hG.1
  have hN := hG.2.1
  unfold f_X6_step at h
  refine lv_aload_n hx hb dX6_step_0 rfl (lv_at hl 0 rfl) ?_
  refine va_get (D := E.1) (ci := 6) (v := .ref a_wFell) (C := RX6) (T := TX6) (N := 26) hx hb hts iX6_step_X6 hown hK hP 0 rfl rfl 16 (by decide) (hts (.fieldLink RX6 48 "LeftIsAgreedOnModel" "wFell" "[I") (List.mem_of_getElem? (i := 1) rfl)) (fun _ h9 => h9) rfl dX6_step_1 ?_
  refine lv_iload_n hx hb dX6_step_4 rfl (lv_at hl 1 rfl) ?_
  obtain ⟨hz5, h⟩ := chk_of h
  refine ld_i X hP 5 rfl (inb.vp hz5) (v := (c_wFell (l1).toNatClampNeg)) rfl dX6_step_5 ?_
  refine lv_iconst (v := (-1 : Int32)) hx hb dX6_step_6 (by decide) ?_
  refine lv_icmp_ne (tgt := 15) hx hb dX6_step_7 (by decide) (fun hc7 => ?_) (fun hc7 => ?_)
  · have h := if_f h hc7
    obtain rfl := Option.some.inj h
    exact ret_v X dX6_step_15 hP hD hS
  · have h := if_t h hc7
    refine lv_iload_n hx hb dX6_step_10 rfl (lv_at hl 3 rfl) ?_
    refine lv_iconst (v := (3 : Int32)) hx hb dX6_step_11 (by decide) ?_
    refine lv_icmp_ne (tgt := 16) hx hb dX6_step_12 (by decide) (fun hc12 => ?_) (fun hc12 => ?_)
    · have h := if_f h hc12
      refine lv_iload_n hx hb dX6_step_16 rfl (lv_at hl 3 rfl) ?_
      refine lv_if_ne (tgt := 84) hx hb dX6_step_17 (by decide) (fun hc17 => ?_) (fun hc17 => ?_)
      · have h := if_f h hc17
        refine lv_aload_n hx hb dX6_step_84 rfl (lv_at hl 0 rfl) ?_
        refine lv_iload_n hx hb dX6_step_85 rfl (lv_at hl 1 rfl) ?_
        refine lv_iload_n hx hb dX6_step_86 rfl (lv_at hl 2 rfl) ?_
        refine lv_iload_n hx hb dX6_step_87 rfl (lv_at hl 3 rfl) ?_
        obtain ⟨v1, hv1, h⟩ := bind_of h
        refine after_i X (run_V X (c_X6_goesBy l E a_t a_now a_wBy a_wCell a_wSign a_wTurns a_refused a_kept a_mind a_tape a_words a_wFaces a_wFell a_telling a_holds a_sizes a_elements a_moved a_above a_out a_first l1 l2 l3 c_t c_now c_wBy c_wCell c_wSign c_wTurns H.size v1 hv1) (cwV 3 hts gX6_step_X6_goesBy rfl rfl rfl hV_X6_goesBy ⟨(Nat.le_of_ble_eq_true rfl), (Nat.le_of_ble_eq_true rfl)⟩) hP hD hS [0, 1, 2, 3, 6, 7] rfl rfl hl.1 (ci := 6) rfl rfl rfl (rest := []) rfl rfl (Nat.le_of_ble_eq_true rfl) dX6_step_88) hP hD hS [0, 1, 2, 3, 6, 7] [4, 5] [2, 3, 4, 5, 0, 1, 6, 7] rfl rfl rfl (by decide) rfl (ws1 := (W_X6_step E a_t a_now a_wBy a_wCell a_wFaces a_wFell a_wSign a_wTurns a_refused a_kept a_mind a_tape a_words a_telling a_holds a_sizes a_elements a_moved a_above a_out a_first c_t c_now c_wBy c_wCell c_wFaces c_wFell c_wSign c_wTurns)) rfl (fun H locs hP hD hS => ?_)
        refine lv_istore (lv' := [(5, .int v1), (0, .ref a_t), (1, .int l1), (2, .int l2), (3, .int l3), (4, .int l4)]) hx hb dX6_step_91 hl (by decide) rfl (fun ls hl => ?_)
        refine lv_aload_n hx hb dX6_step_93 rfl (lv_at hl 1 rfl) ?_
        refine va_get (D := E.1) (ci := 6) (v := .ref a_wFaces) (C := RX6) (T := TX6) (N := 26) hx hb hts iX6_step_X6 hown hK hP 0 rfl rfl 12 (by decide) (hts (.fieldLink RX6 36 "LeftIsAgreedOnModel" "wFaces" "[I") (List.mem_of_getElem? (i := 3) rfl)) (fun _ h9 => h9) rfl dX6_step_94 ?_
        refine lv_iload_n hx hb dX6_step_97 rfl (lv_at hl 2 rfl) ?_
        refine lv_aload_n hx hb dX6_step_98 rfl (lv_at hl 1 rfl) ?_
        refine va_get (D := E.1) (ci := 6) (v := .ref a_wFaces) (C := RX6) (T := TX6) (N := 26) hx hb hts iX6_step_X6 hown hK hP 0 rfl rfl 12 (by decide) (hts (.fieldLink RX6 36 "LeftIsAgreedOnModel" "wFaces" "[I") (List.mem_of_getElem? (i := 3) rfl)) (fun _ h9 => h9) rfl dX6_step_99 ?_
        refine lv_iload_n hx hb dX6_step_102 rfl (lv_at hl 2 rfl) ?_
        obtain ⟨hz103, h⟩ := chk_of h
        refine ld_i X hP 4 rfl (inb.vp hz103) (v := (c_wFaces (l1).toNatClampNeg)) rfl dX6_step_103 ?_
        refine lv_iload hx hb dX6_step_104 (lv_at hl 0 rfl) ?_
        refine lv_iconst (v := (1 : Int32)) hx hb dX6_step_106 (by decide) ?_
        refine lv_icmp_ne (tgt := 114) hx hb dX6_step_107 (by decide) (fun hc107 => ?_) (fun hc107 => ?_)
        · have h := if_f h hc107
          refine lv_iconst (v := (0 : Int32)) hx hb dX6_step_114 (by decide) ?_
          exact w_X6_step_b115 X a_t a_now a_wBy a_wCell a_wFaces a_wFell a_wSign a_wTurns a_refused a_kept a_mind a_tape a_words a_telling a_holds a_sizes a_elements a_moved a_above a_out a_first c_now res c_t c_wBy c_wCell c_wFaces c_wFell c_wSign c_wTurns l1 l3 v1 (0 : Int32) (c_wFaces (l1).toNatClampNeg) l1 _ _ _ h hP hD hS (lv_sub hl [1, 2, 4, 0] rfl)
        · have h := if_t h hc107
          refine lv_iconst (v := (1 : Int32)) hx hb dX6_step_110 (by decide) ?_
          refine lv_goto (tgt := 115) hx hb dX6_step_111 (by decide) ?_
          exact w_X6_step_b115 X a_t a_now a_wBy a_wCell a_wFaces a_wFell a_wSign a_wTurns a_refused a_kept a_mind a_tape a_words a_telling a_holds a_sizes a_elements a_moved a_above a_out a_first c_now res c_t c_wBy c_wCell c_wFaces c_wFell c_wSign c_wTurns l1 l3 v1 (1 : Int32) (c_wFaces (l1).toNatClampNeg) l1 _ _ _ h hP hD hS (lv_sub hl [1, 2, 4, 0] rfl)
      · have h := if_t h hc17
        refine lv_aload_n hx hb dX6_step_20 rfl (lv_at hl 0 rfl) ?_
        refine lv_aload_n hx hb dX6_step_21 rfl (lv_at hl 0 rfl) ?_
        refine va_get (D := E.1) (ci := 6) (v := .ref a_wCell) (C := RX6) (T := TX6) (N := 26) hx hb hts iX6_step_X6 hown hK hP 0 rfl rfl 11 (by decide) (hts (.fieldLink RX6 33 "LeftIsAgreedOnModel" "wCell" "[I") (List.mem_of_getElem? (i := 2) rfl)) (fun _ h9 => h9) rfl dX6_step_22 ?_
        refine lv_iload_n hx hb dX6_step_25 rfl (lv_at hl 1 rfl) ?_
        obtain ⟨hz26, h⟩ := chk_of h
        refine ld_i X hP 3 rfl (inb.vp hz26) (v := (c_wCell (l1).toNatClampNeg)) rfl dX6_step_26 ?_
        refine lv_aload_n hx hb dX6_step_27 rfl (lv_at hl 0 rfl) ?_
        refine va_get (D := E.1) (ci := 6) (v := .ref a_wFaces) (C := RX6) (T := TX6) (N := 26) hx hb hts iX6_step_X6 hown hK hP 0 rfl rfl 12 (by decide) (hts (.fieldLink RX6 36 "LeftIsAgreedOnModel" "wFaces" "[I") (List.mem_of_getElem? (i := 3) rfl)) (fun _ h9 => h9) rfl dX6_step_28 ?_
        refine lv_iload_n hx hb dX6_step_31 rfl (lv_at hl 1 rfl) ?_
        obtain ⟨hz32, h⟩ := chk_of h
        refine ld_i X hP 4 rfl (inb.vp hz32) (v := (c_wFaces (l1).toNatClampNeg)) rfl dX6_step_32 ?_
        obtain ⟨v2, hv2, h⟩ := bind_of h
        refine after_i X (run_V X (c_X6_beside l E a_t a_now a_refused a_kept a_mind a_tape a_words a_wCell a_wFaces a_wTurns a_wSign a_wBy a_wFell a_telling a_holds a_sizes a_elements a_moved a_above a_out a_first (c_wCell (l1).toNatClampNeg) (c_wFaces (l1).toNatClampNeg) c_t c_now H.size v2 hv2) (cwV 2 hts gX6_step_X6_beside rfl rfl rfl hV_X6_beside ⟨(Nat.le_of_ble_eq_true rfl), (Nat.le_of_ble_eq_true rfl)⟩) hP hD hS [0, 1] rfl rfl hl.1 (ci := 6) rfl rfl rfl (rest := []) rfl rfl (Nat.le_of_ble_eq_true rfl) dX6_step_33) hP hD hS [0, 1] [2, 3, 4, 5, 6, 7] [6, 7, 0, 1, 2, 3, 4, 5] rfl rfl rfl (by decide) rfl (ws1 := (W_X6_step E a_t a_now a_wBy a_wCell a_wFaces a_wFell a_wSign a_wTurns a_refused a_kept a_mind a_tape a_words a_telling a_holds a_sizes a_elements a_moved a_above a_out a_first c_t c_now c_wBy c_wCell c_wFaces c_wFell c_wSign c_wTurns)) rfl (fun H locs hP hD hS => ?_)
        refine lv_istore (lv' := [(5, .int v2), (0, .ref a_t), (1, .int l1), (2, .int l2), (3, .int l3), (4, .int l4)]) hx hb dX6_step_36 hl (by decide) rfl (fun ls hl => ?_)
        refine lv_iload hx hb dX6_step_38 (lv_at hl 0 rfl) ?_
        refine lv_iconst (v := (-1 : Int32)) hx hb dX6_step_40 (by decide) ?_
        refine lv_icmp_eq (tgt := 83) hx hb dX6_step_41 (by decide) (fun hc41 => ?_) (fun hc41 => ?_)
        · have h := if_t h hc41
          obtain rfl := Option.some.inj h
          exact ret_v X dX6_step_83 hP hD hS
        · have h := if_f h hc41
          refine lv_aload_n hx hb dX6_step_44 rfl (lv_at hl 1 rfl) ?_
          refine lv_aload_n hx hb dX6_step_45 rfl (lv_at hl 1 rfl) ?_
          refine va_get (D := E.1) (ci := 6) (v := .ref a_wCell) (C := RX6) (T := TX6) (N := 26) hx hb hts iX6_step_X6 hown hK hP 0 rfl rfl 11 (by decide) (hts (.fieldLink RX6 33 "LeftIsAgreedOnModel" "wCell" "[I") (List.mem_of_getElem? (i := 2) rfl)) (fun _ h9 => h9) rfl dX6_step_46 ?_
          refine lv_iload_n hx hb dX6_step_49 rfl (lv_at hl 2 rfl) ?_
          obtain ⟨hz50, h⟩ := chk_of h
          refine ld_i X hP 3 rfl (inb.vp hz50) (v := (c_wCell (l1).toNatClampNeg)) rfl dX6_step_50 ?_
          refine va_put (D := E.1) (ci := 6) (v := .int (c_wCell (l1).toNatClampNeg)) (ty := .int) (C := RX6) (T := TX6) (N := 26) hx hb hts iX6_step_X6 tyX6 tyX6_ok nmX6 hown hK hP hD hS 0 rfl rfl 17 (by decide) (hts (.fieldLink RX6 185 "LeftIsAgreedOnModel" "dry" "I") (List.mem_of_getElem? (i := 4) rfl)) (fun _ h9 => h9) rfl (tyX6_ok 17 (by decide)) rfl rfl (Nat.le_of_ble_eq_true rfl) dX6_step_51 (fun H locs hP hD hS => ?_)
          have hP : va_P E.1 vwCl (W_X6_step E a_t a_now a_wBy a_wCell a_wFaces a_wFell a_wSign a_wTurns a_refused a_kept a_mind a_tape a_words a_telling a_holds a_sizes a_elements a_moved a_above a_out a_first (upd c_t 17 (c_wCell (l1).toNatClampNeg)) c_now c_wBy c_wCell c_wFaces c_wFell c_wSign c_wTurns) H := hP
          have hD : va_D A (W_X6_step E a_t a_now a_wBy a_wCell a_wFaces a_wFell a_wSign a_wTurns a_refused a_kept a_mind a_tape a_words a_telling a_holds a_sizes a_elements a_moved a_above a_out a_first (upd c_t 17 (c_wCell (l1).toNatClampNeg)) c_now c_wBy c_wCell c_wFaces c_wFell c_wSign c_wTurns) := hD
          refine lv_aload_n hx hb dX6_step_54 rfl (lv_at hl 1 rfl) ?_
          refine va_get (D := E.1) (ci := 6) (v := .ref a_wCell) (C := RX6) (T := TX6) (N := 26) hx hb hts iX6_step_X6 hown hK hP 0 rfl rfl 11 (by decide) (hts (.fieldLink RX6 33 "LeftIsAgreedOnModel" "wCell" "[I") (List.mem_of_getElem? (i := 2) rfl)) (fun _ h9 => h9) rfl dX6_step_55 ?_
          refine lv_iload_n hx hb dX6_step_58 rfl (lv_at hl 2 rfl) ?_
          refine lv_iload hx hb dX6_step_59 (lv_at hl 0 rfl) ?_
          obtain ⟨hz61, h⟩ := chk_of h
          refine st_i X hP hD hS 3 rfl (inb.vp hz61) (k := (l1).toNatClampNeg) rfl (ws1 := (W_X6_step E a_t a_now a_wBy a_wCell a_wFaces a_wFell a_wSign a_wTurns a_refused a_kept a_mind a_tape a_words a_telling a_holds a_sizes a_elements a_moved a_above a_out a_first (upd c_t 17 (c_wCell (l1).toNatClampNeg)) c_now c_wBy (upd c_wCell ((l1).toNatClampNeg) v2) c_wFaces c_wFell c_wSign c_wTurns)) rfl dX6_step_61 (fun H locs hP hD hS => ?_)
          refine lv_aload_n hx hb dX6_step_62 rfl (lv_at hl 1 rfl) ?_
          refine va_get (D := E.1) (ci := 6) (v := .ref a_wFell) (C := RX6) (T := TX6) (N := 26) hx hb hts iX6_step_X6 hown hK hP 0 rfl rfl 16 (by decide) (hts (.fieldLink RX6 48 "LeftIsAgreedOnModel" "wFell" "[I") (List.mem_of_getElem? (i := 1) rfl)) (fun _ h9 => h9) rfl dX6_step_63 ?_
          refine lv_iload_n hx hb dX6_step_66 rfl (lv_at hl 2 rfl) ?_
          refine lv_aload_n hx hb dX6_step_67 rfl (lv_at hl 1 rfl) ?_
          refine lv_iload hx hb dX6_step_68 (lv_at hl 0 rfl) ?_
          obtain ⟨v3, hv3, h⟩ := bind_of h
          refine after_i X (run_V X (c_X6_hasPond l E a_t a_now a_refused a_kept a_mind a_tape a_words a_wCell a_wFaces a_wTurns a_wSign a_wBy a_wFell a_telling a_holds a_sizes a_elements a_moved a_above a_out a_first v2 (upd c_t 17 (c_wCell (l1).toNatClampNeg)) c_now H.size v3 hv3) (cwV 1 hts gX6_step_X6_hasPond rfl rfl rfl hV_X6_hasPond ⟨(Nat.le_of_ble_eq_true rfl), (Nat.le_of_ble_eq_true rfl)⟩) hP hD hS [0, 1] rfl rfl hl.1 (ci := 6) rfl rfl rfl (rest := [.int l1, .ref a_wFell]) rfl rfl (Nat.le_of_ble_eq_true rfl) dX6_step_70) hP hD hS [0, 1] [2, 3, 4, 5, 6, 7] [6, 7, 0, 1, 2, 3, 4, 5] rfl rfl rfl (by decide) rfl (ws1 := (W_X6_step E a_t a_now a_wBy a_wCell a_wFaces a_wFell a_wSign a_wTurns a_refused a_kept a_mind a_tape a_words a_telling a_holds a_sizes a_elements a_moved a_above a_out a_first (upd c_t 17 (c_wCell (l1).toNatClampNeg)) c_now c_wBy (upd c_wCell ((l1).toNatClampNeg) v2) c_wFaces c_wFell c_wSign c_wTurns)) rfl (fun H locs hP hD hS => ?_)
          refine lv_if_eq (tgt := 81) hx hb dX6_step_73 (by decide) (fun hc73 => ?_) (fun hc73 => ?_)
          · have h := if_t h hc73
            refine lv_iconst (v := (-1 : Int32)) hx hb dX6_step_81 (by decide) ?_
            exact w_X6_step_b82 X a_t a_now a_wBy a_wCell a_wFaces a_wFell a_wSign a_wTurns a_refused a_kept a_mind a_tape a_words a_telling a_holds a_sizes a_elements a_moved a_above a_out a_first c_now res (upd c_t 17 (c_wCell (l1).toNatClampNeg)) c_wBy (upd c_wCell ((l1).toNatClampNeg) v2) c_wFaces c_wFell c_wSign c_wTurns (-1 : Int32) l1 _ _ _ h hP hD hS (lv_sub hl [] rfl)
          · have h := if_f h hc73
            refine lv_iload hx hb dX6_step_76 (lv_at hl 5 rfl) ?_
            refine lv_goto (tgt := 82) hx hb dX6_step_78 (by decide) ?_
            exact w_X6_step_b82 X a_t a_now a_wBy a_wCell a_wFaces a_wFell a_wSign a_wTurns a_refused a_kept a_mind a_tape a_words a_telling a_holds a_sizes a_elements a_moved a_above a_out a_first c_now res (upd c_t 17 (c_wCell (l1).toNatClampNeg)) c_wBy (upd c_wCell ((l1).toNatClampNeg) v2) c_wFaces c_wFell c_wSign c_wTurns l4 l1 _ _ _ h hP hD hS (lv_sub hl [] rfl)
    · have h := if_t h hc12
      obtain rfl := Option.some.inj h
      exact ret_v X dX6_step_15 hP hD hS
end
set_option maxRecDepth 100000 in
theorem c_X6_step (l : Launch) (E : Env0) (a_t : Nat) (a_now : Nat) (a_wBy : Nat) (a_wCell : Nat) (a_wFaces : Nat) (a_wFell : Nat) (a_wSign : Nat) (a_wTurns : Nat) (a_refused : Nat) (a_kept : Nat) (a_mind : Nat) (a_tape : Nat) (a_words : Nat) (a_telling : Nat) (a_holds : Nat) (a_sizes : Nat) (a_elements : Nat) (a_moved : Nat) (a_above : Nat) (a_out : Nat) (a_first : Nat) (l1 : Int32) (l2 : Int32) (l3 : Int32) (l4 : Int32) (c_t : Nat → Int32) (c_now : Nat → Int32) (c_wBy : Nat → Int32) (c_wCell : Nat → Int32) (c_wFaces : Nat → Int32) (c_wFell : Nat → Int32) (c_wSign : Nat → Int32) (c_wTurns : Nat → Int32) (sz : Nat) (res : (Nat → Int32) × (Nat → Int32) × (Nat → Int32) × (Nat → Int32) × (Nat → Int32) × (Nat → Int32) × (Nat → Int32)) (h : f_X6_step l1 l2 l3 l4 c_t c_now c_wBy c_wCell c_wFaces c_wFell c_wSign c_wTurns = some res) : Met l yX6_step wsX6_step r_X6_step (cPre E [.ref a_t, .int l1, .int l2, .int l3, .int l4] (W_X6_step E a_t a_now a_wBy a_wCell a_wFaces a_wFell a_wSign a_wTurns a_refused a_kept a_mind a_tape a_words a_telling a_holds a_sizes a_elements a_moved a_above a_out a_first c_t c_now c_wBy c_wCell c_wFaces c_wFell c_wSign c_wTurns) sz) (qV E (va_A (W_X6_step E a_t a_now a_wBy a_wCell a_wFaces a_wFell a_wSign a_wTurns a_refused a_kept a_mind a_tape a_words a_telling a_holds a_sizes a_elements a_moved a_above a_out a_first c_t c_now c_wBy c_wCell c_wFaces c_wFell c_wSign c_wTurns) sz) (W_X6_step E a_t a_now a_wBy a_wCell a_wFaces a_wFell a_wSign a_wTurns a_refused a_kept a_mind a_tape a_words a_telling a_holds a_sizes a_elements a_moved a_above a_out a_first (res.1) c_now (res.2.1) (res.2.2.1) (res.2.2.2.1) (res.2.2.2.2.1) (res.2.2.2.2.2.1) (res.2.2.2.2.2.2))) 0 0 (va_A (W_X6_step E a_t a_now a_wBy a_wCell a_wFaces a_wFell a_wSign a_wTurns a_refused a_kept a_mind a_tape a_words a_telling a_holds a_sizes a_elements a_moved a_above a_out a_first c_t c_now c_wBy c_wCell c_wFaces c_wFell c_wSign c_wTurns) sz) :=
  met_of (Qc := fun A => qV E A (W_X6_step E a_t a_now a_wBy a_wCell a_wFaces a_wFell a_wSign a_wTurns a_refused a_kept a_mind a_tape a_words a_telling a_holds a_sizes a_elements a_moved a_above a_out a_first (res.1) c_now (res.2.1) (res.2.2.1) (res.2.2.2.1) (res.2.2.2.2.1) (res.2.2.2.2.2.1) (res.2.2.2.2.2.2))) (by decide) rfl (Nat.le_of_ble_eq_true rfl) (fun p e s m args below meth c X hP hD hS ls hl => w_X6_step X a_t a_now a_wBy a_wCell a_wFaces a_wFell a_wSign a_wTurns a_refused a_kept a_mind a_tape a_words a_telling a_holds a_sizes a_elements a_moved a_above a_out a_first c_now res c_t c_wBy c_wCell c_wFaces c_wFell c_wSign c_wTurns l1 l2 l3 l4 ls _ _ h hP hD hS hl)
-- ===== X6_go
abbrev W_X6_go (E : Env0) (a_t : Nat) (a_now : Nat) (a_telling : Nat) (a_wBy : Nat) (a_wCell : Nat) (a_wFaces : Nat) (a_wFell : Nat) (a_wSign : Nat) (a_wTurns : Nat) (a_refused : Nat) (a_kept : Nat) (a_mind : Nat) (a_tape : Nat) (a_words : Nat) (a_holds : Nat) (a_sizes : Nat) (a_elements : Nat) (a_moved : Nat) (a_above : Nat) (a_out : Nat) (a_first : Nat) (c_t : Nat → Int32) (c_now : Nat → Int32) (c_telling : Nat → Int32) (c_wBy : Nat → Int32) (c_wCell : Nat → Int32) (c_wFaces : Nat → Int32) (c_wFell : Nat → Int32) (c_wSign : Nat → Int32) (c_wTurns : Nat → Int32) : va_W := [(a_t, .inr (6, [.ref a_refused, .ref a_now, .ref a_kept, .ref a_mind, .int (c_t 4), .ref a_tape, .int (c_t 6), .int (c_t 7), .int (c_t 8), .int (c_t 9), .ref a_words, .ref a_wCell, .ref a_wFaces, .ref a_wTurns, .ref a_wSign, .ref a_wBy, .ref a_wFell, .int (c_t 17), .ref a_telling, .ref a_holds, .ref a_sizes, .ref a_elements, .ref a_moved, .ref a_above, .ref a_out, .ref a_first])), (a_now, .inl (eI E, 97, .inl c_now)), (a_telling, .inl (eI E, 40, .inl c_telling)), (a_wBy, .inl (eI E, 2, .inl c_wBy)), (a_wCell, .inl (eI E, 2, .inl c_wCell)), (a_wFaces, .inl (eI E, 2, .inl c_wFaces)), (a_wFell, .inl (eI E, 2, .inl c_wFell)), (a_wSign, .inl (eI E, 2, .inl c_wSign)), (a_wTurns, .inl (eI E, 2, .inl c_wTurns))]
abbrev r_X6_go : Room := { frames := 5, cells := 0, slots := 0, locals := 122 }
theorem hd_X6_go : yX6_go.cls ≠ "java/lang/invoke/MethodHandle" ∧ yX6_go.cls ≠ "java/lang/invoke/VarHandle" ∧ (parseMethodDescriptor yX6_go.desc).map (fun d => d.parameters.length) = some 2 := by decide +kernel
theorem hV_X6_go : yX6_go.cls = RX6 ∧ yX6_go.cls ≠ "java/lang/invoke/MethodHandle" ∧ yX6_go.cls ≠ "java/lang/invoke/VarHandle" ∧ (parseMethodDescriptor yX6_go.desc).map (fun d => d.parameters.length) = some 2 := ⟨rfl, hd_X6_go⟩
theorem iX6_go_X6 : ∀ w ∈ wsX60, w ∈ wsX6_go := fun _ h => List.mem_cons_of_mem _ (List.mem_append_right _ (h))
section
variable {p : Program} {l : Launch} {e : Env} {s : State} {m : MethodId} {args : Array Value} {below : List Frame} {meth : Method} {c : Code} {E : Env0} {A : Nat → Prop}
set_option maxRecDepth 100000 in
set_option maxHeartbeats 4000000 in
theorem w_X6_go_b17 (X : Ctx p m meth c cX6_go 4 none s args wsX6_go RX6 E A) (a_t : Nat) (a_now : Nat) (a_telling : Nat) (a_wBy : Nat) (a_wCell : Nat) (a_wFaces : Nat) (a_wFell : Nat) (a_wSign : Nat) (a_wTurns : Nat) (a_refused : Nat) (a_kept : Nat) (a_mind : Nat) (a_tape : Nat) (a_words : Nat) (a_holds : Nat) (a_sizes : Nat) (a_elements : Nat) (a_moved : Nat) (a_above : Nat) (a_out : Nat) (a_first : Nat) (c_now : Nat → Int32) (c_telling : Nat → Int32) (res : (Nat → Int32) × (Nat → Int32) × (Nat → Int32) × (Nat → Int32) × (Nat → Int32) × (Nat → Int32) × (Nat → Int32)) : ∀ (n : Nat) (c_t : Nat → Int32) (c_wBy : Nat → Int32) (c_wCell : Nat → Int32) (c_wFaces : Nat → Int32) (c_wFell : Nat → Int32) (c_wSign : Nat → Int32) (c_wTurns : Nat → Int32) (l1 : Int32) (l2 : Int32) (l3 : Int32) (ls : Array Slot) (H : Heap) (locs : List Loc), f_X6_go_b17 c_now c_telling n c_t c_wBy c_wCell c_wFaces c_wFell c_wSign c_wTurns l1 l2 l3 = some res → va_P E.1 vwCl (W_X6_go E a_t a_now a_telling a_wBy a_wCell a_wFaces a_wFell a_wSign a_wTurns a_refused a_kept a_mind a_tape a_words a_holds a_sizes a_elements a_moved a_above a_out a_first c_t c_now c_telling c_wBy c_wCell c_wFaces c_wFell c_wSign c_wTurns) H → va_D A (W_X6_go E a_t a_now a_telling a_wBy a_wCell a_wFaces a_wFell a_wSign a_wTurns a_refused a_kept a_mind a_tape a_words a_holds a_sizes a_elements a_moved a_above a_out a_first c_t c_now c_telling c_wBy c_wCell c_wFaces c_wFell c_wSign c_wTurns) → va_S A s.heap H locs → lv_has ls 4 [(0, .ref a_t), (1, .int l1), (2, .int l2), (3, .int l3)] → W p l e r_X6_go s m args below meth c H locs 0 0 (MQ below (qV E A (W_X6_go E a_t a_now a_telling a_wBy a_wCell a_wFaces a_wFell a_wSign a_wTurns a_refused a_kept a_mind a_tape a_words a_holds a_sizes a_elements a_moved a_above a_out a_first (res.1) c_now c_telling (res.2.1) (res.2.2.1) (res.2.2.2.1) (res.2.2.2.2.1) (res.2.2.2.2.2.1) (res.2.2.2.2.2.2))) args s 0 0 A) (F0 m 17 ls []) := by
  obtain ⟨hx, hb, hml, hr, hlk, hown, hts, hG, hA⟩ := id X
  have hK := hG.1
  have hN := hG.2.1
  intro n
  induction n with
  | zero =>
    intro c_t c_wBy c_wCell c_wFaces c_wFell c_wSign c_wTurns l1 l2 l3 ls H locs h
    exact absurd (show (none : Option ((Nat → Int32) × (Nat → Int32) × (Nat → Int32) × (Nat → Int32) × (Nat → Int32) × (Nat → Int32) × (Nat → Int32))) = some res from h) (by intro q; cases q)
  | succ n ih =>
    intro c_t c_wBy c_wCell c_wFaces c_wFell c_wSign c_wTurns l1 l2 l3 ls H locs h hP hD hS hl
    rw [f_X6_go_b17] at h
    refine lv_iload_n hx hb dX6_go_17 rfl (lv_at hl 3 rfl) ?_
    refine lv_iload_n hx hb dX6_go_18 rfl (lv_at hl 2 rfl) ?_
    refine lv_icmp_ge (tgt := 41) hx hb dX6_go_19 (by decide) (fun hc19 => ?_) (fun hc19 => ?_)
    · have h := if_t h hc19
      obtain rfl := Option.some.inj h
      exact ret_v X dX6_go_41 hP hD hS
    · have h := if_f h hc19
      refine lv_aload_n hx hb dX6_go_22 rfl (lv_at hl 0 rfl) ?_
      refine lv_iconst (v := (0 : Int32)) hx hb dX6_go_23 (by decide) ?_
      refine lv_iload_n hx hb dX6_go_24 rfl (lv_at hl 1 rfl) ?_
      refine lv_aload_n hx hb dX6_go_25 rfl (lv_at hl 0 rfl) ?_
      refine va_get (D := E.1) (ci := 6) (v := .ref a_telling) (C := RX6) (T := TX6) (N := 26) hx hb hts iX6_go_X6 hown hK hP 0 rfl rfl 18 (by decide) (hts (.fieldLink RX6 51 "LeftIsAgreedOnModel" "telling" "[I") (List.mem_of_getElem? (i := 1) rfl)) (fun _ h9 => h9) rfl dX6_go_26 ?_
      refine lv_iload_n hx hb dX6_go_29 rfl (lv_at hl 3 rfl) ?_
      obtain ⟨hz30, h⟩ := chk_of h
      refine ld_i X hP 2 rfl (inb.vp hz30) (v := (c_telling (l3).toNatClampNeg)) rfl dX6_go_30 ?_
      refine lv_iload_n hx hb dX6_go_31 rfl (lv_at hl 3 rfl) ?_
      obtain ⟨v1, hv1, h⟩ := bind_of h
      refine after_v X (run_V X (c_X6_step l E a_t a_now a_wBy a_wCell a_wFaces a_wFell a_wSign a_wTurns a_refused a_kept a_mind a_tape a_words a_telling a_holds a_sizes a_elements a_moved a_above a_out a_first (0 : Int32) l1 (c_telling (l3).toNatClampNeg) l3 c_t c_now c_wBy c_wCell c_wFaces c_wFell c_wSign c_wTurns H.size v1 hv1) (cwV 4 hts gX6_go_X6_step rfl rfl rfl hV_X6_step ⟨(Nat.le_of_ble_eq_true rfl), (Nat.le_of_ble_eq_true rfl)⟩) hP hD hS [0, 1, 3, 4, 5, 6, 7, 8] rfl rfl hl.1 (ci := 6) rfl rfl rfl (rest := []) rfl rfl (Nat.le_of_ble_eq_true rfl) dX6_go_32) hP hD hS [0, 1, 3, 4, 5, 6, 7, 8] [2] [1, 2, 0, 3, 4, 5, 6, 7, 8] rfl rfl rfl (by decide) rfl (ws1 := (W_X6_go E a_t a_now a_telling a_wBy a_wCell a_wFaces a_wFell a_wSign a_wTurns a_refused a_kept a_mind a_tape a_words a_holds a_sizes a_elements a_moved a_above a_out a_first (v1.1) c_now c_telling (v1.2.1) (v1.2.2.1) (v1.2.2.2.1) (v1.2.2.2.2.1) (v1.2.2.2.2.2.1) (v1.2.2.2.2.2.2))) rfl (fun H locs hP hD hS => ?_)
      refine lv_iinc (v := (l3 + (1 : Int32))) (lv' := [(3, .int (l3 + (1 : Int32))), (0, .ref a_t), (1, .int l1), (2, .int l2)]) hx hb dX6_go_35 hl (k := 3) rfl rfl (by decide) rfl (fun ls hl => ?_)
      refine lv_goto (tgt := 17) hx hb dX6_go_38 (by decide) ?_
      exact ih (v1.1) (v1.2.1) (v1.2.2.1) (v1.2.2.2.1) (v1.2.2.2.2.1) (v1.2.2.2.2.2.1) (v1.2.2.2.2.2.2) l1 l2 (l3 + (1 : Int32)) _ _ _ h hP hD hS (lv_sub hl [1, 2, 3, 0] rfl)
set_option maxRecDepth 100000 in
set_option maxHeartbeats 4000000 in
theorem w_X6_go (X : Ctx p m meth c cX6_go 4 none s args wsX6_go RX6 E A) (a_t : Nat) (a_now : Nat) (a_telling : Nat) (a_wBy : Nat) (a_wCell : Nat) (a_wFaces : Nat) (a_wFell : Nat) (a_wSign : Nat) (a_wTurns : Nat) (a_refused : Nat) (a_kept : Nat) (a_mind : Nat) (a_tape : Nat) (a_words : Nat) (a_holds : Nat) (a_sizes : Nat) (a_elements : Nat) (a_moved : Nat) (a_above : Nat) (a_out : Nat) (a_first : Nat) (c_now : Nat → Int32) (c_telling : Nat → Int32) (res : (Nat → Int32) × (Nat → Int32) × (Nat → Int32) × (Nat → Int32) × (Nat → Int32) × (Nat → Int32) × (Nat → Int32)) (c_t : Nat → Int32) (c_wBy : Nat → Int32) (c_wCell : Nat → Int32) (c_wFaces : Nat → Int32) (c_wFell : Nat → Int32) (c_wSign : Nat → Int32) (c_wTurns : Nat → Int32) (l1 : Int32) (l2 : Int32) (ls : Array Slot) (H : Heap) (locs : List Loc) (h : f_X6_go l1 l2 c_t c_now c_telling c_wBy c_wCell c_wFaces c_wFell c_wSign c_wTurns = some res) (hP : va_P E.1 vwCl (W_X6_go E a_t a_now a_telling a_wBy a_wCell a_wFaces a_wFell a_wSign a_wTurns a_refused a_kept a_mind a_tape a_words a_holds a_sizes a_elements a_moved a_above a_out a_first c_t c_now c_telling c_wBy c_wCell c_wFaces c_wFell c_wSign c_wTurns) H) (hD : va_D A (W_X6_go E a_t a_now a_telling a_wBy a_wCell a_wFaces a_wFell a_wSign a_wTurns a_refused a_kept a_mind a_tape a_words a_holds a_sizes a_elements a_moved a_above a_out a_first c_t c_now c_telling c_wBy c_wCell c_wFaces c_wFell c_wSign c_wTurns)) (hS : va_S A s.heap H locs) (hl : lv_has ls 4 [(0, .ref a_t), (1, .int l1), (2, .int l2)]) : W p l e r_X6_go s m args below meth c H locs 0 0 (MQ below (qV E A (W_X6_go E a_t a_now a_telling a_wBy a_wCell a_wFaces a_wFell a_wSign a_wTurns a_refused a_kept a_mind a_tape a_words a_holds a_sizes a_elements a_moved a_above a_out a_first (res.1) c_now c_telling (res.2.1) (res.2.2.1) (res.2.2.2.1) (res.2.2.2.2.1) (res.2.2.2.2.2.1) (res.2.2.2.2.2.2))) args s 0 0 A) (F0 m 0 ls []) := by
  obtain ⟨hx, hb, hml, hr, hlk, hown, hts, hG, hA⟩ := id X
  have hK := hG.1
  have hN := hG.2.1
  unfold f_X6_go at h
  refine lv_aload_n hx hb dX6_go_0 rfl (lv_at hl 0 rfl) ?_
  refine lv_iconst (v := (0 : Int32)) hx hb dX6_go_1 (by decide) ?_
  refine lv_aload_n hx hb dX6_go_2 rfl (lv_at hl 0 rfl) ?_
  refine lv_iload_n hx hb dX6_go_3 rfl (lv_at hl 1 rfl) ?_
  obtain ⟨v1, hv1, h⟩ := bind_of h
  refine after_i X (run_V X (c_X6_cell l E a_t a_now a_refused a_kept a_mind a_tape a_words a_wCell a_wFaces a_wTurns a_wSign a_wBy a_wFell a_telling a_holds a_sizes a_elements a_moved a_above a_out a_first l1 c_t c_now H.size v1 hv1) (cwV 1 hts gX6_go_X6_cell rfl rfl rfl hV_X6_cell ⟨(Nat.le_of_ble_eq_true rfl), (Nat.le_of_ble_eq_true rfl)⟩) hP hD hS [0, 1] rfl rfl hl.1 (ci := 6) rfl rfl rfl (rest := [.int (0 : Int32), .ref a_t]) rfl rfl (Nat.le_of_ble_eq_true rfl) dX6_go_4) hP hD hS [0, 1] [2, 3, 4, 5, 6, 7, 8] [7, 8, 0, 1, 2, 3, 4, 5, 6] rfl rfl rfl (by decide) rfl (ws1 := (W_X6_go E a_t a_now a_telling a_wBy a_wCell a_wFaces a_wFell a_wSign a_wTurns a_refused a_kept a_mind a_tape a_words a_holds a_sizes a_elements a_moved a_above a_out a_first c_t c_now c_telling c_wBy c_wCell c_wFaces c_wFell c_wSign c_wTurns)) rfl (fun H locs hP hD hS => ?_)
  refine lv_aload_n hx hb dX6_go_7 rfl (lv_at hl 0 rfl) ?_
  refine lv_iload_n hx hb dX6_go_8 rfl (lv_at hl 1 rfl) ?_
  obtain ⟨v2, hv2, h⟩ := bind_of h
  refine after_i X (run_V X (c_X6_faces l E a_t a_now a_refused a_kept a_mind a_tape a_words a_wCell a_wFaces a_wTurns a_wSign a_wBy a_wFell a_telling a_holds a_sizes a_elements a_moved a_above a_out a_first l1 c_t c_now H.size v2 hv2) (cwV 1 hts gX6_go_X6_faces rfl rfl rfl hV_X6_faces ⟨(Nat.le_of_ble_eq_true rfl), (Nat.le_of_ble_eq_true rfl)⟩) hP hD hS [0, 1] rfl rfl hl.1 (ci := 6) rfl rfl rfl (rest := [.int v1, .int (0 : Int32), .ref a_t]) rfl rfl (Nat.le_of_ble_eq_true rfl) dX6_go_9) hP hD hS [0, 1] [2, 3, 4, 5, 6, 7, 8] [7, 8, 0, 1, 2, 3, 4, 5, 6] rfl rfl rfl (by decide) rfl (ws1 := (W_X6_go E a_t a_now a_telling a_wBy a_wCell a_wFaces a_wFell a_wSign a_wTurns a_refused a_kept a_mind a_tape a_words a_holds a_sizes a_elements a_moved a_above a_out a_first c_t c_now c_telling c_wBy c_wCell c_wFaces c_wFell c_wSign c_wTurns)) rfl (fun H locs hP hD hS => ?_)
  obtain ⟨v3, hv3, h⟩ := bind_of h
  refine after_v X (run_V X (c_X6_start l E a_t a_wCell a_wFaces a_wFell a_wTurns a_refused a_now a_kept a_mind a_tape a_words a_wSign a_wBy a_telling a_holds a_sizes a_elements a_moved a_above a_out a_first (0 : Int32) v1 v2 c_t c_wCell c_wFaces c_wFell c_wTurns H.size v3 hv3) (cwV 3 hts gX6_go_X6_start rfl rfl rfl hV_X6_start ⟨(Nat.le_of_ble_eq_true rfl), (Nat.le_of_ble_eq_true rfl)⟩) hP hD hS [0, 4, 5, 6, 8] rfl rfl hl.1 (ci := 6) rfl rfl rfl (rest := []) rfl rfl (Nat.le_of_ble_eq_true rfl) dX6_go_12) hP hD hS [0, 4, 5, 6, 8] [1, 2, 3, 7] [4, 0, 1, 2, 5, 6, 7, 3, 8] rfl rfl rfl (by decide) rfl (ws1 := (W_X6_go E a_t a_now a_telling a_wBy a_wCell a_wFaces a_wFell a_wSign a_wTurns a_refused a_kept a_mind a_tape a_words a_holds a_sizes a_elements a_moved a_above a_out a_first c_t c_now c_telling c_wBy (v3.1) (v3.2.1) (v3.2.2.1) c_wSign (v3.2.2.2))) rfl (fun H locs hP hD hS => ?_)
  refine lv_iconst (v := (0 : Int32)) hx hb dX6_go_15 (by decide) ?_
  refine lv_istore_n (lv' := [(3, .int (0 : Int32)), (0, .ref a_t), (1, .int l1), (2, .int l2)]) hx hb dX6_go_16 rfl hl (by decide) rfl (fun ls hl => ?_)
  exact w_X6_go_b17 X a_t a_now a_telling a_wBy a_wCell a_wFaces a_wFell a_wSign a_wTurns a_refused a_kept a_mind a_tape a_words a_holds a_sizes a_elements a_moved a_above a_out a_first c_now c_telling res FU c_t c_wBy (v3.1) (v3.2.1) (v3.2.2.1) c_wSign (v3.2.2.2) l1 l2 (0 : Int32) _ _ _ h hP hD hS (lv_sub hl [1, 2, 3, 0] rfl)
end
set_option maxRecDepth 100000 in
theorem c_X6_go (l : Launch) (E : Env0) (a_t : Nat) (a_now : Nat) (a_telling : Nat) (a_wBy : Nat) (a_wCell : Nat) (a_wFaces : Nat) (a_wFell : Nat) (a_wSign : Nat) (a_wTurns : Nat) (a_refused : Nat) (a_kept : Nat) (a_mind : Nat) (a_tape : Nat) (a_words : Nat) (a_holds : Nat) (a_sizes : Nat) (a_elements : Nat) (a_moved : Nat) (a_above : Nat) (a_out : Nat) (a_first : Nat) (l1 : Int32) (l2 : Int32) (c_t : Nat → Int32) (c_now : Nat → Int32) (c_telling : Nat → Int32) (c_wBy : Nat → Int32) (c_wCell : Nat → Int32) (c_wFaces : Nat → Int32) (c_wFell : Nat → Int32) (c_wSign : Nat → Int32) (c_wTurns : Nat → Int32) (sz : Nat) (res : (Nat → Int32) × (Nat → Int32) × (Nat → Int32) × (Nat → Int32) × (Nat → Int32) × (Nat → Int32) × (Nat → Int32)) (h : f_X6_go l1 l2 c_t c_now c_telling c_wBy c_wCell c_wFaces c_wFell c_wSign c_wTurns = some res) : Met l yX6_go wsX6_go r_X6_go (cPre E [.ref a_t, .int l1, .int l2] (W_X6_go E a_t a_now a_telling a_wBy a_wCell a_wFaces a_wFell a_wSign a_wTurns a_refused a_kept a_mind a_tape a_words a_holds a_sizes a_elements a_moved a_above a_out a_first c_t c_now c_telling c_wBy c_wCell c_wFaces c_wFell c_wSign c_wTurns) sz) (qV E (va_A (W_X6_go E a_t a_now a_telling a_wBy a_wCell a_wFaces a_wFell a_wSign a_wTurns a_refused a_kept a_mind a_tape a_words a_holds a_sizes a_elements a_moved a_above a_out a_first c_t c_now c_telling c_wBy c_wCell c_wFaces c_wFell c_wSign c_wTurns) sz) (W_X6_go E a_t a_now a_telling a_wBy a_wCell a_wFaces a_wFell a_wSign a_wTurns a_refused a_kept a_mind a_tape a_words a_holds a_sizes a_elements a_moved a_above a_out a_first (res.1) c_now c_telling (res.2.1) (res.2.2.1) (res.2.2.2.1) (res.2.2.2.2.1) (res.2.2.2.2.2.1) (res.2.2.2.2.2.2))) 0 0 (va_A (W_X6_go E a_t a_now a_telling a_wBy a_wCell a_wFaces a_wFell a_wSign a_wTurns a_refused a_kept a_mind a_tape a_words a_holds a_sizes a_elements a_moved a_above a_out a_first c_t c_now c_telling c_wBy c_wCell c_wFaces c_wFell c_wSign c_wTurns) sz) :=
  met_of (Qc := fun A => qV E A (W_X6_go E a_t a_now a_telling a_wBy a_wCell a_wFaces a_wFell a_wSign a_wTurns a_refused a_kept a_mind a_tape a_words a_holds a_sizes a_elements a_moved a_above a_out a_first (res.1) c_now c_telling (res.2.1) (res.2.2.1) (res.2.2.2.1) (res.2.2.2.2.1) (res.2.2.2.2.2.1) (res.2.2.2.2.2.2))) (by decide) rfl (Nat.le_of_ble_eq_true rfl) (fun p e s m args below meth c X hP hD hS ls hl => w_X6_go X a_t a_now a_telling a_wBy a_wCell a_wFaces a_wFell a_wSign a_wTurns a_refused a_kept a_mind a_tape a_words a_holds a_sizes a_elements a_moved a_above a_out a_first c_now c_telling res c_t c_wBy c_wCell c_wFaces c_wFell c_wSign c_wTurns l1 l2 ls _ _ h hP hD hS hl)
-- ===== X6_isShelf
abbrev W_X6_isShelf (E : Env0) : va_W := []
abbrev r_X6_isShelf : Room := { frames := 1, cells := 0, slots := 0, locals := 25 }
theorem hd_X6_isShelf : yX6_isShelf.cls ≠ "java/lang/invoke/MethodHandle" ∧ yX6_isShelf.cls ≠ "java/lang/invoke/VarHandle" ∧ (parseMethodDescriptor yX6_isShelf.desc).map (fun d => d.parameters.length) = some 1 := by decide +kernel
section
variable {p : Program} {l : Launch} {e : Env} {s : State} {m : MethodId} {args : Array Value} {below : List Frame} {meth : Method} {c : Code} {E : Env0} {A : Nat → Prop}
set_option maxRecDepth 100000 in
set_option maxHeartbeats 4000000 in
theorem w_X6_isShelf (X : Ctx p m meth c cX6_isShelf 1 ((some .boolean)) s args wsX6_isShelf RX6 E A) (res : Int32) (l0 : Int32) (ls : Array Slot) (H : Heap) (locs : List Loc) (h : f_X6_isShelf l0 = some res) (hP : va_P E.1 vwCl (W_X6_isShelf E) H) (hD : va_D A (W_X6_isShelf E)) (hS : va_S A s.heap H locs) (hl : lv_has ls 1 [(0, .int l0)]) : W p l e r_X6_isShelf s m args below meth c H locs 0 0 (MQ below (qI E A res (W_X6_isShelf E)) args s 0 0 A) (F0 m 0 ls []) := by
  obtain ⟨hx, hb, hml, hr, hlk, hown, hts, hG, hA⟩ := id X
  have hK := hG.1
  have hN := hG.2.1
  unfold f_X6_isShelf at h
  refine lv_iload_n hx hb dX6_isShelf_0 rfl (lv_at hl 0 rfl) ?_
  refine lv_i2l (v := (l0.toInt64)) hx hb dX6_isShelf_1 rfl ?_
  refine lv_lconst (v := (0 : Int64)) hx hb dX6_isShelf_2 (by decide) ?_
  refine lv_ldc2 (v := (7 : Int64)) hx hb hown (hts (.constantLong RX6 99 (7)) (List.mem_of_getElem? (i := 1) rfl)) dX6_isShelf_3 ?_
  obtain ⟨v1, hv1, h⟩ := bind_of h
  refine after_i X (run_S X (c_X6_isIn l E (l0.toInt64) (0 : Int64) (7 : Int64) H.size v1 hv1) (va_cwS 3 hts gX6_isShelf_X6_isIn rfl rfl rfl hd_X6_isIn ⟨(Nat.le_of_ble_eq_true rfl), (Nat.le_of_ble_eq_true rfl)⟩) hP hD hS [] rfl rfl hl.1 (rest := []) rfl rfl (Nat.le_of_ble_eq_true rfl) dX6_isShelf_6) hP hD hS [] [] [] rfl rfl rfl (by decide) rfl (ws1 := (W_X6_isShelf E)) rfl (fun H locs hP hD hS => ?_)
  obtain ⟨hz9, h⟩ := chk_of h
  obtain rfl := Option.some.inj h
  exact ret_z X dX6_isShelf_9 hz9 hP hD hS rfl
end
set_option maxRecDepth 100000 in
theorem c_X6_isShelf (l : Launch) (E : Env0) (l0 : Int32) (sz : Nat) (res : Int32) (h : f_X6_isShelf l0 = some res) : Met l yX6_isShelf wsX6_isShelf r_X6_isShelf (cPre E [.int l0] (W_X6_isShelf E) sz) (qI E (va_A (W_X6_isShelf E) sz) res (W_X6_isShelf E)) 0 0 (va_A (W_X6_isShelf E) sz) :=
  met_of (Qc := fun A => qI E A res (W_X6_isShelf E)) (by decide) rfl (Nat.le_of_ble_eq_true rfl) (fun p e s m args below meth c X hP hD hS ls hl => w_X6_isShelf X res l0 ls _ _ h hP hD hS hl)
-- ===== X6_row
abbrev W_X6_row (E : Env0) (a_t : Nat) (a_elements : Nat) (a_holds : Nat) (a_refused : Nat) (a_sizes : Nat) (a_now : Nat) (a_kept : Nat) (a_mind : Nat) (a_tape : Nat) (a_words : Nat) (a_wCell : Nat) (a_wFaces : Nat) (a_wTurns : Nat) (a_wSign : Nat) (a_wBy : Nat) (a_wFell : Nat) (a_telling : Nat) (a_moved : Nat) (a_above : Nat) (a_out : Nat) (a_first : Nat) (c_t : Nat → Int32) (c_elements : Nat → Int64) (c_holds : Nat → Int32) (c_refused : Nat → Int32) (c_sizes : Nat → Int32) : va_W := [(a_t, .inr (6, [.ref a_refused, .ref a_now, .ref a_kept, .ref a_mind, .int (c_t 4), .ref a_tape, .int (c_t 6), .int (c_t 7), .int (c_t 8), .int (c_t 9), .ref a_words, .ref a_wCell, .ref a_wFaces, .ref a_wTurns, .ref a_wSign, .ref a_wBy, .ref a_wFell, .int (c_t 17), .ref a_telling, .ref a_holds, .ref a_sizes, .ref a_elements, .ref a_moved, .ref a_above, .ref a_out, .ref a_first])), (a_elements, .inl (eJ E, 320, .inr (.inl c_elements))), (a_holds, .inl (eI E, 8, .inl c_holds)), (a_refused, .inl (eI E, 7, .inl c_refused)), (a_sizes, .inl (eI E, 8, .inl c_sizes))]
abbrev r_X6_row : Room := { frames := 2, cells := 0, slots := 0, locals := 45 }
theorem hd_X6_row : yX6_row.cls ≠ "java/lang/invoke/MethodHandle" ∧ yX6_row.cls ≠ "java/lang/invoke/VarHandle" ∧ (parseMethodDescriptor yX6_row.desc).map (fun d => d.parameters.length) = some 3 := by decide +kernel
theorem hV_X6_row : yX6_row.cls = RX6 ∧ yX6_row.cls ≠ "java/lang/invoke/MethodHandle" ∧ yX6_row.cls ≠ "java/lang/invoke/VarHandle" ∧ (parseMethodDescriptor yX6_row.desc).map (fun d => d.parameters.length) = some 3 := ⟨rfl, hd_X6_row⟩
theorem iX6_row_X6 : ∀ w ∈ wsX60, w ∈ wsX6_row := fun _ h => List.mem_cons_of_mem _ (List.mem_append_right _ (h))
section
variable {p : Program} {l : Launch} {e : Env} {s : State} {m : MethodId} {args : Array Value} {below : List Frame} {meth : Method} {c : Code} {E : Env0} {A : Nat → Prop}
set_option maxRecDepth 100000 in
set_option maxHeartbeats 4000000 in
theorem w_X6_row_b31 (X : Ctx p m meth c cX6_row 5 ((some .int)) s args wsX6_row RX6 E A) (a_t : Nat) (a_elements : Nat) (a_holds : Nat) (a_refused : Nat) (a_sizes : Nat) (a_now : Nat) (a_kept : Nat) (a_mind : Nat) (a_tape : Nat) (a_words : Nat) (a_wCell : Nat) (a_wFaces : Nat) (a_wTurns : Nat) (a_wSign : Nat) (a_wBy : Nat) (a_wFell : Nat) (a_telling : Nat) (a_moved : Nat) (a_above : Nat) (a_out : Nat) (a_first : Nat) (c_t : Nat → Int32) (res : Int32 × (Nat → Int64) × (Nat → Int32) × (Nat → Int32) × (Nat → Int32)) (c_elements : Nat → Int64) (c_holds : Nat → Int32) (c_refused : Nat → Int32) (c_sizes : Nat → Int32) (ls : Array Slot) (H : Heap) (locs : List Loc) (h : f_X6_row_b31 c_t c_elements c_holds c_refused c_sizes = some res) (hP : va_P E.1 vwCl (W_X6_row E a_t a_elements a_holds a_refused a_sizes a_now a_kept a_mind a_tape a_words a_wCell a_wFaces a_wTurns a_wSign a_wBy a_wFell a_telling a_moved a_above a_out a_first c_t c_elements c_holds c_refused c_sizes) H) (hD : va_D A (W_X6_row E a_t a_elements a_holds a_refused a_sizes a_now a_kept a_mind a_tape a_words a_wCell a_wFaces a_wTurns a_wSign a_wBy a_wFell a_telling a_moved a_above a_out a_first c_t c_elements c_holds c_refused c_sizes)) (hS : va_S A s.heap H locs) (hl : lv_has ls 5 [(0, .ref a_t)]) : W p l e r_X6_row s m args below meth c H locs 0 0 (MQ below (qI E A (res.1) (W_X6_row E a_t a_elements a_holds a_refused a_sizes a_now a_kept a_mind a_tape a_words a_wCell a_wFaces a_wTurns a_wSign a_wBy a_wFell a_telling a_moved a_above a_out a_first c_t (res.2.1) (res.2.2.1) (res.2.2.2.1) (res.2.2.2.2))) args s 0 0 A) (F0 m 31 ls []) := by
  obtain ⟨hx, hb, hml, hr, hlk, hown, hts, hG, hA⟩ := id X
  have hK := hG.1
  have hN := hG.2.1
  unfold f_X6_row_b31 at h
  refine lv_aload_n hx hb dX6_row_31 rfl (lv_at hl 0 rfl) ?_
  refine lv_bipush (v := (-2 : Int32)) hx hb dX6_row_32 (by decide) ?_
  obtain ⟨v1, hv1, h⟩ := bind_of h
  refine after_i X (run_V X (c_X6_refuse l E a_t a_refused a_now a_kept a_mind a_tape a_words a_wCell a_wFaces a_wTurns a_wSign a_wBy a_wFell a_telling a_holds a_sizes a_elements a_moved a_above a_out a_first (-2 : Int32) c_t c_refused H.size v1 hv1) (cwV 1 hts gX6_row_X6_refuse rfl rfl rfl hV_X6_refuse ⟨(Nat.le_of_ble_eq_true rfl), (Nat.le_of_ble_eq_true rfl)⟩) hP hD hS [0, 3] rfl rfl hl.1 (ci := 6) rfl rfl rfl (rest := []) rfl rfl (Nat.le_of_ble_eq_true rfl) dX6_row_34) hP hD hS [0, 3] [1, 2, 4] [3, 0, 1, 4, 2] rfl rfl rfl (by decide) rfl (ws1 := (W_X6_row E a_t a_elements a_holds a_refused a_sizes a_now a_kept a_mind a_tape a_words a_wCell a_wFaces a_wTurns a_wSign a_wBy a_wFell a_telling a_moved a_above a_out a_first c_t c_elements c_holds (v1.2) c_sizes)) rfl (fun H locs hP hD hS => ?_)
  obtain rfl := Option.some.inj h
  exact ret_i X dX6_row_37 hP hD hS rfl
set_option maxRecDepth 100000 in
set_option maxHeartbeats 4000000 in
theorem w_X6_row_b55 (X : Ctx p m meth c cX6_row 5 ((some .int)) s args wsX6_row RX6 E A) (a_t : Nat) (a_elements : Nat) (a_holds : Nat) (a_refused : Nat) (a_sizes : Nat) (a_now : Nat) (a_kept : Nat) (a_mind : Nat) (a_tape : Nat) (a_words : Nat) (a_wCell : Nat) (a_wFaces : Nat) (a_wTurns : Nat) (a_wSign : Nat) (a_wBy : Nat) (a_wFell : Nat) (a_telling : Nat) (a_moved : Nat) (a_above : Nat) (a_out : Nat) (a_first : Nat) (c_t : Nat → Int32) (res : Int32 × (Nat → Int64) × (Nat → Int32) × (Nat → Int32) × (Nat → Int32)) : ∀ (n : Nat) (c_elements : Nat → Int64) (c_holds : Nat → Int32) (c_refused : Nat → Int32) (c_sizes : Nat → Int32) (l1 : Int32) (l4 : Int32) (ls : Array Slot) (H : Heap) (locs : List Loc), f_X6_row_b55 c_t n c_elements c_holds c_refused c_sizes l1 l4 = some res → va_P E.1 vwCl (W_X6_row E a_t a_elements a_holds a_refused a_sizes a_now a_kept a_mind a_tape a_words a_wCell a_wFaces a_wTurns a_wSign a_wBy a_wFell a_telling a_moved a_above a_out a_first c_t c_elements c_holds c_refused c_sizes) H → va_D A (W_X6_row E a_t a_elements a_holds a_refused a_sizes a_now a_kept a_mind a_tape a_words a_wCell a_wFaces a_wTurns a_wSign a_wBy a_wFell a_telling a_moved a_above a_out a_first c_t c_elements c_holds c_refused c_sizes) → va_S A s.heap H locs → lv_has ls 5 [(0, .ref a_t), (1, .int l1), (4, .int l4)] → W p l e r_X6_row s m args below meth c H locs 0 0 (MQ below (qI E A (res.1) (W_X6_row E a_t a_elements a_holds a_refused a_sizes a_now a_kept a_mind a_tape a_words a_wCell a_wFaces a_wTurns a_wSign a_wBy a_wFell a_telling a_moved a_above a_out a_first c_t (res.2.1) (res.2.2.1) (res.2.2.2.1) (res.2.2.2.2))) args s 0 0 A) (F0 m 55 ls []) := by
  obtain ⟨hx, hb, hml, hr, hlk, hown, hts, hG, hA⟩ := id X
  have hK := hG.1
  have hN := hG.2.1
  intro n
  induction n with
  | zero =>
    intro c_elements c_holds c_refused c_sizes l1 l4 ls H locs h
    exact absurd (show (none : Option (Int32 × (Nat → Int64) × (Nat → Int32) × (Nat → Int32) × (Nat → Int32))) = some res from h) (by intro q; cases q)
  | succ n ih =>
    intro c_elements c_holds c_refused c_sizes l1 l4 ls H locs h hP hD hS hl
    rw [f_X6_row_b55] at h
    refine lv_iload hx hb dX6_row_55 (lv_at hl 2 rfl) ?_
    refine lv_bipush (v := (40 : Int32)) hx hb dX6_row_57 (by decide) ?_
    refine lv_icmp_ge (tgt := 81) hx hb dX6_row_59 (by decide) (fun hc59 => ?_) (fun hc59 => ?_)
    · have h := if_t h hc59
      refine lv_iconst (v := (1 : Int32)) hx hb dX6_row_81 (by decide) ?_
      obtain rfl := Option.some.inj h
      exact ret_i X dX6_row_82 hP hD hS rfl
    · have h := if_f h hc59
      refine lv_aload_n hx hb dX6_row_62 rfl (lv_at hl 0 rfl) ?_
      refine va_get (D := E.1) (ci := 6) (v := .ref a_elements) (C := RX6) (T := TX6) (N := 26) hx hb hts iX6_row_X6 hown hK hP 0 rfl rfl 21 (by decide) (hts (.fieldLink RX6 60 "LeftIsAgreedOnModel" "elements" "[J") (List.mem_of_getElem? (i := 5) rfl)) (fun _ h9 => h9) rfl dX6_row_63 ?_
      refine lv_bipush (v := (40 : Int32)) hx hb dX6_row_66 (by decide) ?_
      refine lv_iload_n hx hb dX6_row_68 rfl (lv_at hl 1 rfl) ?_
      refine lv_imul hx hb dX6_row_69 ?_
      refine lv_iload hx hb dX6_row_70 (lv_at hl 2 rfl) ?_
      refine lv_iadd hx hb dX6_row_72 ?_
      refine lv_lconst (v := (0 : Int64)) hx hb dX6_row_73 (by decide) ?_
      obtain ⟨hz74, h⟩ := chk_of h
      refine st_l X hP hD hS 1 rfl (inb.vp hz74) (k := ((((40 : Int32) * l1) + l4)).toNatClampNeg) rfl (ws1 := (W_X6_row E a_t a_elements a_holds a_refused a_sizes a_now a_kept a_mind a_tape a_words a_wCell a_wFaces a_wTurns a_wSign a_wBy a_wFell a_telling a_moved a_above a_out a_first c_t (vp_updL c_elements (((((40 : Int32) * l1) + l4)).toNatClampNeg) (0 : Int64)) c_holds c_refused c_sizes)) rfl dX6_row_74 (fun H locs hP hD hS => ?_)
      refine lv_iinc (v := (l4 + (1 : Int32))) (lv' := [(4, .int (l4 + (1 : Int32))), (0, .ref a_t), (1, .int l1)]) hx hb dX6_row_75 hl (k := 2) rfl rfl (by decide) rfl (fun ls hl => ?_)
      refine lv_goto (tgt := 55) hx hb dX6_row_78 (by decide) ?_
      exact ih (vp_updL c_elements (((((40 : Int32) * l1) + l4)).toNatClampNeg) (0 : Int64)) c_holds c_refused c_sizes l1 (l4 + (1 : Int32)) _ _ _ h hP hD hS (lv_sub hl [1, 2, 0] rfl)
set_option maxRecDepth 100000 in
set_option maxHeartbeats 4000000 in
theorem w_X6_row (X : Ctx p m meth c cX6_row 5 ((some .int)) s args wsX6_row RX6 E A) (a_t : Nat) (a_elements : Nat) (a_holds : Nat) (a_refused : Nat) (a_sizes : Nat) (a_now : Nat) (a_kept : Nat) (a_mind : Nat) (a_tape : Nat) (a_words : Nat) (a_wCell : Nat) (a_wFaces : Nat) (a_wTurns : Nat) (a_wSign : Nat) (a_wBy : Nat) (a_wFell : Nat) (a_telling : Nat) (a_moved : Nat) (a_above : Nat) (a_out : Nat) (a_first : Nat) (c_t : Nat → Int32) (res : Int32 × (Nat → Int64) × (Nat → Int32) × (Nat → Int32) × (Nat → Int32)) (c_elements : Nat → Int64) (c_holds : Nat → Int32) (c_refused : Nat → Int32) (c_sizes : Nat → Int32) (l1 : Int32) (l2 : Int32) (l3 : Int32) (ls : Array Slot) (H : Heap) (locs : List Loc) (h : f_X6_row l1 l2 l3 c_t c_elements c_holds c_refused c_sizes = some res) (hP : va_P E.1 vwCl (W_X6_row E a_t a_elements a_holds a_refused a_sizes a_now a_kept a_mind a_tape a_words a_wCell a_wFaces a_wTurns a_wSign a_wBy a_wFell a_telling a_moved a_above a_out a_first c_t c_elements c_holds c_refused c_sizes) H) (hD : va_D A (W_X6_row E a_t a_elements a_holds a_refused a_sizes a_now a_kept a_mind a_tape a_words a_wCell a_wFaces a_wTurns a_wSign a_wBy a_wFell a_telling a_moved a_above a_out a_first c_t c_elements c_holds c_refused c_sizes)) (hS : va_S A s.heap H locs) (hl : lv_has ls 5 [(0, .ref a_t), (1, .int l1), (2, .int l2), (3, .int l3)]) : W p l e r_X6_row s m args below meth c H locs 0 0 (MQ below (qI E A (res.1) (W_X6_row E a_t a_elements a_holds a_refused a_sizes a_now a_kept a_mind a_tape a_words a_wCell a_wFaces a_wTurns a_wSign a_wBy a_wFell a_telling a_moved a_above a_out a_first c_t (res.2.1) (res.2.2.1) (res.2.2.2.1) (res.2.2.2.2))) args s 0 0 A) (F0 m 0 ls []) := by
  obtain ⟨hx, hb, hml, hr, hlk, hown, hts, hG, hA⟩ := id X
  have hK := hG.1
  have hN := hG.2.1
  unfold f_X6_row at h
  refine lv_iload_n hx hb dX6_row_0 rfl (lv_at hl 1 rfl) ?_
  obtain ⟨v1, hv1, h⟩ := bind_of h
  refine after_i X (run_S X (c_X6_isShelf l E l1 H.size v1 hv1) (va_cwS 1 hts gX6_row_X6_isShelf rfl rfl rfl hd_X6_isShelf ⟨(Nat.le_of_ble_eq_true rfl), (Nat.le_of_ble_eq_true rfl)⟩) hP hD hS [] rfl rfl hl.1 (rest := []) rfl rfl (Nat.le_of_ble_eq_true rfl) dX6_row_1) hP hD hS [] [0, 1, 2, 3, 4] [0, 1, 2, 3, 4] rfl rfl rfl (by decide) rfl (ws1 := (W_X6_row E a_t a_elements a_holds a_refused a_sizes a_now a_kept a_mind a_tape a_words a_wCell a_wFaces a_wTurns a_wSign a_wBy a_wFell a_telling a_moved a_above a_out a_first c_t c_elements c_holds c_refused c_sizes)) rfl (fun H locs hP hD hS => ?_)
  refine lv_if_eq (tgt := 31) hx hb dX6_row_4 (by decide) (fun hc4 => ?_) (fun hc4 => ?_)
  · have h := if_t h hc4
    exact w_X6_row_b31 X a_t a_elements a_holds a_refused a_sizes a_now a_kept a_mind a_tape a_words a_wCell a_wFaces a_wTurns a_wSign a_wBy a_wFell a_telling a_moved a_above a_out a_first c_t res c_elements c_holds c_refused c_sizes _ _ _ h hP hD hS (lv_sub hl [0] rfl)
  · have h := if_f h hc4
    refine lv_iload_n hx hb dX6_row_7 rfl (lv_at hl 2 rfl) ?_
    refine lv_i2l (v := (l2.toInt64)) hx hb dX6_row_8 rfl ?_
    refine lv_lconst (v := (0 : Int64)) hx hb dX6_row_9 (by decide) ?_
    refine lv_ldc2 (v := (4 : Int64)) hx hb hown (hts (.constantLong RX6 206 (4)) (List.mem_of_getElem? (i := 1) rfl)) dX6_row_10 ?_
    obtain ⟨v2, hv2, h⟩ := bind_of h
    refine after_i X (run_S X (c_X6_isIn l E (l2.toInt64) (0 : Int64) (4 : Int64) H.size v2 hv2) (va_cwS 3 hts gX6_row_X6_isIn rfl rfl rfl hd_X6_isIn ⟨(Nat.le_of_ble_eq_true rfl), (Nat.le_of_ble_eq_true rfl)⟩) hP hD hS [] rfl rfl hl.1 (rest := []) rfl rfl (Nat.le_of_ble_eq_true rfl) dX6_row_13) hP hD hS [] [0, 1, 2, 3, 4] [0, 1, 2, 3, 4] rfl rfl rfl (by decide) rfl (ws1 := (W_X6_row E a_t a_elements a_holds a_refused a_sizes a_now a_kept a_mind a_tape a_words a_wCell a_wFaces a_wTurns a_wSign a_wBy a_wFell a_telling a_moved a_above a_out a_first c_t c_elements c_holds c_refused c_sizes)) rfl (fun H locs hP hD hS => ?_)
    refine lv_if_eq (tgt := 31) hx hb dX6_row_16 (by decide) (fun hc16 => ?_) (fun hc16 => ?_)
    · have h := if_t h hc16
      exact w_X6_row_b31 X a_t a_elements a_holds a_refused a_sizes a_now a_kept a_mind a_tape a_words a_wCell a_wFaces a_wTurns a_wSign a_wBy a_wFell a_telling a_moved a_above a_out a_first c_t res c_elements c_holds c_refused c_sizes _ _ _ h hP hD hS (lv_sub hl [0] rfl)
    · have h := if_f h hc16
      refine lv_iload_n hx hb dX6_row_19 rfl (lv_at hl 3 rfl) ?_
      refine lv_i2l (v := (l3.toInt64)) hx hb dX6_row_20 rfl ?_
      refine lv_lconst (v := (0 : Int64)) hx hb dX6_row_21 (by decide) ?_
      refine lv_ldc2 (v := (40 : Int64)) hx hb hown (hts (.constantLong RX6 208 (40)) (List.mem_of_getElem? (i := 2) rfl)) dX6_row_22 ?_
      obtain ⟨v3, hv3, h⟩ := bind_of h
      refine after_i X (run_S X (c_X6_isIn l E (l3.toInt64) (0 : Int64) (40 : Int64) H.size v3 hv3) (va_cwS 3 hts gX6_row_X6_isIn rfl rfl rfl hd_X6_isIn ⟨(Nat.le_of_ble_eq_true rfl), (Nat.le_of_ble_eq_true rfl)⟩) hP hD hS [] rfl rfl hl.1 (rest := []) rfl rfl (Nat.le_of_ble_eq_true rfl) dX6_row_25) hP hD hS [] [0, 1, 2, 3, 4] [0, 1, 2, 3, 4] rfl rfl rfl (by decide) rfl (ws1 := (W_X6_row E a_t a_elements a_holds a_refused a_sizes a_now a_kept a_mind a_tape a_words a_wCell a_wFaces a_wTurns a_wSign a_wBy a_wFell a_telling a_moved a_above a_out a_first c_t c_elements c_holds c_refused c_sizes)) rfl (fun H locs hP hD hS => ?_)
      refine lv_if_ne (tgt := 38) hx hb dX6_row_28 (by decide) (fun hc28 => ?_) (fun hc28 => ?_)
      · have h := if_f h hc28
        refine lv_aload_n hx hb dX6_row_38 rfl (lv_at hl 0 rfl) ?_
        refine va_get (D := E.1) (ci := 6) (v := .ref a_holds) (C := RX6) (T := TX6) (N := 26) hx hb hts iX6_row_X6 hown hK hP 0 rfl rfl 19 (by decide) (hts (.fieldLink RX6 54 "LeftIsAgreedOnModel" "holds" "[I") (List.mem_of_getElem? (i := 3) rfl)) (fun _ h9 => h9) rfl dX6_row_39 ?_
        refine lv_iload_n hx hb dX6_row_42 rfl (lv_at hl 1 rfl) ?_
        refine lv_iload_n hx hb dX6_row_43 rfl (lv_at hl 2 rfl) ?_
        obtain ⟨hz44, h⟩ := chk_of h
        refine st_i X hP hD hS 2 rfl (inb.vp hz44) (k := (l1).toNatClampNeg) rfl (ws1 := (W_X6_row E a_t a_elements a_holds a_refused a_sizes a_now a_kept a_mind a_tape a_words a_wCell a_wFaces a_wTurns a_wSign a_wBy a_wFell a_telling a_moved a_above a_out a_first c_t c_elements (upd c_holds ((l1).toNatClampNeg) l2) c_refused c_sizes)) rfl dX6_row_44 (fun H locs hP hD hS => ?_)
        refine lv_aload_n hx hb dX6_row_45 rfl (lv_at hl 0 rfl) ?_
        refine va_get (D := E.1) (ci := 6) (v := .ref a_sizes) (C := RX6) (T := TX6) (N := 26) hx hb hts iX6_row_X6 hown hK hP 0 rfl rfl 20 (by decide) (hts (.fieldLink RX6 57 "LeftIsAgreedOnModel" "sizes" "[I") (List.mem_of_getElem? (i := 4) rfl)) (fun _ h9 => h9) rfl dX6_row_46 ?_
        refine lv_iload_n hx hb dX6_row_49 rfl (lv_at hl 1 rfl) ?_
        refine lv_iload_n hx hb dX6_row_50 rfl (lv_at hl 3 rfl) ?_
        obtain ⟨hz51, h⟩ := chk_of h
        refine st_i X hP hD hS 4 rfl (inb.vp hz51) (k := (l1).toNatClampNeg) rfl (ws1 := (W_X6_row E a_t a_elements a_holds a_refused a_sizes a_now a_kept a_mind a_tape a_words a_wCell a_wFaces a_wTurns a_wSign a_wBy a_wFell a_telling a_moved a_above a_out a_first c_t c_elements (upd c_holds ((l1).toNatClampNeg) l2) c_refused (upd c_sizes ((l1).toNatClampNeg) l3))) rfl dX6_row_51 (fun H locs hP hD hS => ?_)
        refine lv_iconst (v := (0 : Int32)) hx hb dX6_row_52 (by decide) ?_
        refine lv_istore (lv' := [(4, .int (0 : Int32)), (0, .ref a_t), (1, .int l1), (2, .int l2), (3, .int l3)]) hx hb dX6_row_53 hl (by decide) rfl (fun ls hl => ?_)
        exact w_X6_row_b55 X a_t a_elements a_holds a_refused a_sizes a_now a_kept a_mind a_tape a_words a_wCell a_wFaces a_wTurns a_wSign a_wBy a_wFell a_telling a_moved a_above a_out a_first c_t res FU c_elements (upd c_holds ((l1).toNatClampNeg) l2) c_refused (upd c_sizes ((l1).toNatClampNeg) l3) l1 (0 : Int32) _ _ _ h hP hD hS (lv_sub hl [1, 2, 0] rfl)
      · have h := if_t h hc28
        exact w_X6_row_b31 X a_t a_elements a_holds a_refused a_sizes a_now a_kept a_mind a_tape a_words a_wCell a_wFaces a_wTurns a_wSign a_wBy a_wFell a_telling a_moved a_above a_out a_first c_t res c_elements c_holds c_refused c_sizes _ _ _ h hP hD hS (lv_sub hl [0] rfl)
end
set_option maxRecDepth 100000 in
theorem c_X6_row (l : Launch) (E : Env0) (a_t : Nat) (a_elements : Nat) (a_holds : Nat) (a_refused : Nat) (a_sizes : Nat) (a_now : Nat) (a_kept : Nat) (a_mind : Nat) (a_tape : Nat) (a_words : Nat) (a_wCell : Nat) (a_wFaces : Nat) (a_wTurns : Nat) (a_wSign : Nat) (a_wBy : Nat) (a_wFell : Nat) (a_telling : Nat) (a_moved : Nat) (a_above : Nat) (a_out : Nat) (a_first : Nat) (l1 : Int32) (l2 : Int32) (l3 : Int32) (c_t : Nat → Int32) (c_elements : Nat → Int64) (c_holds : Nat → Int32) (c_refused : Nat → Int32) (c_sizes : Nat → Int32) (sz : Nat) (res : Int32 × (Nat → Int64) × (Nat → Int32) × (Nat → Int32) × (Nat → Int32)) (h : f_X6_row l1 l2 l3 c_t c_elements c_holds c_refused c_sizes = some res) : Met l yX6_row wsX6_row r_X6_row (cPre E [.ref a_t, .int l1, .int l2, .int l3] (W_X6_row E a_t a_elements a_holds a_refused a_sizes a_now a_kept a_mind a_tape a_words a_wCell a_wFaces a_wTurns a_wSign a_wBy a_wFell a_telling a_moved a_above a_out a_first c_t c_elements c_holds c_refused c_sizes) sz) (qI E (va_A (W_X6_row E a_t a_elements a_holds a_refused a_sizes a_now a_kept a_mind a_tape a_words a_wCell a_wFaces a_wTurns a_wSign a_wBy a_wFell a_telling a_moved a_above a_out a_first c_t c_elements c_holds c_refused c_sizes) sz) (res.1) (W_X6_row E a_t a_elements a_holds a_refused a_sizes a_now a_kept a_mind a_tape a_words a_wCell a_wFaces a_wTurns a_wSign a_wBy a_wFell a_telling a_moved a_above a_out a_first c_t (res.2.1) (res.2.2.1) (res.2.2.2.1) (res.2.2.2.2))) 0 0 (va_A (W_X6_row E a_t a_elements a_holds a_refused a_sizes a_now a_kept a_mind a_tape a_words a_wCell a_wFaces a_wTurns a_wSign a_wBy a_wFell a_telling a_moved a_above a_out a_first c_t c_elements c_holds c_refused c_sizes) sz) :=
  met_of (Qc := fun A => qI E A (res.1) (W_X6_row E a_t a_elements a_holds a_refused a_sizes a_now a_kept a_mind a_tape a_words a_wCell a_wFaces a_wTurns a_wSign a_wBy a_wFell a_telling a_moved a_above a_out a_first c_t (res.2.1) (res.2.2.1) (res.2.2.2.1) (res.2.2.2.2))) (by decide) rfl (Nat.le_of_ble_eq_true rfl) (fun p e s m args below meth c X hP hD hS ls hl => w_X6_row X a_t a_elements a_holds a_refused a_sizes a_now a_kept a_mind a_tape a_words a_wCell a_wFaces a_wTurns a_wSign a_wBy a_wFell a_telling a_moved a_above a_out a_first c_t res c_elements c_holds c_refused c_sizes l1 l2 l3 ls _ _ h hP hD hS hl)
-- ===== X6_rowIn
abbrev W_X6_rowIn (E : Env0) (a_t : Nat) (a_holds : Nat) (a_refused : Nat) (a_now : Nat) (a_kept : Nat) (a_mind : Nat) (a_tape : Nat) (a_words : Nat) (a_wCell : Nat) (a_wFaces : Nat) (a_wTurns : Nat) (a_wSign : Nat) (a_wBy : Nat) (a_wFell : Nat) (a_telling : Nat) (a_sizes : Nat) (a_elements : Nat) (a_moved : Nat) (a_above : Nat) (a_out : Nat) (a_first : Nat) (c_t : Nat → Int32) (c_holds : Nat → Int32) : va_W := [(a_t, .inr (6, [.ref a_refused, .ref a_now, .ref a_kept, .ref a_mind, .int (c_t 4), .ref a_tape, .int (c_t 6), .int (c_t 7), .int (c_t 8), .int (c_t 9), .ref a_words, .ref a_wCell, .ref a_wFaces, .ref a_wTurns, .ref a_wSign, .ref a_wBy, .ref a_wFell, .int (c_t 17), .ref a_telling, .ref a_holds, .ref a_sizes, .ref a_elements, .ref a_moved, .ref a_above, .ref a_out, .ref a_first])), (a_holds, .inl (eI E, 8, .inl c_holds))]
abbrev r_X6_rowIn : Room := { frames := 0, cells := 0, slots := 0, locals := 0 }
theorem hd_X6_rowIn : yX6_rowIn.cls ≠ "java/lang/invoke/MethodHandle" ∧ yX6_rowIn.cls ≠ "java/lang/invoke/VarHandle" ∧ (parseMethodDescriptor yX6_rowIn.desc).map (fun d => d.parameters.length) = some 1 := by decide +kernel
theorem hV_X6_rowIn : yX6_rowIn.cls = RX6 ∧ yX6_rowIn.cls ≠ "java/lang/invoke/MethodHandle" ∧ yX6_rowIn.cls ≠ "java/lang/invoke/VarHandle" ∧ (parseMethodDescriptor yX6_rowIn.desc).map (fun d => d.parameters.length) = some 1 := ⟨rfl, hd_X6_rowIn⟩
theorem iX6_rowIn_X6 : ∀ w ∈ wsX60, w ∈ wsX6_rowIn := fun _ h => List.mem_cons_of_mem _ (List.mem_append_right _ (h))
section
variable {p : Program} {l : Launch} {e : Env} {s : State} {m : MethodId} {args : Array Value} {below : List Frame} {meth : Method} {c : Code} {E : Env0} {A : Nat → Prop}
set_option maxRecDepth 100000 in
set_option maxHeartbeats 4000000 in
theorem w_X6_rowIn (X : Ctx p m meth c cX6_rowIn 2 ((some .int)) s args wsX6_rowIn RX6 E A) (a_t : Nat) (a_holds : Nat) (a_refused : Nat) (a_now : Nat) (a_kept : Nat) (a_mind : Nat) (a_tape : Nat) (a_words : Nat) (a_wCell : Nat) (a_wFaces : Nat) (a_wTurns : Nat) (a_wSign : Nat) (a_wBy : Nat) (a_wFell : Nat) (a_telling : Nat) (a_sizes : Nat) (a_elements : Nat) (a_moved : Nat) (a_above : Nat) (a_out : Nat) (a_first : Nat) (c_t : Nat → Int32) (c_holds : Nat → Int32) (res : Int32) (l1 : Int32) (ls : Array Slot) (H : Heap) (locs : List Loc) (h : f_X6_rowIn l1 c_t c_holds = some res) (hP : va_P E.1 vwCl (W_X6_rowIn E a_t a_holds a_refused a_now a_kept a_mind a_tape a_words a_wCell a_wFaces a_wTurns a_wSign a_wBy a_wFell a_telling a_sizes a_elements a_moved a_above a_out a_first c_t c_holds) H) (hD : va_D A (W_X6_rowIn E a_t a_holds a_refused a_now a_kept a_mind a_tape a_words a_wCell a_wFaces a_wTurns a_wSign a_wBy a_wFell a_telling a_sizes a_elements a_moved a_above a_out a_first c_t c_holds)) (hS : va_S A s.heap H locs) (hl : lv_has ls 2 [(0, .ref a_t), (1, .int l1)]) : W p l e r_X6_rowIn s m args below meth c H locs 0 0 (MQ below (qI E A res (W_X6_rowIn E a_t a_holds a_refused a_now a_kept a_mind a_tape a_words a_wCell a_wFaces a_wTurns a_wSign a_wBy a_wFell a_telling a_sizes a_elements a_moved a_above a_out a_first c_t c_holds)) args s 0 0 A) (F0 m 0 ls []) := by
  obtain ⟨hx, hb, hml, hr, hlk, hown, hts, hG, hA⟩ := id X
  have hK := hG.1
  have hN := hG.2.1
  unfold f_X6_rowIn at h
  refine lv_aload_n hx hb dX6_rowIn_0 rfl (lv_at hl 0 rfl) ?_
  refine va_get (D := E.1) (ci := 6) (v := .ref a_holds) (C := RX6) (T := TX6) (N := 26) hx hb hts iX6_rowIn_X6 hown hK hP 0 rfl rfl 19 (by decide) (hts (.fieldLink RX6 54 "LeftIsAgreedOnModel" "holds" "[I") (List.mem_of_getElem? (i := 1) rfl)) (fun _ h9 => h9) rfl dX6_rowIn_1 ?_
  refine lv_iload_n hx hb dX6_rowIn_4 rfl (lv_at hl 1 rfl) ?_
  obtain ⟨hz5, h⟩ := chk_of h
  refine ld_i X hP 1 rfl (inb.vp hz5) (v := (c_holds (l1).toNatClampNeg)) rfl dX6_rowIn_5 ?_
  refine lv_bipush (v := (10 : Int32)) hx hb dX6_rowIn_6 (by decide) ?_
  refine lv_icmp_lt (tgt := 16) hx hb dX6_rowIn_8 (by decide) (fun hc8 => ?_) (fun hc8 => ?_)
  · have h := if_t h hc8
    refine lv_aload_n hx hb dX6_rowIn_16 rfl (lv_at hl 0 rfl) ?_
    refine va_get (D := E.1) (ci := 6) (v := .ref a_holds) (C := RX6) (T := TX6) (N := 26) hx hb hts iX6_rowIn_X6 hown hK hP 0 rfl rfl 19 (by decide) (hts (.fieldLink RX6 54 "LeftIsAgreedOnModel" "holds" "[I") (List.mem_of_getElem? (i := 1) rfl)) (fun _ h9 => h9) rfl dX6_rowIn_17 ?_
    refine lv_iload_n hx hb dX6_rowIn_20 rfl (lv_at hl 1 rfl) ?_
    obtain ⟨hz21, h⟩ := chk_of h
    refine ld_i X hP 1 rfl (inb.vp hz21) (v := (c_holds (l1).toNatClampNeg)) rfl dX6_rowIn_21 ?_
    refine lv_iconst (v := (-1 : Int32)) hx hb dX6_rowIn_22 (by decide) ?_
    refine lv_icmp_ne (tgt := 31) hx hb dX6_rowIn_23 (by decide) (fun hc23 => ?_) (fun hc23 => ?_)
    · have h := if_f h hc23
      refine lv_iconst (v := (1 : Int32)) hx hb dX6_rowIn_31 (by decide) ?_
      obtain rfl := Option.some.inj h
      exact ret_i X dX6_rowIn_32 hP hD hS rfl
    · have h := if_t h hc23
      refine lv_bipush (v := (-4 : Int32)) hx hb dX6_rowIn_26 (by decide) ?_
      refine lv_goto (tgt := 32) hx hb dX6_rowIn_28 (by decide) ?_
      obtain rfl := Option.some.inj h
      exact ret_i X dX6_rowIn_32 hP hD hS rfl
  · have h := if_f h hc8
    refine lv_bipush (v := (-3 : Int32)) hx hb dX6_rowIn_11 (by decide) ?_
    refine lv_goto (tgt := 32) hx hb dX6_rowIn_13 (by decide) ?_
    obtain rfl := Option.some.inj h
    exact ret_i X dX6_rowIn_32 hP hD hS rfl
end
set_option maxRecDepth 100000 in
theorem c_X6_rowIn (l : Launch) (E : Env0) (a_t : Nat) (a_holds : Nat) (a_refused : Nat) (a_now : Nat) (a_kept : Nat) (a_mind : Nat) (a_tape : Nat) (a_words : Nat) (a_wCell : Nat) (a_wFaces : Nat) (a_wTurns : Nat) (a_wSign : Nat) (a_wBy : Nat) (a_wFell : Nat) (a_telling : Nat) (a_sizes : Nat) (a_elements : Nat) (a_moved : Nat) (a_above : Nat) (a_out : Nat) (a_first : Nat) (l1 : Int32) (c_t : Nat → Int32) (c_holds : Nat → Int32) (sz : Nat) (res : Int32) (h : f_X6_rowIn l1 c_t c_holds = some res) : Met l yX6_rowIn wsX6_rowIn r_X6_rowIn (cPre E [.ref a_t, .int l1] (W_X6_rowIn E a_t a_holds a_refused a_now a_kept a_mind a_tape a_words a_wCell a_wFaces a_wTurns a_wSign a_wBy a_wFell a_telling a_sizes a_elements a_moved a_above a_out a_first c_t c_holds) sz) (qI E (va_A (W_X6_rowIn E a_t a_holds a_refused a_now a_kept a_mind a_tape a_words a_wCell a_wFaces a_wTurns a_wSign a_wBy a_wFell a_telling a_sizes a_elements a_moved a_above a_out a_first c_t c_holds) sz) res (W_X6_rowIn E a_t a_holds a_refused a_now a_kept a_mind a_tape a_words a_wCell a_wFaces a_wTurns a_wSign a_wBy a_wFell a_telling a_sizes a_elements a_moved a_above a_out a_first c_t c_holds)) 0 0 (va_A (W_X6_rowIn E a_t a_holds a_refused a_now a_kept a_mind a_tape a_words a_wCell a_wFaces a_wTurns a_wSign a_wBy a_wFell a_telling a_sizes a_elements a_moved a_above a_out a_first c_t c_holds) sz) :=
  met_of (Qc := fun A => qI E A res (W_X6_rowIn E a_t a_holds a_refused a_now a_kept a_mind a_tape a_words a_wCell a_wFaces a_wTurns a_wSign a_wBy a_wFell a_telling a_sizes a_elements a_moved a_above a_out a_first c_t c_holds)) (by decide) rfl (Nat.le_of_ble_eq_true rfl) (fun p e s m args below meth c X hP hD hS ls hl => w_X6_rowIn X a_t a_holds a_refused a_now a_kept a_mind a_tape a_words a_wCell a_wFaces a_wTurns a_wSign a_wBy a_wFell a_telling a_sizes a_elements a_moved a_above a_out a_first c_t c_holds res l1 ls _ _ h hP hD hS hl)
-- ===== X6_set
abbrev W_X6_set (E : Env0) (a_t : Nat) (a_elements : Nat) (a_holds : Nat) (a_refused : Nat) (a_sizes : Nat) (a_now : Nat) (a_kept : Nat) (a_mind : Nat) (a_tape : Nat) (a_words : Nat) (a_wCell : Nat) (a_wFaces : Nat) (a_wTurns : Nat) (a_wSign : Nat) (a_wBy : Nat) (a_wFell : Nat) (a_telling : Nat) (a_moved : Nat) (a_above : Nat) (a_out : Nat) (a_first : Nat) (c_t : Nat → Int32) (c_elements : Nat → Int64) (c_holds : Nat → Int32) (c_refused : Nat → Int32) (c_sizes : Nat → Int32) : va_W := [(a_t, .inr (6, [.ref a_refused, .ref a_now, .ref a_kept, .ref a_mind, .int (c_t 4), .ref a_tape, .int (c_t 6), .int (c_t 7), .int (c_t 8), .int (c_t 9), .ref a_words, .ref a_wCell, .ref a_wFaces, .ref a_wTurns, .ref a_wSign, .ref a_wBy, .ref a_wFell, .int (c_t 17), .ref a_telling, .ref a_holds, .ref a_sizes, .ref a_elements, .ref a_moved, .ref a_above, .ref a_out, .ref a_first])), (a_elements, .inl (eJ E, 320, .inr (.inl c_elements))), (a_holds, .inl (eI E, 8, .inl c_holds)), (a_refused, .inl (eI E, 7, .inl c_refused)), (a_sizes, .inl (eI E, 8, .inl c_sizes))]
abbrev r_X6_set : Room := { frames := 2, cells := 0, slots := 0, locals := 45 }
theorem hd_X6_set : yX6_set.cls ≠ "java/lang/invoke/MethodHandle" ∧ yX6_set.cls ≠ "java/lang/invoke/VarHandle" ∧ (parseMethodDescriptor yX6_set.desc).map (fun d => d.parameters.length) = some 3 := by decide +kernel
theorem hV_X6_set : yX6_set.cls = RX6 ∧ yX6_set.cls ≠ "java/lang/invoke/MethodHandle" ∧ yX6_set.cls ≠ "java/lang/invoke/VarHandle" ∧ (parseMethodDescriptor yX6_set.desc).map (fun d => d.parameters.length) = some 3 := ⟨rfl, hd_X6_set⟩
theorem iX6_set_X6 : ∀ w ∈ wsX60, w ∈ wsX6_set := fun _ h => List.mem_cons_of_mem _ (List.mem_append_right _ (h))
section
variable {p : Program} {l : Launch} {e : Env} {s : State} {m : MethodId} {args : Array Value} {below : List Frame} {meth : Method} {c : Code} {E : Env0} {A : Nat → Prop}
set_option maxRecDepth 100000 in
set_option maxHeartbeats 4000000 in
theorem w_X6_set_b133 (X : Ctx p m meth c cX6_set 6 ((some .int)) s args wsX6_set RX6 E A) (a_t : Nat) (a_elements : Nat) (a_holds : Nat) (a_refused : Nat) (a_sizes : Nat) (a_now : Nat) (a_kept : Nat) (a_mind : Nat) (a_tape : Nat) (a_words : Nat) (a_wCell : Nat) (a_wFaces : Nat) (a_wTurns : Nat) (a_wSign : Nat) (a_wBy : Nat) (a_wFell : Nat) (a_telling : Nat) (a_moved : Nat) (a_above : Nat) (a_out : Nat) (a_first : Nat) (c_t : Nat → Int32) (c_holds : Nat → Int32) (c_sizes : Nat → Int32) (res : Int32 × (Nat → Int64) × (Nat → Int32)) (c_elements : Nat → Int64) (c_refused : Nat → Int32) (s0 : Int64) (s1 : Int32) (ls : Array Slot) (H : Heap) (locs : List Loc) (h : f_X6_set_b133 c_t c_holds c_sizes c_elements c_refused s0 s1 = some res) (hP : va_P E.1 vwCl (W_X6_set E a_t a_elements a_holds a_refused a_sizes a_now a_kept a_mind a_tape a_words a_wCell a_wFaces a_wTurns a_wSign a_wBy a_wFell a_telling a_moved a_above a_out a_first c_t c_elements c_holds c_refused c_sizes) H) (hD : va_D A (W_X6_set E a_t a_elements a_holds a_refused a_sizes a_now a_kept a_mind a_tape a_words a_wCell a_wFaces a_wTurns a_wSign a_wBy a_wFell a_telling a_moved a_above a_out a_first c_t c_elements c_holds c_refused c_sizes)) (hS : va_S A s.heap H locs) (hl : lv_has ls 6 []) : W p l e r_X6_set s m args below meth c H locs 0 0 (MQ below (qI E A (res.1) (W_X6_set E a_t a_elements a_holds a_refused a_sizes a_now a_kept a_mind a_tape a_words a_wCell a_wFaces a_wTurns a_wSign a_wBy a_wFell a_telling a_moved a_above a_out a_first c_t (res.2.1) c_holds (res.2.2) c_sizes)) args s 0 0 A) (F0 m 133 ls [.long s0, .int s1, .ref a_elements]) := by
  obtain ⟨hx, hb, hml, hr, hlk, hown, hts, hG, hA⟩ := id X
  have hK := hG.1
  have hN := hG.2.1
  unfold f_X6_set_b133 at h
  obtain ⟨hz133, h⟩ := chk_of h
  refine st_l X hP hD hS 1 rfl (inb.vp hz133) (k := (s1).toNatClampNeg) rfl (ws1 := (W_X6_set E a_t a_elements a_holds a_refused a_sizes a_now a_kept a_mind a_tape a_words a_wCell a_wFaces a_wTurns a_wSign a_wBy a_wFell a_telling a_moved a_above a_out a_first c_t (vp_updL c_elements ((s1).toNatClampNeg) s0) c_holds c_refused c_sizes)) rfl dX6_set_133 (fun H locs hP hD hS => ?_)
  refine lv_iconst (v := (1 : Int32)) hx hb dX6_set_134 (by decide) ?_
  obtain rfl := Option.some.inj h
  exact ret_i X dX6_set_135 hP hD hS rfl
set_option maxRecDepth 100000 in
set_option maxHeartbeats 4000000 in
theorem w_X6_set (X : Ctx p m meth c cX6_set 6 ((some .int)) s args wsX6_set RX6 E A) (a_t : Nat) (a_elements : Nat) (a_holds : Nat) (a_refused : Nat) (a_sizes : Nat) (a_now : Nat) (a_kept : Nat) (a_mind : Nat) (a_tape : Nat) (a_words : Nat) (a_wCell : Nat) (a_wFaces : Nat) (a_wTurns : Nat) (a_wSign : Nat) (a_wBy : Nat) (a_wFell : Nat) (a_telling : Nat) (a_moved : Nat) (a_above : Nat) (a_out : Nat) (a_first : Nat) (c_t : Nat → Int32) (c_holds : Nat → Int32) (c_sizes : Nat → Int32) (res : Int32 × (Nat → Int64) × (Nat → Int32)) (c_elements : Nat → Int64) (c_refused : Nat → Int32) (l1 : Int32) (l2 : Int32) (l3 : Int64) (ls : Array Slot) (H : Heap) (locs : List Loc) (h : f_X6_set l1 l2 l3 c_t c_elements c_holds c_refused c_sizes = some res) (hP : va_P E.1 vwCl (W_X6_set E a_t a_elements a_holds a_refused a_sizes a_now a_kept a_mind a_tape a_words a_wCell a_wFaces a_wTurns a_wSign a_wBy a_wFell a_telling a_moved a_above a_out a_first c_t c_elements c_holds c_refused c_sizes) H) (hD : va_D A (W_X6_set E a_t a_elements a_holds a_refused a_sizes a_now a_kept a_mind a_tape a_words a_wCell a_wFaces a_wTurns a_wSign a_wBy a_wFell a_telling a_moved a_above a_out a_first c_t c_elements c_holds c_refused c_sizes)) (hS : va_S A s.heap H locs) (hl : lv_has ls 6 [(0, .ref a_t), (1, .int l1), (2, .int l2), (3, .long l3)]) : W p l e r_X6_set s m args below meth c H locs 0 0 (MQ below (qI E A (res.1) (W_X6_set E a_t a_elements a_holds a_refused a_sizes a_now a_kept a_mind a_tape a_words a_wCell a_wFaces a_wTurns a_wSign a_wBy a_wFell a_telling a_moved a_above a_out a_first c_t (res.2.1) c_holds (res.2.2) c_sizes)) args s 0 0 A) (F0 m 0 ls []) := by
  obtain ⟨hx, hb, hml, hr, hlk, hown, hts, hG, hA⟩ := id X
  have hK := hG.1
  have hN := hG.2.1
  unfold f_X6_set at h
  refine lv_iload_n hx hb dX6_set_0 rfl (lv_at hl 1 rfl) ?_
  obtain ⟨v1, hv1, h⟩ := bind_of h
  refine after_i X (run_S X (c_X6_isShelf l E l1 H.size v1 hv1) (va_cwS 1 hts gX6_set_X6_isShelf rfl rfl rfl hd_X6_isShelf ⟨(Nat.le_of_ble_eq_true rfl), (Nat.le_of_ble_eq_true rfl)⟩) hP hD hS [] rfl rfl hl.1 (rest := []) rfl rfl (Nat.le_of_ble_eq_true rfl) dX6_set_1) hP hD hS [] [0, 1, 2, 3, 4] [0, 1, 2, 3, 4] rfl rfl rfl (by decide) rfl (ws1 := (W_X6_set E a_t a_elements a_holds a_refused a_sizes a_now a_kept a_mind a_tape a_words a_wCell a_wFaces a_wTurns a_wSign a_wBy a_wFell a_telling a_moved a_above a_out a_first c_t c_elements c_holds c_refused c_sizes)) rfl (fun H locs hP hD hS => ?_)
  refine lv_if_ne (tgt := 14) hx hb dX6_set_4 (by decide) (fun hc4 => ?_) (fun hc4 => ?_)
  · have h := if_f h hc4
    refine lv_aload_n hx hb dX6_set_14 rfl (lv_at hl 0 rfl) ?_
    refine lv_iload_n hx hb dX6_set_15 rfl (lv_at hl 1 rfl) ?_
    obtain ⟨v2, hv2, h⟩ := bind_of h
    refine after_i X (run_V X (c_X6_rowIn l E a_t a_holds a_refused a_now a_kept a_mind a_tape a_words a_wCell a_wFaces a_wTurns a_wSign a_wBy a_wFell a_telling a_sizes a_elements a_moved a_above a_out a_first l1 c_t c_holds H.size v2 hv2) (cwV 1 hts gX6_set_X6_rowIn rfl rfl rfl hV_X6_rowIn ⟨(Nat.le_of_ble_eq_true rfl), (Nat.le_of_ble_eq_true rfl)⟩) hP hD hS [0, 2] rfl rfl hl.1 (ci := 6) rfl rfl rfl (rest := []) rfl rfl (Nat.le_of_ble_eq_true rfl) dX6_set_16) hP hD hS [0, 2] [1, 3, 4] [3, 0, 4, 1, 2] rfl rfl rfl (by decide) rfl (ws1 := (W_X6_set E a_t a_elements a_holds a_refused a_sizes a_now a_kept a_mind a_tape a_words a_wCell a_wFaces a_wTurns a_wSign a_wBy a_wFell a_telling a_moved a_above a_out a_first c_t c_elements c_holds c_refused c_sizes)) rfl (fun H locs hP hD hS => ?_)
    refine lv_if_ge (tgt := 32) hx hb dX6_set_19 (by decide) (fun hc19 => ?_) (fun hc19 => ?_)
    · have h := if_t h hc19
      refine lv_iload_n hx hb dX6_set_32 rfl (lv_at hl 2 rfl) ?_
      refine lv_i2l (v := (l2.toInt64)) hx hb dX6_set_33 rfl ?_
      refine lv_lconst (v := (0 : Int64)) hx hb dX6_set_34 (by decide) ?_
      refine lv_aload_n hx hb dX6_set_35 rfl (lv_at hl 0 rfl) ?_
      refine va_get (D := E.1) (ci := 6) (v := .ref a_sizes) (C := RX6) (T := TX6) (N := 26) hx hb hts iX6_set_X6 hown hK hP 0 rfl rfl 20 (by decide) (hts (.fieldLink RX6 57 "LeftIsAgreedOnModel" "sizes" "[I") (List.mem_of_getElem? (i := 1) rfl)) (fun _ h9 => h9) rfl dX6_set_36 ?_
      refine lv_iload_n hx hb dX6_set_39 rfl (lv_at hl 1 rfl) ?_
      obtain ⟨hz40, h⟩ := chk_of h
      refine ld_i X hP 4 rfl (inb.vp hz40) (v := (c_sizes (l1).toNatClampNeg)) rfl dX6_set_40 ?_
      refine lv_iconst (v := (1 : Int32)) hx hb dX6_set_41 (by decide) ?_
      refine lv_isub hx hb dX6_set_42 ?_
      refine lv_i2l (v := (((c_sizes (l1).toNatClampNeg) - (1 : Int32)).toInt64)) hx hb dX6_set_43 rfl ?_
      obtain ⟨v3, hv3, h⟩ := bind_of h
      refine after_i X (run_S X (c_X6_isIn l E (l2.toInt64) (0 : Int64) (((c_sizes (l1).toNatClampNeg) - (1 : Int32)).toInt64) H.size v3 hv3) (va_cwS 3 hts gX6_set_X6_isIn rfl rfl rfl hd_X6_isIn ⟨(Nat.le_of_ble_eq_true rfl), (Nat.le_of_ble_eq_true rfl)⟩) hP hD hS [] rfl rfl hl.1 (rest := []) rfl rfl (Nat.le_of_ble_eq_true rfl) dX6_set_44) hP hD hS [] [0, 1, 2, 3, 4] [0, 1, 2, 3, 4] rfl rfl rfl (by decide) rfl (ws1 := (W_X6_set E a_t a_elements a_holds a_refused a_sizes a_now a_kept a_mind a_tape a_words a_wCell a_wFaces a_wTurns a_wSign a_wBy a_wFell a_telling a_moved a_above a_out a_first c_t c_elements c_holds c_refused c_sizes)) rfl (fun H locs hP hD hS => ?_)
      refine lv_if_ne (tgt := 57) hx hb dX6_set_47 (by decide) (fun hc47 => ?_) (fun hc47 => ?_)
      · have h := if_f h hc47
        refine lv_aload_n hx hb dX6_set_57 rfl (lv_at hl 0 rfl) ?_
        refine va_get (D := E.1) (ci := 6) (v := .ref a_holds) (C := RX6) (T := TX6) (N := 26) hx hb hts iX6_set_X6 hown hK hP 0 rfl rfl 19 (by decide) (hts (.fieldLink RX6 54 "LeftIsAgreedOnModel" "holds" "[I") (List.mem_of_getElem? (i := 2) rfl)) (fun _ h9 => h9) rfl dX6_set_58 ?_
        refine lv_iload_n hx hb dX6_set_61 rfl (lv_at hl 1 rfl) ?_
        obtain ⟨hz62, h⟩ := chk_of h
        refine ld_i X hP 2 rfl (inb.vp hz62) (v := (c_holds (l1).toNatClampNeg)) rfl dX6_set_62 ?_
        refine lv_istore (lv' := [(5, .int (c_holds (l1).toNatClampNeg)), (0, .ref a_t), (1, .int l1), (2, .int l2), (3, .long l3)]) hx hb dX6_set_63 hl (by decide) rfl (fun ls hl => ?_)
        refine lv_aload_n hx hb dX6_set_65 rfl (lv_at hl 1 rfl) ?_
        refine va_get (D := E.1) (ci := 6) (v := .ref a_elements) (C := RX6) (T := TX6) (N := 26) hx hb hts iX6_set_X6 hown hK hP 0 rfl rfl 21 (by decide) (hts (.fieldLink RX6 60 "LeftIsAgreedOnModel" "elements" "[J") (List.mem_of_getElem? (i := 3) rfl)) (fun _ h9 => h9) rfl dX6_set_66 ?_
        refine lv_bipush (v := (40 : Int32)) hx hb dX6_set_69 (by decide) ?_
        refine lv_iload_n hx hb dX6_set_71 rfl (lv_at hl 2 rfl) ?_
        refine lv_imul hx hb dX6_set_72 ?_
        refine lv_iload_n hx hb dX6_set_73 rfl (lv_at hl 3 rfl) ?_
        refine lv_iadd hx hb dX6_set_74 ?_
        refine lv_iload hx hb dX6_set_75 (lv_at hl 0 rfl) ?_
        refine lv_if_ne (tgt := 87) hx hb dX6_set_77 (by decide) (fun hc77 => ?_) (fun hc77 => ?_)
        · have h := if_f h hc77
          refine lv_iload hx hb dX6_set_87 (lv_at hl 0 rfl) ?_
          refine lv_iconst (v := (1 : Int32)) hx hb dX6_set_89 (by decide) ?_
          refine lv_icmp_ne (tgt := 100) hx hb dX6_set_90 (by decide) (fun hc90 => ?_) (fun hc90 => ?_)
          · have h := if_f h hc90
            refine lv_iload hx hb dX6_set_100 (lv_at hl 0 rfl) ?_
            refine lv_iconst (v := (2 : Int32)) hx hb dX6_set_102 (by decide) ?_
            refine lv_icmp_ne (tgt := 112) hx hb dX6_set_103 (by decide) (fun hc103 => ?_) (fun hc103 => ?_)
            · have h := if_f h hc103
              refine lv_iload hx hb dX6_set_112 (lv_at hl 0 rfl) ?_
              refine lv_iconst (v := (3 : Int32)) hx hb dX6_set_114 (by decide) ?_
              refine lv_icmp_ne (tgt := 122) hx hb dX6_set_115 (by decide) (fun hc115 => ?_) (fun hc115 => ?_)
              · have h := if_f h hc115
                refine lv_lload_n hx hb dX6_set_122 rfl (lv_at hl 4 rfl) ?_
                refine lv_lconst (v := (0 : Int64)) hx hb dX6_set_123 (by decide) ?_
                refine W.lcmp hx hb dX6_set_124 ?_
                refine lv_if_eq (tgt := 132) hx hb dX6_set_125 (by decide) (fun hc125 => ?_) (fun hc125 => ?_)
                · have h := if_t h hc125
                  refine lv_lconst (v := (0 : Int64)) hx hb dX6_set_132 (by decide) ?_
                  exact w_X6_set_b133 X a_t a_elements a_holds a_refused a_sizes a_now a_kept a_mind a_tape a_words a_wCell a_wFaces a_wTurns a_wSign a_wBy a_wFell a_telling a_moved a_above a_out a_first c_t c_holds c_sizes res c_elements c_refused (0 : Int64) (((40 : Int32) * l1) + l2) _ _ _ h hP hD hS (lv_sub hl [] rfl)
                · have h := if_f h hc125
                  refine lv_lconst (v := (1 : Int64)) hx hb dX6_set_128 (by decide) ?_
                  refine lv_goto (tgt := 133) hx hb dX6_set_129 (by decide) ?_
                  exact w_X6_set_b133 X a_t a_elements a_holds a_refused a_sizes a_now a_kept a_mind a_tape a_words a_wCell a_wFaces a_wTurns a_wSign a_wBy a_wFell a_telling a_moved a_above a_out a_first c_t c_holds c_sizes res c_elements c_refused (1 : Int64) (((40 : Int32) * l1) + l2) _ _ _ h hP hD hS (lv_sub hl [] rfl)
              · have h := if_t h hc115
                refine lv_lload_n hx hb dX6_set_118 rfl (lv_at hl 4 rfl) ?_
                refine lv_goto (tgt := 133) hx hb dX6_set_119 (by decide) ?_
                exact w_X6_set_b133 X a_t a_elements a_holds a_refused a_sizes a_now a_kept a_mind a_tape a_words a_wCell a_wFaces a_wTurns a_wSign a_wBy a_wFell a_telling a_moved a_above a_out a_first c_t c_holds c_sizes res c_elements c_refused l3 (((40 : Int32) * l1) + l2) _ _ _ h hP hD hS (lv_sub hl [] rfl)
            · have h := if_t h hc103
              refine lv_lload_n hx hb dX6_set_106 rfl (lv_at hl 4 rfl) ?_
              refine lv_l2i (v := (l3.toInt32)) hx hb dX6_set_107 rfl ?_
              refine lv_i2l (v := ((l3.toInt32).toInt64)) hx hb dX6_set_108 rfl ?_
              refine lv_goto (tgt := 133) hx hb dX6_set_109 (by decide) ?_
              exact w_X6_set_b133 X a_t a_elements a_holds a_refused a_sizes a_now a_kept a_mind a_tape a_words a_wCell a_wFaces a_wTurns a_wSign a_wBy a_wFell a_telling a_moved a_above a_out a_first c_t c_holds c_sizes res c_elements c_refused ((l3.toInt32).toInt64) (((40 : Int32) * l1) + l2) _ _ _ h hP hD hS (lv_sub hl [] rfl)
          · have h := if_t h hc90
            refine lv_lload_n hx hb dX6_set_93 rfl (lv_at hl 4 rfl) ?_
            refine lv_l2i (v := (l3.toInt32)) hx hb dX6_set_94 rfl ?_
            refine lv_i2s (v := ((l3.toInt32).toInt16.toInt32)) hx hb dX6_set_95 rfl ?_
            refine lv_i2l (v := (((l3.toInt32).toInt16.toInt32).toInt64)) hx hb dX6_set_96 rfl ?_
            refine lv_goto (tgt := 133) hx hb dX6_set_97 (by decide) ?_
            exact w_X6_set_b133 X a_t a_elements a_holds a_refused a_sizes a_now a_kept a_mind a_tape a_words a_wCell a_wFaces a_wTurns a_wSign a_wBy a_wFell a_telling a_moved a_above a_out a_first c_t c_holds c_sizes res c_elements c_refused (((l3.toInt32).toInt16.toInt32).toInt64) (((40 : Int32) * l1) + l2) _ _ _ h hP hD hS (lv_sub hl [] rfl)
        · have h := if_t h hc77
          refine lv_lload_n hx hb dX6_set_80 rfl (lv_at hl 4 rfl) ?_
          refine lv_l2i (v := (l3.toInt32)) hx hb dX6_set_81 rfl ?_
          refine lv_i2b (v := ((l3.toInt32).toInt8.toInt32)) hx hb dX6_set_82 rfl ?_
          refine lv_i2l (v := (((l3.toInt32).toInt8.toInt32).toInt64)) hx hb dX6_set_83 rfl ?_
          refine lv_goto (tgt := 133) hx hb dX6_set_84 (by decide) ?_
          exact w_X6_set_b133 X a_t a_elements a_holds a_refused a_sizes a_now a_kept a_mind a_tape a_words a_wCell a_wFaces a_wTurns a_wSign a_wBy a_wFell a_telling a_moved a_above a_out a_first c_t c_holds c_sizes res c_elements c_refused (((l3.toInt32).toInt8.toInt32).toInt64) (((40 : Int32) * l1) + l2) _ _ _ h hP hD hS (lv_sub hl [] rfl)
      · have h := if_t h hc47
        refine lv_aload_n hx hb dX6_set_50 rfl (lv_at hl 0 rfl) ?_
        refine lv_bipush (v := (-2 : Int32)) hx hb dX6_set_51 (by decide) ?_
        obtain ⟨v4, hv4, h⟩ := bind_of h
        refine after_i X (run_V X (c_X6_refuse l E a_t a_refused a_now a_kept a_mind a_tape a_words a_wCell a_wFaces a_wTurns a_wSign a_wBy a_wFell a_telling a_holds a_sizes a_elements a_moved a_above a_out a_first (-2 : Int32) c_t c_refused H.size v4 hv4) (cwV 1 hts gX6_set_X6_refuse rfl rfl rfl hV_X6_refuse ⟨(Nat.le_of_ble_eq_true rfl), (Nat.le_of_ble_eq_true rfl)⟩) hP hD hS [0, 3] rfl rfl hl.1 (ci := 6) rfl rfl rfl (rest := []) rfl rfl (Nat.le_of_ble_eq_true rfl) dX6_set_53) hP hD hS [0, 3] [1, 2, 4] [3, 0, 1, 4, 2] rfl rfl rfl (by decide) rfl (ws1 := (W_X6_set E a_t a_elements a_holds a_refused a_sizes a_now a_kept a_mind a_tape a_words a_wCell a_wFaces a_wTurns a_wSign a_wBy a_wFell a_telling a_moved a_above a_out a_first c_t c_elements c_holds (v4.2) c_sizes)) rfl (fun H locs hP hD hS => ?_)
        obtain rfl := Option.some.inj h
        exact ret_i X dX6_set_56 hP hD hS rfl
    · have h := if_f h hc19
      refine lv_aload_n hx hb dX6_set_22 rfl (lv_at hl 0 rfl) ?_
      refine lv_aload_n hx hb dX6_set_23 rfl (lv_at hl 0 rfl) ?_
      refine lv_iload_n hx hb dX6_set_24 rfl (lv_at hl 1 rfl) ?_
      obtain ⟨v5, hv5, h⟩ := bind_of h
      refine after_i X (run_V X (c_X6_rowIn l E a_t a_holds a_refused a_now a_kept a_mind a_tape a_words a_wCell a_wFaces a_wTurns a_wSign a_wBy a_wFell a_telling a_sizes a_elements a_moved a_above a_out a_first l1 c_t c_holds H.size v5 hv5) (cwV 1 hts gX6_set_X6_rowIn rfl rfl rfl hV_X6_rowIn ⟨(Nat.le_of_ble_eq_true rfl), (Nat.le_of_ble_eq_true rfl)⟩) hP hD hS [0, 2] rfl rfl hl.1 (ci := 6) rfl rfl rfl (rest := [.ref a_t]) rfl rfl (Nat.le_of_ble_eq_true rfl) dX6_set_25) hP hD hS [0, 2] [1, 3, 4] [3, 0, 4, 1, 2] rfl rfl rfl (by decide) rfl (ws1 := (W_X6_set E a_t a_elements a_holds a_refused a_sizes a_now a_kept a_mind a_tape a_words a_wCell a_wFaces a_wTurns a_wSign a_wBy a_wFell a_telling a_moved a_above a_out a_first c_t c_elements c_holds c_refused c_sizes)) rfl (fun H locs hP hD hS => ?_)
      obtain ⟨v6, hv6, h⟩ := bind_of h
      refine after_i X (run_V X (c_X6_refuse l E a_t a_refused a_now a_kept a_mind a_tape a_words a_wCell a_wFaces a_wTurns a_wSign a_wBy a_wFell a_telling a_holds a_sizes a_elements a_moved a_above a_out a_first v5 c_t c_refused H.size v6 hv6) (cwV 1 hts gX6_set_X6_refuse rfl rfl rfl hV_X6_refuse ⟨(Nat.le_of_ble_eq_true rfl), (Nat.le_of_ble_eq_true rfl)⟩) hP hD hS [0, 3] rfl rfl hl.1 (ci := 6) rfl rfl rfl (rest := []) rfl rfl (Nat.le_of_ble_eq_true rfl) dX6_set_28) hP hD hS [0, 3] [1, 2, 4] [3, 0, 1, 4, 2] rfl rfl rfl (by decide) rfl (ws1 := (W_X6_set E a_t a_elements a_holds a_refused a_sizes a_now a_kept a_mind a_tape a_words a_wCell a_wFaces a_wTurns a_wSign a_wBy a_wFell a_telling a_moved a_above a_out a_first c_t c_elements c_holds (v6.2) c_sizes)) rfl (fun H locs hP hD hS => ?_)
      obtain rfl := Option.some.inj h
      exact ret_i X dX6_set_31 hP hD hS rfl
  · have h := if_t h hc4
    refine lv_aload_n hx hb dX6_set_7 rfl (lv_at hl 0 rfl) ?_
    refine lv_bipush (v := (-2 : Int32)) hx hb dX6_set_8 (by decide) ?_
    obtain ⟨v7, hv7, h⟩ := bind_of h
    refine after_i X (run_V X (c_X6_refuse l E a_t a_refused a_now a_kept a_mind a_tape a_words a_wCell a_wFaces a_wTurns a_wSign a_wBy a_wFell a_telling a_holds a_sizes a_elements a_moved a_above a_out a_first (-2 : Int32) c_t c_refused H.size v7 hv7) (cwV 1 hts gX6_set_X6_refuse rfl rfl rfl hV_X6_refuse ⟨(Nat.le_of_ble_eq_true rfl), (Nat.le_of_ble_eq_true rfl)⟩) hP hD hS [0, 3] rfl rfl hl.1 (ci := 6) rfl rfl rfl (rest := []) rfl rfl (Nat.le_of_ble_eq_true rfl) dX6_set_10) hP hD hS [0, 3] [1, 2, 4] [3, 0, 1, 4, 2] rfl rfl rfl (by decide) rfl (ws1 := (W_X6_set E a_t a_elements a_holds a_refused a_sizes a_now a_kept a_mind a_tape a_words a_wCell a_wFaces a_wTurns a_wSign a_wBy a_wFell a_telling a_moved a_above a_out a_first c_t c_elements c_holds (v7.2) c_sizes)) rfl (fun H locs hP hD hS => ?_)
    obtain rfl := Option.some.inj h
    exact ret_i X dX6_set_13 hP hD hS rfl
end
set_option maxRecDepth 100000 in
theorem c_X6_set (l : Launch) (E : Env0) (a_t : Nat) (a_elements : Nat) (a_holds : Nat) (a_refused : Nat) (a_sizes : Nat) (a_now : Nat) (a_kept : Nat) (a_mind : Nat) (a_tape : Nat) (a_words : Nat) (a_wCell : Nat) (a_wFaces : Nat) (a_wTurns : Nat) (a_wSign : Nat) (a_wBy : Nat) (a_wFell : Nat) (a_telling : Nat) (a_moved : Nat) (a_above : Nat) (a_out : Nat) (a_first : Nat) (l1 : Int32) (l2 : Int32) (l3 : Int64) (c_t : Nat → Int32) (c_elements : Nat → Int64) (c_holds : Nat → Int32) (c_refused : Nat → Int32) (c_sizes : Nat → Int32) (sz : Nat) (res : Int32 × (Nat → Int64) × (Nat → Int32)) (h : f_X6_set l1 l2 l3 c_t c_elements c_holds c_refused c_sizes = some res) : Met l yX6_set wsX6_set r_X6_set (cPre E [.ref a_t, .int l1, .int l2, .long l3] (W_X6_set E a_t a_elements a_holds a_refused a_sizes a_now a_kept a_mind a_tape a_words a_wCell a_wFaces a_wTurns a_wSign a_wBy a_wFell a_telling a_moved a_above a_out a_first c_t c_elements c_holds c_refused c_sizes) sz) (qI E (va_A (W_X6_set E a_t a_elements a_holds a_refused a_sizes a_now a_kept a_mind a_tape a_words a_wCell a_wFaces a_wTurns a_wSign a_wBy a_wFell a_telling a_moved a_above a_out a_first c_t c_elements c_holds c_refused c_sizes) sz) (res.1) (W_X6_set E a_t a_elements a_holds a_refused a_sizes a_now a_kept a_mind a_tape a_words a_wCell a_wFaces a_wTurns a_wSign a_wBy a_wFell a_telling a_moved a_above a_out a_first c_t (res.2.1) c_holds (res.2.2) c_sizes)) 0 0 (va_A (W_X6_set E a_t a_elements a_holds a_refused a_sizes a_now a_kept a_mind a_tape a_words a_wCell a_wFaces a_wTurns a_wSign a_wBy a_wFell a_telling a_moved a_above a_out a_first c_t c_elements c_holds c_refused c_sizes) sz) :=
  met_of (Qc := fun A => qI E A (res.1) (W_X6_set E a_t a_elements a_holds a_refused a_sizes a_now a_kept a_mind a_tape a_words a_wCell a_wFaces a_wTurns a_wSign a_wBy a_wFell a_telling a_moved a_above a_out a_first c_t (res.2.1) c_holds (res.2.2) c_sizes)) (by decide) rfl (Nat.le_of_ble_eq_true rfl) (fun p e s m args below meth c X hP hD hS ls hl => w_X6_set X a_t a_elements a_holds a_refused a_sizes a_now a_kept a_mind a_tape a_words a_wCell a_wFaces a_wTurns a_wSign a_wBy a_wFell a_telling a_moved a_above a_out a_first c_t c_holds c_sizes res c_elements c_refused l1 l2 l3 ls _ _ h hP hD hS hl)
-- ===== X6_copy
abbrev W_X6_copy (E : Env0) (a_t : Nat) (a_elements : Nat) (a_holds : Nat) (a_moved : Nat) (a_refused : Nat) (a_sizes : Nat) (a_now : Nat) (a_kept : Nat) (a_mind : Nat) (a_tape : Nat) (a_words : Nat) (a_wCell : Nat) (a_wFaces : Nat) (a_wTurns : Nat) (a_wSign : Nat) (a_wBy : Nat) (a_wFell : Nat) (a_telling : Nat) (a_above : Nat) (a_out : Nat) (a_first : Nat) (c_t : Nat → Int32) (c_elements : Nat → Int64) (c_holds : Nat → Int32) (c_moved : Nat → Int64) (c_refused : Nat → Int32) (c_sizes : Nat → Int32) : va_W := [(a_t, .inr (6, [.ref a_refused, .ref a_now, .ref a_kept, .ref a_mind, .int (c_t 4), .ref a_tape, .int (c_t 6), .int (c_t 7), .int (c_t 8), .int (c_t 9), .ref a_words, .ref a_wCell, .ref a_wFaces, .ref a_wTurns, .ref a_wSign, .ref a_wBy, .ref a_wFell, .int (c_t 17), .ref a_telling, .ref a_holds, .ref a_sizes, .ref a_elements, .ref a_moved, .ref a_above, .ref a_out, .ref a_first])), (a_elements, .inl (eJ E, 320, .inr (.inl c_elements))), (a_holds, .inl (eI E, 8, .inl c_holds)), (a_moved, .inl (eJ E, 40, .inr (.inl c_moved))), (a_refused, .inl (eI E, 7, .inl c_refused)), (a_sizes, .inl (eI E, 8, .inl c_sizes))]
abbrev r_X6_copy : Room := { frames := 2, cells := 0, slots := 0, locals := 45 }
theorem hd_X6_copy : yX6_copy.cls ≠ "java/lang/invoke/MethodHandle" ∧ yX6_copy.cls ≠ "java/lang/invoke/VarHandle" ∧ (parseMethodDescriptor yX6_copy.desc).map (fun d => d.parameters.length) = some 5 := by decide +kernel
theorem hV_X6_copy : yX6_copy.cls = RX6 ∧ yX6_copy.cls ≠ "java/lang/invoke/MethodHandle" ∧ yX6_copy.cls ≠ "java/lang/invoke/VarHandle" ∧ (parseMethodDescriptor yX6_copy.desc).map (fun d => d.parameters.length) = some 5 := ⟨rfl, hd_X6_copy⟩
theorem iX6_copy_X6 : ∀ w ∈ wsX60, w ∈ wsX6_copy := fun _ h => List.mem_cons_of_mem _ (List.mem_append_right _ (h))
section
variable {p : Program} {l : Launch} {e : Env} {s : State} {m : MethodId} {args : Array Value} {below : List Frame} {meth : Method} {c : Code} {E : Env0} {A : Nat → Prop}
set_option maxRecDepth 100000 in
set_option maxHeartbeats 4000000 in
theorem w_X6_copy_b14 (X : Ctx p m meth c cX6_copy 8 ((some .int)) s args wsX6_copy RX6 E A) (a_t : Nat) (a_elements : Nat) (a_holds : Nat) (a_moved : Nat) (a_refused : Nat) (a_sizes : Nat) (a_now : Nat) (a_kept : Nat) (a_mind : Nat) (a_tape : Nat) (a_words : Nat) (a_wCell : Nat) (a_wFaces : Nat) (a_wTurns : Nat) (a_wSign : Nat) (a_wBy : Nat) (a_wFell : Nat) (a_telling : Nat) (a_above : Nat) (a_out : Nat) (a_first : Nat) (c_t : Nat → Int32) (c_holds : Nat → Int32) (c_sizes : Nat → Int32) (res : Int32 × (Nat → Int64) × (Nat → Int64) × (Nat → Int32)) (c_elements : Nat → Int64) (c_moved : Nat → Int64) (c_refused : Nat → Int32) (ls : Array Slot) (H : Heap) (locs : List Loc) (h : f_X6_copy_b14 c_t c_holds c_sizes c_elements c_moved c_refused = some res) (hP : va_P E.1 vwCl (W_X6_copy E a_t a_elements a_holds a_moved a_refused a_sizes a_now a_kept a_mind a_tape a_words a_wCell a_wFaces a_wTurns a_wSign a_wBy a_wFell a_telling a_above a_out a_first c_t c_elements c_holds c_moved c_refused c_sizes) H) (hD : va_D A (W_X6_copy E a_t a_elements a_holds a_moved a_refused a_sizes a_now a_kept a_mind a_tape a_words a_wCell a_wFaces a_wTurns a_wSign a_wBy a_wFell a_telling a_above a_out a_first c_t c_elements c_holds c_moved c_refused c_sizes)) (hS : va_S A s.heap H locs) (hl : lv_has ls 8 [(0, .ref a_t)]) : W p l e r_X6_copy s m args below meth c H locs 0 0 (MQ below (qI E A (res.1) (W_X6_copy E a_t a_elements a_holds a_moved a_refused a_sizes a_now a_kept a_mind a_tape a_words a_wCell a_wFaces a_wTurns a_wSign a_wBy a_wFell a_telling a_above a_out a_first c_t (res.2.1) c_holds (res.2.2.1) (res.2.2.2) c_sizes)) args s 0 0 A) (F0 m 14 ls []) := by
  obtain ⟨hx, hb, hml, hr, hlk, hown, hts, hG, hA⟩ := id X
  have hK := hG.1
  have hN := hG.2.1
  unfold f_X6_copy_b14 at h
  refine lv_aload_n hx hb dX6_copy_14 rfl (lv_at hl 0 rfl) ?_
  refine lv_bipush (v := (-2 : Int32)) hx hb dX6_copy_15 (by decide) ?_
  obtain ⟨v1, hv1, h⟩ := bind_of h
  refine after_i X (run_V X (c_X6_refuse l E a_t a_refused a_now a_kept a_mind a_tape a_words a_wCell a_wFaces a_wTurns a_wSign a_wBy a_wFell a_telling a_holds a_sizes a_elements a_moved a_above a_out a_first (-2 : Int32) c_t c_refused H.size v1 hv1) (cwV 1 hts gX6_copy_X6_refuse rfl rfl rfl hV_X6_refuse ⟨(Nat.le_of_ble_eq_true rfl), (Nat.le_of_ble_eq_true rfl)⟩) hP hD hS [0, 4] rfl rfl hl.1 (ci := 6) rfl rfl rfl (rest := []) rfl rfl (Nat.le_of_ble_eq_true rfl) dX6_copy_17) hP hD hS [0, 4] [1, 2, 3, 5] [4, 0, 1, 2, 5, 3] rfl rfl rfl (by decide) rfl (ws1 := (W_X6_copy E a_t a_elements a_holds a_moved a_refused a_sizes a_now a_kept a_mind a_tape a_words a_wCell a_wFaces a_wTurns a_wSign a_wBy a_wFell a_telling a_above a_out a_first c_t c_elements c_holds c_moved (v1.2) c_sizes)) rfl (fun H locs hP hD hS => ?_)
  obtain rfl := Option.some.inj h
  exact ret_i X dX6_copy_20 hP hD hS rfl
set_option maxRecDepth 100000 in
set_option maxHeartbeats 4000000 in
theorem w_X6_copy_b90 (X : Ctx p m meth c cX6_copy 8 ((some .int)) s args wsX6_copy RX6 E A) (a_t : Nat) (a_elements : Nat) (a_holds : Nat) (a_moved : Nat) (a_refused : Nat) (a_sizes : Nat) (a_now : Nat) (a_kept : Nat) (a_mind : Nat) (a_tape : Nat) (a_words : Nat) (a_wCell : Nat) (a_wFaces : Nat) (a_wTurns : Nat) (a_wSign : Nat) (a_wBy : Nat) (a_wFell : Nat) (a_telling : Nat) (a_above : Nat) (a_out : Nat) (a_first : Nat) (c_t : Nat → Int32) (c_holds : Nat → Int32) (c_sizes : Nat → Int32) (res : Int32 × (Nat → Int64) × (Nat → Int64) × (Nat → Int32)) (c_elements : Nat → Int64) (c_moved : Nat → Int64) (c_refused : Nat → Int32) (ls : Array Slot) (H : Heap) (locs : List Loc) (h : f_X6_copy_b90 c_t c_holds c_sizes c_elements c_moved c_refused = some res) (hP : va_P E.1 vwCl (W_X6_copy E a_t a_elements a_holds a_moved a_refused a_sizes a_now a_kept a_mind a_tape a_words a_wCell a_wFaces a_wTurns a_wSign a_wBy a_wFell a_telling a_above a_out a_first c_t c_elements c_holds c_moved c_refused c_sizes) H) (hD : va_D A (W_X6_copy E a_t a_elements a_holds a_moved a_refused a_sizes a_now a_kept a_mind a_tape a_words a_wCell a_wFaces a_wTurns a_wSign a_wBy a_wFell a_telling a_above a_out a_first c_t c_elements c_holds c_moved c_refused c_sizes)) (hS : va_S A s.heap H locs) (hl : lv_has ls 8 [(0, .ref a_t)]) : W p l e r_X6_copy s m args below meth c H locs 0 0 (MQ below (qI E A (res.1) (W_X6_copy E a_t a_elements a_holds a_moved a_refused a_sizes a_now a_kept a_mind a_tape a_words a_wCell a_wFaces a_wTurns a_wSign a_wBy a_wFell a_telling a_above a_out a_first c_t (res.2.1) c_holds (res.2.2.1) (res.2.2.2) c_sizes)) args s 0 0 A) (F0 m 90 ls []) := by
  obtain ⟨hx, hb, hml, hr, hlk, hown, hts, hG, hA⟩ := id X
  have hK := hG.1
  have hN := hG.2.1
  unfold f_X6_copy_b90 at h
  refine lv_aload_n hx hb dX6_copy_90 rfl (lv_at hl 0 rfl) ?_
  refine lv_bipush (v := (-3 : Int32)) hx hb dX6_copy_91 (by decide) ?_
  obtain ⟨v1, hv1, h⟩ := bind_of h
  refine after_i X (run_V X (c_X6_refuse l E a_t a_refused a_now a_kept a_mind a_tape a_words a_wCell a_wFaces a_wTurns a_wSign a_wBy a_wFell a_telling a_holds a_sizes a_elements a_moved a_above a_out a_first (-3 : Int32) c_t c_refused H.size v1 hv1) (cwV 1 hts gX6_copy_X6_refuse rfl rfl rfl hV_X6_refuse ⟨(Nat.le_of_ble_eq_true rfl), (Nat.le_of_ble_eq_true rfl)⟩) hP hD hS [0, 4] rfl rfl hl.1 (ci := 6) rfl rfl rfl (rest := []) rfl rfl (Nat.le_of_ble_eq_true rfl) dX6_copy_93) hP hD hS [0, 4] [1, 2, 3, 5] [4, 0, 1, 2, 5, 3] rfl rfl rfl (by decide) rfl (ws1 := (W_X6_copy E a_t a_elements a_holds a_moved a_refused a_sizes a_now a_kept a_mind a_tape a_words a_wCell a_wFaces a_wTurns a_wSign a_wBy a_wFell a_telling a_above a_out a_first c_t c_elements c_holds c_moved (v1.2) c_sizes)) rfl (fun H locs hP hD hS => ?_)
  obtain rfl := Option.some.inj h
  exact ret_i X dX6_copy_96 hP hD hS rfl
set_option maxRecDepth 100000 in
set_option maxHeartbeats 4000000 in
theorem w_X6_copy_b150 (X : Ctx p m meth c cX6_copy 8 ((some .int)) s args wsX6_copy RX6 E A) (a_t : Nat) (a_elements : Nat) (a_holds : Nat) (a_moved : Nat) (a_refused : Nat) (a_sizes : Nat) (a_now : Nat) (a_kept : Nat) (a_mind : Nat) (a_tape : Nat) (a_words : Nat) (a_wCell : Nat) (a_wFaces : Nat) (a_wTurns : Nat) (a_wSign : Nat) (a_wBy : Nat) (a_wFell : Nat) (a_telling : Nat) (a_above : Nat) (a_out : Nat) (a_first : Nat) (c_t : Nat → Int32) (c_holds : Nat → Int32) (c_sizes : Nat → Int32) (res : Int32 × (Nat → Int64) × (Nat → Int64) × (Nat → Int32)) (c_elements : Nat → Int64) (c_moved : Nat → Int64) (c_refused : Nat → Int32) (ls : Array Slot) (H : Heap) (locs : List Loc) (h : f_X6_copy_b150 c_t c_holds c_sizes c_elements c_moved c_refused = some res) (hP : va_P E.1 vwCl (W_X6_copy E a_t a_elements a_holds a_moved a_refused a_sizes a_now a_kept a_mind a_tape a_words a_wCell a_wFaces a_wTurns a_wSign a_wBy a_wFell a_telling a_above a_out a_first c_t c_elements c_holds c_moved c_refused c_sizes) H) (hD : va_D A (W_X6_copy E a_t a_elements a_holds a_moved a_refused a_sizes a_now a_kept a_mind a_tape a_words a_wCell a_wFaces a_wTurns a_wSign a_wBy a_wFell a_telling a_above a_out a_first c_t c_elements c_holds c_moved c_refused c_sizes)) (hS : va_S A s.heap H locs) (hl : lv_has ls 8 [(0, .ref a_t)]) : W p l e r_X6_copy s m args below meth c H locs 0 0 (MQ below (qI E A (res.1) (W_X6_copy E a_t a_elements a_holds a_moved a_refused a_sizes a_now a_kept a_mind a_tape a_words a_wCell a_wFaces a_wTurns a_wSign a_wBy a_wFell a_telling a_above a_out a_first c_t (res.2.1) c_holds (res.2.2.1) (res.2.2.2) c_sizes)) args s 0 0 A) (F0 m 150 ls []) := by
  obtain ⟨hx, hb, hml, hr, hlk, hown, hts, hG, hA⟩ := id X
  have hK := hG.1
  have hN := hG.2.1
  unfold f_X6_copy_b150 at h
  refine lv_aload_n hx hb dX6_copy_150 rfl (lv_at hl 0 rfl) ?_
  refine lv_bipush (v := (-2 : Int32)) hx hb dX6_copy_151 (by decide) ?_
  obtain ⟨v1, hv1, h⟩ := bind_of h
  refine after_i X (run_V X (c_X6_refuse l E a_t a_refused a_now a_kept a_mind a_tape a_words a_wCell a_wFaces a_wTurns a_wSign a_wBy a_wFell a_telling a_holds a_sizes a_elements a_moved a_above a_out a_first (-2 : Int32) c_t c_refused H.size v1 hv1) (cwV 1 hts gX6_copy_X6_refuse rfl rfl rfl hV_X6_refuse ⟨(Nat.le_of_ble_eq_true rfl), (Nat.le_of_ble_eq_true rfl)⟩) hP hD hS [0, 4] rfl rfl hl.1 (ci := 6) rfl rfl rfl (rest := []) rfl rfl (Nat.le_of_ble_eq_true rfl) dX6_copy_153) hP hD hS [0, 4] [1, 2, 3, 5] [4, 0, 1, 2, 5, 3] rfl rfl rfl (by decide) rfl (ws1 := (W_X6_copy E a_t a_elements a_holds a_moved a_refused a_sizes a_now a_kept a_mind a_tape a_words a_wCell a_wFaces a_wTurns a_wSign a_wBy a_wFell a_telling a_above a_out a_first c_t c_elements c_holds c_moved (v1.2) c_sizes)) rfl (fun H locs hP hD hS => ?_)
  obtain rfl := Option.some.inj h
  exact ret_i X dX6_copy_156 hP hD hS rfl
set_option maxRecDepth 100000 in
set_option maxHeartbeats 4000000 in
theorem w_X6_copy_b197 (X : Ctx p m meth c cX6_copy 8 ((some .int)) s args wsX6_copy RX6 E A) (a_t : Nat) (a_elements : Nat) (a_holds : Nat) (a_moved : Nat) (a_refused : Nat) (a_sizes : Nat) (a_now : Nat) (a_kept : Nat) (a_mind : Nat) (a_tape : Nat) (a_words : Nat) (a_wCell : Nat) (a_wFaces : Nat) (a_wTurns : Nat) (a_wSign : Nat) (a_wBy : Nat) (a_wFell : Nat) (a_telling : Nat) (a_above : Nat) (a_out : Nat) (a_first : Nat) (c_t : Nat → Int32) (c_holds : Nat → Int32) (c_sizes : Nat → Int32) (res : Int32 × (Nat → Int64) × (Nat → Int64) × (Nat → Int32)) : ∀ (n : Nat) (c_elements : Nat → Int64) (c_moved : Nat → Int64) (c_refused : Nat → Int32) (l2 : Int32) (l4 : Int32) (l5 : Int32) (l7 : Int32) (ls : Array Slot) (H : Heap) (locs : List Loc), f_X6_copy_b197 c_t c_holds c_sizes n c_elements c_moved c_refused l2 l4 l5 l7 = some res → va_P E.1 vwCl (W_X6_copy E a_t a_elements a_holds a_moved a_refused a_sizes a_now a_kept a_mind a_tape a_words a_wCell a_wFaces a_wTurns a_wSign a_wBy a_wFell a_telling a_above a_out a_first c_t c_elements c_holds c_moved c_refused c_sizes) H → va_D A (W_X6_copy E a_t a_elements a_holds a_moved a_refused a_sizes a_now a_kept a_mind a_tape a_words a_wCell a_wFaces a_wTurns a_wSign a_wBy a_wFell a_telling a_above a_out a_first c_t c_elements c_holds c_moved c_refused c_sizes) → va_S A s.heap H locs → lv_has ls 8 [(0, .ref a_t), (2, .int l2), (4, .int l4), (5, .int l5), (7, .int l7)] → W p l e r_X6_copy s m args below meth c H locs 0 0 (MQ below (qI E A (res.1) (W_X6_copy E a_t a_elements a_holds a_moved a_refused a_sizes a_now a_kept a_mind a_tape a_words a_wCell a_wFaces a_wTurns a_wSign a_wBy a_wFell a_telling a_above a_out a_first c_t (res.2.1) c_holds (res.2.2.1) (res.2.2.2) c_sizes)) args s 0 0 A) (F0 m 197 ls []) := by
  obtain ⟨hx, hb, hml, hr, hlk, hown, hts, hG, hA⟩ := id X
  have hK := hG.1
  have hN := hG.2.1
  intro n
  induction n with
  | zero =>
    intro c_elements c_moved c_refused l2 l4 l5 l7 ls H locs h
    exact absurd (show (none : Option (Int32 × (Nat → Int64) × (Nat → Int64) × (Nat → Int32))) = some res from h) (by intro q; cases q)
  | succ n ih =>
    intro c_elements c_moved c_refused l2 l4 l5 l7 ls H locs h hP hD hS hl
    rw [f_X6_copy_b197] at h
    refine lv_iload hx hb dX6_copy_197 (lv_at hl 4 rfl) ?_
    refine lv_iload hx hb dX6_copy_199 (lv_at hl 3 rfl) ?_
    refine lv_icmp_ge (tgt := 232) hx hb dX6_copy_201 (by decide) (fun hc201 => ?_) (fun hc201 => ?_)
    · have h := if_t h hc201
      refine lv_iload hx hb dX6_copy_232 (lv_at hl 3 rfl) ?_
      obtain rfl := Option.some.inj h
      exact ret_i X dX6_copy_234 hP hD hS rfl
    · have h := if_f h hc201
      refine lv_aload_n hx hb dX6_copy_204 rfl (lv_at hl 0 rfl) ?_
      refine va_get (D := E.1) (ci := 6) (v := .ref a_elements) (C := RX6) (T := TX6) (N := 26) hx hb hts iX6_copy_X6 hown hK hP 0 rfl rfl 21 (by decide) (hts (.fieldLink RX6 60 "LeftIsAgreedOnModel" "elements" "[J") (List.mem_of_getElem? (i := 4) rfl)) (fun _ h9 => h9) rfl dX6_copy_205 ?_
      refine lv_bipush (v := (40 : Int32)) hx hb dX6_copy_208 (by decide) ?_
      refine lv_iload_n hx hb dX6_copy_210 rfl (lv_at hl 1 rfl) ?_
      refine lv_imul hx hb dX6_copy_211 ?_
      refine lv_iload hx hb dX6_copy_212 (lv_at hl 2 rfl) ?_
      refine lv_iadd hx hb dX6_copy_214 ?_
      refine lv_iload hx hb dX6_copy_215 (lv_at hl 4 rfl) ?_
      refine lv_iadd hx hb dX6_copy_217 ?_
      refine lv_aload_n hx hb dX6_copy_218 rfl (lv_at hl 0 rfl) ?_
      refine va_get (D := E.1) (ci := 6) (v := .ref a_moved) (C := RX6) (T := TX6) (N := 26) hx hb hts iX6_copy_X6 hown hK hP 0 rfl rfl 22 (by decide) (hts (.fieldLink RX6 64 "LeftIsAgreedOnModel" "moved" "[J") (List.mem_of_getElem? (i := 3) rfl)) (fun _ h9 => h9) rfl dX6_copy_219 ?_
      refine lv_iload hx hb dX6_copy_222 (lv_at hl 4 rfl) ?_
      obtain ⟨hz224, h⟩ := chk_of h
      refine ld_l X hP 3 rfl (inb.vp hz224) (v := (c_moved (l7).toNatClampNeg)) rfl dX6_copy_224 ?_
      obtain ⟨hz225, h⟩ := chk_of h
      refine st_l X hP hD hS 1 rfl (inb.vp hz225) (k := (((((40 : Int32) * l2) + l4) + l7)).toNatClampNeg) rfl (ws1 := (W_X6_copy E a_t a_elements a_holds a_moved a_refused a_sizes a_now a_kept a_mind a_tape a_words a_wCell a_wFaces a_wTurns a_wSign a_wBy a_wFell a_telling a_above a_out a_first c_t (vp_updL c_elements ((((((40 : Int32) * l2) + l4) + l7)).toNatClampNeg) (c_moved (l7).toNatClampNeg)) c_holds c_moved c_refused c_sizes)) rfl dX6_copy_225 (fun H locs hP hD hS => ?_)
      refine lv_iinc (v := (l7 + (1 : Int32))) (lv' := [(7, .int (l7 + (1 : Int32))), (0, .ref a_t), (2, .int l2), (4, .int l4), (5, .int l5)]) hx hb dX6_copy_226 hl (k := 4) rfl rfl (by decide) rfl (fun ls hl => ?_)
      refine lv_goto (tgt := 197) hx hb dX6_copy_229 (by decide) ?_
      exact ih (vp_updL c_elements ((((((40 : Int32) * l2) + l4) + l7)).toNatClampNeg) (c_moved (l7).toNatClampNeg)) c_moved c_refused l2 l4 l5 (l7 + (1 : Int32)) _ _ _ h hP hD hS (lv_sub hl [1, 2, 3, 4, 0] rfl)
set_option maxRecDepth 100000 in
set_option maxHeartbeats 4000000 in
theorem w_X6_copy_b160 (X : Ctx p m meth c cX6_copy 8 ((some .int)) s args wsX6_copy RX6 E A) (a_t : Nat) (a_elements : Nat) (a_holds : Nat) (a_moved : Nat) (a_refused : Nat) (a_sizes : Nat) (a_now : Nat) (a_kept : Nat) (a_mind : Nat) (a_tape : Nat) (a_words : Nat) (a_wCell : Nat) (a_wFaces : Nat) (a_wTurns : Nat) (a_wSign : Nat) (a_wBy : Nat) (a_wFell : Nat) (a_telling : Nat) (a_above : Nat) (a_out : Nat) (a_first : Nat) (c_t : Nat → Int32) (c_holds : Nat → Int32) (c_sizes : Nat → Int32) (res : Int32 × (Nat → Int64) × (Nat → Int64) × (Nat → Int32)) : ∀ (n : Nat) (c_elements : Nat → Int64) (c_moved : Nat → Int64) (c_refused : Nat → Int32) (l1 : Int32) (l2 : Int32) (l3 : Int32) (l4 : Int32) (l5 : Int32) (l7 : Int32) (ls : Array Slot) (H : Heap) (locs : List Loc), f_X6_copy_b160 c_t c_holds c_sizes n c_elements c_moved c_refused l1 l2 l3 l4 l5 l7 = some res → va_P E.1 vwCl (W_X6_copy E a_t a_elements a_holds a_moved a_refused a_sizes a_now a_kept a_mind a_tape a_words a_wCell a_wFaces a_wTurns a_wSign a_wBy a_wFell a_telling a_above a_out a_first c_t c_elements c_holds c_moved c_refused c_sizes) H → va_D A (W_X6_copy E a_t a_elements a_holds a_moved a_refused a_sizes a_now a_kept a_mind a_tape a_words a_wCell a_wFaces a_wTurns a_wSign a_wBy a_wFell a_telling a_above a_out a_first c_t c_elements c_holds c_moved c_refused c_sizes) → va_S A s.heap H locs → lv_has ls 8 [(0, .ref a_t), (1, .int l1), (2, .int l2), (3, .int l3), (4, .int l4), (5, .int l5), (7, .int l7)] → W p l e r_X6_copy s m args below meth c H locs 0 0 (MQ below (qI E A (res.1) (W_X6_copy E a_t a_elements a_holds a_moved a_refused a_sizes a_now a_kept a_mind a_tape a_words a_wCell a_wFaces a_wTurns a_wSign a_wBy a_wFell a_telling a_above a_out a_first c_t (res.2.1) c_holds (res.2.2.1) (res.2.2.2) c_sizes)) args s 0 0 A) (F0 m 160 ls []) := by
  obtain ⟨hx, hb, hml, hr, hlk, hown, hts, hG, hA⟩ := id X
  have hK := hG.1
  have hN := hG.2.1
  intro n
  induction n with
  | zero =>
    intro c_elements c_moved c_refused l1 l2 l3 l4 l5 l7 ls H locs h
    exact absurd (show (none : Option (Int32 × (Nat → Int64) × (Nat → Int64) × (Nat → Int32))) = some res from h) (by intro q; cases q)
  | succ n ih =>
    intro c_elements c_moved c_refused l1 l2 l3 l4 l5 l7 ls H locs h hP hD hS hl
    rw [f_X6_copy_b160] at h
    refine lv_iload hx hb dX6_copy_160 (lv_at hl 6 rfl) ?_
    refine lv_iload hx hb dX6_copy_162 (lv_at hl 5 rfl) ?_
    refine lv_icmp_ge (tgt := 194) hx hb dX6_copy_164 (by decide) (fun hc164 => ?_) (fun hc164 => ?_)
    · have h := if_t h hc164
      refine lv_iconst (v := (0 : Int32)) hx hb dX6_copy_194 (by decide) ?_
      refine lv_istore (lv' := [(7, .int (0 : Int32)), (0, .ref a_t), (1, .int l1), (2, .int l2), (3, .int l3), (4, .int l4), (5, .int l5)]) hx hb dX6_copy_195 hl (by decide) rfl (fun ls hl => ?_)
      exact w_X6_copy_b197 X a_t a_elements a_holds a_moved a_refused a_sizes a_now a_kept a_mind a_tape a_words a_wCell a_wFaces a_wTurns a_wSign a_wBy a_wFell a_telling a_above a_out a_first c_t c_holds c_sizes res FU c_elements c_moved c_refused l2 l4 l5 (0 : Int32) _ _ _ h hP hD hS (lv_sub hl [1, 3, 5, 6, 0] rfl)
    · have h := if_f h hc164
      refine lv_aload_n hx hb dX6_copy_167 rfl (lv_at hl 0 rfl) ?_
      refine va_get (D := E.1) (ci := 6) (v := .ref a_moved) (C := RX6) (T := TX6) (N := 26) hx hb hts iX6_copy_X6 hown hK hP 0 rfl rfl 22 (by decide) (hts (.fieldLink RX6 64 "LeftIsAgreedOnModel" "moved" "[J") (List.mem_of_getElem? (i := 3) rfl)) (fun _ h9 => h9) rfl dX6_copy_168 ?_
      refine lv_iload hx hb dX6_copy_171 (lv_at hl 6 rfl) ?_
      refine lv_aload_n hx hb dX6_copy_173 rfl (lv_at hl 0 rfl) ?_
      refine va_get (D := E.1) (ci := 6) (v := .ref a_elements) (C := RX6) (T := TX6) (N := 26) hx hb hts iX6_copy_X6 hown hK hP 0 rfl rfl 21 (by decide) (hts (.fieldLink RX6 60 "LeftIsAgreedOnModel" "elements" "[J") (List.mem_of_getElem? (i := 4) rfl)) (fun _ h9 => h9) rfl dX6_copy_174 ?_
      refine lv_bipush (v := (40 : Int32)) hx hb dX6_copy_177 (by decide) ?_
      refine lv_iload_n hx hb dX6_copy_179 rfl (lv_at hl 1 rfl) ?_
      refine lv_imul hx hb dX6_copy_180 ?_
      refine lv_iload_n hx hb dX6_copy_181 rfl (lv_at hl 3 rfl) ?_
      refine lv_iadd hx hb dX6_copy_182 ?_
      refine lv_iload hx hb dX6_copy_183 (lv_at hl 6 rfl) ?_
      refine lv_iadd hx hb dX6_copy_185 ?_
      obtain ⟨hz186, h⟩ := chk_of h
      refine ld_l X hP 1 rfl (inb.vp hz186) (v := (c_elements (((((40 : Int32) * l1) + l3) + l7)).toNatClampNeg)) rfl dX6_copy_186 ?_
      obtain ⟨hz187, h⟩ := chk_of h
      refine st_l X hP hD hS 3 rfl (inb.vp hz187) (k := (l7).toNatClampNeg) rfl (ws1 := (W_X6_copy E a_t a_elements a_holds a_moved a_refused a_sizes a_now a_kept a_mind a_tape a_words a_wCell a_wFaces a_wTurns a_wSign a_wBy a_wFell a_telling a_above a_out a_first c_t c_elements c_holds (vp_updL c_moved ((l7).toNatClampNeg) (c_elements (((((40 : Int32) * l1) + l3) + l7)).toNatClampNeg)) c_refused c_sizes)) rfl dX6_copy_187 (fun H locs hP hD hS => ?_)
      refine lv_iinc (v := (l7 + (1 : Int32))) (lv' := [(7, .int (l7 + (1 : Int32))), (0, .ref a_t), (1, .int l1), (2, .int l2), (3, .int l3), (4, .int l4), (5, .int l5)]) hx hb dX6_copy_188 hl (k := 6) rfl rfl (by decide) rfl (fun ls hl => ?_)
      refine lv_goto (tgt := 160) hx hb dX6_copy_191 (by decide) ?_
      exact ih c_elements (vp_updL c_moved ((l7).toNatClampNeg) (c_elements (((((40 : Int32) * l1) + l3) + l7)).toNatClampNeg)) c_refused l1 l2 l3 l4 l5 (l7 + (1 : Int32)) _ _ _ h hP hD hS (lv_sub hl [1, 2, 3, 4, 5, 6, 0] rfl)
set_option maxRecDepth 100000 in
set_option maxHeartbeats 4000000 in
theorem w_X6_copy_b97 (X : Ctx p m meth c cX6_copy 8 ((some .int)) s args wsX6_copy RX6 E A) (a_t : Nat) (a_elements : Nat) (a_holds : Nat) (a_moved : Nat) (a_refused : Nat) (a_sizes : Nat) (a_now : Nat) (a_kept : Nat) (a_mind : Nat) (a_tape : Nat) (a_words : Nat) (a_wCell : Nat) (a_wFaces : Nat) (a_wTurns : Nat) (a_wSign : Nat) (a_wBy : Nat) (a_wFell : Nat) (a_telling : Nat) (a_above : Nat) (a_out : Nat) (a_first : Nat) (c_t : Nat → Int32) (c_holds : Nat → Int32) (c_sizes : Nat → Int32) (res : Int32 × (Nat → Int64) × (Nat → Int64) × (Nat → Int32)) (c_elements : Nat → Int64) (c_moved : Nat → Int64) (c_refused : Nat → Int32) (l1 : Int32) (l2 : Int32) (l3 : Int32) (l4 : Int32) (l5 : Int32) (l6 : Int32) (ls : Array Slot) (H : Heap) (locs : List Loc) (h : f_X6_copy_b97 c_t c_holds c_sizes c_elements c_moved c_refused l1 l2 l3 l4 l5 l6 = some res) (hP : va_P E.1 vwCl (W_X6_copy E a_t a_elements a_holds a_moved a_refused a_sizes a_now a_kept a_mind a_tape a_words a_wCell a_wFaces a_wTurns a_wSign a_wBy a_wFell a_telling a_above a_out a_first c_t c_elements c_holds c_moved c_refused c_sizes) H) (hD : va_D A (W_X6_copy E a_t a_elements a_holds a_moved a_refused a_sizes a_now a_kept a_mind a_tape a_words a_wCell a_wFaces a_wTurns a_wSign a_wBy a_wFell a_telling a_above a_out a_first c_t c_elements c_holds c_moved c_refused c_sizes)) (hS : va_S A s.heap H locs) (hl : lv_has ls 8 [(0, .ref a_t), (1, .int l1), (2, .int l2), (3, .int l3), (4, .int l4), (5, .int l5), (6, .int l6)]) : W p l e r_X6_copy s m args below meth c H locs 0 0 (MQ below (qI E A (res.1) (W_X6_copy E a_t a_elements a_holds a_moved a_refused a_sizes a_now a_kept a_mind a_tape a_words a_wCell a_wFaces a_wTurns a_wSign a_wBy a_wFell a_telling a_above a_out a_first c_t (res.2.1) c_holds (res.2.2.1) (res.2.2.2) c_sizes)) args s 0 0 A) (F0 m 97 ls []) := by
  obtain ⟨hx, hb, hml, hr, hlk, hown, hts, hG, hA⟩ := id X
  have hK := hG.1
  have hN := hG.2.1
  unfold f_X6_copy_b97 at h
  refine lv_iload hx hb dX6_copy_97 (lv_at hl 6 rfl) ?_
  refine lv_if_ne (tgt := 109) hx hb dX6_copy_99 (by decide) (fun hc99 => ?_) (fun hc99 => ?_)
  · have h := if_f h hc99
    refine lv_iload hx hb dX6_copy_109 (lv_at hl 5 rfl) ?_
    refine lv_if_lt (tgt := 150) hx hb dX6_copy_111 (by decide) (fun hc111 => ?_) (fun hc111 => ?_)
    · have h := if_t h hc111
      exact w_X6_copy_b150 X a_t a_elements a_holds a_moved a_refused a_sizes a_now a_kept a_mind a_tape a_words a_wCell a_wFaces a_wTurns a_wSign a_wBy a_wFell a_telling a_above a_out a_first c_t c_holds c_sizes res c_elements c_moved c_refused _ _ _ h hP hD hS (lv_sub hl [0] rfl)
    · have h := if_f h hc111
      refine lv_iload_n hx hb dX6_copy_114 rfl (lv_at hl 3 rfl) ?_
      refine lv_if_lt (tgt := 150) hx hb dX6_copy_115 (by decide) (fun hc115 => ?_) (fun hc115 => ?_)
      · have h := if_t h hc115
        exact w_X6_copy_b150 X a_t a_elements a_holds a_moved a_refused a_sizes a_now a_kept a_mind a_tape a_words a_wCell a_wFaces a_wTurns a_wSign a_wBy a_wFell a_telling a_above a_out a_first c_t c_holds c_sizes res c_elements c_moved c_refused _ _ _ h hP hD hS (lv_sub hl [0] rfl)
      · have h := if_f h hc115
        refine lv_iload hx hb dX6_copy_118 (lv_at hl 4 rfl) ?_
        refine lv_if_lt (tgt := 150) hx hb dX6_copy_120 (by decide) (fun hc120 => ?_) (fun hc120 => ?_)
        · have h := if_t h hc120
          exact w_X6_copy_b150 X a_t a_elements a_holds a_moved a_refused a_sizes a_now a_kept a_mind a_tape a_words a_wCell a_wFaces a_wTurns a_wSign a_wBy a_wFell a_telling a_above a_out a_first c_t c_holds c_sizes res c_elements c_moved c_refused _ _ _ h hP hD hS (lv_sub hl [0] rfl)
        · have h := if_f h hc120
          refine lv_iload hx hb dX6_copy_123 (lv_at hl 5 rfl) ?_
          refine lv_aload_n hx hb dX6_copy_125 rfl (lv_at hl 0 rfl) ?_
          refine va_get (D := E.1) (ci := 6) (v := .ref a_sizes) (C := RX6) (T := TX6) (N := 26) hx hb hts iX6_copy_X6 hown hK hP 0 rfl rfl 20 (by decide) (hts (.fieldLink RX6 57 "LeftIsAgreedOnModel" "sizes" "[I") (List.mem_of_getElem? (i := 2) rfl)) (fun _ h9 => h9) rfl dX6_copy_126 ?_
          refine lv_iload_n hx hb dX6_copy_129 rfl (lv_at hl 1 rfl) ?_
          obtain ⟨hz130, h⟩ := chk_of h
          refine ld_i X hP 5 rfl (inb.vp hz130) (v := (c_sizes (l1).toNatClampNeg)) rfl dX6_copy_130 ?_
          refine lv_iload_n hx hb dX6_copy_131 rfl (lv_at hl 3 rfl) ?_
          refine lv_isub hx hb dX6_copy_132 ?_
          refine lv_icmp_gt (tgt := 150) hx hb dX6_copy_133 (by decide) (fun hc133 => ?_) (fun hc133 => ?_)
          · have h := if_t h hc133
            exact w_X6_copy_b150 X a_t a_elements a_holds a_moved a_refused a_sizes a_now a_kept a_mind a_tape a_words a_wCell a_wFaces a_wTurns a_wSign a_wBy a_wFell a_telling a_above a_out a_first c_t c_holds c_sizes res c_elements c_moved c_refused _ _ _ h hP hD hS (lv_sub hl [0] rfl)
          · have h := if_f h hc133
            refine lv_iload hx hb dX6_copy_136 (lv_at hl 5 rfl) ?_
            refine lv_aload_n hx hb dX6_copy_138 rfl (lv_at hl 0 rfl) ?_
            refine va_get (D := E.1) (ci := 6) (v := .ref a_sizes) (C := RX6) (T := TX6) (N := 26) hx hb hts iX6_copy_X6 hown hK hP 0 rfl rfl 20 (by decide) (hts (.fieldLink RX6 57 "LeftIsAgreedOnModel" "sizes" "[I") (List.mem_of_getElem? (i := 2) rfl)) (fun _ h9 => h9) rfl dX6_copy_139 ?_
            refine lv_iload_n hx hb dX6_copy_142 rfl (lv_at hl 2 rfl) ?_
            obtain ⟨hz143, h⟩ := chk_of h
            refine ld_i X hP 5 rfl (inb.vp hz143) (v := (c_sizes (l2).toNatClampNeg)) rfl dX6_copy_143 ?_
            refine lv_iload hx hb dX6_copy_144 (lv_at hl 4 rfl) ?_
            refine lv_isub hx hb dX6_copy_146 ?_
            refine lv_icmp_le (tgt := 157) hx hb dX6_copy_147 (by decide) (fun hc147 => ?_) (fun hc147 => ?_)
            · have h := if_t h hc147
              refine lv_iconst (v := (0 : Int32)) hx hb dX6_copy_157 (by decide) ?_
              refine lv_istore (lv' := [(7, .int (0 : Int32)), (0, .ref a_t), (1, .int l1), (2, .int l2), (3, .int l3), (4, .int l4), (5, .int l5), (6, .int l6)]) hx hb dX6_copy_158 hl (by decide) rfl (fun ls hl => ?_)
              exact w_X6_copy_b160 X a_t a_elements a_holds a_moved a_refused a_sizes a_now a_kept a_mind a_tape a_words a_wCell a_wFaces a_wTurns a_wSign a_wBy a_wFell a_telling a_above a_out a_first c_t c_holds c_sizes res FU c_elements c_moved c_refused l1 l2 l3 l4 l5 (0 : Int32) _ _ _ h hP hD hS (lv_sub hl [1, 2, 3, 4, 5, 6, 0] rfl)
            · have h := if_f h hc147
              exact w_X6_copy_b150 X a_t a_elements a_holds a_moved a_refused a_sizes a_now a_kept a_mind a_tape a_words a_wCell a_wFaces a_wTurns a_wSign a_wBy a_wFell a_telling a_above a_out a_first c_t c_holds c_sizes res c_elements c_moved c_refused _ _ _ h hP hD hS (lv_sub hl [0] rfl)
  · have h := if_t h hc99
    refine lv_aload_n hx hb dX6_copy_102 rfl (lv_at hl 0 rfl) ?_
    refine lv_bipush (v := (-4 : Int32)) hx hb dX6_copy_103 (by decide) ?_
    obtain ⟨v1, hv1, h⟩ := bind_of h
    refine after_i X (run_V X (c_X6_refuse l E a_t a_refused a_now a_kept a_mind a_tape a_words a_wCell a_wFaces a_wTurns a_wSign a_wBy a_wFell a_telling a_holds a_sizes a_elements a_moved a_above a_out a_first (-4 : Int32) c_t c_refused H.size v1 hv1) (cwV 1 hts gX6_copy_X6_refuse rfl rfl rfl hV_X6_refuse ⟨(Nat.le_of_ble_eq_true rfl), (Nat.le_of_ble_eq_true rfl)⟩) hP hD hS [0, 4] rfl rfl hl.1 (ci := 6) rfl rfl rfl (rest := []) rfl rfl (Nat.le_of_ble_eq_true rfl) dX6_copy_105) hP hD hS [0, 4] [1, 2, 3, 5] [4, 0, 1, 2, 5, 3] rfl rfl rfl (by decide) rfl (ws1 := (W_X6_copy E a_t a_elements a_holds a_moved a_refused a_sizes a_now a_kept a_mind a_tape a_words a_wCell a_wFaces a_wTurns a_wSign a_wBy a_wFell a_telling a_above a_out a_first c_t c_elements c_holds c_moved (v1.2) c_sizes)) rfl (fun H locs hP hD hS => ?_)
    obtain rfl := Option.some.inj h
    exact ret_i X dX6_copy_108 hP hD hS rfl
set_option maxRecDepth 100000 in
set_option maxHeartbeats 4000000 in
theorem w_X6_copy_b46 (X : Ctx p m meth c cX6_copy 8 ((some .int)) s args wsX6_copy RX6 E A) (a_t : Nat) (a_elements : Nat) (a_holds : Nat) (a_moved : Nat) (a_refused : Nat) (a_sizes : Nat) (a_now : Nat) (a_kept : Nat) (a_mind : Nat) (a_tape : Nat) (a_words : Nat) (a_wCell : Nat) (a_wFaces : Nat) (a_wTurns : Nat) (a_wSign : Nat) (a_wBy : Nat) (a_wFell : Nat) (a_telling : Nat) (a_above : Nat) (a_out : Nat) (a_first : Nat) (c_t : Nat → Int32) (c_holds : Nat → Int32) (c_sizes : Nat → Int32) (res : Int32 × (Nat → Int64) × (Nat → Int64) × (Nat → Int32)) (c_elements : Nat → Int64) (c_moved : Nat → Int64) (c_refused : Nat → Int32) (l1 : Int32) (l2 : Int32) (l3 : Int32) (l4 : Int32) (l5 : Int32) (s0 : Int32) (ls : Array Slot) (H : Heap) (locs : List Loc) (h : f_X6_copy_b46 c_t c_holds c_sizes c_elements c_moved c_refused l1 l2 l3 l4 l5 s0 = some res) (hP : va_P E.1 vwCl (W_X6_copy E a_t a_elements a_holds a_moved a_refused a_sizes a_now a_kept a_mind a_tape a_words a_wCell a_wFaces a_wTurns a_wSign a_wBy a_wFell a_telling a_above a_out a_first c_t c_elements c_holds c_moved c_refused c_sizes) H) (hD : va_D A (W_X6_copy E a_t a_elements a_holds a_moved a_refused a_sizes a_now a_kept a_mind a_tape a_words a_wCell a_wFaces a_wTurns a_wSign a_wBy a_wFell a_telling a_above a_out a_first c_t c_elements c_holds c_moved c_refused c_sizes)) (hS : va_S A s.heap H locs) (hl : lv_has ls 8 [(0, .ref a_t), (1, .int l1), (2, .int l2), (3, .int l3), (4, .int l4), (5, .int l5)]) : W p l e r_X6_copy s m args below meth c H locs 0 0 (MQ below (qI E A (res.1) (W_X6_copy E a_t a_elements a_holds a_moved a_refused a_sizes a_now a_kept a_mind a_tape a_words a_wCell a_wFaces a_wTurns a_wSign a_wBy a_wFell a_telling a_above a_out a_first c_t (res.2.1) c_holds (res.2.2.1) (res.2.2.2) c_sizes)) args s 0 0 A) (F0 m 46 ls [.int s0]) := by
  obtain ⟨hx, hb, hml, hr, hlk, hown, hts, hG, hA⟩ := id X
  have hK := hG.1
  have hN := hG.2.1
  unfold f_X6_copy_b46 at h
  refine lv_istore (lv' := [(6, .int s0), (0, .ref a_t), (1, .int l1), (2, .int l2), (3, .int l3), (4, .int l4), (5, .int l5)]) hx hb dX6_copy_46 hl (by decide) rfl (fun ls hl => ?_)
  refine lv_aload_n hx hb dX6_copy_48 rfl (lv_at hl 1 rfl) ?_
  refine va_get (D := E.1) (ci := 6) (v := .ref a_holds) (C := RX6) (T := TX6) (N := 26) hx hb hts iX6_copy_X6 hown hK hP 0 rfl rfl 19 (by decide) (hts (.fieldLink RX6 54 "LeftIsAgreedOnModel" "holds" "[I") (List.mem_of_getElem? (i := 1) rfl)) (fun _ h9 => h9) rfl dX6_copy_49 ?_
  refine lv_iload_n hx hb dX6_copy_52 rfl (lv_at hl 2 rfl) ?_
  obtain ⟨hz53, h⟩ := chk_of h
  refine ld_i X hP 2 rfl (inb.vp hz53) (v := (c_holds (l1).toNatClampNeg)) rfl dX6_copy_53 ?_
  refine lv_bipush (v := (10 : Int32)) hx hb dX6_copy_54 (by decide) ?_
  refine lv_icmp_ge (tgt := 90) hx hb dX6_copy_56 (by decide) (fun hc56 => ?_) (fun hc56 => ?_)
  · have h := if_t h hc56
    exact w_X6_copy_b90 X a_t a_elements a_holds a_moved a_refused a_sizes a_now a_kept a_mind a_tape a_words a_wCell a_wFaces a_wTurns a_wSign a_wBy a_wFell a_telling a_above a_out a_first c_t c_holds c_sizes res c_elements c_moved c_refused _ _ _ h hP hD hS (lv_sub hl [1] rfl)
  · have h := if_f h hc56
    refine lv_aload_n hx hb dX6_copy_59 rfl (lv_at hl 1 rfl) ?_
    refine va_get (D := E.1) (ci := 6) (v := .ref a_holds) (C := RX6) (T := TX6) (N := 26) hx hb hts iX6_copy_X6 hown hK hP 0 rfl rfl 19 (by decide) (hts (.fieldLink RX6 54 "LeftIsAgreedOnModel" "holds" "[I") (List.mem_of_getElem? (i := 1) rfl)) (fun _ h9 => h9) rfl dX6_copy_60 ?_
    refine lv_iload_n hx hb dX6_copy_63 rfl (lv_at hl 3 rfl) ?_
    obtain ⟨hz64, h⟩ := chk_of h
    refine ld_i X hP 2 rfl (inb.vp hz64) (v := (c_holds (l2).toNatClampNeg)) rfl dX6_copy_64 ?_
    refine lv_bipush (v := (10 : Int32)) hx hb dX6_copy_65 (by decide) ?_
    refine lv_icmp_ge (tgt := 90) hx hb dX6_copy_67 (by decide) (fun hc67 => ?_) (fun hc67 => ?_)
    · have h := if_t h hc67
      exact w_X6_copy_b90 X a_t a_elements a_holds a_moved a_refused a_sizes a_now a_kept a_mind a_tape a_words a_wCell a_wFaces a_wTurns a_wSign a_wBy a_wFell a_telling a_above a_out a_first c_t c_holds c_sizes res c_elements c_moved c_refused _ _ _ h hP hD hS (lv_sub hl [1] rfl)
    · have h := if_f h hc67
      refine lv_iload hx hb dX6_copy_70 (lv_at hl 0 rfl) ?_
      refine lv_if_eq (tgt := 97) hx hb dX6_copy_72 (by decide) (fun hc72 => ?_) (fun hc72 => ?_)
      · have h := if_t h hc72
        exact w_X6_copy_b97 X a_t a_elements a_holds a_moved a_refused a_sizes a_now a_kept a_mind a_tape a_words a_wCell a_wFaces a_wTurns a_wSign a_wBy a_wFell a_telling a_above a_out a_first c_t c_holds c_sizes res c_elements c_moved c_refused l1 l2 l3 l4 l5 s0 _ _ _ h hP hD hS (lv_sub hl [1, 2, 3, 4, 5, 6, 0] rfl)
      · have h := if_f h hc72
        refine lv_aload_n hx hb dX6_copy_75 rfl (lv_at hl 1 rfl) ?_
        refine va_get (D := E.1) (ci := 6) (v := .ref a_holds) (C := RX6) (T := TX6) (N := 26) hx hb hts iX6_copy_X6 hown hK hP 0 rfl rfl 19 (by decide) (hts (.fieldLink RX6 54 "LeftIsAgreedOnModel" "holds" "[I") (List.mem_of_getElem? (i := 1) rfl)) (fun _ h9 => h9) rfl dX6_copy_76 ?_
        refine lv_iload_n hx hb dX6_copy_79 rfl (lv_at hl 2 rfl) ?_
        obtain ⟨hz80, h⟩ := chk_of h
        refine ld_i X hP 2 rfl (inb.vp hz80) (v := (c_holds (l1).toNatClampNeg)) rfl dX6_copy_80 ?_
        refine lv_aload_n hx hb dX6_copy_81 rfl (lv_at hl 1 rfl) ?_
        refine va_get (D := E.1) (ci := 6) (v := .ref a_holds) (C := RX6) (T := TX6) (N := 26) hx hb hts iX6_copy_X6 hown hK hP 0 rfl rfl 19 (by decide) (hts (.fieldLink RX6 54 "LeftIsAgreedOnModel" "holds" "[I") (List.mem_of_getElem? (i := 1) rfl)) (fun _ h9 => h9) rfl dX6_copy_82 ?_
        refine lv_iload_n hx hb dX6_copy_85 rfl (lv_at hl 3 rfl) ?_
        obtain ⟨hz86, h⟩ := chk_of h
        refine ld_i X hP 2 rfl (inb.vp hz86) (v := (c_holds (l2).toNatClampNeg)) rfl dX6_copy_86 ?_
        refine lv_icmp_eq (tgt := 97) hx hb dX6_copy_87 (by decide) (fun hc87 => ?_) (fun hc87 => ?_)
        · have h := if_t h hc87
          exact w_X6_copy_b97 X a_t a_elements a_holds a_moved a_refused a_sizes a_now a_kept a_mind a_tape a_words a_wCell a_wFaces a_wTurns a_wSign a_wBy a_wFell a_telling a_above a_out a_first c_t c_holds c_sizes res c_elements c_moved c_refused l1 l2 l3 l4 l5 s0 _ _ _ h hP hD hS (lv_sub hl [1, 2, 3, 4, 5, 6, 0] rfl)
        · have h := if_f h hc87
          exact w_X6_copy_b90 X a_t a_elements a_holds a_moved a_refused a_sizes a_now a_kept a_mind a_tape a_words a_wCell a_wFaces a_wTurns a_wSign a_wBy a_wFell a_telling a_above a_out a_first c_t c_holds c_sizes res c_elements c_moved c_refused _ _ _ h hP hD hS (lv_sub hl [1] rfl)
set_option maxRecDepth 100000 in
set_option maxHeartbeats 4000000 in
theorem w_X6_copy_b45 (X : Ctx p m meth c cX6_copy 8 ((some .int)) s args wsX6_copy RX6 E A) (a_t : Nat) (a_elements : Nat) (a_holds : Nat) (a_moved : Nat) (a_refused : Nat) (a_sizes : Nat) (a_now : Nat) (a_kept : Nat) (a_mind : Nat) (a_tape : Nat) (a_words : Nat) (a_wCell : Nat) (a_wFaces : Nat) (a_wTurns : Nat) (a_wSign : Nat) (a_wBy : Nat) (a_wFell : Nat) (a_telling : Nat) (a_above : Nat) (a_out : Nat) (a_first : Nat) (c_t : Nat → Int32) (c_holds : Nat → Int32) (c_sizes : Nat → Int32) (res : Int32 × (Nat → Int64) × (Nat → Int64) × (Nat → Int32)) (c_elements : Nat → Int64) (c_moved : Nat → Int64) (c_refused : Nat → Int32) (l1 : Int32) (l2 : Int32) (l3 : Int32) (l4 : Int32) (l5 : Int32) (ls : Array Slot) (H : Heap) (locs : List Loc) (h : f_X6_copy_b45 c_t c_holds c_sizes c_elements c_moved c_refused l1 l2 l3 l4 l5 = some res) (hP : va_P E.1 vwCl (W_X6_copy E a_t a_elements a_holds a_moved a_refused a_sizes a_now a_kept a_mind a_tape a_words a_wCell a_wFaces a_wTurns a_wSign a_wBy a_wFell a_telling a_above a_out a_first c_t c_elements c_holds c_moved c_refused c_sizes) H) (hD : va_D A (W_X6_copy E a_t a_elements a_holds a_moved a_refused a_sizes a_now a_kept a_mind a_tape a_words a_wCell a_wFaces a_wTurns a_wSign a_wBy a_wFell a_telling a_above a_out a_first c_t c_elements c_holds c_moved c_refused c_sizes)) (hS : va_S A s.heap H locs) (hl : lv_has ls 8 [(0, .ref a_t), (1, .int l1), (2, .int l2), (3, .int l3), (4, .int l4), (5, .int l5)]) : W p l e r_X6_copy s m args below meth c H locs 0 0 (MQ below (qI E A (res.1) (W_X6_copy E a_t a_elements a_holds a_moved a_refused a_sizes a_now a_kept a_mind a_tape a_words a_wCell a_wFaces a_wTurns a_wSign a_wBy a_wFell a_telling a_above a_out a_first c_t (res.2.1) c_holds (res.2.2.1) (res.2.2.2) c_sizes)) args s 0 0 A) (F0 m 45 ls []) := by
  obtain ⟨hx, hb, hml, hr, hlk, hown, hts, hG, hA⟩ := id X
  have hK := hG.1
  have hN := hG.2.1
  unfold f_X6_copy_b45 at h
  refine lv_iconst (v := (0 : Int32)) hx hb dX6_copy_45 (by decide) ?_
  exact w_X6_copy_b46 X a_t a_elements a_holds a_moved a_refused a_sizes a_now a_kept a_mind a_tape a_words a_wCell a_wFaces a_wTurns a_wSign a_wBy a_wFell a_telling a_above a_out a_first c_t c_holds c_sizes res c_elements c_moved c_refused l1 l2 l3 l4 l5 (0 : Int32) _ _ _ h hP hD hS (lv_sub hl [0, 1, 2, 3, 4, 5] rfl)
set_option maxRecDepth 100000 in
set_option maxHeartbeats 4000000 in
theorem w_X6_copy (X : Ctx p m meth c cX6_copy 8 ((some .int)) s args wsX6_copy RX6 E A) (a_t : Nat) (a_elements : Nat) (a_holds : Nat) (a_moved : Nat) (a_refused : Nat) (a_sizes : Nat) (a_now : Nat) (a_kept : Nat) (a_mind : Nat) (a_tape : Nat) (a_words : Nat) (a_wCell : Nat) (a_wFaces : Nat) (a_wTurns : Nat) (a_wSign : Nat) (a_wBy : Nat) (a_wFell : Nat) (a_telling : Nat) (a_above : Nat) (a_out : Nat) (a_first : Nat) (c_t : Nat → Int32) (c_holds : Nat → Int32) (c_sizes : Nat → Int32) (res : Int32 × (Nat → Int64) × (Nat → Int64) × (Nat → Int32)) (c_elements : Nat → Int64) (c_moved : Nat → Int64) (c_refused : Nat → Int32) (l1 : Int32) (l2 : Int32) (l3 : Int32) (l4 : Int32) (l5 : Int32) (ls : Array Slot) (H : Heap) (locs : List Loc) (h : f_X6_copy l1 l2 l3 l4 l5 c_t c_elements c_holds c_moved c_refused c_sizes = some res) (hP : va_P E.1 vwCl (W_X6_copy E a_t a_elements a_holds a_moved a_refused a_sizes a_now a_kept a_mind a_tape a_words a_wCell a_wFaces a_wTurns a_wSign a_wBy a_wFell a_telling a_above a_out a_first c_t c_elements c_holds c_moved c_refused c_sizes) H) (hD : va_D A (W_X6_copy E a_t a_elements a_holds a_moved a_refused a_sizes a_now a_kept a_mind a_tape a_words a_wCell a_wFaces a_wTurns a_wSign a_wBy a_wFell a_telling a_above a_out a_first c_t c_elements c_holds c_moved c_refused c_sizes)) (hS : va_S A s.heap H locs) (hl : lv_has ls 8 [(0, .ref a_t), (1, .int l1), (2, .int l2), (3, .int l3), (4, .int l4), (5, .int l5)]) : W p l e r_X6_copy s m args below meth c H locs 0 0 (MQ below (qI E A (res.1) (W_X6_copy E a_t a_elements a_holds a_moved a_refused a_sizes a_now a_kept a_mind a_tape a_words a_wCell a_wFaces a_wTurns a_wSign a_wBy a_wFell a_telling a_above a_out a_first c_t (res.2.1) c_holds (res.2.2.1) (res.2.2.2) c_sizes)) args s 0 0 A) (F0 m 0 ls []) := by
  obtain ⟨hx, hb, hml, hr, hlk, hown, hts, hG, hA⟩ := id X
  have hK := hG.1
  have hN := hG.2.1
  unfold f_X6_copy at h
  refine lv_iload_n hx hb dX6_copy_0 rfl (lv_at hl 1 rfl) ?_
  obtain ⟨v1, hv1, h⟩ := bind_of h
  refine after_i X (run_S X (c_X6_isShelf l E l1 H.size v1 hv1) (va_cwS 1 hts gX6_copy_X6_isShelf rfl rfl rfl hd_X6_isShelf ⟨(Nat.le_of_ble_eq_true rfl), (Nat.le_of_ble_eq_true rfl)⟩) hP hD hS [] rfl rfl hl.1 (rest := []) rfl rfl (Nat.le_of_ble_eq_true rfl) dX6_copy_1) hP hD hS [] [0, 1, 2, 3, 4, 5] [0, 1, 2, 3, 4, 5] rfl rfl rfl (by decide) rfl (ws1 := (W_X6_copy E a_t a_elements a_holds a_moved a_refused a_sizes a_now a_kept a_mind a_tape a_words a_wCell a_wFaces a_wTurns a_wSign a_wBy a_wFell a_telling a_above a_out a_first c_t c_elements c_holds c_moved c_refused c_sizes)) rfl (fun H locs hP hD hS => ?_)
  refine lv_if_eq (tgt := 14) hx hb dX6_copy_4 (by decide) (fun hc4 => ?_) (fun hc4 => ?_)
  · have h := if_t h hc4
    exact w_X6_copy_b14 X a_t a_elements a_holds a_moved a_refused a_sizes a_now a_kept a_mind a_tape a_words a_wCell a_wFaces a_wTurns a_wSign a_wBy a_wFell a_telling a_above a_out a_first c_t c_holds c_sizes res c_elements c_moved c_refused _ _ _ h hP hD hS (lv_sub hl [0] rfl)
  · have h := if_f h hc4
    refine lv_iload_n hx hb dX6_copy_7 rfl (lv_at hl 2 rfl) ?_
    obtain ⟨v2, hv2, h⟩ := bind_of h
    refine after_i X (run_S X (c_X6_isShelf l E l2 H.size v2 hv2) (va_cwS 1 hts gX6_copy_X6_isShelf rfl rfl rfl hd_X6_isShelf ⟨(Nat.le_of_ble_eq_true rfl), (Nat.le_of_ble_eq_true rfl)⟩) hP hD hS [] rfl rfl hl.1 (rest := []) rfl rfl (Nat.le_of_ble_eq_true rfl) dX6_copy_8) hP hD hS [] [0, 1, 2, 3, 4, 5] [0, 1, 2, 3, 4, 5] rfl rfl rfl (by decide) rfl (ws1 := (W_X6_copy E a_t a_elements a_holds a_moved a_refused a_sizes a_now a_kept a_mind a_tape a_words a_wCell a_wFaces a_wTurns a_wSign a_wBy a_wFell a_telling a_above a_out a_first c_t c_elements c_holds c_moved c_refused c_sizes)) rfl (fun H locs hP hD hS => ?_)
    refine lv_if_ne (tgt := 21) hx hb dX6_copy_11 (by decide) (fun hc11 => ?_) (fun hc11 => ?_)
    · have h := if_f h hc11
      refine lv_aload_n hx hb dX6_copy_21 rfl (lv_at hl 0 rfl) ?_
      refine va_get (D := E.1) (ci := 6) (v := .ref a_holds) (C := RX6) (T := TX6) (N := 26) hx hb hts iX6_copy_X6 hown hK hP 0 rfl rfl 19 (by decide) (hts (.fieldLink RX6 54 "LeftIsAgreedOnModel" "holds" "[I") (List.mem_of_getElem? (i := 1) rfl)) (fun _ h9 => h9) rfl dX6_copy_22 ?_
      refine lv_iload_n hx hb dX6_copy_25 rfl (lv_at hl 1 rfl) ?_
      obtain ⟨hz26, h⟩ := chk_of h
      refine ld_i X hP 2 rfl (inb.vp hz26) (v := (c_holds (l1).toNatClampNeg)) rfl dX6_copy_26 ?_
      refine lv_iconst (v := (-1 : Int32)) hx hb dX6_copy_27 (by decide) ?_
      refine lv_icmp_eq (tgt := 45) hx hb dX6_copy_28 (by decide) (fun hc28 => ?_) (fun hc28 => ?_)
      · have h := if_t h hc28
        exact w_X6_copy_b45 X a_t a_elements a_holds a_moved a_refused a_sizes a_now a_kept a_mind a_tape a_words a_wCell a_wFaces a_wTurns a_wSign a_wBy a_wFell a_telling a_above a_out a_first c_t c_holds c_sizes res c_elements c_moved c_refused l1 l2 l3 l4 l5 _ _ _ h hP hD hS (lv_sub hl [0, 1, 2, 3, 4, 5] rfl)
      · have h := if_f h hc28
        refine lv_aload_n hx hb dX6_copy_31 rfl (lv_at hl 0 rfl) ?_
        refine va_get (D := E.1) (ci := 6) (v := .ref a_holds) (C := RX6) (T := TX6) (N := 26) hx hb hts iX6_copy_X6 hown hK hP 0 rfl rfl 19 (by decide) (hts (.fieldLink RX6 54 "LeftIsAgreedOnModel" "holds" "[I") (List.mem_of_getElem? (i := 1) rfl)) (fun _ h9 => h9) rfl dX6_copy_32 ?_
        refine lv_iload_n hx hb dX6_copy_35 rfl (lv_at hl 2 rfl) ?_
        obtain ⟨hz36, h⟩ := chk_of h
        refine ld_i X hP 2 rfl (inb.vp hz36) (v := (c_holds (l2).toNatClampNeg)) rfl dX6_copy_36 ?_
        refine lv_iconst (v := (-1 : Int32)) hx hb dX6_copy_37 (by decide) ?_
        refine lv_icmp_eq (tgt := 45) hx hb dX6_copy_38 (by decide) (fun hc38 => ?_) (fun hc38 => ?_)
        · have h := if_t h hc38
          exact w_X6_copy_b45 X a_t a_elements a_holds a_moved a_refused a_sizes a_now a_kept a_mind a_tape a_words a_wCell a_wFaces a_wTurns a_wSign a_wBy a_wFell a_telling a_above a_out a_first c_t c_holds c_sizes res c_elements c_moved c_refused l1 l2 l3 l4 l5 _ _ _ h hP hD hS (lv_sub hl [0, 1, 2, 3, 4, 5] rfl)
        · have h := if_f h hc38
          refine lv_iconst (v := (1 : Int32)) hx hb dX6_copy_41 (by decide) ?_
          refine lv_goto (tgt := 46) hx hb dX6_copy_42 (by decide) ?_
          exact w_X6_copy_b46 X a_t a_elements a_holds a_moved a_refused a_sizes a_now a_kept a_mind a_tape a_words a_wCell a_wFaces a_wTurns a_wSign a_wBy a_wFell a_telling a_above a_out a_first c_t c_holds c_sizes res c_elements c_moved c_refused l1 l2 l3 l4 l5 (1 : Int32) _ _ _ h hP hD hS (lv_sub hl [0, 1, 2, 3, 4, 5] rfl)
    · have h := if_t h hc11
      exact w_X6_copy_b14 X a_t a_elements a_holds a_moved a_refused a_sizes a_now a_kept a_mind a_tape a_words a_wCell a_wFaces a_wTurns a_wSign a_wBy a_wFell a_telling a_above a_out a_first c_t c_holds c_sizes res c_elements c_moved c_refused _ _ _ h hP hD hS (lv_sub hl [0] rfl)
end
set_option maxRecDepth 100000 in
theorem c_X6_copy (l : Launch) (E : Env0) (a_t : Nat) (a_elements : Nat) (a_holds : Nat) (a_moved : Nat) (a_refused : Nat) (a_sizes : Nat) (a_now : Nat) (a_kept : Nat) (a_mind : Nat) (a_tape : Nat) (a_words : Nat) (a_wCell : Nat) (a_wFaces : Nat) (a_wTurns : Nat) (a_wSign : Nat) (a_wBy : Nat) (a_wFell : Nat) (a_telling : Nat) (a_above : Nat) (a_out : Nat) (a_first : Nat) (l1 : Int32) (l2 : Int32) (l3 : Int32) (l4 : Int32) (l5 : Int32) (c_t : Nat → Int32) (c_elements : Nat → Int64) (c_holds : Nat → Int32) (c_moved : Nat → Int64) (c_refused : Nat → Int32) (c_sizes : Nat → Int32) (sz : Nat) (res : Int32 × (Nat → Int64) × (Nat → Int64) × (Nat → Int32)) (h : f_X6_copy l1 l2 l3 l4 l5 c_t c_elements c_holds c_moved c_refused c_sizes = some res) : Met l yX6_copy wsX6_copy r_X6_copy (cPre E [.ref a_t, .int l1, .int l2, .int l3, .int l4, .int l5] (W_X6_copy E a_t a_elements a_holds a_moved a_refused a_sizes a_now a_kept a_mind a_tape a_words a_wCell a_wFaces a_wTurns a_wSign a_wBy a_wFell a_telling a_above a_out a_first c_t c_elements c_holds c_moved c_refused c_sizes) sz) (qI E (va_A (W_X6_copy E a_t a_elements a_holds a_moved a_refused a_sizes a_now a_kept a_mind a_tape a_words a_wCell a_wFaces a_wTurns a_wSign a_wBy a_wFell a_telling a_above a_out a_first c_t c_elements c_holds c_moved c_refused c_sizes) sz) (res.1) (W_X6_copy E a_t a_elements a_holds a_moved a_refused a_sizes a_now a_kept a_mind a_tape a_words a_wCell a_wFaces a_wTurns a_wSign a_wBy a_wFell a_telling a_above a_out a_first c_t (res.2.1) c_holds (res.2.2.1) (res.2.2.2) c_sizes)) 0 0 (va_A (W_X6_copy E a_t a_elements a_holds a_moved a_refused a_sizes a_now a_kept a_mind a_tape a_words a_wCell a_wFaces a_wTurns a_wSign a_wBy a_wFell a_telling a_above a_out a_first c_t c_elements c_holds c_moved c_refused c_sizes) sz) :=
  met_of (Qc := fun A => qI E A (res.1) (W_X6_copy E a_t a_elements a_holds a_moved a_refused a_sizes a_now a_kept a_mind a_tape a_words a_wCell a_wFaces a_wTurns a_wSign a_wBy a_wFell a_telling a_above a_out a_first c_t (res.2.1) c_holds (res.2.2.1) (res.2.2.2) c_sizes)) (by decide) rfl (Nat.le_of_ble_eq_true rfl) (fun p e s m args below meth c X hP hD hS ls hl => w_X6_copy X a_t a_elements a_holds a_moved a_refused a_sizes a_now a_kept a_mind a_tape a_words a_wCell a_wFaces a_wTurns a_wSign a_wBy a_wFell a_telling a_above a_out a_first c_t c_holds c_sizes res c_elements c_moved c_refused l1 l2 l3 l4 l5 ls _ _ h hP hD hS hl)
-- ===== X6_element
abbrev W_X6_element (E : Env0) (a_t : Nat) (a_elements : Nat) (a_holds : Nat) (a_sizes : Nat) (a_refused : Nat) (a_now : Nat) (a_kept : Nat) (a_mind : Nat) (a_tape : Nat) (a_words : Nat) (a_wCell : Nat) (a_wFaces : Nat) (a_wTurns : Nat) (a_wSign : Nat) (a_wBy : Nat) (a_wFell : Nat) (a_telling : Nat) (a_moved : Nat) (a_above : Nat) (a_out : Nat) (a_first : Nat) (c_t : Nat → Int32) (c_elements : Nat → Int64) (c_holds : Nat → Int32) (c_sizes : Nat → Int32) : va_W := [(a_t, .inr (6, [.ref a_refused, .ref a_now, .ref a_kept, .ref a_mind, .int (c_t 4), .ref a_tape, .int (c_t 6), .int (c_t 7), .int (c_t 8), .int (c_t 9), .ref a_words, .ref a_wCell, .ref a_wFaces, .ref a_wTurns, .ref a_wSign, .ref a_wBy, .ref a_wFell, .int (c_t 17), .ref a_telling, .ref a_holds, .ref a_sizes, .ref a_elements, .ref a_moved, .ref a_above, .ref a_out, .ref a_first])), (a_elements, .inl (eJ E, 320, .inr (.inl c_elements))), (a_holds, .inl (eI E, 8, .inl c_holds)), (a_sizes, .inl (eI E, 8, .inl c_sizes))]
abbrev r_X6_element : Room := { frames := 2, cells := 0, slots := 0, locals := 45 }
theorem hd_X6_element : yX6_element.cls ≠ "java/lang/invoke/MethodHandle" ∧ yX6_element.cls ≠ "java/lang/invoke/VarHandle" ∧ (parseMethodDescriptor yX6_element.desc).map (fun d => d.parameters.length) = some 2 := by decide +kernel
theorem hV_X6_element : yX6_element.cls = RX6 ∧ yX6_element.cls ≠ "java/lang/invoke/MethodHandle" ∧ yX6_element.cls ≠ "java/lang/invoke/VarHandle" ∧ (parseMethodDescriptor yX6_element.desc).map (fun d => d.parameters.length) = some 2 := ⟨rfl, hd_X6_element⟩
theorem iX6_element_X6 : ∀ w ∈ wsX60, w ∈ wsX6_element := fun _ h => List.mem_cons_of_mem _ (List.mem_append_right _ (h))
section
variable {p : Program} {l : Launch} {e : Env} {s : State} {m : MethodId} {args : Array Value} {below : List Frame} {meth : Method} {c : Code} {E : Env0} {A : Nat → Prop}
set_option maxRecDepth 100000 in
set_option maxHeartbeats 4000000 in
theorem w_X6_element_b56 (X : Ctx p m meth c cX6_element 3 ((some .long)) s args wsX6_element RX6 E A) (a_t : Nat) (a_elements : Nat) (a_holds : Nat) (a_sizes : Nat) (a_refused : Nat) (a_now : Nat) (a_kept : Nat) (a_mind : Nat) (a_tape : Nat) (a_words : Nat) (a_wCell : Nat) (a_wFaces : Nat) (a_wTurns : Nat) (a_wSign : Nat) (a_wBy : Nat) (a_wFell : Nat) (a_telling : Nat) (a_moved : Nat) (a_above : Nat) (a_out : Nat) (a_first : Nat) (c_t : Nat → Int32) (c_elements : Nat → Int64) (c_holds : Nat → Int32) (c_sizes : Nat → Int32) (res : Int64) (ls : Array Slot) (H : Heap) (locs : List Loc) (h : f_X6_element_b56 c_t c_elements c_holds c_sizes = some res) (hP : va_P E.1 vwCl (W_X6_element E a_t a_elements a_holds a_sizes a_refused a_now a_kept a_mind a_tape a_words a_wCell a_wFaces a_wTurns a_wSign a_wBy a_wFell a_telling a_moved a_above a_out a_first c_t c_elements c_holds c_sizes) H) (hD : va_D A (W_X6_element E a_t a_elements a_holds a_sizes a_refused a_now a_kept a_mind a_tape a_words a_wCell a_wFaces a_wTurns a_wSign a_wBy a_wFell a_telling a_moved a_above a_out a_first c_t c_elements c_holds c_sizes)) (hS : va_S A s.heap H locs) (hl : lv_has ls 3 []) : W p l e r_X6_element s m args below meth c H locs 0 0 (MQ below (qL E A res (W_X6_element E a_t a_elements a_holds a_sizes a_refused a_now a_kept a_mind a_tape a_words a_wCell a_wFaces a_wTurns a_wSign a_wBy a_wFell a_telling a_moved a_above a_out a_first c_t c_elements c_holds c_sizes)) args s 0 0 A) (F0 m 56 ls []) := by
  obtain ⟨hx, hb, hml, hr, hlk, hown, hts, hG, hA⟩ := id X
  have hK := hG.1
  have hN := hG.2.1
  unfold f_X6_element_b56 at h
  refine lv_lconst (v := (0 : Int64)) hx hb dX6_element_56 (by decide) ?_
  obtain rfl := Option.some.inj h
  exact ret_l X dX6_element_57 hP hD hS rfl
set_option maxRecDepth 100000 in
set_option maxHeartbeats 4000000 in
theorem w_X6_element (X : Ctx p m meth c cX6_element 3 ((some .long)) s args wsX6_element RX6 E A) (a_t : Nat) (a_elements : Nat) (a_holds : Nat) (a_sizes : Nat) (a_refused : Nat) (a_now : Nat) (a_kept : Nat) (a_mind : Nat) (a_tape : Nat) (a_words : Nat) (a_wCell : Nat) (a_wFaces : Nat) (a_wTurns : Nat) (a_wSign : Nat) (a_wBy : Nat) (a_wFell : Nat) (a_telling : Nat) (a_moved : Nat) (a_above : Nat) (a_out : Nat) (a_first : Nat) (c_t : Nat → Int32) (c_elements : Nat → Int64) (c_holds : Nat → Int32) (c_sizes : Nat → Int32) (res : Int64) (l1 : Int32) (l2 : Int32) (ls : Array Slot) (H : Heap) (locs : List Loc) (h : f_X6_element l1 l2 c_t c_elements c_holds c_sizes = some res) (hP : va_P E.1 vwCl (W_X6_element E a_t a_elements a_holds a_sizes a_refused a_now a_kept a_mind a_tape a_words a_wCell a_wFaces a_wTurns a_wSign a_wBy a_wFell a_telling a_moved a_above a_out a_first c_t c_elements c_holds c_sizes) H) (hD : va_D A (W_X6_element E a_t a_elements a_holds a_sizes a_refused a_now a_kept a_mind a_tape a_words a_wCell a_wFaces a_wTurns a_wSign a_wBy a_wFell a_telling a_moved a_above a_out a_first c_t c_elements c_holds c_sizes)) (hS : va_S A s.heap H locs) (hl : lv_has ls 3 [(0, .ref a_t), (1, .int l1), (2, .int l2)]) : W p l e r_X6_element s m args below meth c H locs 0 0 (MQ below (qL E A res (W_X6_element E a_t a_elements a_holds a_sizes a_refused a_now a_kept a_mind a_tape a_words a_wCell a_wFaces a_wTurns a_wSign a_wBy a_wFell a_telling a_moved a_above a_out a_first c_t c_elements c_holds c_sizes)) args s 0 0 A) (F0 m 0 ls []) := by
  obtain ⟨hx, hb, hml, hr, hlk, hown, hts, hG, hA⟩ := id X
  have hK := hG.1
  have hN := hG.2.1
  unfold f_X6_element at h
  refine lv_iload_n hx hb dX6_element_0 rfl (lv_at hl 1 rfl) ?_
  obtain ⟨v1, hv1, h⟩ := bind_of h
  refine after_i X (run_S X (c_X6_isShelf l E l1 H.size v1 hv1) (va_cwS 1 hts gX6_element_X6_isShelf rfl rfl rfl hd_X6_isShelf ⟨(Nat.le_of_ble_eq_true rfl), (Nat.le_of_ble_eq_true rfl)⟩) hP hD hS [] rfl rfl hl.1 (rest := []) rfl rfl (Nat.le_of_ble_eq_true rfl) dX6_element_1) hP hD hS [] [0, 1, 2, 3] [0, 1, 2, 3] rfl rfl rfl (by decide) rfl (ws1 := (W_X6_element E a_t a_elements a_holds a_sizes a_refused a_now a_kept a_mind a_tape a_words a_wCell a_wFaces a_wTurns a_wSign a_wBy a_wFell a_telling a_moved a_above a_out a_first c_t c_elements c_holds c_sizes)) rfl (fun H locs hP hD hS => ?_)
  refine lv_if_eq (tgt := 56) hx hb dX6_element_4 (by decide) (fun hc4 => ?_) (fun hc4 => ?_)
  · have h := if_t h hc4
    exact w_X6_element_b56 X a_t a_elements a_holds a_sizes a_refused a_now a_kept a_mind a_tape a_words a_wCell a_wFaces a_wTurns a_wSign a_wBy a_wFell a_telling a_moved a_above a_out a_first c_t c_elements c_holds c_sizes res _ _ _ h hP hD hS (lv_sub hl [] rfl)
  · have h := if_f h hc4
    refine lv_aload_n hx hb dX6_element_7 rfl (lv_at hl 0 rfl) ?_
    refine va_get (D := E.1) (ci := 6) (v := .ref a_holds) (C := RX6) (T := TX6) (N := 26) hx hb hts iX6_element_X6 hown hK hP 0 rfl rfl 19 (by decide) (hts (.fieldLink RX6 54 "LeftIsAgreedOnModel" "holds" "[I") (List.mem_of_getElem? (i := 1) rfl)) (fun _ h9 => h9) rfl dX6_element_8 ?_
    refine lv_iload_n hx hb dX6_element_11 rfl (lv_at hl 1 rfl) ?_
    obtain ⟨hz12, h⟩ := chk_of h
    refine ld_i X hP 2 rfl (inb.vp hz12) (v := (c_holds (l1).toNatClampNeg)) rfl dX6_element_12 ?_
    refine lv_i2l (v := ((c_holds (l1).toNatClampNeg).toInt64)) hx hb dX6_element_13 rfl ?_
    refine lv_lconst (v := (0 : Int64)) hx hb dX6_element_14 (by decide) ?_
    refine lv_ldc2 (v := (4 : Int64)) hx hb hown (hts (.constantLong RX6 206 (4)) (List.mem_of_getElem? (i := 2) rfl)) dX6_element_15 ?_
    obtain ⟨v2, hv2, h⟩ := bind_of h
    refine after_i X (run_S X (c_X6_isIn l E ((c_holds (l1).toNatClampNeg).toInt64) (0 : Int64) (4 : Int64) H.size v2 hv2) (va_cwS 3 hts gX6_element_X6_isIn rfl rfl rfl hd_X6_isIn ⟨(Nat.le_of_ble_eq_true rfl), (Nat.le_of_ble_eq_true rfl)⟩) hP hD hS [] rfl rfl hl.1 (rest := []) rfl rfl (Nat.le_of_ble_eq_true rfl) dX6_element_18) hP hD hS [] [0, 1, 2, 3] [0, 1, 2, 3] rfl rfl rfl (by decide) rfl (ws1 := (W_X6_element E a_t a_elements a_holds a_sizes a_refused a_now a_kept a_mind a_tape a_words a_wCell a_wFaces a_wTurns a_wSign a_wBy a_wFell a_telling a_moved a_above a_out a_first c_t c_elements c_holds c_sizes)) rfl (fun H locs hP hD hS => ?_)
    refine lv_if_eq (tgt := 56) hx hb dX6_element_21 (by decide) (fun hc21 => ?_) (fun hc21 => ?_)
    · have h := if_t h hc21
      exact w_X6_element_b56 X a_t a_elements a_holds a_sizes a_refused a_now a_kept a_mind a_tape a_words a_wCell a_wFaces a_wTurns a_wSign a_wBy a_wFell a_telling a_moved a_above a_out a_first c_t c_elements c_holds c_sizes res _ _ _ h hP hD hS (lv_sub hl [] rfl)
    · have h := if_f h hc21
      refine lv_iload_n hx hb dX6_element_24 rfl (lv_at hl 2 rfl) ?_
      refine lv_i2l (v := (l2.toInt64)) hx hb dX6_element_25 rfl ?_
      refine lv_lconst (v := (0 : Int64)) hx hb dX6_element_26 (by decide) ?_
      refine lv_aload_n hx hb dX6_element_27 rfl (lv_at hl 0 rfl) ?_
      refine va_get (D := E.1) (ci := 6) (v := .ref a_sizes) (C := RX6) (T := TX6) (N := 26) hx hb hts iX6_element_X6 hown hK hP 0 rfl rfl 20 (by decide) (hts (.fieldLink RX6 57 "LeftIsAgreedOnModel" "sizes" "[I") (List.mem_of_getElem? (i := 3) rfl)) (fun _ h9 => h9) rfl dX6_element_28 ?_
      refine lv_iload_n hx hb dX6_element_31 rfl (lv_at hl 1 rfl) ?_
      obtain ⟨hz32, h⟩ := chk_of h
      refine ld_i X hP 3 rfl (inb.vp hz32) (v := (c_sizes (l1).toNatClampNeg)) rfl dX6_element_32 ?_
      refine lv_iconst (v := (1 : Int32)) hx hb dX6_element_33 (by decide) ?_
      refine lv_isub hx hb dX6_element_34 ?_
      refine lv_i2l (v := (((c_sizes (l1).toNatClampNeg) - (1 : Int32)).toInt64)) hx hb dX6_element_35 rfl ?_
      obtain ⟨v3, hv3, h⟩ := bind_of h
      refine after_i X (run_S X (c_X6_isIn l E (l2.toInt64) (0 : Int64) (((c_sizes (l1).toNatClampNeg) - (1 : Int32)).toInt64) H.size v3 hv3) (va_cwS 3 hts gX6_element_X6_isIn rfl rfl rfl hd_X6_isIn ⟨(Nat.le_of_ble_eq_true rfl), (Nat.le_of_ble_eq_true rfl)⟩) hP hD hS [] rfl rfl hl.1 (rest := []) rfl rfl (Nat.le_of_ble_eq_true rfl) dX6_element_36) hP hD hS [] [0, 1, 2, 3] [0, 1, 2, 3] rfl rfl rfl (by decide) rfl (ws1 := (W_X6_element E a_t a_elements a_holds a_sizes a_refused a_now a_kept a_mind a_tape a_words a_wCell a_wFaces a_wTurns a_wSign a_wBy a_wFell a_telling a_moved a_above a_out a_first c_t c_elements c_holds c_sizes)) rfl (fun H locs hP hD hS => ?_)
      refine lv_if_eq (tgt := 56) hx hb dX6_element_39 (by decide) (fun hc39 => ?_) (fun hc39 => ?_)
      · have h := if_t h hc39
        exact w_X6_element_b56 X a_t a_elements a_holds a_sizes a_refused a_now a_kept a_mind a_tape a_words a_wCell a_wFaces a_wTurns a_wSign a_wBy a_wFell a_telling a_moved a_above a_out a_first c_t c_elements c_holds c_sizes res _ _ _ h hP hD hS (lv_sub hl [] rfl)
      · have h := if_f h hc39
        refine lv_aload_n hx hb dX6_element_42 rfl (lv_at hl 0 rfl) ?_
        refine va_get (D := E.1) (ci := 6) (v := .ref a_elements) (C := RX6) (T := TX6) (N := 26) hx hb hts iX6_element_X6 hown hK hP 0 rfl rfl 21 (by decide) (hts (.fieldLink RX6 60 "LeftIsAgreedOnModel" "elements" "[J") (List.mem_of_getElem? (i := 4) rfl)) (fun _ h9 => h9) rfl dX6_element_43 ?_
        refine lv_bipush (v := (40 : Int32)) hx hb dX6_element_46 (by decide) ?_
        refine lv_iload_n hx hb dX6_element_48 rfl (lv_at hl 1 rfl) ?_
        refine lv_imul hx hb dX6_element_49 ?_
        refine lv_iload_n hx hb dX6_element_50 rfl (lv_at hl 2 rfl) ?_
        refine lv_iadd hx hb dX6_element_51 ?_
        obtain ⟨hz52, h⟩ := chk_of h
        refine ld_l X hP 1 rfl (inb.vp hz52) (v := (c_elements ((((40 : Int32) * l1) + l2)).toNatClampNeg)) rfl dX6_element_52 ?_
        refine lv_goto (tgt := 57) hx hb dX6_element_53 (by decide) ?_
        obtain rfl := Option.some.inj h
        exact ret_l X dX6_element_57 hP hD hS rfl
end
set_option maxRecDepth 100000 in
theorem c_X6_element (l : Launch) (E : Env0) (a_t : Nat) (a_elements : Nat) (a_holds : Nat) (a_sizes : Nat) (a_refused : Nat) (a_now : Nat) (a_kept : Nat) (a_mind : Nat) (a_tape : Nat) (a_words : Nat) (a_wCell : Nat) (a_wFaces : Nat) (a_wTurns : Nat) (a_wSign : Nat) (a_wBy : Nat) (a_wFell : Nat) (a_telling : Nat) (a_moved : Nat) (a_above : Nat) (a_out : Nat) (a_first : Nat) (l1 : Int32) (l2 : Int32) (c_t : Nat → Int32) (c_elements : Nat → Int64) (c_holds : Nat → Int32) (c_sizes : Nat → Int32) (sz : Nat) (res : Int64) (h : f_X6_element l1 l2 c_t c_elements c_holds c_sizes = some res) : Met l yX6_element wsX6_element r_X6_element (cPre E [.ref a_t, .int l1, .int l2] (W_X6_element E a_t a_elements a_holds a_sizes a_refused a_now a_kept a_mind a_tape a_words a_wCell a_wFaces a_wTurns a_wSign a_wBy a_wFell a_telling a_moved a_above a_out a_first c_t c_elements c_holds c_sizes) sz) (qL E (va_A (W_X6_element E a_t a_elements a_holds a_sizes a_refused a_now a_kept a_mind a_tape a_words a_wCell a_wFaces a_wTurns a_wSign a_wBy a_wFell a_telling a_moved a_above a_out a_first c_t c_elements c_holds c_sizes) sz) res (W_X6_element E a_t a_elements a_holds a_sizes a_refused a_now a_kept a_mind a_tape a_words a_wCell a_wFaces a_wTurns a_wSign a_wBy a_wFell a_telling a_moved a_above a_out a_first c_t c_elements c_holds c_sizes)) 0 0 (va_A (W_X6_element E a_t a_elements a_holds a_sizes a_refused a_now a_kept a_mind a_tape a_words a_wCell a_wFaces a_wTurns a_wSign a_wBy a_wFell a_telling a_moved a_above a_out a_first c_t c_elements c_holds c_sizes) sz) :=
  met_of (Qc := fun A => qL E A res (W_X6_element E a_t a_elements a_holds a_sizes a_refused a_now a_kept a_mind a_tape a_words a_wCell a_wFaces a_wTurns a_wSign a_wBy a_wFell a_telling a_moved a_above a_out a_first c_t c_elements c_holds c_sizes)) (by decide) rfl (Nat.le_of_ble_eq_true rfl) (fun p e s m args below meth c X hP hD hS ls hl => w_X6_element X a_t a_elements a_holds a_sizes a_refused a_now a_kept a_mind a_tape a_words a_wCell a_wFaces a_wTurns a_wSign a_wBy a_wFell a_telling a_moved a_above a_out a_first c_t c_elements c_holds c_sizes res l1 l2 ls _ _ h hP hD hS hl)
-- ===== X6_holds
abbrev W_X6_holds (E : Env0) (a_t : Nat) (a_holds : Nat) (a_refused : Nat) (a_now : Nat) (a_kept : Nat) (a_mind : Nat) (a_tape : Nat) (a_words : Nat) (a_wCell : Nat) (a_wFaces : Nat) (a_wTurns : Nat) (a_wSign : Nat) (a_wBy : Nat) (a_wFell : Nat) (a_telling : Nat) (a_sizes : Nat) (a_elements : Nat) (a_moved : Nat) (a_above : Nat) (a_out : Nat) (a_first : Nat) (c_t : Nat → Int32) (c_holds : Nat → Int32) : va_W := [(a_t, .inr (6, [.ref a_refused, .ref a_now, .ref a_kept, .ref a_mind, .int (c_t 4), .ref a_tape, .int (c_t 6), .int (c_t 7), .int (c_t 8), .int (c_t 9), .ref a_words, .ref a_wCell, .ref a_wFaces, .ref a_wTurns, .ref a_wSign, .ref a_wBy, .ref a_wFell, .int (c_t 17), .ref a_telling, .ref a_holds, .ref a_sizes, .ref a_elements, .ref a_moved, .ref a_above, .ref a_out, .ref a_first])), (a_holds, .inl (eI E, 8, .inl c_holds))]
abbrev r_X6_holds : Room := { frames := 2, cells := 0, slots := 0, locals := 45 }
theorem hd_X6_holds : yX6_holds.cls ≠ "java/lang/invoke/MethodHandle" ∧ yX6_holds.cls ≠ "java/lang/invoke/VarHandle" ∧ (parseMethodDescriptor yX6_holds.desc).map (fun d => d.parameters.length) = some 1 := by decide +kernel
theorem hV_X6_holds : yX6_holds.cls = RX6 ∧ yX6_holds.cls ≠ "java/lang/invoke/MethodHandle" ∧ yX6_holds.cls ≠ "java/lang/invoke/VarHandle" ∧ (parseMethodDescriptor yX6_holds.desc).map (fun d => d.parameters.length) = some 1 := ⟨rfl, hd_X6_holds⟩
theorem iX6_holds_X6 : ∀ w ∈ wsX60, w ∈ wsX6_holds := fun _ h => List.mem_cons_of_mem _ (List.mem_append_right _ (h))
section
variable {p : Program} {l : Launch} {e : Env} {s : State} {m : MethodId} {args : Array Value} {below : List Frame} {meth : Method} {c : Code} {E : Env0} {A : Nat → Prop}
set_option maxRecDepth 100000 in
set_option maxHeartbeats 4000000 in
theorem w_X6_holds (X : Ctx p m meth c cX6_holds 2 ((some .int)) s args wsX6_holds RX6 E A) (a_t : Nat) (a_holds : Nat) (a_refused : Nat) (a_now : Nat) (a_kept : Nat) (a_mind : Nat) (a_tape : Nat) (a_words : Nat) (a_wCell : Nat) (a_wFaces : Nat) (a_wTurns : Nat) (a_wSign : Nat) (a_wBy : Nat) (a_wFell : Nat) (a_telling : Nat) (a_sizes : Nat) (a_elements : Nat) (a_moved : Nat) (a_above : Nat) (a_out : Nat) (a_first : Nat) (c_t : Nat → Int32) (c_holds : Nat → Int32) (res : Int32) (l1 : Int32) (ls : Array Slot) (H : Heap) (locs : List Loc) (h : f_X6_holds l1 c_t c_holds = some res) (hP : va_P E.1 vwCl (W_X6_holds E a_t a_holds a_refused a_now a_kept a_mind a_tape a_words a_wCell a_wFaces a_wTurns a_wSign a_wBy a_wFell a_telling a_sizes a_elements a_moved a_above a_out a_first c_t c_holds) H) (hD : va_D A (W_X6_holds E a_t a_holds a_refused a_now a_kept a_mind a_tape a_words a_wCell a_wFaces a_wTurns a_wSign a_wBy a_wFell a_telling a_sizes a_elements a_moved a_above a_out a_first c_t c_holds)) (hS : va_S A s.heap H locs) (hl : lv_has ls 2 [(0, .ref a_t), (1, .int l1)]) : W p l e r_X6_holds s m args below meth c H locs 0 0 (MQ below (qI E A res (W_X6_holds E a_t a_holds a_refused a_now a_kept a_mind a_tape a_words a_wCell a_wFaces a_wTurns a_wSign a_wBy a_wFell a_telling a_sizes a_elements a_moved a_above a_out a_first c_t c_holds)) args s 0 0 A) (F0 m 0 ls []) := by
  obtain ⟨hx, hb, hml, hr, hlk, hown, hts, hG, hA⟩ := id X
  have hK := hG.1
  have hN := hG.2.1
  unfold f_X6_holds at h
  refine lv_iload_n hx hb dX6_holds_0 rfl (lv_at hl 1 rfl) ?_
  obtain ⟨v1, hv1, h⟩ := bind_of h
  refine after_i X (run_S X (c_X6_isShelf l E l1 H.size v1 hv1) (va_cwS 1 hts gX6_holds_X6_isShelf rfl rfl rfl hd_X6_isShelf ⟨(Nat.le_of_ble_eq_true rfl), (Nat.le_of_ble_eq_true rfl)⟩) hP hD hS [] rfl rfl hl.1 (rest := []) rfl rfl (Nat.le_of_ble_eq_true rfl) dX6_holds_1) hP hD hS [] [0, 1] [0, 1] rfl rfl rfl (by decide) rfl (ws1 := (W_X6_holds E a_t a_holds a_refused a_now a_kept a_mind a_tape a_words a_wCell a_wFaces a_wTurns a_wSign a_wBy a_wFell a_telling a_sizes a_elements a_moved a_above a_out a_first c_t c_holds)) rfl (fun H locs hP hD hS => ?_)
  refine lv_if_eq (tgt := 16) hx hb dX6_holds_4 (by decide) (fun hc4 => ?_) (fun hc4 => ?_)
  · have h := if_t h hc4
    refine lv_iconst (v := (-1 : Int32)) hx hb dX6_holds_16 (by decide) ?_
    obtain rfl := Option.some.inj h
    exact ret_i X dX6_holds_17 hP hD hS rfl
  · have h := if_f h hc4
    refine lv_aload_n hx hb dX6_holds_7 rfl (lv_at hl 0 rfl) ?_
    refine va_get (D := E.1) (ci := 6) (v := .ref a_holds) (C := RX6) (T := TX6) (N := 26) hx hb hts iX6_holds_X6 hown hK hP 0 rfl rfl 19 (by decide) (hts (.fieldLink RX6 54 "LeftIsAgreedOnModel" "holds" "[I") (List.mem_of_getElem? (i := 1) rfl)) (fun _ h9 => h9) rfl dX6_holds_8 ?_
    refine lv_iload_n hx hb dX6_holds_11 rfl (lv_at hl 1 rfl) ?_
    obtain ⟨hz12, h⟩ := chk_of h
    refine ld_i X hP 1 rfl (inb.vp hz12) (v := (c_holds (l1).toNatClampNeg)) rfl dX6_holds_12 ?_
    refine lv_goto (tgt := 17) hx hb dX6_holds_13 (by decide) ?_
    obtain rfl := Option.some.inj h
    exact ret_i X dX6_holds_17 hP hD hS rfl
end
set_option maxRecDepth 100000 in
theorem c_X6_holds (l : Launch) (E : Env0) (a_t : Nat) (a_holds : Nat) (a_refused : Nat) (a_now : Nat) (a_kept : Nat) (a_mind : Nat) (a_tape : Nat) (a_words : Nat) (a_wCell : Nat) (a_wFaces : Nat) (a_wTurns : Nat) (a_wSign : Nat) (a_wBy : Nat) (a_wFell : Nat) (a_telling : Nat) (a_sizes : Nat) (a_elements : Nat) (a_moved : Nat) (a_above : Nat) (a_out : Nat) (a_first : Nat) (l1 : Int32) (c_t : Nat → Int32) (c_holds : Nat → Int32) (sz : Nat) (res : Int32) (h : f_X6_holds l1 c_t c_holds = some res) : Met l yX6_holds wsX6_holds r_X6_holds (cPre E [.ref a_t, .int l1] (W_X6_holds E a_t a_holds a_refused a_now a_kept a_mind a_tape a_words a_wCell a_wFaces a_wTurns a_wSign a_wBy a_wFell a_telling a_sizes a_elements a_moved a_above a_out a_first c_t c_holds) sz) (qI E (va_A (W_X6_holds E a_t a_holds a_refused a_now a_kept a_mind a_tape a_words a_wCell a_wFaces a_wTurns a_wSign a_wBy a_wFell a_telling a_sizes a_elements a_moved a_above a_out a_first c_t c_holds) sz) res (W_X6_holds E a_t a_holds a_refused a_now a_kept a_mind a_tape a_words a_wCell a_wFaces a_wTurns a_wSign a_wBy a_wFell a_telling a_sizes a_elements a_moved a_above a_out a_first c_t c_holds)) 0 0 (va_A (W_X6_holds E a_t a_holds a_refused a_now a_kept a_mind a_tape a_words a_wCell a_wFaces a_wTurns a_wSign a_wBy a_wFell a_telling a_sizes a_elements a_moved a_above a_out a_first c_t c_holds) sz) :=
  met_of (Qc := fun A => qI E A res (W_X6_holds E a_t a_holds a_refused a_now a_kept a_mind a_tape a_words a_wCell a_wFaces a_wTurns a_wSign a_wBy a_wFell a_telling a_sizes a_elements a_moved a_above a_out a_first c_t c_holds)) (by decide) rfl (Nat.le_of_ble_eq_true rfl) (fun p e s m args below meth c X hP hD hS ls hl => w_X6_holds X a_t a_holds a_refused a_now a_kept a_mind a_tape a_words a_wCell a_wFaces a_wTurns a_wSign a_wBy a_wFell a_telling a_sizes a_elements a_moved a_above a_out a_first c_t c_holds res l1 ls _ _ h hP hD hS hl)
