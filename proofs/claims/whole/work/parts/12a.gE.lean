-- ===== X6_isIn
noncomputable abbrev W_X6_isIn (E : Env0) : va_W := []
noncomputable abbrev r_X6_isIn : Room := { frames := 0, cells := 0, slots := 0, locals := 0 }
theorem hd_X6_isIn : yX6_isIn.cls ≠ "java/lang/invoke/MethodHandle" ∧ yX6_isIn.cls ≠ "java/lang/invoke/VarHandle" ∧ (parseMethodDescriptor yX6_isIn.desc).map (fun d => d.parameters.length) = some 3 := by decide +kernel
section
variable {p : Program} {l : Launch} {e : Env} {s : State} {m : MethodId} {args : Array Value} {below : List Frame} {meth : Method} {c : Code} {E : Env0} {A : Nat → Prop}
set_option maxRecDepth 100000 in
set_option maxHeartbeats 4000000 in
theorem w_X6_isIn (X : Ctx p m meth c cX6_isIn 6 ((some .boolean)) s args wsX6_isIn RX6 E A) (res : Int32) (l0 : Int64) (l2 : Int64) (l4 : Int64) (ls : Array Slot) (H : Heap) (locs : List Loc) (h : f_X6_isIn l0 l2 l4 = some res) (hP : va_P E.1 vwCl (W_X6_isIn E) H) (hD : va_D A (W_X6_isIn E)) (hS : va_S A s.heap H locs) (hl : lv_has ls 6 [(0, .long l0), (2, .long l2), (4, .long l4)]) : W p l e r_X6_isIn s m args below meth c H locs 0 0 (MQ below (qI E A res (W_X6_isIn E)) args s 0 0 A) (F0 m 0 ls []) := by
  obtain ⟨hx, hb, hml, hr, hlk, hown, hts, hG, hA⟩ := id X
  have hK := hG.1
  have hN := hG.2.1
  unfold f_X6_isIn at h
  refine lv_lload_n hx hb dX6_isIn_0 rfl (lv_at hl 0 rfl) ?_
  refine lv_lload_n hx hb dX6_isIn_1 rfl (lv_at hl 1 rfl) ?_
  refine W.lcmp hx hb dX6_isIn_2 ?_
  refine lv_if_lt (tgt := 17) hx hb dX6_isIn_3 (by decide) (fun hc3 => ?_) (fun hc3 => ?_)
  · have h := if_t h hc3
    refine lv_iconst (v := (0 : Int32)) hx hb dX6_isIn_17 (by decide) ?_
    obtain rfl := Option.some.inj h
    exact ret_z X dX6_isIn_18 (by decide) hP hD hS rfl
  · have h := if_f h hc3
    refine lv_lload_n hx hb dX6_isIn_6 rfl (lv_at hl 0 rfl) ?_
    refine lv_lload hx hb dX6_isIn_7 (lv_at hl 2 rfl) ?_
    refine W.lcmp hx hb dX6_isIn_9 ?_
    refine lv_if_gt (tgt := 17) hx hb dX6_isIn_10 (by decide) (fun hc10 => ?_) (fun hc10 => ?_)
    · have h := if_t h hc10
      refine lv_iconst (v := (0 : Int32)) hx hb dX6_isIn_17 (by decide) ?_
      obtain rfl := Option.some.inj h
      exact ret_z X dX6_isIn_18 (by decide) hP hD hS rfl
    · have h := if_f h hc10
      refine lv_iconst (v := (1 : Int32)) hx hb dX6_isIn_13 (by decide) ?_
      refine lv_goto (tgt := 18) hx hb dX6_isIn_14 (by decide) ?_
      obtain rfl := Option.some.inj h
      exact ret_z X dX6_isIn_18 (by decide) hP hD hS rfl
end
set_option maxRecDepth 100000 in
theorem c_X6_isIn (l : Launch) (E : Env0) (l0 : Int64) (l2 : Int64) (l4 : Int64) (sz : Nat) (res : Int32) (h : f_X6_isIn l0 l2 l4 = some res) : Met l yX6_isIn wsX6_isIn r_X6_isIn (cPre E [.long l0, .long l2, .long l4] (W_X6_isIn E) sz) (qI E (va_A (W_X6_isIn E) sz) res (W_X6_isIn E)) 0 0 (va_A (W_X6_isIn E) sz) :=
  met_of (Qc := fun A => qI E A res (W_X6_isIn E)) (by decide) rfl (Nat.le_of_ble_eq_true rfl) (fun p e s m args below meth c X hP hD hS ls hl => w_X6_isIn X res l0 l2 l4 ls _ _ h hP hD hS hl)
-- ===== X6_refuse
noncomputable abbrev W_X6_refuse (E : Env0) (a_t : Nat) (a_refused : Nat) (a_now : Nat) (a_kept : Nat) (a_mind : Nat) (a_tape : Nat) (a_words : Nat) (a_wCell : Nat) (a_wFaces : Nat) (a_wTurns : Nat) (a_wSign : Nat) (a_wBy : Nat) (a_wFell : Nat) (a_telling : Nat) (a_holds : Nat) (a_sizes : Nat) (a_elements : Nat) (a_moved : Nat) (a_above : Nat) (a_out : Nat) (a_first : Nat) (c_t : Nat → Int32) (c_refused : Nat → Int32) : va_W := [(a_t, .inr (6, [.ref a_refused, .ref a_now, .ref a_kept, .ref a_mind, .int (c_t 4), .ref a_tape, .int (c_t 6), .int (c_t 7), .int (c_t 8), .int (c_t 9), .ref a_words, .ref a_wCell, .ref a_wFaces, .ref a_wTurns, .ref a_wSign, .ref a_wBy, .ref a_wFell, .int (c_t 17), .ref a_telling, .ref a_holds, .ref a_sizes, .ref a_elements, .ref a_moved, .ref a_above, .ref a_out, .ref a_first])), (a_refused, .inl (eI E, 7, .inl c_refused))]
noncomputable abbrev r_X6_refuse : Room := { frames := 0, cells := 0, slots := 0, locals := 0 }
theorem hd_X6_refuse : yX6_refuse.cls ≠ "java/lang/invoke/MethodHandle" ∧ yX6_refuse.cls ≠ "java/lang/invoke/VarHandle" ∧ (parseMethodDescriptor yX6_refuse.desc).map (fun d => d.parameters.length) = some 1 := by decide +kernel
theorem hV_X6_refuse : yX6_refuse.cls = RX6 ∧ yX6_refuse.cls ≠ "java/lang/invoke/MethodHandle" ∧ yX6_refuse.cls ≠ "java/lang/invoke/VarHandle" ∧ (parseMethodDescriptor yX6_refuse.desc).map (fun d => d.parameters.length) = some 1 := ⟨rfl, hd_X6_refuse⟩
theorem iX6_refuse_X6 : ∀ w ∈ wsX60, w ∈ wsX6_refuse := fun _ h => List.mem_cons_of_mem _ (List.mem_append_right _ (h))
section
variable {p : Program} {l : Launch} {e : Env} {s : State} {m : MethodId} {args : Array Value} {below : List Frame} {meth : Method} {c : Code} {E : Env0} {A : Nat → Prop}
set_option maxRecDepth 100000 in
set_option maxHeartbeats 4000000 in
theorem w_X6_refuse (X : Ctx p m meth c cX6_refuse 2 ((some .int)) s args wsX6_refuse RX6 E A) (a_t : Nat) (a_refused : Nat) (a_now : Nat) (a_kept : Nat) (a_mind : Nat) (a_tape : Nat) (a_words : Nat) (a_wCell : Nat) (a_wFaces : Nat) (a_wTurns : Nat) (a_wSign : Nat) (a_wBy : Nat) (a_wFell : Nat) (a_telling : Nat) (a_holds : Nat) (a_sizes : Nat) (a_elements : Nat) (a_moved : Nat) (a_above : Nat) (a_out : Nat) (a_first : Nat) (c_t : Nat → Int32) (res : Int32 × (Nat → Int32)) (c_refused : Nat → Int32) (l1 : Int32) (ls : Array Slot) (H : Heap) (locs : List Loc) (h : f_X6_refuse l1 c_t c_refused = some res) (hP : va_P E.1 vwCl (W_X6_refuse E a_t a_refused a_now a_kept a_mind a_tape a_words a_wCell a_wFaces a_wTurns a_wSign a_wBy a_wFell a_telling a_holds a_sizes a_elements a_moved a_above a_out a_first c_t c_refused) H) (hD : va_D A (W_X6_refuse E a_t a_refused a_now a_kept a_mind a_tape a_words a_wCell a_wFaces a_wTurns a_wSign a_wBy a_wFell a_telling a_holds a_sizes a_elements a_moved a_above a_out a_first c_t c_refused)) (hS : va_S A s.heap H locs) (hl : lv_has ls 2 [(0, .ref a_t), (1, .int l1)]) : W p l e r_X6_refuse s m args below meth c H locs 0 0 (MQ below (qI E A (res.1) (W_X6_refuse E a_t a_refused a_now a_kept a_mind a_tape a_words a_wCell a_wFaces a_wTurns a_wSign a_wBy a_wFell a_telling a_holds a_sizes a_elements a_moved a_above a_out a_first c_t (res.2))) args s 0 0 A) (F0 m 0 ls []) := by
  obtain ⟨hx, hb, hml, hr, hlk, hown, hts, hG, hA⟩ := id X
  have hK := hG.1
  have hN := hG.2.1
  unfold f_X6_refuse at h
  refine lv_aload_n hx hb dX6_refuse_0 rfl (lv_at hl 0 rfl) ?_
  refine va_get (D := E.1) (ci := 6) (v := .ref a_refused) (C := RX6) (T := TX6) (N := 26) hx hb hts iX6_refuse_X6 hown hK hP 0 rfl rfl 0 (by decide) (hts (.fieldLink RX6 7 "LeftIsAgreedOnModel" "refused" "[I") (List.mem_of_getElem? (i := 1) rfl)) (fun _ h9 => h9) rfl dX6_refuse_1 ?_
  refine lv_iload_n hx hb dX6_refuse_4 rfl (lv_at hl 1 rfl) ?_
  refine lv_ineg hx hb dX6_refuse_5 ?_
  refine lv_dup2_11 hx hb dX6_refuse_6 rfl rfl ?_
  obtain ⟨hz7, h⟩ := chk_of h
  refine ld_i X hP 1 rfl (inb.vp hz7) (v := (c_refused ((-l1)).toNatClampNeg)) rfl dX6_refuse_7 ?_
  refine lv_iconst (v := (1 : Int32)) hx hb dX6_refuse_8 (by decide) ?_
  refine lv_iadd hx hb dX6_refuse_9 ?_
  obtain ⟨hz10, h⟩ := chk_of h
  refine st_i X hP hD hS 1 rfl (inb.vp hz10) (k := ((-l1)).toNatClampNeg) rfl (ws1 := (W_X6_refuse E a_t a_refused a_now a_kept a_mind a_tape a_words a_wCell a_wFaces a_wTurns a_wSign a_wBy a_wFell a_telling a_holds a_sizes a_elements a_moved a_above a_out a_first c_t (upd c_refused (((-l1)).toNatClampNeg) ((c_refused ((-l1)).toNatClampNeg) + (1 : Int32))))) rfl dX6_refuse_10 (fun H locs hP hD hS => ?_)
  refine lv_iload_n hx hb dX6_refuse_11 rfl (lv_at hl 1 rfl) ?_
  obtain rfl := Option.some.inj h
  exact ret_i X dX6_refuse_12 hP hD hS rfl
end
set_option maxRecDepth 100000 in
theorem c_X6_refuse (l : Launch) (E : Env0) (a_t : Nat) (a_refused : Nat) (a_now : Nat) (a_kept : Nat) (a_mind : Nat) (a_tape : Nat) (a_words : Nat) (a_wCell : Nat) (a_wFaces : Nat) (a_wTurns : Nat) (a_wSign : Nat) (a_wBy : Nat) (a_wFell : Nat) (a_telling : Nat) (a_holds : Nat) (a_sizes : Nat) (a_elements : Nat) (a_moved : Nat) (a_above : Nat) (a_out : Nat) (a_first : Nat) (l1 : Int32) (c_t : Nat → Int32) (c_refused : Nat → Int32) (sz : Nat) (res : Int32 × (Nat → Int32)) (h : f_X6_refuse l1 c_t c_refused = some res) : Met l yX6_refuse wsX6_refuse r_X6_refuse (cPre E [.ref a_t, .int l1] (W_X6_refuse E a_t a_refused a_now a_kept a_mind a_tape a_words a_wCell a_wFaces a_wTurns a_wSign a_wBy a_wFell a_telling a_holds a_sizes a_elements a_moved a_above a_out a_first c_t c_refused) sz) (qI E (va_A (W_X6_refuse E a_t a_refused a_now a_kept a_mind a_tape a_words a_wCell a_wFaces a_wTurns a_wSign a_wBy a_wFell a_telling a_holds a_sizes a_elements a_moved a_above a_out a_first c_t c_refused) sz) (res.1) (W_X6_refuse E a_t a_refused a_now a_kept a_mind a_tape a_words a_wCell a_wFaces a_wTurns a_wSign a_wBy a_wFell a_telling a_holds a_sizes a_elements a_moved a_above a_out a_first c_t (res.2))) 0 0 (va_A (W_X6_refuse E a_t a_refused a_now a_kept a_mind a_tape a_words a_wCell a_wFaces a_wTurns a_wSign a_wBy a_wFell a_telling a_holds a_sizes a_elements a_moved a_above a_out a_first c_t c_refused) sz) :=
  met_of (Qc := fun A => qI E A (res.1) (W_X6_refuse E a_t a_refused a_now a_kept a_mind a_tape a_words a_wCell a_wFaces a_wTurns a_wSign a_wBy a_wFell a_telling a_holds a_sizes a_elements a_moved a_above a_out a_first c_t (res.2))) (by decide) rfl (Nat.le_of_ble_eq_true rfl) (fun p e s m args below meth c X hP hD hS ls hl => w_X6_refuse X a_t a_refused a_now a_kept a_mind a_tape a_words a_wCell a_wFaces a_wTurns a_wSign a_wBy a_wFell a_telling a_holds a_sizes a_elements a_moved a_above a_out a_first c_t res c_refused l1 ls _ _ h hP hD hS hl)
-- ===== X6_move
noncomputable abbrev W_X6_move (E : Env0) (a_p0 : Nat) (a_p1 : Nat) (c_p0 : Nat → Int32) (c_p1 : Nat → Int32) : va_W := [(a_p0, .inl (eI E, 97, .inl c_p0)), (a_p1, .inl (eI E, 97, .inl c_p1))]
noncomputable abbrev r_X6_move : Room := { frames := 0, cells := 0, slots := 0, locals := 0 }
theorem hd_X6_move : yX6_move.cls ≠ "java/lang/invoke/MethodHandle" ∧ yX6_move.cls ≠ "java/lang/invoke/VarHandle" ∧ (parseMethodDescriptor yX6_move.desc).map (fun d => d.parameters.length) = some 2 := by decide +kernel
section
variable {p : Program} {l : Launch} {e : Env} {s : State} {m : MethodId} {args : Array Value} {below : List Frame} {meth : Method} {c : Code} {E : Env0} {A : Nat → Prop}
set_option maxRecDepth 100000 in
set_option maxHeartbeats 4000000 in
theorem w_X6_move_b2 (X : Ctx p m meth c cX6_move 3 none s args wsX6_move RX6 E A) (a_p0 : Nat) (a_p1 : Nat) (c_p0 : Nat → Int32) (res : (Nat → Int32)) : ∀ (n : Nat) (c_p1 : Nat → Int32) (l2 : Int32) (ls : Array Slot) (H : Heap) (locs : List Loc), f_X6_move_b2 c_p0 n c_p1 l2 = some res → va_P E.1 vwCl (W_X6_move E a_p0 a_p1 c_p0 c_p1) H → va_D A (W_X6_move E a_p0 a_p1 c_p0 c_p1) → va_S A s.heap H locs → lv_has ls 3 [(0, .ref a_p0), (1, .ref a_p1), (2, .int l2)] → W p l e r_X6_move s m args below meth c H locs 0 0 (MQ below (qV E A (W_X6_move E a_p0 a_p1 c_p0 res)) args s 0 0 A) (F0 m 2 ls []) := by
  obtain ⟨hx, hb, hml, hr, hlk, hown, hts, hG, hA⟩ := id X
  have hK := hG.1
  have hN := hG.2.1
  intro n
  induction n with
  | zero =>
    intro c_p1 l2 ls H locs h
    exact absurd (show (none : Option ((Nat → Int32))) = some res from h) (by intro q; cases q)
  | succ n ih =>
    intro c_p1 l2 ls H locs h hP hD hS hl
    rw [f_X6_move_b2] at h
    refine lv_iload_n hx hb dX6_move_2 rfl (lv_at hl 2 rfl) ?_
    refine lv_bipush (v := (97 : Int32)) hx hb dX6_move_3 (by decide) ?_
    refine lv_icmp_ge (tgt := 20) hx hb dX6_move_5 (by decide) (fun hc5 => ?_) (fun hc5 => ?_)
    · have h := if_t h hc5
      obtain rfl := Option.some.inj h
      exact ret_v X dX6_move_20 hP hD hS
    · have h := if_f h hc5
      refine lv_aload_n hx hb dX6_move_8 rfl (lv_at hl 1 rfl) ?_
      refine lv_iload_n hx hb dX6_move_9 rfl (lv_at hl 2 rfl) ?_
      refine lv_aload_n hx hb dX6_move_10 rfl (lv_at hl 0 rfl) ?_
      refine lv_iload_n hx hb dX6_move_11 rfl (lv_at hl 2 rfl) ?_
      obtain ⟨hz12, h⟩ := chk_of h
      refine ld_i X hP 0 rfl (inb.vp hz12) (v := (c_p0 (l2).toNatClampNeg)) rfl dX6_move_12 ?_
      obtain ⟨hz13, h⟩ := chk_of h
      refine st_i X hP hD hS 1 rfl (inb.vp hz13) (k := (l2).toNatClampNeg) rfl (ws1 := (W_X6_move E a_p0 a_p1 c_p0 (upd c_p1 ((l2).toNatClampNeg) (c_p0 (l2).toNatClampNeg)))) rfl dX6_move_13 (fun H locs hP hD hS => ?_)
      refine lv_iinc (v := (l2 + (1 : Int32))) (lv' := [(2, .int (l2 + (1 : Int32))), (0, .ref a_p0), (1, .ref a_p1)]) hx hb dX6_move_14 hl (k := 2) rfl rfl (by decide) rfl (fun ls hl => ?_)
      refine lv_goto (tgt := 2) hx hb dX6_move_17 (by decide) ?_
      exact ih (upd c_p1 ((l2).toNatClampNeg) (c_p0 (l2).toNatClampNeg)) (l2 + (1 : Int32)) _ _ _ h hP hD hS (lv_sub hl [1, 2, 0] rfl)
set_option maxRecDepth 100000 in
set_option maxHeartbeats 4000000 in
theorem w_X6_move (X : Ctx p m meth c cX6_move 3 none s args wsX6_move RX6 E A) (a_p0 : Nat) (a_p1 : Nat) (c_p0 : Nat → Int32) (res : (Nat → Int32)) (c_p1 : Nat → Int32) (ls : Array Slot) (H : Heap) (locs : List Loc) (h : f_X6_move c_p0 c_p1 = some res) (hP : va_P E.1 vwCl (W_X6_move E a_p0 a_p1 c_p0 c_p1) H) (hD : va_D A (W_X6_move E a_p0 a_p1 c_p0 c_p1)) (hS : va_S A s.heap H locs) (hl : lv_has ls 3 [(0, .ref a_p0), (1, .ref a_p1)]) : W p l e r_X6_move s m args below meth c H locs 0 0 (MQ below (qV E A (W_X6_move E a_p0 a_p1 c_p0 res)) args s 0 0 A) (F0 m 0 ls []) := by
  obtain ⟨hx, hb, hml, hr, hlk, hown, hts, hG, hA⟩ := id X
  have hK := hG.1
  have hN := hG.2.1
  unfold f_X6_move at h
  refine lv_iconst (v := (0 : Int32)) hx hb dX6_move_0 (by decide) ?_
  refine lv_istore_n (lv' := [(2, .int (0 : Int32)), (0, .ref a_p0), (1, .ref a_p1)]) hx hb dX6_move_1 rfl hl (by decide) rfl (fun ls hl => ?_)
  exact w_X6_move_b2 X a_p0 a_p1 c_p0 res FU c_p1 (0 : Int32) _ _ _ h hP hD hS (lv_sub hl [1, 2, 0] rfl)
end
set_option maxRecDepth 100000 in
theorem c_X6_move (l : Launch) (E : Env0) (a_p0 : Nat) (a_p1 : Nat) (c_p0 : Nat → Int32) (c_p1 : Nat → Int32) (sz : Nat) (res : (Nat → Int32)) (h : f_X6_move c_p0 c_p1 = some res) : Met l yX6_move wsX6_move r_X6_move (cPre E [.ref a_p0, .ref a_p1] (W_X6_move E a_p0 a_p1 c_p0 c_p1) sz) (qV E (va_A (W_X6_move E a_p0 a_p1 c_p0 c_p1) sz) (W_X6_move E a_p0 a_p1 c_p0 res)) 0 0 (va_A (W_X6_move E a_p0 a_p1 c_p0 c_p1) sz) :=
  met_of (Qc := fun A => qV E A (W_X6_move E a_p0 a_p1 c_p0 res)) (by decide) rfl (Nat.le_of_ble_eq_true rfl) (fun p e s m args below meth c X hP hD hS ls hl => w_X6_move X a_p0 a_p1 c_p0 res c_p1 ls _ _ h hP hD hS hl)
-- ===== X6_many
noncomputable abbrev W_X6_many (E : Env0) (a_t : Nat) (a_now : Nat) (a_refused : Nat) (a_kept : Nat) (a_mind : Nat) (a_tape : Nat) (a_words : Nat) (a_wCell : Nat) (a_wFaces : Nat) (a_wTurns : Nat) (a_wSign : Nat) (a_wBy : Nat) (a_wFell : Nat) (a_telling : Nat) (a_holds : Nat) (a_sizes : Nat) (a_elements : Nat) (a_moved : Nat) (a_above : Nat) (a_out : Nat) (a_first : Nat) (c_t : Nat → Int32) (c_now : Nat → Int32) : va_W := [(a_t, .inr (6, [.ref a_refused, .ref a_now, .ref a_kept, .ref a_mind, .int (c_t 4), .ref a_tape, .int (c_t 6), .int (c_t 7), .int (c_t 8), .int (c_t 9), .ref a_words, .ref a_wCell, .ref a_wFaces, .ref a_wTurns, .ref a_wSign, .ref a_wBy, .ref a_wFell, .int (c_t 17), .ref a_telling, .ref a_holds, .ref a_sizes, .ref a_elements, .ref a_moved, .ref a_above, .ref a_out, .ref a_first])), (a_now, .inl (eI E, 97, .inl c_now))]
noncomputable abbrev r_X6_many : Room := { frames := 0, cells := 0, slots := 0, locals := 0 }
theorem hd_X6_many : yX6_many.cls ≠ "java/lang/invoke/MethodHandle" ∧ yX6_many.cls ≠ "java/lang/invoke/VarHandle" ∧ (parseMethodDescriptor yX6_many.desc).map (fun d => d.parameters.length) = some 0 := by decide +kernel
theorem hV_X6_many : yX6_many.cls = RX6 ∧ yX6_many.cls ≠ "java/lang/invoke/MethodHandle" ∧ yX6_many.cls ≠ "java/lang/invoke/VarHandle" ∧ (parseMethodDescriptor yX6_many.desc).map (fun d => d.parameters.length) = some 0 := ⟨rfl, hd_X6_many⟩
theorem iX6_many_X6 : ∀ w ∈ wsX60, w ∈ wsX6_many := fun _ h => List.mem_cons_of_mem _ (List.mem_append_right _ (h))
section
variable {p : Program} {l : Launch} {e : Env} {s : State} {m : MethodId} {args : Array Value} {below : List Frame} {meth : Method} {c : Code} {E : Env0} {A : Nat → Prop}
set_option maxRecDepth 100000 in
set_option maxHeartbeats 4000000 in
theorem w_X6_many (X : Ctx p m meth c cX6_many 1 ((some .int)) s args wsX6_many RX6 E A) (a_t : Nat) (a_now : Nat) (a_refused : Nat) (a_kept : Nat) (a_mind : Nat) (a_tape : Nat) (a_words : Nat) (a_wCell : Nat) (a_wFaces : Nat) (a_wTurns : Nat) (a_wSign : Nat) (a_wBy : Nat) (a_wFell : Nat) (a_telling : Nat) (a_holds : Nat) (a_sizes : Nat) (a_elements : Nat) (a_moved : Nat) (a_above : Nat) (a_out : Nat) (a_first : Nat) (c_t : Nat → Int32) (c_now : Nat → Int32) (res : Int32) (ls : Array Slot) (H : Heap) (locs : List Loc) (h : f_X6_many c_t c_now = some res) (hP : va_P E.1 vwCl (W_X6_many E a_t a_now a_refused a_kept a_mind a_tape a_words a_wCell a_wFaces a_wTurns a_wSign a_wBy a_wFell a_telling a_holds a_sizes a_elements a_moved a_above a_out a_first c_t c_now) H) (hD : va_D A (W_X6_many E a_t a_now a_refused a_kept a_mind a_tape a_words a_wCell a_wFaces a_wTurns a_wSign a_wBy a_wFell a_telling a_holds a_sizes a_elements a_moved a_above a_out a_first c_t c_now)) (hS : va_S A s.heap H locs) (hl : lv_has ls 1 [(0, .ref a_t)]) : W p l e r_X6_many s m args below meth c H locs 0 0 (MQ below (qI E A res (W_X6_many E a_t a_now a_refused a_kept a_mind a_tape a_words a_wCell a_wFaces a_wTurns a_wSign a_wBy a_wFell a_telling a_holds a_sizes a_elements a_moved a_above a_out a_first c_t c_now)) args s 0 0 A) (F0 m 0 ls []) := by
  obtain ⟨hx, hb, hml, hr, hlk, hown, hts, hG, hA⟩ := id X
  have hK := hG.1
  have hN := hG.2.1
  unfold f_X6_many at h
  refine lv_aload_n hx hb dX6_many_0 rfl (lv_at hl 0 rfl) ?_
  refine va_get (D := E.1) (ci := 6) (v := .ref a_now) (C := RX6) (T := TX6) (N := 26) hx hb hts iX6_many_X6 hown hK hP 0 rfl rfl 1 (by decide) (hts (.fieldLink RX6 17 "LeftIsAgreedOnModel" "now" "[I") (List.mem_of_getElem? (i := 1) rfl)) (fun _ h9 => h9) rfl dX6_many_1 ?_
  refine lv_bipush (v := (89 : Int32)) hx hb dX6_many_4 (by decide) ?_
  refine ld_i X hP 1 rfl (inb.vp (by decide)) (v := (c_now 89)) rfl dX6_many_6 ?_
  obtain rfl := Option.some.inj h
  exact ret_i X dX6_many_7 hP hD hS rfl
end
set_option maxRecDepth 100000 in
theorem c_X6_many (l : Launch) (E : Env0) (a_t : Nat) (a_now : Nat) (a_refused : Nat) (a_kept : Nat) (a_mind : Nat) (a_tape : Nat) (a_words : Nat) (a_wCell : Nat) (a_wFaces : Nat) (a_wTurns : Nat) (a_wSign : Nat) (a_wBy : Nat) (a_wFell : Nat) (a_telling : Nat) (a_holds : Nat) (a_sizes : Nat) (a_elements : Nat) (a_moved : Nat) (a_above : Nat) (a_out : Nat) (a_first : Nat) (c_t : Nat → Int32) (c_now : Nat → Int32) (sz : Nat) (res : Int32) (h : f_X6_many c_t c_now = some res) : Met l yX6_many wsX6_many r_X6_many (cPre E [.ref a_t] (W_X6_many E a_t a_now a_refused a_kept a_mind a_tape a_words a_wCell a_wFaces a_wTurns a_wSign a_wBy a_wFell a_telling a_holds a_sizes a_elements a_moved a_above a_out a_first c_t c_now) sz) (qI E (va_A (W_X6_many E a_t a_now a_refused a_kept a_mind a_tape a_words a_wCell a_wFaces a_wTurns a_wSign a_wBy a_wFell a_telling a_holds a_sizes a_elements a_moved a_above a_out a_first c_t c_now) sz) res (W_X6_many E a_t a_now a_refused a_kept a_mind a_tape a_words a_wCell a_wFaces a_wTurns a_wSign a_wBy a_wFell a_telling a_holds a_sizes a_elements a_moved a_above a_out a_first c_t c_now)) 0 0 (va_A (W_X6_many E a_t a_now a_refused a_kept a_mind a_tape a_words a_wCell a_wFaces a_wTurns a_wSign a_wBy a_wFell a_telling a_holds a_sizes a_elements a_moved a_above a_out a_first c_t c_now) sz) :=
  met_of (Qc := fun A => qI E A res (W_X6_many E a_t a_now a_refused a_kept a_mind a_tape a_words a_wCell a_wFaces a_wTurns a_wSign a_wBy a_wFell a_telling a_holds a_sizes a_elements a_moved a_above a_out a_first c_t c_now)) (by decide) rfl (Nat.le_of_ble_eq_true rfl) (fun p e s m args below meth c X hP hD hS ls hl => w_X6_many X a_t a_now a_refused a_kept a_mind a_tape a_words a_wCell a_wFaces a_wTurns a_wSign a_wBy a_wFell a_telling a_holds a_sizes a_elements a_moved a_above a_out a_first c_t c_now res ls _ _ h hP hD hS hl)
-- ===== X6_isPerson
noncomputable abbrev W_X6_isPerson (E : Env0) (a_t : Nat) (a_now : Nat) (a_refused : Nat) (a_kept : Nat) (a_mind : Nat) (a_tape : Nat) (a_words : Nat) (a_wCell : Nat) (a_wFaces : Nat) (a_wTurns : Nat) (a_wSign : Nat) (a_wBy : Nat) (a_wFell : Nat) (a_telling : Nat) (a_holds : Nat) (a_sizes : Nat) (a_elements : Nat) (a_moved : Nat) (a_above : Nat) (a_out : Nat) (a_first : Nat) (c_t : Nat → Int32) (c_now : Nat → Int32) : va_W := [(a_t, .inr (6, [.ref a_refused, .ref a_now, .ref a_kept, .ref a_mind, .int (c_t 4), .ref a_tape, .int (c_t 6), .int (c_t 7), .int (c_t 8), .int (c_t 9), .ref a_words, .ref a_wCell, .ref a_wFaces, .ref a_wTurns, .ref a_wSign, .ref a_wBy, .ref a_wFell, .int (c_t 17), .ref a_telling, .ref a_holds, .ref a_sizes, .ref a_elements, .ref a_moved, .ref a_above, .ref a_out, .ref a_first])), (a_now, .inl (eI E, 97, .inl c_now))]
noncomputable abbrev r_X6_isPerson : Room := { frames := 1, cells := 0, slots := 0, locals := 25 }
theorem hd_X6_isPerson : yX6_isPerson.cls ≠ "java/lang/invoke/MethodHandle" ∧ yX6_isPerson.cls ≠ "java/lang/invoke/VarHandle" ∧ (parseMethodDescriptor yX6_isPerson.desc).map (fun d => d.parameters.length) = some 1 := by decide +kernel
theorem hV_X6_isPerson : yX6_isPerson.cls = RX6 ∧ yX6_isPerson.cls ≠ "java/lang/invoke/MethodHandle" ∧ yX6_isPerson.cls ≠ "java/lang/invoke/VarHandle" ∧ (parseMethodDescriptor yX6_isPerson.desc).map (fun d => d.parameters.length) = some 1 := ⟨rfl, hd_X6_isPerson⟩
theorem iX6_isPerson_X6 : ∀ w ∈ wsX60, w ∈ wsX6_isPerson := fun _ h => List.mem_cons_of_mem _ (List.mem_append_right _ (h))
section
variable {p : Program} {l : Launch} {e : Env} {s : State} {m : MethodId} {args : Array Value} {below : List Frame} {meth : Method} {c : Code} {E : Env0} {A : Nat → Prop}
set_option maxRecDepth 100000 in
set_option maxHeartbeats 4000000 in
theorem w_X6_isPerson (X : Ctx p m meth c cX6_isPerson 2 ((some .boolean)) s args wsX6_isPerson RX6 E A) (a_t : Nat) (a_now : Nat) (a_refused : Nat) (a_kept : Nat) (a_mind : Nat) (a_tape : Nat) (a_words : Nat) (a_wCell : Nat) (a_wFaces : Nat) (a_wTurns : Nat) (a_wSign : Nat) (a_wBy : Nat) (a_wFell : Nat) (a_telling : Nat) (a_holds : Nat) (a_sizes : Nat) (a_elements : Nat) (a_moved : Nat) (a_above : Nat) (a_out : Nat) (a_first : Nat) (c_t : Nat → Int32) (c_now : Nat → Int32) (res : Int32) (l1 : Int32) (ls : Array Slot) (H : Heap) (locs : List Loc) (h : f_X6_isPerson l1 c_t c_now = some res) (hP : va_P E.1 vwCl (W_X6_isPerson E a_t a_now a_refused a_kept a_mind a_tape a_words a_wCell a_wFaces a_wTurns a_wSign a_wBy a_wFell a_telling a_holds a_sizes a_elements a_moved a_above a_out a_first c_t c_now) H) (hD : va_D A (W_X6_isPerson E a_t a_now a_refused a_kept a_mind a_tape a_words a_wCell a_wFaces a_wTurns a_wSign a_wBy a_wFell a_telling a_holds a_sizes a_elements a_moved a_above a_out a_first c_t c_now)) (hS : va_S A s.heap H locs) (hl : lv_has ls 2 [(0, .ref a_t), (1, .int l1)]) : W p l e r_X6_isPerson s m args below meth c H locs 0 0 (MQ below (qI E A res (W_X6_isPerson E a_t a_now a_refused a_kept a_mind a_tape a_words a_wCell a_wFaces a_wTurns a_wSign a_wBy a_wFell a_telling a_holds a_sizes a_elements a_moved a_above a_out a_first c_t c_now)) args s 0 0 A) (F0 m 0 ls []) := by
  obtain ⟨hx, hb, hml, hr, hlk, hown, hts, hG, hA⟩ := id X
  have hK := hG.1
  have hN := hG.2.1
  unfold f_X6_isPerson at h
  refine lv_iload_n hx hb dX6_isPerson_0 rfl (lv_at hl 1 rfl) ?_
  refine lv_i2l (v := (l1.toInt64)) hx hb dX6_isPerson_1 rfl ?_
  refine lv_lconst (v := (0 : Int64)) hx hb dX6_isPerson_2 (by decide) ?_
  refine lv_aload_n hx hb dX6_isPerson_3 rfl (lv_at hl 0 rfl) ?_
  refine va_get (D := E.1) (ci := 6) (v := .ref a_now) (C := RX6) (T := TX6) (N := 26) hx hb hts iX6_isPerson_X6 hown hK hP 0 rfl rfl 1 (by decide) (hts (.fieldLink RX6 17 "LeftIsAgreedOnModel" "now" "[I") (List.mem_of_getElem? (i := 1) rfl)) (fun _ h9 => h9) rfl dX6_isPerson_4 ?_
  refine lv_bipush (v := (89 : Int32)) hx hb dX6_isPerson_7 (by decide) ?_
  refine ld_i X hP 1 rfl (inb.vp (by decide)) (v := (c_now 89)) rfl dX6_isPerson_9 ?_
  refine lv_iconst (v := (1 : Int32)) hx hb dX6_isPerson_10 (by decide) ?_
  refine lv_isub hx hb dX6_isPerson_11 ?_
  refine lv_i2l (v := (((c_now 89) - (1 : Int32)).toInt64)) hx hb dX6_isPerson_12 rfl ?_
  obtain ⟨v1, hv1, h⟩ := bind_of h
  refine after_i X (run_S X (c_X6_isIn l E (l1.toInt64) (0 : Int64) (((c_now 89) - (1 : Int32)).toInt64) H.size v1 hv1) (va_cwS 3 hts gX6_isPerson_X6_isIn rfl rfl rfl hd_X6_isIn ⟨(Nat.le_of_ble_eq_true rfl), (Nat.le_of_ble_eq_true rfl)⟩) hP hD hS [] rfl rfl hl.1 (rest := []) rfl rfl (Nat.le_of_ble_eq_true rfl) dX6_isPerson_13) hP hD hS [] rfl (ws1 := (W_X6_isPerson E a_t a_now a_refused a_kept a_mind a_tape a_words a_wCell a_wFaces a_wTurns a_wSign a_wBy a_wFell a_telling a_holds a_sizes a_elements a_moved a_above a_out a_first c_t c_now)) rfl (fun H locs hP hD hS => ?_)
  obtain ⟨hz16, h⟩ := chk_of h
  obtain rfl := Option.some.inj h
  exact ret_z X dX6_isPerson_16 hz16 hP hD hS rfl
end
set_option maxRecDepth 100000 in
theorem c_X6_isPerson (l : Launch) (E : Env0) (a_t : Nat) (a_now : Nat) (a_refused : Nat) (a_kept : Nat) (a_mind : Nat) (a_tape : Nat) (a_words : Nat) (a_wCell : Nat) (a_wFaces : Nat) (a_wTurns : Nat) (a_wSign : Nat) (a_wBy : Nat) (a_wFell : Nat) (a_telling : Nat) (a_holds : Nat) (a_sizes : Nat) (a_elements : Nat) (a_moved : Nat) (a_above : Nat) (a_out : Nat) (a_first : Nat) (l1 : Int32) (c_t : Nat → Int32) (c_now : Nat → Int32) (sz : Nat) (res : Int32) (h : f_X6_isPerson l1 c_t c_now = some res) : Met l yX6_isPerson wsX6_isPerson r_X6_isPerson (cPre E [.ref a_t, .int l1] (W_X6_isPerson E a_t a_now a_refused a_kept a_mind a_tape a_words a_wCell a_wFaces a_wTurns a_wSign a_wBy a_wFell a_telling a_holds a_sizes a_elements a_moved a_above a_out a_first c_t c_now) sz) (qI E (va_A (W_X6_isPerson E a_t a_now a_refused a_kept a_mind a_tape a_words a_wCell a_wFaces a_wTurns a_wSign a_wBy a_wFell a_telling a_holds a_sizes a_elements a_moved a_above a_out a_first c_t c_now) sz) res (W_X6_isPerson E a_t a_now a_refused a_kept a_mind a_tape a_words a_wCell a_wFaces a_wTurns a_wSign a_wBy a_wFell a_telling a_holds a_sizes a_elements a_moved a_above a_out a_first c_t c_now)) 0 0 (va_A (W_X6_isPerson E a_t a_now a_refused a_kept a_mind a_tape a_words a_wCell a_wFaces a_wTurns a_wSign a_wBy a_wFell a_telling a_holds a_sizes a_elements a_moved a_above a_out a_first c_t c_now) sz) :=
  met_of (Qc := fun A => qI E A res (W_X6_isPerson E a_t a_now a_refused a_kept a_mind a_tape a_words a_wCell a_wFaces a_wTurns a_wSign a_wBy a_wFell a_telling a_holds a_sizes a_elements a_moved a_above a_out a_first c_t c_now)) (by decide) rfl (Nat.le_of_ble_eq_true rfl) (fun p e s m args below meth c X hP hD hS ls hl => w_X6_isPerson X a_t a_now a_refused a_kept a_mind a_tape a_words a_wCell a_wFaces a_wTurns a_wSign a_wBy a_wFell a_telling a_holds a_sizes a_elements a_moved a_above a_out a_first c_t c_now res l1 ls _ _ h hP hD hS hl)
-- ===== X6_kind
noncomputable abbrev W_X6_kind (E : Env0) (a_t : Nat) (a_now : Nat) (a_refused : Nat) (a_kept : Nat) (a_mind : Nat) (a_tape : Nat) (a_words : Nat) (a_wCell : Nat) (a_wFaces : Nat) (a_wTurns : Nat) (a_wSign : Nat) (a_wBy : Nat) (a_wFell : Nat) (a_telling : Nat) (a_holds : Nat) (a_sizes : Nat) (a_elements : Nat) (a_moved : Nat) (a_above : Nat) (a_out : Nat) (a_first : Nat) (c_t : Nat → Int32) (c_now : Nat → Int32) : va_W := [(a_t, .inr (6, [.ref a_refused, .ref a_now, .ref a_kept, .ref a_mind, .int (c_t 4), .ref a_tape, .int (c_t 6), .int (c_t 7), .int (c_t 8), .int (c_t 9), .ref a_words, .ref a_wCell, .ref a_wFaces, .ref a_wTurns, .ref a_wSign, .ref a_wBy, .ref a_wFell, .int (c_t 17), .ref a_telling, .ref a_holds, .ref a_sizes, .ref a_elements, .ref a_moved, .ref a_above, .ref a_out, .ref a_first])), (a_now, .inl (eI E, 97, .inl c_now))]
noncomputable abbrev r_X6_kind : Room := { frames := 0, cells := 0, slots := 0, locals := 0 }
theorem hd_X6_kind : yX6_kind.cls ≠ "java/lang/invoke/MethodHandle" ∧ yX6_kind.cls ≠ "java/lang/invoke/VarHandle" ∧ (parseMethodDescriptor yX6_kind.desc).map (fun d => d.parameters.length) = some 1 := by decide +kernel
theorem hV_X6_kind : yX6_kind.cls = RX6 ∧ yX6_kind.cls ≠ "java/lang/invoke/MethodHandle" ∧ yX6_kind.cls ≠ "java/lang/invoke/VarHandle" ∧ (parseMethodDescriptor yX6_kind.desc).map (fun d => d.parameters.length) = some 1 := ⟨rfl, hd_X6_kind⟩
theorem iX6_kind_X6 : ∀ w ∈ wsX60, w ∈ wsX6_kind := fun _ h => List.mem_cons_of_mem _ (List.mem_append_right _ (h))
section
variable {p : Program} {l : Launch} {e : Env} {s : State} {m : MethodId} {args : Array Value} {below : List Frame} {meth : Method} {c : Code} {E : Env0} {A : Nat → Prop}
set_option maxRecDepth 100000 in
set_option maxHeartbeats 4000000 in
theorem w_X6_kind (X : Ctx p m meth c cX6_kind 2 ((some .int)) s args wsX6_kind RX6 E A) (a_t : Nat) (a_now : Nat) (a_refused : Nat) (a_kept : Nat) (a_mind : Nat) (a_tape : Nat) (a_words : Nat) (a_wCell : Nat) (a_wFaces : Nat) (a_wTurns : Nat) (a_wSign : Nat) (a_wBy : Nat) (a_wFell : Nat) (a_telling : Nat) (a_holds : Nat) (a_sizes : Nat) (a_elements : Nat) (a_moved : Nat) (a_above : Nat) (a_out : Nat) (a_first : Nat) (c_t : Nat → Int32) (c_now : Nat → Int32) (res : Int32) (l1 : Int32) (ls : Array Slot) (H : Heap) (locs : List Loc) (h : f_X6_kind l1 c_t c_now = some res) (hP : va_P E.1 vwCl (W_X6_kind E a_t a_now a_refused a_kept a_mind a_tape a_words a_wCell a_wFaces a_wTurns a_wSign a_wBy a_wFell a_telling a_holds a_sizes a_elements a_moved a_above a_out a_first c_t c_now) H) (hD : va_D A (W_X6_kind E a_t a_now a_refused a_kept a_mind a_tape a_words a_wCell a_wFaces a_wTurns a_wSign a_wBy a_wFell a_telling a_holds a_sizes a_elements a_moved a_above a_out a_first c_t c_now)) (hS : va_S A s.heap H locs) (hl : lv_has ls 2 [(0, .ref a_t), (1, .int l1)]) : W p l e r_X6_kind s m args below meth c H locs 0 0 (MQ below (qI E A res (W_X6_kind E a_t a_now a_refused a_kept a_mind a_tape a_words a_wCell a_wFaces a_wTurns a_wSign a_wBy a_wFell a_telling a_holds a_sizes a_elements a_moved a_above a_out a_first c_t c_now)) args s 0 0 A) (F0 m 0 ls []) := by
  obtain ⟨hx, hb, hml, hr, hlk, hown, hts, hG, hA⟩ := id X
  have hK := hG.1
  have hN := hG.2.1
  unfold f_X6_kind at h
  refine lv_aload_n hx hb dX6_kind_0 rfl (lv_at hl 0 rfl) ?_
  refine va_get (D := E.1) (ci := 6) (v := .ref a_now) (C := RX6) (T := TX6) (N := 26) hx hb hts iX6_kind_X6 hown hK hP 0 rfl rfl 1 (by decide) (hts (.fieldLink RX6 17 "LeftIsAgreedOnModel" "now" "[I") (List.mem_of_getElem? (i := 1) rfl)) (fun _ h9 => h9) rfl dX6_kind_1 ?_
  refine lv_iconst (v := (5 : Int32)) hx hb dX6_kind_4 (by decide) ?_
  refine lv_iload_n hx hb dX6_kind_5 rfl (lv_at hl 1 rfl) ?_
  refine lv_imul hx hb dX6_kind_6 ?_
  obtain ⟨hz7, h⟩ := chk_of h
  refine ld_i X hP 1 rfl (inb.vp hz7) (v := (c_now (((5 : Int32) * l1)).toNatClampNeg)) rfl dX6_kind_7 ?_
  obtain rfl := Option.some.inj h
  exact ret_i X dX6_kind_8 hP hD hS rfl
end
set_option maxRecDepth 100000 in
theorem c_X6_kind (l : Launch) (E : Env0) (a_t : Nat) (a_now : Nat) (a_refused : Nat) (a_kept : Nat) (a_mind : Nat) (a_tape : Nat) (a_words : Nat) (a_wCell : Nat) (a_wFaces : Nat) (a_wTurns : Nat) (a_wSign : Nat) (a_wBy : Nat) (a_wFell : Nat) (a_telling : Nat) (a_holds : Nat) (a_sizes : Nat) (a_elements : Nat) (a_moved : Nat) (a_above : Nat) (a_out : Nat) (a_first : Nat) (l1 : Int32) (c_t : Nat → Int32) (c_now : Nat → Int32) (sz : Nat) (res : Int32) (h : f_X6_kind l1 c_t c_now = some res) : Met l yX6_kind wsX6_kind r_X6_kind (cPre E [.ref a_t, .int l1] (W_X6_kind E a_t a_now a_refused a_kept a_mind a_tape a_words a_wCell a_wFaces a_wTurns a_wSign a_wBy a_wFell a_telling a_holds a_sizes a_elements a_moved a_above a_out a_first c_t c_now) sz) (qI E (va_A (W_X6_kind E a_t a_now a_refused a_kept a_mind a_tape a_words a_wCell a_wFaces a_wTurns a_wSign a_wBy a_wFell a_telling a_holds a_sizes a_elements a_moved a_above a_out a_first c_t c_now) sz) res (W_X6_kind E a_t a_now a_refused a_kept a_mind a_tape a_words a_wCell a_wFaces a_wTurns a_wSign a_wBy a_wFell a_telling a_holds a_sizes a_elements a_moved a_above a_out a_first c_t c_now)) 0 0 (va_A (W_X6_kind E a_t a_now a_refused a_kept a_mind a_tape a_words a_wCell a_wFaces a_wTurns a_wSign a_wBy a_wFell a_telling a_holds a_sizes a_elements a_moved a_above a_out a_first c_t c_now) sz) :=
  met_of (Qc := fun A => qI E A res (W_X6_kind E a_t a_now a_refused a_kept a_mind a_tape a_words a_wCell a_wFaces a_wTurns a_wSign a_wBy a_wFell a_telling a_holds a_sizes a_elements a_moved a_above a_out a_first c_t c_now)) (by decide) rfl (Nat.le_of_ble_eq_true rfl) (fun p e s m args below meth c X hP hD hS ls hl => w_X6_kind X a_t a_now a_refused a_kept a_mind a_tape a_words a_wCell a_wFaces a_wTurns a_wSign a_wBy a_wFell a_telling a_holds a_sizes a_elements a_moved a_above a_out a_first c_t c_now res l1 ls _ _ h hP hD hS hl)
-- ===== X6_a
noncomputable abbrev W_X6_a (E : Env0) (a_t : Nat) (a_now : Nat) (a_refused : Nat) (a_kept : Nat) (a_mind : Nat) (a_tape : Nat) (a_words : Nat) (a_wCell : Nat) (a_wFaces : Nat) (a_wTurns : Nat) (a_wSign : Nat) (a_wBy : Nat) (a_wFell : Nat) (a_telling : Nat) (a_holds : Nat) (a_sizes : Nat) (a_elements : Nat) (a_moved : Nat) (a_above : Nat) (a_out : Nat) (a_first : Nat) (c_t : Nat → Int32) (c_now : Nat → Int32) : va_W := [(a_t, .inr (6, [.ref a_refused, .ref a_now, .ref a_kept, .ref a_mind, .int (c_t 4), .ref a_tape, .int (c_t 6), .int (c_t 7), .int (c_t 8), .int (c_t 9), .ref a_words, .ref a_wCell, .ref a_wFaces, .ref a_wTurns, .ref a_wSign, .ref a_wBy, .ref a_wFell, .int (c_t 17), .ref a_telling, .ref a_holds, .ref a_sizes, .ref a_elements, .ref a_moved, .ref a_above, .ref a_out, .ref a_first])), (a_now, .inl (eI E, 97, .inl c_now))]
noncomputable abbrev r_X6_a : Room := { frames := 0, cells := 0, slots := 0, locals := 0 }
theorem hd_X6_a : yX6_a.cls ≠ "java/lang/invoke/MethodHandle" ∧ yX6_a.cls ≠ "java/lang/invoke/VarHandle" ∧ (parseMethodDescriptor yX6_a.desc).map (fun d => d.parameters.length) = some 1 := by decide +kernel
theorem hV_X6_a : yX6_a.cls = RX6 ∧ yX6_a.cls ≠ "java/lang/invoke/MethodHandle" ∧ yX6_a.cls ≠ "java/lang/invoke/VarHandle" ∧ (parseMethodDescriptor yX6_a.desc).map (fun d => d.parameters.length) = some 1 := ⟨rfl, hd_X6_a⟩
theorem iX6_a_X6 : ∀ w ∈ wsX60, w ∈ wsX6_a := fun _ h => List.mem_cons_of_mem _ (List.mem_append_right _ (h))
section
variable {p : Program} {l : Launch} {e : Env} {s : State} {m : MethodId} {args : Array Value} {below : List Frame} {meth : Method} {c : Code} {E : Env0} {A : Nat → Prop}
set_option maxRecDepth 100000 in
set_option maxHeartbeats 4000000 in
theorem w_X6_a (X : Ctx p m meth c cX6_a 2 ((some .int)) s args wsX6_a RX6 E A) (a_t : Nat) (a_now : Nat) (a_refused : Nat) (a_kept : Nat) (a_mind : Nat) (a_tape : Nat) (a_words : Nat) (a_wCell : Nat) (a_wFaces : Nat) (a_wTurns : Nat) (a_wSign : Nat) (a_wBy : Nat) (a_wFell : Nat) (a_telling : Nat) (a_holds : Nat) (a_sizes : Nat) (a_elements : Nat) (a_moved : Nat) (a_above : Nat) (a_out : Nat) (a_first : Nat) (c_t : Nat → Int32) (c_now : Nat → Int32) (res : Int32) (l1 : Int32) (ls : Array Slot) (H : Heap) (locs : List Loc) (h : f_X6_a l1 c_t c_now = some res) (hP : va_P E.1 vwCl (W_X6_a E a_t a_now a_refused a_kept a_mind a_tape a_words a_wCell a_wFaces a_wTurns a_wSign a_wBy a_wFell a_telling a_holds a_sizes a_elements a_moved a_above a_out a_first c_t c_now) H) (hD : va_D A (W_X6_a E a_t a_now a_refused a_kept a_mind a_tape a_words a_wCell a_wFaces a_wTurns a_wSign a_wBy a_wFell a_telling a_holds a_sizes a_elements a_moved a_above a_out a_first c_t c_now)) (hS : va_S A s.heap H locs) (hl : lv_has ls 2 [(0, .ref a_t), (1, .int l1)]) : W p l e r_X6_a s m args below meth c H locs 0 0 (MQ below (qI E A res (W_X6_a E a_t a_now a_refused a_kept a_mind a_tape a_words a_wCell a_wFaces a_wTurns a_wSign a_wBy a_wFell a_telling a_holds a_sizes a_elements a_moved a_above a_out a_first c_t c_now)) args s 0 0 A) (F0 m 0 ls []) := by
  obtain ⟨hx, hb, hml, hr, hlk, hown, hts, hG, hA⟩ := id X
  have hK := hG.1
  have hN := hG.2.1
  unfold f_X6_a at h
  refine lv_aload_n hx hb dX6_a_0 rfl (lv_at hl 0 rfl) ?_
  refine va_get (D := E.1) (ci := 6) (v := .ref a_now) (C := RX6) (T := TX6) (N := 26) hx hb hts iX6_a_X6 hown hK hP 0 rfl rfl 1 (by decide) (hts (.fieldLink RX6 17 "LeftIsAgreedOnModel" "now" "[I") (List.mem_of_getElem? (i := 1) rfl)) (fun _ h9 => h9) rfl dX6_a_1 ?_
  refine lv_iconst (v := (5 : Int32)) hx hb dX6_a_4 (by decide) ?_
  refine lv_iload_n hx hb dX6_a_5 rfl (lv_at hl 1 rfl) ?_
  refine lv_imul hx hb dX6_a_6 ?_
  refine lv_iconst (v := (1 : Int32)) hx hb dX6_a_7 (by decide) ?_
  refine lv_iadd hx hb dX6_a_8 ?_
  obtain ⟨hz9, h⟩ := chk_of h
  refine ld_i X hP 1 rfl (inb.vp hz9) (v := (c_now ((((5 : Int32) * l1) + (1 : Int32))).toNatClampNeg)) rfl dX6_a_9 ?_
  obtain rfl := Option.some.inj h
  exact ret_i X dX6_a_10 hP hD hS rfl
end
set_option maxRecDepth 100000 in
theorem c_X6_a (l : Launch) (E : Env0) (a_t : Nat) (a_now : Nat) (a_refused : Nat) (a_kept : Nat) (a_mind : Nat) (a_tape : Nat) (a_words : Nat) (a_wCell : Nat) (a_wFaces : Nat) (a_wTurns : Nat) (a_wSign : Nat) (a_wBy : Nat) (a_wFell : Nat) (a_telling : Nat) (a_holds : Nat) (a_sizes : Nat) (a_elements : Nat) (a_moved : Nat) (a_above : Nat) (a_out : Nat) (a_first : Nat) (l1 : Int32) (c_t : Nat → Int32) (c_now : Nat → Int32) (sz : Nat) (res : Int32) (h : f_X6_a l1 c_t c_now = some res) : Met l yX6_a wsX6_a r_X6_a (cPre E [.ref a_t, .int l1] (W_X6_a E a_t a_now a_refused a_kept a_mind a_tape a_words a_wCell a_wFaces a_wTurns a_wSign a_wBy a_wFell a_telling a_holds a_sizes a_elements a_moved a_above a_out a_first c_t c_now) sz) (qI E (va_A (W_X6_a E a_t a_now a_refused a_kept a_mind a_tape a_words a_wCell a_wFaces a_wTurns a_wSign a_wBy a_wFell a_telling a_holds a_sizes a_elements a_moved a_above a_out a_first c_t c_now) sz) res (W_X6_a E a_t a_now a_refused a_kept a_mind a_tape a_words a_wCell a_wFaces a_wTurns a_wSign a_wBy a_wFell a_telling a_holds a_sizes a_elements a_moved a_above a_out a_first c_t c_now)) 0 0 (va_A (W_X6_a E a_t a_now a_refused a_kept a_mind a_tape a_words a_wCell a_wFaces a_wTurns a_wSign a_wBy a_wFell a_telling a_holds a_sizes a_elements a_moved a_above a_out a_first c_t c_now) sz) :=
  met_of (Qc := fun A => qI E A res (W_X6_a E a_t a_now a_refused a_kept a_mind a_tape a_words a_wCell a_wFaces a_wTurns a_wSign a_wBy a_wFell a_telling a_holds a_sizes a_elements a_moved a_above a_out a_first c_t c_now)) (by decide) rfl (Nat.le_of_ble_eq_true rfl) (fun p e s m args below meth c X hP hD hS ls hl => w_X6_a X a_t a_now a_refused a_kept a_mind a_tape a_words a_wCell a_wFaces a_wTurns a_wSign a_wBy a_wFell a_telling a_holds a_sizes a_elements a_moved a_above a_out a_first c_t c_now res l1 ls _ _ h hP hD hS hl)
-- ===== X6_cell
noncomputable abbrev W_X6_cell (E : Env0) (a_t : Nat) (a_now : Nat) (a_refused : Nat) (a_kept : Nat) (a_mind : Nat) (a_tape : Nat) (a_words : Nat) (a_wCell : Nat) (a_wFaces : Nat) (a_wTurns : Nat) (a_wSign : Nat) (a_wBy : Nat) (a_wFell : Nat) (a_telling : Nat) (a_holds : Nat) (a_sizes : Nat) (a_elements : Nat) (a_moved : Nat) (a_above : Nat) (a_out : Nat) (a_first : Nat) (c_t : Nat → Int32) (c_now : Nat → Int32) : va_W := [(a_t, .inr (6, [.ref a_refused, .ref a_now, .ref a_kept, .ref a_mind, .int (c_t 4), .ref a_tape, .int (c_t 6), .int (c_t 7), .int (c_t 8), .int (c_t 9), .ref a_words, .ref a_wCell, .ref a_wFaces, .ref a_wTurns, .ref a_wSign, .ref a_wBy, .ref a_wFell, .int (c_t 17), .ref a_telling, .ref a_holds, .ref a_sizes, .ref a_elements, .ref a_moved, .ref a_above, .ref a_out, .ref a_first])), (a_now, .inl (eI E, 97, .inl c_now))]
noncomputable abbrev r_X6_cell : Room := { frames := 0, cells := 0, slots := 0, locals := 0 }
theorem hd_X6_cell : yX6_cell.cls ≠ "java/lang/invoke/MethodHandle" ∧ yX6_cell.cls ≠ "java/lang/invoke/VarHandle" ∧ (parseMethodDescriptor yX6_cell.desc).map (fun d => d.parameters.length) = some 1 := by decide +kernel
theorem hV_X6_cell : yX6_cell.cls = RX6 ∧ yX6_cell.cls ≠ "java/lang/invoke/MethodHandle" ∧ yX6_cell.cls ≠ "java/lang/invoke/VarHandle" ∧ (parseMethodDescriptor yX6_cell.desc).map (fun d => d.parameters.length) = some 1 := ⟨rfl, hd_X6_cell⟩
theorem iX6_cell_X6 : ∀ w ∈ wsX60, w ∈ wsX6_cell := fun _ h => List.mem_cons_of_mem _ (List.mem_append_right _ (h))
section
variable {p : Program} {l : Launch} {e : Env} {s : State} {m : MethodId} {args : Array Value} {below : List Frame} {meth : Method} {c : Code} {E : Env0} {A : Nat → Prop}
set_option maxRecDepth 100000 in
set_option maxHeartbeats 4000000 in
theorem w_X6_cell (X : Ctx p m meth c cX6_cell 2 ((some .int)) s args wsX6_cell RX6 E A) (a_t : Nat) (a_now : Nat) (a_refused : Nat) (a_kept : Nat) (a_mind : Nat) (a_tape : Nat) (a_words : Nat) (a_wCell : Nat) (a_wFaces : Nat) (a_wTurns : Nat) (a_wSign : Nat) (a_wBy : Nat) (a_wFell : Nat) (a_telling : Nat) (a_holds : Nat) (a_sizes : Nat) (a_elements : Nat) (a_moved : Nat) (a_above : Nat) (a_out : Nat) (a_first : Nat) (c_t : Nat → Int32) (c_now : Nat → Int32) (res : Int32) (l1 : Int32) (ls : Array Slot) (H : Heap) (locs : List Loc) (h : f_X6_cell l1 c_t c_now = some res) (hP : va_P E.1 vwCl (W_X6_cell E a_t a_now a_refused a_kept a_mind a_tape a_words a_wCell a_wFaces a_wTurns a_wSign a_wBy a_wFell a_telling a_holds a_sizes a_elements a_moved a_above a_out a_first c_t c_now) H) (hD : va_D A (W_X6_cell E a_t a_now a_refused a_kept a_mind a_tape a_words a_wCell a_wFaces a_wTurns a_wSign a_wBy a_wFell a_telling a_holds a_sizes a_elements a_moved a_above a_out a_first c_t c_now)) (hS : va_S A s.heap H locs) (hl : lv_has ls 2 [(0, .ref a_t), (1, .int l1)]) : W p l e r_X6_cell s m args below meth c H locs 0 0 (MQ below (qI E A res (W_X6_cell E a_t a_now a_refused a_kept a_mind a_tape a_words a_wCell a_wFaces a_wTurns a_wSign a_wBy a_wFell a_telling a_holds a_sizes a_elements a_moved a_above a_out a_first c_t c_now)) args s 0 0 A) (F0 m 0 ls []) := by
  obtain ⟨hx, hb, hml, hr, hlk, hown, hts, hG, hA⟩ := id X
  have hK := hG.1
  have hN := hG.2.1
  unfold f_X6_cell at h
  refine lv_aload_n hx hb dX6_cell_0 rfl (lv_at hl 0 rfl) ?_
  refine va_get (D := E.1) (ci := 6) (v := .ref a_now) (C := RX6) (T := TX6) (N := 26) hx hb hts iX6_cell_X6 hown hK hP 0 rfl rfl 1 (by decide) (hts (.fieldLink RX6 17 "LeftIsAgreedOnModel" "now" "[I") (List.mem_of_getElem? (i := 1) rfl)) (fun _ h9 => h9) rfl dX6_cell_1 ?_
  refine lv_iconst (v := (5 : Int32)) hx hb dX6_cell_4 (by decide) ?_
  refine lv_iload_n hx hb dX6_cell_5 rfl (lv_at hl 1 rfl) ?_
  refine lv_imul hx hb dX6_cell_6 ?_
  refine lv_iconst (v := (2 : Int32)) hx hb dX6_cell_7 (by decide) ?_
  refine lv_iadd hx hb dX6_cell_8 ?_
  obtain ⟨hz9, h⟩ := chk_of h
  refine ld_i X hP 1 rfl (inb.vp hz9) (v := (c_now ((((5 : Int32) * l1) + (2 : Int32))).toNatClampNeg)) rfl dX6_cell_9 ?_
  obtain rfl := Option.some.inj h
  exact ret_i X dX6_cell_10 hP hD hS rfl
end
set_option maxRecDepth 100000 in
theorem c_X6_cell (l : Launch) (E : Env0) (a_t : Nat) (a_now : Nat) (a_refused : Nat) (a_kept : Nat) (a_mind : Nat) (a_tape : Nat) (a_words : Nat) (a_wCell : Nat) (a_wFaces : Nat) (a_wTurns : Nat) (a_wSign : Nat) (a_wBy : Nat) (a_wFell : Nat) (a_telling : Nat) (a_holds : Nat) (a_sizes : Nat) (a_elements : Nat) (a_moved : Nat) (a_above : Nat) (a_out : Nat) (a_first : Nat) (l1 : Int32) (c_t : Nat → Int32) (c_now : Nat → Int32) (sz : Nat) (res : Int32) (h : f_X6_cell l1 c_t c_now = some res) : Met l yX6_cell wsX6_cell r_X6_cell (cPre E [.ref a_t, .int l1] (W_X6_cell E a_t a_now a_refused a_kept a_mind a_tape a_words a_wCell a_wFaces a_wTurns a_wSign a_wBy a_wFell a_telling a_holds a_sizes a_elements a_moved a_above a_out a_first c_t c_now) sz) (qI E (va_A (W_X6_cell E a_t a_now a_refused a_kept a_mind a_tape a_words a_wCell a_wFaces a_wTurns a_wSign a_wBy a_wFell a_telling a_holds a_sizes a_elements a_moved a_above a_out a_first c_t c_now) sz) res (W_X6_cell E a_t a_now a_refused a_kept a_mind a_tape a_words a_wCell a_wFaces a_wTurns a_wSign a_wBy a_wFell a_telling a_holds a_sizes a_elements a_moved a_above a_out a_first c_t c_now)) 0 0 (va_A (W_X6_cell E a_t a_now a_refused a_kept a_mind a_tape a_words a_wCell a_wFaces a_wTurns a_wSign a_wBy a_wFell a_telling a_holds a_sizes a_elements a_moved a_above a_out a_first c_t c_now) sz) :=
  met_of (Qc := fun A => qI E A res (W_X6_cell E a_t a_now a_refused a_kept a_mind a_tape a_words a_wCell a_wFaces a_wTurns a_wSign a_wBy a_wFell a_telling a_holds a_sizes a_elements a_moved a_above a_out a_first c_t c_now)) (by decide) rfl (Nat.le_of_ble_eq_true rfl) (fun p e s m args below meth c X hP hD hS ls hl => w_X6_cell X a_t a_now a_refused a_kept a_mind a_tape a_words a_wCell a_wFaces a_wTurns a_wSign a_wBy a_wFell a_telling a_holds a_sizes a_elements a_moved a_above a_out a_first c_t c_now res l1 ls _ _ h hP hD hS hl)
-- ===== X6_faces
noncomputable abbrev W_X6_faces (E : Env0) (a_t : Nat) (a_now : Nat) (a_refused : Nat) (a_kept : Nat) (a_mind : Nat) (a_tape : Nat) (a_words : Nat) (a_wCell : Nat) (a_wFaces : Nat) (a_wTurns : Nat) (a_wSign : Nat) (a_wBy : Nat) (a_wFell : Nat) (a_telling : Nat) (a_holds : Nat) (a_sizes : Nat) (a_elements : Nat) (a_moved : Nat) (a_above : Nat) (a_out : Nat) (a_first : Nat) (c_t : Nat → Int32) (c_now : Nat → Int32) : va_W := [(a_t, .inr (6, [.ref a_refused, .ref a_now, .ref a_kept, .ref a_mind, .int (c_t 4), .ref a_tape, .int (c_t 6), .int (c_t 7), .int (c_t 8), .int (c_t 9), .ref a_words, .ref a_wCell, .ref a_wFaces, .ref a_wTurns, .ref a_wSign, .ref a_wBy, .ref a_wFell, .int (c_t 17), .ref a_telling, .ref a_holds, .ref a_sizes, .ref a_elements, .ref a_moved, .ref a_above, .ref a_out, .ref a_first])), (a_now, .inl (eI E, 97, .inl c_now))]
noncomputable abbrev r_X6_faces : Room := { frames := 0, cells := 0, slots := 0, locals := 0 }
theorem hd_X6_faces : yX6_faces.cls ≠ "java/lang/invoke/MethodHandle" ∧ yX6_faces.cls ≠ "java/lang/invoke/VarHandle" ∧ (parseMethodDescriptor yX6_faces.desc).map (fun d => d.parameters.length) = some 1 := by decide +kernel
theorem hV_X6_faces : yX6_faces.cls = RX6 ∧ yX6_faces.cls ≠ "java/lang/invoke/MethodHandle" ∧ yX6_faces.cls ≠ "java/lang/invoke/VarHandle" ∧ (parseMethodDescriptor yX6_faces.desc).map (fun d => d.parameters.length) = some 1 := ⟨rfl, hd_X6_faces⟩
theorem iX6_faces_X6 : ∀ w ∈ wsX60, w ∈ wsX6_faces := fun _ h => List.mem_cons_of_mem _ (List.mem_append_right _ (h))
section
variable {p : Program} {l : Launch} {e : Env} {s : State} {m : MethodId} {args : Array Value} {below : List Frame} {meth : Method} {c : Code} {E : Env0} {A : Nat → Prop}
set_option maxRecDepth 100000 in
set_option maxHeartbeats 4000000 in
theorem w_X6_faces (X : Ctx p m meth c cX6_faces 2 ((some .int)) s args wsX6_faces RX6 E A) (a_t : Nat) (a_now : Nat) (a_refused : Nat) (a_kept : Nat) (a_mind : Nat) (a_tape : Nat) (a_words : Nat) (a_wCell : Nat) (a_wFaces : Nat) (a_wTurns : Nat) (a_wSign : Nat) (a_wBy : Nat) (a_wFell : Nat) (a_telling : Nat) (a_holds : Nat) (a_sizes : Nat) (a_elements : Nat) (a_moved : Nat) (a_above : Nat) (a_out : Nat) (a_first : Nat) (c_t : Nat → Int32) (c_now : Nat → Int32) (res : Int32) (l1 : Int32) (ls : Array Slot) (H : Heap) (locs : List Loc) (h : f_X6_faces l1 c_t c_now = some res) (hP : va_P E.1 vwCl (W_X6_faces E a_t a_now a_refused a_kept a_mind a_tape a_words a_wCell a_wFaces a_wTurns a_wSign a_wBy a_wFell a_telling a_holds a_sizes a_elements a_moved a_above a_out a_first c_t c_now) H) (hD : va_D A (W_X6_faces E a_t a_now a_refused a_kept a_mind a_tape a_words a_wCell a_wFaces a_wTurns a_wSign a_wBy a_wFell a_telling a_holds a_sizes a_elements a_moved a_above a_out a_first c_t c_now)) (hS : va_S A s.heap H locs) (hl : lv_has ls 2 [(0, .ref a_t), (1, .int l1)]) : W p l e r_X6_faces s m args below meth c H locs 0 0 (MQ below (qI E A res (W_X6_faces E a_t a_now a_refused a_kept a_mind a_tape a_words a_wCell a_wFaces a_wTurns a_wSign a_wBy a_wFell a_telling a_holds a_sizes a_elements a_moved a_above a_out a_first c_t c_now)) args s 0 0 A) (F0 m 0 ls []) := by
  obtain ⟨hx, hb, hml, hr, hlk, hown, hts, hG, hA⟩ := id X
  have hK := hG.1
  have hN := hG.2.1
  unfold f_X6_faces at h
  refine lv_aload_n hx hb dX6_faces_0 rfl (lv_at hl 0 rfl) ?_
  refine va_get (D := E.1) (ci := 6) (v := .ref a_now) (C := RX6) (T := TX6) (N := 26) hx hb hts iX6_faces_X6 hown hK hP 0 rfl rfl 1 (by decide) (hts (.fieldLink RX6 17 "LeftIsAgreedOnModel" "now" "[I") (List.mem_of_getElem? (i := 1) rfl)) (fun _ h9 => h9) rfl dX6_faces_1 ?_
  refine lv_iconst (v := (5 : Int32)) hx hb dX6_faces_4 (by decide) ?_
  refine lv_iload_n hx hb dX6_faces_5 rfl (lv_at hl 1 rfl) ?_
  refine lv_imul hx hb dX6_faces_6 ?_
  refine lv_iconst (v := (3 : Int32)) hx hb dX6_faces_7 (by decide) ?_
  refine lv_iadd hx hb dX6_faces_8 ?_
  obtain ⟨hz9, h⟩ := chk_of h
  refine ld_i X hP 1 rfl (inb.vp hz9) (v := (c_now ((((5 : Int32) * l1) + (3 : Int32))).toNatClampNeg)) rfl dX6_faces_9 ?_
  obtain rfl := Option.some.inj h
  exact ret_i X dX6_faces_10 hP hD hS rfl
end
set_option maxRecDepth 100000 in
theorem c_X6_faces (l : Launch) (E : Env0) (a_t : Nat) (a_now : Nat) (a_refused : Nat) (a_kept : Nat) (a_mind : Nat) (a_tape : Nat) (a_words : Nat) (a_wCell : Nat) (a_wFaces : Nat) (a_wTurns : Nat) (a_wSign : Nat) (a_wBy : Nat) (a_wFell : Nat) (a_telling : Nat) (a_holds : Nat) (a_sizes : Nat) (a_elements : Nat) (a_moved : Nat) (a_above : Nat) (a_out : Nat) (a_first : Nat) (l1 : Int32) (c_t : Nat → Int32) (c_now : Nat → Int32) (sz : Nat) (res : Int32) (h : f_X6_faces l1 c_t c_now = some res) : Met l yX6_faces wsX6_faces r_X6_faces (cPre E [.ref a_t, .int l1] (W_X6_faces E a_t a_now a_refused a_kept a_mind a_tape a_words a_wCell a_wFaces a_wTurns a_wSign a_wBy a_wFell a_telling a_holds a_sizes a_elements a_moved a_above a_out a_first c_t c_now) sz) (qI E (va_A (W_X6_faces E a_t a_now a_refused a_kept a_mind a_tape a_words a_wCell a_wFaces a_wTurns a_wSign a_wBy a_wFell a_telling a_holds a_sizes a_elements a_moved a_above a_out a_first c_t c_now) sz) res (W_X6_faces E a_t a_now a_refused a_kept a_mind a_tape a_words a_wCell a_wFaces a_wTurns a_wSign a_wBy a_wFell a_telling a_holds a_sizes a_elements a_moved a_above a_out a_first c_t c_now)) 0 0 (va_A (W_X6_faces E a_t a_now a_refused a_kept a_mind a_tape a_words a_wCell a_wFaces a_wTurns a_wSign a_wBy a_wFell a_telling a_holds a_sizes a_elements a_moved a_above a_out a_first c_t c_now) sz) :=
  met_of (Qc := fun A => qI E A res (W_X6_faces E a_t a_now a_refused a_kept a_mind a_tape a_words a_wCell a_wFaces a_wTurns a_wSign a_wBy a_wFell a_telling a_holds a_sizes a_elements a_moved a_above a_out a_first c_t c_now)) (by decide) rfl (Nat.le_of_ble_eq_true rfl) (fun p e s m args below meth c X hP hD hS ls hl => w_X6_faces X a_t a_now a_refused a_kept a_mind a_tape a_words a_wCell a_wFaces a_wTurns a_wSign a_wBy a_wFell a_telling a_holds a_sizes a_elements a_moved a_above a_out a_first c_t c_now res l1 ls _ _ h hP hD hS hl)
-- ===== X6_isFor
noncomputable abbrev W_X6_isFor (E : Env0) (a_t : Nat) (a_now : Nat) (a_refused : Nat) (a_kept : Nat) (a_mind : Nat) (a_tape : Nat) (a_words : Nat) (a_wCell : Nat) (a_wFaces : Nat) (a_wTurns : Nat) (a_wSign : Nat) (a_wBy : Nat) (a_wFell : Nat) (a_telling : Nat) (a_holds : Nat) (a_sizes : Nat) (a_elements : Nat) (a_moved : Nat) (a_above : Nat) (a_out : Nat) (a_first : Nat) (c_t : Nat → Int32) (c_now : Nat → Int32) : va_W := [(a_t, .inr (6, [.ref a_refused, .ref a_now, .ref a_kept, .ref a_mind, .int (c_t 4), .ref a_tape, .int (c_t 6), .int (c_t 7), .int (c_t 8), .int (c_t 9), .ref a_words, .ref a_wCell, .ref a_wFaces, .ref a_wTurns, .ref a_wSign, .ref a_wBy, .ref a_wFell, .int (c_t 17), .ref a_telling, .ref a_holds, .ref a_sizes, .ref a_elements, .ref a_moved, .ref a_above, .ref a_out, .ref a_first])), (a_now, .inl (eI E, 97, .inl c_now))]
noncomputable abbrev r_X6_isFor : Room := { frames := 0, cells := 0, slots := 0, locals := 0 }
theorem hd_X6_isFor : yX6_isFor.cls ≠ "java/lang/invoke/MethodHandle" ∧ yX6_isFor.cls ≠ "java/lang/invoke/VarHandle" ∧ (parseMethodDescriptor yX6_isFor.desc).map (fun d => d.parameters.length) = some 1 := by decide +kernel
theorem hV_X6_isFor : yX6_isFor.cls = RX6 ∧ yX6_isFor.cls ≠ "java/lang/invoke/MethodHandle" ∧ yX6_isFor.cls ≠ "java/lang/invoke/VarHandle" ∧ (parseMethodDescriptor yX6_isFor.desc).map (fun d => d.parameters.length) = some 1 := ⟨rfl, hd_X6_isFor⟩
theorem iX6_isFor_X6 : ∀ w ∈ wsX60, w ∈ wsX6_isFor := fun _ h => List.mem_cons_of_mem _ (List.mem_append_right _ (h))
section
variable {p : Program} {l : Launch} {e : Env} {s : State} {m : MethodId} {args : Array Value} {below : List Frame} {meth : Method} {c : Code} {E : Env0} {A : Nat → Prop}
set_option maxRecDepth 100000 in
set_option maxHeartbeats 4000000 in
theorem w_X6_isFor (X : Ctx p m meth c cX6_isFor 2 ((some .int)) s args wsX6_isFor RX6 E A) (a_t : Nat) (a_now : Nat) (a_refused : Nat) (a_kept : Nat) (a_mind : Nat) (a_tape : Nat) (a_words : Nat) (a_wCell : Nat) (a_wFaces : Nat) (a_wTurns : Nat) (a_wSign : Nat) (a_wBy : Nat) (a_wFell : Nat) (a_telling : Nat) (a_holds : Nat) (a_sizes : Nat) (a_elements : Nat) (a_moved : Nat) (a_above : Nat) (a_out : Nat) (a_first : Nat) (c_t : Nat → Int32) (c_now : Nat → Int32) (res : Int32) (l1 : Int32) (ls : Array Slot) (H : Heap) (locs : List Loc) (h : f_X6_isFor l1 c_t c_now = some res) (hP : va_P E.1 vwCl (W_X6_isFor E a_t a_now a_refused a_kept a_mind a_tape a_words a_wCell a_wFaces a_wTurns a_wSign a_wBy a_wFell a_telling a_holds a_sizes a_elements a_moved a_above a_out a_first c_t c_now) H) (hD : va_D A (W_X6_isFor E a_t a_now a_refused a_kept a_mind a_tape a_words a_wCell a_wFaces a_wTurns a_wSign a_wBy a_wFell a_telling a_holds a_sizes a_elements a_moved a_above a_out a_first c_t c_now)) (hS : va_S A s.heap H locs) (hl : lv_has ls 2 [(0, .ref a_t), (1, .int l1)]) : W p l e r_X6_isFor s m args below meth c H locs 0 0 (MQ below (qI E A res (W_X6_isFor E a_t a_now a_refused a_kept a_mind a_tape a_words a_wCell a_wFaces a_wTurns a_wSign a_wBy a_wFell a_telling a_holds a_sizes a_elements a_moved a_above a_out a_first c_t c_now)) args s 0 0 A) (F0 m 0 ls []) := by
  obtain ⟨hx, hb, hml, hr, hlk, hown, hts, hG, hA⟩ := id X
  have hK := hG.1
  have hN := hG.2.1
  unfold f_X6_isFor at h
  refine lv_aload_n hx hb dX6_isFor_0 rfl (lv_at hl 0 rfl) ?_
  refine va_get (D := E.1) (ci := 6) (v := .ref a_now) (C := RX6) (T := TX6) (N := 26) hx hb hts iX6_isFor_X6 hown hK hP 0 rfl rfl 1 (by decide) (hts (.fieldLink RX6 17 "LeftIsAgreedOnModel" "now" "[I") (List.mem_of_getElem? (i := 1) rfl)) (fun _ h9 => h9) rfl dX6_isFor_1 ?_
  refine lv_iconst (v := (5 : Int32)) hx hb dX6_isFor_4 (by decide) ?_
  refine lv_iload_n hx hb dX6_isFor_5 rfl (lv_at hl 1 rfl) ?_
  refine lv_imul hx hb dX6_isFor_6 ?_
  refine lv_iconst (v := (4 : Int32)) hx hb dX6_isFor_7 (by decide) ?_
  refine lv_iadd hx hb dX6_isFor_8 ?_
  obtain ⟨hz9, h⟩ := chk_of h
  refine ld_i X hP 1 rfl (inb.vp hz9) (v := (c_now ((((5 : Int32) * l1) + (4 : Int32))).toNatClampNeg)) rfl dX6_isFor_9 ?_
  obtain rfl := Option.some.inj h
  exact ret_i X dX6_isFor_10 hP hD hS rfl
end
set_option maxRecDepth 100000 in
theorem c_X6_isFor (l : Launch) (E : Env0) (a_t : Nat) (a_now : Nat) (a_refused : Nat) (a_kept : Nat) (a_mind : Nat) (a_tape : Nat) (a_words : Nat) (a_wCell : Nat) (a_wFaces : Nat) (a_wTurns : Nat) (a_wSign : Nat) (a_wBy : Nat) (a_wFell : Nat) (a_telling : Nat) (a_holds : Nat) (a_sizes : Nat) (a_elements : Nat) (a_moved : Nat) (a_above : Nat) (a_out : Nat) (a_first : Nat) (l1 : Int32) (c_t : Nat → Int32) (c_now : Nat → Int32) (sz : Nat) (res : Int32) (h : f_X6_isFor l1 c_t c_now = some res) : Met l yX6_isFor wsX6_isFor r_X6_isFor (cPre E [.ref a_t, .int l1] (W_X6_isFor E a_t a_now a_refused a_kept a_mind a_tape a_words a_wCell a_wFaces a_wTurns a_wSign a_wBy a_wFell a_telling a_holds a_sizes a_elements a_moved a_above a_out a_first c_t c_now) sz) (qI E (va_A (W_X6_isFor E a_t a_now a_refused a_kept a_mind a_tape a_words a_wCell a_wFaces a_wTurns a_wSign a_wBy a_wFell a_telling a_holds a_sizes a_elements a_moved a_above a_out a_first c_t c_now) sz) res (W_X6_isFor E a_t a_now a_refused a_kept a_mind a_tape a_words a_wCell a_wFaces a_wTurns a_wSign a_wBy a_wFell a_telling a_holds a_sizes a_elements a_moved a_above a_out a_first c_t c_now)) 0 0 (va_A (W_X6_isFor E a_t a_now a_refused a_kept a_mind a_tape a_words a_wCell a_wFaces a_wTurns a_wSign a_wBy a_wFell a_telling a_holds a_sizes a_elements a_moved a_above a_out a_first c_t c_now) sz) :=
  met_of (Qc := fun A => qI E A res (W_X6_isFor E a_t a_now a_refused a_kept a_mind a_tape a_words a_wCell a_wFaces a_wTurns a_wSign a_wBy a_wFell a_telling a_holds a_sizes a_elements a_moved a_above a_out a_first c_t c_now)) (by decide) rfl (Nat.le_of_ble_eq_true rfl) (fun p e s m args below meth c X hP hD hS ls hl => w_X6_isFor X a_t a_now a_refused a_kept a_mind a_tape a_words a_wCell a_wFaces a_wTurns a_wSign a_wBy a_wFell a_telling a_holds a_sizes a_elements a_moved a_above a_out a_first c_t c_now res l1 ls _ _ h hP hD hS hl)
-- ===== X6_isCell
noncomputable abbrev W_X6_isCell (E : Env0) (a_t : Nat) (a_now : Nat) (a_refused : Nat) (a_kept : Nat) (a_mind : Nat) (a_tape : Nat) (a_words : Nat) (a_wCell : Nat) (a_wFaces : Nat) (a_wTurns : Nat) (a_wSign : Nat) (a_wBy : Nat) (a_wFell : Nat) (a_telling : Nat) (a_holds : Nat) (a_sizes : Nat) (a_elements : Nat) (a_moved : Nat) (a_above : Nat) (a_out : Nat) (a_first : Nat) (c_t : Nat → Int32) (c_now : Nat → Int32) : va_W := [(a_t, .inr (6, [.ref a_refused, .ref a_now, .ref a_kept, .ref a_mind, .int (c_t 4), .ref a_tape, .int (c_t 6), .int (c_t 7), .int (c_t 8), .int (c_t 9), .ref a_words, .ref a_wCell, .ref a_wFaces, .ref a_wTurns, .ref a_wSign, .ref a_wBy, .ref a_wFell, .int (c_t 17), .ref a_telling, .ref a_holds, .ref a_sizes, .ref a_elements, .ref a_moved, .ref a_above, .ref a_out, .ref a_first])), (a_now, .inl (eI E, 97, .inl c_now))]
noncomputable abbrev r_X6_isCell : Room := { frames := 0, cells := 0, slots := 0, locals := 0 }
theorem hd_X6_isCell : yX6_isCell.cls ≠ "java/lang/invoke/MethodHandle" ∧ yX6_isCell.cls ≠ "java/lang/invoke/VarHandle" ∧ (parseMethodDescriptor yX6_isCell.desc).map (fun d => d.parameters.length) = some 1 := by decide +kernel
theorem hV_X6_isCell : yX6_isCell.cls = RX6 ∧ yX6_isCell.cls ≠ "java/lang/invoke/MethodHandle" ∧ yX6_isCell.cls ≠ "java/lang/invoke/VarHandle" ∧ (parseMethodDescriptor yX6_isCell.desc).map (fun d => d.parameters.length) = some 1 := ⟨rfl, hd_X6_isCell⟩
theorem iX6_isCell_X6 : ∀ w ∈ wsX60, w ∈ wsX6_isCell := fun _ h => List.mem_cons_of_mem _ (List.mem_append_right _ (h))
section
variable {p : Program} {l : Launch} {e : Env} {s : State} {m : MethodId} {args : Array Value} {below : List Frame} {meth : Method} {c : Code} {E : Env0} {A : Nat → Prop}
set_option maxRecDepth 100000 in
set_option maxHeartbeats 4000000 in
theorem w_X6_isCell (X : Ctx p m meth c cX6_isCell 2 ((some .boolean)) s args wsX6_isCell RX6 E A) (a_t : Nat) (a_now : Nat) (a_refused : Nat) (a_kept : Nat) (a_mind : Nat) (a_tape : Nat) (a_words : Nat) (a_wCell : Nat) (a_wFaces : Nat) (a_wTurns : Nat) (a_wSign : Nat) (a_wBy : Nat) (a_wFell : Nat) (a_telling : Nat) (a_holds : Nat) (a_sizes : Nat) (a_elements : Nat) (a_moved : Nat) (a_above : Nat) (a_out : Nat) (a_first : Nat) (c_t : Nat → Int32) (c_now : Nat → Int32) (res : Int32) (l1 : Int32) (ls : Array Slot) (H : Heap) (locs : List Loc) (h : f_X6_isCell l1 c_t c_now = some res) (hP : va_P E.1 vwCl (W_X6_isCell E a_t a_now a_refused a_kept a_mind a_tape a_words a_wCell a_wFaces a_wTurns a_wSign a_wBy a_wFell a_telling a_holds a_sizes a_elements a_moved a_above a_out a_first c_t c_now) H) (hD : va_D A (W_X6_isCell E a_t a_now a_refused a_kept a_mind a_tape a_words a_wCell a_wFaces a_wTurns a_wSign a_wBy a_wFell a_telling a_holds a_sizes a_elements a_moved a_above a_out a_first c_t c_now)) (hS : va_S A s.heap H locs) (hl : lv_has ls 2 [(0, .ref a_t), (1, .int l1)]) : W p l e r_X6_isCell s m args below meth c H locs 0 0 (MQ below (qI E A res (W_X6_isCell E a_t a_now a_refused a_kept a_mind a_tape a_words a_wCell a_wFaces a_wTurns a_wSign a_wBy a_wFell a_telling a_holds a_sizes a_elements a_moved a_above a_out a_first c_t c_now)) args s 0 0 A) (F0 m 0 ls []) := by
  obtain ⟨hx, hb, hml, hr, hlk, hown, hts, hG, hA⟩ := id X
  have hK := hG.1
  have hN := hG.2.1
  unfold f_X6_isCell at h
  refine lv_iload_n hx hb dX6_isCell_0 rfl (lv_at hl 1 rfl) ?_
  refine lv_if_lt (tgt := 36) hx hb dX6_isCell_1 (by decide) (fun hc1 => ?_) (fun hc1 => ?_)
  · have h := if_t h hc1
    refine lv_iconst (v := (0 : Int32)) hx hb dX6_isCell_36 (by decide) ?_
    obtain rfl := Option.some.inj h
    exact ret_z X dX6_isCell_37 (by decide) hP hD hS rfl
  · have h := if_f h hc1
    refine lv_iload_n hx hb dX6_isCell_4 rfl (lv_at hl 1 rfl) ?_
    refine lv_bipush (v := (10 : Int32)) hx hb dX6_isCell_5 (by decide) ?_
    refine lv_idiv hx hb dX6_isCell_7 (by decide) ?_
    refine lv_aload_n hx hb dX6_isCell_8 rfl (lv_at hl 0 rfl) ?_
    refine va_get (D := E.1) (ci := 6) (v := .ref a_now) (C := RX6) (T := TX6) (N := 26) hx hb hts iX6_isCell_X6 hown hK hP 0 rfl rfl 1 (by decide) (hts (.fieldLink RX6 17 "LeftIsAgreedOnModel" "now" "[I") (List.mem_of_getElem? (i := 1) rfl)) (fun _ h9 => h9) rfl dX6_isCell_9 ?_
    refine lv_bipush (v := (90 : Int32)) hx hb dX6_isCell_12 (by decide) ?_
    refine ld_i X hP 1 rfl (inb.vp (by decide)) (v := (c_now 90)) rfl dX6_isCell_14 ?_
    refine lv_icmp_ge (tgt := 36) hx hb dX6_isCell_15 (by decide) (fun hc15 => ?_) (fun hc15 => ?_)
    · have h := if_t h hc15
      refine lv_iconst (v := (0 : Int32)) hx hb dX6_isCell_36 (by decide) ?_
      obtain rfl := Option.some.inj h
      exact ret_z X dX6_isCell_37 (by decide) hP hD hS rfl
    · have h := if_f h hc15
      refine lv_iload_n hx hb dX6_isCell_18 rfl (lv_at hl 1 rfl) ?_
      refine lv_bipush (v := (10 : Int32)) hx hb dX6_isCell_19 (by decide) ?_
      refine lv_irem hx hb dX6_isCell_21 (by decide) ?_
      refine lv_aload_n hx hb dX6_isCell_22 rfl (lv_at hl 0 rfl) ?_
      refine va_get (D := E.1) (ci := 6) (v := .ref a_now) (C := RX6) (T := TX6) (N := 26) hx hb hts iX6_isCell_X6 hown hK hP 0 rfl rfl 1 (by decide) (hts (.fieldLink RX6 17 "LeftIsAgreedOnModel" "now" "[I") (List.mem_of_getElem? (i := 1) rfl)) (fun _ h9 => h9) rfl dX6_isCell_23 ?_
      refine lv_bipush (v := (90 : Int32)) hx hb dX6_isCell_26 (by decide) ?_
      refine ld_i X hP 1 rfl (inb.vp (by decide)) (v := (c_now 90)) rfl dX6_isCell_28 ?_
      refine lv_icmp_ge (tgt := 36) hx hb dX6_isCell_29 (by decide) (fun hc29 => ?_) (fun hc29 => ?_)
      · have h := if_t h hc29
        refine lv_iconst (v := (0 : Int32)) hx hb dX6_isCell_36 (by decide) ?_
        obtain rfl := Option.some.inj h
        exact ret_z X dX6_isCell_37 (by decide) hP hD hS rfl
      · have h := if_f h hc29
        refine lv_iconst (v := (1 : Int32)) hx hb dX6_isCell_32 (by decide) ?_
        refine lv_goto (tgt := 37) hx hb dX6_isCell_33 (by decide) ?_
        obtain rfl := Option.some.inj h
        exact ret_z X dX6_isCell_37 (by decide) hP hD hS rfl
end
set_option maxRecDepth 100000 in
theorem c_X6_isCell (l : Launch) (E : Env0) (a_t : Nat) (a_now : Nat) (a_refused : Nat) (a_kept : Nat) (a_mind : Nat) (a_tape : Nat) (a_words : Nat) (a_wCell : Nat) (a_wFaces : Nat) (a_wTurns : Nat) (a_wSign : Nat) (a_wBy : Nat) (a_wFell : Nat) (a_telling : Nat) (a_holds : Nat) (a_sizes : Nat) (a_elements : Nat) (a_moved : Nat) (a_above : Nat) (a_out : Nat) (a_first : Nat) (l1 : Int32) (c_t : Nat → Int32) (c_now : Nat → Int32) (sz : Nat) (res : Int32) (h : f_X6_isCell l1 c_t c_now = some res) : Met l yX6_isCell wsX6_isCell r_X6_isCell (cPre E [.ref a_t, .int l1] (W_X6_isCell E a_t a_now a_refused a_kept a_mind a_tape a_words a_wCell a_wFaces a_wTurns a_wSign a_wBy a_wFell a_telling a_holds a_sizes a_elements a_moved a_above a_out a_first c_t c_now) sz) (qI E (va_A (W_X6_isCell E a_t a_now a_refused a_kept a_mind a_tape a_words a_wCell a_wFaces a_wTurns a_wSign a_wBy a_wFell a_telling a_holds a_sizes a_elements a_moved a_above a_out a_first c_t c_now) sz) res (W_X6_isCell E a_t a_now a_refused a_kept a_mind a_tape a_words a_wCell a_wFaces a_wTurns a_wSign a_wBy a_wFell a_telling a_holds a_sizes a_elements a_moved a_above a_out a_first c_t c_now)) 0 0 (va_A (W_X6_isCell E a_t a_now a_refused a_kept a_mind a_tape a_words a_wCell a_wFaces a_wTurns a_wSign a_wBy a_wFell a_telling a_holds a_sizes a_elements a_moved a_above a_out a_first c_t c_now) sz) :=
  met_of (Qc := fun A => qI E A res (W_X6_isCell E a_t a_now a_refused a_kept a_mind a_tape a_words a_wCell a_wFaces a_wTurns a_wSign a_wBy a_wFell a_telling a_holds a_sizes a_elements a_moved a_above a_out a_first c_t c_now)) (by decide) rfl (Nat.le_of_ble_eq_true rfl) (fun p e s m args below meth c X hP hD hS ls hl => w_X6_isCell X a_t a_now a_refused a_kept a_mind a_tape a_words a_wCell a_wFaces a_wTurns a_wSign a_wBy a_wFell a_telling a_holds a_sizes a_elements a_moved a_above a_out a_first c_t c_now res l1 ls _ _ h hP hD hS hl)
-- ===== X6_pondAt
noncomputable abbrev W_X6_pondAt (E : Env0) : va_W := []
noncomputable abbrev r_X6_pondAt : Room := { frames := 0, cells := 0, slots := 0, locals := 0 }
theorem hd_X6_pondAt : yX6_pondAt.cls ≠ "java/lang/invoke/MethodHandle" ∧ yX6_pondAt.cls ≠ "java/lang/invoke/VarHandle" ∧ (parseMethodDescriptor yX6_pondAt.desc).map (fun d => d.parameters.length) = some 1 := by decide +kernel
section
variable {p : Program} {l : Launch} {e : Env} {s : State} {m : MethodId} {args : Array Value} {below : List Frame} {meth : Method} {c : Code} {E : Env0} {A : Nat → Prop}
set_option maxRecDepth 100000 in
set_option maxHeartbeats 4000000 in
theorem w_X6_pondAt (X : Ctx p m meth c cX6_pondAt 1 ((some .int)) s args wsX6_pondAt RX6 E A) (res : Int32) (l0 : Int32) (ls : Array Slot) (H : Heap) (locs : List Loc) (h : f_X6_pondAt l0 = some res) (hP : va_P E.1 vwCl (W_X6_pondAt E) H) (hD : va_D A (W_X6_pondAt E)) (hS : va_S A s.heap H locs) (hl : lv_has ls 1 [(0, .int l0)]) : W p l e r_X6_pondAt s m args below meth c H locs 0 0 (MQ below (qI E A res (W_X6_pondAt E)) args s 0 0 A) (F0 m 0 ls []) := by
  obtain ⟨hx, hb, hml, hr, hlk, hown, hts, hG, hA⟩ := id X
  have hK := hG.1
  have hN := hG.2.1
  unfold f_X6_pondAt at h
  refine lv_bipush (v := (40 : Int32)) hx hb dX6_pondAt_0 (by decide) ?_
  refine lv_bipush (v := (7 : Int32)) hx hb dX6_pondAt_2 (by decide) ?_
  refine lv_iload_n hx hb dX6_pondAt_4 rfl (lv_at hl 0 rfl) ?_
  refine lv_bipush (v := (10 : Int32)) hx hb dX6_pondAt_5 (by decide) ?_
  refine lv_idiv hx hb dX6_pondAt_7 (by decide) ?_
  refine lv_imul hx hb dX6_pondAt_8 ?_
  refine lv_iadd hx hb dX6_pondAt_9 ?_
  refine lv_iload_n hx hb dX6_pondAt_10 rfl (lv_at hl 0 rfl) ?_
  refine lv_bipush (v := (10 : Int32)) hx hb dX6_pondAt_11 (by decide) ?_
  refine lv_irem hx hb dX6_pondAt_13 (by decide) ?_
  refine lv_iadd hx hb dX6_pondAt_14 ?_
  obtain rfl := Option.some.inj h
  exact ret_i X dX6_pondAt_15 hP hD hS rfl
end
set_option maxRecDepth 100000 in
theorem c_X6_pondAt (l : Launch) (E : Env0) (l0 : Int32) (sz : Nat) (res : Int32) (h : f_X6_pondAt l0 = some res) : Met l yX6_pondAt wsX6_pondAt r_X6_pondAt (cPre E [.int l0] (W_X6_pondAt E) sz) (qI E (va_A (W_X6_pondAt E) sz) res (W_X6_pondAt E)) 0 0 (va_A (W_X6_pondAt E) sz) :=
  met_of (Qc := fun A => qI E A res (W_X6_pondAt E)) (by decide) rfl (Nat.le_of_ble_eq_true rfl) (fun p e s m args below meth c X hP hD hS ls hl => w_X6_pondAt X res l0 ls _ _ h hP hD hS hl)
-- ===== X6_hasPond
noncomputable abbrev W_X6_hasPond (E : Env0) (a_t : Nat) (a_now : Nat) (a_refused : Nat) (a_kept : Nat) (a_mind : Nat) (a_tape : Nat) (a_words : Nat) (a_wCell : Nat) (a_wFaces : Nat) (a_wTurns : Nat) (a_wSign : Nat) (a_wBy : Nat) (a_wFell : Nat) (a_telling : Nat) (a_holds : Nat) (a_sizes : Nat) (a_elements : Nat) (a_moved : Nat) (a_above : Nat) (a_out : Nat) (a_first : Nat) (c_t : Nat → Int32) (c_now : Nat → Int32) : va_W := [(a_t, .inr (6, [.ref a_refused, .ref a_now, .ref a_kept, .ref a_mind, .int (c_t 4), .ref a_tape, .int (c_t 6), .int (c_t 7), .int (c_t 8), .int (c_t 9), .ref a_words, .ref a_wCell, .ref a_wFaces, .ref a_wTurns, .ref a_wSign, .ref a_wBy, .ref a_wFell, .int (c_t 17), .ref a_telling, .ref a_holds, .ref a_sizes, .ref a_elements, .ref a_moved, .ref a_above, .ref a_out, .ref a_first])), (a_now, .inl (eI E, 97, .inl c_now))]
noncomputable abbrev r_X6_hasPond : Room := { frames := 1, cells := 0, slots := 0, locals := 20 }
theorem hd_X6_hasPond : yX6_hasPond.cls ≠ "java/lang/invoke/MethodHandle" ∧ yX6_hasPond.cls ≠ "java/lang/invoke/VarHandle" ∧ (parseMethodDescriptor yX6_hasPond.desc).map (fun d => d.parameters.length) = some 1 := by decide +kernel
theorem hV_X6_hasPond : yX6_hasPond.cls = RX6 ∧ yX6_hasPond.cls ≠ "java/lang/invoke/MethodHandle" ∧ yX6_hasPond.cls ≠ "java/lang/invoke/VarHandle" ∧ (parseMethodDescriptor yX6_hasPond.desc).map (fun d => d.parameters.length) = some 1 := ⟨rfl, hd_X6_hasPond⟩
theorem iX6_hasPond_X6 : ∀ w ∈ wsX60, w ∈ wsX6_hasPond := fun _ h => List.mem_cons_of_mem _ (List.mem_append_right _ (h))
section
variable {p : Program} {l : Launch} {e : Env} {s : State} {m : MethodId} {args : Array Value} {below : List Frame} {meth : Method} {c : Code} {E : Env0} {A : Nat → Prop}
set_option maxRecDepth 100000 in
set_option maxHeartbeats 4000000 in
theorem w_X6_hasPond (X : Ctx p m meth c cX6_hasPond 2 ((some .boolean)) s args wsX6_hasPond RX6 E A) (a_t : Nat) (a_now : Nat) (a_refused : Nat) (a_kept : Nat) (a_mind : Nat) (a_tape : Nat) (a_words : Nat) (a_wCell : Nat) (a_wFaces : Nat) (a_wTurns : Nat) (a_wSign : Nat) (a_wBy : Nat) (a_wFell : Nat) (a_telling : Nat) (a_holds : Nat) (a_sizes : Nat) (a_elements : Nat) (a_moved : Nat) (a_above : Nat) (a_out : Nat) (a_first : Nat) (c_t : Nat → Int32) (c_now : Nat → Int32) (res : Int32) (l1 : Int32) (ls : Array Slot) (H : Heap) (locs : List Loc) (h : f_X6_hasPond l1 c_t c_now = some res) (hP : va_P E.1 vwCl (W_X6_hasPond E a_t a_now a_refused a_kept a_mind a_tape a_words a_wCell a_wFaces a_wTurns a_wSign a_wBy a_wFell a_telling a_holds a_sizes a_elements a_moved a_above a_out a_first c_t c_now) H) (hD : va_D A (W_X6_hasPond E a_t a_now a_refused a_kept a_mind a_tape a_words a_wCell a_wFaces a_wTurns a_wSign a_wBy a_wFell a_telling a_holds a_sizes a_elements a_moved a_above a_out a_first c_t c_now)) (hS : va_S A s.heap H locs) (hl : lv_has ls 2 [(0, .ref a_t), (1, .int l1)]) : W p l e r_X6_hasPond s m args below meth c H locs 0 0 (MQ below (qI E A res (W_X6_hasPond E a_t a_now a_refused a_kept a_mind a_tape a_words a_wCell a_wFaces a_wTurns a_wSign a_wBy a_wFell a_telling a_holds a_sizes a_elements a_moved a_above a_out a_first c_t c_now)) args s 0 0 A) (F0 m 0 ls []) := by
  obtain ⟨hx, hb, hml, hr, hlk, hown, hts, hG, hA⟩ := id X
  have hK := hG.1
  have hN := hG.2.1
  unfold f_X6_hasPond at h
  refine lv_aload_n hx hb dX6_hasPond_0 rfl (lv_at hl 0 rfl) ?_
  refine va_get (D := E.1) (ci := 6) (v := .ref a_now) (C := RX6) (T := TX6) (N := 26) hx hb hts iX6_hasPond_X6 hown hK hP 0 rfl rfl 1 (by decide) (hts (.fieldLink RX6 17 "LeftIsAgreedOnModel" "now" "[I") (List.mem_of_getElem? (i := 1) rfl)) (fun _ h9 => h9) rfl dX6_hasPond_1 ?_
  refine lv_iload_n hx hb dX6_hasPond_4 rfl (lv_at hl 1 rfl) ?_
  obtain ⟨v1, hv1, h⟩ := bind_of h
  refine after_i X (run_S X (c_X6_pondAt l E l1 H.size v1 hv1) (va_cwS 1 hts gX6_hasPond_X6_pondAt rfl rfl rfl hd_X6_pondAt ⟨(Nat.le_of_ble_eq_true rfl), (Nat.le_of_ble_eq_true rfl)⟩) hP hD hS [] rfl rfl hl.1 (rest := [.ref a_now]) rfl rfl (Nat.le_of_ble_eq_true rfl) dX6_hasPond_5) hP hD hS [] rfl (ws1 := (W_X6_hasPond E a_t a_now a_refused a_kept a_mind a_tape a_words a_wCell a_wFaces a_wTurns a_wSign a_wBy a_wFell a_telling a_holds a_sizes a_elements a_moved a_above a_out a_first c_t c_now)) rfl (fun H locs hP hD hS => ?_)
  obtain ⟨hz8, h⟩ := chk_of h
  refine ld_i X hP 1 rfl (inb.vp hz8) (v := (c_now (v1).toNatClampNeg)) rfl dX6_hasPond_8 ?_
  refine lv_iconst (v := (1 : Int32)) hx hb dX6_hasPond_9 (by decide) ?_
  refine lv_icmp_ne (tgt := 17) hx hb dX6_hasPond_10 (by decide) (fun hc10 => ?_) (fun hc10 => ?_)
  · have h := if_f h hc10
    refine lv_iconst (v := (0 : Int32)) hx hb dX6_hasPond_17 (by decide) ?_
    obtain rfl := Option.some.inj h
    exact ret_z X dX6_hasPond_18 (by decide) hP hD hS rfl
  · have h := if_t h hc10
    refine lv_iconst (v := (1 : Int32)) hx hb dX6_hasPond_13 (by decide) ?_
    refine lv_goto (tgt := 18) hx hb dX6_hasPond_14 (by decide) ?_
    obtain rfl := Option.some.inj h
    exact ret_z X dX6_hasPond_18 (by decide) hP hD hS rfl
end
set_option maxRecDepth 100000 in
theorem c_X6_hasPond (l : Launch) (E : Env0) (a_t : Nat) (a_now : Nat) (a_refused : Nat) (a_kept : Nat) (a_mind : Nat) (a_tape : Nat) (a_words : Nat) (a_wCell : Nat) (a_wFaces : Nat) (a_wTurns : Nat) (a_wSign : Nat) (a_wBy : Nat) (a_wFell : Nat) (a_telling : Nat) (a_holds : Nat) (a_sizes : Nat) (a_elements : Nat) (a_moved : Nat) (a_above : Nat) (a_out : Nat) (a_first : Nat) (l1 : Int32) (c_t : Nat → Int32) (c_now : Nat → Int32) (sz : Nat) (res : Int32) (h : f_X6_hasPond l1 c_t c_now = some res) : Met l yX6_hasPond wsX6_hasPond r_X6_hasPond (cPre E [.ref a_t, .int l1] (W_X6_hasPond E a_t a_now a_refused a_kept a_mind a_tape a_words a_wCell a_wFaces a_wTurns a_wSign a_wBy a_wFell a_telling a_holds a_sizes a_elements a_moved a_above a_out a_first c_t c_now) sz) (qI E (va_A (W_X6_hasPond E a_t a_now a_refused a_kept a_mind a_tape a_words a_wCell a_wFaces a_wTurns a_wSign a_wBy a_wFell a_telling a_holds a_sizes a_elements a_moved a_above a_out a_first c_t c_now) sz) res (W_X6_hasPond E a_t a_now a_refused a_kept a_mind a_tape a_words a_wCell a_wFaces a_wTurns a_wSign a_wBy a_wFell a_telling a_holds a_sizes a_elements a_moved a_above a_out a_first c_t c_now)) 0 0 (va_A (W_X6_hasPond E a_t a_now a_refused a_kept a_mind a_tape a_words a_wCell a_wFaces a_wTurns a_wSign a_wBy a_wFell a_telling a_holds a_sizes a_elements a_moved a_above a_out a_first c_t c_now) sz) :=
  met_of (Qc := fun A => qI E A res (W_X6_hasPond E a_t a_now a_refused a_kept a_mind a_tape a_words a_wCell a_wFaces a_wTurns a_wSign a_wBy a_wFell a_telling a_holds a_sizes a_elements a_moved a_above a_out a_first c_t c_now)) (by decide) rfl (Nat.le_of_ble_eq_true rfl) (fun p e s m args below meth c X hP hD hS ls hl => w_X6_hasPond X a_t a_now a_refused a_kept a_mind a_tape a_words a_wCell a_wFaces a_wTurns a_wSign a_wBy a_wFell a_telling a_holds a_sizes a_elements a_moved a_above a_out a_first c_t c_now res l1 ls _ _ h hP hD hS hl)
-- ===== X6_isSomebody
noncomputable abbrev W_X6_isSomebody (E : Env0) (a_t : Nat) (a_now : Nat) (a_refused : Nat) (a_kept : Nat) (a_mind : Nat) (a_tape : Nat) (a_words : Nat) (a_wCell : Nat) (a_wFaces : Nat) (a_wTurns : Nat) (a_wSign : Nat) (a_wBy : Nat) (a_wFell : Nat) (a_telling : Nat) (a_holds : Nat) (a_sizes : Nat) (a_elements : Nat) (a_moved : Nat) (a_above : Nat) (a_out : Nat) (a_first : Nat) (c_t : Nat → Int32) (c_now : Nat → Int32) : va_W := [(a_t, .inr (6, [.ref a_refused, .ref a_now, .ref a_kept, .ref a_mind, .int (c_t 4), .ref a_tape, .int (c_t 6), .int (c_t 7), .int (c_t 8), .int (c_t 9), .ref a_words, .ref a_wCell, .ref a_wFaces, .ref a_wTurns, .ref a_wSign, .ref a_wBy, .ref a_wFell, .int (c_t 17), .ref a_telling, .ref a_holds, .ref a_sizes, .ref a_elements, .ref a_moved, .ref a_above, .ref a_out, .ref a_first])), (a_now, .inl (eI E, 97, .inl c_now))]
noncomputable abbrev r_X6_isSomebody : Room := { frames := 1, cells := 0, slots := 0, locals := 21 }
theorem hd_X6_isSomebody : yX6_isSomebody.cls ≠ "java/lang/invoke/MethodHandle" ∧ yX6_isSomebody.cls ≠ "java/lang/invoke/VarHandle" ∧ (parseMethodDescriptor yX6_isSomebody.desc).map (fun d => d.parameters.length) = some 1 := by decide +kernel
theorem hV_X6_isSomebody : yX6_isSomebody.cls = RX6 ∧ yX6_isSomebody.cls ≠ "java/lang/invoke/MethodHandle" ∧ yX6_isSomebody.cls ≠ "java/lang/invoke/VarHandle" ∧ (parseMethodDescriptor yX6_isSomebody.desc).map (fun d => d.parameters.length) = some 1 := ⟨rfl, hd_X6_isSomebody⟩
section
variable {p : Program} {l : Launch} {e : Env} {s : State} {m : MethodId} {args : Array Value} {below : List Frame} {meth : Method} {c : Code} {E : Env0} {A : Nat → Prop}
set_option maxRecDepth 100000 in
set_option maxHeartbeats 4000000 in
theorem w_X6_isSomebody_b30 (X : Ctx p m meth c cX6_isSomebody 4 ((some .boolean)) s args wsX6_isSomebody RX6 E A) (a_t : Nat) (a_now : Nat) (a_refused : Nat) (a_kept : Nat) (a_mind : Nat) (a_tape : Nat) (a_words : Nat) (a_wCell : Nat) (a_wFaces : Nat) (a_wTurns : Nat) (a_wSign : Nat) (a_wBy : Nat) (a_wFell : Nat) (a_telling : Nat) (a_holds : Nat) (a_sizes : Nat) (a_elements : Nat) (a_moved : Nat) (a_above : Nat) (a_out : Nat) (a_first : Nat) (c_t : Nat → Int32) (c_now : Nat → Int32) (res : Int32) (k4 : Int32 → Int32 → Int32 → Option (Int32)) (hk4 : ∀ (l1 : Int32) (l2 : Int32) (l3 : Int32) (ls : Array Slot) (H : Heap) (locs : List Loc), k4 l1 l2 l3 = some res → va_P E.1 vwCl (W_X6_isSomebody E a_t a_now a_refused a_kept a_mind a_tape a_words a_wCell a_wFaces a_wTurns a_wSign a_wBy a_wFell a_telling a_holds a_sizes a_elements a_moved a_above a_out a_first c_t c_now) H → va_D A (W_X6_isSomebody E a_t a_now a_refused a_kept a_mind a_tape a_words a_wCell a_wFaces a_wTurns a_wSign a_wBy a_wFell a_telling a_holds a_sizes a_elements a_moved a_above a_out a_first c_t c_now) → va_S A s.heap H locs → lv_has ls 4 [(0, .ref a_t), (1, .int l1), (2, .int l2), (3, .int l3)] → W p l e r_X6_isSomebody s m args below meth c H locs 0 0 (MQ below (qI E A res (W_X6_isSomebody E a_t a_now a_refused a_kept a_mind a_tape a_words a_wCell a_wFaces a_wTurns a_wSign a_wBy a_wFell a_telling a_holds a_sizes a_elements a_moved a_above a_out a_first c_t c_now)) args s 0 0 A) (F0 m 4 ls [])) (l1 : Int32) (l3 : Int32) (s0 : Int32) (ls : Array Slot) (H : Heap) (locs : List Loc) (h : f_X6_isSomebody_b30 c_t c_now k4 l1 l3 s0 = some res) (hP : va_P E.1 vwCl (W_X6_isSomebody E a_t a_now a_refused a_kept a_mind a_tape a_words a_wCell a_wFaces a_wTurns a_wSign a_wBy a_wFell a_telling a_holds a_sizes a_elements a_moved a_above a_out a_first c_t c_now) H) (hD : va_D A (W_X6_isSomebody E a_t a_now a_refused a_kept a_mind a_tape a_words a_wCell a_wFaces a_wTurns a_wSign a_wBy a_wFell a_telling a_holds a_sizes a_elements a_moved a_above a_out a_first c_t c_now)) (hS : va_S A s.heap H locs) (hl : lv_has ls 4 [(0, .ref a_t), (1, .int l1), (3, .int l3)]) : W p l e r_X6_isSomebody s m args below meth c H locs 0 0 (MQ below (qI E A res (W_X6_isSomebody E a_t a_now a_refused a_kept a_mind a_tape a_words a_wCell a_wFaces a_wTurns a_wSign a_wBy a_wFell a_telling a_holds a_sizes a_elements a_moved a_above a_out a_first c_t c_now)) args s 0 0 A) (F0 m 30 ls [.int s0]) := by
  obtain ⟨hx, hb, hml, hr, hlk, hown, hts, hG, hA⟩ := id X
  have hK := hG.1
  have hN := hG.2.1
  unfold f_X6_isSomebody_b30 at h
  refine lv_istore_n (lv' := [(2, .int s0), (0, .ref a_t), (1, .int l1), (3, .int l3)]) hx hb dX6_isSomebody_30 rfl hl (by decide) rfl (fun ls hl => ?_)
  refine lv_iinc (v := (l3 + (1 : Int32))) (lv' := [(3, .int (l3 + (1 : Int32))), (2, .int s0), (0, .ref a_t), (1, .int l1)]) hx hb dX6_isSomebody_31 hl (k := 3) rfl rfl (by decide) rfl (fun ls hl => ?_)
  refine lv_goto (tgt := 4) hx hb dX6_isSomebody_34 (by decide) ?_
  exact hk4 l1 s0 (l3 + (1 : Int32)) _ _ _ h hP hD hS (lv_sub hl [2, 3, 1, 0] rfl)
set_option maxRecDepth 100000 in
set_option maxHeartbeats 4000000 in
theorem w_X6_isSomebody_b25 (X : Ctx p m meth c cX6_isSomebody 4 ((some .boolean)) s args wsX6_isSomebody RX6 E A) (a_t : Nat) (a_now : Nat) (a_refused : Nat) (a_kept : Nat) (a_mind : Nat) (a_tape : Nat) (a_words : Nat) (a_wCell : Nat) (a_wFaces : Nat) (a_wTurns : Nat) (a_wSign : Nat) (a_wBy : Nat) (a_wFell : Nat) (a_telling : Nat) (a_holds : Nat) (a_sizes : Nat) (a_elements : Nat) (a_moved : Nat) (a_above : Nat) (a_out : Nat) (a_first : Nat) (c_t : Nat → Int32) (c_now : Nat → Int32) (res : Int32) (k4 : Int32 → Int32 → Int32 → Option (Int32)) (hk4 : ∀ (l1 : Int32) (l2 : Int32) (l3 : Int32) (ls : Array Slot) (H : Heap) (locs : List Loc), k4 l1 l2 l3 = some res → va_P E.1 vwCl (W_X6_isSomebody E a_t a_now a_refused a_kept a_mind a_tape a_words a_wCell a_wFaces a_wTurns a_wSign a_wBy a_wFell a_telling a_holds a_sizes a_elements a_moved a_above a_out a_first c_t c_now) H → va_D A (W_X6_isSomebody E a_t a_now a_refused a_kept a_mind a_tape a_words a_wCell a_wFaces a_wTurns a_wSign a_wBy a_wFell a_telling a_holds a_sizes a_elements a_moved a_above a_out a_first c_t c_now) → va_S A s.heap H locs → lv_has ls 4 [(0, .ref a_t), (1, .int l1), (2, .int l2), (3, .int l3)] → W p l e r_X6_isSomebody s m args below meth c H locs 0 0 (MQ below (qI E A res (W_X6_isSomebody E a_t a_now a_refused a_kept a_mind a_tape a_words a_wCell a_wFaces a_wTurns a_wSign a_wBy a_wFell a_telling a_holds a_sizes a_elements a_moved a_above a_out a_first c_t c_now)) args s 0 0 A) (F0 m 4 ls [])) (l1 : Int32) (l3 : Int32) (ls : Array Slot) (H : Heap) (locs : List Loc) (h : f_X6_isSomebody_b25 c_t c_now k4 l1 l3 = some res) (hP : va_P E.1 vwCl (W_X6_isSomebody E a_t a_now a_refused a_kept a_mind a_tape a_words a_wCell a_wFaces a_wTurns a_wSign a_wBy a_wFell a_telling a_holds a_sizes a_elements a_moved a_above a_out a_first c_t c_now) H) (hD : va_D A (W_X6_isSomebody E a_t a_now a_refused a_kept a_mind a_tape a_words a_wCell a_wFaces a_wTurns a_wSign a_wBy a_wFell a_telling a_holds a_sizes a_elements a_moved a_above a_out a_first c_t c_now)) (hS : va_S A s.heap H locs) (hl : lv_has ls 4 [(0, .ref a_t), (1, .int l1), (3, .int l3)]) : W p l e r_X6_isSomebody s m args below meth c H locs 0 0 (MQ below (qI E A res (W_X6_isSomebody E a_t a_now a_refused a_kept a_mind a_tape a_words a_wCell a_wFaces a_wTurns a_wSign a_wBy a_wFell a_telling a_holds a_sizes a_elements a_moved a_above a_out a_first c_t c_now)) args s 0 0 A) (F0 m 25 ls []) := by
  obtain ⟨hx, hb, hml, hr, hlk, hown, hts, hG, hA⟩ := id X
  have hK := hG.1
  have hN := hG.2.1
  unfold f_X6_isSomebody_b25 at h
  refine lv_iconst (v := (1 : Int32)) hx hb dX6_isSomebody_25 (by decide) ?_
  refine lv_goto (tgt := 30) hx hb dX6_isSomebody_26 (by decide) ?_
  exact w_X6_isSomebody_b30 X a_t a_now a_refused a_kept a_mind a_tape a_words a_wCell a_wFaces a_wTurns a_wSign a_wBy a_wFell a_telling a_holds a_sizes a_elements a_moved a_above a_out a_first c_t c_now res k4 hk4 l1 l3 (1 : Int32) _ _ _ h hP hD hS (lv_sub hl [0, 1, 2] rfl)
set_option maxRecDepth 100000 in
set_option maxHeartbeats 4000000 in
theorem w_X6_isSomebody_b4 (X : Ctx p m meth c cX6_isSomebody 4 ((some .boolean)) s args wsX6_isSomebody RX6 E A) (a_t : Nat) (a_now : Nat) (a_refused : Nat) (a_kept : Nat) (a_mind : Nat) (a_tape : Nat) (a_words : Nat) (a_wCell : Nat) (a_wFaces : Nat) (a_wTurns : Nat) (a_wSign : Nat) (a_wBy : Nat) (a_wFell : Nat) (a_telling : Nat) (a_holds : Nat) (a_sizes : Nat) (a_elements : Nat) (a_moved : Nat) (a_above : Nat) (a_out : Nat) (a_first : Nat) (c_t : Nat → Int32) (c_now : Nat → Int32) (res : Int32) : ∀ (n : Nat) (l1 : Int32) (l2 : Int32) (l3 : Int32) (ls : Array Slot) (H : Heap) (locs : List Loc), f_X6_isSomebody_b4 c_t c_now n l1 l2 l3 = some res → va_P E.1 vwCl (W_X6_isSomebody E a_t a_now a_refused a_kept a_mind a_tape a_words a_wCell a_wFaces a_wTurns a_wSign a_wBy a_wFell a_telling a_holds a_sizes a_elements a_moved a_above a_out a_first c_t c_now) H → va_D A (W_X6_isSomebody E a_t a_now a_refused a_kept a_mind a_tape a_words a_wCell a_wFaces a_wTurns a_wSign a_wBy a_wFell a_telling a_holds a_sizes a_elements a_moved a_above a_out a_first c_t c_now) → va_S A s.heap H locs → lv_has ls 4 [(0, .ref a_t), (1, .int l1), (2, .int l2), (3, .int l3)] → W p l e r_X6_isSomebody s m args below meth c H locs 0 0 (MQ below (qI E A res (W_X6_isSomebody E a_t a_now a_refused a_kept a_mind a_tape a_words a_wCell a_wFaces a_wTurns a_wSign a_wBy a_wFell a_telling a_holds a_sizes a_elements a_moved a_above a_out a_first c_t c_now)) args s 0 0 A) (F0 m 4 ls []) := by
  obtain ⟨hx, hb, hml, hr, hlk, hown, hts, hG, hA⟩ := id X
  have hK := hG.1
  have hN := hG.2.1
  intro n
  induction n with
  | zero =>
    intro l1 l2 l3 ls H locs h
    exact absurd (show (none : Option (Int32)) = some res from h) (by intro q; cases q)
  | succ n ih =>
    intro l1 l2 l3 ls H locs h hP hD hS hl
    rw [f_X6_isSomebody_b4] at h
    refine lv_iload_n hx hb dX6_isSomebody_4 rfl (lv_at hl 3 rfl) ?_
    refine lv_aload_n hx hb dX6_isSomebody_5 rfl (lv_at hl 0 rfl) ?_
    obtain ⟨v1, hv1, h⟩ := bind_of h
    refine after_i X (run_V X (c_X6_many l E a_t a_now a_refused a_kept a_mind a_tape a_words a_wCell a_wFaces a_wTurns a_wSign a_wBy a_wFell a_telling a_holds a_sizes a_elements a_moved a_above a_out a_first c_t c_now H.size v1 hv1) (cwV 0 hts gX6_isSomebody_X6_many rfl rfl rfl hV_X6_many ⟨(Nat.le_of_ble_eq_true rfl), (Nat.le_of_ble_eq_true rfl)⟩) hP hD hS [0, 1] rfl rfl hl.1 (ci := 6) rfl rfl rfl (rest := [.int l3]) rfl rfl (Nat.le_of_ble_eq_true rfl) dX6_isSomebody_6) hP hD hS [0, 1] rfl (ws1 := (W_X6_isSomebody E a_t a_now a_refused a_kept a_mind a_tape a_words a_wCell a_wFaces a_wTurns a_wSign a_wBy a_wFell a_telling a_holds a_sizes a_elements a_moved a_above a_out a_first c_t c_now)) rfl (fun H locs hP hD hS => ?_)
    refine lv_icmp_ge (tgt := 37) hx hb dX6_isSomebody_9 (by decide) (fun hc9 => ?_) (fun hc9 => ?_)
    · have h := if_t h hc9
      refine lv_iload_n hx hb dX6_isSomebody_37 rfl (lv_at hl 2 rfl) ?_
      obtain ⟨hz38, h⟩ := chk_of h
      obtain rfl := Option.some.inj h
      exact ret_z X dX6_isSomebody_38 hz38 hP hD hS rfl
    · have h := if_f h hc9
      refine lv_iload_n hx hb dX6_isSomebody_12 rfl (lv_at hl 2 rfl) ?_
      refine lv_if_ne (tgt := 25) hx hb dX6_isSomebody_13 (by decide) (fun hc13 => ?_) (fun hc13 => ?_)
      · have h := if_f h hc13
        exact w_X6_isSomebody_b25 X a_t a_now a_refused a_kept a_mind a_tape a_words a_wCell a_wFaces a_wTurns a_wSign a_wBy a_wFell a_telling a_holds a_sizes a_elements a_moved a_above a_out a_first c_t c_now res (f_X6_isSomebody_b4 c_t c_now n) ih l1 l3 _ _ _ h hP hD hS (lv_sub hl [0, 1, 3] rfl)
      · have h := if_t h hc13
        refine lv_aload_n hx hb dX6_isSomebody_16 rfl (lv_at hl 0 rfl) ?_
        refine lv_iload_n hx hb dX6_isSomebody_17 rfl (lv_at hl 3 rfl) ?_
        obtain ⟨v2, hv2, h⟩ := bind_of h
        refine after_i X (run_V X (c_X6_cell l E a_t a_now a_refused a_kept a_mind a_tape a_words a_wCell a_wFaces a_wTurns a_wSign a_wBy a_wFell a_telling a_holds a_sizes a_elements a_moved a_above a_out a_first l3 c_t c_now H.size v2 hv2) (cwV 1 hts gX6_isSomebody_X6_cell rfl rfl rfl hV_X6_cell ⟨(Nat.le_of_ble_eq_true rfl), (Nat.le_of_ble_eq_true rfl)⟩) hP hD hS [0, 1] rfl rfl hl.1 (ci := 6) rfl rfl rfl (rest := []) rfl rfl (Nat.le_of_ble_eq_true rfl) dX6_isSomebody_18) hP hD hS [0, 1] rfl (ws1 := (W_X6_isSomebody E a_t a_now a_refused a_kept a_mind a_tape a_words a_wCell a_wFaces a_wTurns a_wSign a_wBy a_wFell a_telling a_holds a_sizes a_elements a_moved a_above a_out a_first c_t c_now)) rfl (fun H locs hP hD hS => ?_)
        refine lv_iload_n hx hb dX6_isSomebody_21 rfl (lv_at hl 1 rfl) ?_
        refine lv_icmp_ne (tgt := 29) hx hb dX6_isSomebody_22 (by decide) (fun hc22 => ?_) (fun hc22 => ?_)
        · have h := if_f h hc22
          refine lv_iconst (v := (0 : Int32)) hx hb dX6_isSomebody_29 (by decide) ?_
          exact w_X6_isSomebody_b30 X a_t a_now a_refused a_kept a_mind a_tape a_words a_wCell a_wFaces a_wTurns a_wSign a_wBy a_wFell a_telling a_holds a_sizes a_elements a_moved a_above a_out a_first c_t c_now res (f_X6_isSomebody_b4 c_t c_now n) ih l1 l3 (0 : Int32) _ _ _ h hP hD hS (lv_sub hl [0, 1, 3] rfl)
        · have h := if_t h hc22
          exact w_X6_isSomebody_b25 X a_t a_now a_refused a_kept a_mind a_tape a_words a_wCell a_wFaces a_wTurns a_wSign a_wBy a_wFell a_telling a_holds a_sizes a_elements a_moved a_above a_out a_first c_t c_now res (f_X6_isSomebody_b4 c_t c_now n) ih l1 l3 _ _ _ h hP hD hS (lv_sub hl [0, 1, 3] rfl)
set_option maxRecDepth 100000 in
set_option maxHeartbeats 4000000 in
theorem w_X6_isSomebody (X : Ctx p m meth c cX6_isSomebody 4 ((some .boolean)) s args wsX6_isSomebody RX6 E A) (a_t : Nat) (a_now : Nat) (a_refused : Nat) (a_kept : Nat) (a_mind : Nat) (a_tape : Nat) (a_words : Nat) (a_wCell : Nat) (a_wFaces : Nat) (a_wTurns : Nat) (a_wSign : Nat) (a_wBy : Nat) (a_wFell : Nat) (a_telling : Nat) (a_holds : Nat) (a_sizes : Nat) (a_elements : Nat) (a_moved : Nat) (a_above : Nat) (a_out : Nat) (a_first : Nat) (c_t : Nat → Int32) (c_now : Nat → Int32) (res : Int32) (l1 : Int32) (ls : Array Slot) (H : Heap) (locs : List Loc) (h : f_X6_isSomebody l1 c_t c_now = some res) (hP : va_P E.1 vwCl (W_X6_isSomebody E a_t a_now a_refused a_kept a_mind a_tape a_words a_wCell a_wFaces a_wTurns a_wSign a_wBy a_wFell a_telling a_holds a_sizes a_elements a_moved a_above a_out a_first c_t c_now) H) (hD : va_D A (W_X6_isSomebody E a_t a_now a_refused a_kept a_mind a_tape a_words a_wCell a_wFaces a_wTurns a_wSign a_wBy a_wFell a_telling a_holds a_sizes a_elements a_moved a_above a_out a_first c_t c_now)) (hS : va_S A s.heap H locs) (hl : lv_has ls 4 [(0, .ref a_t), (1, .int l1)]) : W p l e r_X6_isSomebody s m args below meth c H locs 0 0 (MQ below (qI E A res (W_X6_isSomebody E a_t a_now a_refused a_kept a_mind a_tape a_words a_wCell a_wFaces a_wTurns a_wSign a_wBy a_wFell a_telling a_holds a_sizes a_elements a_moved a_above a_out a_first c_t c_now)) args s 0 0 A) (F0 m 0 ls []) := by
  obtain ⟨hx, hb, hml, hr, hlk, hown, hts, hG, hA⟩ := id X
  have hK := hG.1
  have hN := hG.2.1
  unfold f_X6_isSomebody at h
  refine lv_iconst (v := (0 : Int32)) hx hb dX6_isSomebody_0 (by decide) ?_
  refine lv_istore_n (lv' := [(2, .int (0 : Int32)), (0, .ref a_t), (1, .int l1)]) hx hb dX6_isSomebody_1 rfl hl (by decide) rfl (fun ls hl => ?_)
  refine lv_iconst (v := (0 : Int32)) hx hb dX6_isSomebody_2 (by decide) ?_
  refine lv_istore_n (lv' := [(3, .int (0 : Int32)), (2, .int (0 : Int32)), (0, .ref a_t), (1, .int l1)]) hx hb dX6_isSomebody_3 rfl hl (by decide) rfl (fun ls hl => ?_)
  exact w_X6_isSomebody_b4 X a_t a_now a_refused a_kept a_mind a_tape a_words a_wCell a_wFaces a_wTurns a_wSign a_wBy a_wFell a_telling a_holds a_sizes a_elements a_moved a_above a_out a_first c_t c_now res FU l1 (0 : Int32) (0 : Int32) _ _ _ h hP hD hS (lv_sub hl [2, 3, 1, 0] rfl)
end
set_option maxRecDepth 100000 in
theorem c_X6_isSomebody (l : Launch) (E : Env0) (a_t : Nat) (a_now : Nat) (a_refused : Nat) (a_kept : Nat) (a_mind : Nat) (a_tape : Nat) (a_words : Nat) (a_wCell : Nat) (a_wFaces : Nat) (a_wTurns : Nat) (a_wSign : Nat) (a_wBy : Nat) (a_wFell : Nat) (a_telling : Nat) (a_holds : Nat) (a_sizes : Nat) (a_elements : Nat) (a_moved : Nat) (a_above : Nat) (a_out : Nat) (a_first : Nat) (l1 : Int32) (c_t : Nat → Int32) (c_now : Nat → Int32) (sz : Nat) (res : Int32) (h : f_X6_isSomebody l1 c_t c_now = some res) : Met l yX6_isSomebody wsX6_isSomebody r_X6_isSomebody (cPre E [.ref a_t, .int l1] (W_X6_isSomebody E a_t a_now a_refused a_kept a_mind a_tape a_words a_wCell a_wFaces a_wTurns a_wSign a_wBy a_wFell a_telling a_holds a_sizes a_elements a_moved a_above a_out a_first c_t c_now) sz) (qI E (va_A (W_X6_isSomebody E a_t a_now a_refused a_kept a_mind a_tape a_words a_wCell a_wFaces a_wTurns a_wSign a_wBy a_wFell a_telling a_holds a_sizes a_elements a_moved a_above a_out a_first c_t c_now) sz) res (W_X6_isSomebody E a_t a_now a_refused a_kept a_mind a_tape a_words a_wCell a_wFaces a_wTurns a_wSign a_wBy a_wFell a_telling a_holds a_sizes a_elements a_moved a_above a_out a_first c_t c_now)) 0 0 (va_A (W_X6_isSomebody E a_t a_now a_refused a_kept a_mind a_tape a_words a_wCell a_wFaces a_wTurns a_wSign a_wBy a_wFell a_telling a_holds a_sizes a_elements a_moved a_above a_out a_first c_t c_now) sz) :=
  met_of (Qc := fun A => qI E A res (W_X6_isSomebody E a_t a_now a_refused a_kept a_mind a_tape a_words a_wCell a_wFaces a_wTurns a_wSign a_wBy a_wFell a_telling a_holds a_sizes a_elements a_moved a_above a_out a_first c_t c_now)) (by decide) rfl (Nat.le_of_ble_eq_true rfl) (fun p e s m args below meth c X hP hD hS ls hl => w_X6_isSomebody X a_t a_now a_refused a_kept a_mind a_tape a_words a_wCell a_wFaces a_wTurns a_wSign a_wBy a_wFell a_telling a_holds a_sizes a_elements a_moved a_above a_out a_first c_t c_now res l1 ls _ _ h hP hD hS hl)
-- ===== X6_beside
noncomputable abbrev W_X6_beside (E : Env0) (a_t : Nat) (a_now : Nat) (a_refused : Nat) (a_kept : Nat) (a_mind : Nat) (a_tape : Nat) (a_words : Nat) (a_wCell : Nat) (a_wFaces : Nat) (a_wTurns : Nat) (a_wSign : Nat) (a_wBy : Nat) (a_wFell : Nat) (a_telling : Nat) (a_holds : Nat) (a_sizes : Nat) (a_elements : Nat) (a_moved : Nat) (a_above : Nat) (a_out : Nat) (a_first : Nat) (c_t : Nat → Int32) (c_now : Nat → Int32) : va_W := [(a_t, .inr (6, [.ref a_refused, .ref a_now, .ref a_kept, .ref a_mind, .int (c_t 4), .ref a_tape, .int (c_t 6), .int (c_t 7), .int (c_t 8), .int (c_t 9), .ref a_words, .ref a_wCell, .ref a_wFaces, .ref a_wTurns, .ref a_wSign, .ref a_wBy, .ref a_wFell, .int (c_t 17), .ref a_telling, .ref a_holds, .ref a_sizes, .ref a_elements, .ref a_moved, .ref a_above, .ref a_out, .ref a_first])), (a_now, .inl (eI E, 97, .inl c_now))]
noncomputable abbrev r_X6_beside : Room := { frames := 1, cells := 0, slots := 0, locals := 25 }
theorem hd_X6_beside : yX6_beside.cls ≠ "java/lang/invoke/MethodHandle" ∧ yX6_beside.cls ≠ "java/lang/invoke/VarHandle" ∧ (parseMethodDescriptor yX6_beside.desc).map (fun d => d.parameters.length) = some 2 := by decide +kernel
theorem hV_X6_beside : yX6_beside.cls = RX6 ∧ yX6_beside.cls ≠ "java/lang/invoke/MethodHandle" ∧ yX6_beside.cls ≠ "java/lang/invoke/VarHandle" ∧ (parseMethodDescriptor yX6_beside.desc).map (fun d => d.parameters.length) = some 2 := ⟨rfl, hd_X6_beside⟩
theorem iX6_beside_X6 : ∀ w ∈ wsX60, w ∈ wsX6_beside := fun _ h => List.mem_cons_of_mem _ (List.mem_append_right _ (h))
section
variable {p : Program} {l : Launch} {e : Env} {s : State} {m : MethodId} {args : Array Value} {below : List Frame} {meth : Method} {c : Code} {E : Env0} {A : Nat → Prop}
set_option maxRecDepth 100000 in
set_option maxHeartbeats 4000000 in
theorem w_X6_beside_b47 (X : Ctx p m meth c cX6_beside 5 ((some .int)) s args wsX6_beside RX6 E A) (a_t : Nat) (a_now : Nat) (a_refused : Nat) (a_kept : Nat) (a_mind : Nat) (a_tape : Nat) (a_words : Nat) (a_wCell : Nat) (a_wFaces : Nat) (a_wTurns : Nat) (a_wSign : Nat) (a_wBy : Nat) (a_wFell : Nat) (a_telling : Nat) (a_holds : Nat) (a_sizes : Nat) (a_elements : Nat) (a_moved : Nat) (a_above : Nat) (a_out : Nat) (a_first : Nat) (c_t : Nat → Int32) (c_now : Nat → Int32) (res : Int32) (l3 : Int32) (s0 : Int32) (s1 : Int32) (ls : Array Slot) (H : Heap) (locs : List Loc) (h : f_X6_beside_b47 c_t c_now l3 s0 s1 = some res) (hP : va_P E.1 vwCl (W_X6_beside E a_t a_now a_refused a_kept a_mind a_tape a_words a_wCell a_wFaces a_wTurns a_wSign a_wBy a_wFell a_telling a_holds a_sizes a_elements a_moved a_above a_out a_first c_t c_now) H) (hD : va_D A (W_X6_beside E a_t a_now a_refused a_kept a_mind a_tape a_words a_wCell a_wFaces a_wTurns a_wSign a_wBy a_wFell a_telling a_holds a_sizes a_elements a_moved a_above a_out a_first c_t c_now)) (hS : va_S A s.heap H locs) (hl : lv_has ls 5 [(0, .ref a_t), (3, .int l3)]) : W p l e r_X6_beside s m args below meth c H locs 0 0 (MQ below (qI E A res (W_X6_beside E a_t a_now a_refused a_kept a_mind a_tape a_words a_wCell a_wFaces a_wTurns a_wSign a_wBy a_wFell a_telling a_holds a_sizes a_elements a_moved a_above a_out a_first c_t c_now)) args s 0 0 A) (F0 m 47 ls [.int s0, .int s1]) := by
  obtain ⟨hx, hb, hml, hr, hlk, hown, hts, hG, hA⟩ := id X
  have hK := hG.1
  have hN := hG.2.1
  unfold f_X6_beside_b47 at h
  refine lv_iadd hx hb dX6_beside_47 ?_
  refine lv_istore (lv' := [(4, .int (s1 + s0)), (0, .ref a_t), (3, .int l3)]) hx hb dX6_beside_48 hl (by decide) rfl (fun ls hl => ?_)
  refine lv_iload_n hx hb dX6_beside_50 rfl (lv_at hl 2 rfl) ?_
  refine lv_i2l (v := (l3.toInt64)) hx hb dX6_beside_51 rfl ?_
  refine lv_lconst (v := (0 : Int64)) hx hb dX6_beside_52 (by decide) ?_
  refine lv_aload_n hx hb dX6_beside_53 rfl (lv_at hl 1 rfl) ?_
  refine va_get (D := E.1) (ci := 6) (v := .ref a_now) (C := RX6) (T := TX6) (N := 26) hx hb hts iX6_beside_X6 hown hK hP 0 rfl rfl 1 (by decide) (hts (.fieldLink RX6 17 "LeftIsAgreedOnModel" "now" "[I") (List.mem_of_getElem? (i := 1) rfl)) (fun _ h9 => h9) rfl dX6_beside_54 ?_
  refine lv_bipush (v := (90 : Int32)) hx hb dX6_beside_57 (by decide) ?_
  refine ld_i X hP 1 rfl (inb.vp (by decide)) (v := (c_now 90)) rfl dX6_beside_59 ?_
  refine lv_iconst (v := (1 : Int32)) hx hb dX6_beside_60 (by decide) ?_
  refine lv_isub hx hb dX6_beside_61 ?_
  refine lv_i2l (v := (((c_now 90) - (1 : Int32)).toInt64)) hx hb dX6_beside_62 rfl ?_
  obtain ⟨v1, hv1, h⟩ := bind_of h
  refine after_i X (run_S X (c_X6_isIn l E (l3.toInt64) (0 : Int64) (((c_now 90) - (1 : Int32)).toInt64) H.size v1 hv1) (va_cwS 3 hts gX6_beside_X6_isIn rfl rfl rfl hd_X6_isIn ⟨(Nat.le_of_ble_eq_true rfl), (Nat.le_of_ble_eq_true rfl)⟩) hP hD hS [] rfl rfl hl.1 (rest := []) rfl rfl (Nat.le_of_ble_eq_true rfl) dX6_beside_63) hP hD hS [] rfl (ws1 := (W_X6_beside E a_t a_now a_refused a_kept a_mind a_tape a_words a_wCell a_wFaces a_wTurns a_wSign a_wBy a_wFell a_telling a_holds a_sizes a_elements a_moved a_above a_out a_first c_t c_now)) rfl (fun H locs hP hD hS => ?_)
  refine lv_if_eq (tgt := 99) hx hb dX6_beside_66 (by decide) (fun hc66 => ?_) (fun hc66 => ?_)
  · have h := if_t h hc66
    refine lv_iconst (v := (-1 : Int32)) hx hb dX6_beside_99 (by decide) ?_
    obtain rfl := Option.some.inj h
    exact ret_i X dX6_beside_100 hP hD hS rfl
  · have h := if_f h hc66
    refine lv_iload hx hb dX6_beside_69 (lv_at hl 0 rfl) ?_
    refine lv_i2l (v := ((s1 + s0).toInt64)) hx hb dX6_beside_71 rfl ?_
    refine lv_lconst (v := (0 : Int64)) hx hb dX6_beside_72 (by decide) ?_
    refine lv_aload_n hx hb dX6_beside_73 rfl (lv_at hl 1 rfl) ?_
    refine va_get (D := E.1) (ci := 6) (v := .ref a_now) (C := RX6) (T := TX6) (N := 26) hx hb hts iX6_beside_X6 hown hK hP 0 rfl rfl 1 (by decide) (hts (.fieldLink RX6 17 "LeftIsAgreedOnModel" "now" "[I") (List.mem_of_getElem? (i := 1) rfl)) (fun _ h9 => h9) rfl dX6_beside_74 ?_
    refine lv_bipush (v := (90 : Int32)) hx hb dX6_beside_77 (by decide) ?_
    refine ld_i X hP 1 rfl (inb.vp (by decide)) (v := (c_now 90)) rfl dX6_beside_79 ?_
    refine lv_iconst (v := (1 : Int32)) hx hb dX6_beside_80 (by decide) ?_
    refine lv_isub hx hb dX6_beside_81 ?_
    refine lv_i2l (v := (((c_now 90) - (1 : Int32)).toInt64)) hx hb dX6_beside_82 rfl ?_
    obtain ⟨v2, hv2, h⟩ := bind_of h
    refine after_i X (run_S X (c_X6_isIn l E ((s1 + s0).toInt64) (0 : Int64) (((c_now 90) - (1 : Int32)).toInt64) H.size v2 hv2) (va_cwS 3 hts gX6_beside_X6_isIn rfl rfl rfl hd_X6_isIn ⟨(Nat.le_of_ble_eq_true rfl), (Nat.le_of_ble_eq_true rfl)⟩) hP hD hS [] rfl rfl hl.1 (rest := []) rfl rfl (Nat.le_of_ble_eq_true rfl) dX6_beside_83) hP hD hS [] rfl (ws1 := (W_X6_beside E a_t a_now a_refused a_kept a_mind a_tape a_words a_wCell a_wFaces a_wTurns a_wSign a_wBy a_wFell a_telling a_holds a_sizes a_elements a_moved a_above a_out a_first c_t c_now)) rfl (fun H locs hP hD hS => ?_)
    refine lv_if_eq (tgt := 99) hx hb dX6_beside_86 (by decide) (fun hc86 => ?_) (fun hc86 => ?_)
    · have h := if_t h hc86
      refine lv_iconst (v := (-1 : Int32)) hx hb dX6_beside_99 (by decide) ?_
      obtain rfl := Option.some.inj h
      exact ret_i X dX6_beside_100 hP hD hS rfl
    · have h := if_f h hc86
      refine lv_bipush (v := (10 : Int32)) hx hb dX6_beside_89 (by decide) ?_
      refine lv_iload_n hx hb dX6_beside_91 rfl (lv_at hl 2 rfl) ?_
      refine lv_imul hx hb dX6_beside_92 ?_
      refine lv_iload hx hb dX6_beside_93 (lv_at hl 0 rfl) ?_
      refine lv_iadd hx hb dX6_beside_95 ?_
      refine lv_goto (tgt := 100) hx hb dX6_beside_96 (by decide) ?_
      obtain rfl := Option.some.inj h
      exact ret_i X dX6_beside_100 hP hD hS rfl
set_option maxRecDepth 100000 in
set_option maxHeartbeats 4000000 in
theorem w_X6_beside_b22 (X : Ctx p m meth c cX6_beside 5 ((some .int)) s args wsX6_beside RX6 E A) (a_t : Nat) (a_now : Nat) (a_refused : Nat) (a_kept : Nat) (a_mind : Nat) (a_tape : Nat) (a_words : Nat) (a_wCell : Nat) (a_wFaces : Nat) (a_wTurns : Nat) (a_wSign : Nat) (a_wBy : Nat) (a_wFell : Nat) (a_telling : Nat) (a_holds : Nat) (a_sizes : Nat) (a_elements : Nat) (a_moved : Nat) (a_above : Nat) (a_out : Nat) (a_first : Nat) (c_t : Nat → Int32) (c_now : Nat → Int32) (res : Int32) (l1 : Int32) (l2 : Int32) (s0 : Int32) (s1 : Int32) (ls : Array Slot) (H : Heap) (locs : List Loc) (h : f_X6_beside_b22 c_t c_now l1 l2 s0 s1 = some res) (hP : va_P E.1 vwCl (W_X6_beside E a_t a_now a_refused a_kept a_mind a_tape a_words a_wCell a_wFaces a_wTurns a_wSign a_wBy a_wFell a_telling a_holds a_sizes a_elements a_moved a_above a_out a_first c_t c_now) H) (hD : va_D A (W_X6_beside E a_t a_now a_refused a_kept a_mind a_tape a_words a_wCell a_wFaces a_wTurns a_wSign a_wBy a_wFell a_telling a_holds a_sizes a_elements a_moved a_above a_out a_first c_t c_now)) (hS : va_S A s.heap H locs) (hl : lv_has ls 5 [(0, .ref a_t), (1, .int l1), (2, .int l2)]) : W p l e r_X6_beside s m args below meth c H locs 0 0 (MQ below (qI E A res (W_X6_beside E a_t a_now a_refused a_kept a_mind a_tape a_words a_wCell a_wFaces a_wTurns a_wSign a_wBy a_wFell a_telling a_holds a_sizes a_elements a_moved a_above a_out a_first c_t c_now)) args s 0 0 A) (F0 m 22 ls [.int s0, .int s1]) := by
  obtain ⟨hx, hb, hml, hr, hlk, hown, hts, hG, hA⟩ := id X
  have hK := hG.1
  have hN := hG.2.1
  unfold f_X6_beside_b22 at h
  refine lv_iadd hx hb dX6_beside_22 ?_
  refine lv_istore_n (lv' := [(3, .int (s1 + s0)), (0, .ref a_t), (1, .int l1), (2, .int l2)]) hx hb dX6_beside_23 rfl hl (by decide) rfl (fun ls hl => ?_)
  refine lv_iload_n hx hb dX6_beside_24 rfl (lv_at hl 2 rfl) ?_
  refine lv_bipush (v := (10 : Int32)) hx hb dX6_beside_25 (by decide) ?_
  refine lv_irem hx hb dX6_beside_27 (by decide) ?_
  refine lv_iload_n hx hb dX6_beside_28 rfl (lv_at hl 3 rfl) ?_
  refine lv_iconst (v := (3 : Int32)) hx hb dX6_beside_29 (by decide) ?_
  refine lv_icmp_ne (tgt := 37) hx hb dX6_beside_30 (by decide) (fun hc30 => ?_) (fun hc30 => ?_)
  · have h := if_f h hc30
    refine lv_iload_n hx hb dX6_beside_37 rfl (lv_at hl 3 rfl) ?_
    refine lv_iconst (v := (1 : Int32)) hx hb dX6_beside_38 (by decide) ?_
    refine lv_icmp_ne (tgt := 46) hx hb dX6_beside_39 (by decide) (fun hc39 => ?_) (fun hc39 => ?_)
    · have h := if_f h hc39
      refine lv_iconst (v := (0 : Int32)) hx hb dX6_beside_46 (by decide) ?_
      exact w_X6_beside_b47 X a_t a_now a_refused a_kept a_mind a_tape a_words a_wCell a_wFaces a_wTurns a_wSign a_wBy a_wFell a_telling a_holds a_sizes a_elements a_moved a_above a_out a_first c_t c_now res (s1 + s0) (0 : Int32) (l1 - l1 / (10 : Int32) * (10 : Int32)) _ _ _ h hP hD hS (lv_sub hl [1, 0] rfl)
    · have h := if_t h hc39
      refine lv_iconst (v := (1 : Int32)) hx hb dX6_beside_42 (by decide) ?_
      refine lv_goto (tgt := 47) hx hb dX6_beside_43 (by decide) ?_
      exact w_X6_beside_b47 X a_t a_now a_refused a_kept a_mind a_tape a_words a_wCell a_wFaces a_wTurns a_wSign a_wBy a_wFell a_telling a_holds a_sizes a_elements a_moved a_above a_out a_first c_t c_now res (s1 + s0) (1 : Int32) (l1 - l1 / (10 : Int32) * (10 : Int32)) _ _ _ h hP hD hS (lv_sub hl [1, 0] rfl)
  · have h := if_t h hc30
    refine lv_iconst (v := (-1 : Int32)) hx hb dX6_beside_33 (by decide) ?_
    refine lv_goto (tgt := 47) hx hb dX6_beside_34 (by decide) ?_
    exact w_X6_beside_b47 X a_t a_now a_refused a_kept a_mind a_tape a_words a_wCell a_wFaces a_wTurns a_wSign a_wBy a_wFell a_telling a_holds a_sizes a_elements a_moved a_above a_out a_first c_t c_now res (s1 + s0) (-1 : Int32) (l1 - l1 / (10 : Int32) * (10 : Int32)) _ _ _ h hP hD hS (lv_sub hl [1, 0] rfl)
set_option maxRecDepth 100000 in
set_option maxHeartbeats 4000000 in
theorem w_X6_beside (X : Ctx p m meth c cX6_beside 5 ((some .int)) s args wsX6_beside RX6 E A) (a_t : Nat) (a_now : Nat) (a_refused : Nat) (a_kept : Nat) (a_mind : Nat) (a_tape : Nat) (a_words : Nat) (a_wCell : Nat) (a_wFaces : Nat) (a_wTurns : Nat) (a_wSign : Nat) (a_wBy : Nat) (a_wFell : Nat) (a_telling : Nat) (a_holds : Nat) (a_sizes : Nat) (a_elements : Nat) (a_moved : Nat) (a_above : Nat) (a_out : Nat) (a_first : Nat) (c_t : Nat → Int32) (c_now : Nat → Int32) (res : Int32) (l1 : Int32) (l2 : Int32) (ls : Array Slot) (H : Heap) (locs : List Loc) (h : f_X6_beside l1 l2 c_t c_now = some res) (hP : va_P E.1 vwCl (W_X6_beside E a_t a_now a_refused a_kept a_mind a_tape a_words a_wCell a_wFaces a_wTurns a_wSign a_wBy a_wFell a_telling a_holds a_sizes a_elements a_moved a_above a_out a_first c_t c_now) H) (hD : va_D A (W_X6_beside E a_t a_now a_refused a_kept a_mind a_tape a_words a_wCell a_wFaces a_wTurns a_wSign a_wBy a_wFell a_telling a_holds a_sizes a_elements a_moved a_above a_out a_first c_t c_now)) (hS : va_S A s.heap H locs) (hl : lv_has ls 5 [(0, .ref a_t), (1, .int l1), (2, .int l2)]) : W p l e r_X6_beside s m args below meth c H locs 0 0 (MQ below (qI E A res (W_X6_beside E a_t a_now a_refused a_kept a_mind a_tape a_words a_wCell a_wFaces a_wTurns a_wSign a_wBy a_wFell a_telling a_holds a_sizes a_elements a_moved a_above a_out a_first c_t c_now)) args s 0 0 A) (F0 m 0 ls []) := by
  obtain ⟨hx, hb, hml, hr, hlk, hown, hts, hG, hA⟩ := id X
  have hK := hG.1
  have hN := hG.2.1
  unfold f_X6_beside at h
  refine lv_iload_n hx hb dX6_beside_0 rfl (lv_at hl 1 rfl) ?_
  refine lv_bipush (v := (10 : Int32)) hx hb dX6_beside_1 (by decide) ?_
  refine lv_idiv hx hb dX6_beside_3 (by decide) ?_
  refine lv_iload_n hx hb dX6_beside_4 rfl (lv_at hl 2 rfl) ?_
  refine lv_if_ne (tgt := 12) hx hb dX6_beside_5 (by decide) (fun hc5 => ?_) (fun hc5 => ?_)
  · have h := if_f h hc5
    refine lv_iload_n hx hb dX6_beside_12 rfl (lv_at hl 2 rfl) ?_
    refine lv_iconst (v := (2 : Int32)) hx hb dX6_beside_13 (by decide) ?_
    refine lv_icmp_ne (tgt := 21) hx hb dX6_beside_14 (by decide) (fun hc14 => ?_) (fun hc14 => ?_)
    · have h := if_f h hc14
      refine lv_iconst (v := (0 : Int32)) hx hb dX6_beside_21 (by decide) ?_
      exact w_X6_beside_b22 X a_t a_now a_refused a_kept a_mind a_tape a_words a_wCell a_wFaces a_wTurns a_wSign a_wBy a_wFell a_telling a_holds a_sizes a_elements a_moved a_above a_out a_first c_t c_now res l1 l2 (0 : Int32) (l1 / (10 : Int32)) _ _ _ h hP hD hS (lv_sub hl [0, 1, 2] rfl)
    · have h := if_t h hc14
      refine lv_iconst (v := (1 : Int32)) hx hb dX6_beside_17 (by decide) ?_
      refine lv_goto (tgt := 22) hx hb dX6_beside_18 (by decide) ?_
      exact w_X6_beside_b22 X a_t a_now a_refused a_kept a_mind a_tape a_words a_wCell a_wFaces a_wTurns a_wSign a_wBy a_wFell a_telling a_holds a_sizes a_elements a_moved a_above a_out a_first c_t c_now res l1 l2 (1 : Int32) (l1 / (10 : Int32)) _ _ _ h hP hD hS (lv_sub hl [0, 1, 2] rfl)
  · have h := if_t h hc5
    refine lv_iconst (v := (-1 : Int32)) hx hb dX6_beside_8 (by decide) ?_
    refine lv_goto (tgt := 22) hx hb dX6_beside_9 (by decide) ?_
    exact w_X6_beside_b22 X a_t a_now a_refused a_kept a_mind a_tape a_words a_wCell a_wFaces a_wTurns a_wSign a_wBy a_wFell a_telling a_holds a_sizes a_elements a_moved a_above a_out a_first c_t c_now res l1 l2 (-1 : Int32) (l1 / (10 : Int32)) _ _ _ h hP hD hS (lv_sub hl [0, 1, 2] rfl)
end
set_option maxRecDepth 100000 in
theorem c_X6_beside (l : Launch) (E : Env0) (a_t : Nat) (a_now : Nat) (a_refused : Nat) (a_kept : Nat) (a_mind : Nat) (a_tape : Nat) (a_words : Nat) (a_wCell : Nat) (a_wFaces : Nat) (a_wTurns : Nat) (a_wSign : Nat) (a_wBy : Nat) (a_wFell : Nat) (a_telling : Nat) (a_holds : Nat) (a_sizes : Nat) (a_elements : Nat) (a_moved : Nat) (a_above : Nat) (a_out : Nat) (a_first : Nat) (l1 : Int32) (l2 : Int32) (c_t : Nat → Int32) (c_now : Nat → Int32) (sz : Nat) (res : Int32) (h : f_X6_beside l1 l2 c_t c_now = some res) : Met l yX6_beside wsX6_beside r_X6_beside (cPre E [.ref a_t, .int l1, .int l2] (W_X6_beside E a_t a_now a_refused a_kept a_mind a_tape a_words a_wCell a_wFaces a_wTurns a_wSign a_wBy a_wFell a_telling a_holds a_sizes a_elements a_moved a_above a_out a_first c_t c_now) sz) (qI E (va_A (W_X6_beside E a_t a_now a_refused a_kept a_mind a_tape a_words a_wCell a_wFaces a_wTurns a_wSign a_wBy a_wFell a_telling a_holds a_sizes a_elements a_moved a_above a_out a_first c_t c_now) sz) res (W_X6_beside E a_t a_now a_refused a_kept a_mind a_tape a_words a_wCell a_wFaces a_wTurns a_wSign a_wBy a_wFell a_telling a_holds a_sizes a_elements a_moved a_above a_out a_first c_t c_now)) 0 0 (va_A (W_X6_beside E a_t a_now a_refused a_kept a_mind a_tape a_words a_wCell a_wFaces a_wTurns a_wSign a_wBy a_wFell a_telling a_holds a_sizes a_elements a_moved a_above a_out a_first c_t c_now) sz) :=
  met_of (Qc := fun A => qI E A res (W_X6_beside E a_t a_now a_refused a_kept a_mind a_tape a_words a_wCell a_wFaces a_wTurns a_wSign a_wBy a_wFell a_telling a_holds a_sizes a_elements a_moved a_above a_out a_first c_t c_now)) (by decide) rfl (Nat.le_of_ble_eq_true rfl) (fun p e s m args below meth c X hP hD hS ls hl => w_X6_beside X a_t a_now a_refused a_kept a_mind a_tape a_words a_wCell a_wFaces a_wTurns a_wSign a_wBy a_wFell a_telling a_holds a_sizes a_elements a_moved a_above a_out a_first c_t c_now res l1 l2 ls _ _ h hP hD hS hl)
