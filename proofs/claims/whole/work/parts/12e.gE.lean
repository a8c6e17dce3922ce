-- ===== X6_step
noncomputable abbrev W_X6_step (E : Env0) (a_t : Nat) (a_now : Nat) (a_wBy : Nat) (a_wCell : Nat) (a_wFaces : Nat) (a_wFell : Nat) (a_wSign : Nat) (a_wTurns : Nat) (a_refused : Nat) (a_kept : Nat) (a_mind : Nat) (a_tape : Nat) (a_words : Nat) (a_telling : Nat) (a_holds : Nat) (a_sizes : Nat) (a_elements : Nat) (a_moved : Nat) (a_above : Nat) (a_out : Nat) (a_first : Nat) (c_t : Nat → Int32) (c_now : Nat → Int32) (c_wBy : Nat → Int32) (c_wCell : Nat → Int32) (c_wFaces : Nat → Int32) (c_wFell : Nat → Int32) (c_wSign : Nat → Int32) (c_wTurns : Nat → Int32) : va_W := [(a_t, .inr (6, [.ref a_refused, .ref a_now, .ref a_kept, .ref a_mind, .int (c_t 4), .ref a_tape, .int (c_t 6), .int (c_t 7), .int (c_t 8), .int (c_t 9), .ref a_words, .ref a_wCell, .ref a_wFaces, .ref a_wTurns, .ref a_wSign, .ref a_wBy, .ref a_wFell, .int (c_t 17), .ref a_telling, .ref a_holds, .ref a_sizes, .ref a_elements, .ref a_moved, .ref a_above, .ref a_out, .ref a_first])), (a_now, .inl (eI E, 97, .inl c_now)), (a_wBy, .inl (eI E, 2, .inl c_wBy)), (a_wCell, .inl (eI E, 2, .inl c_wCell)), (a_wFaces, .inl (eI E, 2, .inl c_wFaces)), (a_wFell, .inl (eI E, 2, .inl c_wFell)), (a_wSign, .inl (eI E, 2, .inl c_wSign)), (a_wTurns, .inl (eI E, 2, .inl c_wTurns))]
noncomputable abbrev r_X6_step : Room := { frames := 4, cells := 0, slots := 0, locals := 97 }
theorem hd_X6_step : yX6_step.cls ≠ "java/lang/invoke/MethodHandle" ∧ yX6_step.cls ≠ "java/lang/invoke/VarHandle" ∧ (parseMethodDescriptor yX6_step.desc).map (fun d => d.parameters.length) = some 4 := by decide +kernel
theorem hV_X6_step : yX6_step.cls = RX6 ∧ yX6_step.cls ≠ "java/lang/invoke/MethodHandle" ∧ yX6_step.cls ≠ "java/lang/invoke/VarHandle" ∧ (parseMethodDescriptor yX6_step.desc).map (fun d => d.parameters.length) = some 4 := ⟨rfl, hd_X6_step⟩
theorem iX6_step_X6 : ∀ w ∈ wsX60, w ∈ wsX6_step := fun _ h => List.mem_cons_of_mem _ (List.mem_append_right _ (h))
section
variable {p : Program} {l : Launch} {e : Env} {s : State} {m : MethodId} {args : Array Value} {below : List Frame} {meth : Method} {c : Code} {E : Env0} {A : Nat → Prop}
set_option maxRecDepth 100000 in
set_option maxHeartbeats 4000000 in
theorem w_X6_step_b82 (X : Ctx p m meth c cX6_step 6 none s args wsX6_step RX6 E A) (a_t : Nat) (a_now : Nat) (a_wBy : Nat) (a_wCell : Nat) (a_wFaces : Nat) (a_wFell : Nat) (a_wSign : Nat) (a_wTurns : Nat) (a_refused : Nat) (a_kept : Nat) (a_mind : Nat) (a_tape : Nat) (a_words : Nat) (a_telling : Nat) (a_holds : Nat) (a_sizes : Nat) (a_elements : Nat) (a_moved : Nat) (a_above : Nat) (a_out : Nat) (a_first : Nat) (c_now : Nat → Int32) (res : (Nat → Int32) × (Nat → Int32) × (Nat → Int32) × (Nat → Int32) × (Nat → Int32) × (Nat → Int32) × (Nat → Int32)) (c_t : Nat → Int32) (c_wBy : Nat → Int32) (c_wCell : Nat → Int32) (c_wFaces : Nat → Int32) (c_wFell : Nat → Int32) (c_wSign : Nat → Int32) (c_wTurns : Nat → Int32) (s0 : Int32) (s1 : Int32) (ls : Array Slot) (H : Heap) (locs : List Loc) (h : f_X6_step_b82 c_now c_t c_wBy c_wCell c_wFaces c_wFell c_wSign c_wTurns s0 s1 = some res) (hP : va_P E.1 vwCl (W_X6_step E a_t a_now a_wBy a_wCell a_wFaces a_wFell a_wSign a_wTurns a_refused a_kept a_mind a_tape a_words a_telling a_holds a_sizes a_elements a_moved a_above a_out a_first c_t c_now c_wBy c_wCell c_wFaces c_wFell c_wSign c_wTurns) H) (hD : va_D A (W_X6_step E a_t a_now a_wBy a_wCell a_wFaces a_wFell a_wSign a_wTurns a_refused a_kept a_mind a_tape a_words a_telling a_holds a_sizes a_elements a_moved a_above a_out a_first c_t c_now c_wBy c_wCell c_wFaces c_wFell c_wSign c_wTurns)) (hS : va_S A s.heap H locs) (hl : lv_has ls 6 []) : W p l e r_X6_step s m args below meth c H locs 0 0 (MQ below (qV E A (W_X6_step E a_t a_now a_wBy a_wCell a_wFaces a_wFell a_wSign a_wTurns a_refused a_kept a_mind a_tape a_words a_telling a_holds a_sizes a_elements a_moved a_above a_out a_first (res.1) c_now (res.2.1) (res.2.2.1) (res.2.2.2.1) (res.2.2.2.2.1) (res.2.2.2.2.2.1) (res.2.2.2.2.2.2))) args s 0 0 A) (F0 m 82 ls [.int s0, .int s1, .ref a_wFell]) := by
  obtain ⟨hx, hb, hml, hr, hlk, hown, hts, hG, hA⟩ := id X
  have hK := hG.1
  have hN := hG.2.1
  unfold f_X6_step_b82 at h
  obtain ⟨hz82, h⟩ := chk_of h
  refine st_i X hP hD hS 5 rfl (inb.vp hz82) (k := (s1).toNatClampNeg) rfl (ws1 := (W_X6_step E a_t a_now a_wBy a_wCell a_wFaces a_wFell a_wSign a_wTurns a_refused a_kept a_mind a_tape a_words a_telling a_holds a_sizes a_elements a_moved a_above a_out a_first c_t c_now c_wBy c_wCell c_wFaces (upd c_wFell ((s1).toNatClampNeg) s0) c_wSign c_wTurns)) rfl dX6_step_82 (fun H locs hP hD hS => ?_)
  obtain rfl := Option.some.inj h
  exact ret_v X dX6_step_83 hP hD hS
set_option maxRecDepth 100000 in
set_option maxHeartbeats 4000000 in
theorem w_X6_step_b133 (X : Ctx p m meth c cX6_step 6 none s args wsX6_step RX6 E A) (a_t : Nat) (a_now : Nat) (a_wBy : Nat) (a_wCell : Nat) (a_wFaces : Nat) (a_wFell : Nat) (a_wSign : Nat) (a_wTurns : Nat) (a_refused : Nat) (a_kept : Nat) (a_mind : Nat) (a_tape : Nat) (a_words : Nat) (a_telling : Nat) (a_holds : Nat) (a_sizes : Nat) (a_elements : Nat) (a_moved : Nat) (a_above : Nat) (a_out : Nat) (a_first : Nat) (c_now : Nat → Int32) (res : (Nat → Int32) × (Nat → Int32) × (Nat → Int32) × (Nat → Int32) × (Nat → Int32) × (Nat → Int32) × (Nat → Int32)) (c_t : Nat → Int32) (c_wBy : Nat → Int32) (c_wCell : Nat → Int32) (c_wFaces : Nat → Int32) (c_wFell : Nat → Int32) (c_wSign : Nat → Int32) (c_wTurns : Nat → Int32) (l1 : Int32) (l3 : Int32) (l5 : Int32) (s0 : Int32) (s1 : Int32) (s2 : Int32) (ls : Array Slot) (H : Heap) (locs : List Loc) (h : f_X6_step_b133 c_now c_t c_wBy c_wCell c_wFaces c_wFell c_wSign c_wTurns l1 l3 l5 s0 s1 s2 = some res) (hP : va_P E.1 vwCl (W_X6_step E a_t a_now a_wBy a_wCell a_wFaces a_wFell a_wSign a_wTurns a_refused a_kept a_mind a_tape a_words a_telling a_holds a_sizes a_elements a_moved a_above a_out a_first c_t c_now c_wBy c_wCell c_wFaces c_wFell c_wSign c_wTurns) H) (hD : va_D A (W_X6_step E a_t a_now a_wBy a_wCell a_wFaces a_wFell a_wSign a_wTurns a_refused a_kept a_mind a_tape a_words a_telling a_holds a_sizes a_elements a_moved a_above a_out a_first c_t c_now c_wBy c_wCell c_wFaces c_wFell c_wSign c_wTurns)) (hS : va_S A s.heap H locs) (hl : lv_has ls 6 [(0, .ref a_t), (1, .int l1), (3, .int l3), (5, .int l5)]) : W p l e r_X6_step s m args below meth c H locs 0 0 (MQ below (qV E A (W_X6_step E a_t a_now a_wBy a_wCell a_wFaces a_wFell a_wSign a_wTurns a_refused a_kept a_mind a_tape a_words a_telling a_holds a_sizes a_elements a_moved a_above a_out a_first (res.1) c_now (res.2.1) (res.2.2.1) (res.2.2.2.1) (res.2.2.2.2.1) (res.2.2.2.2.2.1) (res.2.2.2.2.2.2))) args s 0 0 A) (F0 m 133 ls [.int s0, .int s1, .int s2, .ref a_wFaces]) := by
  obtain ⟨hx, hb, hml, hr, hlk, hown, hts, hG, hA⟩ := id X
  have hK := hG.1
  have hN := hG.2.1
  unfold f_X6_step_b133 at h
  refine lv_iadd hx hb dX6_step_133 ?_
  refine lv_iconst (v := (4 : Int32)) hx hb dX6_step_134 (by decide) ?_
  refine lv_irem hx hb dX6_step_135 (by decide) ?_
  obtain ⟨hz136, h⟩ := chk_of h
  refine st_i X hP hD hS 4 rfl (inb.vp hz136) (k := (s2).toNatClampNeg) rfl (ws1 := (W_X6_step E a_t a_now a_wBy a_wCell a_wFaces a_wFell a_wSign a_wTurns a_refused a_kept a_mind a_tape a_words a_telling a_holds a_sizes a_elements a_moved a_above a_out a_first c_t c_now c_wBy c_wCell (upd c_wFaces ((s2).toNatClampNeg) ((s1 + s0) - (s1 + s0) / (4 : Int32) * (4 : Int32))) c_wFell c_wSign c_wTurns)) rfl dX6_step_136 (fun H locs hP hD hS => ?_)
  refine lv_aload_n hx hb dX6_step_137 rfl (lv_at hl 0 rfl) ?_
  refine va_get (D := E.1) (ci := 6) (v := .ref a_wTurns) (C := RX6) (T := TX6) (N := 26) hx hb hts iX6_step_X6 hown hK hP 0 rfl rfl 13 (by decide) (hts (.fieldLink RX6 39 "LeftIsAgreedOnModel" "wTurns" "[I") (List.mem_of_getElem? (i := 5) rfl)) (fun _ h9 => h9) rfl dX6_step_138 ?_
  refine lv_iload_n hx hb dX6_step_141 rfl (lv_at hl 1 rfl) ?_
  refine lv_dup2_11 hx hb dX6_step_142 rfl rfl ?_
  obtain ⟨hz143, h⟩ := chk_of h
  refine ld_i X hP 7 rfl (inb.vp hz143) (v := (c_wTurns (l1).toNatClampNeg)) rfl dX6_step_143 ?_
  refine lv_iconst (v := (1 : Int32)) hx hb dX6_step_144 (by decide) ?_
  refine lv_iadd hx hb dX6_step_145 ?_
  obtain ⟨hz146, h⟩ := chk_of h
  refine st_i X hP hD hS 7 rfl (inb.vp hz146) (k := (l1).toNatClampNeg) rfl (ws1 := (W_X6_step E a_t a_now a_wBy a_wCell a_wFaces a_wFell a_wSign a_wTurns a_refused a_kept a_mind a_tape a_words a_telling a_holds a_sizes a_elements a_moved a_above a_out a_first c_t c_now c_wBy c_wCell (upd c_wFaces ((s2).toNatClampNeg) ((s1 + s0) - (s1 + s0) / (4 : Int32) * (4 : Int32))) c_wFell c_wSign (upd c_wTurns ((l1).toNatClampNeg) ((c_wTurns (l1).toNatClampNeg) + (1 : Int32))))) rfl dX6_step_146 (fun H locs hP hD hS => ?_)
  refine lv_aload_n hx hb dX6_step_147 rfl (lv_at hl 0 rfl) ?_
  refine va_get (D := E.1) (ci := 6) (v := .ref a_wSign) (C := RX6) (T := TX6) (N := 26) hx hb hts iX6_step_X6 hown hK hP 0 rfl rfl 14 (by decide) (hts (.fieldLink RX6 42 "LeftIsAgreedOnModel" "wSign" "[I") (List.mem_of_getElem? (i := 6) rfl)) (fun _ h9 => h9) rfl dX6_step_148 ?_
  refine lv_iload_n hx hb dX6_step_151 rfl (lv_at hl 1 rfl) ?_
  refine lv_iload_n hx hb dX6_step_152 rfl (lv_at hl 2 rfl) ?_
  obtain ⟨hz153, h⟩ := chk_of h
  refine st_i X hP hD hS 6 rfl (inb.vp hz153) (k := (l1).toNatClampNeg) rfl (ws1 := (W_X6_step E a_t a_now a_wBy a_wCell a_wFaces a_wFell a_wSign a_wTurns a_refused a_kept a_mind a_tape a_words a_telling a_holds a_sizes a_elements a_moved a_above a_out a_first c_t c_now c_wBy c_wCell (upd c_wFaces ((s2).toNatClampNeg) ((s1 + s0) - (s1 + s0) / (4 : Int32) * (4 : Int32))) c_wFell (upd c_wSign ((l1).toNatClampNeg) l3) (upd c_wTurns ((l1).toNatClampNeg) ((c_wTurns (l1).toNatClampNeg) + (1 : Int32))))) rfl dX6_step_153 (fun H locs hP hD hS => ?_)
  refine lv_aload_n hx hb dX6_step_154 rfl (lv_at hl 0 rfl) ?_
  refine va_get (D := E.1) (ci := 6) (v := .ref a_wBy) (C := RX6) (T := TX6) (N := 26) hx hb hts iX6_step_X6 hown hK hP 0 rfl rfl 15 (by decide) (hts (.fieldLink RX6 45 "LeftIsAgreedOnModel" "wBy" "[I") (List.mem_of_getElem? (i := 7) rfl)) (fun _ h9 => h9) rfl dX6_step_155 ?_
  refine lv_iload_n hx hb dX6_step_158 rfl (lv_at hl 1 rfl) ?_
  refine lv_iload hx hb dX6_step_159 (lv_at hl 3 rfl) ?_
  obtain ⟨hz161, h⟩ := chk_of h
  refine st_i X hP hD hS 2 rfl (inb.vp hz161) (k := (l1).toNatClampNeg) rfl (ws1 := (W_X6_step E a_t a_now a_wBy a_wCell a_wFaces a_wFell a_wSign a_wTurns a_refused a_kept a_mind a_tape a_words a_telling a_holds a_sizes a_elements a_moved a_above a_out a_first c_t c_now (upd c_wBy ((l1).toNatClampNeg) l5) c_wCell (upd c_wFaces ((s2).toNatClampNeg) ((s1 + s0) - (s1 + s0) / (4 : Int32) * (4 : Int32))) c_wFell (upd c_wSign ((l1).toNatClampNeg) l3) (upd c_wTurns ((l1).toNatClampNeg) ((c_wTurns (l1).toNatClampNeg) + (1 : Int32))))) rfl dX6_step_161 (fun H locs hP hD hS => ?_)
  obtain rfl := Option.some.inj h
  exact ret_v X dX6_step_162 hP hD hS
set_option maxRecDepth 100000 in
set_option maxHeartbeats 4000000 in
theorem w_X6_step_b125 (X : Ctx p m meth c cX6_step 6 none s args wsX6_step RX6 E A) (a_t : Nat) (a_now : Nat) (a_wBy : Nat) (a_wCell : Nat) (a_wFaces : Nat) (a_wFell : Nat) (a_wSign : Nat) (a_wTurns : Nat) (a_refused : Nat) (a_kept : Nat) (a_mind : Nat) (a_tape : Nat) (a_words : Nat) (a_telling : Nat) (a_holds : Nat) (a_sizes : Nat) (a_elements : Nat) (a_moved : Nat) (a_above : Nat) (a_out : Nat) (a_first : Nat) (c_now : Nat → Int32) (res : (Nat → Int32) × (Nat → Int32) × (Nat → Int32) × (Nat → Int32) × (Nat → Int32) × (Nat → Int32) × (Nat → Int32)) (c_t : Nat → Int32) (c_wBy : Nat → Int32) (c_wCell : Nat → Int32) (c_wFaces : Nat → Int32) (c_wFell : Nat → Int32) (c_wSign : Nat → Int32) (c_wTurns : Nat → Int32) (l1 : Int32) (l3 : Int32) (l5 : Int32) (s0 : Int32) (s1 : Int32) (s2 : Int32) (s3 : Int32) (ls : Array Slot) (H : Heap) (locs : List Loc) (h : f_X6_step_b125 c_now c_t c_wBy c_wCell c_wFaces c_wFell c_wSign c_wTurns l1 l3 l5 s0 s1 s2 s3 = some res) (hP : va_P E.1 vwCl (W_X6_step E a_t a_now a_wBy a_wCell a_wFaces a_wFell a_wSign a_wTurns a_refused a_kept a_mind a_tape a_words a_telling a_holds a_sizes a_elements a_moved a_above a_out a_first c_t c_now c_wBy c_wCell c_wFaces c_wFell c_wSign c_wTurns) H) (hD : va_D A (W_X6_step E a_t a_now a_wBy a_wCell a_wFaces a_wFell a_wSign a_wTurns a_refused a_kept a_mind a_tape a_words a_telling a_holds a_sizes a_elements a_moved a_above a_out a_first c_t c_now c_wBy c_wCell c_wFaces c_wFell c_wSign c_wTurns)) (hS : va_S A s.heap H locs) (hl : lv_has ls 6 [(0, .ref a_t), (1, .int l1), (3, .int l3), (5, .int l5)]) : W p l e r_X6_step s m args below meth c H locs 0 0 (MQ below (qV E A (W_X6_step E a_t a_now a_wBy a_wCell a_wFaces a_wFell a_wSign a_wTurns a_refused a_kept a_mind a_tape a_words a_telling a_holds a_sizes a_elements a_moved a_above a_out a_first (res.1) c_now (res.2.1) (res.2.2.1) (res.2.2.2.1) (res.2.2.2.2.1) (res.2.2.2.2.2.1) (res.2.2.2.2.2.2))) args s 0 0 A) (F0 m 125 ls [.int s0, .int s1, .int s2, .int s3, .ref a_wFaces]) := by
  obtain ⟨hx, hb, hml, hr, hlk, hown, hts, hG, hA⟩ := id X
  have hK := hG.1
  have hN := hG.2.1
  unfold f_X6_step_b125 at h
  refine lv_icmp_ne (tgt := 132) hx hb dX6_step_125 (by decide) (fun hc125 => ?_) (fun hc125 => ?_)
  · have h := if_f h hc125
    refine lv_iconst (v := (3 : Int32)) hx hb dX6_step_132 (by decide) ?_
    exact w_X6_step_b133 X a_t a_now a_wBy a_wCell a_wFaces a_wFell a_wSign a_wTurns a_refused a_kept a_mind a_tape a_words a_telling a_holds a_sizes a_elements a_moved a_above a_out a_first c_now res c_t c_wBy c_wCell c_wFaces c_wFell c_wSign c_wTurns l1 l3 l5 (3 : Int32) s2 s3 _ _ _ h hP hD hS (lv_sub hl [0, 1, 2, 3] rfl)
  · have h := if_t h hc125
    refine lv_iconst (v := (1 : Int32)) hx hb dX6_step_128 (by decide) ?_
    refine lv_goto (tgt := 133) hx hb dX6_step_129 (by decide) ?_
    exact w_X6_step_b133 X a_t a_now a_wBy a_wCell a_wFaces a_wFell a_wSign a_wTurns a_refused a_kept a_mind a_tape a_words a_telling a_holds a_sizes a_elements a_moved a_above a_out a_first c_now res c_t c_wBy c_wCell c_wFaces c_wFell c_wSign c_wTurns l1 l3 l5 (1 : Int32) s2 s3 _ _ _ h hP hD hS (lv_sub hl [0, 1, 2, 3] rfl)
set_option maxRecDepth 100000 in
set_option maxHeartbeats 4000000 in
theorem w_X6_step_b115 (X : Ctx p m meth c cX6_step 6 none s args wsX6_step RX6 E A) (a_t : Nat) (a_now : Nat) (a_wBy : Nat) (a_wCell : Nat) (a_wFaces : Nat) (a_wFell : Nat) (a_wSign : Nat) (a_wTurns : Nat) (a_refused : Nat) (a_kept : Nat) (a_mind : Nat) (a_tape : Nat) (a_words : Nat) (a_telling : Nat) (a_holds : Nat) (a_sizes : Nat) (a_elements : Nat) (a_moved : Nat) (a_above : Nat) (a_out : Nat) (a_first : Nat) (c_now : Nat → Int32) (res : (Nat → Int32) × (Nat → Int32) × (Nat → Int32) × (Nat → Int32) × (Nat → Int32) × (Nat → Int32) × (Nat → Int32)) (c_t : Nat → Int32) (c_wBy : Nat → Int32) (c_wCell : Nat → Int32) (c_wFaces : Nat → Int32) (c_wFell : Nat → Int32) (c_wSign : Nat → Int32) (c_wTurns : Nat → Int32) (l1 : Int32) (l3 : Int32) (l5 : Int32) (s0 : Int32) (s1 : Int32) (s2 : Int32) (ls : Array Slot) (H : Heap) (locs : List Loc) (h : f_X6_step_b115 c_now c_t c_wBy c_wCell c_wFaces c_wFell c_wSign c_wTurns l1 l3 l5 s0 s1 s2 = some res) (hP : va_P E.1 vwCl (W_X6_step E a_t a_now a_wBy a_wCell a_wFaces a_wFell a_wSign a_wTurns a_refused a_kept a_mind a_tape a_words a_telling a_holds a_sizes a_elements a_moved a_above a_out a_first c_t c_now c_wBy c_wCell c_wFaces c_wFell c_wSign c_wTurns) H) (hD : va_D A (W_X6_step E a_t a_now a_wBy a_wCell a_wFaces a_wFell a_wSign a_wTurns a_refused a_kept a_mind a_tape a_words a_telling a_holds a_sizes a_elements a_moved a_above a_out a_first c_t c_now c_wBy c_wCell c_wFaces c_wFell c_wSign c_wTurns)) (hS : va_S A s.heap H locs) (hl : lv_has ls 6 [(0, .ref a_t), (1, .int l1), (3, .int l3), (5, .int l5)]) : W p l e r_X6_step s m args below meth c H locs 0 0 (MQ below (qV E A (W_X6_step E a_t a_now a_wBy a_wCell a_wFaces a_wFell a_wSign a_wTurns a_refused a_kept a_mind a_tape a_words a_telling a_holds a_sizes a_elements a_moved a_above a_out a_first (res.1) c_now (res.2.1) (res.2.2.1) (res.2.2.2.1) (res.2.2.2.2.1) (res.2.2.2.2.2.1) (res.2.2.2.2.2.2))) args s 0 0 A) (F0 m 115 ls [.int s0, .int s1, .int s2, .ref a_wFaces]) := by
  obtain ⟨hx, hb, hml, hr, hlk, hown, hts, hG, hA⟩ := id X
  have hK := hG.1
  have hN := hG.2.1
  unfold f_X6_step_b115 at h
  refine lv_iload_n hx hb dX6_step_115 rfl (lv_at hl 2 rfl) ?_
  refine lv_iconst (v := (1 : Int32)) hx hb dX6_step_116 (by decide) ?_
  refine lv_icmp_ne (tgt := 124) hx hb dX6_step_117 (by decide) (fun hc117 => ?_) (fun hc117 => ?_)
  · have h := if_f h hc117
    refine lv_iconst (v := (0 : Int32)) hx hb dX6_step_124 (by decide) ?_
    exact w_X6_step_b125 X a_t a_now a_wBy a_wCell a_wFaces a_wFell a_wSign a_wTurns a_refused a_kept a_mind a_tape a_words a_telling a_holds a_sizes a_elements a_moved a_above a_out a_first c_now res c_t c_wBy c_wCell c_wFaces c_wFell c_wSign c_wTurns l1 l3 l5 (0 : Int32) s0 s1 s2 _ _ _ h hP hD hS (lv_sub hl [0, 1, 2, 3] rfl)
  · have h := if_t h hc117
    refine lv_iconst (v := (1 : Int32)) hx hb dX6_step_120 (by decide) ?_
    refine lv_goto (tgt := 125) hx hb dX6_step_121 (by decide) ?_
    exact w_X6_step_b125 X a_t a_now a_wBy a_wCell a_wFaces a_wFell a_wSign a_wTurns a_refused a_kept a_mind a_tape a_words a_telling a_holds a_sizes a_elements a_moved a_above a_out a_first c_now res c_t c_wBy c_wCell c_wFaces c_wFell c_wSign c_wTurns l1 l3 l5 (1 : Int32) s0 s1 s2 _ _ _ h hP hD hS (lv_sub hl [0, 1, 2, 3] rfl)
set_option maxRecDepth 100000 in
set_option maxHeartbeats 4000000 in
theorem w_X6_step (X : Ctx p m meth c cX6_step 6 none s args wsX6_step RX6 E A) (a_t : Nat) (a_now : Nat) (a_wBy : Nat) (a_wCell : Nat) (a_wFaces : Nat) (a_wFell : Nat) (a_wSign : Nat) (a_wTurns : Nat) (a_refused : Nat) (a_kept : Nat) (a_mind : Nat) (a_tape : Nat) (a_words : Nat) (a_telling : Nat) (a_holds : Nat) (a_sizes : Nat) (a_elements : Nat) (a_moved : Nat) (a_above : Nat) (a_out : Nat) (a_first : Nat) (c_now : Nat → Int32) (res : (Nat → Int32) × (Nat → Int32) × (Nat → Int32) × (Nat → Int32) × (Nat → Int32) × (Nat → Int32) × (Nat → Int32)) (c_t : Nat → Int32) (c_wBy : Nat → Int32) (c_wCell : Nat → Int32) (c_wFaces : Nat → Int32) (c_wFell : Nat → Int32) (c_wSign : Nat → Int32) (c_wTurns : Nat → Int32) (l1 : Int32) (l2 : Int32) (l3 : Int32) (l4 : Int32) (ls : Array Slot) (H : Heap) (locs : List Loc) (h : f_X6_step l1 l2 l3 l4 c_t c_now c_wBy c_wCell c_wFaces c_wFell c_wSign c_wTurns = some res) (hP : va_P E.1 vwCl (W_X6_step E a_t a_now a_wBy a_wCell a_wFaces a_wFell a_wSign a_wTurns a_refused a_kept a_mind a_tape a_words a_telling a_holds a_sizes a_elements a_moved a_above a_out a_first c_t c_now c_wBy c_wCell c_wFaces c_wFell c_wSign c_wTurns) H) (hD : va_D A (W_X6_step E a_t a_now a_wBy a_wCell a_wFaces a_wFell a_wSign a_wTurns a_refused a_kept a_mind a_tape a_words a_telling a_holds a_sizes a_elements a_moved a_above a_out a_first c_t c_now c_wBy c_wCell c_wFaces c_wFell c_wSign c_wTurns)) (hS : va_S A s.heap H locs) (hl : lv_has ls 6 [(0, .ref a_t), (1, .int l1), (2, .int l2), (3, .int l3), (4, .int l4)]) : W p l e r_X6_step s m args below meth c H locs 0 0 (MQ below (qV E A (W_X6_step E a_t a_now a_wBy a_wCell a_wFaces a_wFell a_wSign a_wTurns a_refused a_kept a_mind a_tape a_words a_telling a_holds a_sizes a_elements a_moved a_above a_out a_first (res.1) c_now (res.2.1) (res.2.2.1) (res.2.2.2.1) (res.2.2.2.2.1) (res.2.2.2.2.2.1) (res.2.2.2.2.2.2))) args s 0 0 A) (F0 m 0 ls []) := by
  obtain ⟨hx, hb, hml, hr, hlk, hown, hts, hG, hA⟩ := id X
  have hK := hG.1
  have hN := hG.2.1
  unfold f_X6_step at h
  refine lv_aload_n hx hb dX6_step_0 rfl (lv_at hl 0 rfl) ?_
  refine va_get (D := E.1) (ci := 6) (v := .ref a_wFell) (C := RX6) (T := TX6) (N := 26) hx hb hts iX6_step_X6 hown hK hP 0 rfl rfl 16 (by decide) (hts (.fieldLink RX6 48 "LeftIsAgreedOnModel" "wFell" "[I") (List.mem_of_getElem? (i := 1) rfl)) (fun _ h9 => h9) rfl dX6_step_1 ?_
  refine lv_iload_n hx hb dX6_step_4 rfl (lv_at hl 1 rfl) ?_
  obtain ⟨hz5, h⟩ := chk_of h
  refine ld_i X hP 5 rfl (inb.vp hz5) (v := (c_wFell (l1).toNatClampNeg)) rfl dX6_step_5 ?_
  refine lv_iconst (v := (-1 : Int32)) hx hb dX6_step_6 (by decide) ?_
  refine lv_icmp_ne (tgt := 15) hx hb dX6_step_7 (by decide) (fun hc7 => ?_) (fun hc7 => ?_)
  · have h := if_f h hc7
    obtain rfl := Option.some.inj h
    exact ret_v X dX6_step_15 hP hD hS
  · have h := if_t h hc7
    refine lv_iload_n hx hb dX6_step_10 rfl (lv_at hl 3 rfl) ?_
    refine lv_iconst (v := (3 : Int32)) hx hb dX6_step_11 (by decide) ?_
    refine lv_icmp_ne (tgt := 16) hx hb dX6_step_12 (by decide) (fun hc12 => ?_) (fun hc12 => ?_)
    · have h := if_f h hc12
      refine lv_iload_n hx hb dX6_step_16 rfl (lv_at hl 3 rfl) ?_
      refine lv_if_ne (tgt := 84) hx hb dX6_step_17 (by decide) (fun hc17 => ?_) (fun hc17 => ?_)
      · have h := if_f h hc17
        refine lv_aload_n hx hb dX6_step_84 rfl (lv_at hl 0 rfl) ?_
        refine lv_iload_n hx hb dX6_step_85 rfl (lv_at hl 1 rfl) ?_
        refine lv_iload_n hx hb dX6_step_86 rfl (lv_at hl 2 rfl) ?_
        refine lv_iload_n hx hb dX6_step_87 rfl (lv_at hl 3 rfl) ?_
        obtain ⟨v1, hv1, h⟩ := bind_of h
        refine after_i X (run_V X (c_X6_goesBy l E a_t a_now a_wBy a_wCell a_wSign a_wTurns a_refused a_kept a_mind a_tape a_words a_wFaces a_wFell a_telling a_holds a_sizes a_elements a_moved a_above a_out a_first l1 l2 l3 c_t c_now c_wBy c_wCell c_wSign c_wTurns H.size v1 hv1) (cwV 3 hts gX6_step_X6_goesBy rfl rfl rfl hV_X6_goesBy ⟨(Nat.le_of_ble_eq_true rfl), (Nat.le_of_ble_eq_true rfl)⟩) hP hD hS [0, 1, 2, 3, 6, 7] rfl rfl hl.1 (ci := 6) rfl rfl rfl (rest := []) rfl rfl (Nat.le_of_ble_eq_true rfl) dX6_step_88) hP hD hS [0, 1, 2, 3, 6, 7] rfl (ws1 := (W_X6_step E a_t a_now a_wBy a_wCell a_wFaces a_wFell a_wSign a_wTurns a_refused a_kept a_mind a_tape a_words a_telling a_holds a_sizes a_elements a_moved a_above a_out a_first c_t c_now c_wBy c_wCell c_wFaces c_wFell c_wSign c_wTurns)) rfl (fun H locs hP hD hS => ?_)
        refine lv_istore (lv' := [(5, .int v1), (0, .ref a_t), (1, .int l1), (2, .int l2), (3, .int l3), (4, .int l4)]) hx hb dX6_step_91 hl (by decide) rfl (fun ls hl => ?_)
        refine lv_aload_n hx hb dX6_step_93 rfl (lv_at hl 1 rfl) ?_
        refine va_get (D := E.1) (ci := 6) (v := .ref a_wFaces) (C := RX6) (T := TX6) (N := 26) hx hb hts iX6_step_X6 hown hK hP 0 rfl rfl 12 (by decide) (hts (.fieldLink RX6 36 "LeftIsAgreedOnModel" "wFaces" "[I") (List.mem_of_getElem? (i := 3) rfl)) (fun _ h9 => h9) rfl dX6_step_94 ?_
        refine lv_iload_n hx hb dX6_step_97 rfl (lv_at hl 2 rfl) ?_
        refine lv_aload_n hx hb dX6_step_98 rfl (lv_at hl 1 rfl) ?_
        refine va_get (D := E.1) (ci := 6) (v := .ref a_wFaces) (C := RX6) (T := TX6) (N := 26) hx hb hts iX6_step_X6 hown hK hP 0 rfl rfl 12 (by decide) (hts (.fieldLink RX6 36 "LeftIsAgreedOnModel" "wFaces" "[I") (List.mem_of_getElem? (i := 3) rfl)) (fun _ h9 => h9) rfl dX6_step_99 ?_
        refine lv_iload_n hx hb dX6_step_102 rfl (lv_at hl 2 rfl) ?_
        obtain ⟨hz103, h⟩ := chk_of h
        refine ld_i X hP 4 rfl (inb.vp hz103) (v := (c_wFaces (l1).toNatClampNeg)) rfl dX6_step_103 ?_
        refine lv_iload hx hb dX6_step_104 (lv_at hl 0 rfl) ?_
        refine lv_iconst (v := (1 : Int32)) hx hb dX6_step_106 (by decide) ?_
        refine lv_icmp_ne (tgt := 114) hx hb dX6_step_107 (by decide) (fun hc107 => ?_) (fun hc107 => ?_)
        · have h := if_f h hc107
          refine lv_iconst (v := (0 : Int32)) hx hb dX6_step_114 (by decide) ?_
          exact w_X6_step_b115 X a_t a_now a_wBy a_wCell a_wFaces a_wFell a_wSign a_wTurns a_refused a_kept a_mind a_tape a_words a_telling a_holds a_sizes a_elements a_moved a_above a_out a_first c_now res c_t c_wBy c_wCell c_wFaces c_wFell c_wSign c_wTurns l1 l3 v1 (0 : Int32) (c_wFaces (l1).toNatClampNeg) l1 _ _ _ h hP hD hS (lv_sub hl [1, 2, 4, 0] rfl)
        · have h := if_t h hc107
          refine lv_iconst (v := (1 : Int32)) hx hb dX6_step_110 (by decide) ?_
          refine lv_goto (tgt := 115) hx hb dX6_step_111 (by decide) ?_
          exact w_X6_step_b115 X a_t a_now a_wBy a_wCell a_wFaces a_wFell a_wSign a_wTurns a_refused a_kept a_mind a_tape a_words a_telling a_holds a_sizes a_elements a_moved a_above a_out a_first c_now res c_t c_wBy c_wCell c_wFaces c_wFell c_wSign c_wTurns l1 l3 v1 (1 : Int32) (c_wFaces (l1).toNatClampNeg) l1 _ _ _ h hP hD hS (lv_sub hl [1, 2, 4, 0] rfl)
      · have h := if_t h hc17
        refine lv_aload_n hx hb dX6_step_20 rfl (lv_at hl 0 rfl) ?_
        refine lv_aload_n hx hb dX6_step_21 rfl (lv_at hl 0 rfl) ?_
        refine va_get (D := E.1) (ci := 6) (v := .ref a_wCell) (C := RX6) (T := TX6) (N := 26) hx hb hts iX6_step_X6 hown hK hP 0 rfl rfl 11 (by decide) (hts (.fieldLink RX6 33 "LeftIsAgreedOnModel" "wCell" "[I") (List.mem_of_getElem? (i := 2) rfl)) (fun _ h9 => h9) rfl dX6_step_22 ?_
        refine lv_iload_n hx hb dX6_step_25 rfl (lv_at hl 1 rfl) ?_
        obtain ⟨hz26, h⟩ := chk_of h
        refine ld_i X hP 3 rfl (inb.vp hz26) (v := (c_wCell (l1).toNatClampNeg)) rfl dX6_step_26 ?_
        refine lv_aload_n hx hb dX6_step_27 rfl (lv_at hl 0 rfl) ?_
        refine va_get (D := E.1) (ci := 6) (v := .ref a_wFaces) (C := RX6) (T := TX6) (N := 26) hx hb hts iX6_step_X6 hown hK hP 0 rfl rfl 12 (by decide) (hts (.fieldLink RX6 36 "LeftIsAgreedOnModel" "wFaces" "[I") (List.mem_of_getElem? (i := 3) rfl)) (fun _ h9 => h9) rfl dX6_step_28 ?_
        refine lv_iload_n hx hb dX6_step_31 rfl (lv_at hl 1 rfl) ?_
        obtain ⟨hz32, h⟩ := chk_of h
        refine ld_i X hP 4 rfl (inb.vp hz32) (v := (c_wFaces (l1).toNatClampNeg)) rfl dX6_step_32 ?_
        obtain ⟨v2, hv2, h⟩ := bind_of h
        refine after_i X (run_V X (c_X6_beside l E a_t a_now a_refused a_kept a_mind a_tape a_words a_wCell a_wFaces a_wTurns a_wSign a_wBy a_wFell a_telling a_holds a_sizes a_elements a_moved a_above a_out a_first (c_wCell (l1).toNatClampNeg) (c_wFaces (l1).toNatClampNeg) c_t c_now H.size v2 hv2) (cwV 2 hts gX6_step_X6_beside rfl rfl rfl hV_X6_beside ⟨(Nat.le_of_ble_eq_true rfl), (Nat.le_of_ble_eq_true rfl)⟩) hP hD hS [0, 1] rfl rfl hl.1 (ci := 6) rfl rfl rfl (rest := []) rfl rfl (Nat.le_of_ble_eq_true rfl) dX6_step_33) hP hD hS [0, 1] rfl (ws1 := (W_X6_step E a_t a_now a_wBy a_wCell a_wFaces a_wFell a_wSign a_wTurns a_refused a_kept a_mind a_tape a_words a_telling a_holds a_sizes a_elements a_moved a_above a_out a_first c_t c_now c_wBy c_wCell c_wFaces c_wFell c_wSign c_wTurns)) rfl (fun H locs hP hD hS => ?_)
        refine lv_istore (lv' := [(5, .int v2), (0, .ref a_t), (1, .int l1), (2, .int l2), (3, .int l3), (4, .int l4)]) hx hb dX6_step_36 hl (by decide) rfl (fun ls hl => ?_)
        refine lv_iload hx hb dX6_step_38 (lv_at hl 0 rfl) ?_
        refine lv_iconst (v := (-1 : Int32)) hx hb dX6_step_40 (by decide) ?_
        refine lv_icmp_eq (tgt := 83) hx hb dX6_step_41 (by decide) (fun hc41 => ?_) (fun hc41 => ?_)
        · have h := if_t h hc41
          obtain rfl := Option.some.inj h
          exact ret_v X dX6_step_83 hP hD hS
        · have h := if_f h hc41
          refine lv_aload_n hx hb dX6_step_44 rfl (lv_at hl 1 rfl) ?_
          refine lv_aload_n hx hb dX6_step_45 rfl (lv_at hl 1 rfl) ?_
          refine va_get (D := E.1) (ci := 6) (v := .ref a_wCell) (C := RX6) (T := TX6) (N := 26) hx hb hts iX6_step_X6 hown hK hP 0 rfl rfl 11 (by decide) (hts (.fieldLink RX6 33 "LeftIsAgreedOnModel" "wCell" "[I") (List.mem_of_getElem? (i := 2) rfl)) (fun _ h9 => h9) rfl dX6_step_46 ?_
          refine lv_iload_n hx hb dX6_step_49 rfl (lv_at hl 2 rfl) ?_
          obtain ⟨hz50, h⟩ := chk_of h
          refine ld_i X hP 3 rfl (inb.vp hz50) (v := (c_wCell (l1).toNatClampNeg)) rfl dX6_step_50 ?_
          refine va_put (D := E.1) (ci := 6) (v := .int (c_wCell (l1).toNatClampNeg)) (ty := .int) (C := RX6) (T := TX6) (N := 26) hx hb hts iX6_step_X6 tyX6 tyX6_ok nmX6 hown hK hP hD hS 0 rfl rfl 17 (by decide) (hts (.fieldLink RX6 185 "LeftIsAgreedOnModel" "dry" "I") (List.mem_of_getElem? (i := 4) rfl)) (fun _ h9 => h9) rfl (tyX6_ok 17 (by decide)) rfl rfl (Nat.le_of_ble_eq_true rfl) dX6_step_51 (fun H locs hP hD hS => ?_)
          have hP : va_P E.1 vwCl (W_X6_step E a_t a_now a_wBy a_wCell a_wFaces a_wFell a_wSign a_wTurns a_refused a_kept a_mind a_tape a_words a_telling a_holds a_sizes a_elements a_moved a_above a_out a_first (upd c_t 17 (c_wCell (l1).toNatClampNeg)) c_now c_wBy c_wCell c_wFaces c_wFell c_wSign c_wTurns) H := hP
          have hD : va_D A (W_X6_step E a_t a_now a_wBy a_wCell a_wFaces a_wFell a_wSign a_wTurns a_refused a_kept a_mind a_tape a_words a_telling a_holds a_sizes a_elements a_moved a_above a_out a_first (upd c_t 17 (c_wCell (l1).toNatClampNeg)) c_now c_wBy c_wCell c_wFaces c_wFell c_wSign c_wTurns) := hD
          refine lv_aload_n hx hb dX6_step_54 rfl (lv_at hl 1 rfl) ?_
          refine va_get (D := E.1) (ci := 6) (v := .ref a_wCell) (C := RX6) (T := TX6) (N := 26) hx hb hts iX6_step_X6 hown hK hP 0 rfl rfl 11 (by decide) (hts (.fieldLink RX6 33 "LeftIsAgreedOnModel" "wCell" "[I") (List.mem_of_getElem? (i := 2) rfl)) (fun _ h9 => h9) rfl dX6_step_55 ?_
          refine lv_iload_n hx hb dX6_step_58 rfl (lv_at hl 2 rfl) ?_
          refine lv_iload hx hb dX6_step_59 (lv_at hl 0 rfl) ?_
          obtain ⟨hz61, h⟩ := chk_of h
          refine st_i X hP hD hS 3 rfl (inb.vp hz61) (k := (l1).toNatClampNeg) rfl (ws1 := (W_X6_step E a_t a_now a_wBy a_wCell a_wFaces a_wFell a_wSign a_wTurns a_refused a_kept a_mind a_tape a_words a_telling a_holds a_sizes a_elements a_moved a_above a_out a_first (upd c_t 17 (c_wCell (l1).toNatClampNeg)) c_now c_wBy (upd c_wCell ((l1).toNatClampNeg) v2) c_wFaces c_wFell c_wSign c_wTurns)) rfl dX6_step_61 (fun H locs hP hD hS => ?_)
          refine lv_aload_n hx hb dX6_step_62 rfl (lv_at hl 1 rfl) ?_
          refine va_get (D := E.1) (ci := 6) (v := .ref a_wFell) (C := RX6) (T := TX6) (N := 26) hx hb hts iX6_step_X6 hown hK hP 0 rfl rfl 16 (by decide) (hts (.fieldLink RX6 48 "LeftIsAgreedOnModel" "wFell" "[I") (List.mem_of_getElem? (i := 1) rfl)) (fun _ h9 => h9) rfl dX6_step_63 ?_
          refine lv_iload_n hx hb dX6_step_66 rfl (lv_at hl 2 rfl) ?_
          refine lv_aload_n hx hb dX6_step_67 rfl (lv_at hl 1 rfl) ?_
          refine lv_iload hx hb dX6_step_68 (lv_at hl 0 rfl) ?_
          obtain ⟨v3, hv3, h⟩ := bind_of h
          refine after_i X (run_V X (c_X6_hasPond l E a_t a_now a_refused a_kept a_mind a_tape a_words a_wCell a_wFaces a_wTurns a_wSign a_wBy a_wFell a_telling a_holds a_sizes a_elements a_moved a_above a_out a_first v2 (upd c_t 17 (c_wCell (l1).toNatClampNeg)) c_now H.size v3 hv3) (cwV 1 hts gX6_step_X6_hasPond rfl rfl rfl hV_X6_hasPond ⟨(Nat.le_of_ble_eq_true rfl), (Nat.le_of_ble_eq_true rfl)⟩) hP hD hS [0, 1] rfl rfl hl.1 (ci := 6) rfl rfl rfl (rest := [.int l1, .ref a_wFell]) rfl rfl (Nat.le_of_ble_eq_true rfl) dX6_step_70) hP hD hS [0, 1] rfl (ws1 := (W_X6_step E a_t a_now a_wBy a_wCell a_wFaces a_wFell a_wSign a_wTurns a_refused a_kept a_mind a_tape a_words a_telling a_holds a_sizes a_elements a_moved a_above a_out a_first (upd c_t 17 (c_wCell (l1).toNatClampNeg)) c_now c_wBy (upd c_wCell ((l1).toNatClampNeg) v2) c_wFaces c_wFell c_wSign c_wTurns)) rfl (fun H locs hP hD hS => ?_)
          refine lv_if_eq (tgt := 81) hx hb dX6_step_73 (by decide) (fun hc73 => ?_) (fun hc73 => ?_)
          · have h := if_t h hc73
            refine lv_iconst (v := (-1 : Int32)) hx hb dX6_step_81 (by decide) ?_
            exact w_X6_step_b82 X a_t a_now a_wBy a_wCell a_wFaces a_wFell a_wSign a_wTurns a_refused a_kept a_mind a_tape a_words a_telling a_holds a_sizes a_elements a_moved a_above a_out a_first c_now res (upd c_t 17 (c_wCell (l1).toNatClampNeg)) c_wBy (upd c_wCell ((l1).toNatClampNeg) v2) c_wFaces c_wFell c_wSign c_wTurns (-1 : Int32) l1 _ _ _ h hP hD hS (lv_sub hl [] rfl)
          · have h := if_f h hc73
            refine lv_iload hx hb dX6_step_76 (lv_at hl 5 rfl) ?_
            refine lv_goto (tgt := 82) hx hb dX6_step_78 (by decide) ?_
            exact w_X6_step_b82 X a_t a_now a_wBy a_wCell a_wFaces a_wFell a_wSign a_wTurns a_refused a_kept a_mind a_tape a_words a_telling a_holds a_sizes a_elements a_moved a_above a_out a_first c_now res (upd c_t 17 (c_wCell (l1).toNatClampNeg)) c_wBy (upd c_wCell ((l1).toNatClampNeg) v2) c_wFaces c_wFell c_wSign c_wTurns l4 l1 _ _ _ h hP hD hS (lv_sub hl [] rfl)
    · have h := if_t h hc12
      obtain rfl := Option.some.inj h
      exact ret_v X dX6_step_15 hP hD hS
end
set_option maxRecDepth 100000 in
theorem c_X6_step (l : Launch) (E : Env0) (a_t : Nat) (a_now : Nat) (a_wBy : Nat) (a_wCell : Nat) (a_wFaces : Nat) (a_wFell : Nat) (a_wSign : Nat) (a_wTurns : Nat) (a_refused : Nat) (a_kept : Nat) (a_mind : Nat) (a_tape : Nat) (a_words : Nat) (a_telling : Nat) (a_holds : Nat) (a_sizes : Nat) (a_elements : Nat) (a_moved : Nat) (a_above : Nat) (a_out : Nat) (a_first : Nat) (l1 : Int32) (l2 : Int32) (l3 : Int32) (l4 : Int32) (c_t : Nat → Int32) (c_now : Nat → Int32) (c_wBy : Nat → Int32) (c_wCell : Nat → Int32) (c_wFaces : Nat → Int32) (c_wFell : Nat → Int32) (c_wSign : Nat → Int32) (c_wTurns : Nat → Int32) (sz : Nat) (res : (Nat → Int32) × (Nat → Int32) × (Nat → Int32) × (Nat → Int32) × (Nat → Int32) × (Nat → Int32) × (Nat → Int32)) (h : f_X6_step l1 l2 l3 l4 c_t c_now c_wBy c_wCell c_wFaces c_wFell c_wSign c_wTurns = some res) : Met l yX6_step wsX6_step r_X6_step (cPre E [.ref a_t, .int l1, .int l2, .int l3, .int l4] (W_X6_step E a_t a_now a_wBy a_wCell a_wFaces a_wFell a_wSign a_wTurns a_refused a_kept a_mind a_tape a_words a_telling a_holds a_sizes a_elements a_moved a_above a_out a_first c_t c_now c_wBy c_wCell c_wFaces c_wFell c_wSign c_wTurns) sz) (qV E (va_A (W_X6_step E a_t a_now a_wBy a_wCell a_wFaces a_wFell a_wSign a_wTurns a_refused a_kept a_mind a_tape a_words a_telling a_holds a_sizes a_elements a_moved a_above a_out a_first c_t c_now c_wBy c_wCell c_wFaces c_wFell c_wSign c_wTurns) sz) (W_X6_step E a_t a_now a_wBy a_wCell a_wFaces a_wFell a_wSign a_wTurns a_refused a_kept a_mind a_tape a_words a_telling a_holds a_sizes a_elements a_moved a_above a_out a_first (res.1) c_now (res.2.1) (res.2.2.1) (res.2.2.2.1) (res.2.2.2.2.1) (res.2.2.2.2.2.1) (res.2.2.2.2.2.2))) 0 0 (va_A (W_X6_step E a_t a_now a_wBy a_wCell a_wFaces a_wFell a_wSign a_wTurns a_refused a_kept a_mind a_tape a_words a_telling a_holds a_sizes a_elements a_moved a_above a_out a_first c_t c_now c_wBy c_wCell c_wFaces c_wFell c_wSign c_wTurns) sz) :=
  met_of (Qc := fun A => qV E A (W_X6_step E a_t a_now a_wBy a_wCell a_wFaces a_wFell a_wSign a_wTurns a_refused a_kept a_mind a_tape a_words a_telling a_holds a_sizes a_elements a_moved a_above a_out a_first (res.1) c_now (res.2.1) (res.2.2.1) (res.2.2.2.1) (res.2.2.2.2.1) (res.2.2.2.2.2.1) (res.2.2.2.2.2.2))) (by decide) rfl (Nat.le_of_ble_eq_true rfl) (fun p e s m args below meth c X hP hD hS ls hl => w_X6_step X a_t a_now a_wBy a_wCell a_wFaces a_wFell a_wSign a_wTurns a_refused a_kept a_mind a_tape a_words a_telling a_holds a_sizes a_elements a_moved a_above a_out a_first c_now res c_t c_wBy c_wCell c_wFaces c_wFell c_wSign c_wTurns l1 l2 l3 l4 ls _ _ h hP hD hS hl)
-- ===== X6_go
noncomputable abbrev W_X6_go (E : Env0) (a_t : Nat) (a_now : Nat) (a_telling : Nat) (a_wBy : Nat) (a_wCell : Nat) (a_wFaces : Nat) (a_wFell : Nat) (a_wSign : Nat) (a_wTurns : Nat) (a_refused : Nat) (a_kept : Nat) (a_mind : Nat) (a_tape : Nat) (a_words : Nat) (a_holds : Nat) (a_sizes : Nat) (a_elements : Nat) (a_moved : Nat) (a_above : Nat) (a_out : Nat) (a_first : Nat) (c_t : Nat → Int32) (c_now : Nat → Int32) (c_telling : Nat → Int32) (c_wBy : Nat → Int32) (c_wCell : Nat → Int32) (c_wFaces : Nat → Int32) (c_wFell : Nat → Int32) (c_wSign : Nat → Int32) (c_wTurns : Nat → Int32) : va_W := [(a_t, .inr (6, [.ref a_refused, .ref a_now, .ref a_kept, .ref a_mind, .int (c_t 4), .ref a_tape, .int (c_t 6), .int (c_t 7), .int (c_t 8), .int (c_t 9), .ref a_words, .ref a_wCell, .ref a_wFaces, .ref a_wTurns, .ref a_wSign, .ref a_wBy, .ref a_wFell, .int (c_t 17), .ref a_telling, .ref a_holds, .ref a_sizes, .ref a_elements, .ref a_moved, .ref a_above, .ref a_out, .ref a_first])), (a_now, .inl (eI E, 97, .inl c_now)), (a_telling, .inl (eI E, 40, .inl c_telling)), (a_wBy, .inl (eI E, 2, .inl c_wBy)), (a_wCell, .inl (eI E, 2, .inl c_wCell)), (a_wFaces, .inl (eI E, 2, .inl c_wFaces)), (a_wFell, .inl (eI E, 2, .inl c_wFell)), (a_wSign, .inl (eI E, 2, .inl c_wSign)), (a_wTurns, .inl (eI E, 2, .inl c_wTurns))]
noncomputable abbrev r_X6_go : Room := { frames := 5, cells := 0, slots := 0, locals := 122 }
theorem hd_X6_go : yX6_go.cls ≠ "java/lang/invoke/MethodHandle" ∧ yX6_go.cls ≠ "java/lang/invoke/VarHandle" ∧ (parseMethodDescriptor yX6_go.desc).map (fun d => d.parameters.length) = some 2 := by decide +kernel
theorem hV_X6_go : yX6_go.cls = RX6 ∧ yX6_go.cls ≠ "java/lang/invoke/MethodHandle" ∧ yX6_go.cls ≠ "java/lang/invoke/VarHandle" ∧ (parseMethodDescriptor yX6_go.desc).map (fun d => d.parameters.length) = some 2 := ⟨rfl, hd_X6_go⟩
theorem iX6_go_X6 : ∀ w ∈ wsX60, w ∈ wsX6_go := fun _ h => List.mem_cons_of_mem _ (List.mem_append_right _ (h))
section
variable {p : Program} {l : Launch} {e : Env} {s : State} {m : MethodId} {args : Array Value} {below : List Frame} {meth : Method} {c : Code} {E : Env0} {A : Nat → Prop}
set_option maxRecDepth 100000 in
set_option maxHeartbeats 4000000 in
theorem w_X6_go_b17 (X : Ctx p m meth c cX6_go 4 none s args wsX6_go RX6 E A) (a_t : Nat) (a_now : Nat) (a_telling : Nat) (a_wBy : Nat) (a_wCell : Nat) (a_wFaces : Nat) (a_wFell : Nat) (a_wSign : Nat) (a_wTurns : Nat) (a_refused : Nat) (a_kept : Nat) (a_mind : Nat) (a_tape : Nat) (a_words : Nat) (a_holds : Nat) (a_sizes : Nat) (a_elements : Nat) (a_moved : Nat) (a_above : Nat) (a_out : Nat) (a_first : Nat) (c_now : Nat → Int32) (c_telling : Nat → Int32) (res : (Nat → Int32) × (Nat → Int32) × (Nat → Int32) × (Nat → Int32) × (Nat → Int32) × (Nat → Int32) × (Nat → Int32)) : ∀ (n : Nat) (c_t : Nat → Int32) (c_wBy : Nat → Int32) (c_wCell : Nat → Int32) (c_wFaces : Nat → Int32) (c_wFell : Nat → Int32) (c_wSign : Nat → Int32) (c_wTurns : Nat → Int32) (l1 : Int32) (l2 : Int32) (l3 : Int32) (ls : Array Slot) (H : Heap) (locs : List Loc), f_X6_go_b17 c_now c_telling n c_t c_wBy c_wCell c_wFaces c_wFell c_wSign c_wTurns l1 l2 l3 = some res → va_P E.1 vwCl (W_X6_go E a_t a_now a_telling a_wBy a_wCell a_wFaces a_wFell a_wSign a_wTurns a_refused a_kept a_mind a_tape a_words a_holds a_sizes a_elements a_moved a_above a_out a_first c_t c_now c_telling c_wBy c_wCell c_wFaces c_wFell c_wSign c_wTurns) H → va_D A (W_X6_go E a_t a_now a_telling a_wBy a_wCell a_wFaces a_wFell a_wSign a_wTurns a_refused a_kept a_mind a_tape a_words a_holds a_sizes a_elements a_moved a_above a_out a_first c_t c_now c_telling c_wBy c_wCell c_wFaces c_wFell c_wSign c_wTurns) → va_S A s.heap H locs → lv_has ls 4 [(0, .ref a_t), (1, .int l1), (2, .int l2), (3, .int l3)] → W p l e r_X6_go s m args below meth c H locs 0 0 (MQ below (qV E A (W_X6_go E a_t a_now a_telling a_wBy a_wCell a_wFaces a_wFell a_wSign a_wTurns a_refused a_kept a_mind a_tape a_words a_holds a_sizes a_elements a_moved a_above a_out a_first (res.1) c_now c_telling (res.2.1) (res.2.2.1) (res.2.2.2.1) (res.2.2.2.2.1) (res.2.2.2.2.2.1) (res.2.2.2.2.2.2))) args s 0 0 A) (F0 m 17 ls []) := by
  obtain ⟨hx, hb, hml, hr, hlk, hown, hts, hG, hA⟩ := id X
  have hK := hG.1
  have hN := hG.2.1
  intro n
  induction n with
  | zero =>
    intro c_t c_wBy c_wCell c_wFaces c_wFell c_wSign c_wTurns l1 l2 l3 ls H locs h
    exact absurd (show (none : Option ((Nat → Int32) × (Nat → Int32) × (Nat → Int32) × (Nat → Int32) × (Nat → Int32) × (Nat → Int32) × (Nat → Int32))) = some res from h) (by intro q; cases q)
  | succ n ih =>
    intro c_t c_wBy c_wCell c_wFaces c_wFell c_wSign c_wTurns l1 l2 l3 ls H locs h hP hD hS hl
    rw [f_X6_go_b17] at h
    refine lv_iload_n hx hb dX6_go_17 rfl (lv_at hl 3 rfl) ?_
    refine lv_iload_n hx hb dX6_go_18 rfl (lv_at hl 2 rfl) ?_
    refine lv_icmp_ge (tgt := 41) hx hb dX6_go_19 (by decide) (fun hc19 => ?_) (fun hc19 => ?_)
    · have h := if_t h hc19
      obtain rfl := Option.some.inj h
      exact ret_v X dX6_go_41 hP hD hS
    · have h := if_f h hc19
      refine lv_aload_n hx hb dX6_go_22 rfl (lv_at hl 0 rfl) ?_
      refine lv_iconst (v := (0 : Int32)) hx hb dX6_go_23 (by decide) ?_
      refine lv_iload_n hx hb dX6_go_24 rfl (lv_at hl 1 rfl) ?_
      refine lv_aload_n hx hb dX6_go_25 rfl (lv_at hl 0 rfl) ?_
      refine va_get (D := E.1) (ci := 6) (v := .ref a_telling) (C := RX6) (T := TX6) (N := 26) hx hb hts iX6_go_X6 hown hK hP 0 rfl rfl 18 (by decide) (hts (.fieldLink RX6 51 "LeftIsAgreedOnModel" "telling" "[I") (List.mem_of_getElem? (i := 1) rfl)) (fun _ h9 => h9) rfl dX6_go_26 ?_
      refine lv_iload_n hx hb dX6_go_29 rfl (lv_at hl 3 rfl) ?_
      obtain ⟨hz30, h⟩ := chk_of h
      refine ld_i X hP 2 rfl (inb.vp hz30) (v := (c_telling (l3).toNatClampNeg)) rfl dX6_go_30 ?_
      refine lv_iload_n hx hb dX6_go_31 rfl (lv_at hl 3 rfl) ?_
      obtain ⟨v1, hv1, h⟩ := bind_of h
      refine after_v X (run_V X (c_X6_step l E a_t a_now a_wBy a_wCell a_wFaces a_wFell a_wSign a_wTurns a_refused a_kept a_mind a_tape a_words a_telling a_holds a_sizes a_elements a_moved a_above a_out a_first (0 : Int32) l1 (c_telling (l3).toNatClampNeg) l3 c_t c_now c_wBy c_wCell c_wFaces c_wFell c_wSign c_wTurns H.size v1 hv1) (cwV 4 hts gX6_go_X6_step rfl rfl rfl hV_X6_step ⟨(Nat.le_of_ble_eq_true rfl), (Nat.le_of_ble_eq_true rfl)⟩) hP hD hS [0, 1, 3, 4, 5, 6, 7, 8] rfl rfl hl.1 (ci := 6) rfl rfl rfl (rest := []) rfl rfl (Nat.le_of_ble_eq_true rfl) dX6_go_32) hP hD hS [0, 1, 3, 4, 5, 6, 7, 8] rfl (ws1 := (W_X6_go E a_t a_now a_telling a_wBy a_wCell a_wFaces a_wFell a_wSign a_wTurns a_refused a_kept a_mind a_tape a_words a_holds a_sizes a_elements a_moved a_above a_out a_first (v1.1) c_now c_telling (v1.2.1) (v1.2.2.1) (v1.2.2.2.1) (v1.2.2.2.2.1) (v1.2.2.2.2.2.1) (v1.2.2.2.2.2.2))) rfl (fun H locs hP hD hS => ?_)
      refine lv_iinc (v := (l3 + (1 : Int32))) (lv' := [(3, .int (l3 + (1 : Int32))), (0, .ref a_t), (1, .int l1), (2, .int l2)]) hx hb dX6_go_35 hl (k := 3) rfl rfl (by decide) rfl (fun ls hl => ?_)
      refine lv_goto (tgt := 17) hx hb dX6_go_38 (by decide) ?_
      exact ih (v1.1) (v1.2.1) (v1.2.2.1) (v1.2.2.2.1) (v1.2.2.2.2.1) (v1.2.2.2.2.2.1) (v1.2.2.2.2.2.2) l1 l2 (l3 + (1 : Int32)) _ _ _ h hP hD hS (lv_sub hl [1, 2, 3, 0] rfl)
set_option maxRecDepth 100000 in
set_option maxHeartbeats 4000000 in
theorem w_X6_go (X : Ctx p m meth c cX6_go 4 none s args wsX6_go RX6 E A) (a_t : Nat) (a_now : Nat) (a_telling : Nat) (a_wBy : Nat) (a_wCell : Nat) (a_wFaces : Nat) (a_wFell : Nat) (a_wSign : Nat) (a_wTurns : Nat) (a_refused : Nat) (a_kept : Nat) (a_mind : Nat) (a_tape : Nat) (a_words : Nat) (a_holds : Nat) (a_sizes : Nat) (a_elements : Nat) (a_moved : Nat) (a_above : Nat) (a_out : Nat) (a_first : Nat) (c_now : Nat → Int32) (c_telling : Nat → Int32) (res : (Nat → Int32) × (Nat → Int32) × (Nat → Int32) × (Nat → Int32) × (Nat → Int32) × (Nat → Int32) × (Nat → Int32)) (c_t : Nat → Int32) (c_wBy : Nat → Int32) (c_wCell : Nat → Int32) (c_wFaces : Nat → Int32) (c_wFell : Nat → Int32) (c_wSign : Nat → Int32) (c_wTurns : Nat → Int32) (l1 : Int32) (l2 : Int32) (ls : Array Slot) (H : Heap) (locs : List Loc) (h : f_X6_go l1 l2 c_t c_now c_telling c_wBy c_wCell c_wFaces c_wFell c_wSign c_wTurns = some res) (hP : va_P E.1 vwCl (W_X6_go E a_t a_now a_telling a_wBy a_wCell a_wFaces a_wFell a_wSign a_wTurns a_refused a_kept a_mind a_tape a_words a_holds a_sizes a_elements a_moved a_above a_out a_first c_t c_now c_telling c_wBy c_wCell c_wFaces c_wFell c_wSign c_wTurns) H) (hD : va_D A (W_X6_go E a_t a_now a_telling a_wBy a_wCell a_wFaces a_wFell a_wSign a_wTurns a_refused a_kept a_mind a_tape a_words a_holds a_sizes a_elements a_moved a_above a_out a_first c_t c_now c_telling c_wBy c_wCell c_wFaces c_wFell c_wSign c_wTurns)) (hS : va_S A s.heap H locs) (hl : lv_has ls 4 [(0, .ref a_t), (1, .int l1), (2, .int l2)]) : W p l e r_X6_go s m args below meth c H locs 0 0 (MQ below (qV E A (W_X6_go E a_t a_now a_telling a_wBy a_wCell a_wFaces a_wFell a_wSign a_wTurns a_refused a_kept a_mind a_tape a_words a_holds a_sizes a_elements a_moved a_above a_out a_first (res.1) c_now c_telling (res.2.1) (res.2.2.1) (res.2.2.2.1) (res.2.2.2.2.1) (res.2.2.2.2.2.1) (res.2.2.2.2.2.2))) args s 0 0 A) (F0 m 0 ls []) := by
  obtain ⟨hx, hb, hml, hr, hlk, hown, hts, hG, hA⟩ := id X
  have hK := hG.1
  have hN := hG.2.1
  unfold f_X6_go at h
  refine lv_aload_n hx hb dX6_go_0 rfl (lv_at hl 0 rfl) ?_
  refine lv_iconst (v := (0 : Int32)) hx hb dX6_go_1 (by decide) ?_
  refine lv_aload_n hx hb dX6_go_2 rfl (lv_at hl 0 rfl) ?_
  refine lv_iload_n hx hb dX6_go_3 rfl (lv_at hl 1 rfl) ?_
  obtain ⟨v1, hv1, h⟩ := bind_of h
  refine after_i X (run_V X (c_X6_cell l E a_t a_now a_refused a_kept a_mind a_tape a_words a_wCell a_wFaces a_wTurns a_wSign a_wBy a_wFell a_telling a_holds a_sizes a_elements a_moved a_above a_out a_first l1 c_t c_now H.size v1 hv1) (cwV 1 hts gX6_go_X6_cell rfl rfl rfl hV_X6_cell ⟨(Nat.le_of_ble_eq_true rfl), (Nat.le_of_ble_eq_true rfl)⟩) hP hD hS [0, 1] rfl rfl hl.1 (ci := 6) rfl rfl rfl (rest := [.int (0 : Int32), .ref a_t]) rfl rfl (Nat.le_of_ble_eq_true rfl) dX6_go_4) hP hD hS [0, 1] rfl (ws1 := (W_X6_go E a_t a_now a_telling a_wBy a_wCell a_wFaces a_wFell a_wSign a_wTurns a_refused a_kept a_mind a_tape a_words a_holds a_sizes a_elements a_moved a_above a_out a_first c_t c_now c_telling c_wBy c_wCell c_wFaces c_wFell c_wSign c_wTurns)) rfl (fun H locs hP hD hS => ?_)
  refine lv_aload_n hx hb dX6_go_7 rfl (lv_at hl 0 rfl) ?_
  refine lv_iload_n hx hb dX6_go_8 rfl (lv_at hl 1 rfl) ?_
  obtain ⟨v2, hv2, h⟩ := bind_of h
  refine after_i X (run_V X (c_X6_faces l E a_t a_now a_refused a_kept a_mind a_tape a_words a_wCell a_wFaces a_wTurns a_wSign a_wBy a_wFell a_telling a_holds a_sizes a_elements a_moved a_above a_out a_first l1 c_t c_now H.size v2 hv2) (cwV 1 hts gX6_go_X6_faces rfl rfl rfl hV_X6_faces ⟨(Nat.le_of_ble_eq_true rfl), (Nat.le_of_ble_eq_true rfl)⟩) hP hD hS [0, 1] rfl rfl hl.1 (ci := 6) rfl rfl rfl (rest := [.int v1, .int (0 : Int32), .ref a_t]) rfl rfl (Nat.le_of_ble_eq_true rfl) dX6_go_9) hP hD hS [0, 1] rfl (ws1 := (W_X6_go E a_t a_now a_telling a_wBy a_wCell a_wFaces a_wFell a_wSign a_wTurns a_refused a_kept a_mind a_tape a_words a_holds a_sizes a_elements a_moved a_above a_out a_first c_t c_now c_telling c_wBy c_wCell c_wFaces c_wFell c_wSign c_wTurns)) rfl (fun H locs hP hD hS => ?_)
  obtain ⟨v3, hv3, h⟩ := bind_of h
  refine after_v X (run_V X (c_X6_start l E a_t a_wCell a_wFaces a_wFell a_wTurns a_refused a_now a_kept a_mind a_tape a_words a_wSign a_wBy a_telling a_holds a_sizes a_elements a_moved a_above a_out a_first (0 : Int32) v1 v2 c_t c_wCell c_wFaces c_wFell c_wTurns H.size v3 hv3) (cwV 3 hts gX6_go_X6_start rfl rfl rfl hV_X6_start ⟨(Nat.le_of_ble_eq_true rfl), (Nat.le_of_ble_eq_true rfl)⟩) hP hD hS [0, 4, 5, 6, 8] rfl rfl hl.1 (ci := 6) rfl rfl rfl (rest := []) rfl rfl (Nat.le_of_ble_eq_true rfl) dX6_go_12) hP hD hS [0, 4, 5, 6, 8] rfl (ws1 := (W_X6_go E a_t a_now a_telling a_wBy a_wCell a_wFaces a_wFell a_wSign a_wTurns a_refused a_kept a_mind a_tape a_words a_holds a_sizes a_elements a_moved a_above a_out a_first c_t c_now c_telling c_wBy (v3.1) (v3.2.1) (v3.2.2.1) c_wSign (v3.2.2.2))) rfl (fun H locs hP hD hS => ?_)
  refine lv_iconst (v := (0 : Int32)) hx hb dX6_go_15 (by decide) ?_
  refine lv_istore_n (lv' := [(3, .int (0 : Int32)), (0, .ref a_t), (1, .int l1), (2, .int l2)]) hx hb dX6_go_16 rfl hl (by decide) rfl (fun ls hl => ?_)
  exact w_X6_go_b17 X a_t a_now a_telling a_wBy a_wCell a_wFaces a_wFell a_wSign a_wTurns a_refused a_kept a_mind a_tape a_words a_holds a_sizes a_elements a_moved a_above a_out a_first c_now c_telling res FU c_t c_wBy (v3.1) (v3.2.1) (v3.2.2.1) c_wSign (v3.2.2.2) l1 l2 (0 : Int32) _ _ _ h hP hD hS (lv_sub hl [1, 2, 3, 0] rfl)
end
set_option maxRecDepth 100000 in
theorem c_X6_go (l : Launch) (E : Env0) (a_t : Nat) (a_now : Nat) (a_telling : Nat) (a_wBy : Nat) (a_wCell : Nat) (a_wFaces : Nat) (a_wFell : Nat) (a_wSign : Nat) (a_wTurns : Nat) (a_refused : Nat) (a_kept : Nat) (a_mind : Nat) (a_tape : Nat) (a_words : Nat) (a_holds : Nat) (a_sizes : Nat) (a_elements : Nat) (a_moved : Nat) (a_above : Nat) (a_out : Nat) (a_first : Nat) (l1 : Int32) (l2 : Int32) (c_t : Nat → Int32) (c_now : Nat → Int32) (c_telling : Nat → Int32) (c_wBy : Nat → Int32) (c_wCell : Nat → Int32) (c_wFaces : Nat → Int32) (c_wFell : Nat → Int32) (c_wSign : Nat → Int32) (c_wTurns : Nat → Int32) (sz : Nat) (res : (Nat → Int32) × (Nat → Int32) × (Nat → Int32) × (Nat → Int32) × (Nat → Int32) × (Nat → Int32) × (Nat → Int32)) (h : f_X6_go l1 l2 c_t c_now c_telling c_wBy c_wCell c_wFaces c_wFell c_wSign c_wTurns = some res) : Met l yX6_go wsX6_go r_X6_go (cPre E [.ref a_t, .int l1, .int l2] (W_X6_go E a_t a_now a_telling a_wBy a_wCell a_wFaces a_wFell a_wSign a_wTurns a_refused a_kept a_mind a_tape a_words a_holds a_sizes a_elements a_moved a_above a_out a_first c_t c_now c_telling c_wBy c_wCell c_wFaces c_wFell c_wSign c_wTurns) sz) (qV E (va_A (W_X6_go E a_t a_now a_telling a_wBy a_wCell a_wFaces a_wFell a_wSign a_wTurns a_refused a_kept a_mind a_tape a_words a_holds a_sizes a_elements a_moved a_above a_out a_first c_t c_now c_telling c_wBy c_wCell c_wFaces c_wFell c_wSign c_wTurns) sz) (W_X6_go E a_t a_now a_telling a_wBy a_wCell a_wFaces a_wFell a_wSign a_wTurns a_refused a_kept a_mind a_tape a_words a_holds a_sizes a_elements a_moved a_above a_out a_first (res.1) c_now c_telling (res.2.1) (res.2.2.1) (res.2.2.2.1) (res.2.2.2.2.1) (res.2.2.2.2.2.1) (res.2.2.2.2.2.2))) 0 0 (va_A (W_X6_go E a_t a_now a_telling a_wBy a_wCell a_wFaces a_wFell a_wSign a_wTurns a_refused a_kept a_mind a_tape a_words a_holds a_sizes a_elements a_moved a_above a_out a_first c_t c_now c_telling c_wBy c_wCell c_wFaces c_wFell c_wSign c_wTurns) sz) :=
  met_of (Qc := fun A => qV E A (W_X6_go E a_t a_now a_telling a_wBy a_wCell a_wFaces a_wFell a_wSign a_wTurns a_refused a_kept a_mind a_tape a_words a_holds a_sizes a_elements a_moved a_above a_out a_first (res.1) c_now c_telling (res.2.1) (res.2.2.1) (res.2.2.2.1) (res.2.2.2.2.1) (res.2.2.2.2.2.1) (res.2.2.2.2.2.2))) (by decide) rfl (Nat.le_of_ble_eq_true rfl) (fun p e s m args below meth c X hP hD hS ls hl => w_X6_go X a_t a_now a_telling a_wBy a_wCell a_wFaces a_wFell a_wSign a_wTurns a_refused a_kept a_mind a_tape a_words a_holds a_sizes a_elements a_moved a_above a_out a_first c_now c_telling res c_t c_wBy c_wCell c_wFaces c_wFell c_wSign c_wTurns l1 l2 ls _ _ h hP hD hS hl)
-- ===== X6_isShelf
noncomputable abbrev W_X6_isShelf (E : Env0) : va_W := []
noncomputable abbrev r_X6_isShelf : Room := { frames := 1, cells := 0, slots := 0, locals := 25 }
theorem hd_X6_isShelf : yX6_isShelf.cls ≠ "java/lang/invoke/MethodHandle" ∧ yX6_isShelf.cls ≠ "java/lang/invoke/VarHandle" ∧ (parseMethodDescriptor yX6_isShelf.desc).map (fun d => d.parameters.length) = some 1 := by decide +kernel
section
variable {p : Program} {l : Launch} {e : Env} {s : State} {m : MethodId} {args : Array Value} {below : List Frame} {meth : Method} {c : Code} {E : Env0} {A : Nat → Prop}
set_option maxRecDepth 100000 in
set_option maxHeartbeats 4000000 in
theorem w_X6_isShelf (X : Ctx p m meth c cX6_isShelf 1 ((some .boolean)) s args wsX6_isShelf RX6 E A) (res : Int32) (l0 : Int32) (ls : Array Slot) (H : Heap) (locs : List Loc) (h : f_X6_isShelf l0 = some res) (hP : va_P E.1 vwCl (W_X6_isShelf E) H) (hD : va_D A (W_X6_isShelf E)) (hS : va_S A s.heap H locs) (hl : lv_has ls 1 [(0, .int l0)]) : W p l e r_X6_isShelf s m args below meth c H locs 0 0 (MQ below (qI E A res (W_X6_isShelf E)) args s 0 0 A) (F0 m 0 ls []) := by
  obtain ⟨hx, hb, hml, hr, hlk, hown, hts, hG, hA⟩ := id X
  have hK := hG.1
  have hN := hG.2.1
  unfold f_X6_isShelf at h
  refine lv_iload_n hx hb dX6_isShelf_0 rfl (lv_at hl 0 rfl) ?_
  refine lv_i2l (v := (l0.toInt64)) hx hb dX6_isShelf_1 rfl ?_
  refine lv_lconst (v := (0 : Int64)) hx hb dX6_isShelf_2 (by decide) ?_
  refine lv_ldc2 (v := (7 : Int64)) hx hb hown (hts (.constantLong RX6 99 (7)) (List.mem_of_getElem? (i := 1) rfl)) dX6_isShelf_3 ?_
  obtain ⟨v1, hv1, h⟩ := bind_of h
  refine after_i X (run_S X (c_X6_isIn l E (l0.toInt64) (0 : Int64) (7 : Int64) H.size v1 hv1) (va_cwS 3 hts gX6_isShelf_X6_isIn rfl rfl rfl hd_X6_isIn ⟨(Nat.le_of_ble_eq_true rfl), (Nat.le_of_ble_eq_true rfl)⟩) hP hD hS [] rfl rfl hl.1 (rest := []) rfl rfl (Nat.le_of_ble_eq_true rfl) dX6_isShelf_6) hP hD hS [] rfl (ws1 := (W_X6_isShelf E)) rfl (fun H locs hP hD hS => ?_)
  obtain ⟨hz9, h⟩ := chk_of h
  obtain rfl := Option.some.inj h
  exact ret_z X dX6_isShelf_9 hz9 hP hD hS rfl
end
set_option maxRecDepth 100000 in
theorem c_X6_isShelf (l : Launch) (E : Env0) (l0 : Int32) (sz : Nat) (res : Int32) (h : f_X6_isShelf l0 = some res) : Met l yX6_isShelf wsX6_isShelf r_X6_isShelf (cPre E [.int l0] (W_X6_isShelf E) sz) (qI E (va_A (W_X6_isShelf E) sz) res (W_X6_isShelf E)) 0 0 (va_A (W_X6_isShelf E) sz) :=
  met_of (Qc := fun A => qI E A res (W_X6_isShelf E)) (by decide) rfl (Nat.le_of_ble_eq_true rfl) (fun p e s m args below meth c X hP hD hS ls hl => w_X6_isShelf X res l0 ls _ _ h hP hD hS hl)
-- ===== X6_row
noncomputable abbrev W_X6_row (E : Env0) (a_t : Nat) (a_elements : Nat) (a_holds : Nat) (a_refused : Nat) (a_sizes : Nat) (a_now : Nat) (a_kept : Nat) (a_mind : Nat) (a_tape : Nat) (a_words : Nat) (a_wCell : Nat) (a_wFaces : Nat) (a_wTurns : Nat) (a_wSign : Nat) (a_wBy : Nat) (a_wFell : Nat) (a_telling : Nat) (a_moved : Nat) (a_above : Nat) (a_out : Nat) (a_first : Nat) (c_t : Nat → Int32) (c_elements : Nat → Int64) (c_holds : Nat → Int32) (c_refused : Nat → Int32) (c_sizes : Nat → Int32) : va_W := [(a_t, .inr (6, [.ref a_refused, .ref a_now, .ref a_kept, .ref a_mind, .int (c_t 4), .ref a_tape, .int (c_t 6), .int (c_t 7), .int (c_t 8), .int (c_t 9), .ref a_words, .ref a_wCell, .ref a_wFaces, .ref a_wTurns, .ref a_wSign, .ref a_wBy, .ref a_wFell, .int (c_t 17), .ref a_telling, .ref a_holds, .ref a_sizes, .ref a_elements, .ref a_moved, .ref a_above, .ref a_out, .ref a_first])), (a_elements, .inl (eJ E, 320, .inr (.inl c_elements))), (a_holds, .inl (eI E, 8, .inl c_holds)), (a_refused, .inl (eI E, 7, .inl c_refused)), (a_sizes, .inl (eI E, 8, .inl c_sizes))]
noncomputable abbrev r_X6_row : Room := { frames := 2, cells := 0, slots := 0, locals := 45 }
theorem hd_X6_row : yX6_row.cls ≠ "java/lang/invoke/MethodHandle" ∧ yX6_row.cls ≠ "java/lang/invoke/VarHandle" ∧ (parseMethodDescriptor yX6_row.desc).map (fun d => d.parameters.length) = some 3 := by decide +kernel
theorem hV_X6_row : yX6_row.cls = RX6 ∧ yX6_row.cls ≠ "java/lang/invoke/MethodHandle" ∧ yX6_row.cls ≠ "java/lang/invoke/VarHandle" ∧ (parseMethodDescriptor yX6_row.desc).map (fun d => d.parameters.length) = some 3 := ⟨rfl, hd_X6_row⟩
theorem iX6_row_X6 : ∀ w ∈ wsX60, w ∈ wsX6_row := fun _ h => List.mem_cons_of_mem _ (List.mem_append_right _ (h))
section
variable {p : Program} {l : Launch} {e : Env} {s : State} {m : MethodId} {args : Array Value} {below : List Frame} {meth : Method} {c : Code} {E : Env0} {A : Nat → Prop}
set_option maxRecDepth 100000 in
set_option maxHeartbeats 4000000 in
theorem w_X6_row_b31 (X : Ctx p m meth c cX6_row 5 ((some .int)) s args wsX6_row RX6 E A) (a_t : Nat) (a_elements : Nat) (a_holds : Nat) (a_refused : Nat) (a_sizes : Nat) (a_now : Nat) (a_kept : Nat) (a_mind : Nat) (a_tape : Nat) (a_words : Nat) (a_wCell : Nat) (a_wFaces : Nat) (a_wTurns : Nat) (a_wSign : Nat) (a_wBy : Nat) (a_wFell : Nat) (a_telling : Nat) (a_moved : Nat) (a_above : Nat) (a_out : Nat) (a_first : Nat) (c_t : Nat → Int32) (res : Int32 × (Nat → Int64) × (Nat → Int32) × (Nat → Int32) × (Nat → Int32)) (c_elements : Nat → Int64) (c_holds : Nat → Int32) (c_refused : Nat → Int32) (c_sizes : Nat → Int32) (ls : Array Slot) (H : Heap) (locs : List Loc) (h : f_X6_row_b31 c_t c_elements c_holds c_refused c_sizes = some res) (hP : va_P E.1 vwCl (W_X6_row E a_t a_elements a_holds a_refused a_sizes a_now a_kept a_mind a_tape a_words a_wCell a_wFaces a_wTurns a_wSign a_wBy a_wFell a_telling a_moved a_above a_out a_first c_t c_elements c_holds c_refused c_sizes) H) (hD : va_D A (W_X6_row E a_t a_elements a_holds a_refused a_sizes a_now a_kept a_mind a_tape a_words a_wCell a_wFaces a_wTurns a_wSign a_wBy a_wFell a_telling a_moved a_above a_out a_first c_t c_elements c_holds c_refused c_sizes)) (hS : va_S A s.heap H locs) (hl : lv_has ls 5 [(0, .ref a_t)]) : W p l e r_X6_row s m args below meth c H locs 0 0 (MQ below (qI E A (res.1) (W_X6_row E a_t a_elements a_holds a_refused a_sizes a_now a_kept a_mind a_tape a_words a_wCell a_wFaces a_wTurns a_wSign a_wBy a_wFell a_telling a_moved a_above a_out a_first c_t (res.2.1) (res.2.2.1) (res.2.2.2.1) (res.2.2.2.2))) args s 0 0 A) (F0 m 31 ls []) := by
  obtain ⟨hx, hb, hml, hr, hlk, hown, hts, hG, hA⟩ := id X
  have hK := hG.1
  have hN := hG.2.1
  unfold f_X6_row_b31 at h
  refine lv_aload_n hx hb dX6_row_31 rfl (lv_at hl 0 rfl) ?_
  refine lv_bipush (v := (-2 : Int32)) hx hb dX6_row_32 (by decide) ?_
  obtain ⟨v1, hv1, h⟩ := bind_of h
  refine after_i X (run_V X (c_X6_refuse l E a_t a_refused a_now a_kept a_mind a_tape a_words a_wCell a_wFaces a_wTurns a_wSign a_wBy a_wFell a_telling a_holds a_sizes a_elements a_moved a_above a_out a_first (-2 : Int32) c_t c_refused H.size v1 hv1) (cwV 1 hts gX6_row_X6_refuse rfl rfl rfl hV_X6_refuse ⟨(Nat.le_of_ble_eq_true rfl), (Nat.le_of_ble_eq_true rfl)⟩) hP hD hS [0, 3] rfl rfl hl.1 (ci := 6) rfl rfl rfl (rest := []) rfl rfl (Nat.le_of_ble_eq_true rfl) dX6_row_34) hP hD hS [0, 3] rfl (ws1 := (W_X6_row E a_t a_elements a_holds a_refused a_sizes a_now a_kept a_mind a_tape a_words a_wCell a_wFaces a_wTurns a_wSign a_wBy a_wFell a_telling a_moved a_above a_out a_first c_t c_elements c_holds (v1.2) c_sizes)) rfl (fun H locs hP hD hS => ?_)
  obtain rfl := Option.some.inj h
  exact ret_i X dX6_row_37 hP hD hS rfl
set_option maxRecDepth 100000 in
set_option maxHeartbeats 4000000 in
theorem w_X6_row_b55 (X : Ctx p m meth c cX6_row 5 ((some .int)) s args wsX6_row RX6 E A) (a_t : Nat) (a_elements : Nat) (a_holds : Nat) (a_refused : Nat) (a_sizes : Nat) (a_now : Nat) (a_kept : Nat) (a_mind : Nat) (a_tape : Nat) (a_words : Nat) (a_wCell : Nat) (a_wFaces : Nat) (a_wTurns : Nat) (a_wSign : Nat) (a_wBy : Nat) (a_wFell : Nat) (a_telling : Nat) (a_moved : Nat) (a_above : Nat) (a_out : Nat) (a_first : Nat) (c_t : Nat → Int32) (res : Int32 × (Nat → Int64) × (Nat → Int32) × (Nat → Int32) × (Nat → Int32)) : ∀ (n : Nat) (c_elements : Nat → Int64) (c_holds : Nat → Int32) (c_refused : Nat → Int32) (c_sizes : Nat → Int32) (l1 : Int32) (l4 : Int32) (ls : Array Slot) (H : Heap) (locs : List Loc), f_X6_row_b55 c_t n c_elements c_holds c_refused c_sizes l1 l4 = some res → va_P E.1 vwCl (W_X6_row E a_t a_elements a_holds a_refused a_sizes a_now a_kept a_mind a_tape a_words a_wCell a_wFaces a_wTurns a_wSign a_wBy a_wFell a_telling a_moved a_above a_out a_first c_t c_elements c_holds c_refused c_sizes) H → va_D A (W_X6_row E a_t a_elements a_holds a_refused a_sizes a_now a_kept a_mind a_tape a_words a_wCell a_wFaces a_wTurns a_wSign a_wBy a_wFell a_telling a_moved a_above a_out a_first c_t c_elements c_holds c_refused c_sizes) → va_S A s.heap H locs → lv_has ls 5 [(0, .ref a_t), (1, .int l1), (4, .int l4)] → W p l e r_X6_row s m args below meth c H locs 0 0 (MQ below (qI E A (res.1) (W_X6_row E a_t a_elements a_holds a_refused a_sizes a_now a_kept a_mind a_tape a_words a_wCell a_wFaces a_wTurns a_wSign a_wBy a_wFell a_telling a_moved a_above a_out a_first c_t (res.2.1) (res.2.2.1) (res.2.2.2.1) (res.2.2.2.2))) args s 0 0 A) (F0 m 55 ls []) := by
  obtain ⟨hx, hb, hml, hr, hlk, hown, hts, hG, hA⟩ := id X
  have hK := hG.1
  have hN := hG.2.1
  intro n
  induction n with
  | zero =>
    intro c_elements c_holds c_refused c_sizes l1 l4 ls H locs h
    exact absurd (show (none : Option (Int32 × (Nat → Int64) × (Nat → Int32) × (Nat → Int32) × (Nat → Int32))) = some res from h) (by intro q; cases q)
  | succ n ih =>
    intro c_elements c_holds c_refused c_sizes l1 l4 ls H locs h hP hD hS hl
    rw [f_X6_row_b55] at h
    refine lv_iload hx hb dX6_row_55 (lv_at hl 2 rfl) ?_
    refine lv_bipush (v := (40 : Int32)) hx hb dX6_row_57 (by decide) ?_
    refine lv_icmp_ge (tgt := 81) hx hb dX6_row_59 (by decide) (fun hc59 => ?_) (fun hc59 => ?_)
    · have h := if_t h hc59
      refine lv_iconst (v := (1 : Int32)) hx hb dX6_row_81 (by decide) ?_
      obtain rfl := Option.some.inj h
      exact ret_i X dX6_row_82 hP hD hS rfl
    · have h := if_f h hc59
      refine lv_aload_n hx hb dX6_row_62 rfl (lv_at hl 0 rfl) ?_
      refine va_get (D := E.1) (ci := 6) (v := .ref a_elements) (C := RX6) (T := TX6) (N := 26) hx hb hts iX6_row_X6 hown hK hP 0 rfl rfl 21 (by decide) (hts (.fieldLink RX6 60 "LeftIsAgreedOnModel" "elements" "[J") (List.mem_of_getElem? (i := 5) rfl)) (fun _ h9 => h9) rfl dX6_row_63 ?_
      refine lv_bipush (v := (40 : Int32)) hx hb dX6_row_66 (by decide) ?_
      refine lv_iload_n hx hb dX6_row_68 rfl (lv_at hl 1 rfl) ?_
      refine lv_imul hx hb dX6_row_69 ?_
      refine lv_iload hx hb dX6_row_70 (lv_at hl 2 rfl) ?_
      refine lv_iadd hx hb dX6_row_72 ?_
      refine lv_lconst (v := (0 : Int64)) hx hb dX6_row_73 (by decide) ?_
      obtain ⟨hz74, h⟩ := chk_of h
      refine st_l X hP hD hS 1 rfl (inb.vp hz74) (k := ((((40 : Int32) * l1) + l4)).toNatClampNeg) rfl (ws1 := (W_X6_row E a_t a_elements a_holds a_refused a_sizes a_now a_kept a_mind a_tape a_words a_wCell a_wFaces a_wTurns a_wSign a_wBy a_wFell a_telling a_moved a_above a_out a_first c_t (vp_updL c_elements (((((40 : Int32) * l1) + l4)).toNatClampNeg) (0 : Int64)) c_holds c_refused c_sizes)) rfl dX6_row_74 (fun H locs hP hD hS => ?_)
      refine lv_iinc (v := (l4 + (1 : Int32))) (lv' := [(4, .int (l4 + (1 : Int32))), (0, .ref a_t), (1, .int l1)]) hx hb dX6_row_75 hl (k := 2) rfl rfl (by decide) rfl (fun ls hl => ?_)
      refine lv_goto (tgt := 55) hx hb dX6_row_78 (by decide) ?_
      exact ih (vp_updL c_elements (((((40 : Int32) * l1) + l4)).toNatClampNeg) (0 : Int64)) c_holds c_refused c_sizes l1 (l4 + (1 : Int32)) _ _ _ h hP hD hS (lv_sub hl [1, 2, 0] rfl)
set_option maxRecDepth 100000 in
set_option maxHeartbeats 4000000 in
theorem w_X6_row (X : Ctx p m meth c cX6_row 5 ((some .int)) s args wsX6_row RX6 E A) (a_t : Nat) (a_elements : Nat) (a_holds : Nat) (a_refused : Nat) (a_sizes : Nat) (a_now : Nat) (a_kept : Nat) (a_mind : Nat) (a_tape : Nat) (a_words : Nat) (a_wCell : Nat) (a_wFaces : Nat) (a_wTurns : Nat) (a_wSign : Nat) (a_wBy : Nat) (a_wFell : Nat) (a_telling : Nat) (a_moved : Nat) (a_above : Nat) (a_out : Nat) (a_first : Nat) (c_t : Nat → Int32) (res : Int32 × (Nat → Int64) × (Nat → Int32) × (Nat → Int32) × (Nat → Int32)) (c_elements : Nat → Int64) (c_holds : Nat → Int32) (c_refused : Nat → Int32) (c_sizes : Nat → Int32) (l1 : Int32) (l2 : Int32) (l3 : Int32) (ls : Array Slot) (H : Heap) (locs : List Loc) (h : f_X6_row l1 l2 l3 c_t c_elements c_holds c_refused c_sizes = some res) (hP : va_P E.1 vwCl (W_X6_row E a_t a_elements a_holds a_refused a_sizes a_now a_kept a_mind a_tape a_words a_wCell a_wFaces a_wTurns a_wSign a_wBy a_wFell a_telling a_moved a_above a_out a_first c_t c_elements c_holds c_refused c_sizes) H) (hD : va_D A (W_X6_row E a_t a_elements a_holds a_refused a_sizes a_now a_kept a_mind a_tape a_words a_wCell a_wFaces a_wTurns a_wSign a_wBy a_wFell a_telling a_moved a_above a_out a_first c_t c_elements c_holds c_refused c_sizes)) (hS : va_S A s.heap H locs) (hl : lv_has ls 5 [(0, .ref a_t), (1, .int l1), (2, .int l2), (3, .int l3)]) : W p l e r_X6_row s m args below meth c H locs 0 0 (MQ below (qI E A (res.1) (W_X6_row E a_t a_elements a_holds a_refused a_sizes a_now a_kept a_mind a_tape a_words a_wCell a_wFaces a_wTurns a_wSign a_wBy a_wFell a_telling a_moved a_above a_out a_first c_t (res.2.1) (res.2.2.1) (res.2.2.2.1) (res.2.2.2.2))) args s 0 0 A) (F0 m 0 ls []) := by
  obtain ⟨hx, hb, hml, hr, hlk, hown, hts, hG, hA⟩ := id X
  have hK := hG.1
  have hN := hG.2.1
  unfold f_X6_row at h
  refine lv_iload_n hx hb dX6_row_0 rfl (lv_at hl 1 rfl) ?_
  obtain ⟨v1, hv1, h⟩ := bind_of h
  refine after_i X (run_S X (c_X6_isShelf l E l1 H.size v1 hv1) (va_cwS 1 hts gX6_row_X6_isShelf rfl rfl rfl hd_X6_isShelf ⟨(Nat.le_of_ble_eq_true rfl), (Nat.le_of_ble_eq_true rfl)⟩) hP hD hS [] rfl rfl hl.1 (rest := []) rfl rfl (Nat.le_of_ble_eq_true rfl) dX6_row_1) hP hD hS [] rfl (ws1 := (W_X6_row E a_t a_elements a_holds a_refused a_sizes a_now a_kept a_mind a_tape a_words a_wCell a_wFaces a_wTurns a_wSign a_wBy a_wFell a_telling a_moved a_above a_out a_first c_t c_elements c_holds c_refused c_sizes)) rfl (fun H locs hP hD hS => ?_)
  refine lv_if_eq (tgt := 31) hx hb dX6_row_4 (by decide) (fun hc4 => ?_) (fun hc4 => ?_)
  · have h := if_t h hc4
    exact w_X6_row_b31 X a_t a_elements a_holds a_refused a_sizes a_now a_kept a_mind a_tape a_words a_wCell a_wFaces a_wTurns a_wSign a_wBy a_wFell a_telling a_moved a_above a_out a_first c_t res c_elements c_holds c_refused c_sizes _ _ _ h hP hD hS (lv_sub hl [0] rfl)
  · have h := if_f h hc4
    refine lv_iload_n hx hb dX6_row_7 rfl (lv_at hl 2 rfl) ?_
    refine lv_i2l (v := (l2.toInt64)) hx hb dX6_row_8 rfl ?_
    refine lv_lconst (v := (0 : Int64)) hx hb dX6_row_9 (by decide) ?_
    refine lv_ldc2 (v := (4 : Int64)) hx hb hown (hts (.constantLong RX6 206 (4)) (List.mem_of_getElem? (i := 1) rfl)) dX6_row_10 ?_
    obtain ⟨v2, hv2, h⟩ := bind_of h
    refine after_i X (run_S X (c_X6_isIn l E (l2.toInt64) (0 : Int64) (4 : Int64) H.size v2 hv2) (va_cwS 3 hts gX6_row_X6_isIn rfl rfl rfl hd_X6_isIn ⟨(Nat.le_of_ble_eq_true rfl), (Nat.le_of_ble_eq_true rfl)⟩) hP hD hS [] rfl rfl hl.1 (rest := []) rfl rfl (Nat.le_of_ble_eq_true rfl) dX6_row_13) hP hD hS [] rfl (ws1 := (W_X6_row E a_t a_elements a_holds a_refused a_sizes a_now a_kept a_mind a_tape a_words a_wCell a_wFaces a_wTurns a_wSign a_wBy a_wFell a_telling a_moved a_above a_out a_first c_t c_elements c_holds c_refused c_sizes)) rfl (fun H locs hP hD hS => ?_)
    refine lv_if_eq (tgt := 31) hx hb dX6_row_16 (by decide) (fun hc16 => ?_) (fun hc16 => ?_)
    · have h := if_t h hc16
      exact w_X6_row_b31 X a_t a_elements a_holds a_refused a_sizes a_now a_kept a_mind a_tape a_words a_wCell a_wFaces a_wTurns a_wSign a_wBy a_wFell a_telling a_moved a_above a_out a_first c_t res c_elements c_holds c_refused c_sizes _ _ _ h hP hD hS (lv_sub hl [0] rfl)
    · have h := if_f h hc16
      refine lv_iload_n hx hb dX6_row_19 rfl (lv_at hl 3 rfl) ?_
      refine lv_i2l (v := (l3.toInt64)) hx hb dX6_row_20 rfl ?_
      refine lv_lconst (v := (0 : Int64)) hx hb dX6_row_21 (by decide) ?_
      refine lv_ldc2 (v := (40 : Int64)) hx hb hown (hts (.constantLong RX6 208 (40)) (List.mem_of_getElem? (i := 2) rfl)) dX6_row_22 ?_
      obtain ⟨v3, hv3, h⟩ := bind_of h
      refine after_i X (run_S X (c_X6_isIn l E (l3.toInt64) (0 : Int64) (40 : Int64) H.size v3 hv3) (va_cwS 3 hts gX6_row_X6_isIn rfl rfl rfl hd_X6_isIn ⟨(Nat.le_of_ble_eq_true rfl), (Nat.le_of_ble_eq_true rfl)⟩) hP hD hS [] rfl rfl hl.1 (rest := []) rfl rfl (Nat.le_of_ble_eq_true rfl) dX6_row_25) hP hD hS [] rfl (ws1 := (W_X6_row E a_t a_elements a_holds a_refused a_sizes a_now a_kept a_mind a_tape a_words a_wCell a_wFaces a_wTurns a_wSign a_wBy a_wFell a_telling a_moved a_above a_out a_first c_t c_elements c_holds c_refused c_sizes)) rfl (fun H locs hP hD hS => ?_)
      refine lv_if_ne (tgt := 38) hx hb dX6_row_28 (by decide) (fun hc28 => ?_) (fun hc28 => ?_)
      · have h := if_f h hc28
        refine lv_aload_n hx hb dX6_row_38 rfl (lv_at hl 0 rfl) ?_
        refine va_get (D := E.1) (ci := 6) (v := .ref a_holds) (C := RX6) (T := TX6) (N := 26) hx hb hts iX6_row_X6 hown hK hP 0 rfl rfl 19 (by decide) (hts (.fieldLink RX6 54 "LeftIsAgreedOnModel" "holds" "[I") (List.mem_of_getElem? (i := 3) rfl)) (fun _ h9 => h9) rfl dX6_row_39 ?_
        refine lv_iload_n hx hb dX6_row_42 rfl (lv_at hl 1 rfl) ?_
        refine lv_iload_n hx hb dX6_row_43 rfl (lv_at hl 2 rfl) ?_
        obtain ⟨hz44, h⟩ := chk_of h
        refine st_i X hP hD hS 2 rfl (inb.vp hz44) (k := (l1).toNatClampNeg) rfl (ws1 := (W_X6_row E a_t a_elements a_holds a_refused a_sizes a_now a_kept a_mind a_tape a_words a_wCell a_wFaces a_wTurns a_wSign a_wBy a_wFell a_telling a_moved a_above a_out a_first c_t c_elements (upd c_holds ((l1).toNatClampNeg) l2) c_refused c_sizes)) rfl dX6_row_44 (fun H locs hP hD hS => ?_)
        refine lv_aload_n hx hb dX6_row_45 rfl (lv_at hl 0 rfl) ?_
        refine va_get (D := E.1) (ci := 6) (v := .ref a_sizes) (C := RX6) (T := TX6) (N := 26) hx hb hts iX6_row_X6 hown hK hP 0 rfl rfl 20 (by decide) (hts (.fieldLink RX6 57 "LeftIsAgreedOnModel" "sizes" "[I") (List.mem_of_getElem? (i := 4) rfl)) (fun _ h9 => h9) rfl dX6_row_46 ?_
        refine lv_iload_n hx hb dX6_row_49 rfl (lv_at hl 1 rfl) ?_
        refine lv_iload_n hx hb dX6_row_50 rfl (lv_at hl 3 rfl) ?_
        obtain ⟨hz51, h⟩ := chk_of h
        refine st_i X hP hD hS 4 rfl (inb.vp hz51) (k := (l1).toNatClampNeg) rfl (ws1 := (W_X6_row E a_t a_elements a_holds a_refused a_sizes a_now a_kept a_mind a_tape a_words a_wCell a_wFaces a_wTurns a_wSign a_wBy a_wFell a_telling a_moved a_above a_out a_first c_t c_elements (upd c_holds ((l1).toNatClampNeg) l2) c_refused (upd c_sizes ((l1).toNatClampNeg) l3))) rfl dX6_row_51 (fun H locs hP hD hS => ?_)
        refine lv_iconst (v := (0 : Int32)) hx hb dX6_row_52 (by decide) ?_
        refine lv_istore (lv' := [(4, .int (0 : Int32)), (0, .ref a_t), (1, .int l1), (2, .int l2), (3, .int l3)]) hx hb dX6_row_53 hl (by decide) rfl (fun ls hl => ?_)
        exact w_X6_row_b55 X a_t a_elements a_holds a_refused a_sizes a_now a_kept a_mind a_tape a_words a_wCell a_wFaces a_wTurns a_wSign a_wBy a_wFell a_telling a_moved a_above a_out a_first c_t res FU c_elements (upd c_holds ((l1).toNatClampNeg) l2) c_refused (upd c_sizes ((l1).toNatClampNeg) l3) l1 (0 : Int32) _ _ _ h hP hD hS (lv_sub hl [1, 2, 0] rfl)
      · have h := if_t h hc28
        exact w_X6_row_b31 X a_t a_elements a_holds a_refused a_sizes a_now a_kept a_mind a_tape a_words a_wCell a_wFaces a_wTurns a_wSign a_wBy a_wFell a_telling a_moved a_above a_out a_first c_t res c_elements c_holds c_refused c_sizes _ _ _ h hP hD hS (lv_sub hl [0] rfl)
end
set_option maxRecDepth 100000 in
theorem c_X6_row (l : Launch) (E : Env0) (a_t : Nat) (a_elements : Nat) (a_holds : Nat) (a_refused : Nat) (a_sizes : Nat) (a_now : Nat) (a_kept : Nat) (a_mind : Nat) (a_tape : Nat) (a_words : Nat) (a_wCell : Nat) (a_wFaces : Nat) (a_wTurns : Nat) (a_wSign : Nat) (a_wBy : Nat) (a_wFell : Nat) (a_telling : Nat) (a_moved : Nat) (a_above : Nat) (a_out : Nat) (a_first : Nat) (l1 : Int32) (l2 : Int32) (l3 : Int32) (c_t : Nat → Int32) (c_elements : Nat → Int64) (c_holds : Nat → Int32) (c_refused : Nat → Int32) (c_sizes : Nat → Int32) (sz : Nat) (res : Int32 × (Nat → Int64) × (Nat → Int32) × (Nat → Int32) × (Nat → Int32)) (h : f_X6_row l1 l2 l3 c_t c_elements c_holds c_refused c_sizes = some res) : Met l yX6_row wsX6_row r_X6_row (cPre E [.ref a_t, .int l1, .int l2, .int l3] (W_X6_row E a_t a_elements a_holds a_refused a_sizes a_now a_kept a_mind a_tape a_words a_wCell a_wFaces a_wTurns a_wSign a_wBy a_wFell a_telling a_moved a_above a_out a_first c_t c_elements c_holds c_refused c_sizes) sz) (qI E (va_A (W_X6_row E a_t a_elements a_holds a_refused a_sizes a_now a_kept a_mind a_tape a_words a_wCell a_wFaces a_wTurns a_wSign a_wBy a_wFell a_telling a_moved a_above a_out a_first c_t c_elements c_holds c_refused c_sizes) sz) (res.1) (W_X6_row E a_t a_elements a_holds a_refused a_sizes a_now a_kept a_mind a_tape a_words a_wCell a_wFaces a_wTurns a_wSign a_wBy a_wFell a_telling a_moved a_above a_out a_first c_t (res.2.1) (res.2.2.1) (res.2.2.2.1) (res.2.2.2.2))) 0 0 (va_A (W_X6_row E a_t a_elements a_holds a_refused a_sizes a_now a_kept a_mind a_tape a_words a_wCell a_wFaces a_wTurns a_wSign a_wBy a_wFell a_telling a_moved a_above a_out a_first c_t c_elements c_holds c_refused c_sizes) sz) :=
  met_of (Qc := fun A => qI E A (res.1) (W_X6_row E a_t a_elements a_holds a_refused a_sizes a_now a_kept a_mind a_tape a_words a_wCell a_wFaces a_wTurns a_wSign a_wBy a_wFell a_telling a_moved a_above a_out a_first c_t (res.2.1) (res.2.2.1) (res.2.2.2.1) (res.2.2.2.2))) (by decide) rfl (Nat.le_of_ble_eq_true rfl) (fun p e s m args below meth c X hP hD hS ls hl => w_X6_row X a_t a_elements a_holds a_refused a_sizes a_now a_kept a_mind a_tape a_words a_wCell a_wFaces a_wTurns a_wSign a_wBy a_wFell a_telling a_moved a_above a_out a_first c_t res c_elements c_holds c_refused c_sizes l1 l2 l3 ls _ _ h hP hD hS hl)
-- ===== X6_rowIn
noncomputable abbrev W_X6_rowIn (E : Env0) (a_t : Nat) (a_holds : Nat) (a_refused : Nat) (a_now : Nat) (a_kept : Nat) (a_mind : Nat) (a_tape : Nat) (a_words : Nat) (a_wCell : Nat) (a_wFaces : Nat) (a_wTurns : Nat) (a_wSign : Nat) (a_wBy : Nat) (a_wFell : Nat) (a_telling : Nat) (a_sizes : Nat) (a_elements : Nat) (a_moved : Nat) (a_above : Nat) (a_out : Nat) (a_first : Nat) (c_t : Nat → Int32) (c_holds : Nat → Int32) : va_W := [(a_t, .inr (6, [.ref a_refused, .ref a_now, .ref a_kept, .ref a_mind, .int (c_t 4), .ref a_tape, .int (c_t 6), .int (c_t 7), .int (c_t 8), .int (c_t 9), .ref a_words, .ref a_wCell, .ref a_wFaces, .ref a_wTurns, .ref a_wSign, .ref a_wBy, .ref a_wFell, .int (c_t 17), .ref a_telling, .ref a_holds, .ref a_sizes, .ref a_elements, .ref a_moved, .ref a_above, .ref a_out, .ref a_first])), (a_holds, .inl (eI E, 8, .inl c_holds))]
noncomputable abbrev r_X6_rowIn : Room := { frames := 0, cells := 0, slots := 0, locals := 0 }
theorem hd_X6_rowIn : yX6_rowIn.cls ≠ "java/lang/invoke/MethodHandle" ∧ yX6_rowIn.cls ≠ "java/lang/invoke/VarHandle" ∧ (parseMethodDescriptor yX6_rowIn.desc).map (fun d => d.parameters.length) = some 1 := by decide +kernel
theorem hV_X6_rowIn : yX6_rowIn.cls = RX6 ∧ yX6_rowIn.cls ≠ "java/lang/invoke/MethodHandle" ∧ yX6_rowIn.cls ≠ "java/lang/invoke/VarHandle" ∧ (parseMethodDescriptor yX6_rowIn.desc).map (fun d => d.parameters.length) = some 1 := ⟨rfl, hd_X6_rowIn⟩
theorem iX6_rowIn_X6 : ∀ w ∈ wsX60, w ∈ wsX6_rowIn := fun _ h => List.mem_cons_of_mem _ (List.mem_append_right _ (h))
section
variable {p : Program} {l : Launch} {e : Env} {s : State} {m : MethodId} {args : Array Value} {below : List Frame} {meth : Method} {c : Code} {E : Env0} {A : Nat → Prop}
set_option maxRecDepth 100000 in
set_option maxHeartbeats 4000000 in
theorem w_X6_rowIn (X : Ctx p m meth c cX6_rowIn 2 ((some .int)) s args wsX6_rowIn RX6 E A) (a_t : Nat) (a_holds : Nat) (a_refused : Nat) (a_now : Nat) (a_kept : Nat) (a_mind : Nat) (a_tape : Nat) (a_words : Nat) (a_wCell : Nat) (a_wFaces : Nat) (a_wTurns : Nat) (a_wSign : Nat) (a_wBy : Nat) (a_wFell : Nat) (a_telling : Nat) (a_sizes : Nat) (a_elements : Nat) (a_moved : Nat) (a_above : Nat) (a_out : Nat) (a_first : Nat) (c_t : Nat → Int32) (c_holds : Nat → Int32) (res : Int32) (l1 : Int32) (ls : Array Slot) (H : Heap) (locs : List Loc) (h : f_X6_rowIn l1 c_t c_holds = some res) (hP : va_P E.1 vwCl (W_X6_rowIn E a_t a_holds a_refused a_now a_kept a_mind a_tape a_words a_wCell a_wFaces a_wTurns a_wSign a_wBy a_wFell a_telling a_sizes a_elements a_moved a_above a_out a_first c_t c_holds) H) (hD : va_D A (W_X6_rowIn E a_t a_holds a_refused a_now a_kept a_mind a_tape a_words a_wCell a_wFaces a_wTurns a_wSign a_wBy a_wFell a_telling a_sizes a_elements a_moved a_above a_out a_first c_t c_holds)) (hS : va_S A s.heap H locs) (hl : lv_has ls 2 [(0, .ref a_t), (1, .int l1)]) : W p l e r_X6_rowIn s m args below meth c H locs 0 0 (MQ below (qI E A res (W_X6_rowIn E a_t a_holds a_refused a_now a_kept a_mind a_tape a_words a_wCell a_wFaces a_wTurns a_wSign a_wBy a_wFell a_telling a_sizes a_elements a_moved a_above a_out a_first c_t c_holds)) args s 0 0 A) (F0 m 0 ls []) := by
  obtain ⟨hx, hb, hml, hr, hlk, hown, hts, hG, hA⟩ := id X
  have hK := hG.1
  have hN := hG.2.1
  unfold f_X6_rowIn at h
  refine lv_aload_n hx hb dX6_rowIn_0 rfl (lv_at hl 0 rfl) ?_
  refine va_get (D := E.1) (ci := 6) (v := .ref a_holds) (C := RX6) (T := TX6) (N := 26) hx hb hts iX6_rowIn_X6 hown hK hP 0 rfl rfl 19 (by decide) (hts (.fieldLink RX6 54 "LeftIsAgreedOnModel" "holds" "[I") (List.mem_of_getElem? (i := 1) rfl)) (fun _ h9 => h9) rfl dX6_rowIn_1 ?_
  refine lv_iload_n hx hb dX6_rowIn_4 rfl (lv_at hl 1 rfl) ?_
  obtain ⟨hz5, h⟩ := chk_of h
  refine ld_i X hP 1 rfl (inb.vp hz5) (v := (c_holds (l1).toNatClampNeg)) rfl dX6_rowIn_5 ?_
  refine lv_bipush (v := (10 : Int32)) hx hb dX6_rowIn_6 (by decide) ?_
  refine lv_icmp_lt (tgt := 16) hx hb dX6_rowIn_8 (by decide) (fun hc8 => ?_) (fun hc8 => ?_)
  · have h := if_t h hc8
    refine lv_aload_n hx hb dX6_rowIn_16 rfl (lv_at hl 0 rfl) ?_
    refine va_get (D := E.1) (ci := 6) (v := .ref a_holds) (C := RX6) (T := TX6) (N := 26) hx hb hts iX6_rowIn_X6 hown hK hP 0 rfl rfl 19 (by decide) (hts (.fieldLink RX6 54 "LeftIsAgreedOnModel" "holds" "[I") (List.mem_of_getElem? (i := 1) rfl)) (fun _ h9 => h9) rfl dX6_rowIn_17 ?_
    refine lv_iload_n hx hb dX6_rowIn_20 rfl (lv_at hl 1 rfl) ?_
    obtain ⟨hz21, h⟩ := chk_of h
    refine ld_i X hP 1 rfl (inb.vp hz21) (v := (c_holds (l1).toNatClampNeg)) rfl dX6_rowIn_21 ?_
    refine lv_iconst (v := (-1 : Int32)) hx hb dX6_rowIn_22 (by decide) ?_
    refine lv_icmp_ne (tgt := 31) hx hb dX6_rowIn_23 (by decide) (fun hc23 => ?_) (fun hc23 => ?_)
    · have h := if_f h hc23
      refine lv_iconst (v := (1 : Int32)) hx hb dX6_rowIn_31 (by decide) ?_
      obtain rfl := Option.some.inj h
      exact ret_i X dX6_rowIn_32 hP hD hS rfl
    · have h := if_t h hc23
      refine lv_bipush (v := (-4 : Int32)) hx hb dX6_rowIn_26 (by decide) ?_
      refine lv_goto (tgt := 32) hx hb dX6_rowIn_28 (by decide) ?_
      obtain rfl := Option.some.inj h
      exact ret_i X dX6_rowIn_32 hP hD hS rfl
  · have h := if_f h hc8
    refine lv_bipush (v := (-3 : Int32)) hx hb dX6_rowIn_11 (by decide) ?_
    refine lv_goto (tgt := 32) hx hb dX6_rowIn_13 (by decide) ?_
    obtain rfl := Option.some.inj h
    exact ret_i X dX6_rowIn_32 hP hD hS rfl
end
set_option maxRecDepth 100000 in
theorem c_X6_rowIn (l : Launch) (E : Env0) (a_t : Nat) (a_holds : Nat) (a_refused : Nat) (a_now : Nat) (a_kept : Nat) (a_mind : Nat) (a_tape : Nat) (a_words : Nat) (a_wCell : Nat) (a_wFaces : Nat) (a_wTurns : Nat) (a_wSign : Nat) (a_wBy : Nat) (a_wFell : Nat) (a_telling : Nat) (a_sizes : Nat) (a_elements : Nat) (a_moved : Nat) (a_above : Nat) (a_out : Nat) (a_first : Nat) (l1 : Int32) (c_t : Nat → Int32) (c_holds : Nat → Int32) (sz : Nat) (res : Int32) (h : f_X6_rowIn l1 c_t c_holds = some res) : Met l yX6_rowIn wsX6_rowIn r_X6_rowIn (cPre E [.ref a_t, .int l1] (W_X6_rowIn E a_t a_holds a_refused a_now a_kept a_mind a_tape a_words a_wCell a_wFaces a_wTurns a_wSign a_wBy a_wFell a_telling a_sizes a_elements a_moved a_above a_out a_first c_t c_holds) sz) (qI E (va_A (W_X6_rowIn E a_t a_holds a_refused a_now a_kept a_mind a_tape a_words a_wCell a_wFaces a_wTurns a_wSign a_wBy a_wFell a_telling a_sizes a_elements a_moved a_above a_out a_first c_t c_holds) sz) res (W_X6_rowIn E a_t a_holds a_refused a_now a_kept a_mind a_tape a_words a_wCell a_wFaces a_wTurns a_wSign a_wBy a_wFell a_telling a_sizes a_elements a_moved a_above a_out a_first c_t c_holds)) 0 0 (va_A (W_X6_rowIn E a_t a_holds a_refused a_now a_kept a_mind a_tape a_words a_wCell a_wFaces a_wTurns a_wSign a_wBy a_wFell a_telling a_sizes a_elements a_moved a_above a_out a_first c_t c_holds) sz) :=
  met_of (Qc := fun A => qI E A res (W_X6_rowIn E a_t a_holds a_refused a_now a_kept a_mind a_tape a_words a_wCell a_wFaces a_wTurns a_wSign a_wBy a_wFell a_telling a_sizes a_elements a_moved a_above a_out a_first c_t c_holds)) (by decide) rfl (Nat.le_of_ble_eq_true rfl) (fun p e s m args below meth c X hP hD hS ls hl => w_X6_rowIn X a_t a_holds a_refused a_now a_kept a_mind a_tape a_words a_wCell a_wFaces a_wTurns a_wSign a_wBy a_wFell a_telling a_sizes a_elements a_moved a_above a_out a_first c_t c_holds res l1 ls _ _ h hP hD hS hl)
-- ===== X6_set
noncomputable abbrev W_X6_set (E : Env0) (a_t : Nat) (a_elements : Nat) (a_holds : Nat) (a_refused : Nat) (a_sizes : Nat) (a_now : Nat) (a_kept : Nat) (a_mind : Nat) (a_tape : Nat) (a_words : Nat) (a_wCell : Nat) (a_wFaces : Nat) (a_wTurns : Nat) (a_wSign : Nat) (a_wBy : Nat) (a_wFell : Nat) (a_telling : Nat) (a_moved : Nat) (a_above : Nat) (a_out : Nat) (a_first : Nat) (c_t : Nat → Int32) (c_elements : Nat → Int64) (c_holds : Nat → Int32) (c_refused : Nat → Int32) (c_sizes : Nat → Int32) : va_W := [(a_t, .inr (6, [.ref a_refused, .ref a_now, .ref a_kept, .ref a_mind, .int (c_t 4), .ref a_tape, .int (c_t 6), .int (c_t 7), .int (c_t 8), .int (c_t 9), .ref a_words, .ref a_wCell, .ref a_wFaces, .ref a_wTurns, .ref a_wSign, .ref a_wBy, .ref a_wFell, .int (c_t 17), .ref a_telling, .ref a_holds, .ref a_sizes, .ref a_elements, .ref a_moved, .ref a_above, .ref a_out, .ref a_first])), (a_elements, .inl (eJ E, 320, .inr (.inl c_elements))), (a_holds, .inl (eI E, 8, .inl c_holds)), (a_refused, .inl (eI E, 7, .inl c_refused)), (a_sizes, .inl (eI E, 8, .inl c_sizes))]
noncomputable abbrev r_X6_set : Room := { frames := 2, cells := 0, slots := 0, locals := 45 }
theorem hd_X6_set : yX6_set.cls ≠ "java/lang/invoke/MethodHandle" ∧ yX6_set.cls ≠ "java/lang/invoke/VarHandle" ∧ (parseMethodDescriptor yX6_set.desc).map (fun d => d.parameters.length) = some 3 := by decide +kernel
theorem hV_X6_set : yX6_set.cls = RX6 ∧ yX6_set.cls ≠ "java/lang/invoke/MethodHandle" ∧ yX6_set.cls ≠ "java/lang/invoke/VarHandle" ∧ (parseMethodDescriptor yX6_set.desc).map (fun d => d.parameters.length) = some 3 := ⟨rfl, hd_X6_set⟩
theorem iX6_set_X6 : ∀ w ∈ wsX60, w ∈ wsX6_set := fun _ h => List.mem_cons_of_mem _ (List.mem_append_right _ (h))
section
variable {p : Program} {l : Launch} {e : Env} {s : State} {m : MethodId} {args : Array Value} {below : List Frame} {meth : Method} {c : Code} {E : Env0} {A : Nat → Prop}
set_option maxRecDepth 100000 in
set_option maxHeartbeats 4000000 in
theorem w_X6_set_b133 (X : Ctx p m meth c cX6_set 6 ((some .int)) s args wsX6_set RX6 E A) (a_t : Nat) (a_elements : Nat) (a_holds : Nat) (a_refused : Nat) (a_sizes : Nat) (a_now : Nat) (a_kept : Nat) (a_mind : Nat) (a_tape : Nat) (a_words : Nat) (a_wCell : Nat) (a_wFaces : Nat) (a_wTurns : Nat) (a_wSign : Nat) (a_wBy : Nat) (a_wFell : Nat) (a_telling : Nat) (a_moved : Nat) (a_above : Nat) (a_out : Nat) (a_first : Nat) (c_t : Nat → Int32) (c_holds : Nat → Int32) (c_sizes : Nat → Int32) (res : Int32 × (Nat → Int64) × (Nat → Int32)) (c_elements : Nat → Int64) (c_refused : Nat → Int32) (s0 : Int64) (s1 : Int32) (ls : Array Slot) (H : Heap) (locs : List Loc) (h : f_X6_set_b133 c_t c_holds c_sizes c_elements c_refused s0 s1 = some res) (hP : va_P E.1 vwCl (W_X6_set E a_t a_elements a_holds a_refused a_sizes a_now a_kept a_mind a_tape a_words a_wCell a_wFaces a_wTurns a_wSign a_wBy a_wFell a_telling a_moved a_above a_out a_first c_t c_elements c_holds c_refused c_sizes) H) (hD : va_D A (W_X6_set E a_t a_elements a_holds a_refused a_sizes a_now a_kept a_mind a_tape a_words a_wCell a_wFaces a_wTurns a_wSign a_wBy a_wFell a_telling a_moved a_above a_out a_first c_t c_elements c_holds c_refused c_sizes)) (hS : va_S A s.heap H locs) (hl : lv_has ls 6 []) : W p l e r_X6_set s m args below meth c H locs 0 0 (MQ below (qI E A (res.1) (W_X6_set E a_t a_elements a_holds a_refused a_sizes a_now a_kept a_mind a_tape a_words a_wCell a_wFaces a_wTurns a_wSign a_wBy a_wFell a_telling a_moved a_above a_out a_first c_t (res.2.1) c_holds (res.2.2) c_sizes)) args s 0 0 A) (F0 m 133 ls [.long s0, .int s1, .ref a_elements]) := by
  obtain ⟨hx, hb, hml, hr, hlk, hown, hts, hG, hA⟩ := id X
  have hK := hG.1
  have hN := hG.2.1
  unfold f_X6_set_b133 at h
  obtain ⟨hz133, h⟩ := chk_of h
  refine st_l X hP hD hS 1 rfl (inb.vp hz133) (k := (s1).toNatClampNeg) rfl (ws1 := (W_X6_set E a_t a_elements a_holds a_refused a_sizes a_now a_kept a_mind a_tape a_words a_wCell a_wFaces a_wTurns a_wSign a_wBy a_wFell a_telling a_moved a_above a_out a_first c_t (vp_updL c_elements ((s1).toNatClampNeg) s0) c_holds c_refused c_sizes)) rfl dX6_set_133 (fun H locs hP hD hS => ?_)
  refine lv_iconst (v := (1 : Int32)) hx hb dX6_set_134 (by decide) ?_
  obtain rfl := Option.some.inj h
  exact ret_i X dX6_set_135 hP hD hS rfl
set_option maxRecDepth 100000 in
set_option maxHeartbeats 4000000 in
theorem w_X6_set (X : Ctx p m meth c cX6_set 6 ((some .int)) s args wsX6_set RX6 E A) (a_t : Nat) (a_elements : Nat) (a_holds : Nat) (a_refused : Nat) (a_sizes : Nat) (a_now : Nat) (a_kept : Nat) (a_mind : Nat) (a_tape : Nat) (a_words : Nat) (a_wCell : Nat) (a_wFaces : Nat) (a_wTurns : Nat) (a_wSign : Nat) (a_wBy : Nat) (a_wFell : Nat) (a_telling : Nat) (a_moved : Nat) (a_above : Nat) (a_out : Nat) (a_first : Nat) (c_t : Nat → Int32) (c_holds : Nat → Int32) (c_sizes : Nat → Int32) (res : Int32 × (Nat → Int64) × (Nat → Int32)) (c_elements : Nat → Int64) (c_refused : Nat → Int32) (l1 : Int32) (l2 : Int32) (l3 : Int64) (ls : Array Slot) (H : Heap) (locs : List Loc) (h : f_X6_set l1 l2 l3 c_t c_elements c_holds c_refused c_sizes = some res) (hP : va_P E.1 vwCl (W_X6_set E a_t a_elements a_holds a_refused a_sizes a_now a_kept a_mind a_tape a_words a_wCell a_wFaces a_wTurns a_wSign a_wBy a_wFell a_telling a_moved a_above a_out a_first c_t c_elements c_holds c_refused c_sizes) H) (hD : va_D A (W_X6_set E a_t a_elements a_holds a_refused a_sizes a_now a_kept a_mind a_tape a_words a_wCell a_wFaces a_wTurns a_wSign a_wBy a_wFell a_telling a_moved a_above a_out a_first c_t c_elements c_holds c_refused c_sizes)) (hS : va_S A s.heap H locs) (hl : lv_has ls 6 [(0, .ref a_t), (1, .int l1), (2, .int l2), (3, .long l3)]) : W p l e r_X6_set s m args below meth c H locs 0 0 (MQ below (qI E A (res.1) (W_X6_set E a_t a_elements a_holds a_refused a_sizes a_now a_kept a_mind a_tape a_words a_wCell a_wFaces a_wTurns a_wSign a_wBy a_wFell a_telling a_moved a_above a_out a_first c_t (res.2.1) c_holds (res.2.2) c_sizes)) args s 0 0 A) (F0 m 0 ls []) := by
  obtain ⟨hx, hb, hml, hr, hlk, hown, hts, hG, hA⟩ := id X
  have hK := hG.1
  have hN := hG.2.1
  unfold f_X6_set at h
  refine lv_iload_n hx hb dX6_set_0 rfl (lv_at hl 1 rfl) ?_
  obtain ⟨v1, hv1, h⟩ := bind_of h
  refine after_i X (run_S X (c_X6_isShelf l E l1 H.size v1 hv1) (va_cwS 1 hts gX6_set_X6_isShelf rfl rfl rfl hd_X6_isShelf ⟨(Nat.le_of_ble_eq_true rfl), (Nat.le_of_ble_eq_true rfl)⟩) hP hD hS [] rfl rfl hl.1 (rest := []) rfl rfl (Nat.le_of_ble_eq_true rfl) dX6_set_1) hP hD hS [] rfl (ws1 := (W_X6_set E a_t a_elements a_holds a_refused a_sizes a_now a_kept a_mind a_tape a_words a_wCell a_wFaces a_wTurns a_wSign a_wBy a_wFell a_telling a_moved a_above a_out a_first c_t c_elements c_holds c_refused c_sizes)) rfl (fun H locs hP hD hS => ?_)
  refine lv_if_ne (tgt := 14) hx hb dX6_set_4 (by decide) (fun hc4 => ?_) (fun hc4 => ?_)
  · have h := if_f h hc4
    refine lv_aload_n hx hb dX6_set_14 rfl (lv_at hl 0 rfl) ?_
    refine lv_iload_n hx hb dX6_set_15 rfl (lv_at hl 1 rfl) ?_
    obtain ⟨v2, hv2, h⟩ := bind_of h
    refine after_i X (run_V X (c_X6_rowIn l E a_t a_holds a_refused a_now a_kept a_mind a_tape a_words a_wCell a_wFaces a_wTurns a_wSign a_wBy a_wFell a_telling a_sizes a_elements a_moved a_above a_out a_first l1 c_t c_holds H.size v2 hv2) (cwV 1 hts gX6_set_X6_rowIn rfl rfl rfl hV_X6_rowIn ⟨(Nat.le_of_ble_eq_true rfl), (Nat.le_of_ble_eq_true rfl)⟩) hP hD hS [0, 2] rfl rfl hl.1 (ci := 6) rfl rfl rfl (rest := []) rfl rfl (Nat.le_of_ble_eq_true rfl) dX6_set_16) hP hD hS [0, 2] rfl (ws1 := (W_X6_set E a_t a_elements a_holds a_refused a_sizes a_now a_kept a_mind a_tape a_words a_wCell a_wFaces a_wTurns a_wSign a_wBy a_wFell a_telling a_moved a_above a_out a_first c_t c_elements c_holds c_refused c_sizes)) rfl (fun H locs hP hD hS => ?_)
    refine lv_if_ge (tgt := 32) hx hb dX6_set_19 (by decide) (fun hc19 => ?_) (fun hc19 => ?_)
    · have h := if_t h hc19
      refine lv_iload_n hx hb dX6_set_32 rfl (lv_at hl 2 rfl) ?_
      refine lv_i2l (v := (l2.toInt64)) hx hb dX6_set_33 rfl ?_
      refine lv_lconst (v := (0 : Int64)) hx hb dX6_set_34 (by decide) ?_
      refine lv_aload_n hx hb dX6_set_35 rfl (lv_at hl 0 rfl) ?_
      refine va_get (D := E.1) (ci := 6) (v := .ref a_sizes) (C := RX6) (T := TX6) (N := 26) hx hb hts iX6_set_X6 hown hK hP 0 rfl rfl 20 (by decide) (hts (.fieldLink RX6 57 "LeftIsAgreedOnModel" "sizes" "[I") (List.mem_of_getElem? (i := 1) rfl)) (fun _ h9 => h9) rfl dX6_set_36 ?_
      refine lv_iload_n hx hb dX6_set_39 rfl (lv_at hl 1 rfl) ?_
      obtain ⟨hz40, h⟩ := chk_of h
      refine ld_i X hP 4 rfl (inb.vp hz40) (v := (c_sizes (l1).toNatClampNeg)) rfl dX6_set_40 ?_
      refine lv_iconst (v := (1 : Int32)) hx hb dX6_set_41 (by decide) ?_
      refine lv_isub hx hb dX6_set_42 ?_
      refine lv_i2l (v := (((c_sizes (l1).toNatClampNeg) - (1 : Int32)).toInt64)) hx hb dX6_set_43 rfl ?_
      obtain ⟨v3, hv3, h⟩ := bind_of h
      refine after_i X (run_S X (c_X6_isIn l E (l2.toInt64) (0 : Int64) (((c_sizes (l1).toNatClampNeg) - (1 : Int32)).toInt64) H.size v3 hv3) (va_cwS 3 hts gX6_set_X6_isIn rfl rfl rfl hd_X6_isIn ⟨(Nat.le_of_ble_eq_true rfl), (Nat.le_of_ble_eq_true rfl)⟩) hP hD hS [] rfl rfl hl.1 (rest := []) rfl rfl (Nat.le_of_ble_eq_true rfl) dX6_set_44) hP hD hS [] rfl (ws1 := (W_X6_set E a_t a_elements a_holds a_refused a_sizes a_now a_kept a_mind a_tape a_words a_wCell a_wFaces a_wTurns a_wSign a_wBy a_wFell a_telling a_moved a_above a_out a_first c_t c_elements c_holds c_refused c_sizes)) rfl (fun H locs hP hD hS => ?_)
      refine lv_if_ne (tgt := 57) hx hb dX6_set_47 (by decide) (fun hc47 => ?_) (fun hc47 => ?_)
      · have h := if_f h hc47
        refine lv_aload_n hx hb dX6_set_57 rfl (lv_at hl 0 rfl) ?_
        refine va_get (D := E.1) (ci := 6) (v := .ref a_holds) (C := RX6) (T := TX6) (N := 26) hx hb hts iX6_set_X6 hown hK hP 0 rfl rfl 19 (by decide) (hts (.fieldLink RX6 54 "LeftIsAgreedOnModel" "holds" "[I") (List.mem_of_getElem? (i := 2) rfl)) (fun _ h9 => h9) rfl dX6_set_58 ?_
        refine lv_iload_n hx hb dX6_set_61 rfl (lv_at hl 1 rfl) ?_
        obtain ⟨hz62, h⟩ := chk_of h
        refine ld_i X hP 2 rfl (inb.vp hz62) (v := (c_holds (l1).toNatClampNeg)) rfl dX6_set_62 ?_
        refine lv_istore (lv' := [(5, .int (c_holds (l1).toNatClampNeg)), (0, .ref a_t), (1, .int l1), (2, .int l2), (3, .long l3)]) hx hb dX6_set_63 hl (by decide) rfl (fun ls hl => ?_)
        refine lv_aload_n hx hb dX6_set_65 rfl (lv_at hl 1 rfl) ?_
        refine va_get (D := E.1) (ci := 6) (v := .ref a_elements) (C := RX6) (T := TX6) (N := 26) hx hb hts iX6_set_X6 hown hK hP 0 rfl rfl 21 (by decide) (hts (.fieldLink RX6 60 "LeftIsAgreedOnModel" "elements" "[J") (List.mem_of_getElem? (i := 3) rfl)) (fun _ h9 => h9) rfl dX6_set_66 ?_
        refine lv_bipush (v := (40 : Int32)) hx hb dX6_set_69 (by decide) ?_
        refine lv_iload_n hx hb dX6_set_71 rfl (lv_at hl 2 rfl) ?_
        refine lv_imul hx hb dX6_set_72 ?_
        refine lv_iload_n hx hb dX6_set_73 rfl (lv_at hl 3 rfl) ?_
        refine lv_iadd hx hb dX6_set_74 ?_
        refine lv_iload hx hb dX6_set_75 (lv_at hl 0 rfl) ?_
        refine lv_if_ne (tgt := 87) hx hb dX6_set_77 (by decide) (fun hc77 => ?_) (fun hc77 => ?_)
        · have h := if_f h hc77
          refine lv_iload hx hb dX6_set_87 (lv_at hl 0 rfl) ?_
          refine lv_iconst (v := (1 : Int32)) hx hb dX6_set_89 (by decide) ?_
          refine lv_icmp_ne (tgt := 100) hx hb dX6_set_90 (by decide) (fun hc90 => ?_) (fun hc90 => ?_)
          · have h := if_f h hc90
            refine lv_iload hx hb dX6_set_100 (lv_at hl 0 rfl) ?_
            refine lv_iconst (v := (2 : Int32)) hx hb dX6_set_102 (by decide) ?_
            refine lv_icmp_ne (tgt := 112) hx hb dX6_set_103 (by decide) (fun hc103 => ?_) (fun hc103 => ?_)
            · have h := if_f h hc103
              refine lv_iload hx hb dX6_set_112 (lv_at hl 0 rfl) ?_
              refine lv_iconst (v := (3 : Int32)) hx hb dX6_set_114 (by decide) ?_
              refine lv_icmp_ne (tgt := 122) hx hb dX6_set_115 (by decide) (fun hc115 => ?_) (fun hc115 => ?_)
              · have h := if_f h hc115
                refine lv_lload_n hx hb dX6_set_122 rfl (lv_at hl 4 rfl) ?_
                refine lv_lconst (v := (0 : Int64)) hx hb dX6_set_123 (by decide) ?_
                refine W.lcmp hx hb dX6_set_124 ?_
                refine lv_if_eq (tgt := 132) hx hb dX6_set_125 (by decide) (fun hc125 => ?_) (fun hc125 => ?_)
                · have h := if_t h hc125
                  refine lv_lconst (v := (0 : Int64)) hx hb dX6_set_132 (by decide) ?_
                  exact w_X6_set_b133 X a_t a_elements a_holds a_refused a_sizes a_now a_kept a_mind a_tape a_words a_wCell a_wFaces a_wTurns a_wSign a_wBy a_wFell a_telling a_moved a_above a_out a_first c_t c_holds c_sizes res c_elements c_refused (0 : Int64) (((40 : Int32) * l1) + l2) _ _ _ h hP hD hS (lv_sub hl [] rfl)
                · have h := if_f h hc125
                  refine lv_lconst (v := (1 : Int64)) hx hb dX6_set_128 (by decide) ?_
                  refine lv_goto (tgt := 133) hx hb dX6_set_129 (by decide) ?_
                  exact w_X6_set_b133 X a_t a_elements a_holds a_refused a_sizes a_now a_kept a_mind a_tape a_words a_wCell a_wFaces a_wTurns a_wSign a_wBy a_wFell a_telling a_moved a_above a_out a_first c_t c_holds c_sizes res c_elements c_refused (1 : Int64) (((40 : Int32) * l1) + l2) _ _ _ h hP hD hS (lv_sub hl [] rfl)
              · have h := if_t h hc115
                refine lv_lload_n hx hb dX6_set_118 rfl (lv_at hl 4 rfl) ?_
                refine lv_goto (tgt := 133) hx hb dX6_set_119 (by decide) ?_
                exact w_X6_set_b133 X a_t a_elements a_holds a_refused a_sizes a_now a_kept a_mind a_tape a_words a_wCell a_wFaces a_wTurns a_wSign a_wBy a_wFell a_telling a_moved a_above a_out a_first c_t c_holds c_sizes res c_elements c_refused l3 (((40 : Int32) * l1) + l2) _ _ _ h hP hD hS (lv_sub hl [] rfl)
            · have h := if_t h hc103
              refine lv_lload_n hx hb dX6_set_106 rfl (lv_at hl 4 rfl) ?_
              refine lv_l2i (v := (l3.toInt32)) hx hb dX6_set_107 rfl ?_
              refine lv_i2l (v := ((l3.toInt32).toInt64)) hx hb dX6_set_108 rfl ?_
              refine lv_goto (tgt := 133) hx hb dX6_set_109 (by decide) ?_
              exact w_X6_set_b133 X a_t a_elements a_holds a_refused a_sizes a_now a_kept a_mind a_tape a_words a_wCell a_wFaces a_wTurns a_wSign a_wBy a_wFell a_telling a_moved a_above a_out a_first c_t c_holds c_sizes res c_elements c_refused ((l3.toInt32).toInt64) (((40 : Int32) * l1) + l2) _ _ _ h hP hD hS (lv_sub hl [] rfl)
          · have h := if_t h hc90
            refine lv_lload_n hx hb dX6_set_93 rfl (lv_at hl 4 rfl) ?_
            refine lv_l2i (v := (l3.toInt32)) hx hb dX6_set_94 rfl ?_
            refine lv_i2s (v := ((l3.toInt32).toInt16.toInt32)) hx hb dX6_set_95 rfl ?_
            refine lv_i2l (v := (((l3.toInt32).toInt16.toInt32).toInt64)) hx hb dX6_set_96 rfl ?_
            refine lv_goto (tgt := 133) hx hb dX6_set_97 (by decide) ?_
            exact w_X6_set_b133 X a_t a_elements a_holds a_refused a_sizes a_now a_kept a_mind a_tape a_words a_wCell a_wFaces a_wTurns a_wSign a_wBy a_wFell a_telling a_moved a_above a_out a_first c_t c_holds c_sizes res c_elements c_refused (((l3.toInt32).toInt16.toInt32).toInt64) (((40 : Int32) * l1) + l2) _ _ _ h hP hD hS (lv_sub hl [] rfl)
        · have h := if_t h hc77
          refine lv_lload_n hx hb dX6_set_80 rfl (lv_at hl 4 rfl) ?_
          refine lv_l2i (v := (l3.toInt32)) hx hb dX6_set_81 rfl ?_
          refine lv_i2b (v := ((l3.toInt32).toInt8.toInt32)) hx hb dX6_set_82 rfl ?_
          refine lv_i2l (v := (((l3.toInt32).toInt8.toInt32).toInt64)) hx hb dX6_set_83 rfl ?_
          refine lv_goto (tgt := 133) hx hb dX6_set_84 (by decide) ?_
          exact w_X6_set_b133 X a_t a_elements a_holds a_refused a_sizes a_now a_kept a_mind a_tape a_words a_wCell a_wFaces a_wTurns a_wSign a_wBy a_wFell a_telling a_moved a_above a_out a_first c_t c_holds c_sizes res c_elements c_refused (((l3.toInt32).toInt8.toInt32).toInt64) (((40 : Int32) * l1) + l2) _ _ _ h hP hD hS (lv_sub hl [] rfl)
      · have h := if_t h hc47
        refine lv_aload_n hx hb dX6_set_50 rfl (lv_at hl 0 rfl) ?_
        refine lv_bipush (v := (-2 : Int32)) hx hb dX6_set_51 (by decide) ?_
        obtain ⟨v4, hv4, h⟩ := bind_of h
        refine after_i X (run_V X (c_X6_refuse l E a_t a_refused a_now a_kept a_mind a_tape a_words a_wCell a_wFaces a_wTurns a_wSign a_wBy a_wFell a_telling a_holds a_sizes a_elements a_moved a_above a_out a_first (-2 : Int32) c_t c_refused H.size v4 hv4) (cwV 1 hts gX6_set_X6_refuse rfl rfl rfl hV_X6_refuse ⟨(Nat.le_of_ble_eq_true rfl), (Nat.le_of_ble_eq_true rfl)⟩) hP hD hS [0, 3] rfl rfl hl.1 (ci := 6) rfl rfl rfl (rest := []) rfl rfl (Nat.le_of_ble_eq_true rfl) dX6_set_53) hP hD hS [0, 3] rfl (ws1 := (W_X6_set E a_t a_elements a_holds a_refused a_sizes a_now a_kept a_mind a_tape a_words a_wCell a_wFaces a_wTurns a_wSign a_wBy a_wFell a_telling a_moved a_above a_out a_first c_t c_elements c_holds (v4.2) c_sizes)) rfl (fun H locs hP hD hS => ?_)
        obtain rfl := Option.some.inj h
        exact ret_i X dX6_set_56 hP hD hS rfl
    · have h := if_f h hc19
      refine lv_aload_n hx hb dX6_set_22 rfl (lv_at hl 0 rfl) ?_
      refine lv_aload_n hx hb dX6_set_23 rfl (lv_at hl 0 rfl) ?_
      refine lv_iload_n hx hb dX6_set_24 rfl (lv_at hl 1 rfl) ?_
      obtain ⟨v5, hv5, h⟩ := bind_of h
      refine after_i X (run_V X (c_X6_rowIn l E a_t a_holds a_refused a_now a_kept a_mind a_tape a_words a_wCell a_wFaces a_wTurns a_wSign a_wBy a_wFell a_telling a_sizes a_elements a_moved a_above a_out a_first l1 c_t c_holds H.size v5 hv5) (cwV 1 hts gX6_set_X6_rowIn rfl rfl rfl hV_X6_rowIn ⟨(Nat.le_of_ble_eq_true rfl), (Nat.le_of_ble_eq_true rfl)⟩) hP hD hS [0, 2] rfl rfl hl.1 (ci := 6) rfl rfl rfl (rest := [.ref a_t]) rfl rfl (Nat.le_of_ble_eq_true rfl) dX6_set_25) hP hD hS [0, 2] rfl (ws1 := (W_X6_set E a_t a_elements a_holds a_refused a_sizes a_now a_kept a_mind a_tape a_words a_wCell a_wFaces a_wTurns a_wSign a_wBy a_wFell a_telling a_moved a_above a_out a_first c_t c_elements c_holds c_refused c_sizes)) rfl (fun H locs hP hD hS => ?_)
      obtain ⟨v6, hv6, h⟩ := bind_of h
      refine after_i X (run_V X (c_X6_refuse l E a_t a_refused a_now a_kept a_mind a_tape a_words a_wCell a_wFaces a_wTurns a_wSign a_wBy a_wFell a_telling a_holds a_sizes a_elements a_moved a_above a_out a_first v5 c_t c_refused H.size v6 hv6) (cwV 1 hts gX6_set_X6_refuse rfl rfl rfl hV_X6_refuse ⟨(Nat.le_of_ble_eq_true rfl), (Nat.le_of_ble_eq_true rfl)⟩) hP hD hS [0, 3] rfl rfl hl.1 (ci := 6) rfl rfl rfl (rest := []) rfl rfl (Nat.le_of_ble_eq_true rfl) dX6_set_28) hP hD hS [0, 3] rfl (ws1 := (W_X6_set E a_t a_elements a_holds a_refused a_sizes a_now a_kept a_mind a_tape a_words a_wCell a_wFaces a_wTurns a_wSign a_wBy a_wFell a_telling a_moved a_above a_out a_first c_t c_elements c_holds (v6.2) c_sizes)) rfl (fun H locs hP hD hS => ?_)
      obtain rfl := Option.some.inj h
      exact ret_i X dX6_set_31 hP hD hS rfl
  · have h := if_t h hc4
    refine lv_aload_n hx hb dX6_set_7 rfl (lv_at hl 0 rfl) ?_
    refine lv_bipush (v := (-2 : Int32)) hx hb dX6_set_8 (by decide) ?_
    obtain ⟨v7, hv7, h⟩ := bind_of h
    refine after_i X (run_V X (c_X6_refuse l E a_t a_refused a_now a_kept a_mind a_tape a_words a_wCell a_wFaces a_wTurns a_wSign a_wBy a_wFell a_telling a_holds a_sizes a_elements a_moved a_above a_out a_first (-2 : Int32) c_t c_refused H.size v7 hv7) (cwV 1 hts gX6_set_X6_refuse rfl rfl rfl hV_X6_refuse ⟨(Nat.le_of_ble_eq_true rfl), (Nat.le_of_ble_eq_true rfl)⟩) hP hD hS [0, 3] rfl rfl hl.1 (ci := 6) rfl rfl rfl (rest := []) rfl rfl (Nat.le_of_ble_eq_true rfl) dX6_set_10) hP hD hS [0, 3] rfl (ws1 := (W_X6_set E a_t a_elements a_holds a_refused a_sizes a_now a_kept a_mind a_tape a_words a_wCell a_wFaces a_wTurns a_wSign a_wBy a_wFell a_telling a_moved a_above a_out a_first c_t c_elements c_holds (v7.2) c_sizes)) rfl (fun H locs hP hD hS => ?_)
    obtain rfl := Option.some.inj h
    exact ret_i X dX6_set_13 hP hD hS rfl
end
set_option maxRecDepth 100000 in
theorem c_X6_set (l : Launch) (E : Env0) (a_t : Nat) (a_elements : Nat) (a_holds : Nat) (a_refused : Nat) (a_sizes : Nat) (a_now : Nat) (a_kept : Nat) (a_mind : Nat) (a_tape : Nat) (a_words : Nat) (a_wCell : Nat) (a_wFaces : Nat) (a_wTurns : Nat) (a_wSign : Nat) (a_wBy : Nat) (a_wFell : Nat) (a_telling : Nat) (a_moved : Nat) (a_above : Nat) (a_out : Nat) (a_first : Nat) (l1 : Int32) (l2 : Int32) (l3 : Int64) (c_t : Nat → Int32) (c_elements : Nat → Int64) (c_holds : Nat → Int32) (c_refused : Nat → Int32) (c_sizes : Nat → Int32) (sz : Nat) (res : Int32 × (Nat → Int64) × (Nat → Int32)) (h : f_X6_set l1 l2 l3 c_t c_elements c_holds c_refused c_sizes = some res) : Met l yX6_set wsX6_set r_X6_set (cPre E [.ref a_t, .int l1, .int l2, .long l3] (W_X6_set E a_t a_elements a_holds a_refused a_sizes a_now a_kept a_mind a_tape a_words a_wCell a_wFaces a_wTurns a_wSign a_wBy a_wFell a_telling a_moved a_above a_out a_first c_t c_elements c_holds c_refused c_sizes) sz) (qI E (va_A (W_X6_set E a_t a_elements a_holds a_refused a_sizes a_now a_kept a_mind a_tape a_words a_wCell a_wFaces a_wTurns a_wSign a_wBy a_wFell a_telling a_moved a_above a_out a_first c_t c_elements c_holds c_refused c_sizes) sz) (res.1) (W_X6_set E a_t a_elements a_holds a_refused a_sizes a_now a_kept a_mind a_tape a_words a_wCell a_wFaces a_wTurns a_wSign a_wBy a_wFell a_telling a_moved a_above a_out a_first c_t (res.2.1) c_holds (res.2.2) c_sizes)) 0 0 (va_A (W_X6_set E a_t a_elements a_holds a_refused a_sizes a_now a_kept a_mind a_tape a_words a_wCell a_wFaces a_wTurns a_wSign a_wBy a_wFell a_telling a_moved a_above a_out a_first c_t c_elements c_holds c_refused c_sizes) sz) :=
  met_of (Qc := fun A => qI E A (res.1) (W_X6_set E a_t a_elements a_holds a_refused a_sizes a_now a_kept a_mind a_tape a_words a_wCell a_wFaces a_wTurns a_wSign a_wBy a_wFell a_telling a_moved a_above a_out a_first c_t (res.2.1) c_holds (res.2.2) c_sizes)) (by decide) rfl (Nat.le_of_ble_eq_true rfl) (fun p e s m args below meth c X hP hD hS ls hl => w_X6_set X a_t a_elements a_holds a_refused a_sizes a_now a_kept a_mind a_tape a_words a_wCell a_wFaces a_wTurns a_wSign a_wBy a_wFell a_telling a_moved a_above a_out a_first c_t c_holds c_sizes res c_elements c_refused l1 l2 l3 ls _ _ h hP hD hS hl)
-- ===== X6_copy
noncomputable abbrev W_X6_copy (E : Env0) (a_t : Nat) (a_elements : Nat) (a_holds : Nat) (a_moved : Nat) (a_refused : Nat) (a_sizes : Nat) (a_now : Nat) (a_kept : Nat) (a_mind : Nat) (a_tape : Nat) (a_words : Nat) (a_wCell : Nat) (a_wFaces : Nat) (a_wTurns : Nat) (a_wSign : Nat) (a_wBy : Nat) (a_wFell : Nat) (a_telling : Nat) (a_above : Nat) (a_out : Nat) (a_first : Nat) (c_t : Nat → Int32) (c_elements : Nat → Int64) (c_holds : Nat → Int32) (c_moved : Nat → Int64) (c_refused : Nat → Int32) (c_sizes : Nat → Int32) : va_W := [(a_t, .inr (6, [.ref a_refused, .ref a_now, .ref a_kept, .ref a_mind, .int (c_t 4), .ref a_tape, .int (c_t 6), .int (c_t 7), .int (c_t 8), .int (c_t 9), .ref a_words, .ref a_wCell, .ref a_wFaces, .ref a_wTurns, .ref a_wSign, .ref a_wBy, .ref a_wFell, .int (c_t 17), .ref a_telling, .ref a_holds, .ref a_sizes, .ref a_elements, .ref a_moved, .ref a_above, .ref a_out, .ref a_first])), (a_elements, .inl (eJ E, 320, .inr (.inl c_elements))), (a_holds, .inl (eI E, 8, .inl c_holds)), (a_moved, .inl (eJ E, 40, .inr (.inl c_moved))), (a_refused, .inl (eI E, 7, .inl c_refused)), (a_sizes, .inl (eI E, 8, .inl c_sizes))]
noncomputable abbrev r_X6_copy : Room := { frames := 2, cells := 0, slots := 0, locals := 45 }
theorem hd_X6_copy : yX6_copy.cls ≠ "java/lang/invoke/MethodHandle" ∧ yX6_copy.cls ≠ "java/lang/invoke/VarHandle" ∧ (parseMethodDescriptor yX6_copy.desc).map (fun d => d.parameters.length) = some 5 := by decide +kernel
theorem hV_X6_copy : yX6_copy.cls = RX6 ∧ yX6_copy.cls ≠ "java/lang/invoke/MethodHandle" ∧ yX6_copy.cls ≠ "java/lang/invoke/VarHandle" ∧ (parseMethodDescriptor yX6_copy.desc).map (fun d => d.parameters.length) = some 5 := ⟨rfl, hd_X6_copy⟩
theorem iX6_copy_X6 : ∀ w ∈ wsX60, w ∈ wsX6_copy := fun _ h => List.mem_cons_of_mem _ (List.mem_append_right _ (h))
section
variable {p : Program} {l : Launch} {e : Env} {s : State} {m : MethodId} {args : Array Value} {below : List Frame} {meth : Method} {c : Code} {E : Env0} {A : Nat → Prop}
set_option maxRecDepth 100000 in
set_option maxHeartbeats 4000000 in
theorem w_X6_copy_b14 (X : Ctx p m meth c cX6_copy 8 ((some .int)) s args wsX6_copy RX6 E A) (a_t : Nat) (a_elements : Nat) (a_holds : Nat) (a_moved : Nat) (a_refused : Nat) (a_sizes : Nat) (a_now : Nat) (a_kept : Nat) (a_mind : Nat) (a_tape : Nat) (a_words : Nat) (a_wCell : Nat) (a_wFaces : Nat) (a_wTurns : Nat) (a_wSign : Nat) (a_wBy : Nat) (a_wFell : Nat) (a_telling : Nat) (a_above : Nat) (a_out : Nat) (a_first : Nat) (c_t : Nat → Int32) (c_holds : Nat → Int32) (c_sizes : Nat → Int32) (res : Int32 × (Nat → Int64) × (Nat → Int64) × (Nat → Int32)) (c_elements : Nat → Int64) (c_moved : Nat → Int64) (c_refused : Nat → Int32) (ls : Array Slot) (H : Heap) (locs : List Loc) (h : f_X6_copy_b14 c_t c_holds c_sizes c_elements c_moved c_refused = some res) (hP : va_P E.1 vwCl (W_X6_copy E a_t a_elements a_holds a_moved a_refused a_sizes a_now a_kept a_mind a_tape a_words a_wCell a_wFaces a_wTurns a_wSign a_wBy a_wFell a_telling a_above a_out a_first c_t c_elements c_holds c_moved c_refused c_sizes) H) (hD : va_D A (W_X6_copy E a_t a_elements a_holds a_moved a_refused a_sizes a_now a_kept a_mind a_tape a_words a_wCell a_wFaces a_wTurns a_wSign a_wBy a_wFell a_telling a_above a_out a_first c_t c_elements c_holds c_moved c_refused c_sizes)) (hS : va_S A s.heap H locs) (hl : lv_has ls 8 [(0, .ref a_t)]) : W p l e r_X6_copy s m args below meth c H locs 0 0 (MQ below (qI E A (res.1) (W_X6_copy E a_t a_elements a_holds a_moved a_refused a_sizes a_now a_kept a_mind a_tape a_words a_wCell a_wFaces a_wTurns a_wSign a_wBy a_wFell a_telling a_above a_out a_first c_t (res.2.1) c_holds (res.2.2.1) (res.2.2.2) c_sizes)) args s 0 0 A) (F0 m 14 ls []) := by
  obtain ⟨hx, hb, hml, hr, hlk, hown, hts, hG, hA⟩ := id X
  have hK := hG.1
  have hN := hG.2.1
  unfold f_X6_copy_b14 at h
  refine lv_aload_n hx hb dX6_copy_14 rfl (lv_at hl 0 rfl) ?_
  refine lv_bipush (v := (-2 : Int32)) hx hb dX6_copy_15 (by decide) ?_
  obtain ⟨v1, hv1, h⟩ := bind_of h
  refine after_i X (run_V X (c_X6_refuse l E a_t a_refused a_now a_kept a_mind a_tape a_words a_wCell a_wFaces a_wTurns a_wSign a_wBy a_wFell a_telling a_holds a_sizes a_elements a_moved a_above a_out a_first (-2 : Int32) c_t c_refused H.size v1 hv1) (cwV 1 hts gX6_copy_X6_refuse rfl rfl rfl hV_X6_refuse ⟨(Nat.le_of_ble_eq_true rfl), (Nat.le_of_ble_eq_true rfl)⟩) hP hD hS [0, 4] rfl rfl hl.1 (ci := 6) rfl rfl rfl (rest := []) rfl rfl (Nat.le_of_ble_eq_true rfl) dX6_copy_17) hP hD hS [0, 4] rfl (ws1 := (W_X6_copy E a_t a_elements a_holds a_moved a_refused a_sizes a_now a_kept a_mind a_tape a_words a_wCell a_wFaces a_wTurns a_wSign a_wBy a_wFell a_telling a_above a_out a_first c_t c_elements c_holds c_moved (v1.2) c_sizes)) rfl (fun H locs hP hD hS => ?_)
  obtain rfl := Option.some.inj h
  exact ret_i X dX6_copy_20 hP hD hS rfl
set_option maxRecDepth 100000 in
set_option maxHeartbeats 4000000 in
theorem w_X6_copy_b90 (X : Ctx p m meth c cX6_copy 8 ((some .int)) s args wsX6_copy RX6 E A) (a_t : Nat) (a_elements : Nat) (a_holds : Nat) (a_moved : Nat) (a_refused : Nat) (a_sizes : Nat) (a_now : Nat) (a_kept : Nat) (a_mind : Nat) (a_tape : Nat) (a_words : Nat) (a_wCell : Nat) (a_wFaces : Nat) (a_wTurns : Nat) (a_wSign : Nat) (a_wBy : Nat) (a_wFell : Nat) (a_telling : Nat) (a_above : Nat) (a_out : Nat) (a_first : Nat) (c_t : Nat → Int32) (c_holds : Nat → Int32) (c_sizes : Nat → Int32) (res : Int32 × (Nat → Int64) × (Nat → Int64) × (Nat → Int32)) (c_elements : Nat → Int64) (c_moved : Nat → Int64) (c_refused : Nat → Int32) (ls : Array Slot) (H : Heap) (locs : List Loc) (h : f_X6_copy_b90 c_t c_holds c_sizes c_elements c_moved c_refused = some res) (hP : va_P E.1 vwCl (W_X6_copy E a_t a_elements a_holds a_moved a_refused a_sizes a_now a_kept a_mind a_tape a_words a_wCell a_wFaces a_wTurns a_wSign a_wBy a_wFell a_telling a_above a_out a_first c_t c_elements c_holds c_moved c_refused c_sizes) H) (hD : va_D A (W_X6_copy E a_t a_elements a_holds a_moved a_refused a_sizes a_now a_kept a_mind a_tape a_words a_wCell a_wFaces a_wTurns a_wSign a_wBy a_wFell a_telling a_above a_out a_first c_t c_elements c_holds c_moved c_refused c_sizes)) (hS : va_S A s.heap H locs) (hl : lv_has ls 8 [(0, .ref a_t)]) : W p l e r_X6_copy s m args below meth c H locs 0 0 (MQ below (qI E A (res.1) (W_X6_copy E a_t a_elements a_holds a_moved a_refused a_sizes a_now a_kept a_mind a_tape a_words a_wCell a_wFaces a_wTurns a_wSign a_wBy a_wFell a_telling a_above a_out a_first c_t (res.2.1) c_holds (res.2.2.1) (res.2.2.2) c_sizes)) args s 0 0 A) (F0 m 90 ls []) := by
  obtain ⟨hx, hb, hml, hr, hlk, hown, hts, hG, hA⟩ := id X
  have hK := hG.1
  have hN := hG.2.1
  unfold f_X6_copy_b90 at h
  refine lv_aload_n hx hb dX6_copy_90 rfl (lv_at hl 0 rfl) ?_
  refine lv_bipush (v := (-3 : Int32)) hx hb dX6_copy_91 (by decide) ?_
  obtain ⟨v1, hv1, h⟩ := bind_of h
  refine after_i X (run_V X (c_X6_refuse l E a_t a_refused a_now a_kept a_mind a_tape a_words a_wCell a_wFaces a_wTurns a_wSign a_wBy a_wFell a_telling a_holds a_sizes a_elements a_moved a_above a_out a_first (-3 : Int32) c_t c_refused H.size v1 hv1) (cwV 1 hts gX6_copy_X6_refuse rfl rfl rfl hV_X6_refuse ⟨(Nat.le_of_ble_eq_true rfl), (Nat.le_of_ble_eq_true rfl)⟩) hP hD hS [0, 4] rfl rfl hl.1 (ci := 6) rfl rfl rfl (rest := []) rfl rfl (Nat.le_of_ble_eq_true rfl) dX6_copy_93) hP hD hS [0, 4] rfl (ws1 := (W_X6_copy E a_t a_elements a_holds a_moved a_refused a_sizes a_now a_kept a_mind a_tape a_words a_wCell a_wFaces a_wTurns a_wSign a_wBy a_wFell a_telling a_above a_out a_first c_t c_elements c_holds c_moved (v1.2) c_sizes)) rfl (fun H locs hP hD hS => ?_)
  obtain rfl := Option.some.inj h
  exact ret_i X dX6_copy_96 hP hD hS rfl
set_option maxRecDepth 100000 in
set_option maxHeartbeats 4000000 in
theorem w_X6_copy_b150 (X : Ctx p m meth c cX6_copy 8 ((some .int)) s args wsX6_copy RX6 E A) (a_t : Nat) (a_elements : Nat) (a_holds : Nat) (a_moved : Nat) (a_refused : Nat) (a_sizes : Nat) (a_now : Nat) (a_kept : Nat) (a_mind : Nat) (a_tape : Nat) (a_words : Nat) (a_wCell : Nat) (a_wFaces : Nat) (a_wTurns : Nat) (a_wSign : Nat) (a_wBy : Nat) (a_wFell : Nat) (a_telling : Nat) (a_above : Nat) (a_out : Nat) (a_first : Nat) (c_t : Nat → Int32) (c_holds : Nat → Int32) (c_sizes : Nat → Int32) (res : Int32 × (Nat → Int64) × (Nat → Int64) × (Nat → Int32)) (c_elements : Nat → Int64) (c_moved : Nat → Int64) (c_refused : Nat → Int32) (ls : Array Slot) (H : Heap) (locs : List Loc) (h : f_X6_copy_b150 c_t c_holds c_sizes c_elements c_moved c_refused = some res) (hP : va_P E.1 vwCl (W_X6_copy E a_t a_elements a_holds a_moved a_refused a_sizes a_now a_kept a_mind a_tape a_words a_wCell a_wFaces a_wTurns a_wSign a_wBy a_wFell a_telling a_above a_out a_first c_t c_elements c_holds c_moved c_refused c_sizes) H) (hD : va_D A (W_X6_copy E a_t a_elements a_holds a_moved a_refused a_sizes a_now a_kept a_mind a_tape a_words a_wCell a_wFaces a_wTurns a_wSign a_wBy a_wFell a_telling a_above a_out a_first c_t c_elements c_holds c_moved c_refused c_sizes)) (hS : va_S A s.heap H locs) (hl : lv_has ls 8 [(0, .ref a_t)]) : W p l e r_X6_copy s m args below meth c H locs 0 0 (MQ below (qI E A (res.1) (W_X6_copy E a_t a_elements a_holds a_moved a_refused a_sizes a_now a_kept a_mind a_tape a_words a_wCell a_wFaces a_wTurns a_wSign a_wBy a_wFell a_telling a_above a_out a_first c_t (res.2.1) c_holds (res.2.2.1) (res.2.2.2) c_sizes)) args s 0 0 A) (F0 m 150 ls []) := by
  obtain ⟨hx, hb, hml, hr, hlk, hown, hts, hG, hA⟩ := id X
  have hK := hG.1
  have hN := hG.2.1
  unfold f_X6_copy_b150 at h
  refine lv_aload_n hx hb dX6_copy_150 rfl (lv_at hl 0 rfl) ?_
  refine lv_bipush (v := (-2 : Int32)) hx hb dX6_copy_151 (by decide) ?_
  obtain ⟨v1, hv1, h⟩ := bind_of h
  refine after_i X (run_V X (c_X6_refuse l E a_t a_refused a_now a_kept a_mind a_tape a_words a_wCell a_wFaces a_wTurns a_wSign a_wBy a_wFell a_telling a_holds a_sizes a_elements a_moved a_above a_out a_first (-2 : Int32) c_t c_refused H.size v1 hv1) (cwV 1 hts gX6_copy_X6_refuse rfl rfl rfl hV_X6_refuse ⟨(Nat.le_of_ble_eq_true rfl), (Nat.le_of_ble_eq_true rfl)⟩) hP hD hS [0, 4] rfl rfl hl.1 (ci := 6) rfl rfl rfl (rest := []) rfl rfl (Nat.le_of_ble_eq_true rfl) dX6_copy_153) hP hD hS [0, 4] rfl (ws1 := (W_X6_copy E a_t a_elements a_holds a_moved a_refused a_sizes a_now a_kept a_mind a_tape a_words a_wCell a_wFaces a_wTurns a_wSign a_wBy a_wFell a_telling a_above a_out a_first c_t c_elements c_holds c_moved (v1.2) c_sizes)) rfl (fun H locs hP hD hS => ?_)
  obtain rfl := Option.some.inj h
  exact ret_i X dX6_copy_156 hP hD hS rfl
set_option maxRecDepth 100000 in
set_option maxHeartbeats 4000000 in
theorem w_X6_copy_b197 (X : Ctx p m meth c cX6_copy 8 ((some .int)) s args wsX6_copy RX6 E A) (a_t : Nat) (a_elements : Nat) (a_holds : Nat) (a_moved : Nat) (a_refused : Nat) (a_sizes : Nat) (a_now : Nat) (a_kept : Nat) (a_mind : Nat) (a_tape : Nat) (a_words : Nat) (a_wCell : Nat) (a_wFaces : Nat) (a_wTurns : Nat) (a_wSign : Nat) (a_wBy : Nat) (a_wFell : Nat) (a_telling : Nat) (a_above : Nat) (a_out : Nat) (a_first : Nat) (c_t : Nat → Int32) (c_holds : Nat → Int32) (c_sizes : Nat → Int32) (res : Int32 × (Nat → Int64) × (Nat → Int64) × (Nat → Int32)) : ∀ (n : Nat) (c_elements : Nat → Int64) (c_moved : Nat → Int64) (c_refused : Nat → Int32) (l2 : Int32) (l4 : Int32) (l5 : Int32) (l7 : Int32) (ls : Array Slot) (H : Heap) (locs : List Loc), f_X6_copy_b197 c_t c_holds c_sizes n c_elements c_moved c_refused l2 l4 l5 l7 = some res → va_P E.1 vwCl (W_X6_copy E a_t a_elements a_holds a_moved a_refused a_sizes a_now a_kept a_mind a_tape a_words a_wCell a_wFaces a_wTurns a_wSign a_wBy a_wFell a_telling a_above a_out a_first c_t c_elements c_holds c_moved c_refused c_sizes) H → va_D A (W_X6_copy E a_t a_elements a_holds a_moved a_refused a_sizes a_now a_kept a_mind a_tape a_words a_wCell a_wFaces a_wTurns a_wSign a_wBy a_wFell a_telling a_above a_out a_first c_t c_elements c_holds c_moved c_refused c_sizes) → va_S A s.heap H locs → lv_has ls 8 [(0, .ref a_t), (2, .int l2), (4, .int l4), (5, .int l5), (7, .int l7)] → W p l e r_X6_copy s m args below meth c H locs 0 0 (MQ below (qI E A (res.1) (W_X6_copy E a_t a_elements a_holds a_moved a_refused a_sizes a_now a_kept a_mind a_tape a_words a_wCell a_wFaces a_wTurns a_wSign a_wBy a_wFell a_telling a_above a_out a_first c_t (res.2.1) c_holds (res.2.2.1) (res.2.2.2) c_sizes)) args s 0 0 A) (F0 m 197 ls []) := by
  obtain ⟨hx, hb, hml, hr, hlk, hown, hts, hG, hA⟩ := id X
  have hK := hG.1
  have hN := hG.2.1
  intro n
  induction n with
  | zero =>
    intro c_elements c_moved c_refused l2 l4 l5 l7 ls H locs h
    exact absurd (show (none : Option (Int32 × (Nat → Int64) × (Nat → Int64) × (Nat → Int32))) = some res from h) (by intro q; cases q)
  | succ n ih =>
    intro c_elements c_moved c_refused l2 l4 l5 l7 ls H locs h hP hD hS hl
    rw [f_X6_copy_b197] at h
    refine lv_iload hx hb dX6_copy_197 (lv_at hl 4 rfl) ?_
    refine lv_iload hx hb dX6_copy_199 (lv_at hl 3 rfl) ?_
    refine lv_icmp_ge (tgt := 232) hx hb dX6_copy_201 (by decide) (fun hc201 => ?_) (fun hc201 => ?_)
    · have h := if_t h hc201
      refine lv_iload hx hb dX6_copy_232 (lv_at hl 3 rfl) ?_
      obtain rfl := Option.some.inj h
      exact ret_i X dX6_copy_234 hP hD hS rfl
    · have h := if_f h hc201
      refine lv_aload_n hx hb dX6_copy_204 rfl (lv_at hl 0 rfl) ?_
      refine va_get (D := E.1) (ci := 6) (v := .ref a_elements) (C := RX6) (T := TX6) (N := 26) hx hb hts iX6_copy_X6 hown hK hP 0 rfl rfl 21 (by decide) (hts (.fieldLink RX6 60 "LeftIsAgreedOnModel" "elements" "[J") (List.mem_of_getElem? (i := 4) rfl)) (fun _ h9 => h9) rfl dX6_copy_205 ?_
      refine lv_bipush (v := (40 : Int32)) hx hb dX6_copy_208 (by decide) ?_
      refine lv_iload_n hx hb dX6_copy_210 rfl (lv_at hl 1 rfl) ?_
      refine lv_imul hx hb dX6_copy_211 ?_
      refine lv_iload hx hb dX6_copy_212 (lv_at hl 2 rfl) ?_
      refine lv_iadd hx hb dX6_copy_214 ?_
      refine lv_iload hx hb dX6_copy_215 (lv_at hl 4 rfl) ?_
      refine lv_iadd hx hb dX6_copy_217 ?_
      refine lv_aload_n hx hb dX6_copy_218 rfl (lv_at hl 0 rfl) ?_
      refine va_get (D := E.1) (ci := 6) (v := .ref a_moved) (C := RX6) (T := TX6) (N := 26) hx hb hts iX6_copy_X6 hown hK hP 0 rfl rfl 22 (by decide) (hts (.fieldLink RX6 64 "LeftIsAgreedOnModel" "moved" "[J") (List.mem_of_getElem? (i := 3) rfl)) (fun _ h9 => h9) rfl dX6_copy_219 ?_
      refine lv_iload hx hb dX6_copy_222 (lv_at hl 4 rfl) ?_
      obtain ⟨hz224, h⟩ := chk_of h
      refine ld_l X hP 3 rfl (inb.vp hz224) (v := (c_moved (l7).toNatClampNeg)) rfl dX6_copy_224 ?_
      obtain ⟨hz225, h⟩ := chk_of h
      refine st_l X hP hD hS 1 rfl (inb.vp hz225) (k := (((((40 : Int32) * l2) + l4) + l7)).toNatClampNeg) rfl (ws1 := (W_X6_copy E a_t a_elements a_holds a_moved a_refused a_sizes a_now a_kept a_mind a_tape a_words a_wCell a_wFaces a_wTurns a_wSign a_wBy a_wFell a_telling a_above a_out a_first c_t (vp_updL c_elements ((((((40 : Int32) * l2) + l4) + l7)).toNatClampNeg) (c_moved (l7).toNatClampNeg)) c_holds c_moved c_refused c_sizes)) rfl dX6_copy_225 (fun H locs hP hD hS => ?_)
      refine lv_iinc (v := (l7 + (1 : Int32))) (lv' := [(7, .int (l7 + (1 : Int32))), (0, .ref a_t), (2, .int l2), (4, .int l4), (5, .int l5)]) hx hb dX6_copy_226 hl (k := 4) rfl rfl (by decide) rfl (fun ls hl => ?_)
      refine lv_goto (tgt := 197) hx hb dX6_copy_229 (by decide) ?_
      exact ih (vp_updL c_elements ((((((40 : Int32) * l2) + l4) + l7)).toNatClampNeg) (c_moved (l7).toNatClampNeg)) c_moved c_refused l2 l4 l5 (l7 + (1 : Int32)) _ _ _ h hP hD hS (lv_sub hl [1, 2, 3, 4, 0] rfl)
set_option maxRecDepth 100000 in
set_option maxHeartbeats 4000000 in
theorem w_X6_copy_b160 (X : Ctx p m meth c cX6_copy 8 ((some .int)) s args wsX6_copy RX6 E A) (a_t : Nat) (a_elements : Nat) (a_holds : Nat) (a_moved : Nat) (a_refused : Nat) (a_sizes : Nat) (a_now : Nat) (a_kept : Nat) (a_mind : Nat) (a_tape : Nat) (a_words : Nat) (a_wCell : Nat) (a_wFaces : Nat) (a_wTurns : Nat) (a_wSign : Nat) (a_wBy : Nat) (a_wFell : Nat) (a_telling : Nat) (a_above : Nat) (a_out : Nat) (a_first : Nat) (c_t : Nat → Int32) (c_holds : Nat → Int32) (c_sizes : Nat → Int32) (res : Int32 × (Nat → Int64) × (Nat → Int64) × (Nat → Int32)) : ∀ (n : Nat) (c_elements : Nat → Int64) (c_moved : Nat → Int64) (c_refused : Nat → Int32) (l1 : Int32) (l2 : Int32) (l3 : Int32) (l4 : Int32) (l5 : Int32) (l7 : Int32) (ls : Array Slot) (H : Heap) (locs : List Loc), f_X6_copy_b160 c_t c_holds c_sizes n c_elements c_moved c_refused l1 l2 l3 l4 l5 l7 = some res → va_P E.1 vwCl (W_X6_copy E a_t a_elements a_holds a_moved a_refused a_sizes a_now a_kept a_mind a_tape a_words a_wCell a_wFaces a_wTurns a_wSign a_wBy a_wFell a_telling a_above a_out a_first c_t c_elements c_holds c_moved c_refused c_sizes) H → va_D A (W_X6_copy E a_t a_elements a_holds a_moved a_refused a_sizes a_now a_kept a_mind a_tape a_words a_wCell a_wFaces a_wTurns a_wSign a_wBy a_wFell a_telling a_above a_out a_first c_t c_elements c_holds c_moved c_refused c_sizes) → va_S A s.heap H locs → lv_has ls 8 [(0, .ref a_t), (1, .int l1), (2, .int l2), (3, .int l3), (4, .int l4), (5, .int l5), (7, .int l7)] → W p l e r_X6_copy s m args below meth c H locs 0 0 (MQ below (qI E A (res.1) (W_X6_copy E a_t a_elements a_holds a_moved a_refused a_sizes a_now a_kept a_mind a_tape a_words a_wCell a_wFaces a_wTurns a_wSign a_wBy a_wFell a_telling a_above a_out a_first c_t (res.2.1) c_holds (res.2.2.1) (res.2.2.2) c_sizes)) args s 0 0 A) (F0 m 160 ls []) := by
  obtain ⟨hx, hb, hml, hr, hlk, hown, hts, hG, hA⟩ := id X
  have hK := hG.1
  have hN := hG.2.1
  intro n
  induction n with
  | zero =>
    intro c_elements c_moved c_refused l1 l2 l3 l4 l5 l7 ls H locs h
    exact absurd (show (none : Option (Int32 × (Nat → Int64) × (Nat → Int64) × (Nat → Int32))) = some res from h) (by intro q; cases q)
  | succ n ih =>
    intro c_elements c_moved c_refused l1 l2 l3 l4 l5 l7 ls H locs h hP hD hS hl
    rw [f_X6_copy_b160] at h
    refine lv_iload hx hb dX6_copy_160 (lv_at hl 6 rfl) ?_
    refine lv_iload hx hb dX6_copy_162 (lv_at hl 5 rfl) ?_
    refine lv_icmp_ge (tgt := 194) hx hb dX6_copy_164 (by decide) (fun hc164 => ?_) (fun hc164 => ?_)
    · have h := if_t h hc164
      refine lv_iconst (v := (0 : Int32)) hx hb dX6_copy_194 (by decide) ?_
      refine lv_istore (lv' := [(7, .int (0 : Int32)), (0, .ref a_t), (1, .int l1), (2, .int l2), (3, .int l3), (4, .int l4), (5, .int l5)]) hx hb dX6_copy_195 hl (by decide) rfl (fun ls hl => ?_)
      exact w_X6_copy_b197 X a_t a_elements a_holds a_moved a_refused a_sizes a_now a_kept a_mind a_tape a_words a_wCell a_wFaces a_wTurns a_wSign a_wBy a_wFell a_telling a_above a_out a_first c_t c_holds c_sizes res FU c_elements c_moved c_refused l2 l4 l5 (0 : Int32) _ _ _ h hP hD hS (lv_sub hl [1, 3, 5, 6, 0] rfl)
    · have h := if_f h hc164
      refine lv_aload_n hx hb dX6_copy_167 rfl (lv_at hl 0 rfl) ?_
      refine va_get (D := E.1) (ci := 6) (v := .ref a_moved) (C := RX6) (T := TX6) (N := 26) hx hb hts iX6_copy_X6 hown hK hP 0 rfl rfl 22 (by decide) (hts (.fieldLink RX6 64 "LeftIsAgreedOnModel" "moved" "[J") (List.mem_of_getElem? (i := 3) rfl)) (fun _ h9 => h9) rfl dX6_copy_168 ?_
      refine lv_iload hx hb dX6_copy_171 (lv_at hl 6 rfl) ?_
      refine lv_aload_n hx hb dX6_copy_173 rfl (lv_at hl 0 rfl) ?_
      refine va_get (D := E.1) (ci := 6) (v := .ref a_elements) (C := RX6) (T := TX6) (N := 26) hx hb hts iX6_copy_X6 hown hK hP 0 rfl rfl 21 (by decide) (hts (.fieldLink RX6 60 "LeftIsAgreedOnModel" "elements" "[J") (List.mem_of_getElem? (i := 4) rfl)) (fun _ h9 => h9) rfl dX6_copy_174 ?_
      refine lv_bipush (v := (40 : Int32)) hx hb dX6_copy_177 (by decide) ?_
      refine lv_iload_n hx hb dX6_copy_179 rfl (lv_at hl 1 rfl) ?_
      refine lv_imul hx hb dX6_copy_180 ?_
      refine lv_iload_n hx hb dX6_copy_181 rfl (lv_at hl 3 rfl) ?_
      refine lv_iadd hx hb dX6_copy_182 ?_
      refine lv_iload hx hb dX6_copy_183 (lv_at hl 6 rfl) ?_
      refine lv_iadd hx hb dX6_copy_185 ?_
      obtain ⟨hz186, h⟩ := chk_of h
      refine ld_l X hP 1 rfl (inb.vp hz186) (v := (c_elements (((((40 : Int32) * l1) + l3) + l7)).toNatClampNeg)) rfl dX6_copy_186 ?_
      obtain ⟨hz187, h⟩ := chk_of h
      refine st_l X hP hD hS 3 rfl (inb.vp hz187) (k := (l7).toNatClampNeg) rfl (ws1 := (W_X6_copy E a_t a_elements a_holds a_moved a_refused a_sizes a_now a_kept a_mind a_tape a_words a_wCell a_wFaces a_wTurns a_wSign a_wBy a_wFell a_telling a_above a_out a_first c_t c_elements c_holds (vp_updL c_moved ((l7).toNatClampNeg) (c_elements (((((40 : Int32) * l1) + l3) + l7)).toNatClampNeg)) c_refused c_sizes)) rfl dX6_copy_187 (fun H locs hP hD hS => ?_)
      refine lv_iinc (v := (l7 + (1 : Int32))) (lv' := [(7, .int (l7 + (1 : Int32))), (0, .ref a_t), (1, .int l1), (2, .int l2), (3, .int l3), (4, .int l4), (5, .int l5)]) hx hb dX6_copy_188 hl (k := 6) rfl rfl (by decide) rfl (fun ls hl => ?_)
      refine lv_goto (tgt := 160) hx hb dX6_copy_191 (by decide) ?_
      exact ih c_elements (vp_updL c_moved ((l7).toNatClampNeg) (c_elements (((((40 : Int32) * l1) + l3) + l7)).toNatClampNeg)) c_refused l1 l2 l3 l4 l5 (l7 + (1 : Int32)) _ _ _ h hP hD hS (lv_sub hl [1, 2, 3, 4, 5, 6, 0] rfl)
set_option maxRecDepth 100000 in
set_option maxHeartbeats 4000000 in
theorem w_X6_copy_b97 (X : Ctx p m meth c cX6_copy 8 ((some .int)) s args wsX6_copy RX6 E A) (a_t : Nat) (a_elements : Nat) (a_holds : Nat) (a_moved : Nat) (a_refused : Nat) (a_sizes : Nat) (a_now : Nat) (a_kept : Nat) (a_mind : Nat) (a_tape : Nat) (a_words : Nat) (a_wCell : Nat) (a_wFaces : Nat) (a_wTurns : Nat) (a_wSign : Nat) (a_wBy : Nat) (a_wFell : Nat) (a_telling : Nat) (a_above : Nat) (a_out : Nat) (a_first : Nat) (c_t : Nat → Int32) (c_holds : Nat → Int32) (c_sizes : Nat → Int32) (res : Int32 × (Nat → Int64) × (Nat → Int64) × (Nat → Int32)) (c_elements : Nat → Int64) (c_moved : Nat → Int64) (c_refused : Nat → Int32) (l1 : Int32) (l2 : Int32) (l3 : Int32) (l4 : Int32) (l5 : Int32) (l6 : Int32) (ls : Array Slot) (H : Heap) (locs : List Loc) (h : f_X6_copy_b97 c_t c_holds c_sizes c_elements c_moved c_refused l1 l2 l3 l4 l5 l6 = some res) (hP : va_P E.1 vwCl (W_X6_copy E a_t a_elements a_holds a_moved a_refused a_sizes a_now a_kept a_mind a_tape a_words a_wCell a_wFaces a_wTurns a_wSign a_wBy a_wFell a_telling a_above a_out a_first c_t c_elements c_holds c_moved c_refused c_sizes) H) (hD : va_D A (W_X6_copy E a_t a_elements a_holds a_moved a_refused a_sizes a_now a_kept a_mind a_tape a_words a_wCell a_wFaces a_wTurns a_wSign a_wBy a_wFell a_telling a_above a_out a_first c_t c_elements c_holds c_moved c_refused c_sizes)) (hS : va_S A s.heap H locs) (hl : lv_has ls 8 [(0, .ref a_t), (1, .int l1), (2, .int l2), (3, .int l3), (4, .int l4), (5, .int l5), (6, .int l6)]) : W p l e r_X6_copy s m args below meth c H locs 0 0 (MQ below (qI E A (res.1) (W_X6_copy E a_t a_elements a_holds a_moved a_refused a_sizes a_now a_kept a_mind a_tape a_words a_wCell a_wFaces a_wTurns a_wSign a_wBy a_wFell a_telling a_above a_out a_first c_t (res.2.1) c_holds (res.2.2.1) (res.2.2.2) c_sizes)) args s 0 0 A) (F0 m 97 ls []) := by
  obtain ⟨hx, hb, hml, hr, hlk, hown, hts, hG, hA⟩ := id X
  have hK := hG.1
  have hN := hG.2.1
  unfold f_X6_copy_b97 at h
  refine lv_iload hx hb dX6_copy_97 (lv_at hl 6 rfl) ?_
  refine lv_if_ne (tgt := 109) hx hb dX6_copy_99 (by decide) (fun hc99 => ?_) (fun hc99 => ?_)
  · have h := if_f h hc99
    refine lv_iload hx hb dX6_copy_109 (lv_at hl 5 rfl) ?_
    refine lv_if_lt (tgt := 150) hx hb dX6_copy_111 (by decide) (fun hc111 => ?_) (fun hc111 => ?_)
    · have h := if_t h hc111
      exact w_X6_copy_b150 X a_t a_elements a_holds a_moved a_refused a_sizes a_now a_kept a_mind a_tape a_words a_wCell a_wFaces a_wTurns a_wSign a_wBy a_wFell a_telling a_above a_out a_first c_t c_holds c_sizes res c_elements c_moved c_refused _ _ _ h hP hD hS (lv_sub hl [0] rfl)
    · have h := if_f h hc111
      refine lv_iload_n hx hb dX6_copy_114 rfl (lv_at hl 3 rfl) ?_
      refine lv_if_lt (tgt := 150) hx hb dX6_copy_115 (by decide) (fun hc115 => ?_) (fun hc115 => ?_)
      · have h := if_t h hc115
        exact w_X6_copy_b150 X a_t a_elements a_holds a_moved a_refused a_sizes a_now a_kept a_mind a_tape a_words a_wCell a_wFaces a_wTurns a_wSign a_wBy a_wFell a_telling a_above a_out a_first c_t c_holds c_sizes res c_elements c_moved c_refused _ _ _ h hP hD hS (lv_sub hl [0] rfl)
      · have h := if_f h hc115
        refine lv_iload hx hb dX6_copy_118 (lv_at hl 4 rfl) ?_
        refine lv_if_lt (tgt := 150) hx hb dX6_copy_120 (by decide) (fun hc120 => ?_) (fun hc120 => ?_)
        · have h := if_t h hc120
          exact w_X6_copy_b150 X a_t a_elements a_holds a_moved a_refused a_sizes a_now a_kept a_mind a_tape a_words a_wCell a_wFaces a_wTurns a_wSign a_wBy a_wFell a_telling a_above a_out a_first c_t c_holds c_sizes res c_elements c_moved c_refused _ _ _ h hP hD hS (lv_sub hl [0] rfl)
        · have h := if_f h hc120
          refine lv_iload hx hb dX6_copy_123 (lv_at hl 5 rfl) ?_
          refine lv_aload_n hx hb dX6_copy_125 rfl (lv_at hl 0 rfl) ?_
          refine va_get (D := E.1) (ci := 6) (v := .ref a_sizes) (C := RX6) (T := TX6) (N := 26) hx hb hts iX6_copy_X6 hown hK hP 0 rfl rfl 20 (by decide) (hts (.fieldLink RX6 57 "LeftIsAgreedOnModel" "sizes" "[I") (List.mem_of_getElem? (i := 2) rfl)) (fun _ h9 => h9) rfl dX6_copy_126 ?_
          refine lv_iload_n hx hb dX6_copy_129 rfl (lv_at hl 1 rfl) ?_
          obtain ⟨hz130, h⟩ := chk_of h
          refine ld_i X hP 5 rfl (inb.vp hz130) (v := (c_sizes (l1).toNatClampNeg)) rfl dX6_copy_130 ?_
          refine lv_iload_n hx hb dX6_copy_131 rfl (lv_at hl 3 rfl) ?_
          refine lv_isub hx hb dX6_copy_132 ?_
          refine lv_icmp_gt (tgt := 150) hx hb dX6_copy_133 (by decide) (fun hc133 => ?_) (fun hc133 => ?_)
          · have h := if_t h hc133
            exact w_X6_copy_b150 X a_t a_elements a_holds a_moved a_refused a_sizes a_now a_kept a_mind a_tape a_words a_wCell a_wFaces a_wTurns a_wSign a_wBy a_wFell a_telling a_above a_out a_first c_t c_holds c_sizes res c_elements c_moved c_refused _ _ _ h hP hD hS (lv_sub hl [0] rfl)
          · have h := if_f h hc133
            refine lv_iload hx hb dX6_copy_136 (lv_at hl 5 rfl) ?_
            refine lv_aload_n hx hb dX6_copy_138 rfl (lv_at hl 0 rfl) ?_
            refine va_get (D := E.1) (ci := 6) (v := .ref a_sizes) (C := RX6) (T := TX6) (N := 26) hx hb hts iX6_copy_X6 hown hK hP 0 rfl rfl 20 (by decide) (hts (.fieldLink RX6 57 "LeftIsAgreedOnModel" "sizes" "[I") (List.mem_of_getElem? (i := 2) rfl)) (fun _ h9 => h9) rfl dX6_copy_139 ?_
            refine lv_iload_n hx hb dX6_copy_142 rfl (lv_at hl 2 rfl) ?_
            obtain ⟨hz143, h⟩ := chk_of h
            refine ld_i X hP 5 rfl (inb.vp hz143) (v := (c_sizes (l2).toNatClampNeg)) rfl dX6_copy_143 ?_
            refine lv_iload hx hb dX6_copy_144 (lv_at hl 4 rfl) ?_
            refine lv_isub hx hb dX6_copy_146 ?_
            refine lv_icmp_le (tgt := 157) hx hb dX6_copy_147 (by decide) (fun hc147 => ?_) (fun hc147 => ?_)
            · have h := if_t h hc147
              refine lv_iconst (v := (0 : Int32)) hx hb dX6_copy_157 (by decide) ?_
              refine lv_istore (lv' := [(7, .int (0 : Int32)), (0, .ref a_t), (1, .int l1), (2, .int l2), (3, .int l3), (4, .int l4), (5, .int l5), (6, .int l6)]) hx hb dX6_copy_158 hl (by decide) rfl (fun ls hl => ?_)
              exact w_X6_copy_b160 X a_t a_elements a_holds a_moved a_refused a_sizes a_now a_kept a_mind a_tape a_words a_wCell a_wFaces a_wTurns a_wSign a_wBy a_wFell a_telling a_above a_out a_first c_t c_holds c_sizes res FU c_elements c_moved c_refused l1 l2 l3 l4 l5 (0 : Int32) _ _ _ h hP hD hS (lv_sub hl [1, 2, 3, 4, 5, 6, 0] rfl)
            · have h := if_f h hc147
              exact w_X6_copy_b150 X a_t a_elements a_holds a_moved a_refused a_sizes a_now a_kept a_mind a_tape a_words a_wCell a_wFaces a_wTurns a_wSign a_wBy a_wFell a_telling a_above a_out a_first c_t c_holds c_sizes res c_elements c_moved c_refused _ _ _ h hP hD hS (lv_sub hl [0] rfl)
  · have h := if_t h hc99
    refine lv_aload_n hx hb dX6_copy_102 rfl (lv_at hl 0 rfl) ?_
    refine lv_bipush (v := (-4 : Int32)) hx hb dX6_copy_103 (by decide) ?_
    obtain ⟨v1, hv1, h⟩ := bind_of h
    refine after_i X (run_V X (c_X6_refuse l E a_t a_refused a_now a_kept a_mind a_tape a_words a_wCell a_wFaces a_wTurns a_wSign a_wBy a_wFell a_telling a_holds a_sizes a_elements a_moved a_above a_out a_first (-4 : Int32) c_t c_refused H.size v1 hv1) (cwV 1 hts gX6_copy_X6_refuse rfl rfl rfl hV_X6_refuse ⟨(Nat.le_of_ble_eq_true rfl), (Nat.le_of_ble_eq_true rfl)⟩) hP hD hS [0, 4] rfl rfl hl.1 (ci := 6) rfl rfl rfl (rest := []) rfl rfl (Nat.le_of_ble_eq_true rfl) dX6_copy_105) hP hD hS [0, 4] rfl (ws1 := (W_X6_copy E a_t a_elements a_holds a_moved a_refused a_sizes a_now a_kept a_mind a_tape a_words a_wCell a_wFaces a_wTurns a_wSign a_wBy a_wFell a_telling a_above a_out a_first c_t c_elements c_holds c_moved (v1.2) c_sizes)) rfl (fun H locs hP hD hS => ?_)
    obtain rfl := Option.some.inj h
    exact ret_i X dX6_copy_108 hP hD hS rfl
set_option maxRecDepth 100000 in
set_option maxHeartbeats 4000000 in
theorem w_X6_copy_b46 (X : Ctx p m meth c cX6_copy 8 ((some .int)) s args wsX6_copy RX6 E A) (a_t : Nat) (a_elements : Nat) (a_holds : Nat) (a_moved : Nat) (a_refused : Nat) (a_sizes : Nat) (a_now : Nat) (a_kept : Nat) (a_mind : Nat) (a_tape : Nat) (a_words : Nat) (a_wCell : Nat) (a_wFaces : Nat) (a_wTurns : Nat) (a_wSign : Nat) (a_wBy : Nat) (a_wFell : Nat) (a_telling : Nat) (a_above : Nat) (a_out : Nat) (a_first : Nat) (c_t : Nat → Int32) (c_holds : Nat → Int32) (c_sizes : Nat → Int32) (res : Int32 × (Nat → Int64) × (Nat → Int64) × (Nat → Int32)) (c_elements : Nat → Int64) (c_moved : Nat → Int64) (c_refused : Nat → Int32) (l1 : Int32) (l2 : Int32) (l3 : Int32) (l4 : Int32) (l5 : Int32) (s0 : Int32) (ls : Array Slot) (H : Heap) (locs : List Loc) (h : f_X6_copy_b46 c_t c_holds c_sizes c_elements c_moved c_refused l1 l2 l3 l4 l5 s0 = some res) (hP : va_P E.1 vwCl (W_X6_copy E a_t a_elements a_holds a_moved a_refused a_sizes a_now a_kept a_mind a_tape a_words a_wCell a_wFaces a_wTurns a_wSign a_wBy a_wFell a_telling a_above a_out a_first c_t c_elements c_holds c_moved c_refused c_sizes) H) (hD : va_D A (W_X6_copy E a_t a_elements a_holds a_moved a_refused a_sizes a_now a_kept a_mind a_tape a_words a_wCell a_wFaces a_wTurns a_wSign a_wBy a_wFell a_telling a_above a_out a_first c_t c_elements c_holds c_moved c_refused c_sizes)) (hS : va_S A s.heap H locs) (hl : lv_has ls 8 [(0, .ref a_t), (1, .int l1), (2, .int l2), (3, .int l3), (4, .int l4), (5, .int l5)]) : W p l e r_X6_copy s m args below meth c H locs 0 0 (MQ below (qI E A (res.1) (W_X6_copy E a_t a_elements a_holds a_moved a_refused a_sizes a_now a_kept a_mind a_tape a_words a_wCell a_wFaces a_wTurns a_wSign a_wBy a_wFell a_telling a_above a_out a_first c_t (res.2.1) c_holds (res.2.2.1) (res.2.2.2) c_sizes)) args s 0 0 A) (F0 m 46 ls [.int s0]) := by
  obtain ⟨hx, hb, hml, hr, hlk, hown, hts, hG, hA⟩ := id X
  have hK := hG.1
  have hN := hG.2.1
  unfold f_X6_copy_b46 at h
  refine lv_istore (lv' := [(6, .int s0), (0, .ref a_t), (1, .int l1), (2, .int l2), (3, .int l3), (4, .int l4), (5, .int l5)]) hx hb dX6_copy_46 hl (by decide) rfl (fun ls hl => ?_)
  refine lv_aload_n hx hb dX6_copy_48 rfl (lv_at hl 1 rfl) ?_
  refine va_get (D := E.1) (ci := 6) (v := .ref a_holds) (C := RX6) (T := TX6) (N := 26) hx hb hts iX6_copy_X6 hown hK hP 0 rfl rfl 19 (by decide) (hts (.fieldLink RX6 54 "LeftIsAgreedOnModel" "holds" "[I") (List.mem_of_getElem? (i := 1) rfl)) (fun _ h9 => h9) rfl dX6_copy_49 ?_
  refine lv_iload_n hx hb dX6_copy_52 rfl (lv_at hl 2 rfl) ?_
  obtain ⟨hz53, h⟩ := chk_of h
  refine ld_i X hP 2 rfl (inb.vp hz53) (v := (c_holds (l1).toNatClampNeg)) rfl dX6_copy_53 ?_
  refine lv_bipush (v := (10 : Int32)) hx hb dX6_copy_54 (by decide) ?_
  refine lv_icmp_ge (tgt := 90) hx hb dX6_copy_56 (by decide) (fun hc56 => ?_) (fun hc56 => ?_)
  · have h := if_t h hc56
    exact w_X6_copy_b90 X a_t a_elements a_holds a_moved a_refused a_sizes a_now a_kept a_mind a_tape a_words a_wCell a_wFaces a_wTurns a_wSign a_wBy a_wFell a_telling a_above a_out a_first c_t c_holds c_sizes res c_elements c_moved c_refused _ _ _ h hP hD hS (lv_sub hl [1] rfl)
  · have h := if_f h hc56
    refine lv_aload_n hx hb dX6_copy_59 rfl (lv_at hl 1 rfl) ?_
    refine va_get (D := E.1) (ci := 6) (v := .ref a_holds) (C := RX6) (T := TX6) (N := 26) hx hb hts iX6_copy_X6 hown hK hP 0 rfl rfl 19 (by decide) (hts (.fieldLink RX6 54 "LeftIsAgreedOnModel" "holds" "[I") (List.mem_of_getElem? (i := 1) rfl)) (fun _ h9 => h9) rfl dX6_copy_60 ?_
    refine lv_iload_n hx hb dX6_copy_63 rfl (lv_at hl 3 rfl) ?_
    obtain ⟨hz64, h⟩ := chk_of h
    refine ld_i X hP 2 rfl (inb.vp hz64) (v := (c_holds (l2).toNatClampNeg)) rfl dX6_copy_64 ?_
    refine lv_bipush (v := (10 : Int32)) hx hb dX6_copy_65 (by decide) ?_
    refine lv_icmp_ge (tgt := 90) hx hb dX6_copy_67 (by decide) (fun hc67 => ?_) (fun hc67 => ?_)
    · have h := if_t h hc67
      exact w_X6_copy_b90 X a_t a_elements a_holds a_moved a_refused a_sizes a_now a_kept a_mind a_tape a_words a_wCell a_wFaces a_wTurns a_wSign a_wBy a_wFell a_telling a_above a_out a_first c_t c_holds c_sizes res c_elements c_moved c_refused _ _ _ h hP hD hS (lv_sub hl [1] rfl)
    · have h := if_f h hc67
      refine lv_iload hx hb dX6_copy_70 (lv_at hl 0 rfl) ?_
      refine lv_if_eq (tgt := 97) hx hb dX6_copy_72 (by decide) (fun hc72 => ?_) (fun hc72 => ?_)
      · have h := if_t h hc72
        exact w_X6_copy_b97 X a_t a_elements a_holds a_moved a_refused a_sizes a_now a_kept a_mind a_tape a_words a_wCell a_wFaces a_wTurns a_wSign a_wBy a_wFell a_telling a_above a_out a_first c_t c_holds c_sizes res c_elements c_moved c_refused l1 l2 l3 l4 l5 s0 _ _ _ h hP hD hS (lv_sub hl [1, 2, 3, 4, 5, 6, 0] rfl)
      · have h := if_f h hc72
        refine lv_aload_n hx hb dX6_copy_75 rfl (lv_at hl 1 rfl) ?_
        refine va_get (D := E.1) (ci := 6) (v := .ref a_holds) (C := RX6) (T := TX6) (N := 26) hx hb hts iX6_copy_X6 hown hK hP 0 rfl rfl 19 (by decide) (hts (.fieldLink RX6 54 "LeftIsAgreedOnModel" "holds" "[I") (List.mem_of_getElem? (i := 1) rfl)) (fun _ h9 => h9) rfl dX6_copy_76 ?_
        refine lv_iload_n hx hb dX6_copy_79 rfl (lv_at hl 2 rfl) ?_
        obtain ⟨hz80, h⟩ := chk_of h
        refine ld_i X hP 2 rfl (inb.vp hz80) (v := (c_holds (l1).toNatClampNeg)) rfl dX6_copy_80 ?_
        refine lv_aload_n hx hb dX6_copy_81 rfl (lv_at hl 1 rfl) ?_
        refine va_get (D := E.1) (ci := 6) (v := .ref a_holds) (C := RX6) (T := TX6) (N := 26) hx hb hts iX6_copy_X6 hown hK hP 0 rfl rfl 19 (by decide) (hts (.fieldLink RX6 54 "LeftIsAgreedOnModel" "holds" "[I") (List.mem_of_getElem? (i := 1) rfl)) (fun _ h9 => h9) rfl dX6_copy_82 ?_
        refine lv_iload_n hx hb dX6_copy_85 rfl (lv_at hl 3 rfl) ?_
        obtain ⟨hz86, h⟩ := chk_of h
        refine ld_i X hP 2 rfl (inb.vp hz86) (v := (c_holds (l2).toNatClampNeg)) rfl dX6_copy_86 ?_
        refine lv_icmp_eq (tgt := 97) hx hb dX6_copy_87 (by decide) (fun hc87 => ?_) (fun hc87 => ?_)
        · have h := if_t h hc87
          exact w_X6_copy_b97 X a_t a_elements a_holds a_moved a_refused a_sizes a_now a_kept a_mind a_tape a_words a_wCell a_wFaces a_wTurns a_wSign a_wBy a_wFell a_telling a_above a_out a_first c_t c_holds c_sizes res c_elements c_moved c_refused l1 l2 l3 l4 l5 s0 _ _ _ h hP hD hS (lv_sub hl [1, 2, 3, 4, 5, 6, 0] rfl)
        · have h := if_f h hc87
          exact w_X6_copy_b90 X a_t a_elements a_holds a_moved a_refused a_sizes a_now a_kept a_mind a_tape a_words a_wCell a_wFaces a_wTurns a_wSign a_wBy a_wFell a_telling a_above a_out a_first c_t c_holds c_sizes res c_elements c_moved c_refused _ _ _ h hP hD hS (lv_sub hl [1] rfl)
set_option maxRecDepth 100000 in
set_option maxHeartbeats 4000000 in
theorem w_X6_copy_b45 (X : Ctx p m meth c cX6_copy 8 ((some .int)) s args wsX6_copy RX6 E A) (a_t : Nat) (a_elements : Nat) (a_holds : Nat) (a_moved : Nat) (a_refused : Nat) (a_sizes : Nat) (a_now : Nat) (a_kept : Nat) (a_mind : Nat) (a_tape : Nat) (a_words : Nat) (a_wCell : Nat) (a_wFaces : Nat) (a_wTurns : Nat) (a_wSign : Nat) (a_wBy : Nat) (a_wFell : Nat) (a_telling : Nat) (a_above : Nat) (a_out : Nat) (a_first : Nat) (c_t : Nat → Int32) (c_holds : Nat → Int32) (c_sizes : Nat → Int32) (res : Int32 × (Nat → Int64) × (Nat → Int64) × (Nat → Int32)) (c_elements : Nat → Int64) (c_moved : Nat → Int64) (c_refused : Nat → Int32) (l1 : Int32) (l2 : Int32) (l3 : Int32) (l4 : Int32) (l5 : Int32) (ls : Array Slot) (H : Heap) (locs : List Loc) (h : f_X6_copy_b45 c_t c_holds c_sizes c_elements c_moved c_refused l1 l2 l3 l4 l5 = some res) (hP : va_P E.1 vwCl (W_X6_copy E a_t a_elements a_holds a_moved a_refused a_sizes a_now a_kept a_mind a_tape a_words a_wCell a_wFaces a_wTurns a_wSign a_wBy a_wFell a_telling a_above a_out a_first c_t c_elements c_holds c_moved c_refused c_sizes) H) (hD : va_D A (W_X6_copy E a_t a_elements a_holds a_moved a_refused a_sizes a_now a_kept a_mind a_tape a_words a_wCell a_wFaces a_wTurns a_wSign a_wBy a_wFell a_telling a_above a_out a_first c_t c_elements c_holds c_moved c_refused c_sizes)) (hS : va_S A s.heap H locs) (hl : lv_has ls 8 [(0, .ref a_t), (1, .int l1), (2, .int l2), (3, .int l3), (4, .int l4), (5, .int l5)]) : W p l e r_X6_copy s m args below meth c H locs 0 0 (MQ below (qI E A (res.1) (W_X6_copy E a_t a_elements a_holds a_moved a_refused a_sizes a_now a_kept a_mind a_tape a_words a_wCell a_wFaces a_wTurns a_wSign a_wBy a_wFell a_telling a_above a_out a_first c_t (res.2.1) c_holds (res.2.2.1) (res.2.2.2) c_sizes)) args s 0 0 A) (F0 m 45 ls []) := by
  obtain ⟨hx, hb, hml, hr, hlk, hown, hts, hG, hA⟩ := id X
  have hK := hG.1
  have hN := hG.2.1
  unfold f_X6_copy_b45 at h
  refine lv_iconst (v := (0 : Int32)) hx hb dX6_copy_45 (by decide) ?_
  exact w_X6_copy_b46 X a_t a_elements a_holds a_moved a_refused a_sizes a_now a_kept a_mind a_tape a_words a_wCell a_wFaces a_wTurns a_wSign a_wBy a_wFell a_telling a_above a_out a_first c_t c_holds c_sizes res c_elements c_moved c_refused l1 l2 l3 l4 l5 (0 : Int32) _ _ _ h hP hD hS (lv_sub hl [0, 1, 2, 3, 4, 5] rfl)
set_option maxRecDepth 100000 in
set_option maxHeartbeats 4000000 in
theorem w_X6_copy (X : Ctx p m meth c cX6_copy 8 ((some .int)) s args wsX6_copy RX6 E A) (a_t : Nat) (a_elements : Nat) (a_holds : Nat) (a_moved : Nat) (a_refused : Nat) (a_sizes : Nat) (a_now : Nat) (a_kept : Nat) (a_mind : Nat) (a_tape : Nat) (a_words : Nat) (a_wCell : Nat) (a_wFaces : Nat) (a_wTurns : Nat) (a_wSign : Nat) (a_wBy : Nat) (a_wFell : Nat) (a_telling : Nat) (a_above : Nat) (a_out : Nat) (a_first : Nat) (c_t : Nat → Int32) (c_holds : Nat → Int32) (c_sizes : Nat → Int32) (res : Int32 × (Nat → Int64) × (Nat → Int64) × (Nat → Int32)) (c_elements : Nat → Int64) (c_moved : Nat → Int64) (c_refused : Nat → Int32) (l1 : Int32) (l2 : Int32) (l3 : Int32) (l4 : Int32) (l5 : Int32) (ls : Array Slot) (H : Heap) (locs : List Loc) (h : f_X6_copy l1 l2 l3 l4 l5 c_t c_elements c_holds c_moved c_refused c_sizes = some res) (hP : va_P E.1 vwCl (W_X6_copy E a_t a_elements a_holds a_moved a_refused a_sizes a_now a_kept a_mind a_tape a_words a_wCell a_wFaces a_wTurns a_wSign a_wBy a_wFell a_telling a_above a_out a_first c_t c_elements c_holds c_moved c_refused c_sizes) H) (hD : va_D A (W_X6_copy E a_t a_elements a_holds a_moved a_refused a_sizes a_now a_kept a_mind a_tape a_words a_wCell a_wFaces a_wTurns a_wSign a_wBy a_wFell a_telling a_above a_out a_first c_t c_elements c_holds c_moved c_refused c_sizes)) (hS : va_S A s.heap H locs) (hl : lv_has ls 8 [(0, .ref a_t), (1, .int l1), (2, .int l2), (3, .int l3), (4, .int l4), (5, .int l5)]) : W p l e r_X6_copy s m args below meth c H locs 0 0 (MQ below (qI E A (res.1) (W_X6_copy E a_t a_elements a_holds a_moved a_refused a_sizes a_now a_kept a_mind a_tape a_words a_wCell a_wFaces a_wTurns a_wSign a_wBy a_wFell a_telling a_above a_out a_first c_t (res.2.1) c_holds (res.2.2.1) (res.2.2.2) c_sizes)) args s 0 0 A) (F0 m 0 ls []) := by
  obtain ⟨hx, hb, hml, hr, hlk, hown, hts, hG, hA⟩ := id X
  have hK := hG.1
  have hN := hG.2.1
  unfold f_X6_copy at h
  refine lv_iload_n hx hb dX6_copy_0 rfl (lv_at hl 1 rfl) ?_
  obtain ⟨v1, hv1, h⟩ := bind_of h
  refine after_i X (run_S X (c_X6_isShelf l E l1 H.size v1 hv1) (va_cwS 1 hts gX6_copy_X6_isShelf rfl rfl rfl hd_X6_isShelf ⟨(Nat.le_of_ble_eq_true rfl), (Nat.le_of_ble_eq_true rfl)⟩) hP hD hS [] rfl rfl hl.1 (rest := []) rfl rfl (Nat.le_of_ble_eq_true rfl) dX6_copy_1) hP hD hS [] rfl (ws1 := (W_X6_copy E a_t a_elements a_holds a_moved a_refused a_sizes a_now a_kept a_mind a_tape a_words a_wCell a_wFaces a_wTurns a_wSign a_wBy a_wFell a_telling a_above a_out a_first c_t c_elements c_holds c_moved c_refused c_sizes)) rfl (fun H locs hP hD hS => ?_)
  refine lv_if_eq (tgt := 14) hx hb dX6_copy_4 (by decide) (fun hc4 => ?_) (fun hc4 => ?_)
  · have h := if_t h hc4
    exact w_X6_copy_b14 X a_t a_elements a_holds a_moved a_refused a_sizes a_now a_kept a_mind a_tape a_words a_wCell a_wFaces a_wTurns a_wSign a_wBy a_wFell a_telling a_above a_out a_first c_t c_holds c_sizes res c_elements c_moved c_refused _ _ _ h hP hD hS (lv_sub hl [0] rfl)
  · have h := if_f h hc4
    refine lv_iload_n hx hb dX6_copy_7 rfl (lv_at hl 2 rfl) ?_
    obtain ⟨v2, hv2, h⟩ := bind_of h
    refine after_i X (run_S X (c_X6_isShelf l E l2 H.size v2 hv2) (va_cwS 1 hts gX6_copy_X6_isShelf rfl rfl rfl hd_X6_isShelf ⟨(Nat.le_of_ble_eq_true rfl), (Nat.le_of_ble_eq_true rfl)⟩) hP hD hS [] rfl rfl hl.1 (rest := []) rfl rfl (Nat.le_of_ble_eq_true rfl) dX6_copy_8) hP hD hS [] rfl (ws1 := (W_X6_copy E a_t a_elements a_holds a_moved a_refused a_sizes a_now a_kept a_mind a_tape a_words a_wCell a_wFaces a_wTurns a_wSign a_wBy a_wFell a_telling a_above a_out a_first c_t c_elements c_holds c_moved c_refused c_sizes)) rfl (fun H locs hP hD hS => ?_)
    refine lv_if_ne (tgt := 21) hx hb dX6_copy_11 (by decide) (fun hc11 => ?_) (fun hc11 => ?_)
    · have h := if_f h hc11
      refine lv_aload_n hx hb dX6_copy_21 rfl (lv_at hl 0 rfl) ?_
      refine va_get (D := E.1) (ci := 6) (v := .ref a_holds) (C := RX6) (T := TX6) (N := 26) hx hb hts iX6_copy_X6 hown hK hP 0 rfl rfl 19 (by decide) (hts (.fieldLink RX6 54 "LeftIsAgreedOnModel" "holds" "[I") (List.mem_of_getElem? (i := 1) rfl)) (fun _ h9 => h9) rfl dX6_copy_22 ?_
      refine lv_iload_n hx hb dX6_copy_25 rfl (lv_at hl 1 rfl) ?_
      obtain ⟨hz26, h⟩ := chk_of h
      refine ld_i X hP 2 rfl (inb.vp hz26) (v := (c_holds (l1).toNatClampNeg)) rfl dX6_copy_26 ?_
      refine lv_iconst (v := (-1 : Int32)) hx hb dX6_copy_27 (by decide) ?_
      refine lv_icmp_eq (tgt := 45) hx hb dX6_copy_28 (by decide) (fun hc28 => ?_) (fun hc28 => ?_)
      · have h := if_t h hc28
        exact w_X6_copy_b45 X a_t a_elements a_holds a_moved a_refused a_sizes a_now a_kept a_mind a_tape a_words a_wCell a_wFaces a_wTurns a_wSign a_wBy a_wFell a_telling a_above a_out a_first c_t c_holds c_sizes res c_elements c_moved c_refused l1 l2 l3 l4 l5 _ _ _ h hP hD hS (lv_sub hl [0, 1, 2, 3, 4, 5] rfl)
      · have h := if_f h hc28
        refine lv_aload_n hx hb dX6_copy_31 rfl (lv_at hl 0 rfl) ?_
        refine va_get (D := E.1) (ci := 6) (v := .ref a_holds) (C := RX6) (T := TX6) (N := 26) hx hb hts iX6_copy_X6 hown hK hP 0 rfl rfl 19 (by decide) (hts (.fieldLink RX6 54 "LeftIsAgreedOnModel" "holds" "[I") (List.mem_of_getElem? (i := 1) rfl)) (fun _ h9 => h9) rfl dX6_copy_32 ?_
        refine lv_iload_n hx hb dX6_copy_35 rfl (lv_at hl 2 rfl) ?_
        obtain ⟨hz36, h⟩ := chk_of h
        refine ld_i X hP 2 rfl (inb.vp hz36) (v := (c_holds (l2).toNatClampNeg)) rfl dX6_copy_36 ?_
        refine lv_iconst (v := (-1 : Int32)) hx hb dX6_copy_37 (by decide) ?_
        refine lv_icmp_eq (tgt := 45) hx hb dX6_copy_38 (by decide) (fun hc38 => ?_) (fun hc38 => ?_)
        · have h := if_t h hc38
          exact w_X6_copy_b45 X a_t a_elements a_holds a_moved a_refused a_sizes a_now a_kept a_mind a_tape a_words a_wCell a_wFaces a_wTurns a_wSign a_wBy a_wFell a_telling a_above a_out a_first c_t c_holds c_sizes res c_elements c_moved c_refused l1 l2 l3 l4 l5 _ _ _ h hP hD hS (lv_sub hl [0, 1, 2, 3, 4, 5] rfl)
        · have h := if_f h hc38
          refine lv_iconst (v := (1 : Int32)) hx hb dX6_copy_41 (by decide) ?_
          refine lv_goto (tgt := 46) hx hb dX6_copy_42 (by decide) ?_
          exact w_X6_copy_b46 X a_t a_elements a_holds a_moved a_refused a_sizes a_now a_kept a_mind a_tape a_words a_wCell a_wFaces a_wTurns a_wSign a_wBy a_wFell a_telling a_above a_out a_first c_t c_holds c_sizes res c_elements c_moved c_refused l1 l2 l3 l4 l5 (1 : Int32) _ _ _ h hP hD hS (lv_sub hl [0, 1, 2, 3, 4, 5] rfl)
    · have h := if_t h hc11
      exact w_X6_copy_b14 X a_t a_elements a_holds a_moved a_refused a_sizes a_now a_kept a_mind a_tape a_words a_wCell a_wFaces a_wTurns a_wSign a_wBy a_wFell a_telling a_above a_out a_first c_t c_holds c_sizes res c_elements c_moved c_refused _ _ _ h hP hD hS (lv_sub hl [0] rfl)
end
set_option maxRecDepth 100000 in
theorem c_X6_copy (l : Launch) (E : Env0) (a_t : Nat) (a_elements : Nat) (a_holds : Nat) (a_moved : Nat) (a_refused : Nat) (a_sizes : Nat) (a_now : Nat) (a_kept : Nat) (a_mind : Nat) (a_tape : Nat) (a_words : Nat) (a_wCell : Nat) (a_wFaces : Nat) (a_wTurns : Nat) (a_wSign : Nat) (a_wBy : Nat) (a_wFell : Nat) (a_telling : Nat) (a_above : Nat) (a_out : Nat) (a_first : Nat) (l1 : Int32) (l2 : Int32) (l3 : Int32) (l4 : Int32) (l5 : Int32) (c_t : Nat → Int32) (c_elements : Nat → Int64) (c_holds : Nat → Int32) (c_moved : Nat → Int64) (c_refused : Nat → Int32) (c_sizes : Nat → Int32) (sz : Nat) (res : Int32 × (Nat → Int64) × (Nat → Int64) × (Nat → Int32)) (h : f_X6_copy l1 l2 l3 l4 l5 c_t c_elements c_holds c_moved c_refused c_sizes = some res) : Met l yX6_copy wsX6_copy r_X6_copy (cPre E [.ref a_t, .int l1, .int l2, .int l3, .int l4, .int l5] (W_X6_copy E a_t a_elements a_holds a_moved a_refused a_sizes a_now a_kept a_mind a_tape a_words a_wCell a_wFaces a_wTurns a_wSign a_wBy a_wFell a_telling a_above a_out a_first c_t c_elements c_holds c_moved c_refused c_sizes) sz) (qI E (va_A (W_X6_copy E a_t a_elements a_holds a_moved a_refused a_sizes a_now a_kept a_mind a_tape a_words a_wCell a_wFaces a_wTurns a_wSign a_wBy a_wFell a_telling a_above a_out a_first c_t c_elements c_holds c_moved c_refused c_sizes) sz) (res.1) (W_X6_copy E a_t a_elements a_holds a_moved a_refused a_sizes a_now a_kept a_mind a_tape a_words a_wCell a_wFaces a_wTurns a_wSign a_wBy a_wFell a_telling a_above a_out a_first c_t (res.2.1) c_holds (res.2.2.1) (res.2.2.2) c_sizes)) 0 0 (va_A (W_X6_copy E a_t a_elements a_holds a_moved a_refused a_sizes a_now a_kept a_mind a_tape a_words a_wCell a_wFaces a_wTurns a_wSign a_wBy a_wFell a_telling a_above a_out a_first c_t c_elements c_holds c_moved c_refused c_sizes) sz) :=
  met_of (Qc := fun A => qI E A (res.1) (W_X6_copy E a_t a_elements a_holds a_moved a_refused a_sizes a_now a_kept a_mind a_tape a_words a_wCell a_wFaces a_wTurns a_wSign a_wBy a_wFell a_telling a_above a_out a_first c_t (res.2.1) c_holds (res.2.2.1) (res.2.2.2) c_sizes)) (by decide) rfl (Nat.le_of_ble_eq_true rfl) (fun p e s m args below meth c X hP hD hS ls hl => w_X6_copy X a_t a_elements a_holds a_moved a_refused a_sizes a_now a_kept a_mind a_tape a_words a_wCell a_wFaces a_wTurns a_wSign a_wBy a_wFell a_telling a_above a_out a_first c_t c_holds c_sizes res c_elements c_moved c_refused l1 l2 l3 l4 l5 ls _ _ h hP hD hS hl)
-- ===== X6_element
noncomputable abbrev W_X6_element (E : Env0) (a_t : Nat) (a_elements : Nat) (a_holds : Nat) (a_sizes : Nat) (a_refused : Nat) (a_now : Nat) (a_kept : Nat) (a_mind : Nat) (a_tape : Nat) (a_words : Nat) (a_wCell : Nat) (a_wFaces : Nat) (a_wTurns : Nat) (a_wSign : Nat) (a_wBy : Nat) (a_wFell : Nat) (a_telling : Nat) (a_moved : Nat) (a_above : Nat) (a_out : Nat) (a_first : Nat) (c_t : Nat → Int32) (c_elements : Nat → Int64) (c_holds : Nat → Int32) (c_sizes : Nat → Int32) : va_W := [(a_t, .inr (6, [.ref a_refused, .ref a_now, .ref a_kept, .ref a_mind, .int (c_t 4), .ref a_tape, .int (c_t 6), .int (c_t 7), .int (c_t 8), .int (c_t 9), .ref a_words, .ref a_wCell, .ref a_wFaces, .ref a_wTurns, .ref a_wSign, .ref a_wBy, .ref a_wFell, .int (c_t 17), .ref a_telling, .ref a_holds, .ref a_sizes, .ref a_elements, .ref a_moved, .ref a_above, .ref a_out, .ref a_first])), (a_elements, .inl (eJ E, 320, .inr (.inl c_elements))), (a_holds, .inl (eI E, 8, .inl c_holds)), (a_sizes, .inl (eI E, 8, .inl c_sizes))]
noncomputable abbrev r_X6_element : Room := { frames := 2, cells := 0, slots := 0, locals := 45 }
theorem hd_X6_element : yX6_element.cls ≠ "java/lang/invoke/MethodHandle" ∧ yX6_element.cls ≠ "java/lang/invoke/VarHandle" ∧ (parseMethodDescriptor yX6_element.desc).map (fun d => d.parameters.length) = some 2 := by decide +kernel
theorem hV_X6_element : yX6_element.cls = RX6 ∧ yX6_element.cls ≠ "java/lang/invoke/MethodHandle" ∧ yX6_element.cls ≠ "java/lang/invoke/VarHandle" ∧ (parseMethodDescriptor yX6_element.desc).map (fun d => d.parameters.length) = some 2 := ⟨rfl, hd_X6_element⟩
theorem iX6_element_X6 : ∀ w ∈ wsX60, w ∈ wsX6_element := fun _ h => List.mem_cons_of_mem _ (List.mem_append_right _ (h))
section
variable {p : Program} {l : Launch} {e : Env} {s : State} {m : MethodId} {args : Array Value} {below : List Frame} {meth : Method} {c : Code} {E : Env0} {A : Nat → Prop}
set_option maxRecDepth 100000 in
set_option maxHeartbeats 4000000 in
theorem w_X6_element_b56 (X : Ctx p m meth c cX6_element 3 ((some .long)) s args wsX6_element RX6 E A) (a_t : Nat) (a_elements : Nat) (a_holds : Nat) (a_sizes : Nat) (a_refused : Nat) (a_now : Nat) (a_kept : Nat) (a_mind : Nat) (a_tape : Nat) (a_words : Nat) (a_wCell : Nat) (a_wFaces : Nat) (a_wTurns : Nat) (a_wSign : Nat) (a_wBy : Nat) (a_wFell : Nat) (a_telling : Nat) (a_moved : Nat) (a_above : Nat) (a_out : Nat) (a_first : Nat) (c_t : Nat → Int32) (c_elements : Nat → Int64) (c_holds : Nat → Int32) (c_sizes : Nat → Int32) (res : Int64) (ls : Array Slot) (H : Heap) (locs : List Loc) (h : f_X6_element_b56 c_t c_elements c_holds c_sizes = some res) (hP : va_P E.1 vwCl (W_X6_element E a_t a_elements a_holds a_sizes a_refused a_now a_kept a_mind a_tape a_words a_wCell a_wFaces a_wTurns a_wSign a_wBy a_wFell a_telling a_moved a_above a_out a_first c_t c_elements c_holds c_sizes) H) (hD : va_D A (W_X6_element E a_t a_elements a_holds a_sizes a_refused a_now a_kept a_mind a_tape a_words a_wCell a_wFaces a_wTurns a_wSign a_wBy a_wFell a_telling a_moved a_above a_out a_first c_t c_elements c_holds c_sizes)) (hS : va_S A s.heap H locs) (hl : lv_has ls 3 []) : W p l e r_X6_element s m args below meth c H locs 0 0 (MQ below (qL E A res (W_X6_element E a_t a_elements a_holds a_sizes a_refused a_now a_kept a_mind a_tape a_words a_wCell a_wFaces a_wTurns a_wSign a_wBy a_wFell a_telling a_moved a_above a_out a_first c_t c_elements c_holds c_sizes)) args s 0 0 A) (F0 m 56 ls []) := by
  obtain ⟨hx, hb, hml, hr, hlk, hown, hts, hG, hA⟩ := id X
  have hK := hG.1
  have hN := hG.2.1
  unfold f_X6_element_b56 at h
  refine lv_lconst (v := (0 : Int64)) hx hb dX6_element_56 (by decide) ?_
  obtain rfl := Option.some.inj h
  exact ret_l X dX6_element_57 hP hD hS rfl
set_option maxRecDepth 100000 in
set_option maxHeartbeats 4000000 in
theorem w_X6_element (X : Ctx p m meth c cX6_element 3 ((some .long)) s args wsX6_element RX6 E A) (a_t : Nat) (a_elements : Nat) (a_holds : Nat) (a_sizes : Nat) (a_refused : Nat) (a_now : Nat) (a_kept : Nat) (a_mind : Nat) (a_tape : Nat) (a_words : Nat) (a_wCell : Nat) (a_wFaces : Nat) (a_wTurns : Nat) (a_wSign : Nat) (a_wBy : Nat) (a_wFell : Nat) (a_telling : Nat) (a_moved : Nat) (a_above : Nat) (a_out : Nat) (a_first : Nat) (c_t : Nat → Int32) (c_elements : Nat → Int64) (c_holds : Nat → Int32) (c_sizes : Nat → Int32) (res : Int64) (l1 : Int32) (l2 : Int32) (ls : Array Slot) (H : Heap) (locs : List Loc) (h : f_X6_element l1 l2 c_t c_elements c_holds c_sizes = some res) (hP : va_P E.1 vwCl (W_X6_element E a_t a_elements a_holds a_sizes a_refused a_now a_kept a_mind a_tape a_words a_wCell a_wFaces a_wTurns a_wSign a_wBy a_wFell a_telling a_moved a_above a_out a_first c_t c_elements c_holds c_sizes) H) (hD : va_D A (W_X6_element E a_t a_elements a_holds a_sizes a_refused a_now a_kept a_mind a_tape a_words a_wCell a_wFaces a_wTurns a_wSign a_wBy a_wFell a_telling a_moved a_above a_out a_first c_t c_elements c_holds c_sizes)) (hS : va_S A s.heap H locs) (hl : lv_has ls 3 [(0, .ref a_t), (1, .int l1), (2, .int l2)]) : W p l e r_X6_element s m args below meth c H locs 0 0 (MQ below (qL E A res (W_X6_element E a_t a_elements a_holds a_sizes a_refused a_now a_kept a_mind a_tape a_words a_wCell a_wFaces a_wTurns a_wSign a_wBy a_wFell a_telling a_moved a_above a_out a_first c_t c_elements c_holds c_sizes)) args s 0 0 A) (F0 m 0 ls []) := by
  obtain ⟨hx, hb, hml, hr, hlk, hown, hts, hG, hA⟩ := id X
  have hK := hG.1
  have hN := hG.2.1
  unfold f_X6_element at h
  refine lv_iload_n hx hb dX6_element_0 rfl (lv_at hl 1 rfl) ?_
  obtain ⟨v1, hv1, h⟩ := bind_of h
  refine after_i X (run_S X (c_X6_isShelf l E l1 H.size v1 hv1) (va_cwS 1 hts gX6_element_X6_isShelf rfl rfl rfl hd_X6_isShelf ⟨(Nat.le_of_ble_eq_true rfl), (Nat.le_of_ble_eq_true rfl)⟩) hP hD hS [] rfl rfl hl.1 (rest := []) rfl rfl (Nat.le_of_ble_eq_true rfl) dX6_element_1) hP hD hS [] rfl (ws1 := (W_X6_element E a_t a_elements a_holds a_sizes a_refused a_now a_kept a_mind a_tape a_words a_wCell a_wFaces a_wTurns a_wSign a_wBy a_wFell a_telling a_moved a_above a_out a_first c_t c_elements c_holds c_sizes)) rfl (fun H locs hP hD hS => ?_)
  refine lv_if_eq (tgt := 56) hx hb dX6_element_4 (by decide) (fun hc4 => ?_) (fun hc4 => ?_)
  · have h := if_t h hc4
    exact w_X6_element_b56 X a_t a_elements a_holds a_sizes a_refused a_now a_kept a_mind a_tape a_words a_wCell a_wFaces a_wTurns a_wSign a_wBy a_wFell a_telling a_moved a_above a_out a_first c_t c_elements c_holds c_sizes res _ _ _ h hP hD hS (lv_sub hl [] rfl)
  · have h := if_f h hc4
    refine lv_aload_n hx hb dX6_element_7 rfl (lv_at hl 0 rfl) ?_
    refine va_get (D := E.1) (ci := 6) (v := .ref a_holds) (C := RX6) (T := TX6) (N := 26) hx hb hts iX6_element_X6 hown hK hP 0 rfl rfl 19 (by decide) (hts (.fieldLink RX6 54 "LeftIsAgreedOnModel" "holds" "[I") (List.mem_of_getElem? (i := 1) rfl)) (fun _ h9 => h9) rfl dX6_element_8 ?_
    refine lv_iload_n hx hb dX6_element_11 rfl (lv_at hl 1 rfl) ?_
    obtain ⟨hz12, h⟩ := chk_of h
    refine ld_i X hP 2 rfl (inb.vp hz12) (v := (c_holds (l1).toNatClampNeg)) rfl dX6_element_12 ?_
    refine lv_i2l (v := ((c_holds (l1).toNatClampNeg).toInt64)) hx hb dX6_element_13 rfl ?_
    refine lv_lconst (v := (0 : Int64)) hx hb dX6_element_14 (by decide) ?_
    refine lv_ldc2 (v := (4 : Int64)) hx hb hown (hts (.constantLong RX6 206 (4)) (List.mem_of_getElem? (i := 2) rfl)) dX6_element_15 ?_
    obtain ⟨v2, hv2, h⟩ := bind_of h
    refine after_i X (run_S X (c_X6_isIn l E ((c_holds (l1).toNatClampNeg).toInt64) (0 : Int64) (4 : Int64) H.size v2 hv2) (va_cwS 3 hts gX6_element_X6_isIn rfl rfl rfl hd_X6_isIn ⟨(Nat.le_of_ble_eq_true rfl), (Nat.le_of_ble_eq_true rfl)⟩) hP hD hS [] rfl rfl hl.1 (rest := []) rfl rfl (Nat.le_of_ble_eq_true rfl) dX6_element_18) hP hD hS [] rfl (ws1 := (W_X6_element E a_t a_elements a_holds a_sizes a_refused a_now a_kept a_mind a_tape a_words a_wCell a_wFaces a_wTurns a_wSign a_wBy a_wFell a_telling a_moved a_above a_out a_first c_t c_elements c_holds c_sizes)) rfl (fun H locs hP hD hS => ?_)
    refine lv_if_eq (tgt := 56) hx hb dX6_element_21 (by decide) (fun hc21 => ?_) (fun hc21 => ?_)
    · have h := if_t h hc21
      exact w_X6_element_b56 X a_t a_elements a_holds a_sizes a_refused a_now a_kept a_mind a_tape a_words a_wCell a_wFaces a_wTurns a_wSign a_wBy a_wFell a_telling a_moved a_above a_out a_first c_t c_elements c_holds c_sizes res _ _ _ h hP hD hS (lv_sub hl [] rfl)
    · have h := if_f h hc21
      refine lv_iload_n hx hb dX6_element_24 rfl (lv_at hl 2 rfl) ?_
      refine lv_i2l (v := (l2.toInt64)) hx hb dX6_element_25 rfl ?_
      refine lv_lconst (v := (0 : Int64)) hx hb dX6_element_26 (by decide) ?_
      refine lv_aload_n hx hb dX6_element_27 rfl (lv_at hl 0 rfl) ?_
      refine va_get (D := E.1) (ci := 6) (v := .ref a_sizes) (C := RX6) (T := TX6) (N := 26) hx hb hts iX6_element_X6 hown hK hP 0 rfl rfl 20 (by decide) (hts (.fieldLink RX6 57 "LeftIsAgreedOnModel" "sizes" "[I") (List.mem_of_getElem? (i := 3) rfl)) (fun _ h9 => h9) rfl dX6_element_28 ?_
      refine lv_iload_n hx hb dX6_element_31 rfl (lv_at hl 1 rfl) ?_
      obtain ⟨hz32, h⟩ := chk_of h
      refine ld_i X hP 3 rfl (inb.vp hz32) (v := (c_sizes (l1).toNatClampNeg)) rfl dX6_element_32 ?_
      refine lv_iconst (v := (1 : Int32)) hx hb dX6_element_33 (by decide) ?_
      refine lv_isub hx hb dX6_element_34 ?_
      refine lv_i2l (v := (((c_sizes (l1).toNatClampNeg) - (1 : Int32)).toInt64)) hx hb dX6_element_35 rfl ?_
      obtain ⟨v3, hv3, h⟩ := bind_of h
      refine after_i X (run_S X (c_X6_isIn l E (l2.toInt64) (0 : Int64) (((c_sizes (l1).toNatClampNeg) - (1 : Int32)).toInt64) H.size v3 hv3) (va_cwS 3 hts gX6_element_X6_isIn rfl rfl rfl hd_X6_isIn ⟨(Nat.le_of_ble_eq_true rfl), (Nat.le_of_ble_eq_true rfl)⟩) hP hD hS [] rfl rfl hl.1 (rest := []) rfl rfl (Nat.le_of_ble_eq_true rfl) dX6_element_36) hP hD hS [] rfl (ws1 := (W_X6_element E a_t a_elements a_holds a_sizes a_refused a_now a_kept a_mind a_tape a_words a_wCell a_wFaces a_wTurns a_wSign a_wBy a_wFell a_telling a_moved a_above a_out a_first c_t c_elements c_holds c_sizes)) rfl (fun H locs hP hD hS => ?_)
      refine lv_if_eq (tgt := 56) hx hb dX6_element_39 (by decide) (fun hc39 => ?_) (fun hc39 => ?_)
      · have h := if_t h hc39
        exact w_X6_element_b56 X a_t a_elements a_holds a_sizes a_refused a_now a_kept a_mind a_tape a_words a_wCell a_wFaces a_wTurns a_wSign a_wBy a_wFell a_telling a_moved a_above a_out a_first c_t c_elements c_holds c_sizes res _ _ _ h hP hD hS (lv_sub hl [] rfl)
      · have h := if_f h hc39
        refine lv_aload_n hx hb dX6_element_42 rfl (lv_at hl 0 rfl) ?_
        refine va_get (D := E.1) (ci := 6) (v := .ref a_elements) (C := RX6) (T := TX6) (N := 26) hx hb hts iX6_element_X6 hown hK hP 0 rfl rfl 21 (by decide) (hts (.fieldLink RX6 60 "LeftIsAgreedOnModel" "elements" "[J") (List.mem_of_getElem? (i := 4) rfl)) (fun _ h9 => h9) rfl dX6_element_43 ?_
        refine lv_bipush (v := (40 : Int32)) hx hb dX6_element_46 (by decide) ?_
        refine lv_iload_n hx hb dX6_element_48 rfl (lv_at hl 1 rfl) ?_
        refine lv_imul hx hb dX6_element_49 ?_
        refine lv_iload_n hx hb dX6_element_50 rfl (lv_at hl 2 rfl) ?_
        refine lv_iadd hx hb dX6_element_51 ?_
        obtain ⟨hz52, h⟩ := chk_of h
        refine ld_l X hP 1 rfl (inb.vp hz52) (v := (c_elements ((((40 : Int32) * l1) + l2)).toNatClampNeg)) rfl dX6_element_52 ?_
        refine lv_goto (tgt := 57) hx hb dX6_element_53 (by decide) ?_
        obtain rfl := Option.some.inj h
        exact ret_l X dX6_element_57 hP hD hS rfl
end
set_option maxRecDepth 100000 in
theorem c_X6_element (l : Launch) (E : Env0) (a_t : Nat) (a_elements : Nat) (a_holds : Nat) (a_sizes : Nat) (a_refused : Nat) (a_now : Nat) (a_kept : Nat) (a_mind : Nat) (a_tape : Nat) (a_words : Nat) (a_wCell : Nat) (a_wFaces : Nat) (a_wTurns : Nat) (a_wSign : Nat) (a_wBy : Nat) (a_wFell : Nat) (a_telling : Nat) (a_moved : Nat) (a_above : Nat) (a_out : Nat) (a_first : Nat) (l1 : Int32) (l2 : Int32) (c_t : Nat → Int32) (c_elements : Nat → Int64) (c_holds : Nat → Int32) (c_sizes : Nat → Int32) (sz : Nat) (res : Int64) (h : f_X6_element l1 l2 c_t c_elements c_holds c_sizes = some res) : Met l yX6_element wsX6_element r_X6_element (cPre E [.ref a_t, .int l1, .int l2] (W_X6_element E a_t a_elements a_holds a_sizes a_refused a_now a_kept a_mind a_tape a_words a_wCell a_wFaces a_wTurns a_wSign a_wBy a_wFell a_telling a_moved a_above a_out a_first c_t c_elements c_holds c_sizes) sz) (qL E (va_A (W_X6_element E a_t a_elements a_holds a_sizes a_refused a_now a_kept a_mind a_tape a_words a_wCell a_wFaces a_wTurns a_wSign a_wBy a_wFell a_telling a_moved a_above a_out a_first c_t c_elements c_holds c_sizes) sz) res (W_X6_element E a_t a_elements a_holds a_sizes a_refused a_now a_kept a_mind a_tape a_words a_wCell a_wFaces a_wTurns a_wSign a_wBy a_wFell a_telling a_moved a_above a_out a_first c_t c_elements c_holds c_sizes)) 0 0 (va_A (W_X6_element E a_t a_elements a_holds a_sizes a_refused a_now a_kept a_mind a_tape a_words a_wCell a_wFaces a_wTurns a_wSign a_wBy a_wFell a_telling a_moved a_above a_out a_first c_t c_elements c_holds c_sizes) sz) :=
  met_of (Qc := fun A => qL E A res (W_X6_element E a_t a_elements a_holds a_sizes a_refused a_now a_kept a_mind a_tape a_words a_wCell a_wFaces a_wTurns a_wSign a_wBy a_wFell a_telling a_moved a_above a_out a_first c_t c_elements c_holds c_sizes)) (by decide) rfl (Nat.le_of_ble_eq_true rfl) (fun p e s m args below meth c X hP hD hS ls hl => w_X6_element X a_t a_elements a_holds a_sizes a_refused a_now a_kept a_mind a_tape a_words a_wCell a_wFaces a_wTurns a_wSign a_wBy a_wFell a_telling a_moved a_above a_out a_first c_t c_elements c_holds c_sizes res l1 l2 ls _ _ h hP hD hS hl)
-- ===== X6_holds
noncomputable abbrev W_X6_holds (E : Env0) (a_t : Nat) (a_holds : Nat) (a_refused : Nat) (a_now : Nat) (a_kept : Nat) (a_mind : Nat) (a_tape : Nat) (a_words : Nat) (a_wCell : Nat) (a_wFaces : Nat) (a_wTurns : Nat) (a_wSign : Nat) (a_wBy : Nat) (a_wFell : Nat) (a_telling : Nat) (a_sizes : Nat) (a_elements : Nat) (a_moved : Nat) (a_above : Nat) (a_out : Nat) (a_first : Nat) (c_t : Nat → Int32) (c_holds : Nat → Int32) : va_W := [(a_t, .inr (6, [.ref a_refused, .ref a_now, .ref a_kept, .ref a_mind, .int (c_t 4), .ref a_tape, .int (c_t 6), .int (c_t 7), .int (c_t 8), .int (c_t 9), .ref a_words, .ref a_wCell, .ref a_wFaces, .ref a_wTurns, .ref a_wSign, .ref a_wBy, .ref a_wFell, .int (c_t 17), .ref a_telling, .ref a_holds, .ref a_sizes, .ref a_elements, .ref a_moved, .ref a_above, .ref a_out, .ref a_first])), (a_holds, .inl (eI E, 8, .inl c_holds))]
noncomputable abbrev r_X6_holds : Room := { frames := 2, cells := 0, slots := 0, locals := 45 }
theorem hd_X6_holds : yX6_holds.cls ≠ "java/lang/invoke/MethodHandle" ∧ yX6_holds.cls ≠ "java/lang/invoke/VarHandle" ∧ (parseMethodDescriptor yX6_holds.desc).map (fun d => d.parameters.length) = some 1 := by decide +kernel
theorem hV_X6_holds : yX6_holds.cls = RX6 ∧ yX6_holds.cls ≠ "java/lang/invoke/MethodHandle" ∧ yX6_holds.cls ≠ "java/lang/invoke/VarHandle" ∧ (parseMethodDescriptor yX6_holds.desc).map (fun d => d.parameters.length) = some 1 := ⟨rfl, hd_X6_holds⟩
theorem iX6_holds_X6 : ∀ w ∈ wsX60, w ∈ wsX6_holds := fun _ h => List.mem_cons_of_mem _ (List.mem_append_right _ (h))
section
variable {p : Program} {l : Launch} {e : Env} {s : State} {m : MethodId} {args : Array Value} {below : List Frame} {meth : Method} {c : Code} {E : Env0} {A : Nat → Prop}
set_option maxRecDepth 100000 in
set_option maxHeartbeats 4000000 in
theorem w_X6_holds (X : Ctx p m meth c cX6_holds 2 ((some .int)) s args wsX6_holds RX6 E A) (a_t : Nat) (a_holds : Nat) (a_refused : Nat) (a_now : Nat) (a_kept : Nat) (a_mind : Nat) (a_tape : Nat) (a_words : Nat) (a_wCell : Nat) (a_wFaces : Nat) (a_wTurns : Nat) (a_wSign : Nat) (a_wBy : Nat) (a_wFell : Nat) (a_telling : Nat) (a_sizes : Nat) (a_elements : Nat) (a_moved : Nat) (a_above : Nat) (a_out : Nat) (a_first : Nat) (c_t : Nat → Int32) (c_holds : Nat → Int32) (res : Int32) (l1 : Int32) (ls : Array Slot) (H : Heap) (locs : List Loc) (h : f_X6_holds l1 c_t c_holds = some res) (hP : va_P E.1 vwCl (W_X6_holds E a_t a_holds a_refused a_now a_kept a_mind a_tape a_words a_wCell a_wFaces a_wTurns a_wSign a_wBy a_wFell a_telling a_sizes a_elements a_moved a_above a_out a_first c_t c_holds) H) (hD : va_D A (W_X6_holds E a_t a_holds a_refused a_now a_kept a_mind a_tape a_words a_wCell a_wFaces a_wTurns a_wSign a_wBy a_wFell a_telling a_sizes a_elements a_moved a_above a_out a_first c_t c_holds)) (hS : va_S A s.heap H locs) (hl : lv_has ls 2 [(0, .ref a_t), (1, .int l1)]) : W p l e r_X6_holds s m args below meth c H locs 0 0 (MQ below (qI E A res (W_X6_holds E a_t a_holds a_refused a_now a_kept a_mind a_tape a_words a_wCell a_wFaces a_wTurns a_wSign a_wBy a_wFell a_telling a_sizes a_elements a_moved a_above a_out a_first c_t c_holds)) args s 0 0 A) (F0 m 0 ls []) := by
  obtain ⟨hx, hb, hml, hr, hlk, hown, hts, hG, hA⟩ := id X
  have hK := hG.1
  have hN := hG.2.1
  unfold f_X6_holds at h
  refine lv_iload_n hx hb dX6_holds_0 rfl (lv_at hl 1 rfl) ?_
  obtain ⟨v1, hv1, h⟩ := bind_of h
  refine after_i X (run_S X (c_X6_isShelf l E l1 H.size v1 hv1) (va_cwS 1 hts gX6_holds_X6_isShelf rfl rfl rfl hd_X6_isShelf ⟨(Nat.le_of_ble_eq_true rfl), (Nat.le_of_ble_eq_true rfl)⟩) hP hD hS [] rfl rfl hl.1 (rest := []) rfl rfl (Nat.le_of_ble_eq_true rfl) dX6_holds_1) hP hD hS [] rfl (ws1 := (W_X6_holds E a_t a_holds a_refused a_now a_kept a_mind a_tape a_words a_wCell a_wFaces a_wTurns a_wSign a_wBy a_wFell a_telling a_sizes a_elements a_moved a_above a_out a_first c_t c_holds)) rfl (fun H locs hP hD hS => ?_)
  refine lv_if_eq (tgt := 16) hx hb dX6_holds_4 (by decide) (fun hc4 => ?_) (fun hc4 => ?_)
  · have h := if_t h hc4
    refine lv_iconst (v := (-1 : Int32)) hx hb dX6_holds_16 (by decide) ?_
    obtain rfl := Option.some.inj h
    exact ret_i X dX6_holds_17 hP hD hS rfl
  · have h := if_f h hc4
    refine lv_aload_n hx hb dX6_holds_7 rfl (lv_at hl 0 rfl) ?_
    refine va_get (D := E.1) (ci := 6) (v := .ref a_holds) (C := RX6) (T := TX6) (N := 26) hx hb hts iX6_holds_X6 hown hK hP 0 rfl rfl 19 (by decide) (hts (.fieldLink RX6 54 "LeftIsAgreedOnModel" "holds" "[I") (List.mem_of_getElem? (i := 1) rfl)) (fun _ h9 => h9) rfl dX6_holds_8 ?_
    refine lv_iload_n hx hb dX6_holds_11 rfl (lv_at hl 1 rfl) ?_
    obtain ⟨hz12, h⟩ := chk_of h
    refine ld_i X hP 1 rfl (inb.vp hz12) (v := (c_holds (l1).toNatClampNeg)) rfl dX6_holds_12 ?_
    refine lv_goto (tgt := 17) hx hb dX6_holds_13 (by decide) ?_
    obtain rfl := Option.some.inj h
    exact ret_i X dX6_holds_17 hP hD hS rfl
end
set_option maxRecDepth 100000 in
theorem c_X6_holds (l : Launch) (E : Env0) (a_t : Nat) (a_holds : Nat) (a_refused : Nat) (a_now : Nat) (a_kept : Nat) (a_mind : Nat) (a_tape : Nat) (a_words : Nat) (a_wCell : Nat) (a_wFaces : Nat) (a_wTurns : Nat) (a_wSign : Nat) (a_wBy : Nat) (a_wFell : Nat) (a_telling : Nat) (a_sizes : Nat) (a_elements : Nat) (a_moved : Nat) (a_above : Nat) (a_out : Nat) (a_first : Nat) (l1 : Int32) (c_t : Nat → Int32) (c_holds : Nat → Int32) (sz : Nat) (res : Int32) (h : f_X6_holds l1 c_t c_holds = some res) : Met l yX6_holds wsX6_holds r_X6_holds (cPre E [.ref a_t, .int l1] (W_X6_holds E a_t a_holds a_refused a_now a_kept a_mind a_tape a_words a_wCell a_wFaces a_wTurns a_wSign a_wBy a_wFell a_telling a_sizes a_elements a_moved a_above a_out a_first c_t c_holds) sz) (qI E (va_A (W_X6_holds E a_t a_holds a_refused a_now a_kept a_mind a_tape a_words a_wCell a_wFaces a_wTurns a_wSign a_wBy a_wFell a_telling a_sizes a_elements a_moved a_above a_out a_first c_t c_holds) sz) res (W_X6_holds E a_t a_holds a_refused a_now a_kept a_mind a_tape a_words a_wCell a_wFaces a_wTurns a_wSign a_wBy a_wFell a_telling a_sizes a_elements a_moved a_above a_out a_first c_t c_holds)) 0 0 (va_A (W_X6_holds E a_t a_holds a_refused a_now a_kept a_mind a_tape a_words a_wCell a_wFaces a_wTurns a_wSign a_wBy a_wFell a_telling a_sizes a_elements a_moved a_above a_out a_first c_t c_holds) sz) :=
  met_of (Qc := fun A => qI E A res (W_X6_holds E a_t a_holds a_refused a_now a_kept a_mind a_tape a_words a_wCell a_wFaces a_wTurns a_wSign a_wBy a_wFell a_telling a_sizes a_elements a_moved a_above a_out a_first c_t c_holds)) (by decide) rfl (Nat.le_of_ble_eq_true rfl) (fun p e s m args below meth c X hP hD hS ls hl => w_X6_holds X a_t a_holds a_refused a_now a_kept a_mind a_tape a_words a_wCell a_wFaces a_wTurns a_wSign a_wBy a_wFell a_telling a_sizes a_elements a_moved a_above a_out a_first c_t c_holds res l1 ls _ _ h hP hD hS hl)
