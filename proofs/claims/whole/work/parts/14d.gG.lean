-- ===== X6_back
noncomputable abbrev W_X6_back (E : Env0) (a_t : Nat) (a_holds : Nat) (a_kept : Nat) (a_now : Nat) (a_refused : Nat) (a_mind : Nat) (a_tape : Nat) (a_words : Nat) (a_wCell : Nat) (a_wFaces : Nat) (a_wTurns : Nat) (a_wSign : Nat) (a_wBy : Nat) (a_wFell : Nat) (a_telling : Nat) (a_sizes : Nat) (a_elements : Nat) (a_moved : Nat) (a_above : Nat) (a_out : Nat) (a_first : Nat) (c_t : Nat → Int32) (c_holds : Nat → Int32) (c_kept : Nat → Int32) (c_now : Nat → Int32) (c_refused : Nat → Int32) : va_W := [(a_t, .inr (6, [.ref a_refused, .ref a_now, .ref a_kept, .ref a_mind, .int (c_t 4), .ref a_tape, .int (c_t 6), .int (c_t 7), .int (c_t 8), .int (c_t 9), .ref a_words, .ref a_wCell, .ref a_wFaces, .ref a_wTurns, .ref a_wSign, .ref a_wBy, .ref a_wFell, .int (c_t 17), .ref a_telling, .ref a_holds, .ref a_sizes, .ref a_elements, .ref a_moved, .ref a_above, .ref a_out, .ref a_first])), (a_holds, .inl (eI E, 8, .inl c_holds)), (a_kept, .inl (eI E, 97, .inl c_kept)), (a_now, .inl (eI E, 97, .inl c_now)), (a_refused, .inl (eI E, 7, .inl c_refused))]
noncomputable abbrev r_X6_back : Room := { frames := 1, cells := 0, slots := 0, locals := 22 }
theorem hd_X6_back : yX6_back.cls ≠ "java/lang/invoke/MethodHandle" ∧ yX6_back.cls ≠ "java/lang/invoke/VarHandle" ∧ (parseMethodDescriptor yX6_back.desc).map (fun d => d.parameters.length) = some 0 := by decide +kernel
theorem hV_X6_back : yX6_back.cls = RX6 ∧ yX6_back.cls ≠ "java/lang/invoke/MethodHandle" ∧ yX6_back.cls ≠ "java/lang/invoke/VarHandle" ∧ (parseMethodDescriptor yX6_back.desc).map (fun d => d.parameters.length) = some 0 := ⟨rfl, hd_X6_back⟩
theorem iX6_back_X6 : ∀ w ∈ wsX60, w ∈ wsX6_back := fun _ h => List.mem_cons_of_mem _ (List.mem_append_right _ (h))
section
variable {p : Program} {l : Launch} {e : Env} {s : State} {m : MethodId} {args : Array Value} {below : List Frame} {meth : Method} {c : Code} {E : Env0} {A : Nat → Prop}
set_option maxRecDepth 100000 in
set_option maxHeartbeats 4000000 in
theorem w_X6_back_b64 (X : Ctx p m meth c cX6_back 2 ((some .int)) s args wsX6_back RX6 E A) (a_t : Nat) (a_holds : Nat) (a_kept : Nat) (a_now : Nat) (a_refused : Nat) (a_mind : Nat) (a_tape : Nat) (a_words : Nat) (a_wCell : Nat) (a_wFaces : Nat) (a_wTurns : Nat) (a_wSign : Nat) (a_wBy : Nat) (a_wFell : Nat) (a_telling : Nat) (a_sizes : Nat) (a_elements : Nat) (a_moved : Nat) (a_above : Nat) (a_out : Nat) (a_first : Nat) (c_t : Nat → Int32) (c_kept : Nat → Int32) (res : Int32 × (Nat → Int32) × (Nat → Int32) × (Nat → Int32)) (k27 : (Nat → Int32) → (Nat → Int32) → (Nat → Int32) → Int32 → Option (Int32 × (Nat → Int32) × (Nat → Int32) × (Nat → Int32))) (hk27 : ∀ (c_holds : Nat → Int32) (c_now : Nat → Int32) (c_refused : Nat → Int32) (l1 : Int32) (ls : Array Slot) (H : Heap) (locs : List Loc), k27 c_holds c_now c_refused l1 = some res → va_P E.1 vwCl (W_X6_back E a_t a_holds a_kept a_now a_refused a_mind a_tape a_words a_wCell a_wFaces a_wTurns a_wSign a_wBy a_wFell a_telling a_sizes a_elements a_moved a_above a_out a_first c_t c_holds c_kept c_now c_refused) H → va_D A (W_X6_back E a_t a_holds a_kept a_now a_refused a_mind a_tape a_words a_wCell a_wFaces a_wTurns a_wSign a_wBy a_wFell a_telling a_sizes a_elements a_moved a_above a_out a_first c_t c_holds c_kept c_now c_refused) → va_S A s.heap H locs → lv_has ls 2 [(0, .ref a_t), (1, .int l1)] → W p l e r_X6_back s m args below meth c H locs 0 0 (MQ below (qI E A (res.1) (W_X6_back E a_t a_holds a_kept a_now a_refused a_mind a_tape a_words a_wCell a_wFaces a_wTurns a_wSign a_wBy a_wFell a_telling a_sizes a_elements a_moved a_above a_out a_first c_t (res.2.1) c_kept (res.2.2.1) (res.2.2.2))) args s 0 0 A) (F0 m 27 ls [])) (c_holds : Nat → Int32) (c_now : Nat → Int32) (c_refused : Nat → Int32) (l1 : Int32) (s0 : Int32) (s1 : Int32) (ls : Array Slot) (H : Heap) (locs : List Loc) (h : f_X6_back_b64 c_t c_kept k27 c_holds c_now c_refused l1 s0 s1 = some res) (hP : va_P E.1 vwCl (W_X6_back E a_t a_holds a_kept a_now a_refused a_mind a_tape a_words a_wCell a_wFaces a_wTurns a_wSign a_wBy a_wFell a_telling a_sizes a_elements a_moved a_above a_out a_first c_t c_holds c_kept c_now c_refused) H) (hD : va_D A (W_X6_back E a_t a_holds a_kept a_now a_refused a_mind a_tape a_words a_wCell a_wFaces a_wTurns a_wSign a_wBy a_wFell a_telling a_sizes a_elements a_moved a_above a_out a_first c_t c_holds c_kept c_now c_refused)) (hS : va_S A s.heap H locs) (hl : lv_has ls 2 [(0, .ref a_t), (1, .int l1)]) : W p l e r_X6_back s m args below meth c H locs 0 0 (MQ below (qI E A (res.1) (W_X6_back E a_t a_holds a_kept a_now a_refused a_mind a_tape a_words a_wCell a_wFaces a_wTurns a_wSign a_wBy a_wFell a_telling a_sizes a_elements a_moved a_above a_out a_first c_t (res.2.1) c_kept (res.2.2.1) (res.2.2.2))) args s 0 0 A) (F0 m 64 ls [.int s0, .int s1, .ref a_holds]) := by
  obtain ⟨hx, hb, hml, hr, hlk, hown, hts, hG, hA⟩ := id X
  have hK := hG.1
  have hN := hG.2.1
  unfold f_X6_back_b64 at h
  obtain ⟨hz64, h⟩ := chk_of h
  refine st_i X hP hD hS 1 rfl (inb.vp hz64) (k := (s1).toNatClampNeg) rfl (ws1 := (W_X6_back E a_t a_holds a_kept a_now a_refused a_mind a_tape a_words a_wCell a_wFaces a_wTurns a_wSign a_wBy a_wFell a_telling a_sizes a_elements a_moved a_above a_out a_first c_t (upd c_holds ((s1).toNatClampNeg) s0) c_kept c_now c_refused)) rfl dX6_back_64 (fun H locs hP hD hS => ?_)
  refine lv_iinc (v := (l1 + (1 : Int32))) (lv' := [(1, .int (l1 + (1 : Int32))), (0, .ref a_t)]) hx hb dX6_back_65 hl (k := 1) rfl rfl (by decide) rfl (fun ls hl => ?_)
  refine lv_goto (tgt := 27) hx hb dX6_back_68 (by decide) ?_
  exact hk27 (upd c_holds ((s1).toNatClampNeg) s0) c_now c_refused (l1 + (1 : Int32)) _ _ _ h hP hD hS (lv_sub hl [1, 0] rfl)
set_option maxRecDepth 100000 in
set_option maxHeartbeats 4000000 in
theorem w_X6_back_b27 (X : Ctx p m meth c cX6_back 2 ((some .int)) s args wsX6_back RX6 E A) (a_t : Nat) (a_holds : Nat) (a_kept : Nat) (a_now : Nat) (a_refused : Nat) (a_mind : Nat) (a_tape : Nat) (a_words : Nat) (a_wCell : Nat) (a_wFaces : Nat) (a_wTurns : Nat) (a_wSign : Nat) (a_wBy : Nat) (a_wFell : Nat) (a_telling : Nat) (a_sizes : Nat) (a_elements : Nat) (a_moved : Nat) (a_above : Nat) (a_out : Nat) (a_first : Nat) (c_t : Nat → Int32) (c_kept : Nat → Int32) (res : Int32 × (Nat → Int32) × (Nat → Int32) × (Nat → Int32)) : ∀ (n : Nat) (c_holds : Nat → Int32) (c_now : Nat → Int32) (c_refused : Nat → Int32) (l1 : Int32) (ls : Array Slot) (H : Heap) (locs : List Loc), f_X6_back_b27 c_t c_kept n c_holds c_now c_refused l1 = some res → va_P E.1 vwCl (W_X6_back E a_t a_holds a_kept a_now a_refused a_mind a_tape a_words a_wCell a_wFaces a_wTurns a_wSign a_wBy a_wFell a_telling a_sizes a_elements a_moved a_above a_out a_first c_t c_holds c_kept c_now c_refused) H → va_D A (W_X6_back E a_t a_holds a_kept a_now a_refused a_mind a_tape a_words a_wCell a_wFaces a_wTurns a_wSign a_wBy a_wFell a_telling a_sizes a_elements a_moved a_above a_out a_first c_t c_holds c_kept c_now c_refused) → va_S A s.heap H locs → lv_has ls 2 [(0, .ref a_t), (1, .int l1)] → W p l e r_X6_back s m args below meth c H locs 0 0 (MQ below (qI E A (res.1) (W_X6_back E a_t a_holds a_kept a_now a_refused a_mind a_tape a_words a_wCell a_wFaces a_wTurns a_wSign a_wBy a_wFell a_telling a_sizes a_elements a_moved a_above a_out a_first c_t (res.2.1) c_kept (res.2.2.1) (res.2.2.2))) args s 0 0 A) (F0 m 27 ls []) := by
  obtain ⟨hx, hb, hml, hr, hlk, hown, hts, hG, hA⟩ := id X
  have hK := hG.1
  have hN := hG.2.1
  intro n
  induction n with
  | zero =>
    intro c_holds c_now c_refused l1 ls H locs h
    exact absurd (show (none : Option (Int32 × (Nat → Int32) × (Nat → Int32) × (Nat → Int32))) = some res from h) (by intro q; cases q)
  | succ n ih =>
    intro c_holds c_now c_refused l1 ls H locs h hP hD hS hl
    rw [f_X6_back_b27] at h
    refine lv_iload_n hx hb dX6_back_27 rfl (lv_at hl 1 rfl) ?_
    refine lv_bipush (v := (8 : Int32)) hx hb dX6_back_28 (by decide) ?_
    refine lv_icmp_ge (tgt := 71) hx hb dX6_back_30 (by decide) (fun hc30 => ?_) (fun hc30 => ?_)
    · have h := if_t h hc30
      refine lv_iconst (v := (1 : Int32)) hx hb dX6_back_71 (by decide) ?_
      obtain rfl := Option.some.inj h
      exact ret_i X dX6_back_72 hP hD hS rfl
    · have h := if_f h hc30
      refine lv_aload_n hx hb dX6_back_33 rfl (lv_at hl 0 rfl) ?_
      refine va_get (D := E.1) (ci := 6) (v := .ref a_holds) (C := RX6) (T := TX6) (N := 26) hx hb hts iX6_back_X6 hown hK hP 0 rfl rfl 19 (by decide) (hts (.fieldLink RX6 54 "LeftIsAgreedOnModel" "holds" "[I") (List.mem_of_getElem? (i := 4) rfl)) (fun _ h9 => h9) rfl dX6_back_34 ?_
      refine lv_iload_n hx hb dX6_back_37 rfl (lv_at hl 1 rfl) ?_
      refine lv_aload_n hx hb dX6_back_38 rfl (lv_at hl 0 rfl) ?_
      refine va_get (D := E.1) (ci := 6) (v := .ref a_holds) (C := RX6) (T := TX6) (N := 26) hx hb hts iX6_back_X6 hown hK hP 0 rfl rfl 19 (by decide) (hts (.fieldLink RX6 54 "LeftIsAgreedOnModel" "holds" "[I") (List.mem_of_getElem? (i := 4) rfl)) (fun _ h9 => h9) rfl dX6_back_39 ?_
      refine lv_iload_n hx hb dX6_back_42 rfl (lv_at hl 1 rfl) ?_
      obtain ⟨hz43, h⟩ := chk_of h
      refine ld_i X hP 1 rfl (inb.vp hz43) (v := (c_holds (l1).toNatClampNeg)) rfl dX6_back_43 ?_
      refine lv_bipush (v := (10 : Int32)) hx hb dX6_back_44 (by decide) ?_
      refine lv_aload_n hx hb dX6_back_46 rfl (lv_at hl 0 rfl) ?_
      obtain ⟨v1, hv1, h⟩ := bind_of h
      refine after_i X (run_V X (c_X6_many l E a_t a_now a_refused a_kept a_mind a_tape a_words a_wCell a_wFaces a_wTurns a_wSign a_wBy a_wFell a_telling a_holds a_sizes a_elements a_moved a_above a_out a_first c_t c_now H.size v1 hv1) (cwV 0 hts gX6_back_X6_many rfl rfl rfl hV_X6_many ⟨(Nat.le_of_ble_eq_true rfl), (Nat.le_of_ble_eq_true rfl)⟩) hP hD hS [0, 3] rfl rfl hl.1 (ci := 6) rfl rfl rfl (rest := [.int (10 : Int32), .int (c_holds (l1).toNatClampNeg), .int l1, .ref a_holds]) rfl rfl (Nat.le_of_ble_eq_true rfl) dX6_back_47) hP hD hS [0, 3] rfl (ws1 := (W_X6_back E a_t a_holds a_kept a_now a_refused a_mind a_tape a_words a_wCell a_wFaces a_wTurns a_wSign a_wBy a_wFell a_telling a_sizes a_elements a_moved a_above a_out a_first c_t c_holds c_kept c_now c_refused)) rfl (fun H locs hP hD hS => ?_)
      refine lv_iadd hx hb dX6_back_50 ?_
      refine lv_icmp_lt (tgt := 58) hx hb dX6_back_51 (by decide) (fun hc51 => ?_) (fun hc51 => ?_)
      · have h := if_t h hc51
        refine lv_aload_n hx hb dX6_back_58 rfl (lv_at hl 0 rfl) ?_
        refine va_get (D := E.1) (ci := 6) (v := .ref a_holds) (C := RX6) (T := TX6) (N := 26) hx hb hts iX6_back_X6 hown hK hP 0 rfl rfl 19 (by decide) (hts (.fieldLink RX6 54 "LeftIsAgreedOnModel" "holds" "[I") (List.mem_of_getElem? (i := 4) rfl)) (fun _ h9 => h9) rfl dX6_back_59 ?_
        refine lv_iload_n hx hb dX6_back_62 rfl (lv_at hl 1 rfl) ?_
        obtain ⟨hz63, h⟩ := chk_of h
        refine ld_i X hP 1 rfl (inb.vp hz63) (v := (c_holds (l1).toNatClampNeg)) rfl dX6_back_63 ?_
        exact w_X6_back_b64 X a_t a_holds a_kept a_now a_refused a_mind a_tape a_words a_wCell a_wFaces a_wTurns a_wSign a_wBy a_wFell a_telling a_sizes a_elements a_moved a_above a_out a_first c_t c_kept res (f_X6_back_b27 c_t c_kept n) ih c_holds c_now c_refused l1 (c_holds (l1).toNatClampNeg) l1 _ _ _ h hP hD hS (lv_sub hl [0, 1] rfl)
      · have h := if_f h hc51
        refine lv_iconst (v := (-1 : Int32)) hx hb dX6_back_54 (by decide) ?_
        refine lv_goto (tgt := 64) hx hb dX6_back_55 (by decide) ?_
        exact w_X6_back_b64 X a_t a_holds a_kept a_now a_refused a_mind a_tape a_words a_wCell a_wFaces a_wTurns a_wSign a_wBy a_wFell a_telling a_sizes a_elements a_moved a_above a_out a_first c_t c_kept res (f_X6_back_b27 c_t c_kept n) ih c_holds c_now c_refused l1 (-1 : Int32) l1 _ _ _ h hP hD hS (lv_sub hl [0, 1] rfl)
set_option maxRecDepth 100000 in
set_option maxHeartbeats 4000000 in
theorem w_X6_back (X : Ctx p m meth c cX6_back 2 ((some .int)) s args wsX6_back RX6 E A) (a_t : Nat) (a_holds : Nat) (a_kept : Nat) (a_now : Nat) (a_refused : Nat) (a_mind : Nat) (a_tape : Nat) (a_words : Nat) (a_wCell : Nat) (a_wFaces : Nat) (a_wTurns : Nat) (a_wSign : Nat) (a_wBy : Nat) (a_wFell : Nat) (a_telling : Nat) (a_sizes : Nat) (a_elements : Nat) (a_moved : Nat) (a_above : Nat) (a_out : Nat) (a_first : Nat) (c_t : Nat → Int32) (c_kept : Nat → Int32) (res : Int32 × (Nat → Int32) × (Nat → Int32) × (Nat → Int32)) (c_holds : Nat → Int32) (c_now : Nat → Int32) (c_refused : Nat → Int32) (ls : Array Slot) (H : Heap) (locs : List Loc) (h : f_X6_back c_t c_holds c_kept c_now c_refused = some res) (hP : va_P E.1 vwCl (W_X6_back E a_t a_holds a_kept a_now a_refused a_mind a_tape a_words a_wCell a_wFaces a_wTurns a_wSign a_wBy a_wFell a_telling a_sizes a_elements a_moved a_above a_out a_first c_t c_holds c_kept c_now c_refused) H) (hD : va_D A (W_X6_back E a_t a_holds a_kept a_now a_refused a_mind a_tape a_words a_wCell a_wFaces a_wTurns a_wSign a_wBy a_wFell a_telling a_sizes a_elements a_moved a_above a_out a_first c_t c_holds c_kept c_now c_refused)) (hS : va_S A s.heap H locs) (hl : lv_has ls 2 [(0, .ref a_t)]) : W p l e r_X6_back s m args below meth c H locs 0 0 (MQ below (qI E A (res.1) (W_X6_back E a_t a_holds a_kept a_now a_refused a_mind a_tape a_words a_wCell a_wFaces a_wTurns a_wSign a_wBy a_wFell a_telling a_sizes a_elements a_moved a_above a_out a_first c_t (res.2.1) c_kept (res.2.2.1) (res.2.2.2))) args s 0 0 A) (F0 m 0 ls []) := by
  obtain ⟨hx, hb, hml, hr, hlk, hown, hts, hG, hA⟩ := id X
  have hK := hG.1
  have hN := hG.2.1
  unfold f_X6_back at h
  refine lv_aload_n hx hb dX6_back_0 rfl (lv_at hl 0 rfl) ?_
  refine va_get (D := E.1) (ci := 6) (v := .int (c_t 4)) (C := RX6) (T := TX6) (N := 26) hx hb hts iX6_back_X6 hown hK hP 0 rfl rfl 4 (by decide) (hts (.fieldLink RX6 279 "LeftIsAgreedOnModel" "isKept" "Z") (List.mem_of_getElem? (i := 1) rfl)) (fun _ h9 => h9) rfl dX6_back_1 ?_
  refine lv_if_ne (tgt := 14) hx hb dX6_back_4 (by decide) (fun hc4 => ?_) (fun hc4 => ?_)
  · have h := if_f h hc4
    refine lv_aload_n hx hb dX6_back_14 rfl (lv_at hl 0 rfl) ?_
    refine va_get (D := E.1) (ci := 6) (v := .ref a_kept) (C := RX6) (T := TX6) (N := 26) hx hb hts iX6_back_X6 hown hK hP 0 rfl rfl 2 (by decide) (hts (.fieldLink RX6 20 "LeftIsAgreedOnModel" "kept" "[I") (List.mem_of_getElem? (i := 2) rfl)) (fun _ h9 => h9) rfl dX6_back_15 ?_
    refine lv_aload_n hx hb dX6_back_18 rfl (lv_at hl 0 rfl) ?_
    refine va_get (D := E.1) (ci := 6) (v := .ref a_now) (C := RX6) (T := TX6) (N := 26) hx hb hts iX6_back_X6 hown hK hP 0 rfl rfl 1 (by decide) (hts (.fieldLink RX6 17 "LeftIsAgreedOnModel" "now" "[I") (List.mem_of_getElem? (i := 3) rfl)) (fun _ h9 => h9) rfl dX6_back_19 ?_
    obtain ⟨v1, hv1, h⟩ := bind_of h
    refine after_v X (run_S X (c_X6_move l E a_kept a_now c_kept c_now H.size v1 hv1) (va_cwS 2 hts gX6_back_X6_move rfl rfl rfl hd_X6_move ⟨(Nat.le_of_ble_eq_true rfl), (Nat.le_of_ble_eq_true rfl)⟩) hP hD hS [2, 3] rfl rfl hl.1 (rest := []) rfl rfl (Nat.le_of_ble_eq_true rfl) dX6_back_22) hP hD hS [2, 3] rfl (ws1 := (W_X6_back E a_t a_holds a_kept a_now a_refused a_mind a_tape a_words a_wCell a_wFaces a_wTurns a_wSign a_wBy a_wFell a_telling a_sizes a_elements a_moved a_above a_out a_first c_t c_holds c_kept v1 c_refused)) rfl (fun H locs hP hD hS => ?_)
    refine lv_iconst (v := (0 : Int32)) hx hb dX6_back_25 (by decide) ?_
    refine lv_istore_n (lv' := [(1, .int (0 : Int32)), (0, .ref a_t)]) hx hb dX6_back_26 rfl hl (by decide) rfl (fun ls hl => ?_)
    exact w_X6_back_b27 X a_t a_holds a_kept a_now a_refused a_mind a_tape a_words a_wCell a_wFaces a_wTurns a_wSign a_wBy a_wFell a_telling a_sizes a_elements a_moved a_above a_out a_first c_t c_kept res FU c_holds v1 c_refused (0 : Int32) _ _ _ h hP hD hS (lv_sub hl [1, 0] rfl)
  · have h := if_t h hc4
    refine lv_aload_n hx hb dX6_back_7 rfl (lv_at hl 0 rfl) ?_
    refine lv_bipush (v := (-5 : Int32)) hx hb dX6_back_8 (by decide) ?_
    obtain ⟨v2, hv2, h⟩ := bind_of h
    refine after_i X (run_V X (c_X6_refuse l E a_t a_refused a_now a_kept a_mind a_tape a_words a_wCell a_wFaces a_wTurns a_wSign a_wBy a_wFell a_telling a_holds a_sizes a_elements a_moved a_above a_out a_first (-5 : Int32) c_t c_refused H.size v2 hv2) (cwV 1 hts gX6_back_X6_refuse rfl rfl rfl hV_X6_refuse ⟨(Nat.le_of_ble_eq_true rfl), (Nat.le_of_ble_eq_true rfl)⟩) hP hD hS [0, 4] rfl rfl hl.1 (ci := 6) rfl rfl rfl (rest := []) rfl rfl (Nat.le_of_ble_eq_true rfl) dX6_back_10) hP hD hS [0, 4] rfl (ws1 := (W_X6_back E a_t a_holds a_kept a_now a_refused a_mind a_tape a_words a_wCell a_wFaces a_wTurns a_wSign a_wBy a_wFell a_telling a_sizes a_elements a_moved a_above a_out a_first c_t c_holds c_kept c_now (v2.2))) rfl (fun H locs hP hD hS => ?_)
    obtain rfl := Option.some.inj h
    exact ret_i X dX6_back_13 hP hD hS rfl
end
set_option maxRecDepth 100000 in
theorem c_X6_back (l : Launch) (E : Env0) (a_t : Nat) (a_holds : Nat) (a_kept : Nat) (a_now : Nat) (a_refused : Nat) (a_mind : Nat) (a_tape : Nat) (a_words : Nat) (a_wCell : Nat) (a_wFaces : Nat) (a_wTurns : Nat) (a_wSign : Nat) (a_wBy : Nat) (a_wFell : Nat) (a_telling : Nat) (a_sizes : Nat) (a_elements : Nat) (a_moved : Nat) (a_above : Nat) (a_out : Nat) (a_first : Nat) (c_t : Nat → Int32) (c_holds : Nat → Int32) (c_kept : Nat → Int32) (c_now : Nat → Int32) (c_refused : Nat → Int32) (sz : Nat) (res : Int32 × (Nat → Int32) × (Nat → Int32) × (Nat → Int32)) (h : f_X6_back c_t c_holds c_kept c_now c_refused = some res) : Met l yX6_back wsX6_back r_X6_back (cPre E [.ref a_t] (W_X6_back E a_t a_holds a_kept a_now a_refused a_mind a_tape a_words a_wCell a_wFaces a_wTurns a_wSign a_wBy a_wFell a_telling a_sizes a_elements a_moved a_above a_out a_first c_t c_holds c_kept c_now c_refused) sz) (qI E (va_A (W_X6_back E a_t a_holds a_kept a_now a_refused a_mind a_tape a_words a_wCell a_wFaces a_wTurns a_wSign a_wBy a_wFell a_telling a_sizes a_elements a_moved a_above a_out a_first c_t c_holds c_kept c_now c_refused) sz) (res.1) (W_X6_back E a_t a_holds a_kept a_now a_refused a_mind a_tape a_words a_wCell a_wFaces a_wTurns a_wSign a_wBy a_wFell a_telling a_sizes a_elements a_moved a_above a_out a_first c_t (res.2.1) c_kept (res.2.2.1) (res.2.2.2))) 0 0 (va_A (W_X6_back E a_t a_holds a_kept a_now a_refused a_mind a_tape a_words a_wCell a_wFaces a_wTurns a_wSign a_wBy a_wFell a_telling a_sizes a_elements a_moved a_above a_out a_first c_t c_holds c_kept c_now c_refused) sz) :=
  met_of (Qc := fun A => qI E A (res.1) (W_X6_back E a_t a_holds a_kept a_now a_refused a_mind a_tape a_words a_wCell a_wFaces a_wTurns a_wSign a_wBy a_wFell a_telling a_sizes a_elements a_moved a_above a_out a_first c_t (res.2.1) c_kept (res.2.2.1) (res.2.2.2))) (by decide) rfl (Nat.le_of_ble_eq_true rfl) (fun p e s m args below meth c X hP hD hS ls hl => w_X6_back X a_t a_holds a_kept a_now a_refused a_mind a_tape a_words a_wCell a_wFaces a_wTurns a_wSign a_wBy a_wFell a_telling a_sizes a_elements a_moved a_above a_out a_first c_t c_kept res c_holds c_now c_refused ls _ _ h hP hD hS hl)
-- ===== X6_status
noncomputable abbrev W_X6_status (E : Env0) (a_t : Nat) (a_holds : Nat) (a_now : Nat) (a_refused : Nat) (a_kept : Nat) (a_mind : Nat) (a_tape : Nat) (a_words : Nat) (a_wCell : Nat) (a_wFaces : Nat) (a_wTurns : Nat) (a_wSign : Nat) (a_wBy : Nat) (a_wFell : Nat) (a_telling : Nat) (a_sizes : Nat) (a_elements : Nat) (a_moved : Nat) (a_above : Nat) (a_out : Nat) (a_first : Nat) (c_t : Nat → Int32) (c_holds : Nat → Int32) (c_now : Nat → Int32) (c_refused : Nat → Int32) : va_W := [(a_t, .inr (6, [.ref a_refused, .ref a_now, .ref a_kept, .ref a_mind, .int (c_t 4), .ref a_tape, .int (c_t 6), .int (c_t 7), .int (c_t 8), .int (c_t 9), .ref a_words, .ref a_wCell, .ref a_wFaces, .ref a_wTurns, .ref a_wSign, .ref a_wBy, .ref a_wFell, .int (c_t 17), .ref a_telling, .ref a_holds, .ref a_sizes, .ref a_elements, .ref a_moved, .ref a_above, .ref a_out, .ref a_first])), (a_holds, .inl (eI E, 8, .inl c_holds)), (a_now, .inl (eI E, 97, .inl c_now)), (a_refused, .inl (eI E, 7, .inl c_refused))]
noncomputable abbrev r_X6_status : Room := { frames := 1, cells := 0, slots := 0, locals := 25 }
theorem hd_X6_status : yX6_status.cls ≠ "java/lang/invoke/MethodHandle" ∧ yX6_status.cls ≠ "java/lang/invoke/VarHandle" ∧ (parseMethodDescriptor yX6_status.desc).map (fun d => d.parameters.length) = some 1 := by decide +kernel
theorem hV_X6_status : yX6_status.cls = RX6 ∧ yX6_status.cls ≠ "java/lang/invoke/MethodHandle" ∧ yX6_status.cls ≠ "java/lang/invoke/VarHandle" ∧ (parseMethodDescriptor yX6_status.desc).map (fun d => d.parameters.length) = some 1 := ⟨rfl, hd_X6_status⟩
theorem iX6_status_X6 : ∀ w ∈ wsX60, w ∈ wsX6_status := fun _ h => List.mem_cons_of_mem _ (List.mem_append_right _ (h))
section
variable {p : Program} {l : Launch} {e : Env} {s : State} {m : MethodId} {args : Array Value} {below : List Frame} {meth : Method} {c : Code} {E : Env0} {A : Nat → Prop}
set_option maxRecDepth 100000 in
set_option maxHeartbeats 4000000 in
theorem w_X6_status_b103 (X : Ctx p m meth c cX6_status 4 ((some .int)) s args wsX6_status RX6 E A) (a_t : Nat) (a_holds : Nat) (a_now : Nat) (a_refused : Nat) (a_kept : Nat) (a_mind : Nat) (a_tape : Nat) (a_words : Nat) (a_wCell : Nat) (a_wFaces : Nat) (a_wTurns : Nat) (a_wSign : Nat) (a_wBy : Nat) (a_wFell : Nat) (a_telling : Nat) (a_sizes : Nat) (a_elements : Nat) (a_moved : Nat) (a_above : Nat) (a_out : Nat) (a_first : Nat) (c_t : Nat → Int32) (c_holds : Nat → Int32) (c_now : Nat → Int32) (c_refused : Nat → Int32) (res : Int32) : ∀ (n : Nat) (l2 : Int32) (l3 : Int32) (ls : Array Slot) (H : Heap) (locs : List Loc), f_X6_status_b103 c_t c_holds c_now c_refused n l2 l3 = some res → va_P E.1 vwCl (W_X6_status E a_t a_holds a_now a_refused a_kept a_mind a_tape a_words a_wCell a_wFaces a_wTurns a_wSign a_wBy a_wFell a_telling a_sizes a_elements a_moved a_above a_out a_first c_t c_holds c_now c_refused) H → va_D A (W_X6_status E a_t a_holds a_now a_refused a_kept a_mind a_tape a_words a_wCell a_wFaces a_wTurns a_wSign a_wBy a_wFell a_telling a_sizes a_elements a_moved a_above a_out a_first c_t c_holds c_now c_refused) → va_S A s.heap H locs → lv_has ls 4 [(0, .ref a_t), (2, .int l2), (3, .int l3)] → W p l e r_X6_status s m args below meth c H locs 0 0 (MQ below (qI E A res (W_X6_status E a_t a_holds a_now a_refused a_kept a_mind a_tape a_words a_wCell a_wFaces a_wTurns a_wSign a_wBy a_wFell a_telling a_sizes a_elements a_moved a_above a_out a_first c_t c_holds c_now c_refused)) args s 0 0 A) (F0 m 103 ls []) := by
  obtain ⟨hx, hb, hml, hr, hlk, hown, hts, hG, hA⟩ := id X
  have hK := hG.1
  have hN := hG.2.1
  intro n
  induction n with
  | zero =>
    intro l2 l3 ls H locs h
    exact absurd (show (none : Option (Int32)) = some res from h) (by intro q; cases q)
  | succ n ih =>
    intro l2 l3 ls H locs h hP hD hS hl
    rw [f_X6_status_b103] at h
    refine lv_iload_n hx hb dX6_status_103 rfl (lv_at hl 2 rfl) ?_
    refine lv_bipush (v := (49 : Int32)) hx hb dX6_status_104 (by decide) ?_
    refine lv_icmp_ge (tgt := 127) hx hb dX6_status_106 (by decide) (fun hc106 => ?_) (fun hc106 => ?_)
    · have h := if_t h hc106
      refine lv_iload_n hx hb dX6_status_127 rfl (lv_at hl 1 rfl) ?_
      obtain rfl := Option.some.inj h
      exact ret_i X dX6_status_128 hP hD hS rfl
    · have h := if_f h hc106
      refine lv_iload_n hx hb dX6_status_109 rfl (lv_at hl 1 rfl) ?_
      refine lv_aload_n hx hb dX6_status_110 rfl (lv_at hl 0 rfl) ?_
      refine va_get (D := E.1) (ci := 6) (v := .ref a_now) (C := RX6) (T := TX6) (N := 26) hx hb hts iX6_status_X6 hown hK hP 0 rfl rfl 1 (by decide) (hts (.fieldLink RX6 17 "LeftIsAgreedOnModel" "now" "[I") (List.mem_of_getElem? (i := 4) rfl)) (fun _ h9 => h9) rfl dX6_status_111 ?_
      refine lv_bipush (v := (40 : Int32)) hx hb dX6_status_114 (by decide) ?_
      refine lv_iload_n hx hb dX6_status_116 rfl (lv_at hl 2 rfl) ?_
      refine lv_iadd hx hb dX6_status_117 ?_
      obtain ⟨hz118, h⟩ := chk_of h
      refine ld_i X hP 2 rfl (inb.vp hz118) (v := (c_now (((40 : Int32) + l3)).toNatClampNeg)) rfl dX6_status_118 ?_
      refine lv_iadd hx hb dX6_status_119 ?_
      refine lv_istore_n (lv' := [(2, .int (l2 + (c_now (((40 : Int32) + l3)).toNatClampNeg))), (0, .ref a_t), (3, .int l3)]) hx hb dX6_status_120 rfl hl (by decide) rfl (fun ls hl => ?_)
      refine lv_iinc (v := (l3 + (1 : Int32))) (lv' := [(3, .int (l3 + (1 : Int32))), (2, .int (l2 + (c_now (((40 : Int32) + l3)).toNatClampNeg))), (0, .ref a_t)]) hx hb dX6_status_121 hl (k := 2) rfl rfl (by decide) rfl (fun ls hl => ?_)
      refine lv_goto (tgt := 103) hx hb dX6_status_124 (by decide) ?_
      exact ih (l2 + (c_now (((40 : Int32) + l3)).toNatClampNeg)) (l3 + (1 : Int32)) _ _ _ h hP hD hS (lv_sub hl [2, 1, 0] rfl)
set_option maxRecDepth 100000 in
set_option maxHeartbeats 4000000 in
theorem w_X6_status_b179 (X : Ctx p m meth c cX6_status 4 ((some .int)) s args wsX6_status RX6 E A) (a_t : Nat) (a_holds : Nat) (a_now : Nat) (a_refused : Nat) (a_kept : Nat) (a_mind : Nat) (a_tape : Nat) (a_words : Nat) (a_wCell : Nat) (a_wFaces : Nat) (a_wTurns : Nat) (a_wSign : Nat) (a_wBy : Nat) (a_wFell : Nat) (a_telling : Nat) (a_sizes : Nat) (a_elements : Nat) (a_moved : Nat) (a_above : Nat) (a_out : Nat) (a_first : Nat) (c_t : Nat → Int32) (c_holds : Nat → Int32) (c_now : Nat → Int32) (c_refused : Nat → Int32) (res : Int32) (k157 : Int32 → Int32 → Option (Int32)) (hk157 : ∀ (l2 : Int32) (l3 : Int32) (ls : Array Slot) (H : Heap) (locs : List Loc), k157 l2 l3 = some res → va_P E.1 vwCl (W_X6_status E a_t a_holds a_now a_refused a_kept a_mind a_tape a_words a_wCell a_wFaces a_wTurns a_wSign a_wBy a_wFell a_telling a_sizes a_elements a_moved a_above a_out a_first c_t c_holds c_now c_refused) H → va_D A (W_X6_status E a_t a_holds a_now a_refused a_kept a_mind a_tape a_words a_wCell a_wFaces a_wTurns a_wSign a_wBy a_wFell a_telling a_sizes a_elements a_moved a_above a_out a_first c_t c_holds c_now c_refused) → va_S A s.heap H locs → lv_has ls 4 [(0, .ref a_t), (2, .int l2), (3, .int l3)] → W p l e r_X6_status s m args below meth c H locs 0 0 (MQ below (qI E A res (W_X6_status E a_t a_holds a_now a_refused a_kept a_mind a_tape a_words a_wCell a_wFaces a_wTurns a_wSign a_wBy a_wFell a_telling a_sizes a_elements a_moved a_above a_out a_first c_t c_holds c_now c_refused)) args s 0 0 A) (F0 m 157 ls [])) (l3 : Int32) (s0 : Int32) (s1 : Int32) (ls : Array Slot) (H : Heap) (locs : List Loc) (h : f_X6_status_b179 c_t c_holds c_now c_refused k157 l3 s0 s1 = some res) (hP : va_P E.1 vwCl (W_X6_status E a_t a_holds a_now a_refused a_kept a_mind a_tape a_words a_wCell a_wFaces a_wTurns a_wSign a_wBy a_wFell a_telling a_sizes a_elements a_moved a_above a_out a_first c_t c_holds c_now c_refused) H) (hD : va_D A (W_X6_status E a_t a_holds a_now a_refused a_kept a_mind a_tape a_words a_wCell a_wFaces a_wTurns a_wSign a_wBy a_wFell a_telling a_sizes a_elements a_moved a_above a_out a_first c_t c_holds c_now c_refused)) (hS : va_S A s.heap H locs) (hl : lv_has ls 4 [(0, .ref a_t), (3, .int l3)]) : W p l e r_X6_status s m args below meth c H locs 0 0 (MQ below (qI E A res (W_X6_status E a_t a_holds a_now a_refused a_kept a_mind a_tape a_words a_wCell a_wFaces a_wTurns a_wSign a_wBy a_wFell a_telling a_sizes a_elements a_moved a_above a_out a_first c_t c_holds c_now c_refused)) args s 0 0 A) (F0 m 179 ls [.int s0, .int s1]) := by
  obtain ⟨hx, hb, hml, hr, hlk, hown, hts, hG, hA⟩ := id X
  have hK := hG.1
  have hN := hG.2.1
  unfold f_X6_status_b179 at h
  refine lv_iadd hx hb dX6_status_179 ?_
  refine lv_istore_n (lv' := [(2, .int (s1 + s0)), (0, .ref a_t), (3, .int l3)]) hx hb dX6_status_180 rfl hl (by decide) rfl (fun ls hl => ?_)
  refine lv_iinc (v := (l3 + (1 : Int32))) (lv' := [(3, .int (l3 + (1 : Int32))), (2, .int (s1 + s0)), (0, .ref a_t)]) hx hb dX6_status_181 hl (k := 2) rfl rfl (by decide) rfl (fun ls hl => ?_)
  refine lv_goto (tgt := 157) hx hb dX6_status_184 (by decide) ?_
  exact hk157 (s1 + s0) (l3 + (1 : Int32)) _ _ _ h hP hD hS (lv_sub hl [2, 1, 0] rfl)
set_option maxRecDepth 100000 in
set_option maxHeartbeats 4000000 in
theorem w_X6_status_b157 (X : Ctx p m meth c cX6_status 4 ((some .int)) s args wsX6_status RX6 E A) (a_t : Nat) (a_holds : Nat) (a_now : Nat) (a_refused : Nat) (a_kept : Nat) (a_mind : Nat) (a_tape : Nat) (a_words : Nat) (a_wCell : Nat) (a_wFaces : Nat) (a_wTurns : Nat) (a_wSign : Nat) (a_wBy : Nat) (a_wFell : Nat) (a_telling : Nat) (a_sizes : Nat) (a_elements : Nat) (a_moved : Nat) (a_above : Nat) (a_out : Nat) (a_first : Nat) (c_t : Nat → Int32) (c_holds : Nat → Int32) (c_now : Nat → Int32) (c_refused : Nat → Int32) (res : Int32) : ∀ (n : Nat) (l2 : Int32) (l3 : Int32) (ls : Array Slot) (H : Heap) (locs : List Loc), f_X6_status_b157 c_t c_holds c_now c_refused n l2 l3 = some res → va_P E.1 vwCl (W_X6_status E a_t a_holds a_now a_refused a_kept a_mind a_tape a_words a_wCell a_wFaces a_wTurns a_wSign a_wBy a_wFell a_telling a_sizes a_elements a_moved a_above a_out a_first c_t c_holds c_now c_refused) H → va_D A (W_X6_status E a_t a_holds a_now a_refused a_kept a_mind a_tape a_words a_wCell a_wFaces a_wTurns a_wSign a_wBy a_wFell a_telling a_sizes a_elements a_moved a_above a_out a_first c_t c_holds c_now c_refused) → va_S A s.heap H locs → lv_has ls 4 [(0, .ref a_t), (2, .int l2), (3, .int l3)] → W p l e r_X6_status s m args below meth c H locs 0 0 (MQ below (qI E A res (W_X6_status E a_t a_holds a_now a_refused a_kept a_mind a_tape a_words a_wCell a_wFaces a_wTurns a_wSign a_wBy a_wFell a_telling a_sizes a_elements a_moved a_above a_out a_first c_t c_holds c_now c_refused)) args s 0 0 A) (F0 m 157 ls []) := by
  obtain ⟨hx, hb, hml, hr, hlk, hown, hts, hG, hA⟩ := id X
  have hK := hG.1
  have hN := hG.2.1
  intro n
  induction n with
  | zero =>
    intro l2 l3 ls H locs h
    exact absurd (show (none : Option (Int32)) = some res from h) (by intro q; cases q)
  | succ n ih =>
    intro l2 l3 ls H locs h hP hD hS hl
    rw [f_X6_status_b157] at h
    refine lv_iload_n hx hb dX6_status_157 rfl (lv_at hl 2 rfl) ?_
    refine lv_bipush (v := (8 : Int32)) hx hb dX6_status_158 (by decide) ?_
    refine lv_icmp_ge (tgt := 187) hx hb dX6_status_160 (by decide) (fun hc160 => ?_) (fun hc160 => ?_)
    · have h := if_t h hc160
      refine lv_iload_n hx hb dX6_status_187 rfl (lv_at hl 1 rfl) ?_
      obtain rfl := Option.some.inj h
      exact ret_i X dX6_status_188 hP hD hS rfl
    · have h := if_f h hc160
      refine lv_iload_n hx hb dX6_status_163 rfl (lv_at hl 1 rfl) ?_
      refine lv_aload_n hx hb dX6_status_164 rfl (lv_at hl 0 rfl) ?_
      refine va_get (D := E.1) (ci := 6) (v := .ref a_holds) (C := RX6) (T := TX6) (N := 26) hx hb hts iX6_status_X6 hown hK hP 0 rfl rfl 19 (by decide) (hts (.fieldLink RX6 54 "LeftIsAgreedOnModel" "holds" "[I") (List.mem_of_getElem? (i := 6) rfl)) (fun _ h9 => h9) rfl dX6_status_165 ?_
      refine lv_iload_n hx hb dX6_status_168 rfl (lv_at hl 2 rfl) ?_
      obtain ⟨hz169, h⟩ := chk_of h
      refine ld_i X hP 1 rfl (inb.vp hz169) (v := (c_holds (l3).toNatClampNeg)) rfl dX6_status_169 ?_
      refine lv_iconst (v := (-1 : Int32)) hx hb dX6_status_170 (by decide) ?_
      refine lv_icmp_ne (tgt := 178) hx hb dX6_status_171 (by decide) (fun hc171 => ?_) (fun hc171 => ?_)
      · have h := if_f h hc171
        refine lv_iconst (v := (1 : Int32)) hx hb dX6_status_178 (by decide) ?_
        exact w_X6_status_b179 X a_t a_holds a_now a_refused a_kept a_mind a_tape a_words a_wCell a_wFaces a_wTurns a_wSign a_wBy a_wFell a_telling a_sizes a_elements a_moved a_above a_out a_first c_t c_holds c_now c_refused res (f_X6_status_b157 c_t c_holds c_now c_refused n) ih l3 (1 : Int32) l2 _ _ _ h hP hD hS (lv_sub hl [0, 2] rfl)
      · have h := if_t h hc171
        refine lv_iconst (v := (0 : Int32)) hx hb dX6_status_174 (by decide) ?_
        refine lv_goto (tgt := 179) hx hb dX6_status_175 (by decide) ?_
        exact w_X6_status_b179 X a_t a_holds a_now a_refused a_kept a_mind a_tape a_words a_wCell a_wFaces a_wTurns a_wSign a_wBy a_wFell a_telling a_sizes a_elements a_moved a_above a_out a_first c_t c_holds c_now c_refused res (f_X6_status_b157 c_t c_holds c_now c_refused n) ih l3 (0 : Int32) l2 _ _ _ h hP hD hS (lv_sub hl [0, 2] rfl)
set_option maxRecDepth 100000 in
set_option maxHeartbeats 4000000 in
theorem w_X6_status (X : Ctx p m meth c cX6_status 4 ((some .int)) s args wsX6_status RX6 E A) (a_t : Nat) (a_holds : Nat) (a_now : Nat) (a_refused : Nat) (a_kept : Nat) (a_mind : Nat) (a_tape : Nat) (a_words : Nat) (a_wCell : Nat) (a_wFaces : Nat) (a_wTurns : Nat) (a_wSign : Nat) (a_wBy : Nat) (a_wFell : Nat) (a_telling : Nat) (a_sizes : Nat) (a_elements : Nat) (a_moved : Nat) (a_above : Nat) (a_out : Nat) (a_first : Nat) (c_t : Nat → Int32) (c_holds : Nat → Int32) (c_now : Nat → Int32) (c_refused : Nat → Int32) (res : Int32) (l1 : Int32) (ls : Array Slot) (H : Heap) (locs : List Loc) (h : f_X6_status l1 c_t c_holds c_now c_refused = some res) (hP : va_P E.1 vwCl (W_X6_status E a_t a_holds a_now a_refused a_kept a_mind a_tape a_words a_wCell a_wFaces a_wTurns a_wSign a_wBy a_wFell a_telling a_sizes a_elements a_moved a_above a_out a_first c_t c_holds c_now c_refused) H) (hD : va_D A (W_X6_status E a_t a_holds a_now a_refused a_kept a_mind a_tape a_words a_wCell a_wFaces a_wTurns a_wSign a_wBy a_wFell a_telling a_sizes a_elements a_moved a_above a_out a_first c_t c_holds c_now c_refused)) (hS : va_S A s.heap H locs) (hl : lv_has ls 4 [(0, .ref a_t), (1, .int l1)]) : W p l e r_X6_status s m args below meth c H locs 0 0 (MQ below (qI E A res (W_X6_status E a_t a_holds a_now a_refused a_kept a_mind a_tape a_words a_wCell a_wFaces a_wTurns a_wSign a_wBy a_wFell a_telling a_sizes a_elements a_moved a_above a_out a_first c_t c_holds c_now c_refused)) args s 0 0 A) (F0 m 0 ls []) := by
  obtain ⟨hx, hb, hml, hr, hlk, hown, hts, hG, hA⟩ := id X
  have hK := hG.1
  have hN := hG.2.1
  unfold f_X6_status at h
  refine lv_iload_n hx hb dX6_status_0 rfl (lv_at hl 1 rfl) ?_
  refine lv_i2l (v := (l1.toInt64)) hx hb dX6_status_1 rfl ?_
  refine lv_ldc2 (v := (12 : Int64)) hx hb hown (hts (.constantLong RX6 122 (12)) (List.mem_of_getElem? (i := 1) rfl)) dX6_status_2 ?_
  refine lv_ldc2 (v := (16 : Int64)) hx hb hown (hts (.constantLong RX6 283 (16)) (List.mem_of_getElem? (i := 2) rfl)) dX6_status_5 ?_
  obtain ⟨v1, hv1, h⟩ := bind_of h
  refine after_i X (run_S X (c_X6_isIn l E (l1.toInt64) (12 : Int64) (16 : Int64) H.size v1 hv1) (va_cwS 3 hts gX6_status_X6_isIn rfl rfl rfl hd_X6_isIn ⟨(Nat.le_of_ble_eq_true rfl), (Nat.le_of_ble_eq_true rfl)⟩) hP hD hS [] rfl rfl hl.1 (rest := []) rfl rfl (Nat.le_of_ble_eq_true rfl) dX6_status_8) hP hD hS [] rfl (ws1 := (W_X6_status E a_t a_holds a_now a_refused a_kept a_mind a_tape a_words a_wCell a_wFaces a_wTurns a_wSign a_wBy a_wFell a_telling a_sizes a_elements a_moved a_above a_out a_first c_t c_holds c_now c_refused)) rfl (fun H locs hP hD hS => ?_)
  refine lv_if_eq (tgt := 24) hx hb dX6_status_11 (by decide) (fun hc11 => ?_) (fun hc11 => ?_)
  · have h := if_t h hc11
    refine lv_iconst (v := (0 : Int32)) hx hb dX6_status_24 (by decide) ?_
    refine lv_istore_n (lv' := [(2, .int (0 : Int32)), (0, .ref a_t), (1, .int l1)]) hx hb dX6_status_25 rfl hl (by decide) rfl (fun ls hl => ?_)
    refine lv_iload_n hx hb dX6_status_26 rfl (lv_at hl 2 rfl) ?_
    by_cases hs27_0 : l1 = (0 : Int32)
    · have h := if_t h hs27_0
      refine lv_tableIn (off := (57)) (tgt := 84) hx hb dX6_status_27 (by rw [hs27_0]; decide) (by rw [hs27_0]; decide) (by rw [hs27_0]; rfl) (by decide) ?_
      refine lv_aload_n hx hb dX6_status_84 rfl (lv_at hl 1 rfl) ?_
      obtain ⟨v2, hv2, h⟩ := bind_of h
      refine after_i X (run_V X (c_X6_many l E a_t a_now a_refused a_kept a_mind a_tape a_words a_wCell a_wFaces a_wTurns a_wSign a_wBy a_wFell a_telling a_holds a_sizes a_elements a_moved a_above a_out a_first c_t c_now H.size v2 hv2) (cwV 0 hts gX6_status_X6_many rfl rfl rfl hV_X6_many ⟨(Nat.le_of_ble_eq_true rfl), (Nat.le_of_ble_eq_true rfl)⟩) hP hD hS [0, 2] rfl rfl hl.1 (ci := 6) rfl rfl rfl (rest := []) rfl rfl (Nat.le_of_ble_eq_true rfl) dX6_status_85) hP hD hS [0, 2] rfl (ws1 := (W_X6_status E a_t a_holds a_now a_refused a_kept a_mind a_tape a_words a_wCell a_wFaces a_wTurns a_wSign a_wBy a_wFell a_telling a_sizes a_elements a_moved a_above a_out a_first c_t c_holds c_now c_refused)) rfl (fun H locs hP hD hS => ?_)
      obtain rfl := Option.some.inj h
      exact ret_i X dX6_status_88 hP hD hS rfl
    · have h := if_f h hs27_0
      by_cases hs27_1 : l1 = (1 : Int32)
      · have h := if_t h hs27_1
        refine lv_tableIn (off := (62)) (tgt := 89) hx hb dX6_status_27 (by rw [hs27_1]; decide) (by rw [hs27_1]; decide) (by rw [hs27_1]; rfl) (by decide) ?_
        refine lv_aload_n hx hb dX6_status_89 rfl (lv_at hl 1 rfl) ?_
        refine va_get (D := E.1) (ci := 6) (v := .ref a_now) (C := RX6) (T := TX6) (N := 26) hx hb hts iX6_status_X6 hown hK hP 0 rfl rfl 1 (by decide) (hts (.fieldLink RX6 17 "LeftIsAgreedOnModel" "now" "[I") (List.mem_of_getElem? (i := 4) rfl)) (fun _ h9 => h9) rfl dX6_status_90 ?_
        refine lv_bipush (v := (90 : Int32)) hx hb dX6_status_93 (by decide) ?_
        refine lv_iload_n hx hb dX6_status_95 rfl (lv_at hl 2 rfl) ?_
        refine lv_iadd hx hb dX6_status_96 ?_
        refine lv_iconst (v := (1 : Int32)) hx hb dX6_status_97 (by decide) ?_
        refine lv_isub hx hb dX6_status_98 ?_
        obtain ⟨hz99, h⟩ := chk_of h
        refine ld_i X hP 2 rfl (inb.vp hz99) (v := (c_now ((((90 : Int32) + l1) - (1 : Int32))).toNatClampNeg)) rfl dX6_status_99 ?_
        obtain rfl := Option.some.inj h
        exact ret_i X dX6_status_100 hP hD hS rfl
      · have h := if_f h hs27_1
        by_cases hs27_2 : l1 = (2 : Int32)
        · have h := if_t h hs27_2
          refine lv_tableIn (off := (62)) (tgt := 89) hx hb dX6_status_27 (by rw [hs27_2]; decide) (by rw [hs27_2]; decide) (by rw [hs27_2]; rfl) (by decide) ?_
          refine lv_aload_n hx hb dX6_status_89 rfl (lv_at hl 1 rfl) ?_
          refine va_get (D := E.1) (ci := 6) (v := .ref a_now) (C := RX6) (T := TX6) (N := 26) hx hb hts iX6_status_X6 hown hK hP 0 rfl rfl 1 (by decide) (hts (.fieldLink RX6 17 "LeftIsAgreedOnModel" "now" "[I") (List.mem_of_getElem? (i := 4) rfl)) (fun _ h9 => h9) rfl dX6_status_90 ?_
          refine lv_bipush (v := (90 : Int32)) hx hb dX6_status_93 (by decide) ?_
          refine lv_iload_n hx hb dX6_status_95 rfl (lv_at hl 2 rfl) ?_
          refine lv_iadd hx hb dX6_status_96 ?_
          refine lv_iconst (v := (1 : Int32)) hx hb dX6_status_97 (by decide) ?_
          refine lv_isub hx hb dX6_status_98 ?_
          obtain ⟨hz99, h⟩ := chk_of h
          refine ld_i X hP 2 rfl (inb.vp hz99) (v := (c_now ((((90 : Int32) + l1) - (1 : Int32))).toNatClampNeg)) rfl dX6_status_99 ?_
          obtain rfl := Option.some.inj h
          exact ret_i X dX6_status_100 hP hD hS rfl
        · have h := if_f h hs27_2
          by_cases hs27_3 : l1 = (3 : Int32)
          · have h := if_t h hs27_3
            refine lv_tableIn (off := (62)) (tgt := 89) hx hb dX6_status_27 (by rw [hs27_3]; decide) (by rw [hs27_3]; decide) (by rw [hs27_3]; rfl) (by decide) ?_
            refine lv_aload_n hx hb dX6_status_89 rfl (lv_at hl 1 rfl) ?_
            refine va_get (D := E.1) (ci := 6) (v := .ref a_now) (C := RX6) (T := TX6) (N := 26) hx hb hts iX6_status_X6 hown hK hP 0 rfl rfl 1 (by decide) (hts (.fieldLink RX6 17 "LeftIsAgreedOnModel" "now" "[I") (List.mem_of_getElem? (i := 4) rfl)) (fun _ h9 => h9) rfl dX6_status_90 ?_
            refine lv_bipush (v := (90 : Int32)) hx hb dX6_status_93 (by decide) ?_
            refine lv_iload_n hx hb dX6_status_95 rfl (lv_at hl 2 rfl) ?_
            refine lv_iadd hx hb dX6_status_96 ?_
            refine lv_iconst (v := (1 : Int32)) hx hb dX6_status_97 (by decide) ?_
            refine lv_isub hx hb dX6_status_98 ?_
            obtain ⟨hz99, h⟩ := chk_of h
            refine ld_i X hP 2 rfl (inb.vp hz99) (v := (c_now ((((90 : Int32) + l1) - (1 : Int32))).toNatClampNeg)) rfl dX6_status_99 ?_
            obtain rfl := Option.some.inj h
            exact ret_i X dX6_status_100 hP hD hS rfl
          · have h := if_f h hs27_3
            by_cases hs27_4 : l1 = (4 : Int32)
            · have h := if_t h hs27_4
              refine lv_tableIn (off := (62)) (tgt := 89) hx hb dX6_status_27 (by rw [hs27_4]; decide) (by rw [hs27_4]; decide) (by rw [hs27_4]; rfl) (by decide) ?_
              refine lv_aload_n hx hb dX6_status_89 rfl (lv_at hl 1 rfl) ?_
              refine va_get (D := E.1) (ci := 6) (v := .ref a_now) (C := RX6) (T := TX6) (N := 26) hx hb hts iX6_status_X6 hown hK hP 0 rfl rfl 1 (by decide) (hts (.fieldLink RX6 17 "LeftIsAgreedOnModel" "now" "[I") (List.mem_of_getElem? (i := 4) rfl)) (fun _ h9 => h9) rfl dX6_status_90 ?_
              refine lv_bipush (v := (90 : Int32)) hx hb dX6_status_93 (by decide) ?_
              refine lv_iload_n hx hb dX6_status_95 rfl (lv_at hl 2 rfl) ?_
              refine lv_iadd hx hb dX6_status_96 ?_
              refine lv_iconst (v := (1 : Int32)) hx hb dX6_status_97 (by decide) ?_
              refine lv_isub hx hb dX6_status_98 ?_
              obtain ⟨hz99, h⟩ := chk_of h
              refine ld_i X hP 2 rfl (inb.vp hz99) (v := (c_now ((((90 : Int32) + l1) - (1 : Int32))).toNatClampNeg)) rfl dX6_status_99 ?_
              obtain rfl := Option.some.inj h
              exact ret_i X dX6_status_100 hP hD hS rfl
            · have h := if_f h hs27_4
              by_cases hs27_5 : l1 = (5 : Int32)
              · have h := if_t h hs27_5
                refine lv_tableIn (off := (74)) (tgt := 101) hx hb dX6_status_27 (by rw [hs27_5]; decide) (by rw [hs27_5]; decide) (by rw [hs27_5]; rfl) (by decide) ?_
                refine lv_iconst (v := (0 : Int32)) hx hb dX6_status_101 (by decide) ?_
                refine lv_istore_n (lv' := [(3, .int (0 : Int32)), (2, .int (0 : Int32)), (0, .ref a_t), (1, .int l1)]) hx hb dX6_status_102 rfl hl (by decide) rfl (fun ls hl => ?_)
                exact w_X6_status_b103 X a_t a_holds a_now a_refused a_kept a_mind a_tape a_words a_wCell a_wFaces a_wTurns a_wSign a_wBy a_wFell a_telling a_sizes a_elements a_moved a_above a_out a_first c_t c_holds c_now c_refused res FU (0 : Int32) (0 : Int32) _ _ _ h hP hD hS (lv_sub hl [2, 1, 0] rfl)
              · have h := if_f h hs27_5
                by_cases hs27_6 : l1 = (6 : Int32)
                · have h := if_t h hs27_6
                  refine lv_tableIn (off := (102)) (tgt := 129) hx hb dX6_status_27 (by rw [hs27_6]; decide) (by rw [hs27_6]; decide) (by rw [hs27_6]; rfl) (by decide) ?_
                  refine lv_aload_n hx hb dX6_status_129 rfl (lv_at hl 1 rfl) ?_
                  refine va_get (D := E.1) (ci := 6) (v := .ref a_now) (C := RX6) (T := TX6) (N := 26) hx hb hts iX6_status_X6 hown hK hP 0 rfl rfl 1 (by decide) (hts (.fieldLink RX6 17 "LeftIsAgreedOnModel" "now" "[I") (List.mem_of_getElem? (i := 4) rfl)) (fun _ h9 => h9) rfl dX6_status_130 ?_
                  refine lv_bipush (v := (94 : Int32)) hx hb dX6_status_133 (by decide) ?_
                  refine lv_iload_n hx hb dX6_status_135 rfl (lv_at hl 2 rfl) ?_
                  refine lv_iadd hx hb dX6_status_136 ?_
                  refine lv_bipush (v := (6 : Int32)) hx hb dX6_status_137 (by decide) ?_
                  refine lv_isub hx hb dX6_status_139 ?_
                  obtain ⟨hz140, h⟩ := chk_of h
                  refine ld_i X hP 2 rfl (inb.vp hz140) (v := (c_now ((((94 : Int32) + l1) - (6 : Int32))).toNatClampNeg)) rfl dX6_status_140 ?_
                  obtain rfl := Option.some.inj h
                  exact ret_i X dX6_status_141 hP hD hS rfl
                · have h := if_f h hs27_6
                  by_cases hs27_7 : l1 = (7 : Int32)
                  · have h := if_t h hs27_7
                    refine lv_tableIn (off := (102)) (tgt := 129) hx hb dX6_status_27 (by rw [hs27_7]; decide) (by rw [hs27_7]; decide) (by rw [hs27_7]; rfl) (by decide) ?_
                    refine lv_aload_n hx hb dX6_status_129 rfl (lv_at hl 1 rfl) ?_
                    refine va_get (D := E.1) (ci := 6) (v := .ref a_now) (C := RX6) (T := TX6) (N := 26) hx hb hts iX6_status_X6 hown hK hP 0 rfl rfl 1 (by decide) (hts (.fieldLink RX6 17 "LeftIsAgreedOnModel" "now" "[I") (List.mem_of_getElem? (i := 4) rfl)) (fun _ h9 => h9) rfl dX6_status_130 ?_
                    refine lv_bipush (v := (94 : Int32)) hx hb dX6_status_133 (by decide) ?_
                    refine lv_iload_n hx hb dX6_status_135 rfl (lv_at hl 2 rfl) ?_
                    refine lv_iadd hx hb dX6_status_136 ?_
                    refine lv_bipush (v := (6 : Int32)) hx hb dX6_status_137 (by decide) ?_
                    refine lv_isub hx hb dX6_status_139 ?_
                    obtain ⟨hz140, h⟩ := chk_of h
                    refine ld_i X hP 2 rfl (inb.vp hz140) (v := (c_now ((((94 : Int32) + l1) - (6 : Int32))).toNatClampNeg)) rfl dX6_status_140 ?_
                    obtain rfl := Option.some.inj h
                    exact ret_i X dX6_status_141 hP hD hS rfl
                  · have h := if_f h hs27_7
                    by_cases hs27_8 : l1 = (8 : Int32)
                    · have h := if_t h hs27_8
                      refine lv_tableIn (off := (115)) (tgt := 142) hx hb dX6_status_27 (by rw [hs27_8]; decide) (by rw [hs27_8]; decide) (by rw [hs27_8]; rfl) (by decide) ?_
                      refine lv_aload_n hx hb dX6_status_142 rfl (lv_at hl 1 rfl) ?_
                      refine va_get (D := E.1) (ci := 6) (v := .int (c_t 6)) (C := RX6) (T := TX6) (N := 26) hx hb hts iX6_status_X6 hown hK hP 0 rfl rfl 6 (by decide) (hts (.fieldLink RX6 132 "LeftIsAgreedOnModel" "size" "I") (List.mem_of_getElem? (i := 5) rfl)) (fun _ h9 => h9) rfl dX6_status_143 ?_
                      obtain rfl := Option.some.inj h
                      exact ret_i X dX6_status_146 hP hD hS rfl
                    · have h := if_f h hs27_8
                      by_cases hs27_9 : l1 = (9 : Int32)
                      · have h := if_t h hs27_9
                        refine lv_tableIn (off := (120)) (tgt := 147) hx hb dX6_status_27 (by rw [hs27_9]; decide) (by rw [hs27_9]; decide) (by rw [hs27_9]; rfl) (by decide) ?_
                        refine lv_aload_n hx hb dX6_status_147 rfl (lv_at hl 1 rfl) ?_
                        refine va_get (D := E.1) (ci := 6) (v := .ref a_now) (C := RX6) (T := TX6) (N := 26) hx hb hts iX6_status_X6 hown hK hP 0 rfl rfl 1 (by decide) (hts (.fieldLink RX6 17 "LeftIsAgreedOnModel" "now" "[I") (List.mem_of_getElem? (i := 4) rfl)) (fun _ h9 => h9) rfl dX6_status_148 ?_
                        refine lv_bipush (v := (96 : Int32)) hx hb dX6_status_151 (by decide) ?_
                        refine ld_i X hP 2 rfl (inb.vp (by decide)) (v := (c_now 96)) rfl dX6_status_153 ?_
                        obtain rfl := Option.some.inj h
                        exact ret_i X dX6_status_154 hP hD hS rfl
                      · have h := if_f h hs27_9
                        by_cases hs27_10 : l1 = (10 : Int32)
                        · have h := if_t h hs27_10
                          refine lv_tableIn (off := (128)) (tgt := 155) hx hb dX6_status_27 (by rw [hs27_10]; decide) (by rw [hs27_10]; decide) (by rw [hs27_10]; rfl) (by decide) ?_
                          refine lv_iconst (v := (0 : Int32)) hx hb dX6_status_155 (by decide) ?_
                          refine lv_istore_n (lv' := [(3, .int (0 : Int32)), (2, .int (0 : Int32)), (0, .ref a_t), (1, .int l1)]) hx hb dX6_status_156 rfl hl (by decide) rfl (fun ls hl => ?_)
                          exact w_X6_status_b157 X a_t a_holds a_now a_refused a_kept a_mind a_tape a_words a_wCell a_wFaces a_wTurns a_wSign a_wBy a_wFell a_telling a_sizes a_elements a_moved a_above a_out a_first c_t c_holds c_now c_refused res FU (0 : Int32) (0 : Int32) _ _ _ h hP hD hS (lv_sub hl [2, 1, 0] rfl)
                        · have h := if_f h hs27_10
                          refine lv_tableOut (tgt := 189) hx hb dX6_status_27 (tsw_0_10 hs27_0 hs27_1 hs27_2 hs27_3 hs27_4 hs27_5 hs27_6 hs27_7 hs27_8 hs27_9 hs27_10) (by decide) ?_
                          refine lv_iconst (v := (-1 : Int32)) hx hb dX6_status_189 (by decide) ?_
                          obtain rfl := Option.some.inj h
                          exact ret_i X dX6_status_190 hP hD hS rfl
  · have h := if_f h hc11
    refine lv_aload_n hx hb dX6_status_14 rfl (lv_at hl 0 rfl) ?_
    refine va_get (D := E.1) (ci := 6) (v := .ref a_refused) (C := RX6) (T := TX6) (N := 26) hx hb hts iX6_status_X6 hown hK hP 0 rfl rfl 0 (by decide) (hts (.fieldLink RX6 7 "LeftIsAgreedOnModel" "refused" "[I") (List.mem_of_getElem? (i := 3) rfl)) (fun _ h9 => h9) rfl dX6_status_15 ?_
    refine lv_iload_n hx hb dX6_status_18 rfl (lv_at hl 1 rfl) ?_
    refine lv_bipush (v := (10 : Int32)) hx hb dX6_status_19 (by decide) ?_
    refine lv_isub hx hb dX6_status_21 ?_
    obtain ⟨hz22, h⟩ := chk_of h
    refine ld_i X hP 3 rfl (inb.vp hz22) (v := (c_refused ((l1 - (10 : Int32))).toNatClampNeg)) rfl dX6_status_22 ?_
    obtain rfl := Option.some.inj h
    exact ret_i X dX6_status_23 hP hD hS rfl
end
set_option maxRecDepth 100000 in
theorem c_X6_status (l : Launch) (E : Env0) (a_t : Nat) (a_holds : Nat) (a_now : Nat) (a_refused : Nat) (a_kept : Nat) (a_mind : Nat) (a_tape : Nat) (a_words : Nat) (a_wCell : Nat) (a_wFaces : Nat) (a_wTurns : Nat) (a_wSign : Nat) (a_wBy : Nat) (a_wFell : Nat) (a_telling : Nat) (a_sizes : Nat) (a_elements : Nat) (a_moved : Nat) (a_above : Nat) (a_out : Nat) (a_first : Nat) (l1 : Int32) (c_t : Nat → Int32) (c_holds : Nat → Int32) (c_now : Nat → Int32) (c_refused : Nat → Int32) (sz : Nat) (res : Int32) (h : f_X6_status l1 c_t c_holds c_now c_refused = some res) : Met l yX6_status wsX6_status r_X6_status (cPre E [.ref a_t, .int l1] (W_X6_status E a_t a_holds a_now a_refused a_kept a_mind a_tape a_words a_wCell a_wFaces a_wTurns a_wSign a_wBy a_wFell a_telling a_sizes a_elements a_moved a_above a_out a_first c_t c_holds c_now c_refused) sz) (qI E (va_A (W_X6_status E a_t a_holds a_now a_refused a_kept a_mind a_tape a_words a_wCell a_wFaces a_wTurns a_wSign a_wBy a_wFell a_telling a_sizes a_elements a_moved a_above a_out a_first c_t c_holds c_now c_refused) sz) res (W_X6_status E a_t a_holds a_now a_refused a_kept a_mind a_tape a_words a_wCell a_wFaces a_wTurns a_wSign a_wBy a_wFell a_telling a_sizes a_elements a_moved a_above a_out a_first c_t c_holds c_now c_refused)) 0 0 (va_A (W_X6_status E a_t a_holds a_now a_refused a_kept a_mind a_tape a_words a_wCell a_wFaces a_wTurns a_wSign a_wBy a_wFell a_telling a_sizes a_elements a_moved a_above a_out a_first c_t c_holds c_now c_refused) sz) :=
  met_of (Qc := fun A => qI E A res (W_X6_status E a_t a_holds a_now a_refused a_kept a_mind a_tape a_words a_wCell a_wFaces a_wTurns a_wSign a_wBy a_wFell a_telling a_sizes a_elements a_moved a_above a_out a_first c_t c_holds c_now c_refused)) (by decide) rfl (Nat.le_of_ble_eq_true rfl) (fun p e s m args below meth c X hP hD hS ls hl => w_X6_status X a_t a_holds a_now a_refused a_kept a_mind a_tape a_words a_wCell a_wFaces a_wTurns a_wSign a_wBy a_wFell a_telling a_sizes a_elements a_moved a_above a_out a_first c_t c_holds c_now c_refused res l1 ls _ _ h hP hD hS hl)
