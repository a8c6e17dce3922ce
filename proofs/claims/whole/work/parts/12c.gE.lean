-- ===== X6_isPond
noncomputable abbrev W_X6_isPond (E : Env0) (a_t : Nat) (a_now : Nat) (a_refused : Nat) (a_kept : Nat) (a_mind : Nat) (a_tape : Nat) (a_words : Nat) (a_wCell : Nat) (a_wFaces : Nat) (a_wTurns : Nat) (a_wSign : Nat) (a_wBy : Nat) (a_wFell : Nat) (a_telling : Nat) (a_holds : Nat) (a_sizes : Nat) (a_elements : Nat) (a_moved : Nat) (a_above : Nat) (a_out : Nat) (a_first : Nat) (c_t : Nat → Int32) (c_now : Nat → Int32) (c_refused : Nat → Int32) : va_W := [(a_t, .inr (6, [.ref a_refused, .ref a_now, .ref a_kept, .ref a_mind, .int (c_t 4), .ref a_tape, .int (c_t 6), .int (c_t 7), .int (c_t 8), .int (c_t 9), .ref a_words, .ref a_wCell, .ref a_wFaces, .ref a_wTurns, .ref a_wSign, .ref a_wBy, .ref a_wFell, .int (c_t 17), .ref a_telling, .ref a_holds, .ref a_sizes, .ref a_elements, .ref a_moved, .ref a_above, .ref a_out, .ref a_first])), (a_now, .inl (eI E, 97, .inl c_now)), (a_refused, .inl (eI E, 7, .inl c_refused))]
noncomputable abbrev r_X6_isPond : Room := { frames := 1, cells := 0, slots := 0, locals := 21 }
theorem hd_X6_isPond : yX6_isPond.cls ≠ "java/lang/invoke/MethodHandle" ∧ yX6_isPond.cls ≠ "java/lang/invoke/VarHandle" ∧ (parseMethodDescriptor yX6_isPond.desc).map (fun d => d.parameters.length) = some 1 := by decide +kernel
theorem hV_X6_isPond : yX6_isPond.cls = RX6 ∧ yX6_isPond.cls ≠ "java/lang/invoke/MethodHandle" ∧ yX6_isPond.cls ≠ "java/lang/invoke/VarHandle" ∧ (parseMethodDescriptor yX6_isPond.desc).map (fun d => d.parameters.length) = some 1 := ⟨rfl, hd_X6_isPond⟩
theorem iX6_isPond_X6 : ∀ w ∈ wsX60, w ∈ wsX6_isPond := fun _ h => List.mem_cons_of_mem _ (List.mem_append_right _ (h))
section
variable {p : Program} {l : Launch} {e : Env} {s : State} {m : MethodId} {args : Array Value} {below : List Frame} {meth : Method} {c : Code} {E : Env0} {A : Nat → Prop}
set_option maxRecDepth 100000 in
set_option maxHeartbeats 4000000 in
theorem w_X6_isPond (X : Ctx p m meth c cX6_isPond 2 ((some .int)) s args wsX6_isPond RX6 E A) (a_t : Nat) (a_now : Nat) (a_refused : Nat) (a_kept : Nat) (a_mind : Nat) (a_tape : Nat) (a_words : Nat) (a_wCell : Nat) (a_wFaces : Nat) (a_wTurns : Nat) (a_wSign : Nat) (a_wBy : Nat) (a_wFell : Nat) (a_telling : Nat) (a_holds : Nat) (a_sizes : Nat) (a_elements : Nat) (a_moved : Nat) (a_above : Nat) (a_out : Nat) (a_first : Nat) (c_t : Nat → Int32) (c_now : Nat → Int32) (res : Int32 × (Nat → Int32)) (c_refused : Nat → Int32) (l1 : Int32) (ls : Array Slot) (H : Heap) (locs : List Loc) (h : f_X6_isPond l1 c_t c_now c_refused = some res) (hP : va_P E.1 vwCl (W_X6_isPond E a_t a_now a_refused a_kept a_mind a_tape a_words a_wCell a_wFaces a_wTurns a_wSign a_wBy a_wFell a_telling a_holds a_sizes a_elements a_moved a_above a_out a_first c_t c_now c_refused) H) (hD : va_D A (W_X6_isPond E a_t a_now a_refused a_kept a_mind a_tape a_words a_wCell a_wFaces a_wTurns a_wSign a_wBy a_wFell a_telling a_holds a_sizes a_elements a_moved a_above a_out a_first c_t c_now c_refused)) (hS : va_S A s.heap H locs) (hl : lv_has ls 2 [(0, .ref a_t), (1, .int l1)]) : W p l e r_X6_isPond s m args below meth c H locs 0 0 (MQ below (qI E A (res.1) (W_X6_isPond E a_t a_now a_refused a_kept a_mind a_tape a_words a_wCell a_wFaces a_wTurns a_wSign a_wBy a_wFell a_telling a_holds a_sizes a_elements a_moved a_above a_out a_first c_t c_now (res.2))) args s 0 0 A) (F0 m 0 ls []) := by
  obtain ⟨hx, hb, hml, hr, hlk, hown, hts, hG, hA⟩ := id X
  have hK := hG.1
  have hN := hG.2.1
  unfold f_X6_isPond at h
  refine lv_aload_n hx hb dX6_isPond_0 rfl (lv_at hl 0 rfl) ?_
  refine lv_iload_n hx hb dX6_isPond_1 rfl (lv_at hl 1 rfl) ?_
  obtain ⟨v1, hv1, h⟩ := bind_of h
  refine after_i X (run_V X (c_X6_isCell l E a_t a_now a_refused a_kept a_mind a_tape a_words a_wCell a_wFaces a_wTurns a_wSign a_wBy a_wFell a_telling a_holds a_sizes a_elements a_moved a_above a_out a_first l1 c_t c_now H.size v1 hv1) (cwV 1 hts gX6_isPond_X6_isCell rfl rfl rfl hV_X6_isCell ⟨(Nat.le_of_ble_eq_true rfl), (Nat.le_of_ble_eq_true rfl)⟩) hP hD hS [0, 1] rfl rfl hl.1 (ci := 6) rfl rfl rfl (rest := []) rfl rfl (Nat.le_of_ble_eq_true rfl) dX6_isPond_2) hP hD hS [0, 1] rfl (ws1 := (W_X6_isPond E a_t a_now a_refused a_kept a_mind a_tape a_words a_wCell a_wFaces a_wTurns a_wSign a_wBy a_wFell a_telling a_holds a_sizes a_elements a_moved a_above a_out a_first c_t c_now c_refused)) rfl (fun H locs hP hD hS => ?_)
  refine lv_if_eq (tgt := 20) hx hb dX6_isPond_5 (by decide) (fun hc5 => ?_) (fun hc5 => ?_)
  · have h := if_t h hc5
    refine lv_aload_n hx hb dX6_isPond_20 rfl (lv_at hl 0 rfl) ?_
    refine lv_bipush (v := (-2 : Int32)) hx hb dX6_isPond_21 (by decide) ?_
    obtain ⟨v2, hv2, h⟩ := bind_of h
    refine after_i X (run_V X (c_X6_refuse l E a_t a_refused a_now a_kept a_mind a_tape a_words a_wCell a_wFaces a_wTurns a_wSign a_wBy a_wFell a_telling a_holds a_sizes a_elements a_moved a_above a_out a_first (-2 : Int32) c_t c_refused H.size v2 hv2) (cwV 1 hts gX6_isPond_X6_refuse rfl rfl rfl hV_X6_refuse ⟨(Nat.le_of_ble_eq_true rfl), (Nat.le_of_ble_eq_true rfl)⟩) hP hD hS [0, 2] rfl rfl hl.1 (ci := 6) rfl rfl rfl (rest := []) rfl rfl (Nat.le_of_ble_eq_true rfl) dX6_isPond_23) hP hD hS [0, 2] rfl (ws1 := (W_X6_isPond E a_t a_now a_refused a_kept a_mind a_tape a_words a_wCell a_wFaces a_wTurns a_wSign a_wBy a_wFell a_telling a_holds a_sizes a_elements a_moved a_above a_out a_first c_t c_now (v2.2))) rfl (fun H locs hP hD hS => ?_)
    obtain rfl := Option.some.inj h
    exact ret_i X dX6_isPond_26 hP hD hS rfl
  · have h := if_f h hc5
    refine lv_aload_n hx hb dX6_isPond_8 rfl (lv_at hl 0 rfl) ?_
    refine va_get (D := E.1) (ci := 6) (v := .ref a_now) (C := RX6) (T := TX6) (N := 26) hx hb hts iX6_isPond_X6 hown hK hP 0 rfl rfl 1 (by decide) (hts (.fieldLink RX6 17 "LeftIsAgreedOnModel" "now" "[I") (List.mem_of_getElem? (i := 1) rfl)) (fun _ h9 => h9) rfl dX6_isPond_9 ?_
    refine lv_iload_n hx hb dX6_isPond_12 rfl (lv_at hl 1 rfl) ?_
    obtain ⟨v3, hv3, h⟩ := bind_of h
    refine after_i X (run_S X (c_X6_pondAt l E l1 H.size v3 hv3) (va_cwS 1 hts gX6_isPond_X6_pondAt rfl rfl rfl hd_X6_pondAt ⟨(Nat.le_of_ble_eq_true rfl), (Nat.le_of_ble_eq_true rfl)⟩) hP hD hS [] rfl rfl hl.1 (rest := [.ref a_now]) rfl rfl (Nat.le_of_ble_eq_true rfl) dX6_isPond_13) hP hD hS [] rfl (ws1 := (W_X6_isPond E a_t a_now a_refused a_kept a_mind a_tape a_words a_wCell a_wFaces a_wTurns a_wSign a_wBy a_wFell a_telling a_holds a_sizes a_elements a_moved a_above a_out a_first c_t c_now c_refused)) rfl (fun H locs hP hD hS => ?_)
    obtain ⟨hz16, h⟩ := chk_of h
    refine ld_i X hP 1 rfl (inb.vp hz16) (v := (c_now (v3).toNatClampNeg)) rfl dX6_isPond_16 ?_
    refine lv_goto (tgt := 26) hx hb dX6_isPond_17 (by decide) ?_
    obtain rfl := Option.some.inj h
    exact ret_i X dX6_isPond_26 hP hD hS rfl
end
set_option maxRecDepth 100000 in
theorem c_X6_isPond (l : Launch) (E : Env0) (a_t : Nat) (a_now : Nat) (a_refused : Nat) (a_kept : Nat) (a_mind : Nat) (a_tape : Nat) (a_words : Nat) (a_wCell : Nat) (a_wFaces : Nat) (a_wTurns : Nat) (a_wSign : Nat) (a_wBy : Nat) (a_wFell : Nat) (a_telling : Nat) (a_holds : Nat) (a_sizes : Nat) (a_elements : Nat) (a_moved : Nat) (a_above : Nat) (a_out : Nat) (a_first : Nat) (l1 : Int32) (c_t : Nat → Int32) (c_now : Nat → Int32) (c_refused : Nat → Int32) (sz : Nat) (res : Int32 × (Nat → Int32)) (h : f_X6_isPond l1 c_t c_now c_refused = some res) : Met l yX6_isPond wsX6_isPond r_X6_isPond (cPre E [.ref a_t, .int l1] (W_X6_isPond E a_t a_now a_refused a_kept a_mind a_tape a_words a_wCell a_wFaces a_wTurns a_wSign a_wBy a_wFell a_telling a_holds a_sizes a_elements a_moved a_above a_out a_first c_t c_now c_refused) sz) (qI E (va_A (W_X6_isPond E a_t a_now a_refused a_kept a_mind a_tape a_words a_wCell a_wFaces a_wTurns a_wSign a_wBy a_wFell a_telling a_holds a_sizes a_elements a_moved a_above a_out a_first c_t c_now c_refused) sz) (res.1) (W_X6_isPond E a_t a_now a_refused a_kept a_mind a_tape a_words a_wCell a_wFaces a_wTurns a_wSign a_wBy a_wFell a_telling a_holds a_sizes a_elements a_moved a_above a_out a_first c_t c_now (res.2))) 0 0 (va_A (W_X6_isPond E a_t a_now a_refused a_kept a_mind a_tape a_words a_wCell a_wFaces a_wTurns a_wSign a_wBy a_wFell a_telling a_holds a_sizes a_elements a_moved a_above a_out a_first c_t c_now c_refused) sz) :=
  met_of (Qc := fun A => qI E A (res.1) (W_X6_isPond E a_t a_now a_refused a_kept a_mind a_tape a_words a_wCell a_wFaces a_wTurns a_wSign a_wBy a_wFell a_telling a_holds a_sizes a_elements a_moved a_above a_out a_first c_t c_now (res.2))) (by decide) rfl (Nat.le_of_ble_eq_true rfl) (fun p e s m args below meth c X hP hD hS ls hl => w_X6_isPond X a_t a_now a_refused a_kept a_mind a_tape a_words a_wCell a_wFaces a_wTurns a_wSign a_wBy a_wFell a_telling a_holds a_sizes a_elements a_moved a_above a_out a_first c_t c_now res c_refused l1 ls _ _ h hP hD hS hl)
-- ===== X6_feed
noncomputable abbrev W_X6_feed (E : Env0) (a_t : Nat) (a_refused : Nat) (a_tape : Nat) (a_now : Nat) (a_kept : Nat) (a_mind : Nat) (a_words : Nat) (a_wCell : Nat) (a_wFaces : Nat) (a_wTurns : Nat) (a_wSign : Nat) (a_wBy : Nat) (a_wFell : Nat) (a_telling : Nat) (a_holds : Nat) (a_sizes : Nat) (a_elements : Nat) (a_moved : Nat) (a_above : Nat) (a_out : Nat) (a_first : Nat) (c_t : Nat → Int32) (c_refused : Nat → Int32) (c_tape : Nat → Int32) : va_W := [(a_t, .inr (6, [.ref a_refused, .ref a_now, .ref a_kept, .ref a_mind, .int (c_t 4), .ref a_tape, .int (c_t 6), .int (c_t 7), .int (c_t 8), .int (c_t 9), .ref a_words, .ref a_wCell, .ref a_wFaces, .ref a_wTurns, .ref a_wSign, .ref a_wBy, .ref a_wFell, .int (c_t 17), .ref a_telling, .ref a_holds, .ref a_sizes, .ref a_elements, .ref a_moved, .ref a_above, .ref a_out, .ref a_first])), (a_refused, .inl (eI E, 7, .inl c_refused)), (a_tape, .inl (eI E, 250, .inl c_tape))]
noncomputable abbrev r_X6_feed : Room := { frames := 1, cells := 0, slots := 0, locals := 25 }
theorem hd_X6_feed : yX6_feed.cls ≠ "java/lang/invoke/MethodHandle" ∧ yX6_feed.cls ≠ "java/lang/invoke/VarHandle" ∧ (parseMethodDescriptor yX6_feed.desc).map (fun d => d.parameters.length) = some 1 := by decide +kernel
theorem hV_X6_feed : yX6_feed.cls = RX6 ∧ yX6_feed.cls ≠ "java/lang/invoke/MethodHandle" ∧ yX6_feed.cls ≠ "java/lang/invoke/VarHandle" ∧ (parseMethodDescriptor yX6_feed.desc).map (fun d => d.parameters.length) = some 1 := ⟨rfl, hd_X6_feed⟩
theorem iX6_feed_X6 : ∀ w ∈ wsX60, w ∈ wsX6_feed := fun _ h => List.mem_cons_of_mem _ (List.mem_append_right _ (h))
section
variable {p : Program} {l : Launch} {e : Env} {s : State} {m : MethodId} {args : Array Value} {below : List Frame} {meth : Method} {c : Code} {E : Env0} {A : Nat → Prop}
set_option maxRecDepth 100000 in
set_option maxHeartbeats 4000000 in
theorem w_X6_feed (X : Ctx p m meth c cX6_feed 2 ((some .int)) s args wsX6_feed RX6 E A) (a_t : Nat) (a_refused : Nat) (a_tape : Nat) (a_now : Nat) (a_kept : Nat) (a_mind : Nat) (a_words : Nat) (a_wCell : Nat) (a_wFaces : Nat) (a_wTurns : Nat) (a_wSign : Nat) (a_wBy : Nat) (a_wFell : Nat) (a_telling : Nat) (a_holds : Nat) (a_sizes : Nat) (a_elements : Nat) (a_moved : Nat) (a_above : Nat) (a_out : Nat) (a_first : Nat) (res : Int32 × (Nat → Int32) × (Nat → Int32) × (Nat → Int32)) (c_t : Nat → Int32) (c_refused : Nat → Int32) (c_tape : Nat → Int32) (l1 : Int32) (ls : Array Slot) (H : Heap) (locs : List Loc) (h : f_X6_feed l1 c_t c_refused c_tape = some res) (hP : va_P E.1 vwCl (W_X6_feed E a_t a_refused a_tape a_now a_kept a_mind a_words a_wCell a_wFaces a_wTurns a_wSign a_wBy a_wFell a_telling a_holds a_sizes a_elements a_moved a_above a_out a_first c_t c_refused c_tape) H) (hD : va_D A (W_X6_feed E a_t a_refused a_tape a_now a_kept a_mind a_words a_wCell a_wFaces a_wTurns a_wSign a_wBy a_wFell a_telling a_holds a_sizes a_elements a_moved a_above a_out a_first c_t c_refused c_tape)) (hS : va_S A s.heap H locs) (hl : lv_has ls 2 [(0, .ref a_t), (1, .int l1)]) : W p l e r_X6_feed s m args below meth c H locs 0 0 (MQ below (qI E A (res.1) (W_X6_feed E a_t a_refused a_tape a_now a_kept a_mind a_words a_wCell a_wFaces a_wTurns a_wSign a_wBy a_wFell a_telling a_holds a_sizes a_elements a_moved a_above a_out a_first (res.2.1) (res.2.2.1) (res.2.2.2))) args s 0 0 A) (F0 m 0 ls []) := by
  obtain ⟨hx, hb, hml, hr, hlk, hown, hts, hG, hA⟩ := id X
  have hK := hG.1
  have hN := hG.2.1
  unfold f_X6_feed at h
  refine lv_iload_n hx hb dX6_feed_0 rfl (lv_at hl 1 rfl) ?_
  refine lv_i2l (v := (l1.toInt64)) hx hb dX6_feed_1 rfl ?_
  refine lv_lconst (v := (0 : Int64)) hx hb dX6_feed_2 (by decide) ?_
  refine lv_ldc2 (v := (255 : Int64)) hx hb hown (hts (.constantLong RX6 130 (255)) (List.mem_of_getElem? (i := 1) rfl)) dX6_feed_3 ?_
  obtain ⟨v1, hv1, h⟩ := bind_of h
  refine after_i X (run_S X (c_X6_isIn l E (l1.toInt64) (0 : Int64) (255 : Int64) H.size v1 hv1) (va_cwS 3 hts gX6_feed_X6_isIn rfl rfl rfl hd_X6_isIn ⟨(Nat.le_of_ble_eq_true rfl), (Nat.le_of_ble_eq_true rfl)⟩) hP hD hS [] rfl rfl hl.1 (rest := []) rfl rfl (Nat.le_of_ble_eq_true rfl) dX6_feed_6) hP hD hS [] rfl (ws1 := (W_X6_feed E a_t a_refused a_tape a_now a_kept a_mind a_words a_wCell a_wFaces a_wTurns a_wSign a_wBy a_wFell a_telling a_holds a_sizes a_elements a_moved a_above a_out a_first c_t c_refused c_tape)) rfl (fun H locs hP hD hS => ?_)
  refine lv_if_ne (tgt := 19) hx hb dX6_feed_9 (by decide) (fun hc9 => ?_) (fun hc9 => ?_)
  · have h := if_f h hc9
    refine lv_aload_n hx hb dX6_feed_19 rfl (lv_at hl 0 rfl) ?_
    refine va_get (D := E.1) (ci := 6) (v := .int (c_t 6)) (C := RX6) (T := TX6) (N := 26) hx hb hts iX6_feed_X6 hown hK hP 0 rfl rfl 6 (by decide) (hts (.fieldLink RX6 132 "LeftIsAgreedOnModel" "size" "I") (List.mem_of_getElem? (i := 2) rfl)) (fun _ h9 => h9) rfl dX6_feed_20 ?_
    refine lv_sipush (v := (250 : Int32)) hx hb dX6_feed_23 (by decide) ?_
    refine lv_icmp_ne (tgt := 36) hx hb dX6_feed_26 (by decide) (fun hc26 => ?_) (fun hc26 => ?_)
    · have h := if_f h hc26
      refine lv_aload_n hx hb dX6_feed_36 rfl (lv_at hl 0 rfl) ?_
      refine va_get (D := E.1) (ci := 6) (v := .ref a_tape) (C := RX6) (T := TX6) (N := 26) hx hb hts iX6_feed_X6 hown hK hP 0 rfl rfl 5 (by decide) (hts (.fieldLink RX6 26 "LeftIsAgreedOnModel" "tape" "[I") (List.mem_of_getElem? (i := 3) rfl)) (fun _ h9 => h9) rfl dX6_feed_37 ?_
      refine lv_aload_n hx hb dX6_feed_40 rfl (lv_at hl 0 rfl) ?_
      refine va_get (D := E.1) (ci := 6) (v := .int (c_t 6)) (C := RX6) (T := TX6) (N := 26) hx hb hts iX6_feed_X6 hown hK hP 0 rfl rfl 6 (by decide) (hts (.fieldLink RX6 132 "LeftIsAgreedOnModel" "size" "I") (List.mem_of_getElem? (i := 2) rfl)) (fun _ h9 => h9) rfl dX6_feed_41 ?_
      refine lv_iload_n hx hb dX6_feed_44 rfl (lv_at hl 1 rfl) ?_
      obtain ⟨hz45, h⟩ := chk_of h
      refine st_i X hP hD hS 2 rfl (inb.vp hz45) (k := ((c_t 6)).toNatClampNeg) rfl (ws1 := (W_X6_feed E a_t a_refused a_tape a_now a_kept a_mind a_words a_wCell a_wFaces a_wTurns a_wSign a_wBy a_wFell a_telling a_holds a_sizes a_elements a_moved a_above a_out a_first c_t c_refused (upd c_tape (((c_t 6)).toNatClampNeg) l1))) rfl dX6_feed_45 (fun H locs hP hD hS => ?_)
      refine lv_aload_n hx hb dX6_feed_46 rfl (lv_at hl 0 rfl) ?_
      refine lv_dup hx hb dX6_feed_47 rfl ?_
      refine va_get (D := E.1) (ci := 6) (v := .int (c_t 6)) (C := RX6) (T := TX6) (N := 26) hx hb hts iX6_feed_X6 hown hK hP 0 rfl rfl 6 (by decide) (hts (.fieldLink RX6 132 "LeftIsAgreedOnModel" "size" "I") (List.mem_of_getElem? (i := 2) rfl)) (fun _ h9 => h9) rfl dX6_feed_48 ?_
      refine lv_iconst (v := (1 : Int32)) hx hb dX6_feed_51 (by decide) ?_
      refine lv_iadd hx hb dX6_feed_52 ?_
      refine va_put (D := E.1) (ci := 6) (v := .int ((c_t 6) + (1 : Int32))) (ty := .int) (C := RX6) (T := TX6) (N := 26) hx hb hts iX6_feed_X6 tyX6 tyX6_ok nmX6 hown hK hP hD hS 0 rfl rfl 6 (by decide) (hts (.fieldLink RX6 132 "LeftIsAgreedOnModel" "size" "I") (List.mem_of_getElem? (i := 2) rfl)) (fun _ h9 => h9) rfl (tyX6_ok 6 (by decide)) rfl rfl (Nat.le_of_ble_eq_true rfl) dX6_feed_53 (fun H locs hP hD hS => ?_)
      have hP : va_P E.1 vwCl (W_X6_feed E a_t a_refused a_tape a_now a_kept a_mind a_words a_wCell a_wFaces a_wTurns a_wSign a_wBy a_wFell a_telling a_holds a_sizes a_elements a_moved a_above a_out a_first (upd c_t 6 ((c_t 6) + (1 : Int32))) c_refused (upd c_tape (((c_t 6)).toNatClampNeg) l1)) H := hP
      have hD : va_D A (W_X6_feed E a_t a_refused a_tape a_now a_kept a_mind a_words a_wCell a_wFaces a_wTurns a_wSign a_wBy a_wFell a_telling a_holds a_sizes a_elements a_moved a_above a_out a_first (upd c_t 6 ((c_t 6) + (1 : Int32))) c_refused (upd c_tape (((c_t 6)).toNatClampNeg) l1)) := hD
      refine lv_aload_n hx hb dX6_feed_56 rfl (lv_at hl 0 rfl) ?_
      refine va_get (D := E.1) (ci := 6) (v := .int ((upd c_t 6 ((c_t 6) + (1 : Int32))) 6)) (C := RX6) (T := TX6) (N := 26) hx hb hts iX6_feed_X6 hown hK hP 0 rfl rfl 6 (by decide) (hts (.fieldLink RX6 132 "LeftIsAgreedOnModel" "size" "I") (List.mem_of_getElem? (i := 2) rfl)) (fun _ h9 => h9) rfl dX6_feed_57 ?_
      obtain rfl := Option.some.inj h
      exact ret_i X dX6_feed_60 hP hD hS rfl
    · have h := if_t h hc26
      refine lv_aload_n hx hb dX6_feed_29 rfl (lv_at hl 0 rfl) ?_
      refine lv_bipush (v := (-6 : Int32)) hx hb dX6_feed_30 (by decide) ?_
      obtain ⟨v2, hv2, h⟩ := bind_of h
      refine after_i X (run_V X (c_X6_refuse l E a_t a_refused a_now a_kept a_mind a_tape a_words a_wCell a_wFaces a_wTurns a_wSign a_wBy a_wFell a_telling a_holds a_sizes a_elements a_moved a_above a_out a_first (-6 : Int32) c_t c_refused H.size v2 hv2) (cwV 1 hts gX6_feed_X6_refuse rfl rfl rfl hV_X6_refuse ⟨(Nat.le_of_ble_eq_true rfl), (Nat.le_of_ble_eq_true rfl)⟩) hP hD hS [0, 1] rfl rfl hl.1 (ci := 6) rfl rfl rfl (rest := []) rfl rfl (Nat.le_of_ble_eq_true rfl) dX6_feed_32) hP hD hS [0, 1] rfl (ws1 := (W_X6_feed E a_t a_refused a_tape a_now a_kept a_mind a_words a_wCell a_wFaces a_wTurns a_wSign a_wBy a_wFell a_telling a_holds a_sizes a_elements a_moved a_above a_out a_first c_t (v2.2) c_tape)) rfl (fun H locs hP hD hS => ?_)
      obtain rfl := Option.some.inj h
      exact ret_i X dX6_feed_35 hP hD hS rfl
  · have h := if_t h hc9
    refine lv_aload_n hx hb dX6_feed_12 rfl (lv_at hl 0 rfl) ?_
    refine lv_bipush (v := (-2 : Int32)) hx hb dX6_feed_13 (by decide) ?_
    obtain ⟨v3, hv3, h⟩ := bind_of h
    refine after_i X (run_V X (c_X6_refuse l E a_t a_refused a_now a_kept a_mind a_tape a_words a_wCell a_wFaces a_wTurns a_wSign a_wBy a_wFell a_telling a_holds a_sizes a_elements a_moved a_above a_out a_first (-2 : Int32) c_t c_refused H.size v3 hv3) (cwV 1 hts gX6_feed_X6_refuse rfl rfl rfl hV_X6_refuse ⟨(Nat.le_of_ble_eq_true rfl), (Nat.le_of_ble_eq_true rfl)⟩) hP hD hS [0, 1] rfl rfl hl.1 (ci := 6) rfl rfl rfl (rest := []) rfl rfl (Nat.le_of_ble_eq_true rfl) dX6_feed_15) hP hD hS [0, 1] rfl (ws1 := (W_X6_feed E a_t a_refused a_tape a_now a_kept a_mind a_words a_wCell a_wFaces a_wTurns a_wSign a_wBy a_wFell a_telling a_holds a_sizes a_elements a_moved a_above a_out a_first c_t (v3.2) c_tape)) rfl (fun H locs hP hD hS => ?_)
    obtain rfl := Option.some.inj h
    exact ret_i X dX6_feed_18 hP hD hS rfl
end
set_option maxRecDepth 100000 in
theorem c_X6_feed (l : Launch) (E : Env0) (a_t : Nat) (a_refused : Nat) (a_tape : Nat) (a_now : Nat) (a_kept : Nat) (a_mind : Nat) (a_words : Nat) (a_wCell : Nat) (a_wFaces : Nat) (a_wTurns : Nat) (a_wSign : Nat) (a_wBy : Nat) (a_wFell : Nat) (a_telling : Nat) (a_holds : Nat) (a_sizes : Nat) (a_elements : Nat) (a_moved : Nat) (a_above : Nat) (a_out : Nat) (a_first : Nat) (l1 : Int32) (c_t : Nat → Int32) (c_refused : Nat → Int32) (c_tape : Nat → Int32) (sz : Nat) (res : Int32 × (Nat → Int32) × (Nat → Int32) × (Nat → Int32)) (h : f_X6_feed l1 c_t c_refused c_tape = some res) : Met l yX6_feed wsX6_feed r_X6_feed (cPre E [.ref a_t, .int l1] (W_X6_feed E a_t a_refused a_tape a_now a_kept a_mind a_words a_wCell a_wFaces a_wTurns a_wSign a_wBy a_wFell a_telling a_holds a_sizes a_elements a_moved a_above a_out a_first c_t c_refused c_tape) sz) (qI E (va_A (W_X6_feed E a_t a_refused a_tape a_now a_kept a_mind a_words a_wCell a_wFaces a_wTurns a_wSign a_wBy a_wFell a_telling a_holds a_sizes a_elements a_moved a_above a_out a_first c_t c_refused c_tape) sz) (res.1) (W_X6_feed E a_t a_refused a_tape a_now a_kept a_mind a_words a_wCell a_wFaces a_wTurns a_wSign a_wBy a_wFell a_telling a_holds a_sizes a_elements a_moved a_above a_out a_first (res.2.1) (res.2.2.1) (res.2.2.2))) 0 0 (va_A (W_X6_feed E a_t a_refused a_tape a_now a_kept a_mind a_words a_wCell a_wFaces a_wTurns a_wSign a_wBy a_wFell a_telling a_holds a_sizes a_elements a_moved a_above a_out a_first c_t c_refused c_tape) sz) :=
  met_of (Qc := fun A => qI E A (res.1) (W_X6_feed E a_t a_refused a_tape a_now a_kept a_mind a_words a_wCell a_wFaces a_wTurns a_wSign a_wBy a_wFell a_telling a_holds a_sizes a_elements a_moved a_above a_out a_first (res.2.1) (res.2.2.1) (res.2.2.2))) (by decide) rfl (Nat.le_of_ble_eq_true rfl) (fun p e s m args below meth c X hP hD hS ls hl => w_X6_feed X a_t a_refused a_tape a_now a_kept a_mind a_words a_wCell a_wFaces a_wTurns a_wSign a_wBy a_wFell a_telling a_holds a_sizes a_elements a_moved a_above a_out a_first res c_t c_refused c_tape l1 ls _ _ h hP hD hS hl)
-- ===== X6_wipe
noncomputable abbrev W_X6_wipe (E : Env0) (a_t : Nat) (a_refused : Nat) (a_now : Nat) (a_kept : Nat) (a_mind : Nat) (a_tape : Nat) (a_words : Nat) (a_wCell : Nat) (a_wFaces : Nat) (a_wTurns : Nat) (a_wSign : Nat) (a_wBy : Nat) (a_wFell : Nat) (a_telling : Nat) (a_holds : Nat) (a_sizes : Nat) (a_elements : Nat) (a_moved : Nat) (a_above : Nat) (a_out : Nat) (a_first : Nat) (c_t : Nat → Int32) : va_W := [(a_t, .inr (6, [.ref a_refused, .ref a_now, .ref a_kept, .ref a_mind, .int (c_t 4), .ref a_tape, .int (c_t 6), .int (c_t 7), .int (c_t 8), .int (c_t 9), .ref a_words, .ref a_wCell, .ref a_wFaces, .ref a_wTurns, .ref a_wSign, .ref a_wBy, .ref a_wFell, .int (c_t 17), .ref a_telling, .ref a_holds, .ref a_sizes, .ref a_elements, .ref a_moved, .ref a_above, .ref a_out, .ref a_first]))]
noncomputable abbrev r_X6_wipe : Room := { frames := 0, cells := 0, slots := 0, locals := 0 }
theorem hd_X6_wipe : yX6_wipe.cls ≠ "java/lang/invoke/MethodHandle" ∧ yX6_wipe.cls ≠ "java/lang/invoke/VarHandle" ∧ (parseMethodDescriptor yX6_wipe.desc).map (fun d => d.parameters.length) = some 0 := by decide +kernel
theorem hV_X6_wipe : yX6_wipe.cls = RX6 ∧ yX6_wipe.cls ≠ "java/lang/invoke/MethodHandle" ∧ yX6_wipe.cls ≠ "java/lang/invoke/VarHandle" ∧ (parseMethodDescriptor yX6_wipe.desc).map (fun d => d.parameters.length) = some 0 := ⟨rfl, hd_X6_wipe⟩
theorem iX6_wipe_X6 : ∀ w ∈ wsX60, w ∈ wsX6_wipe := fun _ h => List.mem_cons_of_mem _ (List.mem_append_right _ (h))
section
variable {p : Program} {l : Launch} {e : Env} {s : State} {m : MethodId} {args : Array Value} {below : List Frame} {meth : Method} {c : Code} {E : Env0} {A : Nat → Prop}
set_option maxRecDepth 100000 in
set_option maxHeartbeats 4000000 in
theorem w_X6_wipe (X : Ctx p m meth c cX6_wipe 2 ((some .int)) s args wsX6_wipe RX6 E A) (a_t : Nat) (a_refused : Nat) (a_now : Nat) (a_kept : Nat) (a_mind : Nat) (a_tape : Nat) (a_words : Nat) (a_wCell : Nat) (a_wFaces : Nat) (a_wTurns : Nat) (a_wSign : Nat) (a_wBy : Nat) (a_wFell : Nat) (a_telling : Nat) (a_holds : Nat) (a_sizes : Nat) (a_elements : Nat) (a_moved : Nat) (a_above : Nat) (a_out : Nat) (a_first : Nat) (res : Int32 × (Nat → Int32)) (c_t : Nat → Int32) (ls : Array Slot) (H : Heap) (locs : List Loc) (h : f_X6_wipe c_t = some res) (hP : va_P E.1 vwCl (W_X6_wipe E a_t a_refused a_now a_kept a_mind a_tape a_words a_wCell a_wFaces a_wTurns a_wSign a_wBy a_wFell a_telling a_holds a_sizes a_elements a_moved a_above a_out a_first c_t) H) (hD : va_D A (W_X6_wipe E a_t a_refused a_now a_kept a_mind a_tape a_words a_wCell a_wFaces a_wTurns a_wSign a_wBy a_wFell a_telling a_holds a_sizes a_elements a_moved a_above a_out a_first c_t)) (hS : va_S A s.heap H locs) (hl : lv_has ls 2 [(0, .ref a_t)]) : W p l e r_X6_wipe s m args below meth c H locs 0 0 (MQ below (qI E A (res.1) (W_X6_wipe E a_t a_refused a_now a_kept a_mind a_tape a_words a_wCell a_wFaces a_wTurns a_wSign a_wBy a_wFell a_telling a_holds a_sizes a_elements a_moved a_above a_out a_first (res.2))) args s 0 0 A) (F0 m 0 ls []) := by
  obtain ⟨hx, hb, hml, hr, hlk, hown, hts, hG, hA⟩ := id X
  have hK := hG.1
  have hN := hG.2.1
  unfold f_X6_wipe at h
  refine lv_aload_n hx hb dX6_wipe_0 rfl (lv_at hl 0 rfl) ?_
  refine va_get (D := E.1) (ci := 6) (v := .int (c_t 6)) (C := RX6) (T := TX6) (N := 26) hx hb hts iX6_wipe_X6 hown hK hP 0 rfl rfl 6 (by decide) (hts (.fieldLink RX6 132 "LeftIsAgreedOnModel" "size" "I") (List.mem_of_getElem? (i := 1) rfl)) (fun _ h9 => h9) rfl dX6_wipe_1 ?_
  refine lv_istore_n (lv' := [(1, .int (c_t 6)), (0, .ref a_t)]) hx hb dX6_wipe_4 rfl hl (by decide) rfl (fun ls hl => ?_)
  refine lv_aload_n hx hb dX6_wipe_5 rfl (lv_at hl 1 rfl) ?_
  refine lv_iconst (v := (0 : Int32)) hx hb dX6_wipe_6 (by decide) ?_
  refine va_put (D := E.1) (ci := 6) (v := .int (0 : Int32)) (ty := .int) (C := RX6) (T := TX6) (N := 26) hx hb hts iX6_wipe_X6 tyX6 tyX6_ok nmX6 hown hK hP hD hS 0 rfl rfl 6 (by decide) (hts (.fieldLink RX6 132 "LeftIsAgreedOnModel" "size" "I") (List.mem_of_getElem? (i := 1) rfl)) (fun _ h9 => h9) rfl (tyX6_ok 6 (by decide)) rfl rfl (Nat.le_of_ble_eq_true rfl) dX6_wipe_7 (fun H locs hP hD hS => ?_)
  have hP : va_P E.1 vwCl (W_X6_wipe E a_t a_refused a_now a_kept a_mind a_tape a_words a_wCell a_wFaces a_wTurns a_wSign a_wBy a_wFell a_telling a_holds a_sizes a_elements a_moved a_above a_out a_first (upd c_t 6 (0 : Int32))) H := hP
  have hD : va_D A (W_X6_wipe E a_t a_refused a_now a_kept a_mind a_tape a_words a_wCell a_wFaces a_wTurns a_wSign a_wBy a_wFell a_telling a_holds a_sizes a_elements a_moved a_above a_out a_first (upd c_t 6 (0 : Int32))) := hD
  refine lv_iload_n hx hb dX6_wipe_10 rfl (lv_at hl 0 rfl) ?_
  obtain rfl := Option.some.inj h
  exact ret_i X dX6_wipe_11 hP hD hS rfl
end
set_option maxRecDepth 100000 in
theorem c_X6_wipe (l : Launch) (E : Env0) (a_t : Nat) (a_refused : Nat) (a_now : Nat) (a_kept : Nat) (a_mind : Nat) (a_tape : Nat) (a_words : Nat) (a_wCell : Nat) (a_wFaces : Nat) (a_wTurns : Nat) (a_wSign : Nat) (a_wBy : Nat) (a_wFell : Nat) (a_telling : Nat) (a_holds : Nat) (a_sizes : Nat) (a_elements : Nat) (a_moved : Nat) (a_above : Nat) (a_out : Nat) (a_first : Nat) (c_t : Nat → Int32) (sz : Nat) (res : Int32 × (Nat → Int32)) (h : f_X6_wipe c_t = some res) : Met l yX6_wipe wsX6_wipe r_X6_wipe (cPre E [.ref a_t] (W_X6_wipe E a_t a_refused a_now a_kept a_mind a_tape a_words a_wCell a_wFaces a_wTurns a_wSign a_wBy a_wFell a_telling a_holds a_sizes a_elements a_moved a_above a_out a_first c_t) sz) (qI E (va_A (W_X6_wipe E a_t a_refused a_now a_kept a_mind a_tape a_words a_wCell a_wFaces a_wTurns a_wSign a_wBy a_wFell a_telling a_holds a_sizes a_elements a_moved a_above a_out a_first c_t) sz) (res.1) (W_X6_wipe E a_t a_refused a_now a_kept a_mind a_tape a_words a_wCell a_wFaces a_wTurns a_wSign a_wBy a_wFell a_telling a_holds a_sizes a_elements a_moved a_above a_out a_first (res.2))) 0 0 (va_A (W_X6_wipe E a_t a_refused a_now a_kept a_mind a_tape a_words a_wCell a_wFaces a_wTurns a_wSign a_wBy a_wFell a_telling a_holds a_sizes a_elements a_moved a_above a_out a_first c_t) sz) :=
  met_of (Qc := fun A => qI E A (res.1) (W_X6_wipe E a_t a_refused a_now a_kept a_mind a_tape a_words a_wCell a_wFaces a_wTurns a_wSign a_wBy a_wFell a_telling a_holds a_sizes a_elements a_moved a_above a_out a_first (res.2))) (by decide) rfl (Nat.le_of_ble_eq_true rfl) (fun p e s m args below meth c X hP hD hS ls hl => w_X6_wipe X a_t a_refused a_now a_kept a_mind a_tape a_words a_wCell a_wFaces a_wTurns a_wSign a_wBy a_wFell a_telling a_holds a_sizes a_elements a_moved a_above a_out a_first res c_t ls _ _ h hP hD hS hl)
-- ===== X6_sortAt
noncomputable abbrev W_X6_sortAt (E : Env0) (a_t : Nat) (a_tape : Nat) (a_refused : Nat) (a_now : Nat) (a_kept : Nat) (a_mind : Nat) (a_words : Nat) (a_wCell : Nat) (a_wFaces : Nat) (a_wTurns : Nat) (a_wSign : Nat) (a_wBy : Nat) (a_wFell : Nat) (a_telling : Nat) (a_holds : Nat) (a_sizes : Nat) (a_elements : Nat) (a_moved : Nat) (a_above : Nat) (a_out : Nat) (a_first : Nat) (c_t : Nat → Int32) (c_tape : Nat → Int32) : va_W := [(a_t, .inr (6, [.ref a_refused, .ref a_now, .ref a_kept, .ref a_mind, .int (c_t 4), .ref a_tape, .int (c_t 6), .int (c_t 7), .int (c_t 8), .int (c_t 9), .ref a_words, .ref a_wCell, .ref a_wFaces, .ref a_wTurns, .ref a_wSign, .ref a_wBy, .ref a_wFell, .int (c_t 17), .ref a_telling, .ref a_holds, .ref a_sizes, .ref a_elements, .ref a_moved, .ref a_above, .ref a_out, .ref a_first])), (a_tape, .inl (eI E, 250, .inl c_tape))]
noncomputable abbrev r_X6_sortAt : Room := { frames := 1, cells := 0, slots := 0, locals := 25 }
theorem hd_X6_sortAt : yX6_sortAt.cls ≠ "java/lang/invoke/MethodHandle" ∧ yX6_sortAt.cls ≠ "java/lang/invoke/VarHandle" ∧ (parseMethodDescriptor yX6_sortAt.desc).map (fun d => d.parameters.length) = some 1 := by decide +kernel
theorem hV_X6_sortAt : yX6_sortAt.cls = RX6 ∧ yX6_sortAt.cls ≠ "java/lang/invoke/MethodHandle" ∧ yX6_sortAt.cls ≠ "java/lang/invoke/VarHandle" ∧ (parseMethodDescriptor yX6_sortAt.desc).map (fun d => d.parameters.length) = some 1 := ⟨rfl, hd_X6_sortAt⟩
theorem iX6_sortAt_X6 : ∀ w ∈ wsX60, w ∈ wsX6_sortAt := fun _ h => List.mem_cons_of_mem _ (List.mem_append_right _ (h))
section
variable {p : Program} {l : Launch} {e : Env} {s : State} {m : MethodId} {args : Array Value} {below : List Frame} {meth : Method} {c : Code} {E : Env0} {A : Nat → Prop}
set_option maxRecDepth 100000 in
set_option maxHeartbeats 4000000 in
theorem w_X6_sortAt (X : Ctx p m meth c cX6_sortAt 2 ((some .int)) s args wsX6_sortAt RX6 E A) (a_t : Nat) (a_tape : Nat) (a_refused : Nat) (a_now : Nat) (a_kept : Nat) (a_mind : Nat) (a_words : Nat) (a_wCell : Nat) (a_wFaces : Nat) (a_wTurns : Nat) (a_wSign : Nat) (a_wBy : Nat) (a_wFell : Nat) (a_telling : Nat) (a_holds : Nat) (a_sizes : Nat) (a_elements : Nat) (a_moved : Nat) (a_above : Nat) (a_out : Nat) (a_first : Nat) (c_t : Nat → Int32) (c_tape : Nat → Int32) (res : Int32) (l1 : Int32) (ls : Array Slot) (H : Heap) (locs : List Loc) (h : f_X6_sortAt l1 c_t c_tape = some res) (hP : va_P E.1 vwCl (W_X6_sortAt E a_t a_tape a_refused a_now a_kept a_mind a_words a_wCell a_wFaces a_wTurns a_wSign a_wBy a_wFell a_telling a_holds a_sizes a_elements a_moved a_above a_out a_first c_t c_tape) H) (hD : va_D A (W_X6_sortAt E a_t a_tape a_refused a_now a_kept a_mind a_words a_wCell a_wFaces a_wTurns a_wSign a_wBy a_wFell a_telling a_holds a_sizes a_elements a_moved a_above a_out a_first c_t c_tape)) (hS : va_S A s.heap H locs) (hl : lv_has ls 2 [(0, .ref a_t), (1, .int l1)]) : W p l e r_X6_sortAt s m args below meth c H locs 0 0 (MQ below (qI E A res (W_X6_sortAt E a_t a_tape a_refused a_now a_kept a_mind a_words a_wCell a_wFaces a_wTurns a_wSign a_wBy a_wFell a_telling a_holds a_sizes a_elements a_moved a_above a_out a_first c_t c_tape)) args s 0 0 A) (F0 m 0 ls []) := by
  obtain ⟨hx, hb, hml, hr, hlk, hown, hts, hG, hA⟩ := id X
  have hK := hG.1
  have hN := hG.2.1
  unfold f_X6_sortAt at h
  refine lv_iload_n hx hb dX6_sortAt_0 rfl (lv_at hl 1 rfl) ?_
  refine lv_aload_n hx hb dX6_sortAt_1 rfl (lv_at hl 0 rfl) ?_
  refine va_get (D := E.1) (ci := 6) (v := .int (c_t 6)) (C := RX6) (T := TX6) (N := 26) hx hb hts iX6_sortAt_X6 hown hK hP 0 rfl rfl 6 (by decide) (hts (.fieldLink RX6 132 "LeftIsAgreedOnModel" "size" "I") (List.mem_of_getElem? (i := 1) rfl)) (fun _ h9 => h9) rfl dX6_sortAt_2 ?_
  refine lv_icmp_lt (tgt := 12) hx hb dX6_sortAt_5 (by decide) (fun hc5 => ?_) (fun hc5 => ?_)
  · have h := if_t h hc5
    refine lv_aload_n hx hb dX6_sortAt_12 rfl (lv_at hl 0 rfl) ?_
    refine va_get (D := E.1) (ci := 6) (v := .ref a_tape) (C := RX6) (T := TX6) (N := 26) hx hb hts iX6_sortAt_X6 hown hK hP 0 rfl rfl 5 (by decide) (hts (.fieldLink RX6 26 "LeftIsAgreedOnModel" "tape" "[I") (List.mem_of_getElem? (i := 2) rfl)) (fun _ h9 => h9) rfl dX6_sortAt_13 ?_
    refine lv_iload_n hx hb dX6_sortAt_16 rfl (lv_at hl 1 rfl) ?_
    obtain ⟨hz17, h⟩ := chk_of h
    refine ld_i X hP 1 rfl (inb.vp hz17) (v := (c_tape (l1).toNatClampNeg)) rfl dX6_sortAt_17 ?_
    refine lv_i2l (v := ((c_tape (l1).toNatClampNeg).toInt64)) hx hb dX6_sortAt_18 rfl ?_
    refine lv_ldc2 (v := (97 : Int64)) hx hb hown (hts (.constantLong RX6 136 (97)) (List.mem_of_getElem? (i := 3) rfl)) dX6_sortAt_19 ?_
    refine lv_ldc2 (v := (122 : Int64)) hx hb hown (hts (.constantLong RX6 138 (122)) (List.mem_of_getElem? (i := 4) rfl)) dX6_sortAt_22 ?_
    obtain ⟨v1, hv1, h⟩ := bind_of h
    refine after_i X (run_S X (c_X6_isIn l E ((c_tape (l1).toNatClampNeg).toInt64) (97 : Int64) (122 : Int64) H.size v1 hv1) (va_cwS 3 hts gX6_sortAt_X6_isIn rfl rfl rfl hd_X6_isIn ⟨(Nat.le_of_ble_eq_true rfl), (Nat.le_of_ble_eq_true rfl)⟩) hP hD hS [] rfl rfl hl.1 (rest := []) rfl rfl (Nat.le_of_ble_eq_true rfl) dX6_sortAt_25) hP hD hS [] rfl (ws1 := (W_X6_sortAt E a_t a_tape a_refused a_now a_kept a_mind a_words a_wCell a_wFaces a_wTurns a_wSign a_wBy a_wFell a_telling a_holds a_sizes a_elements a_moved a_above a_out a_first c_t c_tape)) rfl (fun H locs hP hD hS => ?_)
    refine lv_if_eq (tgt := 35) hx hb dX6_sortAt_28 (by decide) (fun hc28 => ?_) (fun hc28 => ?_)
    · have h := if_t h hc28
      refine lv_aload_n hx hb dX6_sortAt_35 rfl (lv_at hl 0 rfl) ?_
      refine va_get (D := E.1) (ci := 6) (v := .ref a_tape) (C := RX6) (T := TX6) (N := 26) hx hb hts iX6_sortAt_X6 hown hK hP 0 rfl rfl 5 (by decide) (hts (.fieldLink RX6 26 "LeftIsAgreedOnModel" "tape" "[I") (List.mem_of_getElem? (i := 2) rfl)) (fun _ h9 => h9) rfl dX6_sortAt_36 ?_
      refine lv_iload_n hx hb dX6_sortAt_39 rfl (lv_at hl 1 rfl) ?_
      obtain ⟨hz40, h⟩ := chk_of h
      refine ld_i X hP 1 rfl (inb.vp hz40) (v := (c_tape (l1).toNatClampNeg)) rfl dX6_sortAt_40 ?_
      refine lv_i2l (v := ((c_tape (l1).toNatClampNeg).toInt64)) hx hb dX6_sortAt_41 rfl ?_
      refine lv_ldc2 (v := (48 : Int64)) hx hb hown (hts (.constantLong RX6 140 (48)) (List.mem_of_getElem? (i := 5) rfl)) dX6_sortAt_42 ?_
      refine lv_ldc2 (v := (57 : Int64)) hx hb hown (hts (.constantLong RX6 142 (57)) (List.mem_of_getElem? (i := 6) rfl)) dX6_sortAt_45 ?_
      obtain ⟨v2, hv2, h⟩ := bind_of h
      refine after_i X (run_S X (c_X6_isIn l E ((c_tape (l1).toNatClampNeg).toInt64) (48 : Int64) (57 : Int64) H.size v2 hv2) (va_cwS 3 hts gX6_sortAt_X6_isIn rfl rfl rfl hd_X6_isIn ⟨(Nat.le_of_ble_eq_true rfl), (Nat.le_of_ble_eq_true rfl)⟩) hP hD hS [] rfl rfl hl.1 (rest := []) rfl rfl (Nat.le_of_ble_eq_true rfl) dX6_sortAt_48) hP hD hS [] rfl (ws1 := (W_X6_sortAt E a_t a_tape a_refused a_now a_kept a_mind a_words a_wCell a_wFaces a_wTurns a_wSign a_wBy a_wFell a_telling a_holds a_sizes a_elements a_moved a_above a_out a_first c_t c_tape)) rfl (fun H locs hP hD hS => ?_)
      refine lv_if_eq (tgt := 58) hx hb dX6_sortAt_51 (by decide) (fun hc51 => ?_) (fun hc51 => ?_)
      · have h := if_t h hc51
        refine lv_aload_n hx hb dX6_sortAt_58 rfl (lv_at hl 0 rfl) ?_
        refine va_get (D := E.1) (ci := 6) (v := .ref a_tape) (C := RX6) (T := TX6) (N := 26) hx hb hts iX6_sortAt_X6 hown hK hP 0 rfl rfl 5 (by decide) (hts (.fieldLink RX6 26 "LeftIsAgreedOnModel" "tape" "[I") (List.mem_of_getElem? (i := 2) rfl)) (fun _ h9 => h9) rfl dX6_sortAt_59 ?_
        refine lv_iload_n hx hb dX6_sortAt_62 rfl (lv_at hl 1 rfl) ?_
        obtain ⟨hz63, h⟩ := chk_of h
        refine ld_i X hP 1 rfl (inb.vp hz63) (v := (c_tape (l1).toNatClampNeg)) rfl dX6_sortAt_63 ?_
        refine lv_bipush (v := (59 : Int32)) hx hb dX6_sortAt_64 (by decide) ?_
        refine lv_icmp_ne (tgt := 73) hx hb dX6_sortAt_66 (by decide) (fun hc66 => ?_) (fun hc66 => ?_)
        · have h := if_f h hc66
          refine lv_iconst (v := (4 : Int32)) hx hb dX6_sortAt_73 (by decide) ?_
          obtain rfl := Option.some.inj h
          exact ret_i X dX6_sortAt_74 hP hD hS rfl
        · have h := if_t h hc66
          refine lv_iconst (v := (3 : Int32)) hx hb dX6_sortAt_69 (by decide) ?_
          refine lv_goto (tgt := 74) hx hb dX6_sortAt_70 (by decide) ?_
          obtain rfl := Option.some.inj h
          exact ret_i X dX6_sortAt_74 hP hD hS rfl
      · have h := if_f h hc51
        refine lv_iconst (v := (2 : Int32)) hx hb dX6_sortAt_54 (by decide) ?_
        refine lv_goto (tgt := 74) hx hb dX6_sortAt_55 (by decide) ?_
        obtain rfl := Option.some.inj h
        exact ret_i X dX6_sortAt_74 hP hD hS rfl
    · have h := if_f h hc28
      refine lv_iconst (v := (1 : Int32)) hx hb dX6_sortAt_31 (by decide) ?_
      refine lv_goto (tgt := 74) hx hb dX6_sortAt_32 (by decide) ?_
      obtain rfl := Option.some.inj h
      exact ret_i X dX6_sortAt_74 hP hD hS rfl
  · have h := if_f h hc5
    refine lv_iconst (v := (0 : Int32)) hx hb dX6_sortAt_8 (by decide) ?_
    refine lv_goto (tgt := 74) hx hb dX6_sortAt_9 (by decide) ?_
    obtain rfl := Option.some.inj h
    exact ret_i X dX6_sortAt_74 hP hD hS rfl
end
set_option maxRecDepth 100000 in
theorem c_X6_sortAt (l : Launch) (E : Env0) (a_t : Nat) (a_tape : Nat) (a_refused : Nat) (a_now : Nat) (a_kept : Nat) (a_mind : Nat) (a_words : Nat) (a_wCell : Nat) (a_wFaces : Nat) (a_wTurns : Nat) (a_wSign : Nat) (a_wBy : Nat) (a_wFell : Nat) (a_telling : Nat) (a_holds : Nat) (a_sizes : Nat) (a_elements : Nat) (a_moved : Nat) (a_above : Nat) (a_out : Nat) (a_first : Nat) (l1 : Int32) (c_t : Nat → Int32) (c_tape : Nat → Int32) (sz : Nat) (res : Int32) (h : f_X6_sortAt l1 c_t c_tape = some res) : Met l yX6_sortAt wsX6_sortAt r_X6_sortAt (cPre E [.ref a_t, .int l1] (W_X6_sortAt E a_t a_tape a_refused a_now a_kept a_mind a_words a_wCell a_wFaces a_wTurns a_wSign a_wBy a_wFell a_telling a_holds a_sizes a_elements a_moved a_above a_out a_first c_t c_tape) sz) (qI E (va_A (W_X6_sortAt E a_t a_tape a_refused a_now a_kept a_mind a_words a_wCell a_wFaces a_wTurns a_wSign a_wBy a_wFell a_telling a_holds a_sizes a_elements a_moved a_above a_out a_first c_t c_tape) sz) res (W_X6_sortAt E a_t a_tape a_refused a_now a_kept a_mind a_words a_wCell a_wFaces a_wTurns a_wSign a_wBy a_wFell a_telling a_holds a_sizes a_elements a_moved a_above a_out a_first c_t c_tape)) 0 0 (va_A (W_X6_sortAt E a_t a_tape a_refused a_now a_kept a_mind a_words a_wCell a_wFaces a_wTurns a_wSign a_wBy a_wFell a_telling a_holds a_sizes a_elements a_moved a_above a_out a_first c_t c_tape) sz) :=
  met_of (Qc := fun A => qI E A res (W_X6_sortAt E a_t a_tape a_refused a_now a_kept a_mind a_words a_wCell a_wFaces a_wTurns a_wSign a_wBy a_wFell a_telling a_holds a_sizes a_elements a_moved a_above a_out a_first c_t c_tape)) (by decide) rfl (Nat.le_of_ble_eq_true rfl) (fun p e s m args below meth c X hP hD hS ls hl => w_X6_sortAt X a_t a_tape a_refused a_now a_kept a_mind a_words a_wCell a_wFaces a_wTurns a_wSign a_wBy a_wFell a_telling a_holds a_sizes a_elements a_moved a_above a_out a_first c_t c_tape res l1 ls _ _ h hP hD hS hl)
-- ===== X6_next
noncomputable abbrev W_X6_next (E : Env0) (a_t : Nat) (a_tape : Nat) (a_refused : Nat) (a_now : Nat) (a_kept : Nat) (a_mind : Nat) (a_words : Nat) (a_wCell : Nat) (a_wFaces : Nat) (a_wTurns : Nat) (a_wSign : Nat) (a_wBy : Nat) (a_wFell : Nat) (a_telling : Nat) (a_holds : Nat) (a_sizes : Nat) (a_elements : Nat) (a_moved : Nat) (a_above : Nat) (a_out : Nat) (a_first : Nat) (c_t : Nat → Int32) (c_tape : Nat → Int32) : va_W := [(a_t, .inr (6, [.ref a_refused, .ref a_now, .ref a_kept, .ref a_mind, .int (c_t 4), .ref a_tape, .int (c_t 6), .int (c_t 7), .int (c_t 8), .int (c_t 9), .ref a_words, .ref a_wCell, .ref a_wFaces, .ref a_wTurns, .ref a_wSign, .ref a_wBy, .ref a_wFell, .int (c_t 17), .ref a_telling, .ref a_holds, .ref a_sizes, .ref a_elements, .ref a_moved, .ref a_above, .ref a_out, .ref a_first])), (a_tape, .inl (eI E, 250, .inl c_tape))]
noncomputable abbrev r_X6_next : Room := { frames := 2, cells := 0, slots := 0, locals := 46 }
theorem hd_X6_next : yX6_next.cls ≠ "java/lang/invoke/MethodHandle" ∧ yX6_next.cls ≠ "java/lang/invoke/VarHandle" ∧ (parseMethodDescriptor yX6_next.desc).map (fun d => d.parameters.length) = some 0 := by decide +kernel
theorem hV_X6_next : yX6_next.cls = RX6 ∧ yX6_next.cls ≠ "java/lang/invoke/MethodHandle" ∧ yX6_next.cls ≠ "java/lang/invoke/VarHandle" ∧ (parseMethodDescriptor yX6_next.desc).map (fun d => d.parameters.length) = some 0 := ⟨rfl, hd_X6_next⟩
theorem iX6_next_X6 : ∀ w ∈ wsX60, w ∈ wsX6_next := fun _ h => List.mem_cons_of_mem _ (List.mem_append_right _ (h))
section
variable {p : Program} {l : Launch} {e : Env} {s : State} {m : MethodId} {args : Array Value} {below : List Frame} {meth : Method} {c : Code} {E : Env0} {A : Nat → Prop}
set_option maxRecDepth 100000 in
set_option maxHeartbeats 4000000 in
theorem w_X6_next_b75 (X : Ctx p m meth c cX6_next 1 none s args wsX6_next RX6 E A) (a_t : Nat) (a_tape : Nat) (a_refused : Nat) (a_now : Nat) (a_kept : Nat) (a_mind : Nat) (a_words : Nat) (a_wCell : Nat) (a_wFaces : Nat) (a_wTurns : Nat) (a_wSign : Nat) (a_wBy : Nat) (a_wFell : Nat) (a_telling : Nat) (a_holds : Nat) (a_sizes : Nat) (a_elements : Nat) (a_moved : Nat) (a_above : Nat) (a_out : Nat) (a_first : Nat) (c_tape : Nat → Int32) (res : (Nat → Int32)) : ∀ (n : Nat) (c_t : Nat → Int32) (ls : Array Slot) (H : Heap) (locs : List Loc), f_X6_next_b75 c_tape n c_t = some res → va_P E.1 vwCl (W_X6_next E a_t a_tape a_refused a_now a_kept a_mind a_words a_wCell a_wFaces a_wTurns a_wSign a_wBy a_wFell a_telling a_holds a_sizes a_elements a_moved a_above a_out a_first c_t c_tape) H → va_D A (W_X6_next E a_t a_tape a_refused a_now a_kept a_mind a_words a_wCell a_wFaces a_wTurns a_wSign a_wBy a_wFell a_telling a_holds a_sizes a_elements a_moved a_above a_out a_first c_t c_tape) → va_S A s.heap H locs → lv_has ls 1 [(0, .ref a_t)] → W p l e r_X6_next s m args below meth c H locs 0 0 (MQ below (qV E A (W_X6_next E a_t a_tape a_refused a_now a_kept a_mind a_words a_wCell a_wFaces a_wTurns a_wSign a_wBy a_wFell a_telling a_holds a_sizes a_elements a_moved a_above a_out a_first res c_tape)) args s 0 0 A) (F0 m 75 ls []) := by
  obtain ⟨hx, hb, hml, hr, hlk, hown, hts, hG, hA⟩ := id X
  have hK := hG.1
  have hN := hG.2.1
  intro n
  induction n with
  | zero =>
    intro c_t ls H locs h
    exact absurd (show (none : Option ((Nat → Int32))) = some res from h) (by intro q; cases q)
  | succ n ih =>
    intro c_t ls H locs h hP hD hS hl
    rw [f_X6_next_b75] at h
    refine lv_aload_n hx hb dX6_next_75 rfl (lv_at hl 0 rfl) ?_
    refine va_get (D := E.1) (ci := 6) (v := .int (c_t 9)) (C := RX6) (T := TX6) (N := 26) hx hb hts iX6_next_X6 hown hK hP 0 rfl rfl 9 (by decide) (hts (.fieldLink RX6 153 "LeftIsAgreedOnModel" "sort" "I") (List.mem_of_getElem? (i := 5) rfl)) (fun _ h9 => h9) rfl dX6_next_76 ?_
    refine lv_iconst (v := (3 : Int32)) hx hb dX6_next_79 (by decide) ?_
    refine lv_icmp_ge (tgt := 111) hx hb dX6_next_80 (by decide) (fun hc80 => ?_) (fun hc80 => ?_)
    · have h := if_t h hc80
      obtain rfl := Option.some.inj h
      exact ret_v X dX6_next_111 hP hD hS
    · have h := if_f h hc80
      refine lv_aload_n hx hb dX6_next_83 rfl (lv_at hl 0 rfl) ?_
      refine lv_aload_n hx hb dX6_next_84 rfl (lv_at hl 0 rfl) ?_
      refine va_get (D := E.1) (ci := 6) (v := .int (c_t 7)) (C := RX6) (T := TX6) (N := 26) hx hb hts iX6_next_X6 hown hK hP 0 rfl rfl 7 (by decide) (hts (.fieldLink RX6 144 "LeftIsAgreedOnModel" "at" "I") (List.mem_of_getElem? (i := 1) rfl)) (fun _ h9 => h9) rfl dX6_next_85 ?_
      obtain ⟨v1, hv1, h⟩ := bind_of h
      refine after_i X (run_V X (c_X6_sortAt l E a_t a_tape a_refused a_now a_kept a_mind a_words a_wCell a_wFaces a_wTurns a_wSign a_wBy a_wFell a_telling a_holds a_sizes a_elements a_moved a_above a_out a_first (c_t 7) c_t c_tape H.size v1 hv1) (cwV 1 hts gX6_next_X6_sortAt rfl rfl rfl hV_X6_sortAt ⟨(Nat.le_of_ble_eq_true rfl), (Nat.le_of_ble_eq_true rfl)⟩) hP hD hS [0, 1] rfl rfl hl.1 (ci := 6) rfl rfl rfl (rest := []) rfl rfl (Nat.le_of_ble_eq_true rfl) dX6_next_88) hP hD hS [0, 1] rfl (ws1 := (W_X6_next E a_t a_tape a_refused a_now a_kept a_mind a_words a_wCell a_wFaces a_wTurns a_wSign a_wBy a_wFell a_telling a_holds a_sizes a_elements a_moved a_above a_out a_first c_t c_tape)) rfl (fun H locs hP hD hS => ?_)
      refine lv_aload_n hx hb dX6_next_91 rfl (lv_at hl 0 rfl) ?_
      refine va_get (D := E.1) (ci := 6) (v := .int (c_t 9)) (C := RX6) (T := TX6) (N := 26) hx hb hts iX6_next_X6 hown hK hP 0 rfl rfl 9 (by decide) (hts (.fieldLink RX6 153 "LeftIsAgreedOnModel" "sort" "I") (List.mem_of_getElem? (i := 5) rfl)) (fun _ h9 => h9) rfl dX6_next_92 ?_
      refine lv_icmp_ne (tgt := 111) hx hb dX6_next_95 (by decide) (fun hc95 => ?_) (fun hc95 => ?_)
      · have h := if_f h hc95
        obtain rfl := Option.some.inj h
        exact ret_v X dX6_next_111 hP hD hS
      · have h := if_t h hc95
        refine lv_aload_n hx hb dX6_next_98 rfl (lv_at hl 0 rfl) ?_
        refine lv_dup hx hb dX6_next_99 rfl ?_
        refine va_get (D := E.1) (ci := 6) (v := .int (c_t 7)) (C := RX6) (T := TX6) (N := 26) hx hb hts iX6_next_X6 hown hK hP 0 rfl rfl 7 (by decide) (hts (.fieldLink RX6 144 "LeftIsAgreedOnModel" "at" "I") (List.mem_of_getElem? (i := 1) rfl)) (fun _ h9 => h9) rfl dX6_next_100 ?_
        refine lv_iconst (v := (1 : Int32)) hx hb dX6_next_103 (by decide) ?_
        refine lv_iadd hx hb dX6_next_104 ?_
        refine va_put (D := E.1) (ci := 6) (v := .int ((c_t 7) + (1 : Int32))) (ty := .int) (C := RX6) (T := TX6) (N := 26) hx hb hts iX6_next_X6 tyX6 tyX6_ok nmX6 hown hK hP hD hS 0 rfl rfl 7 (by decide) (hts (.fieldLink RX6 144 "LeftIsAgreedOnModel" "at" "I") (List.mem_of_getElem? (i := 1) rfl)) (fun _ h9 => h9) rfl (tyX6_ok 7 (by decide)) rfl rfl (Nat.le_of_ble_eq_true rfl) dX6_next_105 (fun H locs hP hD hS => ?_)
        have hP : va_P E.1 vwCl (W_X6_next E a_t a_tape a_refused a_now a_kept a_mind a_words a_wCell a_wFaces a_wTurns a_wSign a_wBy a_wFell a_telling a_holds a_sizes a_elements a_moved a_above a_out a_first (upd c_t 7 ((c_t 7) + (1 : Int32))) c_tape) H := hP
        have hD : va_D A (W_X6_next E a_t a_tape a_refused a_now a_kept a_mind a_words a_wCell a_wFaces a_wTurns a_wSign a_wBy a_wFell a_telling a_holds a_sizes a_elements a_moved a_above a_out a_first (upd c_t 7 ((c_t 7) + (1 : Int32))) c_tape) := hD
        refine lv_goto (tgt := 75) hx hb dX6_next_108 (by decide) ?_
        exact ih (upd c_t 7 ((c_t 7) + (1 : Int32))) _ _ _ h hP hD hS (lv_sub hl [0] rfl)
set_option maxRecDepth 100000 in
set_option maxHeartbeats 4000000 in
theorem w_X6_next_b38 (X : Ctx p m meth c cX6_next 1 none s args wsX6_next RX6 E A) (a_t : Nat) (a_tape : Nat) (a_refused : Nat) (a_now : Nat) (a_kept : Nat) (a_mind : Nat) (a_words : Nat) (a_wCell : Nat) (a_wFaces : Nat) (a_wTurns : Nat) (a_wSign : Nat) (a_wBy : Nat) (a_wFell : Nat) (a_telling : Nat) (a_holds : Nat) (a_sizes : Nat) (a_elements : Nat) (a_moved : Nat) (a_above : Nat) (a_out : Nat) (a_first : Nat) (c_tape : Nat → Int32) (res : (Nat → Int32)) (c_t : Nat → Int32) (ls : Array Slot) (H : Heap) (locs : List Loc) (h : f_X6_next_b38 c_tape c_t = some res) (hP : va_P E.1 vwCl (W_X6_next E a_t a_tape a_refused a_now a_kept a_mind a_words a_wCell a_wFaces a_wTurns a_wSign a_wBy a_wFell a_telling a_holds a_sizes a_elements a_moved a_above a_out a_first c_t c_tape) H) (hD : va_D A (W_X6_next E a_t a_tape a_refused a_now a_kept a_mind a_words a_wCell a_wFaces a_wTurns a_wSign a_wBy a_wFell a_telling a_holds a_sizes a_elements a_moved a_above a_out a_first c_t c_tape)) (hS : va_S A s.heap H locs) (hl : lv_has ls 1 [(0, .ref a_t)]) : W p l e r_X6_next s m args below meth c H locs 0 0 (MQ below (qV E A (W_X6_next E a_t a_tape a_refused a_now a_kept a_mind a_words a_wCell a_wFaces a_wTurns a_wSign a_wBy a_wFell a_telling a_holds a_sizes a_elements a_moved a_above a_out a_first res c_tape)) args s 0 0 A) (F0 m 38 ls []) := by
  obtain ⟨hx, hb, hml, hr, hlk, hown, hts, hG, hA⟩ := id X
  have hK := hG.1
  have hN := hG.2.1
  unfold f_X6_next_b38 at h
  refine lv_aload_n hx hb dX6_next_38 rfl (lv_at hl 0 rfl) ?_
  refine lv_aload_n hx hb dX6_next_39 rfl (lv_at hl 0 rfl) ?_
  refine va_get (D := E.1) (ci := 6) (v := .int (c_t 7)) (C := RX6) (T := TX6) (N := 26) hx hb hts iX6_next_X6 hown hK hP 0 rfl rfl 7 (by decide) (hts (.fieldLink RX6 144 "LeftIsAgreedOnModel" "at" "I") (List.mem_of_getElem? (i := 1) rfl)) (fun _ h9 => h9) rfl dX6_next_40 ?_
  refine va_put (D := E.1) (ci := 6) (v := .int (c_t 7)) (ty := .int) (C := RX6) (T := TX6) (N := 26) hx hb hts iX6_next_X6 tyX6 tyX6_ok nmX6 hown hK hP hD hS 0 rfl rfl 8 (by decide) (hts (.fieldLink RX6 147 "LeftIsAgreedOnModel" "from" "I") (List.mem_of_getElem? (i := 4) rfl)) (fun _ h9 => h9) rfl (tyX6_ok 8 (by decide)) rfl rfl (Nat.le_of_ble_eq_true rfl) dX6_next_43 (fun H locs hP hD hS => ?_)
  have hP : va_P E.1 vwCl (W_X6_next E a_t a_tape a_refused a_now a_kept a_mind a_words a_wCell a_wFaces a_wTurns a_wSign a_wBy a_wFell a_telling a_holds a_sizes a_elements a_moved a_above a_out a_first (upd c_t 8 (c_t 7)) c_tape) H := hP
  have hD : va_D A (W_X6_next E a_t a_tape a_refused a_now a_kept a_mind a_words a_wCell a_wFaces a_wTurns a_wSign a_wBy a_wFell a_telling a_holds a_sizes a_elements a_moved a_above a_out a_first (upd c_t 8 (c_t 7)) c_tape) := hD
  refine lv_aload_n hx hb dX6_next_46 rfl (lv_at hl 0 rfl) ?_
  refine lv_aload_n hx hb dX6_next_47 rfl (lv_at hl 0 rfl) ?_
  refine lv_aload_n hx hb dX6_next_48 rfl (lv_at hl 0 rfl) ?_
  refine va_get (D := E.1) (ci := 6) (v := .int ((upd c_t 8 (c_t 7)) 7)) (C := RX6) (T := TX6) (N := 26) hx hb hts iX6_next_X6 hown hK hP 0 rfl rfl 7 (by decide) (hts (.fieldLink RX6 144 "LeftIsAgreedOnModel" "at" "I") (List.mem_of_getElem? (i := 1) rfl)) (fun _ h9 => h9) rfl dX6_next_49 ?_
  obtain ⟨v1, hv1, h⟩ := bind_of h
  refine after_i X (run_V X (c_X6_sortAt l E a_t a_tape a_refused a_now a_kept a_mind a_words a_wCell a_wFaces a_wTurns a_wSign a_wBy a_wFell a_telling a_holds a_sizes a_elements a_moved a_above a_out a_first ((upd c_t 8 (c_t 7)) 7) (upd c_t 8 (c_t 7)) c_tape H.size v1 hv1) (cwV 1 hts gX6_next_X6_sortAt rfl rfl rfl hV_X6_sortAt ⟨(Nat.le_of_ble_eq_true rfl), (Nat.le_of_ble_eq_true rfl)⟩) hP hD hS [0, 1] rfl rfl hl.1 (ci := 6) rfl rfl rfl (rest := [.ref a_t]) rfl rfl (Nat.le_of_ble_eq_true rfl) dX6_next_52) hP hD hS [0, 1] rfl (ws1 := (W_X6_next E a_t a_tape a_refused a_now a_kept a_mind a_words a_wCell a_wFaces a_wTurns a_wSign a_wBy a_wFell a_telling a_holds a_sizes a_elements a_moved a_above a_out a_first (upd c_t 8 (c_t 7)) c_tape)) rfl (fun H locs hP hD hS => ?_)
  refine va_put (D := E.1) (ci := 6) (v := .int v1) (ty := .int) (C := RX6) (T := TX6) (N := 26) hx hb hts iX6_next_X6 tyX6 tyX6_ok nmX6 hown hK hP hD hS 0 rfl rfl 9 (by decide) (hts (.fieldLink RX6 153 "LeftIsAgreedOnModel" "sort" "I") (List.mem_of_getElem? (i := 5) rfl)) (fun _ h9 => h9) rfl (tyX6_ok 9 (by decide)) rfl rfl (Nat.le_of_ble_eq_true rfl) dX6_next_55 (fun H locs hP hD hS => ?_)
  have hP : va_P E.1 vwCl (W_X6_next E a_t a_tape a_refused a_now a_kept a_mind a_words a_wCell a_wFaces a_wTurns a_wSign a_wBy a_wFell a_telling a_holds a_sizes a_elements a_moved a_above a_out a_first (upd (upd c_t 8 (c_t 7)) 9 v1) c_tape) H := hP
  have hD : va_D A (W_X6_next E a_t a_tape a_refused a_now a_kept a_mind a_words a_wCell a_wFaces a_wTurns a_wSign a_wBy a_wFell a_telling a_holds a_sizes a_elements a_moved a_above a_out a_first (upd (upd c_t 8 (c_t 7)) 9 v1) c_tape) := hD
  refine lv_aload_n hx hb dX6_next_58 rfl (lv_at hl 0 rfl) ?_
  refine va_get (D := E.1) (ci := 6) (v := .int ((upd (upd c_t 8 (c_t 7)) 9 v1) 9)) (C := RX6) (T := TX6) (N := 26) hx hb hts iX6_next_X6 hown hK hP 0 rfl rfl 9 (by decide) (hts (.fieldLink RX6 153 "LeftIsAgreedOnModel" "sort" "I") (List.mem_of_getElem? (i := 5) rfl)) (fun _ h9 => h9) rfl dX6_next_59 ?_
  refine lv_if_le (tgt := 111) hx hb dX6_next_62 (by decide) (fun hc62 => ?_) (fun hc62 => ?_)
  · have h := if_t h hc62
    obtain rfl := Option.some.inj h
    exact ret_v X dX6_next_111 hP hD hS
  · have h := if_f h hc62
    refine lv_aload_n hx hb dX6_next_65 rfl (lv_at hl 0 rfl) ?_
    refine lv_dup hx hb dX6_next_66 rfl ?_
    refine va_get (D := E.1) (ci := 6) (v := .int ((upd (upd c_t 8 (c_t 7)) 9 v1) 7)) (C := RX6) (T := TX6) (N := 26) hx hb hts iX6_next_X6 hown hK hP 0 rfl rfl 7 (by decide) (hts (.fieldLink RX6 144 "LeftIsAgreedOnModel" "at" "I") (List.mem_of_getElem? (i := 1) rfl)) (fun _ h9 => h9) rfl dX6_next_67 ?_
    refine lv_iconst (v := (1 : Int32)) hx hb dX6_next_70 (by decide) ?_
    refine lv_iadd hx hb dX6_next_71 ?_
    refine va_put (D := E.1) (ci := 6) (v := .int (((upd (upd c_t 8 (c_t 7)) 9 v1) 7) + (1 : Int32))) (ty := .int) (C := RX6) (T := TX6) (N := 26) hx hb hts iX6_next_X6 tyX6 tyX6_ok nmX6 hown hK hP hD hS 0 rfl rfl 7 (by decide) (hts (.fieldLink RX6 144 "LeftIsAgreedOnModel" "at" "I") (List.mem_of_getElem? (i := 1) rfl)) (fun _ h9 => h9) rfl (tyX6_ok 7 (by decide)) rfl rfl (Nat.le_of_ble_eq_true rfl) dX6_next_72 (fun H locs hP hD hS => ?_)
    have hP : va_P E.1 vwCl (W_X6_next E a_t a_tape a_refused a_now a_kept a_mind a_words a_wCell a_wFaces a_wTurns a_wSign a_wBy a_wFell a_telling a_holds a_sizes a_elements a_moved a_above a_out a_first (upd (upd (upd c_t 8 (c_t 7)) 9 v1) 7 (((upd (upd c_t 8 (c_t 7)) 9 v1) 7) + (1 : Int32))) c_tape) H := hP
    have hD : va_D A (W_X6_next E a_t a_tape a_refused a_now a_kept a_mind a_words a_wCell a_wFaces a_wTurns a_wSign a_wBy a_wFell a_telling a_holds a_sizes a_elements a_moved a_above a_out a_first (upd (upd (upd c_t 8 (c_t 7)) 9 v1) 7 (((upd (upd c_t 8 (c_t 7)) 9 v1) 7) + (1 : Int32))) c_tape) := hD
    exact w_X6_next_b75 X a_t a_tape a_refused a_now a_kept a_mind a_words a_wCell a_wFaces a_wTurns a_wSign a_wBy a_wFell a_telling a_holds a_sizes a_elements a_moved a_above a_out a_first c_tape res FU (upd (upd (upd c_t 8 (c_t 7)) 9 v1) 7 (((upd (upd c_t 8 (c_t 7)) 9 v1) 7) + (1 : Int32))) _ _ _ h hP hD hS (lv_sub hl [0] rfl)
set_option maxRecDepth 100000 in
set_option maxHeartbeats 4000000 in
theorem w_X6_next_b0 (X : Ctx p m meth c cX6_next 1 none s args wsX6_next RX6 E A) (a_t : Nat) (a_tape : Nat) (a_refused : Nat) (a_now : Nat) (a_kept : Nat) (a_mind : Nat) (a_words : Nat) (a_wCell : Nat) (a_wFaces : Nat) (a_wTurns : Nat) (a_wSign : Nat) (a_wBy : Nat) (a_wFell : Nat) (a_telling : Nat) (a_holds : Nat) (a_sizes : Nat) (a_elements : Nat) (a_moved : Nat) (a_above : Nat) (a_out : Nat) (a_first : Nat) (c_tape : Nat → Int32) (res : (Nat → Int32)) : ∀ (n : Nat) (c_t : Nat → Int32) (ls : Array Slot) (H : Heap) (locs : List Loc), f_X6_next_b0 c_tape n c_t = some res → va_P E.1 vwCl (W_X6_next E a_t a_tape a_refused a_now a_kept a_mind a_words a_wCell a_wFaces a_wTurns a_wSign a_wBy a_wFell a_telling a_holds a_sizes a_elements a_moved a_above a_out a_first c_t c_tape) H → va_D A (W_X6_next E a_t a_tape a_refused a_now a_kept a_mind a_words a_wCell a_wFaces a_wTurns a_wSign a_wBy a_wFell a_telling a_holds a_sizes a_elements a_moved a_above a_out a_first c_t c_tape) → va_S A s.heap H locs → lv_has ls 1 [(0, .ref a_t)] → W p l e r_X6_next s m args below meth c H locs 0 0 (MQ below (qV E A (W_X6_next E a_t a_tape a_refused a_now a_kept a_mind a_words a_wCell a_wFaces a_wTurns a_wSign a_wBy a_wFell a_telling a_holds a_sizes a_elements a_moved a_above a_out a_first res c_tape)) args s 0 0 A) (F0 m 0 ls []) := by
  obtain ⟨hx, hb, hml, hr, hlk, hown, hts, hG, hA⟩ := id X
  have hK := hG.1
  have hN := hG.2.1
  intro n
  induction n with
  | zero =>
    intro c_t ls H locs h
    exact absurd (show (none : Option ((Nat → Int32))) = some res from h) (by intro q; cases q)
  | succ n ih =>
    intro c_t ls H locs h hP hD hS hl
    rw [f_X6_next_b0] at h
    refine lv_aload_n hx hb dX6_next_0 rfl (lv_at hl 0 rfl) ?_
    refine va_get (D := E.1) (ci := 6) (v := .int (c_t 7)) (C := RX6) (T := TX6) (N := 26) hx hb hts iX6_next_X6 hown hK hP 0 rfl rfl 7 (by decide) (hts (.fieldLink RX6 144 "LeftIsAgreedOnModel" "at" "I") (List.mem_of_getElem? (i := 1) rfl)) (fun _ h9 => h9) rfl dX6_next_1 ?_
    refine lv_aload_n hx hb dX6_next_4 rfl (lv_at hl 0 rfl) ?_
    refine va_get (D := E.1) (ci := 6) (v := .int (c_t 6)) (C := RX6) (T := TX6) (N := 26) hx hb hts iX6_next_X6 hown hK hP 0 rfl rfl 6 (by decide) (hts (.fieldLink RX6 132 "LeftIsAgreedOnModel" "size" "I") (List.mem_of_getElem? (i := 2) rfl)) (fun _ h9 => h9) rfl dX6_next_5 ?_
    refine lv_icmp_ge (tgt := 38) hx hb dX6_next_8 (by decide) (fun hc8 => ?_) (fun hc8 => ?_)
    · have h := if_t h hc8
      exact w_X6_next_b38 X a_t a_tape a_refused a_now a_kept a_mind a_words a_wCell a_wFaces a_wTurns a_wSign a_wBy a_wFell a_telling a_holds a_sizes a_elements a_moved a_above a_out a_first c_tape res c_t _ _ _ h hP hD hS (lv_sub hl [0] rfl)
    · have h := if_f h hc8
      refine lv_aload_n hx hb dX6_next_11 rfl (lv_at hl 0 rfl) ?_
      refine va_get (D := E.1) (ci := 6) (v := .ref a_tape) (C := RX6) (T := TX6) (N := 26) hx hb hts iX6_next_X6 hown hK hP 0 rfl rfl 5 (by decide) (hts (.fieldLink RX6 26 "LeftIsAgreedOnModel" "tape" "[I") (List.mem_of_getElem? (i := 3) rfl)) (fun _ h9 => h9) rfl dX6_next_12 ?_
      refine lv_aload_n hx hb dX6_next_15 rfl (lv_at hl 0 rfl) ?_
      refine va_get (D := E.1) (ci := 6) (v := .int (c_t 7)) (C := RX6) (T := TX6) (N := 26) hx hb hts iX6_next_X6 hown hK hP 0 rfl rfl 7 (by decide) (hts (.fieldLink RX6 144 "LeftIsAgreedOnModel" "at" "I") (List.mem_of_getElem? (i := 1) rfl)) (fun _ h9 => h9) rfl dX6_next_16 ?_
      obtain ⟨hz19, h⟩ := chk_of h
      refine ld_i X hP 1 rfl (inb.vp hz19) (v := (c_tape ((c_t 7)).toNatClampNeg)) rfl dX6_next_19 ?_
      refine lv_bipush (v := (32 : Int32)) hx hb dX6_next_20 (by decide) ?_
      refine lv_icmp_ne (tgt := 38) hx hb dX6_next_22 (by decide) (fun hc22 => ?_) (fun hc22 => ?_)
      · have h := if_f h hc22
        exact w_X6_next_b38 X a_t a_tape a_refused a_now a_kept a_mind a_words a_wCell a_wFaces a_wTurns a_wSign a_wBy a_wFell a_telling a_holds a_sizes a_elements a_moved a_above a_out a_first c_tape res c_t _ _ _ h hP hD hS (lv_sub hl [0] rfl)
      · have h := if_t h hc22
        refine lv_aload_n hx hb dX6_next_25 rfl (lv_at hl 0 rfl) ?_
        refine lv_dup hx hb dX6_next_26 rfl ?_
        refine va_get (D := E.1) (ci := 6) (v := .int (c_t 7)) (C := RX6) (T := TX6) (N := 26) hx hb hts iX6_next_X6 hown hK hP 0 rfl rfl 7 (by decide) (hts (.fieldLink RX6 144 "LeftIsAgreedOnModel" "at" "I") (List.mem_of_getElem? (i := 1) rfl)) (fun _ h9 => h9) rfl dX6_next_27 ?_
        refine lv_iconst (v := (1 : Int32)) hx hb dX6_next_30 (by decide) ?_
        refine lv_iadd hx hb dX6_next_31 ?_
        refine va_put (D := E.1) (ci := 6) (v := .int ((c_t 7) + (1 : Int32))) (ty := .int) (C := RX6) (T := TX6) (N := 26) hx hb hts iX6_next_X6 tyX6 tyX6_ok nmX6 hown hK hP hD hS 0 rfl rfl 7 (by decide) (hts (.fieldLink RX6 144 "LeftIsAgreedOnModel" "at" "I") (List.mem_of_getElem? (i := 1) rfl)) (fun _ h9 => h9) rfl (tyX6_ok 7 (by decide)) rfl rfl (Nat.le_of_ble_eq_true rfl) dX6_next_32 (fun H locs hP hD hS => ?_)
        have hP : va_P E.1 vwCl (W_X6_next E a_t a_tape a_refused a_now a_kept a_mind a_words a_wCell a_wFaces a_wTurns a_wSign a_wBy a_wFell a_telling a_holds a_sizes a_elements a_moved a_above a_out a_first (upd c_t 7 ((c_t 7) + (1 : Int32))) c_tape) H := hP
        have hD : va_D A (W_X6_next E a_t a_tape a_refused a_now a_kept a_mind a_words a_wCell a_wFaces a_wTurns a_wSign a_wBy a_wFell a_telling a_holds a_sizes a_elements a_moved a_above a_out a_first (upd c_t 7 ((c_t 7) + (1 : Int32))) c_tape) := hD
        refine lv_goto (tgt := 0) hx hb dX6_next_35 (by decide) ?_
        exact ih (upd c_t 7 ((c_t 7) + (1 : Int32))) _ _ _ h hP hD hS (lv_sub hl [0] rfl)
set_option maxRecDepth 100000 in
set_option maxHeartbeats 4000000 in
theorem w_X6_next (X : Ctx p m meth c cX6_next 1 none s args wsX6_next RX6 E A) (a_t : Nat) (a_tape : Nat) (a_refused : Nat) (a_now : Nat) (a_kept : Nat) (a_mind : Nat) (a_words : Nat) (a_wCell : Nat) (a_wFaces : Nat) (a_wTurns : Nat) (a_wSign : Nat) (a_wBy : Nat) (a_wFell : Nat) (a_telling : Nat) (a_holds : Nat) (a_sizes : Nat) (a_elements : Nat) (a_moved : Nat) (a_above : Nat) (a_out : Nat) (a_first : Nat) (c_tape : Nat → Int32) (res : (Nat → Int32)) (c_t : Nat → Int32) (ls : Array Slot) (H : Heap) (locs : List Loc) (h : f_X6_next c_t c_tape = some res) (hP : va_P E.1 vwCl (W_X6_next E a_t a_tape a_refused a_now a_kept a_mind a_words a_wCell a_wFaces a_wTurns a_wSign a_wBy a_wFell a_telling a_holds a_sizes a_elements a_moved a_above a_out a_first c_t c_tape) H) (hD : va_D A (W_X6_next E a_t a_tape a_refused a_now a_kept a_mind a_words a_wCell a_wFaces a_wTurns a_wSign a_wBy a_wFell a_telling a_holds a_sizes a_elements a_moved a_above a_out a_first c_t c_tape)) (hS : va_S A s.heap H locs) (hl : lv_has ls 1 [(0, .ref a_t)]) : W p l e r_X6_next s m args below meth c H locs 0 0 (MQ below (qV E A (W_X6_next E a_t a_tape a_refused a_now a_kept a_mind a_words a_wCell a_wFaces a_wTurns a_wSign a_wBy a_wFell a_telling a_holds a_sizes a_elements a_moved a_above a_out a_first res c_tape)) args s 0 0 A) (F0 m 0 ls []) := by
  obtain ⟨hx, hb, hml, hr, hlk, hown, hts, hG, hA⟩ := id X
  have hK := hG.1
  have hN := hG.2.1
  unfold f_X6_next at h
  exact w_X6_next_b0 X a_t a_tape a_refused a_now a_kept a_mind a_words a_wCell a_wFaces a_wTurns a_wSign a_wBy a_wFell a_telling a_holds a_sizes a_elements a_moved a_above a_out a_first c_tape res FU c_t _ _ _ h hP hD hS (lv_sub hl [0] rfl)
end
set_option maxRecDepth 100000 in
theorem c_X6_next (l : Launch) (E : Env0) (a_t : Nat) (a_tape : Nat) (a_refused : Nat) (a_now : Nat) (a_kept : Nat) (a_mind : Nat) (a_words : Nat) (a_wCell : Nat) (a_wFaces : Nat) (a_wTurns : Nat) (a_wSign : Nat) (a_wBy : Nat) (a_wFell : Nat) (a_telling : Nat) (a_holds : Nat) (a_sizes : Nat) (a_elements : Nat) (a_moved : Nat) (a_above : Nat) (a_out : Nat) (a_first : Nat) (c_t : Nat → Int32) (c_tape : Nat → Int32) (sz : Nat) (res : (Nat → Int32)) (h : f_X6_next c_t c_tape = some res) : Met l yX6_next wsX6_next r_X6_next (cPre E [.ref a_t] (W_X6_next E a_t a_tape a_refused a_now a_kept a_mind a_words a_wCell a_wFaces a_wTurns a_wSign a_wBy a_wFell a_telling a_holds a_sizes a_elements a_moved a_above a_out a_first c_t c_tape) sz) (qV E (va_A (W_X6_next E a_t a_tape a_refused a_now a_kept a_mind a_words a_wCell a_wFaces a_wTurns a_wSign a_wBy a_wFell a_telling a_holds a_sizes a_elements a_moved a_above a_out a_first c_t c_tape) sz) (W_X6_next E a_t a_tape a_refused a_now a_kept a_mind a_words a_wCell a_wFaces a_wTurns a_wSign a_wBy a_wFell a_telling a_holds a_sizes a_elements a_moved a_above a_out a_first res c_tape)) 0 0 (va_A (W_X6_next E a_t a_tape a_refused a_now a_kept a_mind a_words a_wCell a_wFaces a_wTurns a_wSign a_wBy a_wFell a_telling a_holds a_sizes a_elements a_moved a_above a_out a_first c_t c_tape) sz) :=
  met_of (Qc := fun A => qV E A (W_X6_next E a_t a_tape a_refused a_now a_kept a_mind a_words a_wCell a_wFaces a_wTurns a_wSign a_wBy a_wFell a_telling a_holds a_sizes a_elements a_moved a_above a_out a_first res c_tape)) (by decide) rfl (Nat.le_of_ble_eq_true rfl) (fun p e s m args below meth c X hP hD hS ls hl => w_X6_next X a_t a_tape a_refused a_now a_kept a_mind a_words a_wCell a_wFaces a_wTurns a_wSign a_wBy a_wFell a_telling a_holds a_sizes a_elements a_moved a_above a_out a_first c_tape res c_t ls _ _ h hP hD hS hl)
-- ===== X6_word
noncomputable abbrev W_X6_word (E : Env0) (a_t : Nat) (a_tape : Nat) (a_words : Nat) (a_refused : Nat) (a_now : Nat) (a_kept : Nat) (a_mind : Nat) (a_wCell : Nat) (a_wFaces : Nat) (a_wTurns : Nat) (a_wSign : Nat) (a_wBy : Nat) (a_wFell : Nat) (a_telling : Nat) (a_holds : Nat) (a_sizes : Nat) (a_elements : Nat) (a_moved : Nat) (a_above : Nat) (a_out : Nat) (a_first : Nat) (c_t : Nat → Int32) (c_tape : Nat → Int32) (c_words : Nat → Int32) : va_W := [(a_t, .inr (6, [.ref a_refused, .ref a_now, .ref a_kept, .ref a_mind, .int (c_t 4), .ref a_tape, .int (c_t 6), .int (c_t 7), .int (c_t 8), .int (c_t 9), .ref a_words, .ref a_wCell, .ref a_wFaces, .ref a_wTurns, .ref a_wSign, .ref a_wBy, .ref a_wFell, .int (c_t 17), .ref a_telling, .ref a_holds, .ref a_sizes, .ref a_elements, .ref a_moved, .ref a_above, .ref a_out, .ref a_first])), (a_tape, .inl (eI E, 250, .inl c_tape)), (a_words, .inl (eC E, 48, .inl c_words))]
noncomputable abbrev r_X6_word : Room := { frames := 0, cells := 0, slots := 0, locals := 0 }
theorem hd_X6_word : yX6_word.cls ≠ "java/lang/invoke/MethodHandle" ∧ yX6_word.cls ≠ "java/lang/invoke/VarHandle" ∧ (parseMethodDescriptor yX6_word.desc).map (fun d => d.parameters.length) = some 0 := by decide +kernel
theorem hV_X6_word : yX6_word.cls = RX6 ∧ yX6_word.cls ≠ "java/lang/invoke/MethodHandle" ∧ yX6_word.cls ≠ "java/lang/invoke/VarHandle" ∧ (parseMethodDescriptor yX6_word.desc).map (fun d => d.parameters.length) = some 0 := ⟨rfl, hd_X6_word⟩
theorem iX6_word_X6 : ∀ w ∈ wsX60, w ∈ wsX6_word := fun _ h => List.mem_cons_of_mem _ (List.mem_append_right _ (h))
section
variable {p : Program} {l : Launch} {e : Env} {s : State} {m : MethodId} {args : Array Value} {below : List Frame} {meth : Method} {c : Code} {E : Env0} {A : Nat → Prop}
set_option maxRecDepth 100000 in
set_option maxHeartbeats 4000000 in
theorem w_X6_word_b102 (X : Ctx p m meth c cX6_word 5 ((some .int)) s args wsX6_word RX6 E A) (a_t : Nat) (a_tape : Nat) (a_words : Nat) (a_refused : Nat) (a_now : Nat) (a_kept : Nat) (a_mind : Nat) (a_wCell : Nat) (a_wFaces : Nat) (a_wTurns : Nat) (a_wSign : Nat) (a_wBy : Nat) (a_wFell : Nat) (a_telling : Nat) (a_holds : Nat) (a_sizes : Nat) (a_elements : Nat) (a_moved : Nat) (a_above : Nat) (a_out : Nat) (a_first : Nat) (c_t : Nat → Int32) (c_tape : Nat → Int32) (c_words : Nat → Int32) (res : Int32) (k4 : Int32 → Int32 → Option (Int32)) (hk4 : ∀ (l1 : Int32) (l2 : Int32) (ls : Array Slot) (H : Heap) (locs : List Loc), k4 l1 l2 = some res → va_P E.1 vwCl (W_X6_word E a_t a_tape a_words a_refused a_now a_kept a_mind a_wCell a_wFaces a_wTurns a_wSign a_wBy a_wFell a_telling a_holds a_sizes a_elements a_moved a_above a_out a_first c_t c_tape c_words) H → va_D A (W_X6_word E a_t a_tape a_words a_refused a_now a_kept a_mind a_wCell a_wFaces a_wTurns a_wSign a_wBy a_wFell a_telling a_holds a_sizes a_elements a_moved a_above a_out a_first c_t c_tape c_words) → va_S A s.heap H locs → lv_has ls 5 [(0, .ref a_t), (1, .int l1), (2, .int l2)] → W p l e r_X6_word s m args below meth c H locs 0 0 (MQ below (qI E A res (W_X6_word E a_t a_tape a_words a_refused a_now a_kept a_mind a_wCell a_wFaces a_wTurns a_wSign a_wBy a_wFell a_telling a_holds a_sizes a_elements a_moved a_above a_out a_first c_t c_tape c_words)) args s 0 0 A) (F0 m 4 ls [])) (k41 : Int32 → Int32 → Int32 → Int32 → Option (Int32)) (hk41 : ∀ (l1 : Int32) (l2 : Int32) (l3 : Int32) (l4 : Int32) (ls : Array Slot) (H : Heap) (locs : List Loc), k41 l1 l2 l3 l4 = some res → va_P E.1 vwCl (W_X6_word E a_t a_tape a_words a_refused a_now a_kept a_mind a_wCell a_wFaces a_wTurns a_wSign a_wBy a_wFell a_telling a_holds a_sizes a_elements a_moved a_above a_out a_first c_t c_tape c_words) H → va_D A (W_X6_word E a_t a_tape a_words a_refused a_now a_kept a_mind a_wCell a_wFaces a_wTurns a_wSign a_wBy a_wFell a_telling a_holds a_sizes a_elements a_moved a_above a_out a_first c_t c_tape c_words) → va_S A s.heap H locs → lv_has ls 5 [(0, .ref a_t), (1, .int l1), (2, .int l2), (3, .int l3), (4, .int l4)] → W p l e r_X6_word s m args below meth c H locs 0 0 (MQ below (qI E A res (W_X6_word E a_t a_tape a_words a_refused a_now a_kept a_mind a_wCell a_wFaces a_wTurns a_wSign a_wBy a_wFell a_telling a_holds a_sizes a_elements a_moved a_above a_out a_first c_t c_tape c_words)) args s 0 0 A) (F0 m 41 ls [])) (l1 : Int32) (l2 : Int32) (l4 : Int32) (s0 : Int32) (ls : Array Slot) (H : Heap) (locs : List Loc) (h : f_X6_word_b102 c_t c_tape c_words k4 k41 l1 l2 l4 s0 = some res) (hP : va_P E.1 vwCl (W_X6_word E a_t a_tape a_words a_refused a_now a_kept a_mind a_wCell a_wFaces a_wTurns a_wSign a_wBy a_wFell a_telling a_holds a_sizes a_elements a_moved a_above a_out a_first c_t c_tape c_words) H) (hD : va_D A (W_X6_word E a_t a_tape a_words a_refused a_now a_kept a_mind a_wCell a_wFaces a_wTurns a_wSign a_wBy a_wFell a_telling a_holds a_sizes a_elements a_moved a_above a_out a_first c_t c_tape c_words)) (hS : va_S A s.heap H locs) (hl : lv_has ls 5 [(0, .ref a_t), (1, .int l1), (2, .int l2), (4, .int l4)]) : W p l e r_X6_word s m args below meth c H locs 0 0 (MQ below (qI E A res (W_X6_word E a_t a_tape a_words a_refused a_now a_kept a_mind a_wCell a_wFaces a_wTurns a_wSign a_wBy a_wFell a_telling a_holds a_sizes a_elements a_moved a_above a_out a_first c_t c_tape c_words)) args s 0 0 A) (F0 m 102 ls [.int s0]) := by
  obtain ⟨hx, hb, hml, hr, hlk, hown, hts, hG, hA⟩ := id X
  have hK := hG.1
  have hN := hG.2.1
  unfold f_X6_word_b102 at h
  refine lv_istore_n (lv' := [(3, .int s0), (0, .ref a_t), (1, .int l1), (2, .int l2), (4, .int l4)]) hx hb dX6_word_102 rfl hl (by decide) rfl (fun ls hl => ?_)
  refine lv_iinc (v := (l4 + (1 : Int32))) (lv' := [(4, .int (l4 + (1 : Int32))), (3, .int s0), (0, .ref a_t), (1, .int l1), (2, .int l2)]) hx hb dX6_word_103 hl (k := 4) rfl rfl (by decide) rfl (fun ls hl => ?_)
  refine lv_goto (tgt := 41) hx hb dX6_word_106 (by decide) ?_
  exact hk41 l1 l2 s0 (l4 + (1 : Int32)) _ _ _ h hP hD hS (lv_sub hl [2, 3, 4, 1, 0] rfl)
set_option maxRecDepth 100000 in
set_option maxHeartbeats 4000000 in
theorem w_X6_word_b82 (X : Ctx p m meth c cX6_word 5 ((some .int)) s args wsX6_word RX6 E A) (a_t : Nat) (a_tape : Nat) (a_words : Nat) (a_refused : Nat) (a_now : Nat) (a_kept : Nat) (a_mind : Nat) (a_wCell : Nat) (a_wFaces : Nat) (a_wTurns : Nat) (a_wSign : Nat) (a_wBy : Nat) (a_wFell : Nat) (a_telling : Nat) (a_holds : Nat) (a_sizes : Nat) (a_elements : Nat) (a_moved : Nat) (a_above : Nat) (a_out : Nat) (a_first : Nat) (c_t : Nat → Int32) (c_tape : Nat → Int32) (c_words : Nat → Int32) (res : Int32) (k4 : Int32 → Int32 → Option (Int32)) (hk4 : ∀ (l1 : Int32) (l2 : Int32) (ls : Array Slot) (H : Heap) (locs : List Loc), k4 l1 l2 = some res → va_P E.1 vwCl (W_X6_word E a_t a_tape a_words a_refused a_now a_kept a_mind a_wCell a_wFaces a_wTurns a_wSign a_wBy a_wFell a_telling a_holds a_sizes a_elements a_moved a_above a_out a_first c_t c_tape c_words) H → va_D A (W_X6_word E a_t a_tape a_words a_refused a_now a_kept a_mind a_wCell a_wFaces a_wTurns a_wSign a_wBy a_wFell a_telling a_holds a_sizes a_elements a_moved a_above a_out a_first c_t c_tape c_words) → va_S A s.heap H locs → lv_has ls 5 [(0, .ref a_t), (1, .int l1), (2, .int l2)] → W p l e r_X6_word s m args below meth c H locs 0 0 (MQ below (qI E A res (W_X6_word E a_t a_tape a_words a_refused a_now a_kept a_mind a_wCell a_wFaces a_wTurns a_wSign a_wBy a_wFell a_telling a_holds a_sizes a_elements a_moved a_above a_out a_first c_t c_tape c_words)) args s 0 0 A) (F0 m 4 ls [])) (k41 : Int32 → Int32 → Int32 → Int32 → Option (Int32)) (hk41 : ∀ (l1 : Int32) (l2 : Int32) (l3 : Int32) (l4 : Int32) (ls : Array Slot) (H : Heap) (locs : List Loc), k41 l1 l2 l3 l4 = some res → va_P E.1 vwCl (W_X6_word E a_t a_tape a_words a_refused a_now a_kept a_mind a_wCell a_wFaces a_wTurns a_wSign a_wBy a_wFell a_telling a_holds a_sizes a_elements a_moved a_above a_out a_first c_t c_tape c_words) H → va_D A (W_X6_word E a_t a_tape a_words a_refused a_now a_kept a_mind a_wCell a_wFaces a_wTurns a_wSign a_wBy a_wFell a_telling a_holds a_sizes a_elements a_moved a_above a_out a_first c_t c_tape c_words) → va_S A s.heap H locs → lv_has ls 5 [(0, .ref a_t), (1, .int l1), (2, .int l2), (3, .int l3), (4, .int l4)] → W p l e r_X6_word s m args below meth c H locs 0 0 (MQ below (qI E A res (W_X6_word E a_t a_tape a_words a_refused a_now a_kept a_mind a_wCell a_wFaces a_wTurns a_wSign a_wBy a_wFell a_telling a_holds a_sizes a_elements a_moved a_above a_out a_first c_t c_tape c_words)) args s 0 0 A) (F0 m 41 ls [])) (l1 : Int32) (l2 : Int32) (l4 : Int32) (s0 : Int32) (ls : Array Slot) (H : Heap) (locs : List Loc) (h : f_X6_word_b82 c_t c_tape c_words k4 k41 l1 l2 l4 s0 = some res) (hP : va_P E.1 vwCl (W_X6_word E a_t a_tape a_words a_refused a_now a_kept a_mind a_wCell a_wFaces a_wTurns a_wSign a_wBy a_wFell a_telling a_holds a_sizes a_elements a_moved a_above a_out a_first c_t c_tape c_words) H) (hD : va_D A (W_X6_word E a_t a_tape a_words a_refused a_now a_kept a_mind a_wCell a_wFaces a_wTurns a_wSign a_wBy a_wFell a_telling a_holds a_sizes a_elements a_moved a_above a_out a_first c_t c_tape c_words)) (hS : va_S A s.heap H locs) (hl : lv_has ls 5 [(0, .ref a_t), (1, .int l1), (2, .int l2), (4, .int l4)]) : W p l e r_X6_word s m args below meth c H locs 0 0 (MQ below (qI E A res (W_X6_word E a_t a_tape a_words a_refused a_now a_kept a_mind a_wCell a_wFaces a_wTurns a_wSign a_wBy a_wFell a_telling a_holds a_sizes a_elements a_moved a_above a_out a_first c_t c_tape c_words)) args s 0 0 A) (F0 m 82 ls [.int s0]) := by
  obtain ⟨hx, hb, hml, hr, hlk, hown, hts, hG, hA⟩ := id X
  have hK := hG.1
  have hN := hG.2.1
  unfold f_X6_word_b82 at h
  refine lv_aload_n hx hb dX6_word_82 rfl (lv_at hl 0 rfl) ?_
  refine va_get (D := E.1) (ci := 6) (v := .ref a_words) (C := RX6) (T := TX6) (N := 26) hx hb hts iX6_word_X6 hown hK hP 0 rfl rfl 10 (by decide) (hts (.fieldLink RX6 29 "LeftIsAgreedOnModel" "words" "[C") (List.mem_of_getElem? (i := 5) rfl)) (fun _ h9 => h9) rfl dX6_word_83 ?_
  refine lv_bipush (v := (6 : Int32)) hx hb dX6_word_86 (by decide) ?_
  refine lv_iload_n hx hb dX6_word_88 rfl (lv_at hl 2 rfl) ?_
  refine lv_imul hx hb dX6_word_89 ?_
  refine lv_iload hx hb dX6_word_90 (lv_at hl 3 rfl) ?_
  refine lv_iadd hx hb dX6_word_92 ?_
  obtain ⟨hz93, h⟩ := chk_of h
  refine ld_c X hP 2 rfl (inb.vp hz93) (v := (c_words ((((6 : Int32) * l2) + l4)).toNatClampNeg)) rfl dX6_word_93 ?_
  refine lv_icmp_ne (tgt := 101) hx hb dX6_word_94 (by decide) (fun hc94 => ?_) (fun hc94 => ?_)
  · have h := if_f h hc94
    refine lv_iconst (v := (0 : Int32)) hx hb dX6_word_101 (by decide) ?_
    exact w_X6_word_b102 X a_t a_tape a_words a_refused a_now a_kept a_mind a_wCell a_wFaces a_wTurns a_wSign a_wBy a_wFell a_telling a_holds a_sizes a_elements a_moved a_above a_out a_first c_t c_tape c_words res k4 hk4 k41 hk41 l1 l2 l4 (0 : Int32) _ _ _ h hP hD hS (lv_sub hl [0, 1, 2, 3] rfl)
  · have h := if_t h hc94
    refine lv_iconst (v := (1 : Int32)) hx hb dX6_word_97 (by decide) ?_
    refine lv_goto (tgt := 102) hx hb dX6_word_98 (by decide) ?_
    exact w_X6_word_b102 X a_t a_tape a_words a_refused a_now a_kept a_mind a_wCell a_wFaces a_wTurns a_wSign a_wBy a_wFell a_telling a_holds a_sizes a_elements a_moved a_above a_out a_first c_t c_tape c_words res k4 hk4 k41 hk41 l1 l2 l4 (1 : Int32) _ _ _ h hP hD hS (lv_sub hl [0, 1, 2, 3] rfl)
set_option maxRecDepth 100000 in
set_option maxHeartbeats 4000000 in
theorem w_X6_word_b118 (X : Ctx p m meth c cX6_word 5 ((some .int)) s args wsX6_word RX6 E A) (a_t : Nat) (a_tape : Nat) (a_words : Nat) (a_refused : Nat) (a_now : Nat) (a_kept : Nat) (a_mind : Nat) (a_wCell : Nat) (a_wFaces : Nat) (a_wTurns : Nat) (a_wSign : Nat) (a_wBy : Nat) (a_wFell : Nat) (a_telling : Nat) (a_holds : Nat) (a_sizes : Nat) (a_elements : Nat) (a_moved : Nat) (a_above : Nat) (a_out : Nat) (a_first : Nat) (c_t : Nat → Int32) (c_tape : Nat → Int32) (c_words : Nat → Int32) (res : Int32) (k4 : Int32 → Int32 → Option (Int32)) (hk4 : ∀ (l1 : Int32) (l2 : Int32) (ls : Array Slot) (H : Heap) (locs : List Loc), k4 l1 l2 = some res → va_P E.1 vwCl (W_X6_word E a_t a_tape a_words a_refused a_now a_kept a_mind a_wCell a_wFaces a_wTurns a_wSign a_wBy a_wFell a_telling a_holds a_sizes a_elements a_moved a_above a_out a_first c_t c_tape c_words) H → va_D A (W_X6_word E a_t a_tape a_words a_refused a_now a_kept a_mind a_wCell a_wFaces a_wTurns a_wSign a_wBy a_wFell a_telling a_holds a_sizes a_elements a_moved a_above a_out a_first c_t c_tape c_words) → va_S A s.heap H locs → lv_has ls 5 [(0, .ref a_t), (1, .int l1), (2, .int l2)] → W p l e r_X6_word s m args below meth c H locs 0 0 (MQ below (qI E A res (W_X6_word E a_t a_tape a_words a_refused a_now a_kept a_mind a_wCell a_wFaces a_wTurns a_wSign a_wBy a_wFell a_telling a_holds a_sizes a_elements a_moved a_above a_out a_first c_t c_tape c_words)) args s 0 0 A) (F0 m 4 ls [])) (l2 : Int32) (s0 : Int32) (ls : Array Slot) (H : Heap) (locs : List Loc) (h : f_X6_word_b118 c_t c_tape c_words k4 l2 s0 = some res) (hP : va_P E.1 vwCl (W_X6_word E a_t a_tape a_words a_refused a_now a_kept a_mind a_wCell a_wFaces a_wTurns a_wSign a_wBy a_wFell a_telling a_holds a_sizes a_elements a_moved a_above a_out a_first c_t c_tape c_words) H) (hD : va_D A (W_X6_word E a_t a_tape a_words a_refused a_now a_kept a_mind a_wCell a_wFaces a_wTurns a_wSign a_wBy a_wFell a_telling a_holds a_sizes a_elements a_moved a_above a_out a_first c_t c_tape c_words)) (hS : va_S A s.heap H locs) (hl : lv_has ls 5 [(0, .ref a_t), (2, .int l2)]) : W p l e r_X6_word s m args below meth c H locs 0 0 (MQ below (qI E A res (W_X6_word E a_t a_tape a_words a_refused a_now a_kept a_mind a_wCell a_wFaces a_wTurns a_wSign a_wBy a_wFell a_telling a_holds a_sizes a_elements a_moved a_above a_out a_first c_t c_tape c_words)) args s 0 0 A) (F0 m 118 ls [.int s0]) := by
  obtain ⟨hx, hb, hml, hr, hlk, hown, hts, hG, hA⟩ := id X
  have hK := hG.1
  have hN := hG.2.1
  unfold f_X6_word_b118 at h
  refine lv_istore_n (lv' := [(1, .int s0), (0, .ref a_t), (2, .int l2)]) hx hb dX6_word_118 rfl hl (by decide) rfl (fun ls hl => ?_)
  refine lv_iinc (v := (l2 + (1 : Int32))) (lv' := [(2, .int (l2 + (1 : Int32))), (1, .int s0), (0, .ref a_t)]) hx hb dX6_word_119 hl (k := 2) rfl rfl (by decide) rfl (fun ls hl => ?_)
  refine lv_goto (tgt := 4) hx hb dX6_word_122 (by decide) ?_
  exact hk4 s0 (l2 + (1 : Int32)) _ _ _ h hP hD hS (lv_sub hl [2, 1, 0] rfl)
set_option maxRecDepth 100000 in
set_option maxHeartbeats 4000000 in
theorem w_X6_word_b109 (X : Ctx p m meth c cX6_word 5 ((some .int)) s args wsX6_word RX6 E A) (a_t : Nat) (a_tape : Nat) (a_words : Nat) (a_refused : Nat) (a_now : Nat) (a_kept : Nat) (a_mind : Nat) (a_wCell : Nat) (a_wFaces : Nat) (a_wTurns : Nat) (a_wSign : Nat) (a_wBy : Nat) (a_wFell : Nat) (a_telling : Nat) (a_holds : Nat) (a_sizes : Nat) (a_elements : Nat) (a_moved : Nat) (a_above : Nat) (a_out : Nat) (a_first : Nat) (c_t : Nat → Int32) (c_tape : Nat → Int32) (c_words : Nat → Int32) (res : Int32) (k4 : Int32 → Int32 → Option (Int32)) (hk4 : ∀ (l1 : Int32) (l2 : Int32) (ls : Array Slot) (H : Heap) (locs : List Loc), k4 l1 l2 = some res → va_P E.1 vwCl (W_X6_word E a_t a_tape a_words a_refused a_now a_kept a_mind a_wCell a_wFaces a_wTurns a_wSign a_wBy a_wFell a_telling a_holds a_sizes a_elements a_moved a_above a_out a_first c_t c_tape c_words) H → va_D A (W_X6_word E a_t a_tape a_words a_refused a_now a_kept a_mind a_wCell a_wFaces a_wTurns a_wSign a_wBy a_wFell a_telling a_holds a_sizes a_elements a_moved a_above a_out a_first c_t c_tape c_words) → va_S A s.heap H locs → lv_has ls 5 [(0, .ref a_t), (1, .int l1), (2, .int l2)] → W p l e r_X6_word s m args below meth c H locs 0 0 (MQ below (qI E A res (W_X6_word E a_t a_tape a_words a_refused a_now a_kept a_mind a_wCell a_wFaces a_wTurns a_wSign a_wBy a_wFell a_telling a_holds a_sizes a_elements a_moved a_above a_out a_first c_t c_tape c_words)) args s 0 0 A) (F0 m 4 ls [])) (l1 : Int32) (l2 : Int32) (l3 : Int32) (ls : Array Slot) (H : Heap) (locs : List Loc) (h : f_X6_word_b109 c_t c_tape c_words k4 l1 l2 l3 = some res) (hP : va_P E.1 vwCl (W_X6_word E a_t a_tape a_words a_refused a_now a_kept a_mind a_wCell a_wFaces a_wTurns a_wSign a_wBy a_wFell a_telling a_holds a_sizes a_elements a_moved a_above a_out a_first c_t c_tape c_words) H) (hD : va_D A (W_X6_word E a_t a_tape a_words a_refused a_now a_kept a_mind a_wCell a_wFaces a_wTurns a_wSign a_wBy a_wFell a_telling a_holds a_sizes a_elements a_moved a_above a_out a_first c_t c_tape c_words)) (hS : va_S A s.heap H locs) (hl : lv_has ls 5 [(0, .ref a_t), (1, .int l1), (2, .int l2), (3, .int l3)]) : W p l e r_X6_word s m args below meth c H locs 0 0 (MQ below (qI E A res (W_X6_word E a_t a_tape a_words a_refused a_now a_kept a_mind a_wCell a_wFaces a_wTurns a_wSign a_wBy a_wFell a_telling a_holds a_sizes a_elements a_moved a_above a_out a_first c_t c_tape c_words)) args s 0 0 A) (F0 m 109 ls []) := by
  obtain ⟨hx, hb, hml, hr, hlk, hown, hts, hG, hA⟩ := id X
  have hK := hG.1
  have hN := hG.2.1
  unfold f_X6_word_b109 at h
  refine lv_iload_n hx hb dX6_word_109 rfl (lv_at hl 3 rfl) ?_
  refine lv_if_eq (tgt := 117) hx hb dX6_word_110 (by decide) (fun hc110 => ?_) (fun hc110 => ?_)
  · have h := if_t h hc110
    refine lv_iload_n hx hb dX6_word_117 rfl (lv_at hl 1 rfl) ?_
    exact w_X6_word_b118 X a_t a_tape a_words a_refused a_now a_kept a_mind a_wCell a_wFaces a_wTurns a_wSign a_wBy a_wFell a_telling a_holds a_sizes a_elements a_moved a_above a_out a_first c_t c_tape c_words res k4 hk4 l2 l1 _ _ _ h hP hD hS (lv_sub hl [0, 2] rfl)
  · have h := if_f h hc110
    refine lv_iload_n hx hb dX6_word_113 rfl (lv_at hl 2 rfl) ?_
    refine lv_goto (tgt := 118) hx hb dX6_word_114 (by decide) ?_
    exact w_X6_word_b118 X a_t a_tape a_words a_refused a_now a_kept a_mind a_wCell a_wFaces a_wTurns a_wSign a_wBy a_wFell a_telling a_holds a_sizes a_elements a_moved a_above a_out a_first c_t c_tape c_words res k4 hk4 l2 l2 _ _ _ h hP hD hS (lv_sub hl [0, 2] rfl)
set_option maxRecDepth 100000 in
set_option maxHeartbeats 4000000 in
theorem w_X6_word_b41 (X : Ctx p m meth c cX6_word 5 ((some .int)) s args wsX6_word RX6 E A) (a_t : Nat) (a_tape : Nat) (a_words : Nat) (a_refused : Nat) (a_now : Nat) (a_kept : Nat) (a_mind : Nat) (a_wCell : Nat) (a_wFaces : Nat) (a_wTurns : Nat) (a_wSign : Nat) (a_wBy : Nat) (a_wFell : Nat) (a_telling : Nat) (a_holds : Nat) (a_sizes : Nat) (a_elements : Nat) (a_moved : Nat) (a_above : Nat) (a_out : Nat) (a_first : Nat) (c_t : Nat → Int32) (c_tape : Nat → Int32) (c_words : Nat → Int32) (res : Int32) (k4 : Int32 → Int32 → Option (Int32)) (hk4 : ∀ (l1 : Int32) (l2 : Int32) (ls : Array Slot) (H : Heap) (locs : List Loc), k4 l1 l2 = some res → va_P E.1 vwCl (W_X6_word E a_t a_tape a_words a_refused a_now a_kept a_mind a_wCell a_wFaces a_wTurns a_wSign a_wBy a_wFell a_telling a_holds a_sizes a_elements a_moved a_above a_out a_first c_t c_tape c_words) H → va_D A (W_X6_word E a_t a_tape a_words a_refused a_now a_kept a_mind a_wCell a_wFaces a_wTurns a_wSign a_wBy a_wFell a_telling a_holds a_sizes a_elements a_moved a_above a_out a_first c_t c_tape c_words) → va_S A s.heap H locs → lv_has ls 5 [(0, .ref a_t), (1, .int l1), (2, .int l2)] → W p l e r_X6_word s m args below meth c H locs 0 0 (MQ below (qI E A res (W_X6_word E a_t a_tape a_words a_refused a_now a_kept a_mind a_wCell a_wFaces a_wTurns a_wSign a_wBy a_wFell a_telling a_holds a_sizes a_elements a_moved a_above a_out a_first c_t c_tape c_words)) args s 0 0 A) (F0 m 4 ls [])) : ∀ (n : Nat) (l1 : Int32) (l2 : Int32) (l3 : Int32) (l4 : Int32) (ls : Array Slot) (H : Heap) (locs : List Loc), f_X6_word_b41 c_t c_tape c_words k4 n l1 l2 l3 l4 = some res → va_P E.1 vwCl (W_X6_word E a_t a_tape a_words a_refused a_now a_kept a_mind a_wCell a_wFaces a_wTurns a_wSign a_wBy a_wFell a_telling a_holds a_sizes a_elements a_moved a_above a_out a_first c_t c_tape c_words) H → va_D A (W_X6_word E a_t a_tape a_words a_refused a_now a_kept a_mind a_wCell a_wFaces a_wTurns a_wSign a_wBy a_wFell a_telling a_holds a_sizes a_elements a_moved a_above a_out a_first c_t c_tape c_words) → va_S A s.heap H locs → lv_has ls 5 [(0, .ref a_t), (1, .int l1), (2, .int l2), (3, .int l3), (4, .int l4)] → W p l e r_X6_word s m args below meth c H locs 0 0 (MQ below (qI E A res (W_X6_word E a_t a_tape a_words a_refused a_now a_kept a_mind a_wCell a_wFaces a_wTurns a_wSign a_wBy a_wFell a_telling a_holds a_sizes a_elements a_moved a_above a_out a_first c_t c_tape c_words)) args s 0 0 A) (F0 m 41 ls []) := by
  obtain ⟨hx, hb, hml, hr, hlk, hown, hts, hG, hA⟩ := id X
  have hK := hG.1
  have hN := hG.2.1
  intro n
  induction n with
  | zero =>
    intro l1 l2 l3 l4 ls H locs h
    exact absurd (show (none : Option (Int32)) = some res from h) (by intro q; cases q)
  | succ n ih =>
    intro l1 l2 l3 l4 ls H locs h hP hD hS hl
    rw [f_X6_word_b41] at h
    refine lv_iload hx hb dX6_word_41 (lv_at hl 4 rfl) ?_
    refine lv_bipush (v := (6 : Int32)) hx hb dX6_word_43 (by decide) ?_
    refine lv_icmp_ge (tgt := 109) hx hb dX6_word_45 (by decide) (fun hc45 => ?_) (fun hc45 => ?_)
    · have h := if_t h hc45
      exact w_X6_word_b109 X a_t a_tape a_words a_refused a_now a_kept a_mind a_wCell a_wFaces a_wTurns a_wSign a_wBy a_wFell a_telling a_holds a_sizes a_elements a_moved a_above a_out a_first c_t c_tape c_words res k4 hk4 l1 l2 l3 _ _ _ h hP hD hS (lv_sub hl [0, 1, 2, 3] rfl)
    · have h := if_f h hc45
      refine lv_iload_n hx hb dX6_word_48 rfl (lv_at hl 3 rfl) ?_
      refine lv_if_eq (tgt := 109) hx hb dX6_word_49 (by decide) (fun hc49 => ?_) (fun hc49 => ?_)
      · have h := if_t h hc49
        exact w_X6_word_b109 X a_t a_tape a_words a_refused a_now a_kept a_mind a_wCell a_wFaces a_wTurns a_wSign a_wBy a_wFell a_telling a_holds a_sizes a_elements a_moved a_above a_out a_first c_t c_tape c_words res k4 hk4 l1 l2 l3 _ _ _ h hP hD hS (lv_sub hl [0, 1, 2, 3] rfl)
      · have h := if_f h hc49
        refine lv_aload_n hx hb dX6_word_52 rfl (lv_at hl 0 rfl) ?_
        refine va_get (D := E.1) (ci := 6) (v := .int (c_t 8)) (C := RX6) (T := TX6) (N := 26) hx hb hts iX6_word_X6 hown hK hP 0 rfl rfl 8 (by decide) (hts (.fieldLink RX6 147 "LeftIsAgreedOnModel" "from" "I") (List.mem_of_getElem? (i := 3) rfl)) (fun _ h9 => h9) rfl dX6_word_53 ?_
        refine lv_iload hx hb dX6_word_56 (lv_at hl 4 rfl) ?_
        refine lv_iadd hx hb dX6_word_58 ?_
        refine lv_aload_n hx hb dX6_word_59 rfl (lv_at hl 0 rfl) ?_
        refine va_get (D := E.1) (ci := 6) (v := .int (c_t 7)) (C := RX6) (T := TX6) (N := 26) hx hb hts iX6_word_X6 hown hK hP 0 rfl rfl 7 (by decide) (hts (.fieldLink RX6 144 "LeftIsAgreedOnModel" "at" "I") (List.mem_of_getElem? (i := 2) rfl)) (fun _ h9 => h9) rfl dX6_word_60 ?_
        refine lv_icmp_ge (tgt := 81) hx hb dX6_word_63 (by decide) (fun hc63 => ?_) (fun hc63 => ?_)
        · have h := if_t h hc63
          refine lv_iconst (v := (0 : Int32)) hx hb dX6_word_81 (by decide) ?_
          exact w_X6_word_b82 X a_t a_tape a_words a_refused a_now a_kept a_mind a_wCell a_wFaces a_wTurns a_wSign a_wBy a_wFell a_telling a_holds a_sizes a_elements a_moved a_above a_out a_first c_t c_tape c_words res k4 hk4 (f_X6_word_b41 c_t c_tape c_words k4 n) ih l1 l2 l4 (0 : Int32) _ _ _ h hP hD hS (lv_sub hl [0, 1, 2, 4] rfl)
        · have h := if_f h hc63
          refine lv_aload_n hx hb dX6_word_66 rfl (lv_at hl 0 rfl) ?_
          refine va_get (D := E.1) (ci := 6) (v := .ref a_tape) (C := RX6) (T := TX6) (N := 26) hx hb hts iX6_word_X6 hown hK hP 0 rfl rfl 5 (by decide) (hts (.fieldLink RX6 26 "LeftIsAgreedOnModel" "tape" "[I") (List.mem_of_getElem? (i := 4) rfl)) (fun _ h9 => h9) rfl dX6_word_67 ?_
          refine lv_aload_n hx hb dX6_word_70 rfl (lv_at hl 0 rfl) ?_
          refine va_get (D := E.1) (ci := 6) (v := .int (c_t 8)) (C := RX6) (T := TX6) (N := 26) hx hb hts iX6_word_X6 hown hK hP 0 rfl rfl 8 (by decide) (hts (.fieldLink RX6 147 "LeftIsAgreedOnModel" "from" "I") (List.mem_of_getElem? (i := 3) rfl)) (fun _ h9 => h9) rfl dX6_word_71 ?_
          refine lv_iload hx hb dX6_word_74 (lv_at hl 4 rfl) ?_
          refine lv_iadd hx hb dX6_word_76 ?_
          obtain ⟨hz77, h⟩ := chk_of h
          refine ld_i X hP 1 rfl (inb.vp hz77) (v := (c_tape (((c_t 8) + l4)).toNatClampNeg)) rfl dX6_word_77 ?_
          refine lv_goto (tgt := 82) hx hb dX6_word_78 (by decide) ?_
          exact w_X6_word_b82 X a_t a_tape a_words a_refused a_now a_kept a_mind a_wCell a_wFaces a_wTurns a_wSign a_wBy a_wFell a_telling a_holds a_sizes a_elements a_moved a_above a_out a_first c_t c_tape c_words res k4 hk4 (f_X6_word_b41 c_t c_tape c_words k4 n) ih l1 l2 l4 (c_tape (((c_t 8) + l4)).toNatClampNeg) _ _ _ h hP hD hS (lv_sub hl [0, 1, 2, 4] rfl)
set_option maxRecDepth 100000 in
set_option maxHeartbeats 4000000 in
theorem w_X6_word_b37 (X : Ctx p m meth c cX6_word 5 ((some .int)) s args wsX6_word RX6 E A) (a_t : Nat) (a_tape : Nat) (a_words : Nat) (a_refused : Nat) (a_now : Nat) (a_kept : Nat) (a_mind : Nat) (a_wCell : Nat) (a_wFaces : Nat) (a_wTurns : Nat) (a_wSign : Nat) (a_wBy : Nat) (a_wFell : Nat) (a_telling : Nat) (a_holds : Nat) (a_sizes : Nat) (a_elements : Nat) (a_moved : Nat) (a_above : Nat) (a_out : Nat) (a_first : Nat) (c_t : Nat → Int32) (c_tape : Nat → Int32) (c_words : Nat → Int32) (res : Int32) (k4 : Int32 → Int32 → Option (Int32)) (hk4 : ∀ (l1 : Int32) (l2 : Int32) (ls : Array Slot) (H : Heap) (locs : List Loc), k4 l1 l2 = some res → va_P E.1 vwCl (W_X6_word E a_t a_tape a_words a_refused a_now a_kept a_mind a_wCell a_wFaces a_wTurns a_wSign a_wBy a_wFell a_telling a_holds a_sizes a_elements a_moved a_above a_out a_first c_t c_tape c_words) H → va_D A (W_X6_word E a_t a_tape a_words a_refused a_now a_kept a_mind a_wCell a_wFaces a_wTurns a_wSign a_wBy a_wFell a_telling a_holds a_sizes a_elements a_moved a_above a_out a_first c_t c_tape c_words) → va_S A s.heap H locs → lv_has ls 5 [(0, .ref a_t), (1, .int l1), (2, .int l2)] → W p l e r_X6_word s m args below meth c H locs 0 0 (MQ below (qI E A res (W_X6_word E a_t a_tape a_words a_refused a_now a_kept a_mind a_wCell a_wFaces a_wTurns a_wSign a_wBy a_wFell a_telling a_holds a_sizes a_elements a_moved a_above a_out a_first c_t c_tape c_words)) args s 0 0 A) (F0 m 4 ls [])) (l1 : Int32) (l2 : Int32) (s0 : Int32) (ls : Array Slot) (H : Heap) (locs : List Loc) (h : f_X6_word_b37 c_t c_tape c_words k4 l1 l2 s0 = some res) (hP : va_P E.1 vwCl (W_X6_word E a_t a_tape a_words a_refused a_now a_kept a_mind a_wCell a_wFaces a_wTurns a_wSign a_wBy a_wFell a_telling a_holds a_sizes a_elements a_moved a_above a_out a_first c_t c_tape c_words) H) (hD : va_D A (W_X6_word E a_t a_tape a_words a_refused a_now a_kept a_mind a_wCell a_wFaces a_wTurns a_wSign a_wBy a_wFell a_telling a_holds a_sizes a_elements a_moved a_above a_out a_first c_t c_tape c_words)) (hS : va_S A s.heap H locs) (hl : lv_has ls 5 [(0, .ref a_t), (1, .int l1), (2, .int l2)]) : W p l e r_X6_word s m args below meth c H locs 0 0 (MQ below (qI E A res (W_X6_word E a_t a_tape a_words a_refused a_now a_kept a_mind a_wCell a_wFaces a_wTurns a_wSign a_wBy a_wFell a_telling a_holds a_sizes a_elements a_moved a_above a_out a_first c_t c_tape c_words)) args s 0 0 A) (F0 m 37 ls [.int s0]) := by
  obtain ⟨hx, hb, hml, hr, hlk, hown, hts, hG, hA⟩ := id X
  have hK := hG.1
  have hN := hG.2.1
  unfold f_X6_word_b37 at h
  refine lv_istore_n (lv' := [(3, .int s0), (0, .ref a_t), (1, .int l1), (2, .int l2)]) hx hb dX6_word_37 rfl hl (by decide) rfl (fun ls hl => ?_)
  refine lv_iconst (v := (0 : Int32)) hx hb dX6_word_38 (by decide) ?_
  refine lv_istore (lv' := [(4, .int (0 : Int32)), (3, .int s0), (0, .ref a_t), (1, .int l1), (2, .int l2)]) hx hb dX6_word_39 hl (by decide) rfl (fun ls hl => ?_)
  exact w_X6_word_b41 X a_t a_tape a_words a_refused a_now a_kept a_mind a_wCell a_wFaces a_wTurns a_wSign a_wBy a_wFell a_telling a_holds a_sizes a_elements a_moved a_above a_out a_first c_t c_tape c_words res k4 hk4 FU l1 l2 s0 (0 : Int32) _ _ _ h hP hD hS (lv_sub hl [2, 3, 4, 1, 0] rfl)
set_option maxRecDepth 100000 in
set_option maxHeartbeats 4000000 in
theorem w_X6_word_b36 (X : Ctx p m meth c cX6_word 5 ((some .int)) s args wsX6_word RX6 E A) (a_t : Nat) (a_tape : Nat) (a_words : Nat) (a_refused : Nat) (a_now : Nat) (a_kept : Nat) (a_mind : Nat) (a_wCell : Nat) (a_wFaces : Nat) (a_wTurns : Nat) (a_wSign : Nat) (a_wBy : Nat) (a_wFell : Nat) (a_telling : Nat) (a_holds : Nat) (a_sizes : Nat) (a_elements : Nat) (a_moved : Nat) (a_above : Nat) (a_out : Nat) (a_first : Nat) (c_t : Nat → Int32) (c_tape : Nat → Int32) (c_words : Nat → Int32) (res : Int32) (k4 : Int32 → Int32 → Option (Int32)) (hk4 : ∀ (l1 : Int32) (l2 : Int32) (ls : Array Slot) (H : Heap) (locs : List Loc), k4 l1 l2 = some res → va_P E.1 vwCl (W_X6_word E a_t a_tape a_words a_refused a_now a_kept a_mind a_wCell a_wFaces a_wTurns a_wSign a_wBy a_wFell a_telling a_holds a_sizes a_elements a_moved a_above a_out a_first c_t c_tape c_words) H → va_D A (W_X6_word E a_t a_tape a_words a_refused a_now a_kept a_mind a_wCell a_wFaces a_wTurns a_wSign a_wBy a_wFell a_telling a_holds a_sizes a_elements a_moved a_above a_out a_first c_t c_tape c_words) → va_S A s.heap H locs → lv_has ls 5 [(0, .ref a_t), (1, .int l1), (2, .int l2)] → W p l e r_X6_word s m args below meth c H locs 0 0 (MQ below (qI E A res (W_X6_word E a_t a_tape a_words a_refused a_now a_kept a_mind a_wCell a_wFaces a_wTurns a_wSign a_wBy a_wFell a_telling a_holds a_sizes a_elements a_moved a_above a_out a_first c_t c_tape c_words)) args s 0 0 A) (F0 m 4 ls [])) (l1 : Int32) (l2 : Int32) (ls : Array Slot) (H : Heap) (locs : List Loc) (h : f_X6_word_b36 c_t c_tape c_words k4 l1 l2 = some res) (hP : va_P E.1 vwCl (W_X6_word E a_t a_tape a_words a_refused a_now a_kept a_mind a_wCell a_wFaces a_wTurns a_wSign a_wBy a_wFell a_telling a_holds a_sizes a_elements a_moved a_above a_out a_first c_t c_tape c_words) H) (hD : va_D A (W_X6_word E a_t a_tape a_words a_refused a_now a_kept a_mind a_wCell a_wFaces a_wTurns a_wSign a_wBy a_wFell a_telling a_holds a_sizes a_elements a_moved a_above a_out a_first c_t c_tape c_words)) (hS : va_S A s.heap H locs) (hl : lv_has ls 5 [(0, .ref a_t), (1, .int l1), (2, .int l2)]) : W p l e r_X6_word s m args below meth c H locs 0 0 (MQ below (qI E A res (W_X6_word E a_t a_tape a_words a_refused a_now a_kept a_mind a_wCell a_wFaces a_wTurns a_wSign a_wBy a_wFell a_telling a_holds a_sizes a_elements a_moved a_above a_out a_first c_t c_tape c_words)) args s 0 0 A) (F0 m 36 ls []) := by
  obtain ⟨hx, hb, hml, hr, hlk, hown, hts, hG, hA⟩ := id X
  have hK := hG.1
  have hN := hG.2.1
  unfold f_X6_word_b36 at h
  refine lv_iconst (v := (0 : Int32)) hx hb dX6_word_36 (by decide) ?_
  exact w_X6_word_b37 X a_t a_tape a_words a_refused a_now a_kept a_mind a_wCell a_wFaces a_wTurns a_wSign a_wBy a_wFell a_telling a_holds a_sizes a_elements a_moved a_above a_out a_first c_t c_tape c_words res k4 hk4 l1 l2 (0 : Int32) _ _ _ h hP hD hS (lv_sub hl [0, 1, 2] rfl)
set_option maxRecDepth 100000 in
set_option maxHeartbeats 4000000 in
theorem w_X6_word_b4 (X : Ctx p m meth c cX6_word 5 ((some .int)) s args wsX6_word RX6 E A) (a_t : Nat) (a_tape : Nat) (a_words : Nat) (a_refused : Nat) (a_now : Nat) (a_kept : Nat) (a_mind : Nat) (a_wCell : Nat) (a_wFaces : Nat) (a_wTurns : Nat) (a_wSign : Nat) (a_wBy : Nat) (a_wFell : Nat) (a_telling : Nat) (a_holds : Nat) (a_sizes : Nat) (a_elements : Nat) (a_moved : Nat) (a_above : Nat) (a_out : Nat) (a_first : Nat) (c_t : Nat → Int32) (c_tape : Nat → Int32) (c_words : Nat → Int32) (res : Int32) : ∀ (n : Nat) (l1 : Int32) (l2 : Int32) (ls : Array Slot) (H : Heap) (locs : List Loc), f_X6_word_b4 c_t c_tape c_words n l1 l2 = some res → va_P E.1 vwCl (W_X6_word E a_t a_tape a_words a_refused a_now a_kept a_mind a_wCell a_wFaces a_wTurns a_wSign a_wBy a_wFell a_telling a_holds a_sizes a_elements a_moved a_above a_out a_first c_t c_tape c_words) H → va_D A (W_X6_word E a_t a_tape a_words a_refused a_now a_kept a_mind a_wCell a_wFaces a_wTurns a_wSign a_wBy a_wFell a_telling a_holds a_sizes a_elements a_moved a_above a_out a_first c_t c_tape c_words) → va_S A s.heap H locs → lv_has ls 5 [(0, .ref a_t), (1, .int l1), (2, .int l2)] → W p l e r_X6_word s m args below meth c H locs 0 0 (MQ below (qI E A res (W_X6_word E a_t a_tape a_words a_refused a_now a_kept a_mind a_wCell a_wFaces a_wTurns a_wSign a_wBy a_wFell a_telling a_holds a_sizes a_elements a_moved a_above a_out a_first c_t c_tape c_words)) args s 0 0 A) (F0 m 4 ls []) := by
  obtain ⟨hx, hb, hml, hr, hlk, hown, hts, hG, hA⟩ := id X
  have hK := hG.1
  have hN := hG.2.1
  intro n
  induction n with
  | zero =>
    intro l1 l2 ls H locs h
    exact absurd (show (none : Option (Int32)) = some res from h) (by intro q; cases q)
  | succ n ih =>
    intro l1 l2 ls H locs h hP hD hS hl
    rw [f_X6_word_b4] at h
    refine lv_iload_n hx hb dX6_word_4 rfl (lv_at hl 2 rfl) ?_
    refine lv_bipush (v := (8 : Int32)) hx hb dX6_word_5 (by decide) ?_
    refine lv_icmp_ge (tgt := 125) hx hb dX6_word_7 (by decide) (fun hc7 => ?_) (fun hc7 => ?_)
    · have h := if_t h hc7
      refine lv_iload_n hx hb dX6_word_125 rfl (lv_at hl 1 rfl) ?_
      obtain rfl := Option.some.inj h
      exact ret_i X dX6_word_126 hP hD hS rfl
    · have h := if_f h hc7
      refine lv_aload_n hx hb dX6_word_10 rfl (lv_at hl 0 rfl) ?_
      refine va_get (D := E.1) (ci := 6) (v := .int (c_t 9)) (C := RX6) (T := TX6) (N := 26) hx hb hts iX6_word_X6 hown hK hP 0 rfl rfl 9 (by decide) (hts (.fieldLink RX6 153 "LeftIsAgreedOnModel" "sort" "I") (List.mem_of_getElem? (i := 1) rfl)) (fun _ h9 => h9) rfl dX6_word_11 ?_
      refine lv_iconst (v := (1 : Int32)) hx hb dX6_word_14 (by decide) ?_
      refine lv_icmp_ne (tgt := 36) hx hb dX6_word_15 (by decide) (fun hc15 => ?_) (fun hc15 => ?_)
      · have h := if_f h hc15
        exact w_X6_word_b36 X a_t a_tape a_words a_refused a_now a_kept a_mind a_wCell a_wFaces a_wTurns a_wSign a_wBy a_wFell a_telling a_holds a_sizes a_elements a_moved a_above a_out a_first c_t c_tape c_words res (f_X6_word_b4 c_t c_tape c_words n) ih l1 l2 _ _ _ h hP hD hS (lv_sub hl [0, 1, 2] rfl)
      · have h := if_t h hc15
        refine lv_aload_n hx hb dX6_word_18 rfl (lv_at hl 0 rfl) ?_
        refine va_get (D := E.1) (ci := 6) (v := .int (c_t 7)) (C := RX6) (T := TX6) (N := 26) hx hb hts iX6_word_X6 hown hK hP 0 rfl rfl 7 (by decide) (hts (.fieldLink RX6 144 "LeftIsAgreedOnModel" "at" "I") (List.mem_of_getElem? (i := 2) rfl)) (fun _ h9 => h9) rfl dX6_word_19 ?_
        refine lv_aload_n hx hb dX6_word_22 rfl (lv_at hl 0 rfl) ?_
        refine va_get (D := E.1) (ci := 6) (v := .int (c_t 8)) (C := RX6) (T := TX6) (N := 26) hx hb hts iX6_word_X6 hown hK hP 0 rfl rfl 8 (by decide) (hts (.fieldLink RX6 147 "LeftIsAgreedOnModel" "from" "I") (List.mem_of_getElem? (i := 3) rfl)) (fun _ h9 => h9) rfl dX6_word_23 ?_
        refine lv_isub hx hb dX6_word_26 ?_
        refine lv_bipush (v := (6 : Int32)) hx hb dX6_word_27 (by decide) ?_
        refine lv_icmp_gt (tgt := 36) hx hb dX6_word_29 (by decide) (fun hc29 => ?_) (fun hc29 => ?_)
        · have h := if_t h hc29
          exact w_X6_word_b36 X a_t a_tape a_words a_refused a_now a_kept a_mind a_wCell a_wFaces a_wTurns a_wSign a_wBy a_wFell a_telling a_holds a_sizes a_elements a_moved a_above a_out a_first c_t c_tape c_words res (f_X6_word_b4 c_t c_tape c_words n) ih l1 l2 _ _ _ h hP hD hS (lv_sub hl [0, 1, 2] rfl)
        · have h := if_f h hc29
          refine lv_iconst (v := (1 : Int32)) hx hb dX6_word_32 (by decide) ?_
          refine lv_goto (tgt := 37) hx hb dX6_word_33 (by decide) ?_
          exact w_X6_word_b37 X a_t a_tape a_words a_refused a_now a_kept a_mind a_wCell a_wFaces a_wTurns a_wSign a_wBy a_wFell a_telling a_holds a_sizes a_elements a_moved a_above a_out a_first c_t c_tape c_words res (f_X6_word_b4 c_t c_tape c_words n) ih l1 l2 (1 : Int32) _ _ _ h hP hD hS (lv_sub hl [0, 1, 2] rfl)
set_option maxRecDepth 100000 in
set_option maxHeartbeats 4000000 in
theorem w_X6_word (X : Ctx p m meth c cX6_word 5 ((some .int)) s args wsX6_word RX6 E A) (a_t : Nat) (a_tape : Nat) (a_words : Nat) (a_refused : Nat) (a_now : Nat) (a_kept : Nat) (a_mind : Nat) (a_wCell : Nat) (a_wFaces : Nat) (a_wTurns : Nat) (a_wSign : Nat) (a_wBy : Nat) (a_wFell : Nat) (a_telling : Nat) (a_holds : Nat) (a_sizes : Nat) (a_elements : Nat) (a_moved : Nat) (a_above : Nat) (a_out : Nat) (a_first : Nat) (c_t : Nat → Int32) (c_tape : Nat → Int32) (c_words : Nat → Int32) (res : Int32) (ls : Array Slot) (H : Heap) (locs : List Loc) (h : f_X6_word c_t c_tape c_words = some res) (hP : va_P E.1 vwCl (W_X6_word E a_t a_tape a_words a_refused a_now a_kept a_mind a_wCell a_wFaces a_wTurns a_wSign a_wBy a_wFell a_telling a_holds a_sizes a_elements a_moved a_above a_out a_first c_t c_tape c_words) H) (hD : va_D A (W_X6_word E a_t a_tape a_words a_refused a_now a_kept a_mind a_wCell a_wFaces a_wTurns a_wSign a_wBy a_wFell a_telling a_holds a_sizes a_elements a_moved a_above a_out a_first c_t c_tape c_words)) (hS : va_S A s.heap H locs) (hl : lv_has ls 5 [(0, .ref a_t)]) : W p l e r_X6_word s m args below meth c H locs 0 0 (MQ below (qI E A res (W_X6_word E a_t a_tape a_words a_refused a_now a_kept a_mind a_wCell a_wFaces a_wTurns a_wSign a_wBy a_wFell a_telling a_holds a_sizes a_elements a_moved a_above a_out a_first c_t c_tape c_words)) args s 0 0 A) (F0 m 0 ls []) := by
  obtain ⟨hx, hb, hml, hr, hlk, hown, hts, hG, hA⟩ := id X
  have hK := hG.1
  have hN := hG.2.1
  unfold f_X6_word at h
  refine lv_iconst (v := (-1 : Int32)) hx hb dX6_word_0 (by decide) ?_
  refine lv_istore_n (lv' := [(1, .int (-1 : Int32)), (0, .ref a_t)]) hx hb dX6_word_1 rfl hl (by decide) rfl (fun ls hl => ?_)
  refine lv_iconst (v := (0 : Int32)) hx hb dX6_word_2 (by decide) ?_
  refine lv_istore_n (lv' := [(2, .int (0 : Int32)), (1, .int (-1 : Int32)), (0, .ref a_t)]) hx hb dX6_word_3 rfl hl (by decide) rfl (fun ls hl => ?_)
  exact w_X6_word_b4 X a_t a_tape a_words a_refused a_now a_kept a_mind a_wCell a_wFaces a_wTurns a_wSign a_wBy a_wFell a_telling a_holds a_sizes a_elements a_moved a_above a_out a_first c_t c_tape c_words res FU (-1 : Int32) (0 : Int32) _ _ _ h hP hD hS (lv_sub hl [2, 1, 0] rfl)
end
set_option maxRecDepth 100000 in
theorem c_X6_word (l : Launch) (E : Env0) (a_t : Nat) (a_tape : Nat) (a_words : Nat) (a_refused : Nat) (a_now : Nat) (a_kept : Nat) (a_mind : Nat) (a_wCell : Nat) (a_wFaces : Nat) (a_wTurns : Nat) (a_wSign : Nat) (a_wBy : Nat) (a_wFell : Nat) (a_telling : Nat) (a_holds : Nat) (a_sizes : Nat) (a_elements : Nat) (a_moved : Nat) (a_above : Nat) (a_out : Nat) (a_first : Nat) (c_t : Nat → Int32) (c_tape : Nat → Int32) (c_words : Nat → Int32) (sz : Nat) (res : Int32) (h : f_X6_word c_t c_tape c_words = some res) : Met l yX6_word wsX6_word r_X6_word (cPre E [.ref a_t] (W_X6_word E a_t a_tape a_words a_refused a_now a_kept a_mind a_wCell a_wFaces a_wTurns a_wSign a_wBy a_wFell a_telling a_holds a_sizes a_elements a_moved a_above a_out a_first c_t c_tape c_words) sz) (qI E (va_A (W_X6_word E a_t a_tape a_words a_refused a_now a_kept a_mind a_wCell a_wFaces a_wTurns a_wSign a_wBy a_wFell a_telling a_holds a_sizes a_elements a_moved a_above a_out a_first c_t c_tape c_words) sz) res (W_X6_word E a_t a_tape a_words a_refused a_now a_kept a_mind a_wCell a_wFaces a_wTurns a_wSign a_wBy a_wFell a_telling a_holds a_sizes a_elements a_moved a_above a_out a_first c_t c_tape c_words)) 0 0 (va_A (W_X6_word E a_t a_tape a_words a_refused a_now a_kept a_mind a_wCell a_wFaces a_wTurns a_wSign a_wBy a_wFell a_telling a_holds a_sizes a_elements a_moved a_above a_out a_first c_t c_tape c_words) sz) :=
  met_of (Qc := fun A => qI E A res (W_X6_word E a_t a_tape a_words a_refused a_now a_kept a_mind a_wCell a_wFaces a_wTurns a_wSign a_wBy a_wFell a_telling a_holds a_sizes a_elements a_moved a_above a_out a_first c_t c_tape c_words)) (by decide) rfl (Nat.le_of_ble_eq_true rfl) (fun p e s m args below meth c X hP hD hS ls hl => w_X6_word X a_t a_tape a_words a_refused a_now a_kept a_mind a_wCell a_wFaces a_wTurns a_wSign a_wBy a_wFell a_telling a_holds a_sizes a_elements a_moved a_above a_out a_first c_t c_tape c_words res ls _ _ h hP hD hS hl)
-- ===== X6_number
noncomputable abbrev W_X6_number (E : Env0) (a_t : Nat) (a_tape : Nat) (a_refused : Nat) (a_now : Nat) (a_kept : Nat) (a_mind : Nat) (a_words : Nat) (a_wCell : Nat) (a_wFaces : Nat) (a_wTurns : Nat) (a_wSign : Nat) (a_wBy : Nat) (a_wFell : Nat) (a_telling : Nat) (a_holds : Nat) (a_sizes : Nat) (a_elements : Nat) (a_moved : Nat) (a_above : Nat) (a_out : Nat) (a_first : Nat) (c_t : Nat → Int32) (c_tape : Nat → Int32) : va_W := [(a_t, .inr (6, [.ref a_refused, .ref a_now, .ref a_kept, .ref a_mind, .int (c_t 4), .ref a_tape, .int (c_t 6), .int (c_t 7), .int (c_t 8), .int (c_t 9), .ref a_words, .ref a_wCell, .ref a_wFaces, .ref a_wTurns, .ref a_wSign, .ref a_wBy, .ref a_wFell, .int (c_t 17), .ref a_telling, .ref a_holds, .ref a_sizes, .ref a_elements, .ref a_moved, .ref a_above, .ref a_out, .ref a_first])), (a_tape, .inl (eI E, 250, .inl c_tape))]
noncomputable abbrev r_X6_number : Room := { frames := 3, cells := 0, slots := 0, locals := 66 }
theorem hd_X6_number : yX6_number.cls ≠ "java/lang/invoke/MethodHandle" ∧ yX6_number.cls ≠ "java/lang/invoke/VarHandle" ∧ (parseMethodDescriptor yX6_number.desc).map (fun d => d.parameters.length) = some 2 := by decide +kernel
theorem hV_X6_number : yX6_number.cls = RX6 ∧ yX6_number.cls ≠ "java/lang/invoke/MethodHandle" ∧ yX6_number.cls ≠ "java/lang/invoke/VarHandle" ∧ (parseMethodDescriptor yX6_number.desc).map (fun d => d.parameters.length) = some 2 := ⟨rfl, hd_X6_number⟩
theorem iX6_number_X6 : ∀ w ∈ wsX60, w ∈ wsX6_number := fun _ h => List.mem_cons_of_mem _ (List.mem_append_right _ (h))
section
variable {p : Program} {l : Launch} {e : Env} {s : State} {m : MethodId} {args : Array Value} {below : List Frame} {meth : Method} {c : Code} {E : Env0} {A : Nat → Prop}
set_option maxRecDepth 100000 in
set_option maxHeartbeats 4000000 in
theorem w_X6_number_b35 (X : Ctx p m meth c cX6_number 5 ((some .int)) s args wsX6_number RX6 E A) (a_t : Nat) (a_tape : Nat) (a_refused : Nat) (a_now : Nat) (a_kept : Nat) (a_mind : Nat) (a_words : Nat) (a_wCell : Nat) (a_wFaces : Nat) (a_wTurns : Nat) (a_wSign : Nat) (a_wBy : Nat) (a_wFell : Nat) (a_telling : Nat) (a_holds : Nat) (a_sizes : Nat) (a_elements : Nat) (a_moved : Nat) (a_above : Nat) (a_out : Nat) (a_first : Nat) (c_tape : Nat → Int32) (res : Int32 × (Nat → Int32)) : ∀ (n : Nat) (c_t : Nat → Int32) (l1 : Int32) (l2 : Int32) (l3 : Int32) (l4 : Int32) (ls : Array Slot) (H : Heap) (locs : List Loc), f_X6_number_b35 c_tape n c_t l1 l2 l3 l4 = some res → va_P E.1 vwCl (W_X6_number E a_t a_tape a_refused a_now a_kept a_mind a_words a_wCell a_wFaces a_wTurns a_wSign a_wBy a_wFell a_telling a_holds a_sizes a_elements a_moved a_above a_out a_first c_t c_tape) H → va_D A (W_X6_number E a_t a_tape a_refused a_now a_kept a_mind a_words a_wCell a_wFaces a_wTurns a_wSign a_wBy a_wFell a_telling a_holds a_sizes a_elements a_moved a_above a_out a_first c_t c_tape) → va_S A s.heap H locs → lv_has ls 5 [(0, .ref a_t), (1, .int l1), (2, .int l2), (3, .int l3), (4, .int l4)] → W p l e r_X6_number s m args below meth c H locs 0 0 (MQ below (qI E A (res.1) (W_X6_number E a_t a_tape a_refused a_now a_kept a_mind a_words a_wCell a_wFaces a_wTurns a_wSign a_wBy a_wFell a_telling a_holds a_sizes a_elements a_moved a_above a_out a_first (res.2) c_tape)) args s 0 0 A) (F0 m 35 ls []) := by
  obtain ⟨hx, hb, hml, hr, hlk, hown, hts, hG, hA⟩ := id X
  have hK := hG.1
  have hN := hG.2.1
  intro n
  induction n with
  | zero =>
    intro c_t l1 l2 l3 l4 ls H locs h
    exact absurd (show (none : Option (Int32 × (Nat → Int32))) = some res from h) (by intro q; cases q)
  | succ n ih =>
    intro c_t l1 l2 l3 l4 ls H locs h hP hD hS hl
    rw [f_X6_number_b35] at h
    refine lv_iload hx hb dX6_number_35 (lv_at hl 4 rfl) ?_
    refine lv_aload_n hx hb dX6_number_37 rfl (lv_at hl 0 rfl) ?_
    refine va_get (D := E.1) (ci := 6) (v := .int (c_t 7)) (C := RX6) (T := TX6) (N := 26) hx hb hts iX6_number_X6 hown hK hP 0 rfl rfl 7 (by decide) (hts (.fieldLink RX6 144 "LeftIsAgreedOnModel" "at" "I") (List.mem_of_getElem? (i := 2) rfl)) (fun _ h9 => h9) rfl dX6_number_38 ?_
    refine lv_icmp_ge (tgt := 66) hx hb dX6_number_41 (by decide) (fun hc41 => ?_) (fun hc41 => ?_)
    · have h := if_t h hc41
      refine lv_iload_n hx hb dX6_number_66 rfl (lv_at hl 3 rfl) ?_
      refine lv_i2l (v := (l3.toInt64)) hx hb dX6_number_67 rfl ?_
      refine lv_iload_n hx hb dX6_number_68 rfl (lv_at hl 1 rfl) ?_
      refine lv_i2l (v := (l1.toInt64)) hx hb dX6_number_69 rfl ?_
      refine lv_iload_n hx hb dX6_number_70 rfl (lv_at hl 2 rfl) ?_
      refine lv_i2l (v := (l2.toInt64)) hx hb dX6_number_71 rfl ?_
      obtain ⟨v1, hv1, h⟩ := bind_of h
      refine after_i X (run_S X (c_X6_isIn l E (l3.toInt64) (l1.toInt64) (l2.toInt64) H.size v1 hv1) (va_cwS 3 hts gX6_number_X6_isIn rfl rfl rfl hd_X6_isIn ⟨(Nat.le_of_ble_eq_true rfl), (Nat.le_of_ble_eq_true rfl)⟩) hP hD hS [] rfl rfl hl.1 (rest := []) rfl rfl (Nat.le_of_ble_eq_true rfl) dX6_number_72) hP hD hS [] rfl (ws1 := (W_X6_number E a_t a_tape a_refused a_now a_kept a_mind a_words a_wCell a_wFaces a_wTurns a_wSign a_wBy a_wFell a_telling a_holds a_sizes a_elements a_moved a_above a_out a_first c_t c_tape)) rfl (fun H locs hP hD hS => ?_)
      refine lv_if_eq (tgt := 82) hx hb dX6_number_75 (by decide) (fun hc75 => ?_) (fun hc75 => ?_)
      · have h := if_t h hc75
        refine lv_iconst (v := (-1 : Int32)) hx hb dX6_number_82 (by decide) ?_
        obtain rfl := Option.some.inj h
        exact ret_i X dX6_number_83 hP hD hS rfl
      · have h := if_f h hc75
        refine lv_iload_n hx hb dX6_number_78 rfl (lv_at hl 3 rfl) ?_
        refine lv_goto (tgt := 83) hx hb dX6_number_79 (by decide) ?_
        obtain rfl := Option.some.inj h
        exact ret_i X dX6_number_83 hP hD hS rfl
    · have h := if_f h hc41
      refine lv_bipush (v := (10 : Int32)) hx hb dX6_number_44 (by decide) ?_
      refine lv_iload_n hx hb dX6_number_46 rfl (lv_at hl 3 rfl) ?_
      refine lv_imul hx hb dX6_number_47 ?_
      refine lv_aload_n hx hb dX6_number_48 rfl (lv_at hl 0 rfl) ?_
      refine va_get (D := E.1) (ci := 6) (v := .ref a_tape) (C := RX6) (T := TX6) (N := 26) hx hb hts iX6_number_X6 hown hK hP 0 rfl rfl 5 (by decide) (hts (.fieldLink RX6 26 "LeftIsAgreedOnModel" "tape" "[I") (List.mem_of_getElem? (i := 4) rfl)) (fun _ h9 => h9) rfl dX6_number_49 ?_
      refine lv_iload hx hb dX6_number_52 (lv_at hl 4 rfl) ?_
      obtain ⟨hz54, h⟩ := chk_of h
      refine ld_i X hP 1 rfl (inb.vp hz54) (v := (c_tape (l4).toNatClampNeg)) rfl dX6_number_54 ?_
      refine lv_iadd hx hb dX6_number_55 ?_
      refine lv_bipush (v := (48 : Int32)) hx hb dX6_number_56 (by decide) ?_
      refine lv_isub hx hb dX6_number_58 ?_
      refine lv_istore_n (lv' := [(3, .int ((((10 : Int32) * l3) + (c_tape (l4).toNatClampNeg)) - (48 : Int32))), (0, .ref a_t), (1, .int l1), (2, .int l2), (4, .int l4)]) hx hb dX6_number_59 rfl hl (by decide) rfl (fun ls hl => ?_)
      refine lv_iinc (v := (l4 + (1 : Int32))) (lv' := [(4, .int (l4 + (1 : Int32))), (3, .int ((((10 : Int32) * l3) + (c_tape (l4).toNatClampNeg)) - (48 : Int32))), (0, .ref a_t), (1, .int l1), (2, .int l2)]) hx hb dX6_number_60 hl (k := 4) rfl rfl (by decide) rfl (fun ls hl => ?_)
      refine lv_goto (tgt := 35) hx hb dX6_number_63 (by decide) ?_
      exact ih c_t l1 l2 ((((10 : Int32) * l3) + (c_tape (l4).toNatClampNeg)) - (48 : Int32)) (l4 + (1 : Int32)) _ _ _ h hP hD hS (lv_sub hl [2, 3, 4, 1, 0] rfl)
set_option maxRecDepth 100000 in
set_option maxHeartbeats 4000000 in
theorem w_X6_number (X : Ctx p m meth c cX6_number 5 ((some .int)) s args wsX6_number RX6 E A) (a_t : Nat) (a_tape : Nat) (a_refused : Nat) (a_now : Nat) (a_kept : Nat) (a_mind : Nat) (a_words : Nat) (a_wCell : Nat) (a_wFaces : Nat) (a_wTurns : Nat) (a_wSign : Nat) (a_wBy : Nat) (a_wFell : Nat) (a_telling : Nat) (a_holds : Nat) (a_sizes : Nat) (a_elements : Nat) (a_moved : Nat) (a_above : Nat) (a_out : Nat) (a_first : Nat) (c_tape : Nat → Int32) (res : Int32 × (Nat → Int32)) (c_t : Nat → Int32) (l1 : Int32) (l2 : Int32) (ls : Array Slot) (H : Heap) (locs : List Loc) (h : f_X6_number l1 l2 c_t c_tape = some res) (hP : va_P E.1 vwCl (W_X6_number E a_t a_tape a_refused a_now a_kept a_mind a_words a_wCell a_wFaces a_wTurns a_wSign a_wBy a_wFell a_telling a_holds a_sizes a_elements a_moved a_above a_out a_first c_t c_tape) H) (hD : va_D A (W_X6_number E a_t a_tape a_refused a_now a_kept a_mind a_words a_wCell a_wFaces a_wTurns a_wSign a_wBy a_wFell a_telling a_holds a_sizes a_elements a_moved a_above a_out a_first c_t c_tape)) (hS : va_S A s.heap H locs) (hl : lv_has ls 5 [(0, .ref a_t), (1, .int l1), (2, .int l2)]) : W p l e r_X6_number s m args below meth c H locs 0 0 (MQ below (qI E A (res.1) (W_X6_number E a_t a_tape a_refused a_now a_kept a_mind a_words a_wCell a_wFaces a_wTurns a_wSign a_wBy a_wFell a_telling a_holds a_sizes a_elements a_moved a_above a_out a_first (res.2) c_tape)) args s 0 0 A) (F0 m 0 ls []) := by
  obtain ⟨hx, hb, hml, hr, hlk, hown, hts, hG, hA⟩ := id X
  have hK := hG.1
  have hN := hG.2.1
  unfold f_X6_number at h
  refine lv_aload_n hx hb dX6_number_0 rfl (lv_at hl 0 rfl) ?_
  obtain ⟨v1, hv1, h⟩ := bind_of h
  refine after_v X (run_V X (c_X6_next l E a_t a_tape a_refused a_now a_kept a_mind a_words a_wCell a_wFaces a_wTurns a_wSign a_wBy a_wFell a_telling a_holds a_sizes a_elements a_moved a_above a_out a_first c_t c_tape H.size v1 hv1) (cwV 0 hts gX6_number_X6_next rfl rfl rfl hV_X6_next ⟨(Nat.le_of_ble_eq_true rfl), (Nat.le_of_ble_eq_true rfl)⟩) hP hD hS [0, 1] rfl rfl hl.1 (ci := 6) rfl rfl rfl (rest := []) rfl rfl (Nat.le_of_ble_eq_true rfl) dX6_number_1) hP hD hS [0, 1] rfl (ws1 := (W_X6_number E a_t a_tape a_refused a_now a_kept a_mind a_words a_wCell a_wFaces a_wTurns a_wSign a_wBy a_wFell a_telling a_holds a_sizes a_elements a_moved a_above a_out a_first v1 c_tape)) rfl (fun H locs hP hD hS => ?_)
  refine lv_aload_n hx hb dX6_number_4 rfl (lv_at hl 0 rfl) ?_
  refine va_get (D := E.1) (ci := 6) (v := .int (v1 9)) (C := RX6) (T := TX6) (N := 26) hx hb hts iX6_number_X6 hown hK hP 0 rfl rfl 9 (by decide) (hts (.fieldLink RX6 153 "LeftIsAgreedOnModel" "sort" "I") (List.mem_of_getElem? (i := 1) rfl)) (fun _ h9 => h9) rfl dX6_number_5 ?_
  refine lv_iconst (v := (2 : Int32)) hx hb dX6_number_8 (by decide) ?_
  refine lv_icmp_ne (tgt := 25) hx hb dX6_number_9 (by decide) (fun hc9 => ?_) (fun hc9 => ?_)
  · have h := if_f h hc9
    refine lv_iconst (v := (-1 : Int32)) hx hb dX6_number_25 (by decide) ?_
    obtain rfl := Option.some.inj h
    exact ret_i X dX6_number_26 hP hD hS rfl
  · have h := if_t h hc9
    refine lv_aload_n hx hb dX6_number_12 rfl (lv_at hl 0 rfl) ?_
    refine va_get (D := E.1) (ci := 6) (v := .int (v1 7)) (C := RX6) (T := TX6) (N := 26) hx hb hts iX6_number_X6 hown hK hP 0 rfl rfl 7 (by decide) (hts (.fieldLink RX6 144 "LeftIsAgreedOnModel" "at" "I") (List.mem_of_getElem? (i := 2) rfl)) (fun _ h9 => h9) rfl dX6_number_13 ?_
    refine lv_aload_n hx hb dX6_number_16 rfl (lv_at hl 0 rfl) ?_
    refine va_get (D := E.1) (ci := 6) (v := .int (v1 8)) (C := RX6) (T := TX6) (N := 26) hx hb hts iX6_number_X6 hown hK hP 0 rfl rfl 8 (by decide) (hts (.fieldLink RX6 147 "LeftIsAgreedOnModel" "from" "I") (List.mem_of_getElem? (i := 3) rfl)) (fun _ h9 => h9) rfl dX6_number_17 ?_
    refine lv_isub hx hb dX6_number_20 ?_
    refine lv_iconst (v := (2 : Int32)) hx hb dX6_number_21 (by decide) ?_
    refine lv_icmp_le (tgt := 27) hx hb dX6_number_22 (by decide) (fun hc22 => ?_) (fun hc22 => ?_)
    · have h := if_t h hc22
      refine lv_iconst (v := (0 : Int32)) hx hb dX6_number_27 (by decide) ?_
      refine lv_istore_n (lv' := [(3, .int (0 : Int32)), (0, .ref a_t), (1, .int l1), (2, .int l2)]) hx hb dX6_number_28 rfl hl (by decide) rfl (fun ls hl => ?_)
      refine lv_aload_n hx hb dX6_number_29 rfl (lv_at hl 1 rfl) ?_
      refine va_get (D := E.1) (ci := 6) (v := .int (v1 8)) (C := RX6) (T := TX6) (N := 26) hx hb hts iX6_number_X6 hown hK hP 0 rfl rfl 8 (by decide) (hts (.fieldLink RX6 147 "LeftIsAgreedOnModel" "from" "I") (List.mem_of_getElem? (i := 3) rfl)) (fun _ h9 => h9) rfl dX6_number_30 ?_
      refine lv_istore (lv' := [(4, .int (v1 8)), (3, .int (0 : Int32)), (0, .ref a_t), (1, .int l1), (2, .int l2)]) hx hb dX6_number_33 hl (by decide) rfl (fun ls hl => ?_)
      exact w_X6_number_b35 X a_t a_tape a_refused a_now a_kept a_mind a_words a_wCell a_wFaces a_wTurns a_wSign a_wBy a_wFell a_telling a_holds a_sizes a_elements a_moved a_above a_out a_first c_tape res FU v1 l1 l2 (0 : Int32) (v1 8) _ _ _ h hP hD hS (lv_sub hl [2, 3, 4, 1, 0] rfl)
    · have h := if_f h hc22
      refine lv_iconst (v := (-1 : Int32)) hx hb dX6_number_25 (by decide) ?_
      obtain rfl := Option.some.inj h
      exact ret_i X dX6_number_26 hP hD hS rfl
end
set_option maxRecDepth 100000 in
theorem c_X6_number (l : Launch) (E : Env0) (a_t : Nat) (a_tape : Nat) (a_refused : Nat) (a_now : Nat) (a_kept : Nat) (a_mind : Nat) (a_words : Nat) (a_wCell : Nat) (a_wFaces : Nat) (a_wTurns : Nat) (a_wSign : Nat) (a_wBy : Nat) (a_wFell : Nat) (a_telling : Nat) (a_holds : Nat) (a_sizes : Nat) (a_elements : Nat) (a_moved : Nat) (a_above : Nat) (a_out : Nat) (a_first : Nat) (l1 : Int32) (l2 : Int32) (c_t : Nat → Int32) (c_tape : Nat → Int32) (sz : Nat) (res : Int32 × (Nat → Int32)) (h : f_X6_number l1 l2 c_t c_tape = some res) : Met l yX6_number wsX6_number r_X6_number (cPre E [.ref a_t, .int l1, .int l2] (W_X6_number E a_t a_tape a_refused a_now a_kept a_mind a_words a_wCell a_wFaces a_wTurns a_wSign a_wBy a_wFell a_telling a_holds a_sizes a_elements a_moved a_above a_out a_first c_t c_tape) sz) (qI E (va_A (W_X6_number E a_t a_tape a_refused a_now a_kept a_mind a_words a_wCell a_wFaces a_wTurns a_wSign a_wBy a_wFell a_telling a_holds a_sizes a_elements a_moved a_above a_out a_first c_t c_tape) sz) (res.1) (W_X6_number E a_t a_tape a_refused a_now a_kept a_mind a_words a_wCell a_wFaces a_wTurns a_wSign a_wBy a_wFell a_telling a_holds a_sizes a_elements a_moved a_above a_out a_first (res.2) c_tape)) 0 0 (va_A (W_X6_number E a_t a_tape a_refused a_now a_kept a_mind a_words a_wCell a_wFaces a_wTurns a_wSign a_wBy a_wFell a_telling a_holds a_sizes a_elements a_moved a_above a_out a_first c_t c_tape) sz) :=
  met_of (Qc := fun A => qI E A (res.1) (W_X6_number E a_t a_tape a_refused a_now a_kept a_mind a_words a_wCell a_wFaces a_wTurns a_wSign a_wBy a_wFell a_telling a_holds a_sizes a_elements a_moved a_above a_out a_first (res.2) c_tape)) (by decide) rfl (Nat.le_of_ble_eq_true rfl) (fun p e s m args below meth c X hP hD hS ls hl => w_X6_number X a_t a_tape a_refused a_now a_kept a_mind a_words a_wCell a_wFaces a_wTurns a_wSign a_wBy a_wFell a_telling a_holds a_sizes a_elements a_moved a_above a_out a_first c_tape res c_t l1 l2 ls _ _ h hP hD hS hl)
