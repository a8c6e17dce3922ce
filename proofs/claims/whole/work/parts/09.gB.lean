-- ===== X4_begin
noncomputable abbrev W_X4_begin (E : Env0) (a_t : Nat) (a_island : Nat) (a_island_cells : Nat) (a_island_faces : Nat) (a_island_kinds : Nat) (a_island_pledges : Nat) (a_island_ponds : Nat) (a_island_weights : Nat) (c_t : Nat → Int32) (c_island : Nat → Int32) (c_island_cells : Nat → Int32) (c_island_faces : Nat → Int32) (c_island_kinds : Nat → Int32) (c_island_pledges : Nat → Int32) : va_W := [(a_t, .inr (4, [.ref a_island, .int (c_t 1), .int (c_t 2), .int (c_t 3), .int (c_t 4), .int (c_t 5), .int (c_t 6), .int (c_t 7), .int (c_t 8), .int (c_t 9), .int (c_t 10)])), (a_island, .inr (0, [.int (c_island 0), .int (c_island 1), .int (c_island 2), .int (c_island 3), .int (c_island 4), .int (c_island 5), .int (c_island 6), .int (c_island 7), .ref a_island_ponds, .ref a_island_kinds, .ref a_island_weights, .ref a_island_cells, .ref a_island_faces, .ref a_island_pledges])), (a_island_cells, .inl (eI E, 8, .inl c_island_cells)), (a_island_faces, .inl (eI E, 8, .inl c_island_faces)), (a_island_kinds, .inl (eI E, 8, .inl c_island_kinds)), (a_island_pledges, .inl (eI E, 8, .inl c_island_pledges))]
noncomputable abbrev r_X4_begin : Room := { frames := 2, cells := 0, slots := 0, locals := 43 }
theorem hd_X4_begin : yX4_begin.cls ≠ "java/lang/invoke/MethodHandle" ∧ yX4_begin.cls ≠ "java/lang/invoke/VarHandle" ∧ (parseMethodDescriptor yX4_begin.desc).map (fun d => d.parameters.length) = some 1 := by decide +kernel
theorem hV_X4_begin : yX4_begin.cls = RX4 ∧ yX4_begin.cls ≠ "java/lang/invoke/MethodHandle" ∧ yX4_begin.cls ≠ "java/lang/invoke/VarHandle" ∧ (parseMethodDescriptor yX4_begin.desc).map (fun d => d.parameters.length) = some 1 := ⟨rfl, hd_X4_begin⟩
theorem iX4_begin_X0 : ∀ w ∈ wsX00, w ∈ wsX4_begin := fun _ h => List.mem_cons_of_mem _ (List.mem_append_right _ (h))
theorem iX4_begin_X4 : ∀ w ∈ wsX40, w ∈ wsX4_begin := fun _ h => List.mem_cons_of_mem _ (List.mem_append_left _ (List.mem_append_right _ (h)))
section
variable {p : Program} {l : Launch} {e : Env} {s : State} {m : MethodId} {args : Array Value} {below : List Frame} {meth : Method} {c : Code} {E : Env0} {A : Nat → Prop}
set_option maxRecDepth 100000 in
set_option maxHeartbeats 4000000 in
theorem w_X4_begin (X : Ctx p m meth c cX4_begin 2 none s args wsX4_begin RX4 E A) (a_t : Nat) (a_island : Nat) (a_island_cells : Nat) (a_island_faces : Nat) (a_island_kinds : Nat) (a_island_pledges : Nat) (a_island_ponds : Nat) (a_island_weights : Nat) (c_island : Nat → Int32) (c_island_cells : Nat → Int32) (c_island_faces : Nat → Int32) (c_island_kinds : Nat → Int32) (c_island_pledges : Nat → Int32) (res : (Nat → Int32)) (c_t : Nat → Int32) (l1 : Int32) (ls : Array Slot) (H : Heap) (locs : List Loc) (h : f_X4_begin l1 c_t c_island c_island_cells c_island_faces c_island_kinds c_island_pledges = some res) (hP : va_P E.1 vwCl (W_X4_begin E a_t a_island a_island_cells a_island_faces a_island_kinds a_island_pledges a_island_ponds a_island_weights c_t c_island c_island_cells c_island_faces c_island_kinds c_island_pledges) H) (hD : va_D A (W_X4_begin E a_t a_island a_island_cells a_island_faces a_island_kinds a_island_pledges a_island_ponds a_island_weights c_t c_island c_island_cells c_island_faces c_island_kinds c_island_pledges)) (hS : va_S A s.heap H locs) (hl : lv_has ls 2 [(0, .ref a_t), (1, .int l1)]) : W p l e r_X4_begin s m args below meth c H locs 0 0 (MQ below (qV E A (W_X4_begin E a_t a_island a_island_cells a_island_faces a_island_kinds a_island_pledges a_island_ponds a_island_weights res c_island c_island_cells c_island_faces c_island_kinds c_island_pledges)) args s 0 0 A) (F0 m 0 ls []) := by
  obtain ⟨hx, hb, hml, hr, hlk, hown, hts, hG, hA⟩ := id X
  have hK := hG.1
  have hN := hG.2.1
  unfold f_X4_begin at h
  refine lv_aload_n hx hb dX4_begin_0 rfl (lv_at hl 0 rfl) ?_
  refine va_get (D := E.1) (ci := 4) (v := .ref a_island) (C := RX4) (T := TX4) (N := 11) hx hb hts iX4_begin_X4 hown hK hP 0 rfl rfl 0 (by decide) (hts (.fieldLink RX4 43 "LeftIsAgreedOn$Walker" "island" "LLeftIsAgreedOn$Island;") (List.mem_of_getElem? (i := 1) rfl)) (fun _ h9 => h9) rfl dX4_begin_1 ?_
  refine lv_iload_n hx hb dX4_begin_4 rfl (lv_at hl 1 rfl) ?_
  obtain ⟨v1, hv1, h⟩ := bind_of h
  refine after_i X (run_V X (c_X0_isOne l E a_island a_island_ponds a_island_kinds a_island_weights a_island_cells a_island_faces a_island_pledges l1 c_island H.size v1 hv1) (cwV 1 hts gX4_begin_X0_isOne rfl rfl rfl hV_X0_isOne ⟨(Nat.le_of_ble_eq_true rfl), (Nat.le_of_ble_eq_true rfl)⟩) hP hD hS [1] rfl rfl hl.1 (ci := 0) rfl rfl rfl (rest := []) rfl rfl (Nat.le_of_ble_eq_true rfl) dX4_begin_5) hP hD hS [1] rfl (ws1 := (W_X4_begin E a_t a_island a_island_cells a_island_faces a_island_kinds a_island_pledges a_island_ponds a_island_weights c_t c_island c_island_cells c_island_faces c_island_kinds c_island_pledges)) rfl (fun H locs hP hD hS => ?_)
  refine lv_if_ne (tgt := 12) hx hb dX4_begin_8 (by decide) (fun hc8 => ?_) (fun hc8 => ?_)
  · have h := if_f h hc8
    refine lv_aload_n hx hb dX4_begin_12 rfl (lv_at hl 0 rfl) ?_
    refine lv_aload_n hx hb dX4_begin_13 rfl (lv_at hl 0 rfl) ?_
    refine va_get (D := E.1) (ci := 4) (v := .ref a_island) (C := RX4) (T := TX4) (N := 11) hx hb hts iX4_begin_X4 hown hK hP 0 rfl rfl 0 (by decide) (hts (.fieldLink RX4 43 "LeftIsAgreedOn$Walker" "island" "LLeftIsAgreedOn$Island;") (List.mem_of_getElem? (i := 1) rfl)) (fun _ h9 => h9) rfl dX4_begin_14 ?_
    refine va_getN (D := E.1) (ci := 0) (v := .ref a_island_kinds) (C := RX0) (T := TX0) (N := 14) hx hb hts iX4_begin_X0 hown hK hP 1 rfl rfl 9 (by decide) (va_Nw.use rfl (nF_27 hN)) (fun _ h9 => h9) rfl dX4_begin_17 ?_
    refine lv_iload_n hx hb dX4_begin_20 rfl (lv_at hl 1 rfl) ?_
    obtain ⟨hz21, h⟩ := chk_of h
    refine ld_i X hP 4 rfl (inb.vp hz21) (v := (c_island_kinds (l1).toNatClampNeg)) rfl dX4_begin_21 ?_
    refine va_put (D := E.1) (ci := 4) (v := .int (c_island_kinds (l1).toNatClampNeg)) (ty := .int) (C := RX4) (T := TX4) (N := 11) hx hb hts iX4_begin_X4 tyX4 tyX4_ok nmX4 hown hK hP hD hS 0 rfl rfl 1 (by decide) (hts (.fieldLink RX4 9 "LeftIsAgreedOn$Walker" "kind" "I") (List.mem_of_getElem? (i := 2) rfl)) (fun _ h9 => h9) rfl (tyX4_ok 1 (by decide)) rfl rfl (Nat.le_of_ble_eq_true rfl) dX4_begin_22 (fun H locs hP hD hS => ?_)
    have hP : va_P E.1 vwCl (W_X4_begin E a_t a_island a_island_cells a_island_faces a_island_kinds a_island_pledges a_island_ponds a_island_weights (upd c_t 1 (c_island_kinds (l1).toNatClampNeg)) c_island c_island_cells c_island_faces c_island_kinds c_island_pledges) H := hP
    have hD : va_D A (W_X4_begin E a_t a_island a_island_cells a_island_faces a_island_kinds a_island_pledges a_island_ponds a_island_weights (upd c_t 1 (c_island_kinds (l1).toNatClampNeg)) c_island c_island_cells c_island_faces c_island_kinds c_island_pledges) := hD
    refine lv_aload_n hx hb dX4_begin_25 rfl (lv_at hl 0 rfl) ?_
    refine lv_aload_n hx hb dX4_begin_26 rfl (lv_at hl 0 rfl) ?_
    refine va_get (D := E.1) (ci := 4) (v := .ref a_island) (C := RX4) (T := TX4) (N := 11) hx hb hts iX4_begin_X4 hown hK hP 0 rfl rfl 0 (by decide) (hts (.fieldLink RX4 43 "LeftIsAgreedOn$Walker" "island" "LLeftIsAgreedOn$Island;") (List.mem_of_getElem? (i := 1) rfl)) (fun _ h9 => h9) rfl dX4_begin_27 ?_
    refine va_getN (D := E.1) (ci := 0) (v := .int (c_island 1)) (C := RX0) (T := TX0) (N := 14) hx hb hts iX4_begin_X0 hown hK hP 1 rfl rfl 1 (by decide) (va_Nw.use rfl (nF_28 hN)) (fun _ h9 => h9) rfl dX4_begin_30 ?_
    refine va_put (D := E.1) (ci := 4) (v := .int (c_island 1)) (ty := .int) (C := RX4) (T := TX4) (N := 11) hx hb hts iX4_begin_X4 tyX4 tyX4_ok nmX4 hown hK hP hD hS 0 rfl rfl 2 (by decide) (hts (.fieldLink RX4 15 "LeftIsAgreedOn$Walker" "left" "I") (List.mem_of_getElem? (i := 3) rfl)) (fun _ h9 => h9) rfl (tyX4_ok 2 (by decide)) rfl rfl (Nat.le_of_ble_eq_true rfl) dX4_begin_33 (fun H locs hP hD hS => ?_)
    have hP : va_P E.1 vwCl (W_X4_begin E a_t a_island a_island_cells a_island_faces a_island_kinds a_island_pledges a_island_ponds a_island_weights (upd (upd c_t 1 (c_island_kinds (l1).toNatClampNeg)) 2 (c_island 1)) c_island c_island_cells c_island_faces c_island_kinds c_island_pledges) H := hP
    have hD : va_D A (W_X4_begin E a_t a_island a_island_cells a_island_faces a_island_kinds a_island_pledges a_island_ponds a_island_weights (upd (upd c_t 1 (c_island_kinds (l1).toNatClampNeg)) 2 (c_island 1)) c_island c_island_cells c_island_faces c_island_kinds c_island_pledges) := hD
    refine lv_aload_n hx hb dX4_begin_36 rfl (lv_at hl 0 rfl) ?_
    refine lv_aload_n hx hb dX4_begin_37 rfl (lv_at hl 0 rfl) ?_
    refine va_get (D := E.1) (ci := 4) (v := .ref a_island) (C := RX4) (T := TX4) (N := 11) hx hb hts iX4_begin_X4 hown hK hP 0 rfl rfl 0 (by decide) (hts (.fieldLink RX4 43 "LeftIsAgreedOn$Walker" "island" "LLeftIsAgreedOn$Island;") (List.mem_of_getElem? (i := 1) rfl)) (fun _ h9 => h9) rfl dX4_begin_38 ?_
    refine va_getN (D := E.1) (ci := 0) (v := .ref a_island_pledges) (C := RX0) (T := TX0) (N := 14) hx hb hts iX4_begin_X0 hown hK hP 1 rfl rfl 13 (by decide) (va_Nw.use rfl (nF_29 hN)) (fun _ h9 => h9) rfl dX4_begin_41 ?_
    refine lv_iload_n hx hb dX4_begin_44 rfl (lv_at hl 1 rfl) ?_
    obtain ⟨hz45, h⟩ := chk_of h
    refine ld_i X hP 5 rfl (inb.vp hz45) (v := (c_island_pledges (l1).toNatClampNeg)) rfl dX4_begin_45 ?_
    refine va_put (D := E.1) (ci := 4) (v := .int (c_island_pledges (l1).toNatClampNeg)) (ty := .int) (C := RX4) (T := TX4) (N := 11) hx hb hts iX4_begin_X4 tyX4 tyX4_ok nmX4 hown hK hP hD hS 0 rfl rfl 3 (by decide) (hts (.fieldLink RX4 18 "LeftIsAgreedOn$Walker" "pledge" "I") (List.mem_of_getElem? (i := 4) rfl)) (fun _ h9 => h9) rfl (tyX4_ok 3 (by decide)) rfl rfl (Nat.le_of_ble_eq_true rfl) dX4_begin_46 (fun H locs hP hD hS => ?_)
    have hP : va_P E.1 vwCl (W_X4_begin E a_t a_island a_island_cells a_island_faces a_island_kinds a_island_pledges a_island_ponds a_island_weights (upd (upd (upd c_t 1 (c_island_kinds (l1).toNatClampNeg)) 2 (c_island 1)) 3 (c_island_pledges (l1).toNatClampNeg)) c_island c_island_cells c_island_faces c_island_kinds c_island_pledges) H := hP
    have hD : va_D A (W_X4_begin E a_t a_island a_island_cells a_island_faces a_island_kinds a_island_pledges a_island_ponds a_island_weights (upd (upd (upd c_t 1 (c_island_kinds (l1).toNatClampNeg)) 2 (c_island 1)) 3 (c_island_pledges (l1).toNatClampNeg)) c_island c_island_cells c_island_faces c_island_kinds c_island_pledges) := hD
    refine lv_aload_n hx hb dX4_begin_49 rfl (lv_at hl 0 rfl) ?_
    refine lv_aload_n hx hb dX4_begin_50 rfl (lv_at hl 0 rfl) ?_
    refine va_get (D := E.1) (ci := 4) (v := .ref a_island) (C := RX4) (T := TX4) (N := 11) hx hb hts iX4_begin_X4 hown hK hP 0 rfl rfl 0 (by decide) (hts (.fieldLink RX4 43 "LeftIsAgreedOn$Walker" "island" "LLeftIsAgreedOn$Island;") (List.mem_of_getElem? (i := 1) rfl)) (fun _ h9 => h9) rfl dX4_begin_51 ?_
    refine va_getN (D := E.1) (ci := 0) (v := .ref a_island_cells) (C := RX0) (T := TX0) (N := 14) hx hb hts iX4_begin_X0 hown hK hP 1 rfl rfl 11 (by decide) (va_Nw.use rfl (nF_30 hN)) (fun _ h9 => h9) rfl dX4_begin_54 ?_
    refine lv_iload_n hx hb dX4_begin_57 rfl (lv_at hl 1 rfl) ?_
    obtain ⟨hz58, h⟩ := chk_of h
    refine ld_i X hP 2 rfl (inb.vp hz58) (v := (c_island_cells (l1).toNatClampNeg)) rfl dX4_begin_58 ?_
    refine va_put (D := E.1) (ci := 4) (v := .int (c_island_cells (l1).toNatClampNeg)) (ty := .int) (C := RX4) (T := TX4) (N := 11) hx hb hts iX4_begin_X4 tyX4 tyX4_ok nmX4 hown hK hP hD hS 0 rfl rfl 4 (by decide) (hts (.fieldLink RX4 21 "LeftIsAgreedOn$Walker" "cell" "I") (List.mem_of_getElem? (i := 5) rfl)) (fun _ h9 => h9) rfl (tyX4_ok 4 (by decide)) rfl rfl (Nat.le_of_ble_eq_true rfl) dX4_begin_59 (fun H locs hP hD hS => ?_)
    have hP : va_P E.1 vwCl (W_X4_begin E a_t a_island a_island_cells a_island_faces a_island_kinds a_island_pledges a_island_ponds a_island_weights (upd (upd (upd (upd c_t 1 (c_island_kinds (l1).toNatClampNeg)) 2 (c_island 1)) 3 (c_island_pledges (l1).toNatClampNeg)) 4 (c_island_cells (l1).toNatClampNeg)) c_island c_island_cells c_island_faces c_island_kinds c_island_pledges) H := hP
    have hD : va_D A (W_X4_begin E a_t a_island a_island_cells a_island_faces a_island_kinds a_island_pledges a_island_ponds a_island_weights (upd (upd (upd (upd c_t 1 (c_island_kinds (l1).toNatClampNeg)) 2 (c_island 1)) 3 (c_island_pledges (l1).toNatClampNeg)) 4 (c_island_cells (l1).toNatClampNeg)) c_island c_island_cells c_island_faces c_island_kinds c_island_pledges) := hD
    refine lv_aload_n hx hb dX4_begin_62 rfl (lv_at hl 0 rfl) ?_
    refine lv_aload_n hx hb dX4_begin_63 rfl (lv_at hl 0 rfl) ?_
    refine va_get (D := E.1) (ci := 4) (v := .ref a_island) (C := RX4) (T := TX4) (N := 11) hx hb hts iX4_begin_X4 hown hK hP 0 rfl rfl 0 (by decide) (hts (.fieldLink RX4 43 "LeftIsAgreedOn$Walker" "island" "LLeftIsAgreedOn$Island;") (List.mem_of_getElem? (i := 1) rfl)) (fun _ h9 => h9) rfl dX4_begin_64 ?_
    refine va_getN (D := E.1) (ci := 0) (v := .ref a_island_faces) (C := RX0) (T := TX0) (N := 14) hx hb hts iX4_begin_X0 hown hK hP 1 rfl rfl 12 (by decide) (va_Nw.use rfl (nF_31 hN)) (fun _ h9 => h9) rfl dX4_begin_67 ?_
    refine lv_iload_n hx hb dX4_begin_70 rfl (lv_at hl 1 rfl) ?_
    obtain ⟨hz71, h⟩ := chk_of h
    refine ld_i X hP 3 rfl (inb.vp hz71) (v := (c_island_faces (l1).toNatClampNeg)) rfl dX4_begin_71 ?_
    refine va_put (D := E.1) (ci := 4) (v := .int (c_island_faces (l1).toNatClampNeg)) (ty := .int) (C := RX4) (T := TX4) (N := 11) hx hb hts iX4_begin_X4 tyX4 tyX4_ok nmX4 hown hK hP hD hS 0 rfl rfl 5 (by decide) (hts (.fieldLink RX4 24 "LeftIsAgreedOn$Walker" "faces" "I") (List.mem_of_getElem? (i := 6) rfl)) (fun _ h9 => h9) rfl (tyX4_ok 5 (by decide)) rfl rfl (Nat.le_of_ble_eq_true rfl) dX4_begin_72 (fun H locs hP hD hS => ?_)
    have hP : va_P E.1 vwCl (W_X4_begin E a_t a_island a_island_cells a_island_faces a_island_kinds a_island_pledges a_island_ponds a_island_weights (upd (upd (upd (upd (upd c_t 1 (c_island_kinds (l1).toNatClampNeg)) 2 (c_island 1)) 3 (c_island_pledges (l1).toNatClampNeg)) 4 (c_island_cells (l1).toNatClampNeg)) 5 (c_island_faces (l1).toNatClampNeg)) c_island c_island_cells c_island_faces c_island_kinds c_island_pledges) H := hP
    have hD : va_D A (W_X4_begin E a_t a_island a_island_cells a_island_faces a_island_kinds a_island_pledges a_island_ponds a_island_weights (upd (upd (upd (upd (upd c_t 1 (c_island_kinds (l1).toNatClampNeg)) 2 (c_island 1)) 3 (c_island_pledges (l1).toNatClampNeg)) 4 (c_island_cells (l1).toNatClampNeg)) 5 (c_island_faces (l1).toNatClampNeg)) c_island c_island_cells c_island_faces c_island_kinds c_island_pledges) := hD
    refine lv_aload_n hx hb dX4_begin_75 rfl (lv_at hl 0 rfl) ?_
    refine lv_iconst (v := (0 : Int32)) hx hb dX4_begin_76 (by decide) ?_
    refine va_put (D := E.1) (ci := 4) (v := .int (0 : Int32)) (ty := .int) (C := RX4) (T := TX4) (N := 11) hx hb hts iX4_begin_X4 tyX4 tyX4_ok nmX4 hown hK hP hD hS 0 rfl rfl 6 (by decide) (hts (.fieldLink RX4 27 "LeftIsAgreedOn$Walker" "told" "I") (List.mem_of_getElem? (i := 7) rfl)) (fun _ h9 => h9) rfl (tyX4_ok 6 (by decide)) rfl rfl (Nat.le_of_ble_eq_true rfl) dX4_begin_77 (fun H locs hP hD hS => ?_)
    have hP : va_P E.1 vwCl (W_X4_begin E a_t a_island a_island_cells a_island_faces a_island_kinds a_island_pledges a_island_ponds a_island_weights (upd (upd (upd (upd (upd (upd c_t 1 (c_island_kinds (l1).toNatClampNeg)) 2 (c_island 1)) 3 (c_island_pledges (l1).toNatClampNeg)) 4 (c_island_cells (l1).toNatClampNeg)) 5 (c_island_faces (l1).toNatClampNeg)) 6 (0 : Int32)) c_island c_island_cells c_island_faces c_island_kinds c_island_pledges) H := hP
    have hD : va_D A (W_X4_begin E a_t a_island a_island_cells a_island_faces a_island_kinds a_island_pledges a_island_ponds a_island_weights (upd (upd (upd (upd (upd (upd c_t 1 (c_island_kinds (l1).toNatClampNeg)) 2 (c_island 1)) 3 (c_island_pledges (l1).toNatClampNeg)) 4 (c_island_cells (l1).toNatClampNeg)) 5 (c_island_faces (l1).toNatClampNeg)) 6 (0 : Int32)) c_island c_island_cells c_island_faces c_island_kinds c_island_pledges) := hD
    refine lv_aload_n hx hb dX4_begin_80 rfl (lv_at hl 0 rfl) ?_
    refine lv_iconst (v := (-1 : Int32)) hx hb dX4_begin_81 (by decide) ?_
    refine va_put (D := E.1) (ci := 4) (v := .int (-1 : Int32)) (ty := .int) (C := RX4) (T := TX4) (N := 11) hx hb hts iX4_begin_X4 tyX4 tyX4_ok nmX4 hown hK hP hD hS 0 rfl rfl 7 (by decide) (hts (.fieldLink RX4 30 "LeftIsAgreedOn$Walker" "fellBy" "I") (List.mem_of_getElem? (i := 8) rfl)) (fun _ h9 => h9) rfl (tyX4_ok 7 (by decide)) rfl rfl (Nat.le_of_ble_eq_true rfl) dX4_begin_82 (fun H locs hP hD hS => ?_)
    have hP : va_P E.1 vwCl (W_X4_begin E a_t a_island a_island_cells a_island_faces a_island_kinds a_island_pledges a_island_ponds a_island_weights (upd (upd (upd (upd (upd (upd (upd c_t 1 (c_island_kinds (l1).toNatClampNeg)) 2 (c_island 1)) 3 (c_island_pledges (l1).toNatClampNeg)) 4 (c_island_cells (l1).toNatClampNeg)) 5 (c_island_faces (l1).toNatClampNeg)) 6 (0 : Int32)) 7 (-1 : Int32)) c_island c_island_cells c_island_faces c_island_kinds c_island_pledges) H := hP
    have hD : va_D A (W_X4_begin E a_t a_island a_island_cells a_island_faces a_island_kinds a_island_pledges a_island_ponds a_island_weights (upd (upd (upd (upd (upd (upd (upd c_t 1 (c_island_kinds (l1).toNatClampNeg)) 2 (c_island 1)) 3 (c_island_pledges (l1).toNatClampNeg)) 4 (c_island_cells (l1).toNatClampNeg)) 5 (c_island_faces (l1).toNatClampNeg)) 6 (0 : Int32)) 7 (-1 : Int32)) c_island c_island_cells c_island_faces c_island_kinds c_island_pledges) := hD
    refine lv_aload_n hx hb dX4_begin_85 rfl (lv_at hl 0 rfl) ?_
    refine lv_iconst (v := (0 : Int32)) hx hb dX4_begin_86 (by decide) ?_
    refine va_put (D := E.1) (ci := 4) (v := .int (0 : Int32)) (ty := .boolean) (C := RX4) (T := TX4) (N := 11) hx hb hts iX4_begin_X4 tyX4 tyX4_ok nmX4 hown hK hP hD hS 0 rfl rfl 8 (by decide) (hts (.fieldLink RX4 33 "LeftIsAgreedOn$Walker" "isOddTurned" "Z") (List.mem_of_getElem? (i := 9) rfl)) (fun _ h9 => h9) rfl (tyX4_ok 8 (by decide)) rfl rfl (Nat.le_of_ble_eq_true rfl) dX4_begin_87 (fun H locs hP hD hS => ?_)
    have hP : va_P E.1 vwCl (W_X4_begin E a_t a_island a_island_cells a_island_faces a_island_kinds a_island_pledges a_island_ponds a_island_weights (upd (upd (upd (upd (upd (upd (upd (upd c_t 1 (c_island_kinds (l1).toNatClampNeg)) 2 (c_island 1)) 3 (c_island_pledges (l1).toNatClampNeg)) 4 (c_island_cells (l1).toNatClampNeg)) 5 (c_island_faces (l1).toNatClampNeg)) 6 (0 : Int32)) 7 (-1 : Int32)) 8 (0 : Int32)) c_island c_island_cells c_island_faces c_island_kinds c_island_pledges) H := hP
    have hD : va_D A (W_X4_begin E a_t a_island a_island_cells a_island_faces a_island_kinds a_island_pledges a_island_ponds a_island_weights (upd (upd (upd (upd (upd (upd (upd (upd c_t 1 (c_island_kinds (l1).toNatClampNeg)) 2 (c_island 1)) 3 (c_island_pledges (l1).toNatClampNeg)) 4 (c_island_cells (l1).toNatClampNeg)) 5 (c_island_faces (l1).toNatClampNeg)) 6 (0 : Int32)) 7 (-1 : Int32)) 8 (0 : Int32)) c_island c_island_cells c_island_faces c_island_kinds c_island_pledges) := hD
    refine lv_aload_n hx hb dX4_begin_90 rfl (lv_at hl 0 rfl) ?_
    refine lv_iconst (v := (0 : Int32)) hx hb dX4_begin_91 (by decide) ?_
    refine va_put (D := E.1) (ci := 4) (v := .int (0 : Int32)) (ty := .int) (C := RX4) (T := TX4) (N := 11) hx hb hts iX4_begin_X4 tyX4 tyX4_ok nmX4 hown hK hP hD hS 0 rfl rfl 9 (by decide) (hts (.fieldLink RX4 37 "LeftIsAgreedOn$Walker" "lastTurn" "I") (List.mem_of_getElem? (i := 10) rfl)) (fun _ h9 => h9) rfl (tyX4_ok 9 (by decide)) rfl rfl (Nat.le_of_ble_eq_true rfl) dX4_begin_92 (fun H locs hP hD hS => ?_)
    have hP : va_P E.1 vwCl (W_X4_begin E a_t a_island a_island_cells a_island_faces a_island_kinds a_island_pledges a_island_ponds a_island_weights (upd (upd (upd (upd (upd (upd (upd (upd (upd c_t 1 (c_island_kinds (l1).toNatClampNeg)) 2 (c_island 1)) 3 (c_island_pledges (l1).toNatClampNeg)) 4 (c_island_cells (l1).toNatClampNeg)) 5 (c_island_faces (l1).toNatClampNeg)) 6 (0 : Int32)) 7 (-1 : Int32)) 8 (0 : Int32)) 9 (0 : Int32)) c_island c_island_cells c_island_faces c_island_kinds c_island_pledges) H := hP
    have hD : va_D A (W_X4_begin E a_t a_island a_island_cells a_island_faces a_island_kinds a_island_pledges a_island_ponds a_island_weights (upd (upd (upd (upd (upd (upd (upd (upd (upd c_t 1 (c_island_kinds (l1).toNatClampNeg)) 2 (c_island 1)) 3 (c_island_pledges (l1).toNatClampNeg)) 4 (c_island_cells (l1).toNatClampNeg)) 5 (c_island_faces (l1).toNatClampNeg)) 6 (0 : Int32)) 7 (-1 : Int32)) 8 (0 : Int32)) 9 (0 : Int32)) c_island c_island_cells c_island_faces c_island_kinds c_island_pledges) := hD
    refine lv_aload_n hx hb dX4_begin_95 rfl (lv_at hl 0 rfl) ?_
    refine lv_iconst (v := (0 : Int32)) hx hb dX4_begin_96 (by decide) ?_
    refine va_put (D := E.1) (ci := 4) (v := .int (0 : Int32)) (ty := .int) (C := RX4) (T := TX4) (N := 11) hx hb hts iX4_begin_X4 tyX4 tyX4_ok nmX4 hown hK hP hD hS 0 rfl rfl 10 (by decide) (hts (.fieldLink RX4 40 "LeftIsAgreedOn$Walker" "lastBy" "I") (List.mem_of_getElem? (i := 11) rfl)) (fun _ h9 => h9) rfl (tyX4_ok 10 (by decide)) rfl rfl (Nat.le_of_ble_eq_true rfl) dX4_begin_97 (fun H locs hP hD hS => ?_)
    have hP : va_P E.1 vwCl (W_X4_begin E a_t a_island a_island_cells a_island_faces a_island_kinds a_island_pledges a_island_ponds a_island_weights (upd (upd (upd (upd (upd (upd (upd (upd (upd (upd c_t 1 (c_island_kinds (l1).toNatClampNeg)) 2 (c_island 1)) 3 (c_island_pledges (l1).toNatClampNeg)) 4 (c_island_cells (l1).toNatClampNeg)) 5 (c_island_faces (l1).toNatClampNeg)) 6 (0 : Int32)) 7 (-1 : Int32)) 8 (0 : Int32)) 9 (0 : Int32)) 10 (0 : Int32)) c_island c_island_cells c_island_faces c_island_kinds c_island_pledges) H := hP
    have hD : va_D A (W_X4_begin E a_t a_island a_island_cells a_island_faces a_island_kinds a_island_pledges a_island_ponds a_island_weights (upd (upd (upd (upd (upd (upd (upd (upd (upd (upd c_t 1 (c_island_kinds (l1).toNatClampNeg)) 2 (c_island 1)) 3 (c_island_pledges (l1).toNatClampNeg)) 4 (c_island_cells (l1).toNatClampNeg)) 5 (c_island_faces (l1).toNatClampNeg)) 6 (0 : Int32)) 7 (-1 : Int32)) 8 (0 : Int32)) 9 (0 : Int32)) 10 (0 : Int32)) c_island c_island_cells c_island_faces c_island_kinds c_island_pledges) := hD
    obtain rfl := Option.some.inj h
    exact ret_v X dX4_begin_100 hP hD hS
  · have h := if_t h hc8
    obtain rfl := Option.some.inj h
    exact ret_v X dX4_begin_11 hP hD hS
end
set_option maxRecDepth 100000 in
theorem c_X4_begin (l : Launch) (E : Env0) (a_t : Nat) (a_island : Nat) (a_island_cells : Nat) (a_island_faces : Nat) (a_island_kinds : Nat) (a_island_pledges : Nat) (a_island_ponds : Nat) (a_island_weights : Nat) (l1 : Int32) (c_t : Nat → Int32) (c_island : Nat → Int32) (c_island_cells : Nat → Int32) (c_island_faces : Nat → Int32) (c_island_kinds : Nat → Int32) (c_island_pledges : Nat → Int32) (sz : Nat) (res : (Nat → Int32)) (h : f_X4_begin l1 c_t c_island c_island_cells c_island_faces c_island_kinds c_island_pledges = some res) : Met l yX4_begin wsX4_begin r_X4_begin (cPre E [.ref a_t, .int l1] (W_X4_begin E a_t a_island a_island_cells a_island_faces a_island_kinds a_island_pledges a_island_ponds a_island_weights c_t c_island c_island_cells c_island_faces c_island_kinds c_island_pledges) sz) (qV E (va_A (W_X4_begin E a_t a_island a_island_cells a_island_faces a_island_kinds a_island_pledges a_island_ponds a_island_weights c_t c_island c_island_cells c_island_faces c_island_kinds c_island_pledges) sz) (W_X4_begin E a_t a_island a_island_cells a_island_faces a_island_kinds a_island_pledges a_island_ponds a_island_weights res c_island c_island_cells c_island_faces c_island_kinds c_island_pledges)) 0 0 (va_A (W_X4_begin E a_t a_island a_island_cells a_island_faces a_island_kinds a_island_pledges a_island_ponds a_island_weights c_t c_island c_island_cells c_island_faces c_island_kinds c_island_pledges) sz) :=
  met_of (Qc := fun A => qV E A (W_X4_begin E a_t a_island a_island_cells a_island_faces a_island_kinds a_island_pledges a_island_ponds a_island_weights res c_island c_island_cells c_island_faces c_island_kinds c_island_pledges)) (by decide) rfl (Nat.le_of_ble_eq_true rfl) (fun p e s m args below meth c X hP hD hS ls hl => w_X4_begin X a_t a_island a_island_cells a_island_faces a_island_kinds a_island_pledges a_island_ponds a_island_weights c_island c_island_cells c_island_faces c_island_kinds c_island_pledges res c_t l1 ls _ _ h hP hD hS hl)
-- ===== X4_isFallen
noncomputable abbrev W_X4_isFallen (E : Env0) (a_t : Nat) (a_island : Nat) (c_t : Nat → Int32) : va_W := [(a_t, .inr (4, [.ref a_island, .int (c_t 1), .int (c_t 2), .int (c_t 3), .int (c_t 4), .int (c_t 5), .int (c_t 6), .int (c_t 7), .int (c_t 8), .int (c_t 9), .int (c_t 10)]))]
noncomputable abbrev r_X4_isFallen : Room := { frames := 0, cells := 0, slots := 0, locals := 0 }
theorem hd_X4_isFallen : yX4_isFallen.cls ≠ "java/lang/invoke/MethodHandle" ∧ yX4_isFallen.cls ≠ "java/lang/invoke/VarHandle" ∧ (parseMethodDescriptor yX4_isFallen.desc).map (fun d => d.parameters.length) = some 0 := by decide +kernel
theorem hV_X4_isFallen : yX4_isFallen.cls = RX4 ∧ yX4_isFallen.cls ≠ "java/lang/invoke/MethodHandle" ∧ yX4_isFallen.cls ≠ "java/lang/invoke/VarHandle" ∧ (parseMethodDescriptor yX4_isFallen.desc).map (fun d => d.parameters.length) = some 0 := ⟨rfl, hd_X4_isFallen⟩
theorem iX4_isFallen_X4 : ∀ w ∈ wsX40, w ∈ wsX4_isFallen := fun _ h => List.mem_cons_of_mem _ (List.mem_append_right _ (h))
section
variable {p : Program} {l : Launch} {e : Env} {s : State} {m : MethodId} {args : Array Value} {below : List Frame} {meth : Method} {c : Code} {E : Env0} {A : Nat → Prop}
set_option maxRecDepth 100000 in
set_option maxHeartbeats 4000000 in
theorem w_X4_isFallen (X : Ctx p m meth c cX4_isFallen 1 ((some .boolean)) s args wsX4_isFallen RX4 E A) (a_t : Nat) (a_island : Nat) (c_t : Nat → Int32) (res : Int32) (ls : Array Slot) (H : Heap) (locs : List Loc) (h : f_X4_isFallen c_t = some res) (hP : va_P E.1 vwCl (W_X4_isFallen E a_t a_island c_t) H) (hD : va_D A (W_X4_isFallen E a_t a_island c_t)) (hS : va_S A s.heap H locs) (hl : lv_has ls 1 [(0, .ref a_t)]) : W p l e r_X4_isFallen s m args below meth c H locs 0 0 (MQ below (qI E A res (W_X4_isFallen E a_t a_island c_t)) args s 0 0 A) (F0 m 0 ls []) := by
  obtain ⟨hx, hb, hml, hr, hlk, hown, hts, hG, hA⟩ := id X
  have hK := hG.1
  have hN := hG.2.1
  unfold f_X4_isFallen at h
  refine lv_aload_n hx hb dX4_isFallen_0 rfl (lv_at hl 0 rfl) ?_
  refine va_get (D := E.1) (ci := 4) (v := .int (c_t 7)) (C := RX4) (T := TX4) (N := 11) hx hb hts iX4_isFallen_X4 hown hK hP 0 rfl rfl 7 (by decide) (hts (.fieldLink RX4 30 "LeftIsAgreedOn$Walker" "fellBy" "I") (List.mem_of_getElem? (i := 1) rfl)) (fun _ h9 => h9) rfl dX4_isFallen_1 ?_
  refine lv_iconst (v := (-1 : Int32)) hx hb dX4_isFallen_4 (by decide) ?_
  refine lv_icmp_eq (tgt := 12) hx hb dX4_isFallen_5 (by decide) (fun hc5 => ?_) (fun hc5 => ?_)
  · have h := if_t h hc5
    refine lv_iconst (v := (0 : Int32)) hx hb dX4_isFallen_12 (by decide) ?_
    obtain rfl := Option.some.inj h
    exact ret_z X dX4_isFallen_13 (by decide) hP hD hS rfl
  · have h := if_f h hc5
    refine lv_iconst (v := (1 : Int32)) hx hb dX4_isFallen_8 (by decide) ?_
    refine lv_goto (tgt := 13) hx hb dX4_isFallen_9 (by decide) ?_
    obtain rfl := Option.some.inj h
    exact ret_z X dX4_isFallen_13 (by decide) hP hD hS rfl
end
set_option maxRecDepth 100000 in
theorem c_X4_isFallen (l : Launch) (E : Env0) (a_t : Nat) (a_island : Nat) (c_t : Nat → Int32) (sz : Nat) (res : Int32) (h : f_X4_isFallen c_t = some res) : Met l yX4_isFallen wsX4_isFallen r_X4_isFallen (cPre E [.ref a_t] (W_X4_isFallen E a_t a_island c_t) sz) (qI E (va_A (W_X4_isFallen E a_t a_island c_t) sz) res (W_X4_isFallen E a_t a_island c_t)) 0 0 (va_A (W_X4_isFallen E a_t a_island c_t) sz) :=
  met_of (Qc := fun A => qI E A res (W_X4_isFallen E a_t a_island c_t)) (by decide) rfl (Nat.le_of_ble_eq_true rfl) (fun p e s m args below meth c X hP hD hS ls hl => w_X4_isFallen X a_t a_island c_t res ls _ _ h hP hD hS hl)
-- ===== X4_state
noncomputable abbrev W_X4_state (E : Env0) (a_t : Nat) (a_island : Nat) (c_t : Nat → Int32) : va_W := [(a_t, .inr (4, [.ref a_island, .int (c_t 1), .int (c_t 2), .int (c_t 3), .int (c_t 4), .int (c_t 5), .int (c_t 6), .int (c_t 7), .int (c_t 8), .int (c_t 9), .int (c_t 10)]))]
noncomputable abbrev r_X4_state : Room := { frames := 1, cells := 0, slots := 0, locals := 20 }
theorem hd_X4_state : yX4_state.cls ≠ "java/lang/invoke/MethodHandle" ∧ yX4_state.cls ≠ "java/lang/invoke/VarHandle" ∧ (parseMethodDescriptor yX4_state.desc).map (fun d => d.parameters.length) = some 0 := by decide +kernel
theorem hV_X4_state : yX4_state.cls = RX4 ∧ yX4_state.cls ≠ "java/lang/invoke/MethodHandle" ∧ yX4_state.cls ≠ "java/lang/invoke/VarHandle" ∧ (parseMethodDescriptor yX4_state.desc).map (fun d => d.parameters.length) = some 0 := ⟨rfl, hd_X4_state⟩
theorem iX4_state_X4 : ∀ w ∈ wsX40, w ∈ wsX4_state := fun _ h => List.mem_cons_of_mem _ (List.mem_append_right _ (h))
section
variable {p : Program} {l : Launch} {e : Env} {s : State} {m : MethodId} {args : Array Value} {below : List Frame} {meth : Method} {c : Code} {E : Env0} {A : Nat → Prop}
set_option maxRecDepth 100000 in
set_option maxHeartbeats 4000000 in
theorem w_X4_state (X : Ctx p m meth c cX4_state 2 ((some .int)) s args wsX4_state RX4 E A) (a_t : Nat) (a_island : Nat) (c_t : Nat → Int32) (res : Int32) (ls : Array Slot) (H : Heap) (locs : List Loc) (h : f_X4_state c_t = some res) (hP : va_P E.1 vwCl (W_X4_state E a_t a_island c_t) H) (hD : va_D A (W_X4_state E a_t a_island c_t)) (hS : va_S A s.heap H locs) (hl : lv_has ls 2 [(0, .ref a_t)]) : W p l e r_X4_state s m args below meth c H locs 0 0 (MQ below (qI E A res (W_X4_state E a_t a_island c_t)) args s 0 0 A) (F0 m 0 ls []) := by
  obtain ⟨hx, hb, hml, hr, hlk, hown, hts, hG, hA⟩ := id X
  have hK := hG.1
  have hN := hG.2.1
  unfold f_X4_state at h
  refine lv_aload_n hx hb dX4_state_0 rfl (lv_at hl 0 rfl) ?_
  obtain ⟨v1, hv1, h⟩ := bind_of h
  refine after_i X (run_V X (c_X4_isFallen l E a_t a_island c_t H.size v1 hv1) (cwV 0 hts gX4_state_X4_isFallen rfl rfl rfl hV_X4_isFallen ⟨(Nat.le_of_ble_eq_true rfl), (Nat.le_of_ble_eq_true rfl)⟩) hP hD hS [0] rfl rfl hl.1 (ci := 4) rfl rfl rfl (rest := []) rfl rfl (Nat.le_of_ble_eq_true rfl) dX4_state_1) hP hD hS [0] rfl (ws1 := (W_X4_state E a_t a_island c_t)) rfl (fun H locs hP hD hS => ?_)
  refine lv_if_eq (tgt := 9) hx hb dX4_state_4 (by decide) (fun hc4 => ?_) (fun hc4 => ?_)
  · have h := if_t h hc4
    refine lv_aload_n hx hb dX4_state_9 rfl (lv_at hl 0 rfl) ?_
    refine va_get (D := E.1) (ci := 4) (v := .int (c_t 8)) (C := RX4) (T := TX4) (N := 11) hx hb hts iX4_state_X4 hown hK hP 0 rfl rfl 8 (by decide) (hts (.fieldLink RX4 33 "LeftIsAgreedOn$Walker" "isOddTurned" "Z") (List.mem_of_getElem? (i := 1) rfl)) (fun _ h9 => h9) rfl dX4_state_10 ?_
    obtain ⟨v2, hv2, h⟩ := bind_of h
    refine after_i X (run_SN X (c_X5_asNumber l E (c_t 8) H.size v2 hv2) ⟨va_cnB 1 hts gX4_state_X5_asNumber_n97 rfl rfl rfl (nM_8 hN) (hts (.initialized RX5) (List.mem_of_getElem? (i := 13) rfl)) hd_X5_asNumber ⟨(Nat.le_of_ble_eq_true rfl), (Nat.le_of_ble_eq_true rfl)⟩, (hts (.static yX5_asNumber) (List.mem_of_getElem? (i := 12) rfl)), trivial⟩ hP hD hS [] rfl rfl hl.1 (rest := []) rfl rfl (Nat.le_of_ble_eq_true rfl) dX4_state_13) hP hD hS [] rfl (ws1 := (W_X4_state E a_t a_island c_t)) rfl (fun H locs hP hD hS => ?_)
    refine lv_aload_n hx hb dX4_state_16 rfl (lv_at hl 0 rfl) ?_
    refine va_get (D := E.1) (ci := 4) (v := .int (c_t 10)) (C := RX4) (T := TX4) (N := 11) hx hb hts iX4_state_X4 hown hK hP 0 rfl rfl 10 (by decide) (hts (.fieldLink RX4 40 "LeftIsAgreedOn$Walker" "lastBy" "I") (List.mem_of_getElem? (i := 2) rfl)) (fun _ h9 => h9) rfl dX4_state_17 ?_
    refine lv_iconst (v := (1 : Int32)) hx hb dX4_state_20 (by decide) ?_
    refine lv_ishl hx hb dX4_state_21 ?_
    refine lv_ior hx hb dX4_state_22 ?_
    refine lv_aload_n hx hb dX4_state_23 rfl (lv_at hl 0 rfl) ?_
    refine va_get (D := E.1) (ci := 4) (v := .int (c_t 9)) (C := RX4) (T := TX4) (N := 11) hx hb hts iX4_state_X4 hown hK hP 0 rfl rfl 9 (by decide) (hts (.fieldLink RX4 37 "LeftIsAgreedOn$Walker" "lastTurn" "I") (List.mem_of_getElem? (i := 3) rfl)) (fun _ h9 => h9) rfl dX4_state_24 ?_
    refine lv_iconst (v := (2 : Int32)) hx hb dX4_state_27 (by decide) ?_
    refine lv_ishl hx hb dX4_state_28 ?_
    refine lv_ior hx hb dX4_state_29 ?_
    refine lv_istore_n (lv' := [(1, .int ((v2 ||| ((c_t 10) <<< ((1 : Int32) &&& 31))) ||| ((c_t 9) <<< ((2 : Int32) &&& 31)))), (0, .ref a_t)]) hx hb dX4_state_30 rfl hl (by decide) rfl (fun ls hl => ?_)
    refine lv_aload_n hx hb dX4_state_31 rfl (lv_at hl 1 rfl) ?_
    refine va_get (D := E.1) (ci := 4) (v := .int (c_t 4)) (C := RX4) (T := TX4) (N := 11) hx hb hts iX4_state_X4 hown hK hP 0 rfl rfl 4 (by decide) (hts (.fieldLink RX4 21 "LeftIsAgreedOn$Walker" "cell" "I") (List.mem_of_getElem? (i := 4) rfl)) (fun _ h9 => h9) rfl dX4_state_32 ?_
    refine lv_aload_n hx hb dX4_state_35 rfl (lv_at hl 1 rfl) ?_
    refine va_get (D := E.1) (ci := 4) (v := .int (c_t 5)) (C := RX4) (T := TX4) (N := 11) hx hb hts iX4_state_X4 hown hK hP 0 rfl rfl 5 (by decide) (hts (.fieldLink RX4 24 "LeftIsAgreedOn$Walker" "faces" "I") (List.mem_of_getElem? (i := 5) rfl)) (fun _ h9 => h9) rfl dX4_state_36 ?_
    refine lv_bipush (v := (7 : Int32)) hx hb dX4_state_39 (by decide) ?_
    refine lv_ishl hx hb dX4_state_41 ?_
    refine lv_ior hx hb dX4_state_42 ?_
    refine lv_iload_n hx hb dX4_state_43 rfl (lv_at hl 0 rfl) ?_
    refine lv_bipush (v := (9 : Int32)) hx hb dX4_state_44 (by decide) ?_
    refine lv_ishl hx hb dX4_state_46 ?_
    refine lv_ior hx hb dX4_state_47 ?_
    obtain rfl := Option.some.inj h
    exact ret_i X dX4_state_48 hP hD hS rfl
  · have h := if_f h hc4
    refine lv_iconst (v := (-1 : Int32)) hx hb dX4_state_7 (by decide) ?_
    obtain rfl := Option.some.inj h
    exact ret_i X dX4_state_8 hP hD hS rfl
end
set_option maxRecDepth 100000 in
theorem c_X4_state (l : Launch) (E : Env0) (a_t : Nat) (a_island : Nat) (c_t : Nat → Int32) (sz : Nat) (res : Int32) (h : f_X4_state c_t = some res) : Met l yX4_state wsX4_state r_X4_state (cPre E [.ref a_t] (W_X4_state E a_t a_island c_t) sz) (qI E (va_A (W_X4_state E a_t a_island c_t) sz) res (W_X4_state E a_t a_island c_t)) 0 0 (va_A (W_X4_state E a_t a_island c_t) sz) :=
  met_of (Qc := fun A => qI E A res (W_X4_state E a_t a_island c_t)) (by decide) rfl (Nat.le_of_ble_eq_true rfl) (fun p e s m args below meth c X hP hD hS ls hl => w_X4_state X a_t a_island c_t res ls _ _ h hP hD hS hl)
-- ===== X4_resume
noncomputable abbrev W_X4_resume (E : Env0) (a_t : Nat) (a_island : Nat) (c_t : Nat → Int32) : va_W := [(a_t, .inr (4, [.ref a_island, .int (c_t 1), .int (c_t 2), .int (c_t 3), .int (c_t 4), .int (c_t 5), .int (c_t 6), .int (c_t 7), .int (c_t 8), .int (c_t 9), .int (c_t 10)]))]
noncomputable abbrev r_X4_resume : Room := { frames := 0, cells := 0, slots := 0, locals := 0 }
theorem hd_X4_resume : yX4_resume.cls ≠ "java/lang/invoke/MethodHandle" ∧ yX4_resume.cls ≠ "java/lang/invoke/VarHandle" ∧ (parseMethodDescriptor yX4_resume.desc).map (fun d => d.parameters.length) = some 1 := by decide +kernel
theorem hV_X4_resume : yX4_resume.cls = RX4 ∧ yX4_resume.cls ≠ "java/lang/invoke/MethodHandle" ∧ yX4_resume.cls ≠ "java/lang/invoke/VarHandle" ∧ (parseMethodDescriptor yX4_resume.desc).map (fun d => d.parameters.length) = some 1 := ⟨rfl, hd_X4_resume⟩
theorem iX4_resume_X4 : ∀ w ∈ wsX40, w ∈ wsX4_resume := fun _ h => List.mem_cons_of_mem _ (List.mem_append_right _ (h))
section
variable {p : Program} {l : Launch} {e : Env} {s : State} {m : MethodId} {args : Array Value} {below : List Frame} {meth : Method} {c : Code} {E : Env0} {A : Nat → Prop}
set_option maxRecDepth 100000 in
set_option maxHeartbeats 4000000 in
theorem w_X4_resume_b34 (X : Ctx p m meth c cX4_resume 2 none s args wsX4_resume RX4 E A) (a_t : Nat) (a_island : Nat) (res : (Nat → Int32)) (c_t : Nat → Int32) (l1 : Int32) (s0 : Int32) (ls : Array Slot) (H : Heap) (locs : List Loc) (h : f_X4_resume_b34 c_t l1 s0 = some res) (hP : va_P E.1 vwCl (W_X4_resume E a_t a_island c_t) H) (hD : va_D A (W_X4_resume E a_t a_island c_t)) (hS : va_S A s.heap H locs) (hl : lv_has ls 2 [(0, .ref a_t), (1, .int l1)]) : W p l e r_X4_resume s m args below meth c H locs 0 0 (MQ below (qV E A (W_X4_resume E a_t a_island res)) args s 0 0 A) (F0 m 34 ls [.int s0, .ref a_t]) := by
  obtain ⟨hx, hb, hml, hr, hlk, hown, hts, hG, hA⟩ := id X
  have hK := hG.1
  have hN := hG.2.1
  unfold f_X4_resume_b34 at h
  obtain ⟨hz34, h⟩ := chk_of h
  refine va_put (D := E.1) (ci := 4) (v := .int s0) (ty := .boolean) (C := RX4) (T := TX4) (N := 11) hx hb hts iX4_resume_X4 tyX4 tyX4_ok nmX4 hown hK hP hD hS 0 rfl rfl 8 (by decide) (hts (.fieldLink RX4 33 "LeftIsAgreedOn$Walker" "isOddTurned" "Z") (List.mem_of_getElem? (i := 3) rfl)) (fun _ h9 => h9) rfl (tyX4_ok 8 (by decide)) (isB.nar hz34) (isB.fit hz34) (Nat.le_of_ble_eq_true rfl) dX4_resume_34 (fun H locs hP hD hS => ?_)
  have hP : va_P E.1 vwCl (W_X4_resume E a_t a_island (upd c_t 8 s0)) H := hP
  have hD : va_D A (W_X4_resume E a_t a_island (upd c_t 8 s0)) := hD
  refine lv_aload_n hx hb dX4_resume_37 rfl (lv_at hl 0 rfl) ?_
  refine lv_iload_n hx hb dX4_resume_38 rfl (lv_at hl 1 rfl) ?_
  refine lv_bipush (v := (10 : Int32)) hx hb dX4_resume_39 (by decide) ?_
  refine lv_ishr hx hb dX4_resume_41 ?_
  refine lv_iconst (v := (1 : Int32)) hx hb dX4_resume_42 (by decide) ?_
  refine lv_iand hx hb dX4_resume_43 ?_
  refine va_put (D := E.1) (ci := 4) (v := .int ((l1 >>> ((10 : Int32) &&& 31)) &&& (1 : Int32))) (ty := .int) (C := RX4) (T := TX4) (N := 11) hx hb hts iX4_resume_X4 tyX4 tyX4_ok nmX4 hown hK hP hD hS 0 rfl rfl 10 (by decide) (hts (.fieldLink RX4 40 "LeftIsAgreedOn$Walker" "lastBy" "I") (List.mem_of_getElem? (i := 4) rfl)) (fun _ h9 => h9) rfl (tyX4_ok 10 (by decide)) rfl rfl (Nat.le_of_ble_eq_true rfl) dX4_resume_44 (fun H locs hP hD hS => ?_)
  have hP : va_P E.1 vwCl (W_X4_resume E a_t a_island (upd (upd c_t 8 s0) 10 ((l1 >>> ((10 : Int32) &&& 31)) &&& (1 : Int32)))) H := hP
  have hD : va_D A (W_X4_resume E a_t a_island (upd (upd c_t 8 s0) 10 ((l1 >>> ((10 : Int32) &&& 31)) &&& (1 : Int32)))) := hD
  refine lv_aload_n hx hb dX4_resume_47 rfl (lv_at hl 0 rfl) ?_
  refine lv_iload_n hx hb dX4_resume_48 rfl (lv_at hl 1 rfl) ?_
  refine lv_bipush (v := (11 : Int32)) hx hb dX4_resume_49 (by decide) ?_
  refine lv_ishr hx hb dX4_resume_51 ?_
  refine lv_iconst (v := (3 : Int32)) hx hb dX4_resume_52 (by decide) ?_
  refine lv_iand hx hb dX4_resume_53 ?_
  refine va_put (D := E.1) (ci := 4) (v := .int ((l1 >>> ((11 : Int32) &&& 31)) &&& (3 : Int32))) (ty := .int) (C := RX4) (T := TX4) (N := 11) hx hb hts iX4_resume_X4 tyX4 tyX4_ok nmX4 hown hK hP hD hS 0 rfl rfl 9 (by decide) (hts (.fieldLink RX4 37 "LeftIsAgreedOn$Walker" "lastTurn" "I") (List.mem_of_getElem? (i := 5) rfl)) (fun _ h9 => h9) rfl (tyX4_ok 9 (by decide)) rfl rfl (Nat.le_of_ble_eq_true rfl) dX4_resume_54 (fun H locs hP hD hS => ?_)
  have hP : va_P E.1 vwCl (W_X4_resume E a_t a_island (upd (upd (upd c_t 8 s0) 10 ((l1 >>> ((10 : Int32) &&& 31)) &&& (1 : Int32))) 9 ((l1 >>> ((11 : Int32) &&& 31)) &&& (3 : Int32)))) H := hP
  have hD : va_D A (W_X4_resume E a_t a_island (upd (upd (upd c_t 8 s0) 10 ((l1 >>> ((10 : Int32) &&& 31)) &&& (1 : Int32))) 9 ((l1 >>> ((11 : Int32) &&& 31)) &&& (3 : Int32)))) := hD
  refine lv_aload_n hx hb dX4_resume_57 rfl (lv_at hl 0 rfl) ?_
  refine lv_iconst (v := (-1 : Int32)) hx hb dX4_resume_58 (by decide) ?_
  refine va_put (D := E.1) (ci := 4) (v := .int (-1 : Int32)) (ty := .int) (C := RX4) (T := TX4) (N := 11) hx hb hts iX4_resume_X4 tyX4 tyX4_ok nmX4 hown hK hP hD hS 0 rfl rfl 7 (by decide) (hts (.fieldLink RX4 30 "LeftIsAgreedOn$Walker" "fellBy" "I") (List.mem_of_getElem? (i := 6) rfl)) (fun _ h9 => h9) rfl (tyX4_ok 7 (by decide)) rfl rfl (Nat.le_of_ble_eq_true rfl) dX4_resume_59 (fun H locs hP hD hS => ?_)
  have hP : va_P E.1 vwCl (W_X4_resume E a_t a_island (upd (upd (upd (upd c_t 8 s0) 10 ((l1 >>> ((10 : Int32) &&& 31)) &&& (1 : Int32))) 9 ((l1 >>> ((11 : Int32) &&& 31)) &&& (3 : Int32))) 7 (-1 : Int32))) H := hP
  have hD : va_D A (W_X4_resume E a_t a_island (upd (upd (upd (upd c_t 8 s0) 10 ((l1 >>> ((10 : Int32) &&& 31)) &&& (1 : Int32))) 9 ((l1 >>> ((11 : Int32) &&& 31)) &&& (3 : Int32))) 7 (-1 : Int32))) := hD
  obtain rfl := Option.some.inj h
  exact ret_v X dX4_resume_62 hP hD hS
set_option maxRecDepth 100000 in
set_option maxHeartbeats 4000000 in
theorem w_X4_resume (X : Ctx p m meth c cX4_resume 2 none s args wsX4_resume RX4 E A) (a_t : Nat) (a_island : Nat) (res : (Nat → Int32)) (c_t : Nat → Int32) (l1 : Int32) (ls : Array Slot) (H : Heap) (locs : List Loc) (h : f_X4_resume l1 c_t = some res) (hP : va_P E.1 vwCl (W_X4_resume E a_t a_island c_t) H) (hD : va_D A (W_X4_resume E a_t a_island c_t)) (hS : va_S A s.heap H locs) (hl : lv_has ls 2 [(0, .ref a_t), (1, .int l1)]) : W p l e r_X4_resume s m args below meth c H locs 0 0 (MQ below (qV E A (W_X4_resume E a_t a_island res)) args s 0 0 A) (F0 m 0 ls []) := by
  obtain ⟨hx, hb, hml, hr, hlk, hown, hts, hG, hA⟩ := id X
  have hK := hG.1
  have hN := hG.2.1
  unfold f_X4_resume at h
  refine lv_aload_n hx hb dX4_resume_0 rfl (lv_at hl 0 rfl) ?_
  refine lv_iload_n hx hb dX4_resume_1 rfl (lv_at hl 1 rfl) ?_
  refine lv_bipush (v := (127 : Int32)) hx hb dX4_resume_2 (by decide) ?_
  refine lv_iand hx hb dX4_resume_4 ?_
  refine va_put (D := E.1) (ci := 4) (v := .int (l1 &&& (127 : Int32))) (ty := .int) (C := RX4) (T := TX4) (N := 11) hx hb hts iX4_resume_X4 tyX4 tyX4_ok nmX4 hown hK hP hD hS 0 rfl rfl 4 (by decide) (hts (.fieldLink RX4 21 "LeftIsAgreedOn$Walker" "cell" "I") (List.mem_of_getElem? (i := 1) rfl)) (fun _ h9 => h9) rfl (tyX4_ok 4 (by decide)) rfl rfl (Nat.le_of_ble_eq_true rfl) dX4_resume_5 (fun H locs hP hD hS => ?_)
  have hP : va_P E.1 vwCl (W_X4_resume E a_t a_island (upd c_t 4 (l1 &&& (127 : Int32)))) H := hP
  have hD : va_D A (W_X4_resume E a_t a_island (upd c_t 4 (l1 &&& (127 : Int32)))) := hD
  refine lv_aload_n hx hb dX4_resume_8 rfl (lv_at hl 0 rfl) ?_
  refine lv_iload_n hx hb dX4_resume_9 rfl (lv_at hl 1 rfl) ?_
  refine lv_bipush (v := (7 : Int32)) hx hb dX4_resume_10 (by decide) ?_
  refine lv_ishr hx hb dX4_resume_12 ?_
  refine lv_iconst (v := (3 : Int32)) hx hb dX4_resume_13 (by decide) ?_
  refine lv_iand hx hb dX4_resume_14 ?_
  refine va_put (D := E.1) (ci := 4) (v := .int ((l1 >>> ((7 : Int32) &&& 31)) &&& (3 : Int32))) (ty := .int) (C := RX4) (T := TX4) (N := 11) hx hb hts iX4_resume_X4 tyX4 tyX4_ok nmX4 hown hK hP hD hS 0 rfl rfl 5 (by decide) (hts (.fieldLink RX4 24 "LeftIsAgreedOn$Walker" "faces" "I") (List.mem_of_getElem? (i := 2) rfl)) (fun _ h9 => h9) rfl (tyX4_ok 5 (by decide)) rfl rfl (Nat.le_of_ble_eq_true rfl) dX4_resume_15 (fun H locs hP hD hS => ?_)
  have hP : va_P E.1 vwCl (W_X4_resume E a_t a_island (upd (upd c_t 4 (l1 &&& (127 : Int32))) 5 ((l1 >>> ((7 : Int32) &&& 31)) &&& (3 : Int32)))) H := hP
  have hD : va_D A (W_X4_resume E a_t a_island (upd (upd c_t 4 (l1 &&& (127 : Int32))) 5 ((l1 >>> ((7 : Int32) &&& 31)) &&& (3 : Int32)))) := hD
  refine lv_aload_n hx hb dX4_resume_18 rfl (lv_at hl 0 rfl) ?_
  refine lv_iload_n hx hb dX4_resume_19 rfl (lv_at hl 1 rfl) ?_
  refine lv_bipush (v := (9 : Int32)) hx hb dX4_resume_20 (by decide) ?_
  refine lv_ishr hx hb dX4_resume_22 ?_
  refine lv_iconst (v := (1 : Int32)) hx hb dX4_resume_23 (by decide) ?_
  refine lv_iand hx hb dX4_resume_24 ?_
  refine lv_iconst (v := (1 : Int32)) hx hb dX4_resume_25 (by decide) ?_
  refine lv_icmp_ne (tgt := 33) hx hb dX4_resume_26 (by decide) (fun hc26 => ?_) (fun hc26 => ?_)
  · have h := if_f h hc26
    refine lv_iconst (v := (0 : Int32)) hx hb dX4_resume_33 (by decide) ?_
    exact w_X4_resume_b34 X a_t a_island res (upd (upd c_t 4 (l1 &&& (127 : Int32))) 5 ((l1 >>> ((7 : Int32) &&& 31)) &&& (3 : Int32))) l1 (0 : Int32) _ _ _ h hP hD hS (lv_sub hl [0, 1] rfl)
  · have h := if_t h hc26
    refine lv_iconst (v := (1 : Int32)) hx hb dX4_resume_29 (by decide) ?_
    refine lv_goto (tgt := 34) hx hb dX4_resume_30 (by decide) ?_
    exact w_X4_resume_b34 X a_t a_island res (upd (upd c_t 4 (l1 &&& (127 : Int32))) 5 ((l1 >>> ((7 : Int32) &&& 31)) &&& (3 : Int32))) l1 (1 : Int32) _ _ _ h hP hD hS (lv_sub hl [0, 1] rfl)
end
set_option maxRecDepth 100000 in
theorem c_X4_resume (l : Launch) (E : Env0) (a_t : Nat) (a_island : Nat) (l1 : Int32) (c_t : Nat → Int32) (sz : Nat) (res : (Nat → Int32)) (h : f_X4_resume l1 c_t = some res) : Met l yX4_resume wsX4_resume r_X4_resume (cPre E [.ref a_t, .int l1] (W_X4_resume E a_t a_island c_t) sz) (qV E (va_A (W_X4_resume E a_t a_island c_t) sz) (W_X4_resume E a_t a_island res)) 0 0 (va_A (W_X4_resume E a_t a_island c_t) sz) :=
  met_of (Qc := fun A => qV E A (W_X4_resume E a_t a_island res)) (by decide) rfl (Nat.le_of_ble_eq_true rfl) (fun p e s m args below meth c X hP hD hS ls hl => w_X4_resume X a_t a_island res c_t l1 ls _ _ h hP hD hS hl)
-- ===== X4_goOn
noncomputable abbrev W_X4_goOn (E : Env0) (a_t : Nat) (a_island : Nat) (a_island_ponds : Nat) (a_island_kinds : Nat) (a_island_weights : Nat) (a_island_cells : Nat) (a_island_faces : Nat) (a_island_pledges : Nat) (c_t : Nat → Int32) (c_island : Nat → Int32) (c_island_ponds : Nat → Int32) : va_W := [(a_t, .inr (4, [.ref a_island, .int (c_t 1), .int (c_t 2), .int (c_t 3), .int (c_t 4), .int (c_t 5), .int (c_t 6), .int (c_t 7), .int (c_t 8), .int (c_t 9), .int (c_t 10)])), (a_island, .inr (0, [.int (c_island 0), .int (c_island 1), .int (c_island 2), .int (c_island 3), .int (c_island 4), .int (c_island 5), .int (c_island 6), .int (c_island 7), .ref a_island_ponds, .ref a_island_kinds, .ref a_island_weights, .ref a_island_cells, .ref a_island_faces, .ref a_island_pledges])), (a_island_ponds, .inl (eZ E, 70, .inl c_island_ponds))]
noncomputable abbrev r_X4_goOn : Room := { frames := 2, cells := 0, slots := 0, locals := 42 }
theorem hd_X4_goOn : yX4_goOn.cls ≠ "java/lang/invoke/MethodHandle" ∧ yX4_goOn.cls ≠ "java/lang/invoke/VarHandle" ∧ (parseMethodDescriptor yX4_goOn.desc).map (fun d => d.parameters.length) = some 0 := by decide +kernel
theorem hV_X4_goOn : yX4_goOn.cls = RX4 ∧ yX4_goOn.cls ≠ "java/lang/invoke/MethodHandle" ∧ yX4_goOn.cls ≠ "java/lang/invoke/VarHandle" ∧ (parseMethodDescriptor yX4_goOn.desc).map (fun d => d.parameters.length) = some 0 := ⟨rfl, hd_X4_goOn⟩
theorem iX4_goOn_X4 : ∀ w ∈ wsX40, w ∈ wsX4_goOn := fun _ h => List.mem_cons_of_mem _ (List.mem_append_left _ (List.mem_append_right _ (h)))
section
variable {p : Program} {l : Launch} {e : Env} {s : State} {m : MethodId} {args : Array Value} {below : List Frame} {meth : Method} {c : Code} {E : Env0} {A : Nat → Prop}
set_option maxRecDepth 100000 in
set_option maxHeartbeats 4000000 in
theorem w_X4_goOn (X : Ctx p m meth c cX4_goOn 2 none s args wsX4_goOn RX4 E A) (a_t : Nat) (a_island : Nat) (a_island_ponds : Nat) (a_island_kinds : Nat) (a_island_weights : Nat) (a_island_cells : Nat) (a_island_faces : Nat) (a_island_pledges : Nat) (c_island : Nat → Int32) (c_island_ponds : Nat → Int32) (res : (Nat → Int32)) (c_t : Nat → Int32) (ls : Array Slot) (H : Heap) (locs : List Loc) (h : f_X4_goOn c_t c_island c_island_ponds = some res) (hP : va_P E.1 vwCl (W_X4_goOn E a_t a_island a_island_ponds a_island_kinds a_island_weights a_island_cells a_island_faces a_island_pledges c_t c_island c_island_ponds) H) (hD : va_D A (W_X4_goOn E a_t a_island a_island_ponds a_island_kinds a_island_weights a_island_cells a_island_faces a_island_pledges c_t c_island c_island_ponds)) (hS : va_S A s.heap H locs) (hl : lv_has ls 2 [(0, .ref a_t)]) : W p l e r_X4_goOn s m args below meth c H locs 0 0 (MQ below (qV E A (W_X4_goOn E a_t a_island a_island_ponds a_island_kinds a_island_weights a_island_cells a_island_faces a_island_pledges res c_island c_island_ponds)) args s 0 0 A) (F0 m 0 ls []) := by
  obtain ⟨hx, hb, hml, hr, hlk, hown, hts, hG, hA⟩ := id X
  have hK := hG.1
  have hN := hG.2.1
  unfold f_X4_goOn at h
  refine lv_aload_n hx hb dX4_goOn_0 rfl (lv_at hl 0 rfl) ?_
  refine va_get (D := E.1) (ci := 4) (v := .ref a_island) (C := RX4) (T := TX4) (N := 11) hx hb hts iX4_goOn_X4 hown hK hP 0 rfl rfl 0 (by decide) (hts (.fieldLink RX4 43 "LeftIsAgreedOn$Walker" "island" "LLeftIsAgreedOn$Island;") (List.mem_of_getElem? (i := 1) rfl)) (fun _ h9 => h9) rfl dX4_goOn_1 ?_
  refine lv_aload_n hx hb dX4_goOn_4 rfl (lv_at hl 0 rfl) ?_
  refine va_get (D := E.1) (ci := 4) (v := .int (c_t 4)) (C := RX4) (T := TX4) (N := 11) hx hb hts iX4_goOn_X4 hown hK hP 0 rfl rfl 4 (by decide) (hts (.fieldLink RX4 21 "LeftIsAgreedOn$Walker" "cell" "I") (List.mem_of_getElem? (i := 2) rfl)) (fun _ h9 => h9) rfl dX4_goOn_5 ?_
  refine lv_aload_n hx hb dX4_goOn_8 rfl (lv_at hl 0 rfl) ?_
  refine va_get (D := E.1) (ci := 4) (v := .int (c_t 5)) (C := RX4) (T := TX4) (N := 11) hx hb hts iX4_goOn_X4 hown hK hP 0 rfl rfl 5 (by decide) (hts (.fieldLink RX4 24 "LeftIsAgreedOn$Walker" "faces" "I") (List.mem_of_getElem? (i := 3) rfl)) (fun _ h9 => h9) rfl dX4_goOn_9 ?_
  obtain ⟨v1, hv1, h⟩ := bind_of h
  refine after_i X (run_V X (c_X0_cellAhead l E a_island a_island_ponds a_island_kinds a_island_weights a_island_cells a_island_faces a_island_pledges (c_t 4) (c_t 5) c_island H.size v1 hv1) (cwV 2 hts gX4_goOn_X0_cellAhead rfl rfl rfl hV_X0_cellAhead ⟨(Nat.le_of_ble_eq_true rfl), (Nat.le_of_ble_eq_true rfl)⟩) hP hD hS [1] rfl rfl hl.1 (ci := 0) rfl rfl rfl (rest := []) rfl rfl (Nat.le_of_ble_eq_true rfl) dX4_goOn_12) hP hD hS [1] rfl (ws1 := (W_X4_goOn E a_t a_island a_island_ponds a_island_kinds a_island_weights a_island_cells a_island_faces a_island_pledges c_t c_island c_island_ponds)) rfl (fun H locs hP hD hS => ?_)
  refine lv_istore_n (lv' := [(1, .int v1), (0, .ref a_t)]) hx hb dX4_goOn_15 rfl hl (by decide) rfl (fun ls hl => ?_)
  refine lv_iload_n hx hb dX4_goOn_16 rfl (lv_at hl 0 rfl) ?_
  refine lv_iconst (v := (-1 : Int32)) hx hb dX4_goOn_17 (by decide) ?_
  refine lv_icmp_eq (tgt := 45) hx hb dX4_goOn_18 (by decide) (fun hc18 => ?_) (fun hc18 => ?_)
  · have h := if_t h hc18
    obtain rfl := Option.some.inj h
    exact ret_v X dX4_goOn_45 hP hD hS
  · have h := if_f h hc18
    refine lv_aload_n hx hb dX4_goOn_21 rfl (lv_at hl 1 rfl) ?_
    refine lv_iload_n hx hb dX4_goOn_22 rfl (lv_at hl 0 rfl) ?_
    refine va_put (D := E.1) (ci := 4) (v := .int v1) (ty := .int) (C := RX4) (T := TX4) (N := 11) hx hb hts iX4_goOn_X4 tyX4 tyX4_ok nmX4 hown hK hP hD hS 0 rfl rfl 4 (by decide) (hts (.fieldLink RX4 21 "LeftIsAgreedOn$Walker" "cell" "I") (List.mem_of_getElem? (i := 2) rfl)) (fun _ h9 => h9) rfl (tyX4_ok 4 (by decide)) rfl rfl (Nat.le_of_ble_eq_true rfl) dX4_goOn_23 (fun H locs hP hD hS => ?_)
    have hP : va_P E.1 vwCl (W_X4_goOn E a_t a_island a_island_ponds a_island_kinds a_island_weights a_island_cells a_island_faces a_island_pledges (upd c_t 4 v1) c_island c_island_ponds) H := hP
    have hD : va_D A (W_X4_goOn E a_t a_island a_island_ponds a_island_kinds a_island_weights a_island_cells a_island_faces a_island_pledges (upd c_t 4 v1) c_island c_island_ponds) := hD
    refine lv_aload_n hx hb dX4_goOn_26 rfl (lv_at hl 1 rfl) ?_
    refine va_get (D := E.1) (ci := 4) (v := .ref a_island) (C := RX4) (T := TX4) (N := 11) hx hb hts iX4_goOn_X4 hown hK hP 0 rfl rfl 0 (by decide) (hts (.fieldLink RX4 43 "LeftIsAgreedOn$Walker" "island" "LLeftIsAgreedOn$Island;") (List.mem_of_getElem? (i := 1) rfl)) (fun _ h9 => h9) rfl dX4_goOn_27 ?_
    refine lv_iload_n hx hb dX4_goOn_30 rfl (lv_at hl 0 rfl) ?_
    obtain ⟨v2, hv2, h⟩ := bind_of h
    refine after_i X (run_V X (c_X0_hasPond l E a_island a_island_ponds a_island_kinds a_island_weights a_island_cells a_island_faces a_island_pledges v1 c_island c_island_ponds H.size v2 hv2) (cwV 1 hts gX4_goOn_X0_hasPond rfl rfl rfl hV_X0_hasPond ⟨(Nat.le_of_ble_eq_true rfl), (Nat.le_of_ble_eq_true rfl)⟩) hP hD hS [1, 2] rfl rfl hl.1 (ci := 0) rfl rfl rfl (rest := []) rfl rfl (Nat.le_of_ble_eq_true rfl) dX4_goOn_31) hP hD hS [1, 2] rfl (ws1 := (W_X4_goOn E a_t a_island a_island_ponds a_island_kinds a_island_weights a_island_cells a_island_faces a_island_pledges (upd c_t 4 v1) c_island c_island_ponds)) rfl (fun H locs hP hD hS => ?_)
    refine lv_if_eq (tgt := 45) hx hb dX4_goOn_34 (by decide) (fun hc34 => ?_) (fun hc34 => ?_)
    · have h := if_t h hc34
      obtain rfl := Option.some.inj h
      exact ret_v X dX4_goOn_45 hP hD hS
    · have h := if_f h hc34
      refine lv_aload_n hx hb dX4_goOn_37 rfl (lv_at hl 1 rfl) ?_
      refine lv_aload_n hx hb dX4_goOn_38 rfl (lv_at hl 1 rfl) ?_
      refine va_get (D := E.1) (ci := 4) (v := .int ((upd c_t 4 v1) 6)) (C := RX4) (T := TX4) (N := 11) hx hb hts iX4_goOn_X4 hown hK hP 0 rfl rfl 6 (by decide) (hts (.fieldLink RX4 27 "LeftIsAgreedOn$Walker" "told" "I") (List.mem_of_getElem? (i := 4) rfl)) (fun _ h9 => h9) rfl dX4_goOn_39 ?_
      refine va_put (D := E.1) (ci := 4) (v := .int ((upd c_t 4 v1) 6)) (ty := .int) (C := RX4) (T := TX4) (N := 11) hx hb hts iX4_goOn_X4 tyX4 tyX4_ok nmX4 hown hK hP hD hS 0 rfl rfl 7 (by decide) (hts (.fieldLink RX4 30 "LeftIsAgreedOn$Walker" "fellBy" "I") (List.mem_of_getElem? (i := 5) rfl)) (fun _ h9 => h9) rfl (tyX4_ok 7 (by decide)) rfl rfl (Nat.le_of_ble_eq_true rfl) dX4_goOn_42 (fun H locs hP hD hS => ?_)
      have hP : va_P E.1 vwCl (W_X4_goOn E a_t a_island a_island_ponds a_island_kinds a_island_weights a_island_cells a_island_faces a_island_pledges (upd (upd c_t 4 v1) 7 ((upd c_t 4 v1) 6)) c_island c_island_ponds) H := hP
      have hD : va_D A (W_X4_goOn E a_t a_island a_island_ponds a_island_kinds a_island_weights a_island_cells a_island_faces a_island_pledges (upd (upd c_t 4 v1) 7 ((upd c_t 4 v1) 6)) c_island c_island_ponds) := hD
      obtain rfl := Option.some.inj h
      exact ret_v X dX4_goOn_45 hP hD hS
end
set_option maxRecDepth 100000 in
theorem c_X4_goOn (l : Launch) (E : Env0) (a_t : Nat) (a_island : Nat) (a_island_ponds : Nat) (a_island_kinds : Nat) (a_island_weights : Nat) (a_island_cells : Nat) (a_island_faces : Nat) (a_island_pledges : Nat) (c_t : Nat → Int32) (c_island : Nat → Int32) (c_island_ponds : Nat → Int32) (sz : Nat) (res : (Nat → Int32)) (h : f_X4_goOn c_t c_island c_island_ponds = some res) : Met l yX4_goOn wsX4_goOn r_X4_goOn (cPre E [.ref a_t] (W_X4_goOn E a_t a_island a_island_ponds a_island_kinds a_island_weights a_island_cells a_island_faces a_island_pledges c_t c_island c_island_ponds) sz) (qV E (va_A (W_X4_goOn E a_t a_island a_island_ponds a_island_kinds a_island_weights a_island_cells a_island_faces a_island_pledges c_t c_island c_island_ponds) sz) (W_X4_goOn E a_t a_island a_island_ponds a_island_kinds a_island_weights a_island_cells a_island_faces a_island_pledges res c_island c_island_ponds)) 0 0 (va_A (W_X4_goOn E a_t a_island a_island_ponds a_island_kinds a_island_weights a_island_cells a_island_faces a_island_pledges c_t c_island c_island_ponds) sz) :=
  met_of (Qc := fun A => qV E A (W_X4_goOn E a_t a_island a_island_ponds a_island_kinds a_island_weights a_island_cells a_island_faces a_island_pledges res c_island c_island_ponds)) (by decide) rfl (Nat.le_of_ble_eq_true rfl) (fun p e s m args below meth c X hP hD hS ls hl => w_X4_goOn X a_t a_island a_island_ponds a_island_kinds a_island_weights a_island_cells a_island_faces a_island_pledges c_island c_island_ponds res c_t ls _ _ h hP hD hS hl)
-- ===== X4_dances
noncomputable abbrev W_X4_dances (E : Env0) (a_t : Nat) (a_island : Nat) (c_t : Nat → Int32) : va_W := [(a_t, .inr (4, [.ref a_island, .int (c_t 1), .int (c_t 2), .int (c_t 3), .int (c_t 4), .int (c_t 5), .int (c_t 6), .int (c_t 7), .int (c_t 8), .int (c_t 9), .int (c_t 10)]))]
noncomputable abbrev r_X4_dances : Room := { frames := 0, cells := 0, slots := 0, locals := 0 }
theorem hd_X4_dances : yX4_dances.cls ≠ "java/lang/invoke/MethodHandle" ∧ yX4_dances.cls ≠ "java/lang/invoke/VarHandle" ∧ (parseMethodDescriptor yX4_dances.desc).map (fun d => d.parameters.length) = some 1 := by decide +kernel
theorem hV_X4_dances : yX4_dances.cls = RX4 ∧ yX4_dances.cls ≠ "java/lang/invoke/MethodHandle" ∧ yX4_dances.cls ≠ "java/lang/invoke/VarHandle" ∧ (parseMethodDescriptor yX4_dances.desc).map (fun d => d.parameters.length) = some 1 := ⟨rfl, hd_X4_dances⟩
theorem iX4_dances_X4 : ∀ w ∈ wsX40, w ∈ wsX4_dances := fun _ h => List.mem_cons_of_mem _ (List.mem_append_right _ (h))
section
variable {p : Program} {l : Launch} {e : Env} {s : State} {m : MethodId} {args : Array Value} {below : List Frame} {meth : Method} {c : Code} {E : Env0} {A : Nat → Prop}
set_option maxRecDepth 100000 in
set_option maxHeartbeats 4000000 in
theorem w_X4_dances (X : Ctx p m meth c cX4_dances 2 ((some .int)) s args wsX4_dances RX4 E A) (a_t : Nat) (a_island : Nat) (c_t : Nat → Int32) (res : Int32) (l1 : Int32) (ls : Array Slot) (H : Heap) (locs : List Loc) (h : f_X4_dances l1 c_t = some res) (hP : va_P E.1 vwCl (W_X4_dances E a_t a_island c_t) H) (hD : va_D A (W_X4_dances E a_t a_island c_t)) (hS : va_S A s.heap H locs) (hl : lv_has ls 2 [(0, .ref a_t), (1, .int l1)]) : W p l e r_X4_dances s m args below meth c H locs 0 0 (MQ below (qI E A res (W_X4_dances E a_t a_island c_t)) args s 0 0 A) (F0 m 0 ls []) := by
  obtain ⟨hx, hb, hml, hr, hlk, hown, hts, hG, hA⟩ := id X
  have hK := hG.1
  have hN := hG.2.1
  unfold f_X4_dances at h
  refine lv_aload_n hx hb dX4_dances_0 rfl (lv_at hl 0 rfl) ?_
  refine va_get (D := E.1) (ci := 4) (v := .int (c_t 9)) (C := RX4) (T := TX4) (N := 11) hx hb hts iX4_dances_X4 hown hK hP 0 rfl rfl 9 (by decide) (hts (.fieldLink RX4 37 "LeftIsAgreedOn$Walker" "lastTurn" "I") (List.mem_of_getElem? (i := 1) rfl)) (fun _ h9 => h9) rfl dX4_dances_1 ?_
  refine lv_if_ne (tgt := 12) hx hb dX4_dances_4 (by decide) (fun hc4 => ?_) (fun hc4 => ?_)
  · have h := if_f h hc4
    refine lv_aload_n hx hb dX4_dances_12 rfl (lv_at hl 0 rfl) ?_
    refine va_get (D := E.1) (ci := 4) (v := .int (c_t 9)) (C := RX4) (T := TX4) (N := 11) hx hb hts iX4_dances_X4 hown hK hP 0 rfl rfl 9 (by decide) (hts (.fieldLink RX4 37 "LeftIsAgreedOn$Walker" "lastTurn" "I") (List.mem_of_getElem? (i := 1) rfl)) (fun _ h9 => h9) rfl dX4_dances_13 ?_
    refine lv_iload_n hx hb dX4_dances_16 rfl (lv_at hl 1 rfl) ?_
    refine lv_icmp_ne (tgt := 29) hx hb dX4_dances_17 (by decide) (fun hc17 => ?_) (fun hc17 => ?_)
    · have h := if_f h hc17
      refine lv_aload_n hx hb dX4_dances_29 rfl (lv_at hl 0 rfl) ?_
      refine va_get (D := E.1) (ci := 4) (v := .int (c_t 10)) (C := RX4) (T := TX4) (N := 11) hx hb hts iX4_dances_X4 hown hK hP 0 rfl rfl 10 (by decide) (hts (.fieldLink RX4 40 "LeftIsAgreedOn$Walker" "lastBy" "I") (List.mem_of_getElem? (i := 3) rfl)) (fun _ h9 => h9) rfl dX4_dances_30 ?_
      obtain rfl := Option.some.inj h
      exact ret_i X dX4_dances_33 hP hD hS rfl
    · have h := if_t h hc17
      refine lv_iconst (v := (1 : Int32)) hx hb dX4_dances_20 (by decide) ?_
      refine lv_aload_n hx hb dX4_dances_21 rfl (lv_at hl 0 rfl) ?_
      refine va_get (D := E.1) (ci := 4) (v := .int (c_t 10)) (C := RX4) (T := TX4) (N := 11) hx hb hts iX4_dances_X4 hown hK hP 0 rfl rfl 10 (by decide) (hts (.fieldLink RX4 40 "LeftIsAgreedOn$Walker" "lastBy" "I") (List.mem_of_getElem? (i := 3) rfl)) (fun _ h9 => h9) rfl dX4_dances_22 ?_
      refine lv_isub hx hb dX4_dances_25 ?_
      refine lv_goto (tgt := 33) hx hb dX4_dances_26 (by decide) ?_
      obtain rfl := Option.some.inj h
      exact ret_i X dX4_dances_33 hP hD hS rfl
  · have h := if_t h hc4
    refine lv_aload_n hx hb dX4_dances_7 rfl (lv_at hl 0 rfl) ?_
    refine va_get (D := E.1) (ci := 4) (v := .int (c_t 2)) (C := RX4) (T := TX4) (N := 11) hx hb hts iX4_dances_X4 hown hK hP 0 rfl rfl 2 (by decide) (hts (.fieldLink RX4 15 "LeftIsAgreedOn$Walker" "left" "I") (List.mem_of_getElem? (i := 2) rfl)) (fun _ h9 => h9) rfl dX4_dances_8 ?_
    obtain rfl := Option.some.inj h
    exact ret_i X dX4_dances_11 hP hD hS rfl
end
set_option maxRecDepth 100000 in
theorem c_X4_dances (l : Launch) (E : Env0) (a_t : Nat) (a_island : Nat) (l1 : Int32) (c_t : Nat → Int32) (sz : Nat) (res : Int32) (h : f_X4_dances l1 c_t = some res) : Met l yX4_dances wsX4_dances r_X4_dances (cPre E [.ref a_t, .int l1] (W_X4_dances E a_t a_island c_t) sz) (qI E (va_A (W_X4_dances E a_t a_island c_t) sz) res (W_X4_dances E a_t a_island c_t)) 0 0 (va_A (W_X4_dances E a_t a_island c_t) sz) :=
  met_of (Qc := fun A => qI E A res (W_X4_dances E a_t a_island c_t)) (by decide) rfl (Nat.le_of_ble_eq_true rfl) (fun p e s m args below meth c X hP hD hS ls hl => w_X4_dances X a_t a_island c_t res l1 ls _ _ h hP hD hS hl)
-- ===== X4_goesBy
noncomputable abbrev W_X4_goesBy (E : Env0) (a_t : Nat) (a_island : Nat) (a_island_ponds : Nat) (a_island_kinds : Nat) (a_island_weights : Nat) (a_island_cells : Nat) (a_island_faces : Nat) (a_island_pledges : Nat) (c_t : Nat → Int32) (c_island : Nat → Int32) (c_island_ponds : Nat → Int32) : va_W := [(a_t, .inr (4, [.ref a_island, .int (c_t 1), .int (c_t 2), .int (c_t 3), .int (c_t 4), .int (c_t 5), .int (c_t 6), .int (c_t 7), .int (c_t 8), .int (c_t 9), .int (c_t 10)])), (a_island, .inr (0, [.int (c_island 0), .int (c_island 1), .int (c_island 2), .int (c_island 3), .int (c_island 4), .int (c_island 5), .int (c_island 6), .int (c_island 7), .ref a_island_ponds, .ref a_island_kinds, .ref a_island_weights, .ref a_island_cells, .ref a_island_faces, .ref a_island_pledges])), (a_island_ponds, .inl (eZ E, 70, .inl c_island_ponds))]
noncomputable abbrev r_X4_goesBy : Room := { frames := 2, cells := 0, slots := 0, locals := 48 }
theorem hd_X4_goesBy : yX4_goesBy.cls ≠ "java/lang/invoke/MethodHandle" ∧ yX4_goesBy.cls ≠ "java/lang/invoke/VarHandle" ∧ (parseMethodDescriptor yX4_goesBy.desc).map (fun d => d.parameters.length) = some 1 := by decide +kernel
theorem hV_X4_goesBy : yX4_goesBy.cls = RX4 ∧ yX4_goesBy.cls ≠ "java/lang/invoke/MethodHandle" ∧ yX4_goesBy.cls ≠ "java/lang/invoke/VarHandle" ∧ (parseMethodDescriptor yX4_goesBy.desc).map (fun d => d.parameters.length) = some 1 := ⟨rfl, hd_X4_goesBy⟩
theorem iX4_goesBy_X0 : ∀ w ∈ wsX00, w ∈ wsX4_goesBy := fun _ h => List.mem_cons_of_mem _ (List.mem_append_right _ (h))
theorem iX4_goesBy_X4 : ∀ w ∈ wsX40, w ∈ wsX4_goesBy := fun _ h => List.mem_cons_of_mem _ (List.mem_append_left _ (List.mem_append_right _ (h)))
section
variable {p : Program} {l : Launch} {e : Env} {s : State} {m : MethodId} {args : Array Value} {below : List Frame} {meth : Method} {c : Code} {E : Env0} {A : Nat → Prop}
set_option maxRecDepth 100000 in
set_option maxHeartbeats 4000000 in
theorem w_X4_goesBy (X : Ctx p m meth c cX4_goesBy 2 ((some .int)) s args wsX4_goesBy RX4 E A) (a_t : Nat) (a_island : Nat) (a_island_ponds : Nat) (a_island_kinds : Nat) (a_island_weights : Nat) (a_island_cells : Nat) (a_island_faces : Nat) (a_island_pledges : Nat) (c_t : Nat → Int32) (c_island : Nat → Int32) (c_island_ponds : Nat → Int32) (res : Int32) (l1 : Int32) (ls : Array Slot) (H : Heap) (locs : List Loc) (h : f_X4_goesBy l1 c_t c_island c_island_ponds = some res) (hP : va_P E.1 vwCl (W_X4_goesBy E a_t a_island a_island_ponds a_island_kinds a_island_weights a_island_cells a_island_faces a_island_pledges c_t c_island c_island_ponds) H) (hD : va_D A (W_X4_goesBy E a_t a_island a_island_ponds a_island_kinds a_island_weights a_island_cells a_island_faces a_island_pledges c_t c_island c_island_ponds)) (hS : va_S A s.heap H locs) (hl : lv_has ls 2 [(0, .ref a_t), (1, .int l1)]) : W p l e r_X4_goesBy s m args below meth c H locs 0 0 (MQ below (qI E A res (W_X4_goesBy E a_t a_island a_island_ponds a_island_kinds a_island_weights a_island_cells a_island_faces a_island_pledges c_t c_island c_island_ponds)) args s 0 0 A) (F0 m 0 ls []) := by
  obtain ⟨hx, hb, hml, hr, hlk, hown, hts, hG, hA⟩ := id X
  have hK := hG.1
  have hN := hG.2.1
  unfold f_X4_goesBy at h
  refine lv_aload_n hx hb dX4_goesBy_0 rfl (lv_at hl 0 rfl) ?_
  refine va_get (D := E.1) (ci := 4) (v := .int (c_t 1)) (C := RX4) (T := TX4) (N := 11) hx hb hts iX4_goesBy_X4 hown hK hP 0 rfl rfl 1 (by decide) (hts (.fieldLink RX4 9 "LeftIsAgreedOn$Walker" "kind" "I") (List.mem_of_getElem? (i := 1) rfl)) (fun _ h9 => h9) rfl dX4_goesBy_1 ?_
  by_cases hs4_1 : (c_t 1) = (1 : Int32)
  · have h := if_t h hs4_1
    refine lv_tableIn (off := (36)) (tgt := 40) hx hb dX4_goesBy_4 (by rw [hs4_1]; decide) (by rw [hs4_1]; decide) (by rw [hs4_1]; rfl) (by decide) ?_
    refine lv_aload_n hx hb dX4_goesBy_40 rfl (lv_at hl 0 rfl) ?_
    refine va_get (D := E.1) (ci := 4) (v := .ref a_island) (C := RX4) (T := TX4) (N := 11) hx hb hts iX4_goesBy_X4 hown hK hP 0 rfl rfl 0 (by decide) (hts (.fieldLink RX4 43 "LeftIsAgreedOn$Walker" "island" "LLeftIsAgreedOn$Island;") (List.mem_of_getElem? (i := 2) rfl)) (fun _ h9 => h9) rfl dX4_goesBy_41 ?_
    refine va_getN (D := E.1) (ci := 0) (v := .int (c_island 2)) (C := RX0) (T := TX0) (N := 14) hx hb hts iX4_goesBy_X0 hown hK hP 1 rfl rfl 2 (by decide) (va_Nw.use rfl (nF_32 hN)) (fun _ h9 => h9) rfl dX4_goesBy_44 ?_
    obtain rfl := Option.some.inj h
    exact ret_i X dX4_goesBy_47 hP hD hS rfl
  · have h := if_f h hs4_1
    by_cases hs4_2 : (c_t 1) = (2 : Int32)
    · have h := if_t h hs4_2
      refine lv_tableIn (off := (49)) (tgt := 53) hx hb dX4_goesBy_4 (by rw [hs4_2]; decide) (by rw [hs4_2]; decide) (by rw [hs4_2]; rfl) (by decide) ?_
      refine lv_aload_n hx hb dX4_goesBy_53 rfl (lv_at hl 0 rfl) ?_
      refine va_get (D := E.1) (ci := 4) (v := .int (c_t 8)) (C := RX4) (T := TX4) (N := 11) hx hb hts iX4_goesBy_X4 hown hK hP 0 rfl rfl 8 (by decide) (hts (.fieldLink RX4 33 "LeftIsAgreedOn$Walker" "isOddTurned" "Z") (List.mem_of_getElem? (i := 4) rfl)) (fun _ h9 => h9) rfl dX4_goesBy_54 ?_
      refine lv_if_eq (tgt := 69) hx hb dX4_goesBy_57 (by decide) (fun hc57 => ?_) (fun hc57 => ?_)
      · have h := if_t h hc57
        refine lv_aload_n hx hb dX4_goesBy_69 rfl (lv_at hl 0 rfl) ?_
        refine va_get (D := E.1) (ci := 4) (v := .int (c_t 2)) (C := RX4) (T := TX4) (N := 11) hx hb hts iX4_goesBy_X4 hown hK hP 0 rfl rfl 2 (by decide) (hts (.fieldLink RX4 15 "LeftIsAgreedOn$Walker" "left" "I") (List.mem_of_getElem? (i := 5) rfl)) (fun _ h9 => h9) rfl dX4_goesBy_70 ?_
        obtain rfl := Option.some.inj h
        exact ret_i X dX4_goesBy_73 hP hD hS rfl
      · have h := if_f h hc57
        refine lv_iconst (v := (1 : Int32)) hx hb dX4_goesBy_60 (by decide) ?_
        refine lv_aload_n hx hb dX4_goesBy_61 rfl (lv_at hl 0 rfl) ?_
        refine va_get (D := E.1) (ci := 4) (v := .int (c_t 2)) (C := RX4) (T := TX4) (N := 11) hx hb hts iX4_goesBy_X4 hown hK hP 0 rfl rfl 2 (by decide) (hts (.fieldLink RX4 15 "LeftIsAgreedOn$Walker" "left" "I") (List.mem_of_getElem? (i := 5) rfl)) (fun _ h9 => h9) rfl dX4_goesBy_62 ?_
        refine lv_isub hx hb dX4_goesBy_65 ?_
        refine lv_goto (tgt := 73) hx hb dX4_goesBy_66 (by decide) ?_
        obtain rfl := Option.some.inj h
        exact ret_i X dX4_goesBy_73 hP hD hS rfl
    · have h := if_f h hs4_2
      by_cases hs4_3 : (c_t 1) = (3 : Int32)
      · have h := if_t h hs4_3
        refine lv_tableIn (off := (44)) (tgt := 48) hx hb dX4_goesBy_4 (by rw [hs4_3]; decide) (by rw [hs4_3]; decide) (by rw [hs4_3]; rfl) (by decide) ?_
        refine lv_aload_n hx hb dX4_goesBy_48 rfl (lv_at hl 0 rfl) ?_
        refine va_get (D := E.1) (ci := 4) (v := .int (c_t 3)) (C := RX4) (T := TX4) (N := 11) hx hb hts iX4_goesBy_X4 hown hK hP 0 rfl rfl 3 (by decide) (hts (.fieldLink RX4 18 "LeftIsAgreedOn$Walker" "pledge" "I") (List.mem_of_getElem? (i := 3) rfl)) (fun _ h9 => h9) rfl dX4_goesBy_49 ?_
        obtain rfl := Option.some.inj h
        exact ret_i X dX4_goesBy_52 hP hD hS rfl
      · have h := if_f h hs4_3
        by_cases hs4_4 : (c_t 1) = (4 : Int32)
        · have h := if_t h hs4_4
          refine lv_tableIn (off := (70)) (tgt := 74) hx hb dX4_goesBy_4 (by rw [hs4_4]; decide) (by rw [hs4_4]; decide) (by rw [hs4_4]; rfl) (by decide) ?_
          refine lv_aload_n hx hb dX4_goesBy_74 rfl (lv_at hl 0 rfl) ?_
          refine va_get (D := E.1) (ci := 4) (v := .ref a_island) (C := RX4) (T := TX4) (N := 11) hx hb hts iX4_goesBy_X4 hown hK hP 0 rfl rfl 0 (by decide) (hts (.fieldLink RX4 43 "LeftIsAgreedOn$Walker" "island" "LLeftIsAgreedOn$Island;") (List.mem_of_getElem? (i := 2) rfl)) (fun _ h9 => h9) rfl dX4_goesBy_75 ?_
          refine lv_aload_n hx hb dX4_goesBy_78 rfl (lv_at hl 0 rfl) ?_
          refine va_get (D := E.1) (ci := 4) (v := .int (c_t 4)) (C := RX4) (T := TX4) (N := 11) hx hb hts iX4_goesBy_X4 hown hK hP 0 rfl rfl 4 (by decide) (hts (.fieldLink RX4 21 "LeftIsAgreedOn$Walker" "cell" "I") (List.mem_of_getElem? (i := 6) rfl)) (fun _ h9 => h9) rfl dX4_goesBy_79 ?_
          obtain ⟨v1, hv1, h⟩ := bind_of h
          refine after_i X (run_V X (c_X0_hasPondBeside l E a_island a_island_ponds a_island_kinds a_island_weights a_island_cells a_island_faces a_island_pledges (c_t 4) c_island c_island_ponds H.size v1 hv1) (cwV 1 hts gX4_goesBy_X0_hasPondBeside rfl rfl rfl hV_X0_hasPondBeside ⟨(Nat.le_of_ble_eq_true rfl), (Nat.le_of_ble_eq_true rfl)⟩) hP hD hS [1, 2] rfl rfl hl.1 (ci := 0) rfl rfl rfl (rest := []) rfl rfl (Nat.le_of_ble_eq_true rfl) dX4_goesBy_82) hP hD hS [1, 2] rfl (ws1 := (W_X4_goesBy E a_t a_island a_island_ponds a_island_kinds a_island_weights a_island_cells a_island_faces a_island_pledges c_t c_island c_island_ponds)) rfl (fun H locs hP hD hS => ?_)
          refine lv_if_eq (tgt := 97) hx hb dX4_goesBy_85 (by decide) (fun hc85 => ?_) (fun hc85 => ?_)
          · have h := if_t h hc85
            refine lv_aload_n hx hb dX4_goesBy_97 rfl (lv_at hl 0 rfl) ?_
            refine va_get (D := E.1) (ci := 4) (v := .int (c_t 2)) (C := RX4) (T := TX4) (N := 11) hx hb hts iX4_goesBy_X4 hown hK hP 0 rfl rfl 2 (by decide) (hts (.fieldLink RX4 15 "LeftIsAgreedOn$Walker" "left" "I") (List.mem_of_getElem? (i := 5) rfl)) (fun _ h9 => h9) rfl dX4_goesBy_98 ?_
            obtain rfl := Option.some.inj h
            exact ret_i X dX4_goesBy_101 hP hD hS rfl
          · have h := if_f h hc85
            refine lv_iconst (v := (1 : Int32)) hx hb dX4_goesBy_88 (by decide) ?_
            refine lv_aload_n hx hb dX4_goesBy_89 rfl (lv_at hl 0 rfl) ?_
            refine va_get (D := E.1) (ci := 4) (v := .int (c_t 2)) (C := RX4) (T := TX4) (N := 11) hx hb hts iX4_goesBy_X4 hown hK hP 0 rfl rfl 2 (by decide) (hts (.fieldLink RX4 15 "LeftIsAgreedOn$Walker" "left" "I") (List.mem_of_getElem? (i := 5) rfl)) (fun _ h9 => h9) rfl dX4_goesBy_90 ?_
            refine lv_isub hx hb dX4_goesBy_93 ?_
            refine lv_goto (tgt := 101) hx hb dX4_goesBy_94 (by decide) ?_
            obtain rfl := Option.some.inj h
            exact ret_i X dX4_goesBy_101 hP hD hS rfl
        · have h := if_f h hs4_4
          by_cases hs4_5 : (c_t 1) = (5 : Int32)
          · have h := if_t h hs4_5
            refine lv_tableIn (off := (98)) (tgt := 102) hx hb dX4_goesBy_4 (by rw [hs4_5]; decide) (by rw [hs4_5]; decide) (by rw [hs4_5]; rfl) (by decide) ?_
            refine lv_aload_n hx hb dX4_goesBy_102 rfl (lv_at hl 0 rfl) ?_
            refine lv_iload_n hx hb dX4_goesBy_103 rfl (lv_at hl 1 rfl) ?_
            obtain ⟨v2, hv2, h⟩ := bind_of h
            refine after_i X (run_V X (c_X4_dances l E a_t a_island l1 c_t H.size v2 hv2) (cwV 1 hts gX4_goesBy_X4_dances rfl rfl rfl hV_X4_dances ⟨(Nat.le_of_ble_eq_true rfl), (Nat.le_of_ble_eq_true rfl)⟩) hP hD hS [0] rfl rfl hl.1 (ci := 4) rfl rfl rfl (rest := []) rfl rfl (Nat.le_of_ble_eq_true rfl) dX4_goesBy_104) hP hD hS [0] rfl (ws1 := (W_X4_goesBy E a_t a_island a_island_ponds a_island_kinds a_island_weights a_island_cells a_island_faces a_island_pledges c_t c_island c_island_ponds)) rfl (fun H locs hP hD hS => ?_)
            obtain rfl := Option.some.inj h
            exact ret_i X dX4_goesBy_107 hP hD hS rfl
          · have h := if_f h hs4_5
            refine lv_tableOut (tgt := 108) hx hb dX4_goesBy_4 (tsw_1_5 hs4_1 hs4_2 hs4_3 hs4_4 hs4_5) (by decide) ?_
            refine lv_aload_n hx hb dX4_goesBy_108 rfl (lv_at hl 0 rfl) ?_
            refine va_get (D := E.1) (ci := 4) (v := .int (c_t 2)) (C := RX4) (T := TX4) (N := 11) hx hb hts iX4_goesBy_X4 hown hK hP 0 rfl rfl 2 (by decide) (hts (.fieldLink RX4 15 "LeftIsAgreedOn$Walker" "left" "I") (List.mem_of_getElem? (i := 5) rfl)) (fun _ h9 => h9) rfl dX4_goesBy_109 ?_
            obtain rfl := Option.some.inj h
            exact ret_i X dX4_goesBy_112 hP hD hS rfl
end
set_option maxRecDepth 100000 in
theorem c_X4_goesBy (l : Launch) (E : Env0) (a_t : Nat) (a_island : Nat) (a_island_ponds : Nat) (a_island_kinds : Nat) (a_island_weights : Nat) (a_island_cells : Nat) (a_island_faces : Nat) (a_island_pledges : Nat) (l1 : Int32) (c_t : Nat → Int32) (c_island : Nat → Int32) (c_island_ponds : Nat → Int32) (sz : Nat) (res : Int32) (h : f_X4_goesBy l1 c_t c_island c_island_ponds = some res) : Met l yX4_goesBy wsX4_goesBy r_X4_goesBy (cPre E [.ref a_t, .int l1] (W_X4_goesBy E a_t a_island a_island_ponds a_island_kinds a_island_weights a_island_cells a_island_faces a_island_pledges c_t c_island c_island_ponds) sz) (qI E (va_A (W_X4_goesBy E a_t a_island a_island_ponds a_island_kinds a_island_weights a_island_cells a_island_faces a_island_pledges c_t c_island c_island_ponds) sz) res (W_X4_goesBy E a_t a_island a_island_ponds a_island_kinds a_island_weights a_island_cells a_island_faces a_island_pledges c_t c_island c_island_ponds)) 0 0 (va_A (W_X4_goesBy E a_t a_island a_island_ponds a_island_kinds a_island_weights a_island_cells a_island_faces a_island_pledges c_t c_island c_island_ponds) sz) :=
  met_of (Qc := fun A => qI E A res (W_X4_goesBy E a_t a_island a_island_ponds a_island_kinds a_island_weights a_island_cells a_island_faces a_island_pledges c_t c_island c_island_ponds)) (by decide) rfl (Nat.le_of_ble_eq_true rfl) (fun p e s m args below meth c X hP hD hS ls hl => w_X4_goesBy X a_t a_island a_island_ponds a_island_kinds a_island_weights a_island_cells a_island_faces a_island_pledges c_t c_island c_island_ponds res l1 ls _ _ h hP hD hS hl)
-- ===== X4_goRound
noncomputable abbrev W_X4_goRound (E : Env0) (a_t : Nat) (a_island : Nat) (c_t : Nat → Int32) : va_W := [(a_t, .inr (4, [.ref a_island, .int (c_t 1), .int (c_t 2), .int (c_t 3), .int (c_t 4), .int (c_t 5), .int (c_t 6), .int (c_t 7), .int (c_t 8), .int (c_t 9), .int (c_t 10)]))]
noncomputable abbrev r_X4_goRound : Room := { frames := 0, cells := 0, slots := 0, locals := 0 }
theorem hd_X4_goRound : yX4_goRound.cls ≠ "java/lang/invoke/MethodHandle" ∧ yX4_goRound.cls ≠ "java/lang/invoke/VarHandle" ∧ (parseMethodDescriptor yX4_goRound.desc).map (fun d => d.parameters.length) = some 2 := by decide +kernel
theorem hV_X4_goRound : yX4_goRound.cls = RX4 ∧ yX4_goRound.cls ≠ "java/lang/invoke/MethodHandle" ∧ yX4_goRound.cls ≠ "java/lang/invoke/VarHandle" ∧ (parseMethodDescriptor yX4_goRound.desc).map (fun d => d.parameters.length) = some 2 := ⟨rfl, hd_X4_goRound⟩
theorem iX4_goRound_X4 : ∀ w ∈ wsX40, w ∈ wsX4_goRound := fun _ h => List.mem_cons_of_mem _ (List.mem_append_right _ (h))
section
variable {p : Program} {l : Launch} {e : Env} {s : State} {m : MethodId} {args : Array Value} {below : List Frame} {meth : Method} {c : Code} {E : Env0} {A : Nat → Prop}
set_option maxRecDepth 100000 in
set_option maxHeartbeats 4000000 in
theorem w_X4_goRound_b62 (X : Ctx p m meth c cX4_goRound 4 none s args wsX4_goRound RX4 E A) (a_t : Nat) (a_island : Nat) (res : (Nat → Int32)) (c_t : Nat → Int32) (l1 : Int32) (l2 : Int32) (s0 : Int32) (ls : Array Slot) (H : Heap) (locs : List Loc) (h : f_X4_goRound_b62 c_t l1 l2 s0 = some res) (hP : va_P E.1 vwCl (W_X4_goRound E a_t a_island c_t) H) (hD : va_D A (W_X4_goRound E a_t a_island c_t)) (hS : va_S A s.heap H locs) (hl : lv_has ls 4 [(0, .ref a_t), (1, .int l1), (2, .int l2)]) : W p l e r_X4_goRound s m args below meth c H locs 0 0 (MQ below (qV E A (W_X4_goRound E a_t a_island res)) args s 0 0 A) (F0 m 62 ls [.int s0, .ref a_t]) := by
  obtain ⟨hx, hb, hml, hr, hlk, hown, hts, hG, hA⟩ := id X
  have hK := hG.1
  have hN := hG.2.1
  unfold f_X4_goRound_b62 at h
  obtain ⟨hz62, h⟩ := chk_of h
  refine va_put (D := E.1) (ci := 4) (v := .int s0) (ty := .boolean) (C := RX4) (T := TX4) (N := 11) hx hb hts iX4_goRound_X4 tyX4 tyX4_ok nmX4 hown hK hP hD hS 0 rfl rfl 8 (by decide) (hts (.fieldLink RX4 33 "LeftIsAgreedOn$Walker" "isOddTurned" "Z") (List.mem_of_getElem? (i := 2) rfl)) (fun _ h9 => h9) rfl (tyX4_ok 8 (by decide)) (isB.nar hz62) (isB.fit hz62) (Nat.le_of_ble_eq_true rfl) dX4_goRound_62 (fun H locs hP hD hS => ?_)
  have hP : va_P E.1 vwCl (W_X4_goRound E a_t a_island (upd c_t 8 s0)) H := hP
  have hD : va_D A (W_X4_goRound E a_t a_island (upd c_t 8 s0)) := hD
  refine lv_aload_n hx hb dX4_goRound_65 rfl (lv_at hl 0 rfl) ?_
  refine lv_iload_n hx hb dX4_goRound_66 rfl (lv_at hl 1 rfl) ?_
  refine va_put (D := E.1) (ci := 4) (v := .int l1) (ty := .int) (C := RX4) (T := TX4) (N := 11) hx hb hts iX4_goRound_X4 tyX4 tyX4_ok nmX4 hown hK hP hD hS 0 rfl rfl 9 (by decide) (hts (.fieldLink RX4 37 "LeftIsAgreedOn$Walker" "lastTurn" "I") (List.mem_of_getElem? (i := 3) rfl)) (fun _ h9 => h9) rfl (tyX4_ok 9 (by decide)) rfl rfl (Nat.le_of_ble_eq_true rfl) dX4_goRound_67 (fun H locs hP hD hS => ?_)
  have hP : va_P E.1 vwCl (W_X4_goRound E a_t a_island (upd (upd c_t 8 s0) 9 l1)) H := hP
  have hD : va_D A (W_X4_goRound E a_t a_island (upd (upd c_t 8 s0) 9 l1)) := hD
  refine lv_aload_n hx hb dX4_goRound_70 rfl (lv_at hl 0 rfl) ?_
  refine lv_iload_n hx hb dX4_goRound_71 rfl (lv_at hl 2 rfl) ?_
  refine va_put (D := E.1) (ci := 4) (v := .int l2) (ty := .int) (C := RX4) (T := TX4) (N := 11) hx hb hts iX4_goRound_X4 tyX4 tyX4_ok nmX4 hown hK hP hD hS 0 rfl rfl 10 (by decide) (hts (.fieldLink RX4 40 "LeftIsAgreedOn$Walker" "lastBy" "I") (List.mem_of_getElem? (i := 4) rfl)) (fun _ h9 => h9) rfl (tyX4_ok 10 (by decide)) rfl rfl (Nat.le_of_ble_eq_true rfl) dX4_goRound_72 (fun H locs hP hD hS => ?_)
  have hP : va_P E.1 vwCl (W_X4_goRound E a_t a_island (upd (upd (upd c_t 8 s0) 9 l1) 10 l2)) H := hP
  have hD : va_D A (W_X4_goRound E a_t a_island (upd (upd (upd c_t 8 s0) 9 l1) 10 l2)) := hD
  obtain rfl := Option.some.inj h
  exact ret_v X dX4_goRound_75 hP hD hS
set_option maxRecDepth 100000 in
set_option maxHeartbeats 4000000 in
theorem w_X4_goRound_b43 (X : Ctx p m meth c cX4_goRound 4 none s args wsX4_goRound RX4 E A) (a_t : Nat) (a_island : Nat) (res : (Nat → Int32)) (c_t : Nat → Int32) (l1 : Int32) (l2 : Int32) (s0 : Int32) (s1 : Int32) (ls : Array Slot) (H : Heap) (locs : List Loc) (h : f_X4_goRound_b43 c_t l1 l2 s0 s1 = some res) (hP : va_P E.1 vwCl (W_X4_goRound E a_t a_island c_t) H) (hD : va_D A (W_X4_goRound E a_t a_island c_t)) (hS : va_S A s.heap H locs) (hl : lv_has ls 4 [(0, .ref a_t), (1, .int l1), (2, .int l2)]) : W p l e r_X4_goRound s m args below meth c H locs 0 0 (MQ below (qV E A (W_X4_goRound E a_t a_island res)) args s 0 0 A) (F0 m 43 ls [.int s0, .int s1, .ref a_t]) := by
  obtain ⟨hx, hb, hml, hr, hlk, hown, hts, hG, hA⟩ := id X
  have hK := hG.1
  have hN := hG.2.1
  unfold f_X4_goRound_b43 at h
  refine lv_iadd hx hb dX4_goRound_43 ?_
  refine lv_iconst (v := (3 : Int32)) hx hb dX4_goRound_44 (by decide) ?_
  refine lv_iand hx hb dX4_goRound_45 ?_
  refine va_put (D := E.1) (ci := 4) (v := .int ((s1 + s0) &&& (3 : Int32))) (ty := .int) (C := RX4) (T := TX4) (N := 11) hx hb hts iX4_goRound_X4 tyX4 tyX4_ok nmX4 hown hK hP hD hS 0 rfl rfl 5 (by decide) (hts (.fieldLink RX4 24 "LeftIsAgreedOn$Walker" "faces" "I") (List.mem_of_getElem? (i := 1) rfl)) (fun _ h9 => h9) rfl (tyX4_ok 5 (by decide)) rfl rfl (Nat.le_of_ble_eq_true rfl) dX4_goRound_46 (fun H locs hP hD hS => ?_)
  have hP : va_P E.1 vwCl (W_X4_goRound E a_t a_island (upd c_t 5 ((s1 + s0) &&& (3 : Int32)))) H := hP
  have hD : va_D A (W_X4_goRound E a_t a_island (upd c_t 5 ((s1 + s0) &&& (3 : Int32)))) := hD
  refine lv_aload_n hx hb dX4_goRound_49 rfl (lv_at hl 0 rfl) ?_
  refine lv_aload_n hx hb dX4_goRound_50 rfl (lv_at hl 0 rfl) ?_
  refine va_get (D := E.1) (ci := 4) (v := .int ((upd c_t 5 ((s1 + s0) &&& (3 : Int32))) 8)) (C := RX4) (T := TX4) (N := 11) hx hb hts iX4_goRound_X4 hown hK hP 0 rfl rfl 8 (by decide) (hts (.fieldLink RX4 33 "LeftIsAgreedOn$Walker" "isOddTurned" "Z") (List.mem_of_getElem? (i := 2) rfl)) (fun _ h9 => h9) rfl dX4_goRound_51 ?_
  refine lv_if_ne (tgt := 61) hx hb dX4_goRound_54 (by decide) (fun hc54 => ?_) (fun hc54 => ?_)
  · have h := if_f h hc54
    refine lv_iconst (v := (0 : Int32)) hx hb dX4_goRound_61 (by decide) ?_
    exact w_X4_goRound_b62 X a_t a_island res (upd c_t 5 ((s1 + s0) &&& (3 : Int32))) l1 l2 (0 : Int32) _ _ _ h hP hD hS (lv_sub hl [0, 1, 2] rfl)
  · have h := if_t h hc54
    refine lv_iconst (v := (1 : Int32)) hx hb dX4_goRound_57 (by decide) ?_
    refine lv_goto (tgt := 62) hx hb dX4_goRound_58 (by decide) ?_
    exact w_X4_goRound_b62 X a_t a_island res (upd c_t 5 ((s1 + s0) &&& (3 : Int32))) l1 l2 (1 : Int32) _ _ _ h hP hD hS (lv_sub hl [0, 1, 2] rfl)
set_option maxRecDepth 100000 in
set_option maxHeartbeats 4000000 in
theorem w_X4_goRound_b28 (X : Ctx p m meth c cX4_goRound 4 none s args wsX4_goRound RX4 E A) (a_t : Nat) (a_island : Nat) (res : (Nat → Int32)) (c_t : Nat → Int32) (l1 : Int32) (l2 : Int32) (s0 : Int32) (ls : Array Slot) (H : Heap) (locs : List Loc) (h : f_X4_goRound_b28 c_t l1 l2 s0 = some res) (hP : va_P E.1 vwCl (W_X4_goRound E a_t a_island c_t) H) (hD : va_D A (W_X4_goRound E a_t a_island c_t)) (hS : va_S A s.heap H locs) (hl : lv_has ls 4 [(0, .ref a_t), (1, .int l1), (2, .int l2)]) : W p l e r_X4_goRound s m args below meth c H locs 0 0 (MQ below (qV E A (W_X4_goRound E a_t a_island res)) args s 0 0 A) (F0 m 28 ls [.int s0]) := by
  obtain ⟨hx, hb, hml, hr, hlk, hown, hts, hG, hA⟩ := id X
  have hK := hG.1
  have hN := hG.2.1
  unfold f_X4_goRound_b28 at h
  refine lv_istore_n (lv' := [(3, .int s0), (0, .ref a_t), (1, .int l1), (2, .int l2)]) hx hb dX4_goRound_28 rfl hl (by decide) rfl (fun ls hl => ?_)
  refine lv_aload_n hx hb dX4_goRound_29 rfl (lv_at hl 1 rfl) ?_
  refine lv_aload_n hx hb dX4_goRound_30 rfl (lv_at hl 1 rfl) ?_
  refine va_get (D := E.1) (ci := 4) (v := .int (c_t 5)) (C := RX4) (T := TX4) (N := 11) hx hb hts iX4_goRound_X4 hown hK hP 0 rfl rfl 5 (by decide) (hts (.fieldLink RX4 24 "LeftIsAgreedOn$Walker" "faces" "I") (List.mem_of_getElem? (i := 1) rfl)) (fun _ h9 => h9) rfl dX4_goRound_31 ?_
  refine lv_iload_n hx hb dX4_goRound_34 rfl (lv_at hl 0 rfl) ?_
  refine lv_if_eq (tgt := 42) hx hb dX4_goRound_35 (by decide) (fun hc35 => ?_) (fun hc35 => ?_)
  · have h := if_t h hc35
    refine lv_iconst (v := (3 : Int32)) hx hb dX4_goRound_42 (by decide) ?_
    exact w_X4_goRound_b43 X a_t a_island res c_t l1 l2 (3 : Int32) (c_t 5) _ _ _ h hP hD hS (lv_sub hl [1, 2, 3] rfl)
  · have h := if_f h hc35
    refine lv_iconst (v := (1 : Int32)) hx hb dX4_goRound_38 (by decide) ?_
    refine lv_goto (tgt := 43) hx hb dX4_goRound_39 (by decide) ?_
    exact w_X4_goRound_b43 X a_t a_island res c_t l1 l2 (1 : Int32) (c_t 5) _ _ _ h hP hD hS (lv_sub hl [1, 2, 3] rfl)
set_option maxRecDepth 100000 in
set_option maxHeartbeats 4000000 in
theorem w_X4_goRound_b20 (X : Ctx p m meth c cX4_goRound 4 none s args wsX4_goRound RX4 E A) (a_t : Nat) (a_island : Nat) (res : (Nat → Int32)) (c_t : Nat → Int32) (l1 : Int32) (l2 : Int32) (s0 : Int32) (s1 : Int32) (ls : Array Slot) (H : Heap) (locs : List Loc) (h : f_X4_goRound_b20 c_t l1 l2 s0 s1 = some res) (hP : va_P E.1 vwCl (W_X4_goRound E a_t a_island c_t) H) (hD : va_D A (W_X4_goRound E a_t a_island c_t)) (hS : va_S A s.heap H locs) (hl : lv_has ls 4 [(0, .ref a_t), (1, .int l1), (2, .int l2)]) : W p l e r_X4_goRound s m args below meth c H locs 0 0 (MQ below (qV E A (W_X4_goRound E a_t a_island res)) args s 0 0 A) (F0 m 20 ls [.int s0, .int s1]) := by
  obtain ⟨hx, hb, hml, hr, hlk, hown, hts, hG, hA⟩ := id X
  have hK := hG.1
  have hN := hG.2.1
  unfold f_X4_goRound_b20 at h
  refine lv_icmp_ne (tgt := 27) hx hb dX4_goRound_20 (by decide) (fun hc20 => ?_) (fun hc20 => ?_)
  · have h := if_f h hc20
    refine lv_iconst (v := (0 : Int32)) hx hb dX4_goRound_27 (by decide) ?_
    exact w_X4_goRound_b28 X a_t a_island res c_t l1 l2 (0 : Int32) _ _ _ h hP hD hS (lv_sub hl [0, 1, 2] rfl)
  · have h := if_t h hc20
    refine lv_iconst (v := (1 : Int32)) hx hb dX4_goRound_23 (by decide) ?_
    refine lv_goto (tgt := 28) hx hb dX4_goRound_24 (by decide) ?_
    exact w_X4_goRound_b28 X a_t a_island res c_t l1 l2 (1 : Int32) _ _ _ h hP hD hS (lv_sub hl [0, 1, 2] rfl)
set_option maxRecDepth 100000 in
set_option maxHeartbeats 4000000 in
theorem w_X4_goRound_b10 (X : Ctx p m meth c cX4_goRound 4 none s args wsX4_goRound RX4 E A) (a_t : Nat) (a_island : Nat) (res : (Nat → Int32)) (c_t : Nat → Int32) (l1 : Int32) (l2 : Int32) (s0 : Int32) (ls : Array Slot) (H : Heap) (locs : List Loc) (h : f_X4_goRound_b10 c_t l1 l2 s0 = some res) (hP : va_P E.1 vwCl (W_X4_goRound E a_t a_island c_t) H) (hD : va_D A (W_X4_goRound E a_t a_island c_t)) (hS : va_S A s.heap H locs) (hl : lv_has ls 4 [(0, .ref a_t), (1, .int l1), (2, .int l2)]) : W p l e r_X4_goRound s m args below meth c H locs 0 0 (MQ below (qV E A (W_X4_goRound E a_t a_island res)) args s 0 0 A) (F0 m 10 ls [.int s0]) := by
  obtain ⟨hx, hb, hml, hr, hlk, hown, hts, hG, hA⟩ := id X
  have hK := hG.1
  have hN := hG.2.1
  unfold f_X4_goRound_b10 at h
  refine lv_iload_n hx hb dX4_goRound_10 rfl (lv_at hl 2 rfl) ?_
  refine lv_iconst (v := (1 : Int32)) hx hb dX4_goRound_11 (by decide) ?_
  refine lv_icmp_ne (tgt := 19) hx hb dX4_goRound_12 (by decide) (fun hc12 => ?_) (fun hc12 => ?_)
  · have h := if_f h hc12
    refine lv_iconst (v := (0 : Int32)) hx hb dX4_goRound_19 (by decide) ?_
    exact w_X4_goRound_b20 X a_t a_island res c_t l1 l2 (0 : Int32) s0 _ _ _ h hP hD hS (lv_sub hl [0, 1, 2] rfl)
  · have h := if_t h hc12
    refine lv_iconst (v := (1 : Int32)) hx hb dX4_goRound_15 (by decide) ?_
    refine lv_goto (tgt := 20) hx hb dX4_goRound_16 (by decide) ?_
    exact w_X4_goRound_b20 X a_t a_island res c_t l1 l2 (1 : Int32) s0 _ _ _ h hP hD hS (lv_sub hl [0, 1, 2] rfl)
set_option maxRecDepth 100000 in
set_option maxHeartbeats 4000000 in
theorem w_X4_goRound (X : Ctx p m meth c cX4_goRound 4 none s args wsX4_goRound RX4 E A) (a_t : Nat) (a_island : Nat) (res : (Nat → Int32)) (c_t : Nat → Int32) (l1 : Int32) (l2 : Int32) (ls : Array Slot) (H : Heap) (locs : List Loc) (h : f_X4_goRound l1 l2 c_t = some res) (hP : va_P E.1 vwCl (W_X4_goRound E a_t a_island c_t) H) (hD : va_D A (W_X4_goRound E a_t a_island c_t)) (hS : va_S A s.heap H locs) (hl : lv_has ls 4 [(0, .ref a_t), (1, .int l1), (2, .int l2)]) : W p l e r_X4_goRound s m args below meth c H locs 0 0 (MQ below (qV E A (W_X4_goRound E a_t a_island res)) args s 0 0 A) (F0 m 0 ls []) := by
  obtain ⟨hx, hb, hml, hr, hlk, hown, hts, hG, hA⟩ := id X
  have hK := hG.1
  have hN := hG.2.1
  unfold f_X4_goRound at h
  refine lv_iload_n hx hb dX4_goRound_0 rfl (lv_at hl 1 rfl) ?_
  refine lv_iconst (v := (1 : Int32)) hx hb dX4_goRound_1 (by decide) ?_
  refine lv_icmp_ne (tgt := 9) hx hb dX4_goRound_2 (by decide) (fun hc2 => ?_) (fun hc2 => ?_)
  · have h := if_f h hc2
    refine lv_iconst (v := (0 : Int32)) hx hb dX4_goRound_9 (by decide) ?_
    exact w_X4_goRound_b10 X a_t a_island res c_t l1 l2 (0 : Int32) _ _ _ h hP hD hS (lv_sub hl [0, 1, 2] rfl)
  · have h := if_t h hc2
    refine lv_iconst (v := (1 : Int32)) hx hb dX4_goRound_5 (by decide) ?_
    refine lv_goto (tgt := 10) hx hb dX4_goRound_6 (by decide) ?_
    exact w_X4_goRound_b10 X a_t a_island res c_t l1 l2 (1 : Int32) _ _ _ h hP hD hS (lv_sub hl [0, 1, 2] rfl)
end
set_option maxRecDepth 100000 in
theorem c_X4_goRound (l : Launch) (E : Env0) (a_t : Nat) (a_island : Nat) (l1 : Int32) (l2 : Int32) (c_t : Nat → Int32) (sz : Nat) (res : (Nat → Int32)) (h : f_X4_goRound l1 l2 c_t = some res) : Met l yX4_goRound wsX4_goRound r_X4_goRound (cPre E [.ref a_t, .int l1, .int l2] (W_X4_goRound E a_t a_island c_t) sz) (qV E (va_A (W_X4_goRound E a_t a_island c_t) sz) (W_X4_goRound E a_t a_island res)) 0 0 (va_A (W_X4_goRound E a_t a_island c_t) sz) :=
  met_of (Qc := fun A => qV E A (W_X4_goRound E a_t a_island res)) (by decide) rfl (Nat.le_of_ble_eq_true rfl) (fun p e s m args below meth c X hP hD hS ls hl => w_X4_goRound X a_t a_island res c_t l1 l2 ls _ _ h hP hD hS hl)
-- ===== X4_step
noncomputable abbrev W_X4_step (E : Env0) (a_t : Nat) (a_island : Nat) (a_island_ponds : Nat) (a_island_kinds : Nat) (a_island_weights : Nat) (a_island_cells : Nat) (a_island_faces : Nat) (a_island_pledges : Nat) (c_t : Nat → Int32) (c_island : Nat → Int32) (c_island_ponds : Nat → Int32) : va_W := [(a_t, .inr (4, [.ref a_island, .int (c_t 1), .int (c_t 2), .int (c_t 3), .int (c_t 4), .int (c_t 5), .int (c_t 6), .int (c_t 7), .int (c_t 8), .int (c_t 9), .int (c_t 10)])), (a_island, .inr (0, [.int (c_island 0), .int (c_island 1), .int (c_island 2), .int (c_island 3), .int (c_island 4), .int (c_island 5), .int (c_island 6), .int (c_island 7), .ref a_island_ponds, .ref a_island_kinds, .ref a_island_weights, .ref a_island_cells, .ref a_island_faces, .ref a_island_pledges])), (a_island_ponds, .inl (eZ E, 70, .inl c_island_ponds))]
noncomputable abbrev r_X4_step : Room := { frames := 3, cells := 0, slots := 0, locals := 69 }
theorem hd_X4_step : yX4_step.cls ≠ "java/lang/invoke/MethodHandle" ∧ yX4_step.cls ≠ "java/lang/invoke/VarHandle" ∧ (parseMethodDescriptor yX4_step.desc).map (fun d => d.parameters.length) = some 1 := by decide +kernel
theorem hV_X4_step : yX4_step.cls = RX4 ∧ yX4_step.cls ≠ "java/lang/invoke/MethodHandle" ∧ yX4_step.cls ≠ "java/lang/invoke/VarHandle" ∧ (parseMethodDescriptor yX4_step.desc).map (fun d => d.parameters.length) = some 1 := ⟨rfl, hd_X4_step⟩
theorem iX4_step_X4 : ∀ w ∈ wsX40, w ∈ wsX4_step := fun _ h => List.mem_cons_of_mem _ (List.mem_append_left _ (List.mem_append_right _ (h)))
section
variable {p : Program} {l : Launch} {e : Env} {s : State} {m : MethodId} {args : Array Value} {below : List Frame} {meth : Method} {c : Code} {E : Env0} {A : Nat → Prop}
set_option maxRecDepth 100000 in
set_option maxHeartbeats 4000000 in
theorem w_X4_step_b38 (X : Ctx p m meth c cX4_step 2 none s args wsX4_step RX4 E A) (a_t : Nat) (a_island : Nat) (a_island_ponds : Nat) (a_island_kinds : Nat) (a_island_weights : Nat) (a_island_cells : Nat) (a_island_faces : Nat) (a_island_pledges : Nat) (c_island : Nat → Int32) (c_island_ponds : Nat → Int32) (res : (Nat → Int32)) (c_t : Nat → Int32) (ls : Array Slot) (H : Heap) (locs : List Loc) (h : f_X4_step_b38 c_island c_island_ponds c_t = some res) (hP : va_P E.1 vwCl (W_X4_step E a_t a_island a_island_ponds a_island_kinds a_island_weights a_island_cells a_island_faces a_island_pledges c_t c_island c_island_ponds) H) (hD : va_D A (W_X4_step E a_t a_island a_island_ponds a_island_kinds a_island_weights a_island_cells a_island_faces a_island_pledges c_t c_island c_island_ponds)) (hS : va_S A s.heap H locs) (hl : lv_has ls 2 [(0, .ref a_t)]) : W p l e r_X4_step s m args below meth c H locs 0 0 (MQ below (qV E A (W_X4_step E a_t a_island a_island_ponds a_island_kinds a_island_weights a_island_cells a_island_faces a_island_pledges res c_island c_island_ponds)) args s 0 0 A) (F0 m 38 ls []) := by
  obtain ⟨hx, hb, hml, hr, hlk, hown, hts, hG, hA⟩ := id X
  have hK := hG.1
  have hN := hG.2.1
  unfold f_X4_step_b38 at h
  refine lv_aload_n hx hb dX4_step_38 rfl (lv_at hl 0 rfl) ?_
  refine lv_dup hx hb dX4_step_39 rfl ?_
  refine va_get (D := E.1) (ci := 4) (v := .int (c_t 6)) (C := RX4) (T := TX4) (N := 11) hx hb hts iX4_step_X4 hown hK hP 0 rfl rfl 6 (by decide) (hts (.fieldLink RX4 27 "LeftIsAgreedOn$Walker" "told" "I") (List.mem_of_getElem? (i := 1) rfl)) (fun _ h9 => h9) rfl dX4_step_40 ?_
  refine lv_iconst (v := (1 : Int32)) hx hb dX4_step_43 (by decide) ?_
  refine lv_iadd hx hb dX4_step_44 ?_
  refine va_put (D := E.1) (ci := 4) (v := .int ((c_t 6) + (1 : Int32))) (ty := .int) (C := RX4) (T := TX4) (N := 11) hx hb hts iX4_step_X4 tyX4 tyX4_ok nmX4 hown hK hP hD hS 0 rfl rfl 6 (by decide) (hts (.fieldLink RX4 27 "LeftIsAgreedOn$Walker" "told" "I") (List.mem_of_getElem? (i := 1) rfl)) (fun _ h9 => h9) rfl (tyX4_ok 6 (by decide)) rfl rfl (Nat.le_of_ble_eq_true rfl) dX4_step_45 (fun H locs hP hD hS => ?_)
  have hP : va_P E.1 vwCl (W_X4_step E a_t a_island a_island_ponds a_island_kinds a_island_weights a_island_cells a_island_faces a_island_pledges (upd c_t 6 ((c_t 6) + (1 : Int32))) c_island c_island_ponds) H := hP
  have hD : va_D A (W_X4_step E a_t a_island a_island_ponds a_island_kinds a_island_weights a_island_cells a_island_faces a_island_pledges (upd c_t 6 ((c_t 6) + (1 : Int32))) c_island c_island_ponds) := hD
  obtain rfl := Option.some.inj h
  exact ret_v X dX4_step_48 hP hD hS
set_option maxRecDepth 100000 in
set_option maxHeartbeats 4000000 in
theorem w_X4_step_b28 (X : Ctx p m meth c cX4_step 2 none s args wsX4_step RX4 E A) (a_t : Nat) (a_island : Nat) (a_island_ponds : Nat) (a_island_kinds : Nat) (a_island_weights : Nat) (a_island_cells : Nat) (a_island_faces : Nat) (a_island_pledges : Nat) (c_island : Nat → Int32) (c_island_ponds : Nat → Int32) (res : (Nat → Int32)) (c_t : Nat → Int32) (l1 : Int32) (ls : Array Slot) (H : Heap) (locs : List Loc) (h : f_X4_step_b28 c_island c_island_ponds c_t l1 = some res) (hP : va_P E.1 vwCl (W_X4_step E a_t a_island a_island_ponds a_island_kinds a_island_weights a_island_cells a_island_faces a_island_pledges c_t c_island c_island_ponds) H) (hD : va_D A (W_X4_step E a_t a_island a_island_ponds a_island_kinds a_island_weights a_island_cells a_island_faces a_island_pledges c_t c_island c_island_ponds)) (hS : va_S A s.heap H locs) (hl : lv_has ls 2 [(0, .ref a_t), (1, .int l1)]) : W p l e r_X4_step s m args below meth c H locs 0 0 (MQ below (qV E A (W_X4_step E a_t a_island a_island_ponds a_island_kinds a_island_weights a_island_cells a_island_faces a_island_pledges res c_island c_island_ponds)) args s 0 0 A) (F0 m 28 ls []) := by
  obtain ⟨hx, hb, hml, hr, hlk, hown, hts, hG, hA⟩ := id X
  have hK := hG.1
  have hN := hG.2.1
  unfold f_X4_step_b28 at h
  refine lv_aload_n hx hb dX4_step_28 rfl (lv_at hl 0 rfl) ?_
  refine lv_iload_n hx hb dX4_step_29 rfl (lv_at hl 1 rfl) ?_
  refine lv_aload_n hx hb dX4_step_30 rfl (lv_at hl 0 rfl) ?_
  refine lv_iload_n hx hb dX4_step_31 rfl (lv_at hl 1 rfl) ?_
  obtain ⟨v1, hv1, h⟩ := bind_of h
  refine after_i X (run_V X (c_X4_goesBy l E a_t a_island a_island_ponds a_island_kinds a_island_weights a_island_cells a_island_faces a_island_pledges l1 c_t c_island c_island_ponds H.size v1 hv1) (cwV 1 hts gX4_step_X4_goesBy rfl rfl rfl hV_X4_goesBy ⟨(Nat.le_of_ble_eq_true rfl), (Nat.le_of_ble_eq_true rfl)⟩) hP hD hS [0, 1, 2] rfl rfl hl.1 (ci := 4) rfl rfl rfl (rest := [.int l1, .ref a_t]) rfl rfl (Nat.le_of_ble_eq_true rfl) dX4_step_32) hP hD hS [0, 1, 2] rfl (ws1 := (W_X4_step E a_t a_island a_island_ponds a_island_kinds a_island_weights a_island_cells a_island_faces a_island_pledges c_t c_island c_island_ponds)) rfl (fun H locs hP hD hS => ?_)
  obtain ⟨v2, hv2, h⟩ := bind_of h
  refine after_v X (run_V X (c_X4_goRound l E a_t a_island l1 v1 c_t H.size v2 hv2) (cwV 2 hts gX4_step_X4_goRound rfl rfl rfl hV_X4_goRound ⟨(Nat.le_of_ble_eq_true rfl), (Nat.le_of_ble_eq_true rfl)⟩) hP hD hS [0] rfl rfl hl.1 (ci := 4) rfl rfl rfl (rest := []) rfl rfl (Nat.le_of_ble_eq_true rfl) dX4_step_35) hP hD hS [0] rfl (ws1 := (W_X4_step E a_t a_island a_island_ponds a_island_kinds a_island_weights a_island_cells a_island_faces a_island_pledges v2 c_island c_island_ponds)) rfl (fun H locs hP hD hS => ?_)
  exact w_X4_step_b38 X a_t a_island a_island_ponds a_island_kinds a_island_weights a_island_cells a_island_faces a_island_pledges c_island c_island_ponds res v2 _ _ _ h hP hD hS (lv_sub hl [0] rfl)
set_option maxRecDepth 100000 in
set_option maxHeartbeats 4000000 in
theorem w_X4_step (X : Ctx p m meth c cX4_step 2 none s args wsX4_step RX4 E A) (a_t : Nat) (a_island : Nat) (a_island_ponds : Nat) (a_island_kinds : Nat) (a_island_weights : Nat) (a_island_cells : Nat) (a_island_faces : Nat) (a_island_pledges : Nat) (c_island : Nat → Int32) (c_island_ponds : Nat → Int32) (res : (Nat → Int32)) (c_t : Nat → Int32) (l1 : Int32) (ls : Array Slot) (H : Heap) (locs : List Loc) (h : f_X4_step l1 c_t c_island c_island_ponds = some res) (hP : va_P E.1 vwCl (W_X4_step E a_t a_island a_island_ponds a_island_kinds a_island_weights a_island_cells a_island_faces a_island_pledges c_t c_island c_island_ponds) H) (hD : va_D A (W_X4_step E a_t a_island a_island_ponds a_island_kinds a_island_weights a_island_cells a_island_faces a_island_pledges c_t c_island c_island_ponds)) (hS : va_S A s.heap H locs) (hl : lv_has ls 2 [(0, .ref a_t), (1, .int l1)]) : W p l e r_X4_step s m args below meth c H locs 0 0 (MQ below (qV E A (W_X4_step E a_t a_island a_island_ponds a_island_kinds a_island_weights a_island_cells a_island_faces a_island_pledges res c_island c_island_ponds)) args s 0 0 A) (F0 m 0 ls []) := by
  obtain ⟨hx, hb, hml, hr, hlk, hown, hts, hG, hA⟩ := id X
  have hK := hG.1
  have hN := hG.2.1
  unfold f_X4_step at h
  refine lv_aload_n hx hb dX4_step_0 rfl (lv_at hl 0 rfl) ?_
  obtain ⟨v1, hv1, h⟩ := bind_of h
  refine after_i X (run_V X (c_X4_isFallen l E a_t a_island c_t H.size v1 hv1) (cwV 0 hts gX4_step_X4_isFallen rfl rfl rfl hV_X4_isFallen ⟨(Nat.le_of_ble_eq_true rfl), (Nat.le_of_ble_eq_true rfl)⟩) hP hD hS [0] rfl rfl hl.1 (ci := 4) rfl rfl rfl (rest := []) rfl rfl (Nat.le_of_ble_eq_true rfl) dX4_step_1) hP hD hS [0] rfl (ws1 := (W_X4_step E a_t a_island a_island_ponds a_island_kinds a_island_weights a_island_cells a_island_faces a_island_pledges c_t c_island c_island_ponds)) rfl (fun H locs hP hD hS => ?_)
  refine lv_if_ne (tgt := 38) hx hb dX4_step_4 (by decide) (fun hc4 => ?_) (fun hc4 => ?_)
  · have h := if_f h hc4
    exact w_X4_step_b38 X a_t a_island a_island_ponds a_island_kinds a_island_weights a_island_cells a_island_faces a_island_pledges c_island c_island_ponds res c_t _ _ _ h hP hD hS (lv_sub hl [0] rfl)
  · have h := if_t h hc4
    refine lv_iload_n hx hb dX4_step_7 rfl (lv_at hl 1 rfl) ?_
    refine lv_if_ne (tgt := 18) hx hb dX4_step_8 (by decide) (fun hc8 => ?_) (fun hc8 => ?_)
    · have h := if_f h hc8
      refine lv_iload_n hx hb dX4_step_18 rfl (lv_at hl 1 rfl) ?_
      refine lv_iconst (v := (1 : Int32)) hx hb dX4_step_19 (by decide) ?_
      refine lv_icmp_eq (tgt := 28) hx hb dX4_step_20 (by decide) (fun hc20 => ?_) (fun hc20 => ?_)
      · have h := if_t h hc20
        exact w_X4_step_b28 X a_t a_island a_island_ponds a_island_kinds a_island_weights a_island_cells a_island_faces a_island_pledges c_island c_island_ponds res c_t l1 _ _ _ h hP hD hS (lv_sub hl [0, 1] rfl)
      · have h := if_f h hc20
        refine lv_iload_n hx hb dX4_step_23 rfl (lv_at hl 1 rfl) ?_
        refine lv_iconst (v := (2 : Int32)) hx hb dX4_step_24 (by decide) ?_
        refine lv_icmp_ne (tgt := 38) hx hb dX4_step_25 (by decide) (fun hc25 => ?_) (fun hc25 => ?_)
        · have h := if_f h hc25
          exact w_X4_step_b38 X a_t a_island a_island_ponds a_island_kinds a_island_weights a_island_cells a_island_faces a_island_pledges c_island c_island_ponds res c_t _ _ _ h hP hD hS (lv_sub hl [0] rfl)
        · have h := if_t h hc25
          exact w_X4_step_b28 X a_t a_island a_island_ponds a_island_kinds a_island_weights a_island_cells a_island_faces a_island_pledges c_island c_island_ponds res c_t l1 _ _ _ h hP hD hS (lv_sub hl [0, 1] rfl)
    · have h := if_t h hc8
      refine lv_aload_n hx hb dX4_step_11 rfl (lv_at hl 0 rfl) ?_
      obtain ⟨v2, hv2, h⟩ := bind_of h
      refine after_v X (run_V X (c_X4_goOn l E a_t a_island a_island_ponds a_island_kinds a_island_weights a_island_cells a_island_faces a_island_pledges c_t c_island c_island_ponds H.size v2 hv2) (cwV 0 hts gX4_step_X4_goOn rfl rfl rfl hV_X4_goOn ⟨(Nat.le_of_ble_eq_true rfl), (Nat.le_of_ble_eq_true rfl)⟩) hP hD hS [0, 1, 2] rfl rfl hl.1 (ci := 4) rfl rfl rfl (rest := []) rfl rfl (Nat.le_of_ble_eq_true rfl) dX4_step_12) hP hD hS [0, 1, 2] rfl (ws1 := (W_X4_step E a_t a_island a_island_ponds a_island_kinds a_island_weights a_island_cells a_island_faces a_island_pledges v2 c_island c_island_ponds)) rfl (fun H locs hP hD hS => ?_)
      refine lv_goto (tgt := 38) hx hb dX4_step_15 (by decide) ?_
      exact w_X4_step_b38 X a_t a_island a_island_ponds a_island_kinds a_island_weights a_island_cells a_island_faces a_island_pledges c_island c_island_ponds res v2 _ _ _ h hP hD hS (lv_sub hl [0] rfl)
end
set_option maxRecDepth 100000 in
theorem c_X4_step (l : Launch) (E : Env0) (a_t : Nat) (a_island : Nat) (a_island_ponds : Nat) (a_island_kinds : Nat) (a_island_weights : Nat) (a_island_cells : Nat) (a_island_faces : Nat) (a_island_pledges : Nat) (l1 : Int32) (c_t : Nat → Int32) (c_island : Nat → Int32) (c_island_ponds : Nat → Int32) (sz : Nat) (res : (Nat → Int32)) (h : f_X4_step l1 c_t c_island c_island_ponds = some res) : Met l yX4_step wsX4_step r_X4_step (cPre E [.ref a_t, .int l1] (W_X4_step E a_t a_island a_island_ponds a_island_kinds a_island_weights a_island_cells a_island_faces a_island_pledges c_t c_island c_island_ponds) sz) (qV E (va_A (W_X4_step E a_t a_island a_island_ponds a_island_kinds a_island_weights a_island_cells a_island_faces a_island_pledges c_t c_island c_island_ponds) sz) (W_X4_step E a_t a_island a_island_ponds a_island_kinds a_island_weights a_island_cells a_island_faces a_island_pledges res c_island c_island_ponds)) 0 0 (va_A (W_X4_step E a_t a_island a_island_ponds a_island_kinds a_island_weights a_island_cells a_island_faces a_island_pledges c_t c_island c_island_ponds) sz) :=
  met_of (Qc := fun A => qV E A (W_X4_step E a_t a_island a_island_ponds a_island_kinds a_island_weights a_island_cells a_island_faces a_island_pledges res c_island c_island_ponds)) (by decide) rfl (Nat.le_of_ble_eq_true rfl) (fun p e s m args below meth c X hP hD hS ls hl => w_X4_step X a_t a_island a_island_ponds a_island_kinds a_island_weights a_island_cells a_island_faces a_island_pledges c_island c_island_ponds res c_t l1 ls _ _ h hP hD hS hl)
-- ===== X2_grow
noncomputable abbrev W_X2_grow (E : Env0) (a_p0 : Nat) (a_p0_island : Nat) (a_p0_island_ponds : Nat) (a_p1 : Nat) (a_p0_island_kinds : Nat) (a_p0_island_weights : Nat) (a_p0_island_cells : Nat) (a_p0_island_faces : Nat) (a_p0_island_pledges : Nat) (c_p0 : Nat → Int32) (c_p0_island : Nat → Int32) (c_p0_island_ponds : Nat → Int32) (c_p1 : Nat → Int32) : va_W := [(a_p0, .inr (4, [.ref a_p0_island, .int (c_p0 1), .int (c_p0 2), .int (c_p0 3), .int (c_p0 4), .int (c_p0 5), .int (c_p0 6), .int (c_p0 7), .int (c_p0 8), .int (c_p0 9), .int (c_p0 10)])), (a_p0_island, .inr (0, [.int (c_p0_island 0), .int (c_p0_island 1), .int (c_p0_island 2), .int (c_p0_island 3), .int (c_p0_island 4), .int (c_p0_island 5), .int (c_p0_island 6), .int (c_p0_island 7), .ref a_p0_island_ponds, .ref a_p0_island_kinds, .ref a_p0_island_weights, .ref a_p0_island_cells, .ref a_p0_island_faces, .ref a_p0_island_pledges])), (a_p0_island_ponds, .inl (eZ E, 70, .inl c_p0_island_ponds)), (a_p1, .inl (eI E, 1093, .inl c_p1))]
noncomputable abbrev r_X2_grow : Room := { frames := 4, cells := 0, slots := 0, locals := 90 }
theorem hd_X2_grow : yX2_grow.cls ≠ "java/lang/invoke/MethodHandle" ∧ yX2_grow.cls ≠ "java/lang/invoke/VarHandle" ∧ (parseMethodDescriptor yX2_grow.desc).map (fun d => d.parameters.length) = some 3 := by decide +kernel
section
variable {p : Program} {l : Launch} {e : Env} {s : State} {m : MethodId} {args : Array Value} {below : List Frame} {meth : Method} {c : Code} {E : Env0} {A : Nat → Prop}
set_option maxRecDepth 100000 in
set_option maxHeartbeats 4000000 in
theorem w_X2_grow (X : Ctx p m meth c cX2_grow 4 none s args wsX2_grow RX2 E A) (a_p0 : Nat) (a_p0_island : Nat) (a_p0_island_ponds : Nat) (a_p1 : Nat) (a_p0_island_kinds : Nat) (a_p0_island_weights : Nat) (a_p0_island_cells : Nat) (a_p0_island_faces : Nat) (a_p0_island_pledges : Nat) (c_p0_island : Nat → Int32) (c_p0_island_ponds : Nat → Int32) (res : (Nat → Int32) × (Nat → Int32)) (c_p0 : Nat → Int32) (c_p1 : Nat → Int32) (l2 : Int32) (ls : Array Slot) (H : Heap) (locs : List Loc) (h : f_X2_grow l2 c_p0 c_p0_island c_p0_island_ponds c_p1 = some res) (hP : va_P E.1 vwCl (W_X2_grow E a_p0 a_p0_island a_p0_island_ponds a_p1 a_p0_island_kinds a_p0_island_weights a_p0_island_cells a_p0_island_faces a_p0_island_pledges c_p0 c_p0_island c_p0_island_ponds c_p1) H) (hD : va_D A (W_X2_grow E a_p0 a_p0_island a_p0_island_ponds a_p1 a_p0_island_kinds a_p0_island_weights a_p0_island_cells a_p0_island_faces a_p0_island_pledges c_p0 c_p0_island c_p0_island_ponds c_p1)) (hS : va_S A s.heap H locs) (hl : lv_has ls 4 [(0, .ref a_p0), (1, .ref a_p1), (2, .int l2)]) : W p l e r_X2_grow s m args below meth c H locs 0 0 (MQ below (qV E A (W_X2_grow E a_p0 a_p0_island a_p0_island_ponds a_p1 a_p0_island_kinds a_p0_island_weights a_p0_island_cells a_p0_island_faces a_p0_island_pledges (res.1) c_p0_island c_p0_island_ponds (res.2))) args s 0 0 A) (F0 m 0 ls []) := by
  obtain ⟨hx, hb, hml, hr, hlk, hown, hts, hG, hA⟩ := id X
  have hK := hG.1
  have hN := hG.2.1
  unfold f_X2_grow at h
  refine lv_iload_n hx hb dX2_grow_0 rfl (lv_at hl 2 rfl) ?_
  refine lv_if_ne (tgt := 12) hx hb dX2_grow_1 (by decide) (fun hc1 => ?_) (fun hc1 => ?_)
  · have h := if_f h hc1
    refine lv_aload_n hx hb dX2_grow_12 rfl (lv_at hl 1 rfl) ?_
    refine lv_iload_n hx hb dX2_grow_13 rfl (lv_at hl 2 rfl) ?_
    refine lv_iconst (v := (1 : Int32)) hx hb dX2_grow_14 (by decide) ?_
    refine lv_isub hx hb dX2_grow_15 ?_
    refine lv_iconst (v := (3 : Int32)) hx hb dX2_grow_16 (by decide) ?_
    refine lv_idiv hx hb dX2_grow_17 (by decide) ?_
    obtain ⟨hz18, h⟩ := chk_of h
    refine ld_i X hP 3 rfl (inb.vp hz18) (v := (c_p1 (((l2 - (1 : Int32)) / (3 : Int32))).toNatClampNeg)) rfl dX2_grow_18 ?_
    refine lv_istore_n (lv' := [(3, .int (c_p1 (((l2 - (1 : Int32)) / (3 : Int32))).toNatClampNeg)), (0, .ref a_p0), (1, .ref a_p1), (2, .int l2)]) hx hb dX2_grow_19 rfl hl (by decide) rfl (fun ls hl => ?_)
    refine lv_iload_n hx hb dX2_grow_20 rfl (lv_at hl 0 rfl) ?_
    refine lv_iconst (v := (-1 : Int32)) hx hb dX2_grow_21 (by decide) ?_
    refine lv_icmp_ne (tgt := 30) hx hb dX2_grow_22 (by decide) (fun hc22 => ?_) (fun hc22 => ?_)
    · have h := if_f h hc22
      refine lv_aload_n hx hb dX2_grow_30 rfl (lv_at hl 1 rfl) ?_
      refine lv_iload_n hx hb dX2_grow_31 rfl (lv_at hl 0 rfl) ?_
      obtain ⟨v1, hv1, h⟩ := bind_of h
      refine after_v X (run_V X (c_X4_resume l E a_p0 a_p0_island (c_p1 (((l2 - (1 : Int32)) / (3 : Int32))).toNatClampNeg) c_p0 H.size v1 hv1) (cwV 1 hts gX2_grow_X4_resume rfl rfl rfl hV_X4_resume ⟨(Nat.le_of_ble_eq_true rfl), (Nat.le_of_ble_eq_true rfl)⟩) hP hD hS [0] rfl rfl hl.1 (ci := 4) rfl rfl rfl (rest := []) rfl rfl (Nat.le_of_ble_eq_true rfl) dX2_grow_32) hP hD hS [0] rfl (ws1 := (W_X2_grow E a_p0 a_p0_island a_p0_island_ponds a_p1 a_p0_island_kinds a_p0_island_weights a_p0_island_cells a_p0_island_faces a_p0_island_pledges v1 c_p0_island c_p0_island_ponds c_p1)) rfl (fun H locs hP hD hS => ?_)
      refine lv_aload_n hx hb dX2_grow_35 rfl (lv_at hl 1 rfl) ?_
      refine lv_iload_n hx hb dX2_grow_36 rfl (lv_at hl 3 rfl) ?_
      refine lv_iconst (v := (1 : Int32)) hx hb dX2_grow_37 (by decide) ?_
      refine lv_isub hx hb dX2_grow_38 ?_
      refine lv_iconst (v := (3 : Int32)) hx hb dX2_grow_39 (by decide) ?_
      refine lv_irem hx hb dX2_grow_40 (by decide) ?_
      obtain ⟨v2, hv2, h⟩ := bind_of h
      refine after_v X (run_V X (c_X4_step l E a_p0 a_p0_island a_p0_island_ponds a_p0_island_kinds a_p0_island_weights a_p0_island_cells a_p0_island_faces a_p0_island_pledges ((l2 - (1 : Int32)) - (l2 - (1 : Int32)) / (3 : Int32) * (3 : Int32)) v1 c_p0_island c_p0_island_ponds H.size v2 hv2) (cwV 1 hts gX2_grow_X4_step rfl rfl rfl hV_X4_step ⟨(Nat.le_of_ble_eq_true rfl), (Nat.le_of_ble_eq_true rfl)⟩) hP hD hS [0, 1, 2] rfl rfl hl.1 (ci := 4) rfl rfl rfl (rest := []) rfl rfl (Nat.le_of_ble_eq_true rfl) dX2_grow_41) hP hD hS [0, 1, 2] rfl (ws1 := (W_X2_grow E a_p0 a_p0_island a_p0_island_ponds a_p1 a_p0_island_kinds a_p0_island_weights a_p0_island_cells a_p0_island_faces a_p0_island_pledges v2 c_p0_island c_p0_island_ponds c_p1)) rfl (fun H locs hP hD hS => ?_)
      refine lv_aload_n hx hb dX2_grow_44 rfl (lv_at hl 2 rfl) ?_
      refine lv_iload_n hx hb dX2_grow_45 rfl (lv_at hl 3 rfl) ?_
      refine lv_aload_n hx hb dX2_grow_46 rfl (lv_at hl 1 rfl) ?_
      obtain ⟨v3, hv3, h⟩ := bind_of h
      refine after_i X (run_V X (c_X4_state l E a_p0 a_p0_island v2 H.size v3 hv3) (cwV 0 hts gX2_grow_X4_state rfl rfl rfl hV_X4_state ⟨(Nat.le_of_ble_eq_true rfl), (Nat.le_of_ble_eq_true rfl)⟩) hP hD hS [0] rfl rfl hl.1 (ci := 4) rfl rfl rfl (rest := [.int l2, .ref a_p1]) rfl rfl (Nat.le_of_ble_eq_true rfl) dX2_grow_47) hP hD hS [0] rfl (ws1 := (W_X2_grow E a_p0 a_p0_island a_p0_island_ponds a_p1 a_p0_island_kinds a_p0_island_weights a_p0_island_cells a_p0_island_faces a_p0_island_pledges v2 c_p0_island c_p0_island_ponds c_p1)) rfl (fun H locs hP hD hS => ?_)
      obtain ⟨hz50, h⟩ := chk_of h
      refine st_i X hP hD hS 3 rfl (inb.vp hz50) (k := (l2).toNatClampNeg) rfl (ws1 := (W_X2_grow E a_p0 a_p0_island a_p0_island_ponds a_p1 a_p0_island_kinds a_p0_island_weights a_p0_island_cells a_p0_island_faces a_p0_island_pledges v2 c_p0_island c_p0_island_ponds (upd c_p1 ((l2).toNatClampNeg) v3))) rfl dX2_grow_50 (fun H locs hP hD hS => ?_)
      obtain rfl := Option.some.inj h
      exact ret_v X dX2_grow_51 hP hD hS
    · have h := if_t h hc22
      refine lv_aload_n hx hb dX2_grow_25 rfl (lv_at hl 2 rfl) ?_
      refine lv_iload_n hx hb dX2_grow_26 rfl (lv_at hl 3 rfl) ?_
      refine lv_iconst (v := (-1 : Int32)) hx hb dX2_grow_27 (by decide) ?_
      obtain ⟨hz28, h⟩ := chk_of h
      refine st_i X hP hD hS 3 rfl (inb.vp hz28) (k := (l2).toNatClampNeg) rfl (ws1 := (W_X2_grow E a_p0 a_p0_island a_p0_island_ponds a_p1 a_p0_island_kinds a_p0_island_weights a_p0_island_cells a_p0_island_faces a_p0_island_pledges c_p0 c_p0_island c_p0_island_ponds (upd c_p1 ((l2).toNatClampNeg) (-1 : Int32)))) rfl dX2_grow_28 (fun H locs hP hD hS => ?_)
      obtain rfl := Option.some.inj h
      exact ret_v X dX2_grow_29 hP hD hS
  · have h := if_t h hc1
    refine lv_aload_n hx hb dX2_grow_4 rfl (lv_at hl 1 rfl) ?_
    refine lv_iconst (v := (0 : Int32)) hx hb dX2_grow_5 (by decide) ?_
    refine lv_aload_n hx hb dX2_grow_6 rfl (lv_at hl 0 rfl) ?_
    obtain ⟨v4, hv4, h⟩ := bind_of h
    refine after_i X (run_V X (c_X4_state l E a_p0 a_p0_island c_p0 H.size v4 hv4) (cwV 0 hts gX2_grow_X4_state rfl rfl rfl hV_X4_state ⟨(Nat.le_of_ble_eq_true rfl), (Nat.le_of_ble_eq_true rfl)⟩) hP hD hS [0] rfl rfl hl.1 (ci := 4) rfl rfl rfl (rest := [.int (0 : Int32), .ref a_p1]) rfl rfl (Nat.le_of_ble_eq_true rfl) dX2_grow_7) hP hD hS [0] rfl (ws1 := (W_X2_grow E a_p0 a_p0_island a_p0_island_ponds a_p1 a_p0_island_kinds a_p0_island_weights a_p0_island_cells a_p0_island_faces a_p0_island_pledges c_p0 c_p0_island c_p0_island_ponds c_p1)) rfl (fun H locs hP hD hS => ?_)
    refine st_i X hP hD hS 3 rfl (inb.vp (by decide)) (k := 0) rfl (ws1 := (W_X2_grow E a_p0 a_p0_island a_p0_island_ponds a_p1 a_p0_island_kinds a_p0_island_weights a_p0_island_cells a_p0_island_faces a_p0_island_pledges c_p0 c_p0_island c_p0_island_ponds (upd c_p1 0 v4))) rfl dX2_grow_10 (fun H locs hP hD hS => ?_)
    obtain rfl := Option.some.inj h
    exact ret_v X dX2_grow_11 hP hD hS
end
set_option maxRecDepth 100000 in
theorem c_X2_grow (l : Launch) (E : Env0) (a_p0 : Nat) (a_p0_island : Nat) (a_p0_island_ponds : Nat) (a_p1 : Nat) (a_p0_island_kinds : Nat) (a_p0_island_weights : Nat) (a_p0_island_cells : Nat) (a_p0_island_faces : Nat) (a_p0_island_pledges : Nat) (l2 : Int32) (c_p0 : Nat → Int32) (c_p0_island : Nat → Int32) (c_p0_island_ponds : Nat → Int32) (c_p1 : Nat → Int32) (sz : Nat) (res : (Nat → Int32) × (Nat → Int32)) (h : f_X2_grow l2 c_p0 c_p0_island c_p0_island_ponds c_p1 = some res) : Met l yX2_grow wsX2_grow r_X2_grow (cPre E [.ref a_p0, .ref a_p1, .int l2] (W_X2_grow E a_p0 a_p0_island a_p0_island_ponds a_p1 a_p0_island_kinds a_p0_island_weights a_p0_island_cells a_p0_island_faces a_p0_island_pledges c_p0 c_p0_island c_p0_island_ponds c_p1) sz) (qV E (va_A (W_X2_grow E a_p0 a_p0_island a_p0_island_ponds a_p1 a_p0_island_kinds a_p0_island_weights a_p0_island_cells a_p0_island_faces a_p0_island_pledges c_p0 c_p0_island c_p0_island_ponds c_p1) sz) (W_X2_grow E a_p0 a_p0_island a_p0_island_ponds a_p1 a_p0_island_kinds a_p0_island_weights a_p0_island_cells a_p0_island_faces a_p0_island_pledges (res.1) c_p0_island c_p0_island_ponds (res.2))) 0 0 (va_A (W_X2_grow E a_p0 a_p0_island a_p0_island_ponds a_p1 a_p0_island_kinds a_p0_island_weights a_p0_island_cells a_p0_island_faces a_p0_island_pledges c_p0 c_p0_island c_p0_island_ponds c_p1) sz) :=
  met_of (Qc := fun A => qV E A (W_X2_grow E a_p0 a_p0_island a_p0_island_ponds a_p1 a_p0_island_kinds a_p0_island_weights a_p0_island_cells a_p0_island_faces a_p0_island_pledges (res.1) c_p0_island c_p0_island_ponds (res.2))) (by decide) rfl (Nat.le_of_ble_eq_true rfl) (fun p e s m args below meth c X hP hD hS ls hl => w_X2_grow X a_p0 a_p0_island a_p0_island_ponds a_p1 a_p0_island_kinds a_p0_island_weights a_p0_island_cells a_p0_island_faces a_p0_island_pledges c_p0_island c_p0_island_ponds res c_p0 c_p1 l2 ls _ _ h hP hD hS hl)
-- ===== X4_cellOf
noncomputable abbrev W_X4_cellOf (E : Env0) : va_W := []
noncomputable abbrev r_X4_cellOf : Room := { frames := 0, cells := 0, slots := 0, locals := 0 }
theorem hd_X4_cellOf : yX4_cellOf.cls ≠ "java/lang/invoke/MethodHandle" ∧ yX4_cellOf.cls ≠ "java/lang/invoke/VarHandle" ∧ (parseMethodDescriptor yX4_cellOf.desc).map (fun d => d.parameters.length) = some 1 := by decide +kernel
section
variable {p : Program} {l : Launch} {e : Env} {s : State} {m : MethodId} {args : Array Value} {below : List Frame} {meth : Method} {c : Code} {E : Env0} {A : Nat → Prop}
set_option maxRecDepth 100000 in
set_option maxHeartbeats 4000000 in
theorem w_X4_cellOf (X : Ctx p m meth c cX4_cellOf 1 ((some .int)) s args wsX4_cellOf RX4 E A) (res : Int32) (l0 : Int32) (ls : Array Slot) (H : Heap) (locs : List Loc) (h : f_X4_cellOf l0 = some res) (hP : va_P E.1 vwCl (W_X4_cellOf E) H) (hD : va_D A (W_X4_cellOf E)) (hS : va_S A s.heap H locs) (hl : lv_has ls 1 [(0, .int l0)]) : W p l e r_X4_cellOf s m args below meth c H locs 0 0 (MQ below (qI E A res (W_X4_cellOf E)) args s 0 0 A) (F0 m 0 ls []) := by
  obtain ⟨hx, hb, hml, hr, hlk, hown, hts, hG, hA⟩ := id X
  have hK := hG.1
  have hN := hG.2.1
  unfold f_X4_cellOf at h
  refine lv_iload_n hx hb dX4_cellOf_0 rfl (lv_at hl 0 rfl) ?_
  refine lv_iconst (v := (-1 : Int32)) hx hb dX4_cellOf_1 (by decide) ?_
  refine lv_icmp_ne (tgt := 9) hx hb dX4_cellOf_2 (by decide) (fun hc2 => ?_) (fun hc2 => ?_)
  · have h := if_f h hc2
    refine lv_iload_n hx hb dX4_cellOf_9 rfl (lv_at hl 0 rfl) ?_
    refine lv_bipush (v := (127 : Int32)) hx hb dX4_cellOf_10 (by decide) ?_
    refine lv_iand hx hb dX4_cellOf_12 ?_
    obtain rfl := Option.some.inj h
    exact ret_i X dX4_cellOf_13 hP hD hS rfl
  · have h := if_t h hc2
    refine lv_iconst (v := (-1 : Int32)) hx hb dX4_cellOf_5 (by decide) ?_
    refine lv_goto (tgt := 13) hx hb dX4_cellOf_6 (by decide) ?_
    obtain rfl := Option.some.inj h
    exact ret_i X dX4_cellOf_13 hP hD hS rfl
end
set_option maxRecDepth 100000 in
theorem c_X4_cellOf (l : Launch) (E : Env0) (l0 : Int32) (sz : Nat) (res : Int32) (h : f_X4_cellOf l0 = some res) : Met l yX4_cellOf wsX4_cellOf r_X4_cellOf (cPre E [.int l0] (W_X4_cellOf E) sz) (qI E (va_A (W_X4_cellOf E) sz) res (W_X4_cellOf E)) 0 0 (va_A (W_X4_cellOf E) sz) :=
  met_of (Qc := fun A => qI E A res (W_X4_cellOf E)) (by decide) rfl (Nat.le_of_ble_eq_true rfl) (fun p e s m args below meth c X hP hD hS ls hl => w_X4_cellOf X res l0 ls _ _ h hP hD hS hl)
-- ===== X2_find
noncomputable abbrev W_X2_find (E : Env0) (a_t : Nat) (a_one : Nat) (a_one_island : Nat) (a_one_island_cells : Nat) (a_one_island_faces : Nat) (a_one_island_kinds : Nat) (a_one_island_pledges : Nat) (a_one_island_ponds : Nat) (a_oneStates : Nat) (a_two : Nat) (a_twoStates : Nat) (a_isReached : Nat) (a_one_island_weights : Nat) (c_one : Nat → Int32) (c_one_island : Nat → Int32) (c_one_island_cells : Nat → Int32) (c_one_island_faces : Nat → Int32) (c_one_island_kinds : Nat → Int32) (c_one_island_pledges : Nat → Int32) (c_one_island_ponds : Nat → Int32) (c_oneStates : Nat → Int32) (c_two : Nat → Int32) (c_twoStates : Nat → Int32) : va_W := [(a_t, .inr (2, [.ref a_one, .ref a_two, .ref a_oneStates, .ref a_twoStates, .ref a_isReached])), (a_one, .inr (4, [.ref a_one_island, .int (c_one 1), .int (c_one 2), .int (c_one 3), .int (c_one 4), .int (c_one 5), .int (c_one 6), .int (c_one 7), .int (c_one 8), .int (c_one 9), .int (c_one 10)])), (a_one_island, .inr (0, [.int (c_one_island 0), .int (c_one_island 1), .int (c_one_island 2), .int (c_one_island 3), .int (c_one_island 4), .int (c_one_island 5), .int (c_one_island 6), .int (c_one_island 7), .ref a_one_island_ponds, .ref a_one_island_kinds, .ref a_one_island_weights, .ref a_one_island_cells, .ref a_one_island_faces, .ref a_one_island_pledges])), (a_one_island_cells, .inl (eI E, 8, .inl c_one_island_cells)), (a_one_island_faces, .inl (eI E, 8, .inl c_one_island_faces)), (a_one_island_kinds, .inl (eI E, 8, .inl c_one_island_kinds)), (a_one_island_pledges, .inl (eI E, 8, .inl c_one_island_pledges)), (a_one_island_ponds, .inl (eZ E, 70, .inl c_one_island_ponds)), (a_oneStates, .inl (eI E, 1093, .inl c_oneStates)), (a_two, .inr (4, [.ref a_one_island, .int (c_two 1), .int (c_two 2), .int (c_two 3), .int (c_two 4), .int (c_two 5), .int (c_two 6), .int (c_two 7), .int (c_two 8), .int (c_two 9), .int (c_two 10)])), (a_twoStates, .inl (eI E, 1093, .inl c_twoStates))]
noncomputable abbrev r_X2_find : Room := { frames := 5, cells := 0, slots := 0, locals := 113 }
theorem hd_X2_find : yX2_find.cls ≠ "java/lang/invoke/MethodHandle" ∧ yX2_find.cls ≠ "java/lang/invoke/VarHandle" ∧ (parseMethodDescriptor yX2_find.desc).map (fun d => d.parameters.length) = some 4 := by decide +kernel
theorem hV_X2_find : yX2_find.cls = RX2 ∧ yX2_find.cls ≠ "java/lang/invoke/MethodHandle" ∧ yX2_find.cls ≠ "java/lang/invoke/VarHandle" ∧ (parseMethodDescriptor yX2_find.desc).map (fun d => d.parameters.length) = some 4 := ⟨rfl, hd_X2_find⟩
theorem iX2_find_X2 : ∀ w ∈ wsX20, w ∈ wsX2_find := fun _ h => List.mem_cons_of_mem _ (List.mem_append_left _ (List.mem_append_left _ (List.mem_append_right _ (h))))
theorem iX2_find_X4 : ∀ w ∈ wsX40, w ∈ wsX2_find := fun _ h => List.mem_cons_of_mem _ (List.mem_append_left _ (List.mem_append_right _ (h)))
section
variable {p : Program} {l : Launch} {e : Env} {s : State} {m : MethodId} {args : Array Value} {below : List Frame} {meth : Method} {c : Code} {E : Env0} {A : Nat → Prop}
set_option maxRecDepth 100000 in
set_option maxHeartbeats 4000000 in
theorem w_X2_find_b103 (X : Ctx p m meth c cX2_find 6 ((some .int)) s args wsX2_find RX2 E A) (a_t : Nat) (a_one : Nat) (a_one_island : Nat) (a_one_island_cells : Nat) (a_one_island_faces : Nat) (a_one_island_kinds : Nat) (a_one_island_pledges : Nat) (a_one_island_ponds : Nat) (a_oneStates : Nat) (a_two : Nat) (a_twoStates : Nat) (a_isReached : Nat) (a_one_island_weights : Nat) (c_one_island : Nat → Int32) (c_one_island_cells : Nat → Int32) (c_one_island_faces : Nat → Int32) (c_one_island_kinds : Nat → Int32) (c_one_island_pledges : Nat → Int32) (c_one_island_ponds : Nat → Int32) (res : Int32 × (Nat → Int32) × (Nat → Int32) × (Nat → Int32) × (Nat → Int32)) (k36 : (Nat → Int32) → (Nat → Int32) → (Nat → Int32) → (Nat → Int32) → Int32 → Int32 → Option (Int32 × (Nat → Int32) × (Nat → Int32) × (Nat → Int32) × (Nat → Int32))) (hk36 : ∀ (c_one : Nat → Int32) (c_oneStates : Nat → Int32) (c_two : Nat → Int32) (c_twoStates : Nat → Int32) (l2 : Int32) (l5 : Int32) (ls : Array Slot) (H : Heap) (locs : List Loc), k36 c_one c_oneStates c_two c_twoStates l2 l5 = some res → va_P E.1 vwCl (W_X2_find E a_t a_one a_one_island a_one_island_cells a_one_island_faces a_one_island_kinds a_one_island_pledges a_one_island_ponds a_oneStates a_two a_twoStates a_isReached a_one_island_weights c_one c_one_island c_one_island_cells c_one_island_faces c_one_island_kinds c_one_island_pledges c_one_island_ponds c_oneStates c_two c_twoStates) H → va_D A (W_X2_find E a_t a_one a_one_island a_one_island_cells a_one_island_faces a_one_island_kinds a_one_island_pledges a_one_island_ponds a_oneStates a_two a_twoStates a_isReached a_one_island_weights c_one c_one_island c_one_island_cells c_one_island_faces c_one_island_kinds c_one_island_pledges c_one_island_ponds c_oneStates c_two c_twoStates) → va_S A s.heap H locs → lv_has ls 6 [(0, .ref a_t), (2, .int l2), (5, .int l5)] → W p l e r_X2_find s m args below meth c H locs 0 0 (MQ below (qI E A (res.1) (W_X2_find E a_t a_one a_one_island a_one_island_cells a_one_island_faces a_one_island_kinds a_one_island_pledges a_one_island_ponds a_oneStates a_two a_twoStates a_isReached a_one_island_weights (res.2.1) c_one_island c_one_island_cells c_one_island_faces c_one_island_kinds c_one_island_pledges c_one_island_ponds (res.2.2.1) (res.2.2.2.1) (res.2.2.2.2))) args s 0 0 A) (F0 m 36 ls [])) (c_one : Nat → Int32) (c_oneStates : Nat → Int32) (c_two : Nat → Int32) (c_twoStates : Nat → Int32) (l2 : Int32) (l5 : Int32) (ls : Array Slot) (H : Heap) (locs : List Loc) (h : f_X2_find_b103 c_one_island c_one_island_cells c_one_island_faces c_one_island_kinds c_one_island_pledges c_one_island_ponds k36 c_one c_oneStates c_two c_twoStates l2 l5 = some res) (hP : va_P E.1 vwCl (W_X2_find E a_t a_one a_one_island a_one_island_cells a_one_island_faces a_one_island_kinds a_one_island_pledges a_one_island_ponds a_oneStates a_two a_twoStates a_isReached a_one_island_weights c_one c_one_island c_one_island_cells c_one_island_faces c_one_island_kinds c_one_island_pledges c_one_island_ponds c_oneStates c_two c_twoStates) H) (hD : va_D A (W_X2_find E a_t a_one a_one_island a_one_island_cells a_one_island_faces a_one_island_kinds a_one_island_pledges a_one_island_ponds a_oneStates a_two a_twoStates a_isReached a_one_island_weights c_one c_one_island c_one_island_cells c_one_island_faces c_one_island_kinds c_one_island_pledges c_one_island_ponds c_oneStates c_two c_twoStates)) (hS : va_S A s.heap H locs) (hl : lv_has ls 6 [(0, .ref a_t), (2, .int l2), (5, .int l5)]) : W p l e r_X2_find s m args below meth c H locs 0 0 (MQ below (qI E A (res.1) (W_X2_find E a_t a_one a_one_island a_one_island_cells a_one_island_faces a_one_island_kinds a_one_island_pledges a_one_island_ponds a_oneStates a_two a_twoStates a_isReached a_one_island_weights (res.2.1) c_one_island c_one_island_cells c_one_island_faces c_one_island_kinds c_one_island_pledges c_one_island_ponds (res.2.2.1) (res.2.2.2.1) (res.2.2.2.2))) args s 0 0 A) (F0 m 103 ls []) := by
  obtain ⟨hx, hb, hml, hr, hlk, hown, hts, hG, hA⟩ := id X
  have hK := hG.1
  have hN := hG.2.1
  unfold f_X2_find_b103 at h
  refine lv_iinc (v := (l5 + (1 : Int32))) (lv' := [(5, .int (l5 + (1 : Int32))), (0, .ref a_t), (2, .int l2)]) hx hb dX2_find_103 hl (k := 2) rfl rfl (by decide) rfl (fun ls hl => ?_)
  refine lv_goto (tgt := 36) hx hb dX2_find_106 (by decide) ?_
  exact hk36 c_one c_oneStates c_two c_twoStates l2 (l5 + (1 : Int32)) _ _ _ h hP hD hS (lv_sub hl [1, 2, 0] rfl)
set_option maxRecDepth 100000 in
set_option maxHeartbeats 4000000 in
theorem w_X2_find_b36 (X : Ctx p m meth c cX2_find 6 ((some .int)) s args wsX2_find RX2 E A) (a_t : Nat) (a_one : Nat) (a_one_island : Nat) (a_one_island_cells : Nat) (a_one_island_faces : Nat) (a_one_island_kinds : Nat) (a_one_island_pledges : Nat) (a_one_island_ponds : Nat) (a_oneStates : Nat) (a_two : Nat) (a_twoStates : Nat) (a_isReached : Nat) (a_one_island_weights : Nat) (c_one_island : Nat → Int32) (c_one_island_cells : Nat → Int32) (c_one_island_faces : Nat → Int32) (c_one_island_kinds : Nat → Int32) (c_one_island_pledges : Nat → Int32) (c_one_island_ponds : Nat → Int32) (res : Int32 × (Nat → Int32) × (Nat → Int32) × (Nat → Int32) × (Nat → Int32)) : ∀ (n : Nat) (c_one : Nat → Int32) (c_oneStates : Nat → Int32) (c_two : Nat → Int32) (c_twoStates : Nat → Int32) (l2 : Int32) (l5 : Int32) (ls : Array Slot) (H : Heap) (locs : List Loc), f_X2_find_b36 c_one_island c_one_island_cells c_one_island_faces c_one_island_kinds c_one_island_pledges c_one_island_ponds n c_one c_oneStates c_two c_twoStates l2 l5 = some res → va_P E.1 vwCl (W_X2_find E a_t a_one a_one_island a_one_island_cells a_one_island_faces a_one_island_kinds a_one_island_pledges a_one_island_ponds a_oneStates a_two a_twoStates a_isReached a_one_island_weights c_one c_one_island c_one_island_cells c_one_island_faces c_one_island_kinds c_one_island_pledges c_one_island_ponds c_oneStates c_two c_twoStates) H → va_D A (W_X2_find E a_t a_one a_one_island a_one_island_cells a_one_island_faces a_one_island_kinds a_one_island_pledges a_one_island_ponds a_oneStates a_two a_twoStates a_isReached a_one_island_weights c_one c_one_island c_one_island_cells c_one_island_faces c_one_island_kinds c_one_island_pledges c_one_island_ponds c_oneStates c_two c_twoStates) → va_S A s.heap H locs → lv_has ls 6 [(0, .ref a_t), (2, .int l2), (5, .int l5)] → W p l e r_X2_find s m args below meth c H locs 0 0 (MQ below (qI E A (res.1) (W_X2_find E a_t a_one a_one_island a_one_island_cells a_one_island_faces a_one_island_kinds a_one_island_pledges a_one_island_ponds a_oneStates a_two a_twoStates a_isReached a_one_island_weights (res.2.1) c_one_island c_one_island_cells c_one_island_faces c_one_island_kinds c_one_island_pledges c_one_island_ponds (res.2.2.1) (res.2.2.2.1) (res.2.2.2.2))) args s 0 0 A) (F0 m 36 ls []) := by
  obtain ⟨hx, hb, hml, hr, hlk, hown, hts, hG, hA⟩ := id X
  have hK := hG.1
  have hN := hG.2.1
  intro n
  induction n with
  | zero =>
    intro c_one c_oneStates c_two c_twoStates l2 l5 ls H locs h
    exact absurd (show (none : Option (Int32 × (Nat → Int32) × (Nat → Int32) × (Nat → Int32) × (Nat → Int32))) = some res from h) (by intro q; cases q)
  | succ n ih =>
    intro c_one c_oneStates c_two c_twoStates l2 l5 ls H locs h hP hD hS hl
    rw [f_X2_find_b36] at h
    refine lv_iload hx hb dX2_find_36 (lv_at hl 2 rfl) ?_
    refine lv_aload_n hx hb dX2_find_38 rfl (lv_at hl 0 rfl) ?_
    refine va_get (D := E.1) (ci := 2) (v := .ref a_twoStates) (C := RX2) (T := TX2) (N := 5) hx hb hts iX2_find_X2 hown hK hP 0 rfl rfl 3 (by decide) (hts (.fieldLink RX2 15 "LeftIsAgreedOn$Search" "twoStates" "[I") (List.mem_of_getElem? (i := 3) rfl)) (fun _ h9 => h9) rfl dX2_find_39 ?_
    refine va_alen hx hb hK hP 10 0 (v := (1093 : Int32)) rfl rfl rfl dX2_find_42 ?_
    refine lv_icmp_ge (tgt := 109) hx hb dX2_find_43 (by decide) (fun hc43 => ?_) (fun hc43 => ?_)
    · have h := if_t h hc43
      refine lv_iconst (v := (-1 : Int32)) hx hb dX2_find_109 (by decide) ?_
      obtain rfl := Option.some.inj h
      exact ret_i X dX2_find_110 hP hD hS rfl
    · have h := if_f h hc43
      refine lv_aload_n hx hb dX2_find_46 rfl (lv_at hl 0 rfl) ?_
      refine va_get (D := E.1) (ci := 2) (v := .ref a_one) (C := RX2) (T := TX2) (N := 5) hx hb hts iX2_find_X2 hown hK hP 0 rfl rfl 0 (by decide) (hts (.fieldLink RX2 22 "LeftIsAgreedOn$Search" "one" "LLeftIsAgreedOn$Walker;") (List.mem_of_getElem? (i := 1) rfl)) (fun _ h9 => h9) rfl dX2_find_47 ?_
      refine lv_aload_n hx hb dX2_find_50 rfl (lv_at hl 0 rfl) ?_
      refine va_get (D := E.1) (ci := 2) (v := .ref a_oneStates) (C := RX2) (T := TX2) (N := 5) hx hb hts iX2_find_X2 hown hK hP 0 rfl rfl 2 (by decide) (hts (.fieldLink RX2 9 "LeftIsAgreedOn$Search" "oneStates" "[I") (List.mem_of_getElem? (i := 4) rfl)) (fun _ h9 => h9) rfl dX2_find_51 ?_
      refine lv_iload hx hb dX2_find_54 (lv_at hl 2 rfl) ?_
      obtain ⟨v1, hv1, h⟩ := bind_of h
      refine after_v X (run_S X (c_X2_grow l E a_one a_one_island a_one_island_ponds a_oneStates a_one_island_kinds a_one_island_weights a_one_island_cells a_one_island_faces a_one_island_pledges l5 c_one c_one_island c_one_island_ponds c_oneStates H.size v1 hv1) (va_cwS 3 hts gX2_find_X2_grow rfl rfl rfl hd_X2_grow ⟨(Nat.le_of_ble_eq_true rfl), (Nat.le_of_ble_eq_true rfl)⟩) hP hD hS [1, 2, 7, 8] rfl rfl hl.1 (rest := []) rfl rfl (Nat.le_of_ble_eq_true rfl) dX2_find_56) hP hD hS [1, 2, 7, 8] rfl (ws1 := (W_X2_find E a_t a_one a_one_island a_one_island_cells a_one_island_faces a_one_island_kinds a_one_island_pledges a_one_island_ponds a_oneStates a_two a_twoStates a_isReached a_one_island_weights (v1.1) c_one_island c_one_island_cells c_one_island_faces c_one_island_kinds c_one_island_pledges c_one_island_ponds (v1.2) c_two c_twoStates)) rfl (fun H locs hP hD hS => ?_)
      refine lv_aload_n hx hb dX2_find_59 rfl (lv_at hl 0 rfl) ?_
      refine va_get (D := E.1) (ci := 2) (v := .ref a_two) (C := RX2) (T := TX2) (N := 5) hx hb hts iX2_find_X2 hown hK hP 0 rfl rfl 1 (by decide) (hts (.fieldLink RX2 26 "LeftIsAgreedOn$Search" "two" "LLeftIsAgreedOn$Walker;") (List.mem_of_getElem? (i := 2) rfl)) (fun _ h9 => h9) rfl dX2_find_60 ?_
      refine lv_aload_n hx hb dX2_find_63 rfl (lv_at hl 0 rfl) ?_
      refine va_get (D := E.1) (ci := 2) (v := .ref a_twoStates) (C := RX2) (T := TX2) (N := 5) hx hb hts iX2_find_X2 hown hK hP 0 rfl rfl 3 (by decide) (hts (.fieldLink RX2 15 "LeftIsAgreedOn$Search" "twoStates" "[I") (List.mem_of_getElem? (i := 3) rfl)) (fun _ h9 => h9) rfl dX2_find_64 ?_
      refine lv_iload hx hb dX2_find_67 (lv_at hl 2 rfl) ?_
      obtain ⟨v2, hv2, h⟩ := bind_of h
      refine after_v X (run_S X (c_X2_grow l E a_two a_one_island a_one_island_ponds a_twoStates a_one_island_kinds a_one_island_weights a_one_island_cells a_one_island_faces a_one_island_pledges l5 c_two c_one_island c_one_island_ponds c_twoStates H.size v2 hv2) (va_cwS 3 hts gX2_find_X2_grow rfl rfl rfl hd_X2_grow ⟨(Nat.le_of_ble_eq_true rfl), (Nat.le_of_ble_eq_true rfl)⟩) hP hD hS [9, 2, 7, 10] rfl rfl hl.1 (rest := []) rfl rfl (Nat.le_of_ble_eq_true rfl) dX2_find_69) hP hD hS [9, 2, 7, 10] rfl (ws1 := (W_X2_find E a_t a_one a_one_island a_one_island_cells a_one_island_faces a_one_island_kinds a_one_island_pledges a_one_island_ponds a_oneStates a_two a_twoStates a_isReached a_one_island_weights (v1.1) c_one_island c_one_island_cells c_one_island_faces c_one_island_kinds c_one_island_pledges c_one_island_ponds (v1.2) (v2.1) (v2.2))) rfl (fun H locs hP hD hS => ?_)
      refine lv_aload_n hx hb dX2_find_72 rfl (lv_at hl 0 rfl) ?_
      refine va_get (D := E.1) (ci := 2) (v := .ref a_oneStates) (C := RX2) (T := TX2) (N := 5) hx hb hts iX2_find_X2 hown hK hP 0 rfl rfl 2 (by decide) (hts (.fieldLink RX2 9 "LeftIsAgreedOn$Search" "oneStates" "[I") (List.mem_of_getElem? (i := 4) rfl)) (fun _ h9 => h9) rfl dX2_find_73 ?_
      refine lv_iload hx hb dX2_find_76 (lv_at hl 2 rfl) ?_
      obtain ⟨hz78, h⟩ := chk_of h
      refine ld_i X hP 8 rfl (inb.vp hz78) (v := ((v1.2) (l5).toNatClampNeg)) rfl dX2_find_78 ?_
      obtain ⟨v3, hv3, h⟩ := bind_of h
      refine after_i X (run_S X (c_X4_cellOf l E ((v1.2) (l5).toNatClampNeg) H.size v3 hv3) (va_cwS 1 hts gX2_find_X4_cellOf rfl rfl rfl hd_X4_cellOf ⟨(Nat.le_of_ble_eq_true rfl), (Nat.le_of_ble_eq_true rfl)⟩) hP hD hS [] rfl rfl hl.1 (rest := []) rfl rfl (Nat.le_of_ble_eq_true rfl) dX2_find_79) hP hD hS [] rfl (ws1 := (W_X2_find E a_t a_one a_one_island a_one_island_cells a_one_island_faces a_one_island_kinds a_one_island_pledges a_one_island_ponds a_oneStates a_two a_twoStates a_isReached a_one_island_weights (v1.1) c_one_island c_one_island_cells c_one_island_faces c_one_island_kinds c_one_island_pledges c_one_island_ponds (v1.2) (v2.1) (v2.2))) rfl (fun H locs hP hD hS => ?_)
      refine lv_iload_n hx hb dX2_find_82 rfl (lv_at hl 1 rfl) ?_
      refine lv_icmp_ne (tgt := 103) hx hb dX2_find_83 (by decide) (fun hc83 => ?_) (fun hc83 => ?_)
      · have h := if_f h hc83
        exact w_X2_find_b103 X a_t a_one a_one_island a_one_island_cells a_one_island_faces a_one_island_kinds a_one_island_pledges a_one_island_ponds a_oneStates a_two a_twoStates a_isReached a_one_island_weights c_one_island c_one_island_cells c_one_island_faces c_one_island_kinds c_one_island_pledges c_one_island_ponds res (f_X2_find_b36 c_one_island c_one_island_cells c_one_island_faces c_one_island_kinds c_one_island_pledges c_one_island_ponds n) ih (v1.1) (v1.2) (v2.1) (v2.2) l2 l5 _ _ _ h hP hD hS (lv_sub hl [0, 1, 2] rfl)
      · have h := if_t h hc83
        refine lv_aload_n hx hb dX2_find_86 rfl (lv_at hl 0 rfl) ?_
        refine va_get (D := E.1) (ci := 2) (v := .ref a_twoStates) (C := RX2) (T := TX2) (N := 5) hx hb hts iX2_find_X2 hown hK hP 0 rfl rfl 3 (by decide) (hts (.fieldLink RX2 15 "LeftIsAgreedOn$Search" "twoStates" "[I") (List.mem_of_getElem? (i := 3) rfl)) (fun _ h9 => h9) rfl dX2_find_87 ?_
        refine lv_iload hx hb dX2_find_90 (lv_at hl 2 rfl) ?_
        obtain ⟨hz92, h⟩ := chk_of h
        refine ld_i X hP 10 rfl (inb.vp hz92) (v := ((v2.2) (l5).toNatClampNeg)) rfl dX2_find_92 ?_
        obtain ⟨v4, hv4, h⟩ := bind_of h
        refine after_i X (run_S X (c_X4_cellOf l E ((v2.2) (l5).toNatClampNeg) H.size v4 hv4) (va_cwS 1 hts gX2_find_X4_cellOf rfl rfl rfl hd_X4_cellOf ⟨(Nat.le_of_ble_eq_true rfl), (Nat.le_of_ble_eq_true rfl)⟩) hP hD hS [] rfl rfl hl.1 (rest := []) rfl rfl (Nat.le_of_ble_eq_true rfl) dX2_find_93) hP hD hS [] rfl (ws1 := (W_X2_find E a_t a_one a_one_island a_one_island_cells a_one_island_faces a_one_island_kinds a_one_island_pledges a_one_island_ponds a_oneStates a_two a_twoStates a_isReached a_one_island_weights (v1.1) c_one_island c_one_island_cells c_one_island_faces c_one_island_kinds c_one_island_pledges c_one_island_ponds (v1.2) (v2.1) (v2.2))) rfl (fun H locs hP hD hS => ?_)
        refine lv_iload_n hx hb dX2_find_96 rfl (lv_at hl 1 rfl) ?_
        refine lv_icmp_ne (tgt := 103) hx hb dX2_find_97 (by decide) (fun hc97 => ?_) (fun hc97 => ?_)
        · have h := if_f h hc97
          exact w_X2_find_b103 X a_t a_one a_one_island a_one_island_cells a_one_island_faces a_one_island_kinds a_one_island_pledges a_one_island_ponds a_oneStates a_two a_twoStates a_isReached a_one_island_weights c_one_island c_one_island_cells c_one_island_faces c_one_island_kinds c_one_island_pledges c_one_island_ponds res (f_X2_find_b36 c_one_island c_one_island_cells c_one_island_faces c_one_island_kinds c_one_island_pledges c_one_island_ponds n) ih (v1.1) (v1.2) (v2.1) (v2.2) l2 l5 _ _ _ h hP hD hS (lv_sub hl [0, 1, 2] rfl)
        · have h := if_t h hc97
          refine lv_iload hx hb dX2_find_100 (lv_at hl 2 rfl) ?_
          obtain rfl := Option.some.inj h
          exact ret_i X dX2_find_102 hP hD hS rfl
set_option maxRecDepth 100000 in
set_option maxHeartbeats 4000000 in
theorem w_X2_find (X : Ctx p m meth c cX2_find 6 ((some .int)) s args wsX2_find RX2 E A) (a_t : Nat) (a_one : Nat) (a_one_island : Nat) (a_one_island_cells : Nat) (a_one_island_faces : Nat) (a_one_island_kinds : Nat) (a_one_island_pledges : Nat) (a_one_island_ponds : Nat) (a_oneStates : Nat) (a_two : Nat) (a_twoStates : Nat) (a_isReached : Nat) (a_one_island_weights : Nat) (c_one_island : Nat → Int32) (c_one_island_cells : Nat → Int32) (c_one_island_faces : Nat → Int32) (c_one_island_kinds : Nat → Int32) (c_one_island_pledges : Nat → Int32) (c_one_island_ponds : Nat → Int32) (res : Int32 × (Nat → Int32) × (Nat → Int32) × (Nat → Int32) × (Nat → Int32)) (c_one : Nat → Int32) (c_oneStates : Nat → Int32) (c_two : Nat → Int32) (c_twoStates : Nat → Int32) (l1 : Int32) (l2 : Int32) (l3 : Int32) (l4 : Int32) (ls : Array Slot) (H : Heap) (locs : List Loc) (h : f_X2_find l1 l2 l3 l4 c_one c_one_island c_one_island_cells c_one_island_faces c_one_island_kinds c_one_island_pledges c_one_island_ponds c_oneStates c_two c_twoStates = some res) (hP : va_P E.1 vwCl (W_X2_find E a_t a_one a_one_island a_one_island_cells a_one_island_faces a_one_island_kinds a_one_island_pledges a_one_island_ponds a_oneStates a_two a_twoStates a_isReached a_one_island_weights c_one c_one_island c_one_island_cells c_one_island_faces c_one_island_kinds c_one_island_pledges c_one_island_ponds c_oneStates c_two c_twoStates) H) (hD : va_D A (W_X2_find E a_t a_one a_one_island a_one_island_cells a_one_island_faces a_one_island_kinds a_one_island_pledges a_one_island_ponds a_oneStates a_two a_twoStates a_isReached a_one_island_weights c_one c_one_island c_one_island_cells c_one_island_faces c_one_island_kinds c_one_island_pledges c_one_island_ponds c_oneStates c_two c_twoStates)) (hS : va_S A s.heap H locs) (hl : lv_has ls 6 [(0, .ref a_t), (1, .int l1), (2, .int l2), (3, .int l3), (4, .int l4)]) : W p l e r_X2_find s m args below meth c H locs 0 0 (MQ below (qI E A (res.1) (W_X2_find E a_t a_one a_one_island a_one_island_cells a_one_island_faces a_one_island_kinds a_one_island_pledges a_one_island_ponds a_oneStates a_two a_twoStates a_isReached a_one_island_weights (res.2.1) c_one_island c_one_island_cells c_one_island_faces c_one_island_kinds c_one_island_pledges c_one_island_ponds (res.2.2.1) (res.2.2.2.1) (res.2.2.2.2))) args s 0 0 A) (F0 m 0 ls []) := by
  obtain ⟨hx, hb, hml, hr, hlk, hown, hts, hG, hA⟩ := id X
  have hK := hG.1
  have hN := hG.2.1
  unfold f_X2_find at h
  refine lv_aload_n hx hb dX2_find_0 rfl (lv_at hl 0 rfl) ?_
  refine va_get (D := E.1) (ci := 2) (v := .ref a_one) (C := RX2) (T := TX2) (N := 5) hx hb hts iX2_find_X2 hown hK hP 0 rfl rfl 0 (by decide) (hts (.fieldLink RX2 22 "LeftIsAgreedOn$Search" "one" "LLeftIsAgreedOn$Walker;") (List.mem_of_getElem? (i := 1) rfl)) (fun _ h9 => h9) rfl dX2_find_1 ?_
  refine lv_iload_n hx hb dX2_find_4 rfl (lv_at hl 1 rfl) ?_
  obtain ⟨v1, hv1, h⟩ := bind_of h
  refine after_v X (run_V X (c_X4_begin l E a_one a_one_island a_one_island_cells a_one_island_faces a_one_island_kinds a_one_island_pledges a_one_island_ponds a_one_island_weights l1 c_one c_one_island c_one_island_cells c_one_island_faces c_one_island_kinds c_one_island_pledges H.size v1 hv1) (cwV 1 hts gX2_find_X4_begin rfl rfl rfl hV_X4_begin ⟨(Nat.le_of_ble_eq_true rfl), (Nat.le_of_ble_eq_true rfl)⟩) hP hD hS [1, 2, 3, 4, 5, 6] rfl rfl hl.1 (ci := 4) rfl rfl rfl (rest := []) rfl rfl (Nat.le_of_ble_eq_true rfl) dX2_find_5) hP hD hS [1, 2, 3, 4, 5, 6] rfl (ws1 := (W_X2_find E a_t a_one a_one_island a_one_island_cells a_one_island_faces a_one_island_kinds a_one_island_pledges a_one_island_ponds a_oneStates a_two a_twoStates a_isReached a_one_island_weights v1 c_one_island c_one_island_cells c_one_island_faces c_one_island_kinds c_one_island_pledges c_one_island_ponds c_oneStates c_two c_twoStates)) rfl (fun H locs hP hD hS => ?_)
  refine lv_aload_n hx hb dX2_find_8 rfl (lv_at hl 0 rfl) ?_
  refine va_get (D := E.1) (ci := 2) (v := .ref a_one) (C := RX2) (T := TX2) (N := 5) hx hb hts iX2_find_X2 hown hK hP 0 rfl rfl 0 (by decide) (hts (.fieldLink RX2 22 "LeftIsAgreedOn$Search" "one" "LLeftIsAgreedOn$Walker;") (List.mem_of_getElem? (i := 1) rfl)) (fun _ h9 => h9) rfl dX2_find_9 ?_
  refine lv_iload_n hx hb dX2_find_12 rfl (lv_at hl 3 rfl) ?_
  refine va_putN (D := E.1) (ci := 4) (v := .int l3) (ty := .int) (C := RX4) (T := TX4) (N := 11) hx hb hts iX2_find_X4 tyX4 tyX4_ok nmX4 hown hK hP hD hS 1 rfl rfl 2 (by decide) (va_Nw.use rfl (nF_26 hN)) (fun _ h9 => h9) rfl (tyX4_ok 2 (by decide)) rfl rfl (Nat.le_of_ble_eq_true rfl) dX2_find_13 (fun H locs hP hD hS => ?_)
  have hP : va_P E.1 vwCl (W_X2_find E a_t a_one a_one_island a_one_island_cells a_one_island_faces a_one_island_kinds a_one_island_pledges a_one_island_ponds a_oneStates a_two a_twoStates a_isReached a_one_island_weights (upd v1 2 l3) c_one_island c_one_island_cells c_one_island_faces c_one_island_kinds c_one_island_pledges c_one_island_ponds c_oneStates c_two c_twoStates) H := hP
  have hD : va_D A (W_X2_find E a_t a_one a_one_island a_one_island_cells a_one_island_faces a_one_island_kinds a_one_island_pledges a_one_island_ponds a_oneStates a_two a_twoStates a_isReached a_one_island_weights (upd v1 2 l3) c_one_island c_one_island_cells c_one_island_faces c_one_island_kinds c_one_island_pledges c_one_island_ponds c_oneStates c_two c_twoStates) := hD
  refine lv_aload_n hx hb dX2_find_16 rfl (lv_at hl 0 rfl) ?_
  refine va_get (D := E.1) (ci := 2) (v := .ref a_two) (C := RX2) (T := TX2) (N := 5) hx hb hts iX2_find_X2 hown hK hP 0 rfl rfl 1 (by decide) (hts (.fieldLink RX2 26 "LeftIsAgreedOn$Search" "two" "LLeftIsAgreedOn$Walker;") (List.mem_of_getElem? (i := 2) rfl)) (fun _ h9 => h9) rfl dX2_find_17 ?_
  refine lv_iload_n hx hb dX2_find_20 rfl (lv_at hl 1 rfl) ?_
  obtain ⟨v2, hv2, h⟩ := bind_of h
  refine after_v X (run_V X (c_X4_begin l E a_two a_one_island a_one_island_cells a_one_island_faces a_one_island_kinds a_one_island_pledges a_one_island_ponds a_one_island_weights l1 c_two c_one_island c_one_island_cells c_one_island_faces c_one_island_kinds c_one_island_pledges H.size v2 hv2) (cwV 1 hts gX2_find_X4_begin rfl rfl rfl hV_X4_begin ⟨(Nat.le_of_ble_eq_true rfl), (Nat.le_of_ble_eq_true rfl)⟩) hP hD hS [9, 2, 3, 4, 5, 6] rfl rfl hl.1 (ci := 4) rfl rfl rfl (rest := []) rfl rfl (Nat.le_of_ble_eq_true rfl) dX2_find_21) hP hD hS [9, 2, 3, 4, 5, 6] rfl (ws1 := (W_X2_find E a_t a_one a_one_island a_one_island_cells a_one_island_faces a_one_island_kinds a_one_island_pledges a_one_island_ponds a_oneStates a_two a_twoStates a_isReached a_one_island_weights (upd v1 2 l3) c_one_island c_one_island_cells c_one_island_faces c_one_island_kinds c_one_island_pledges c_one_island_ponds c_oneStates v2 c_twoStates)) rfl (fun H locs hP hD hS => ?_)
  refine lv_aload_n hx hb dX2_find_24 rfl (lv_at hl 0 rfl) ?_
  refine va_get (D := E.1) (ci := 2) (v := .ref a_two) (C := RX2) (T := TX2) (N := 5) hx hb hts iX2_find_X2 hown hK hP 0 rfl rfl 1 (by decide) (hts (.fieldLink RX2 26 "LeftIsAgreedOn$Search" "two" "LLeftIsAgreedOn$Walker;") (List.mem_of_getElem? (i := 2) rfl)) (fun _ h9 => h9) rfl dX2_find_25 ?_
  refine lv_iload hx hb dX2_find_28 (lv_at hl 4 rfl) ?_
  refine va_putN (D := E.1) (ci := 4) (v := .int l4) (ty := .int) (C := RX4) (T := TX4) (N := 11) hx hb hts iX2_find_X4 tyX4 tyX4_ok nmX4 hown hK hP hD hS 9 rfl rfl 2 (by decide) (va_Nw.use rfl (nF_26 hN)) (fun _ h9 => h9) rfl (tyX4_ok 2 (by decide)) rfl rfl (Nat.le_of_ble_eq_true rfl) dX2_find_30 (fun H locs hP hD hS => ?_)
  have hP : va_P E.1 vwCl (W_X2_find E a_t a_one a_one_island a_one_island_cells a_one_island_faces a_one_island_kinds a_one_island_pledges a_one_island_ponds a_oneStates a_two a_twoStates a_isReached a_one_island_weights (upd v1 2 l3) c_one_island c_one_island_cells c_one_island_faces c_one_island_kinds c_one_island_pledges c_one_island_ponds c_oneStates (upd v2 2 l4) c_twoStates) H := hP
  have hD : va_D A (W_X2_find E a_t a_one a_one_island a_one_island_cells a_one_island_faces a_one_island_kinds a_one_island_pledges a_one_island_ponds a_oneStates a_two a_twoStates a_isReached a_one_island_weights (upd v1 2 l3) c_one_island c_one_island_cells c_one_island_faces c_one_island_kinds c_one_island_pledges c_one_island_ponds c_oneStates (upd v2 2 l4) c_twoStates) := hD
  refine lv_iconst (v := (0 : Int32)) hx hb dX2_find_33 (by decide) ?_
  refine lv_istore (lv' := [(5, .int (0 : Int32)), (0, .ref a_t), (1, .int l1), (2, .int l2), (3, .int l3), (4, .int l4)]) hx hb dX2_find_34 hl (by decide) rfl (fun ls hl => ?_)
  exact w_X2_find_b36 X a_t a_one a_one_island a_one_island_cells a_one_island_faces a_one_island_kinds a_one_island_pledges a_one_island_ponds a_oneStates a_two a_twoStates a_isReached a_one_island_weights c_one_island c_one_island_cells c_one_island_faces c_one_island_kinds c_one_island_pledges c_one_island_ponds res FU (upd v1 2 l3) c_oneStates (upd v2 2 l4) c_twoStates l2 (0 : Int32) _ _ _ h hP hD hS (lv_sub hl [1, 3, 0] rfl)
end
set_option maxRecDepth 100000 in
theorem c_X2_find (l : Launch) (E : Env0) (a_t : Nat) (a_one : Nat) (a_one_island : Nat) (a_one_island_cells : Nat) (a_one_island_faces : Nat) (a_one_island_kinds : Nat) (a_one_island_pledges : Nat) (a_one_island_ponds : Nat) (a_oneStates : Nat) (a_two : Nat) (a_twoStates : Nat) (a_isReached : Nat) (a_one_island_weights : Nat) (l1 : Int32) (l2 : Int32) (l3 : Int32) (l4 : Int32) (c_one : Nat → Int32) (c_one_island : Nat → Int32) (c_one_island_cells : Nat → Int32) (c_one_island_faces : Nat → Int32) (c_one_island_kinds : Nat → Int32) (c_one_island_pledges : Nat → Int32) (c_one_island_ponds : Nat → Int32) (c_oneStates : Nat → Int32) (c_two : Nat → Int32) (c_twoStates : Nat → Int32) (sz : Nat) (res : Int32 × (Nat → Int32) × (Nat → Int32) × (Nat → Int32) × (Nat → Int32)) (h : f_X2_find l1 l2 l3 l4 c_one c_one_island c_one_island_cells c_one_island_faces c_one_island_kinds c_one_island_pledges c_one_island_ponds c_oneStates c_two c_twoStates = some res) : Met l yX2_find wsX2_find r_X2_find (cPre E [.ref a_t, .int l1, .int l2, .int l3, .int l4] (W_X2_find E a_t a_one a_one_island a_one_island_cells a_one_island_faces a_one_island_kinds a_one_island_pledges a_one_island_ponds a_oneStates a_two a_twoStates a_isReached a_one_island_weights c_one c_one_island c_one_island_cells c_one_island_faces c_one_island_kinds c_one_island_pledges c_one_island_ponds c_oneStates c_two c_twoStates) sz) (qI E (va_A (W_X2_find E a_t a_one a_one_island a_one_island_cells a_one_island_faces a_one_island_kinds a_one_island_pledges a_one_island_ponds a_oneStates a_two a_twoStates a_isReached a_one_island_weights c_one c_one_island c_one_island_cells c_one_island_faces c_one_island_kinds c_one_island_pledges c_one_island_ponds c_oneStates c_two c_twoStates) sz) (res.1) (W_X2_find E a_t a_one a_one_island a_one_island_cells a_one_island_faces a_one_island_kinds a_one_island_pledges a_one_island_ponds a_oneStates a_two a_twoStates a_isReached a_one_island_weights (res.2.1) c_one_island c_one_island_cells c_one_island_faces c_one_island_kinds c_one_island_pledges c_one_island_ponds (res.2.2.1) (res.2.2.2.1) (res.2.2.2.2))) 0 0 (va_A (W_X2_find E a_t a_one a_one_island a_one_island_cells a_one_island_faces a_one_island_kinds a_one_island_pledges a_one_island_ponds a_oneStates a_two a_twoStates a_isReached a_one_island_weights c_one c_one_island c_one_island_cells c_one_island_faces c_one_island_kinds c_one_island_pledges c_one_island_ponds c_oneStates c_two c_twoStates) sz) :=
  met_of (Qc := fun A => qI E A (res.1) (W_X2_find E a_t a_one a_one_island a_one_island_cells a_one_island_faces a_one_island_kinds a_one_island_pledges a_one_island_ponds a_oneStates a_two a_twoStates a_isReached a_one_island_weights (res.2.1) c_one_island c_one_island_cells c_one_island_faces c_one_island_kinds c_one_island_pledges c_one_island_ponds (res.2.2.1) (res.2.2.2.1) (res.2.2.2.2))) (by decide) rfl (Nat.le_of_ble_eq_true rfl) (fun p e s m args below meth c X hP hD hS ls hl => w_X2_find X a_t a_one a_one_island a_one_island_cells a_one_island_faces a_one_island_kinds a_one_island_pledges a_one_island_ponds a_oneStates a_two a_twoStates a_isReached a_one_island_weights c_one_island c_one_island_cells c_one_island_faces c_one_island_kinds c_one_island_pledges c_one_island_ponds res c_one c_oneStates c_two c_twoStates l1 l2 l3 l4 ls _ _ h hP hD hS hl)
-- ===== X2_countReached
noncomputable abbrev W_X2_countReached (E : Env0) (a_t : Nat) (a_isReached : Nat) (a_one : Nat) (a_one_island : Nat) (a_one_island_cells : Nat) (a_one_island_faces : Nat) (a_one_island_kinds : Nat) (a_one_island_pledges : Nat) (a_one_island_ponds : Nat) (a_oneStates : Nat) (a_two : Nat) (a_twoStates : Nat) (a_one_island_weights : Nat) (c_isReached : Nat → Int32) (c_one : Nat → Int32) (c_one_island : Nat → Int32) (c_one_island_cells : Nat → Int32) (c_one_island_faces : Nat → Int32) (c_one_island_kinds : Nat → Int32) (c_one_island_pledges : Nat → Int32) (c_one_island_ponds : Nat → Int32) (c_oneStates : Nat → Int32) : va_W := [(a_t, .inr (2, [.ref a_one, .ref a_two, .ref a_oneStates, .ref a_twoStates, .ref a_isReached])), (a_isReached, .inl (eZ E, 70, .inl c_isReached)), (a_one, .inr (4, [.ref a_one_island, .int (c_one 1), .int (c_one 2), .int (c_one 3), .int (c_one 4), .int (c_one 5), .int (c_one 6), .int (c_one 7), .int (c_one 8), .int (c_one 9), .int (c_one 10)])), (a_one_island, .inr (0, [.int (c_one_island 0), .int (c_one_island 1), .int (c_one_island 2), .int (c_one_island 3), .int (c_one_island 4), .int (c_one_island 5), .int (c_one_island 6), .int (c_one_island 7), .ref a_one_island_ponds, .ref a_one_island_kinds, .ref a_one_island_weights, .ref a_one_island_cells, .ref a_one_island_faces, .ref a_one_island_pledges])), (a_one_island_cells, .inl (eI E, 8, .inl c_one_island_cells)), (a_one_island_faces, .inl (eI E, 8, .inl c_one_island_faces)), (a_one_island_kinds, .inl (eI E, 8, .inl c_one_island_kinds)), (a_one_island_pledges, .inl (eI E, 8, .inl c_one_island_pledges)), (a_one_island_ponds, .inl (eZ E, 70, .inl c_one_island_ponds)), (a_oneStates, .inl (eI E, 1093, .inl c_oneStates))]
noncomputable abbrev r_X2_countReached : Room := { frames := 5, cells := 0, slots := 0, locals := 113 }
theorem hd_X2_countReached : yX2_countReached.cls ≠ "java/lang/invoke/MethodHandle" ∧ yX2_countReached.cls ≠ "java/lang/invoke/VarHandle" ∧ (parseMethodDescriptor yX2_countReached.desc).map (fun d => d.parameters.length) = some 2 := by decide +kernel
theorem hV_X2_countReached : yX2_countReached.cls = RX2 ∧ yX2_countReached.cls ≠ "java/lang/invoke/MethodHandle" ∧ yX2_countReached.cls ≠ "java/lang/invoke/VarHandle" ∧ (parseMethodDescriptor yX2_countReached.desc).map (fun d => d.parameters.length) = some 2 := ⟨rfl, hd_X2_countReached⟩
theorem iX2_countReached_X2 : ∀ w ∈ wsX20, w ∈ wsX2_countReached := fun _ h => List.mem_cons_of_mem _ (List.mem_append_left _ (List.mem_append_left _ (List.mem_append_right _ (h))))
section
variable {p : Program} {l : Launch} {e : Env} {s : State} {m : MethodId} {args : Array Value} {below : List Frame} {meth : Method} {c : Code} {E : Env0} {A : Nat → Prop}
set_option maxRecDepth 100000 in
set_option maxHeartbeats 4000000 in
theorem w_X2_countReached_b118 (X : Ctx p m meth c cX2_countReached 7 ((some .int)) s args wsX2_countReached RX2 E A) (a_t : Nat) (a_isReached : Nat) (a_one : Nat) (a_one_island : Nat) (a_one_island_cells : Nat) (a_one_island_faces : Nat) (a_one_island_kinds : Nat) (a_one_island_pledges : Nat) (a_one_island_ponds : Nat) (a_oneStates : Nat) (a_two : Nat) (a_twoStates : Nat) (a_one_island_weights : Nat) (c_one_island : Nat → Int32) (c_one_island_cells : Nat → Int32) (c_one_island_faces : Nat → Int32) (c_one_island_kinds : Nat → Int32) (c_one_island_pledges : Nat → Int32) (c_one_island_ponds : Nat → Int32) (res : Int32 × (Nat → Int32) × (Nat → Int32) × (Nat → Int32)) (k55 : (Nat → Int32) → (Nat → Int32) → (Nat → Int32) → Int32 → Int32 → Int32 → Option (Int32 × (Nat → Int32) × (Nat → Int32) × (Nat → Int32))) (hk55 : ∀ (c_isReached : Nat → Int32) (c_one : Nat → Int32) (c_oneStates : Nat → Int32) (l3 : Int32) (l4 : Int32) (l5 : Int32) (ls : Array Slot) (H : Heap) (locs : List Loc), k55 c_isReached c_one c_oneStates l3 l4 l5 = some res → va_P E.1 vwCl (W_X2_countReached E a_t a_isReached a_one a_one_island a_one_island_cells a_one_island_faces a_one_island_kinds a_one_island_pledges a_one_island_ponds a_oneStates a_two a_twoStates a_one_island_weights c_isReached c_one c_one_island c_one_island_cells c_one_island_faces c_one_island_kinds c_one_island_pledges c_one_island_ponds c_oneStates) H → va_D A (W_X2_countReached E a_t a_isReached a_one a_one_island a_one_island_cells a_one_island_faces a_one_island_kinds a_one_island_pledges a_one_island_ponds a_oneStates a_two a_twoStates a_one_island_weights c_isReached c_one c_one_island c_one_island_cells c_one_island_faces c_one_island_kinds c_one_island_pledges c_one_island_ponds c_oneStates) → va_S A s.heap H locs → lv_has ls 7 [(0, .ref a_t), (3, .int l3), (4, .int l4), (5, .int l5)] → W p l e r_X2_countReached s m args below meth c H locs 0 0 (MQ below (qI E A (res.1) (W_X2_countReached E a_t a_isReached a_one a_one_island a_one_island_cells a_one_island_faces a_one_island_kinds a_one_island_pledges a_one_island_ponds a_oneStates a_two a_twoStates a_one_island_weights (res.2.1) (res.2.2.1) c_one_island c_one_island_cells c_one_island_faces c_one_island_kinds c_one_island_pledges c_one_island_ponds (res.2.2.2))) args s 0 0 A) (F0 m 55 ls [])) (c_isReached : Nat → Int32) (c_one : Nat → Int32) (c_oneStates : Nat → Int32) (l3 : Int32) (l4 : Int32) (l5 : Int32) (ls : Array Slot) (H : Heap) (locs : List Loc) (h : f_X2_countReached_b118 c_one_island c_one_island_cells c_one_island_faces c_one_island_kinds c_one_island_pledges c_one_island_ponds k55 c_isReached c_one c_oneStates l3 l4 l5 = some res) (hP : va_P E.1 vwCl (W_X2_countReached E a_t a_isReached a_one a_one_island a_one_island_cells a_one_island_faces a_one_island_kinds a_one_island_pledges a_one_island_ponds a_oneStates a_two a_twoStates a_one_island_weights c_isReached c_one c_one_island c_one_island_cells c_one_island_faces c_one_island_kinds c_one_island_pledges c_one_island_ponds c_oneStates) H) (hD : va_D A (W_X2_countReached E a_t a_isReached a_one a_one_island a_one_island_cells a_one_island_faces a_one_island_kinds a_one_island_pledges a_one_island_ponds a_oneStates a_two a_twoStates a_one_island_weights c_isReached c_one c_one_island c_one_island_cells c_one_island_faces c_one_island_kinds c_one_island_pledges c_one_island_ponds c_oneStates)) (hS : va_S A s.heap H locs) (hl : lv_has ls 7 [(0, .ref a_t), (3, .int l3), (4, .int l4), (5, .int l5)]) : W p l e r_X2_countReached s m args below meth c H locs 0 0 (MQ below (qI E A (res.1) (W_X2_countReached E a_t a_isReached a_one a_one_island a_one_island_cells a_one_island_faces a_one_island_kinds a_one_island_pledges a_one_island_ponds a_oneStates a_two a_twoStates a_one_island_weights (res.2.1) (res.2.2.1) c_one_island c_one_island_cells c_one_island_faces c_one_island_kinds c_one_island_pledges c_one_island_ponds (res.2.2.2))) args s 0 0 A) (F0 m 118 ls []) := by
  obtain ⟨hx, hb, hml, hr, hlk, hown, hts, hG, hA⟩ := id X
  have hK := hG.1
  have hN := hG.2.1
  unfold f_X2_countReached_b118 at h
  refine lv_iinc (v := (l5 + (1 : Int32))) (lv' := [(5, .int (l5 + (1 : Int32))), (0, .ref a_t), (3, .int l3), (4, .int l4)]) hx hb dX2_countReached_118 hl (k := 3) rfl rfl (by decide) rfl (fun ls hl => ?_)
  refine lv_goto (tgt := 55) hx hb dX2_countReached_121 (by decide) ?_
  exact hk55 c_isReached c_one c_oneStates l3 l4 (l5 + (1 : Int32)) _ _ _ h hP hD hS (lv_sub hl [1, 2, 3, 0] rfl)
set_option maxRecDepth 100000 in
set_option maxHeartbeats 4000000 in
theorem w_X2_countReached_b55 (X : Ctx p m meth c cX2_countReached 7 ((some .int)) s args wsX2_countReached RX2 E A) (a_t : Nat) (a_isReached : Nat) (a_one : Nat) (a_one_island : Nat) (a_one_island_cells : Nat) (a_one_island_faces : Nat) (a_one_island_kinds : Nat) (a_one_island_pledges : Nat) (a_one_island_ponds : Nat) (a_oneStates : Nat) (a_two : Nat) (a_twoStates : Nat) (a_one_island_weights : Nat) (c_one_island : Nat → Int32) (c_one_island_cells : Nat → Int32) (c_one_island_faces : Nat → Int32) (c_one_island_kinds : Nat → Int32) (c_one_island_pledges : Nat → Int32) (c_one_island_ponds : Nat → Int32) (res : Int32 × (Nat → Int32) × (Nat → Int32) × (Nat → Int32)) : ∀ (n : Nat) (c_isReached : Nat → Int32) (c_one : Nat → Int32) (c_oneStates : Nat → Int32) (l3 : Int32) (l4 : Int32) (l5 : Int32) (ls : Array Slot) (H : Heap) (locs : List Loc), f_X2_countReached_b55 c_one_island c_one_island_cells c_one_island_faces c_one_island_kinds c_one_island_pledges c_one_island_ponds n c_isReached c_one c_oneStates l3 l4 l5 = some res → va_P E.1 vwCl (W_X2_countReached E a_t a_isReached a_one a_one_island a_one_island_cells a_one_island_faces a_one_island_kinds a_one_island_pledges a_one_island_ponds a_oneStates a_two a_twoStates a_one_island_weights c_isReached c_one c_one_island c_one_island_cells c_one_island_faces c_one_island_kinds c_one_island_pledges c_one_island_ponds c_oneStates) H → va_D A (W_X2_countReached E a_t a_isReached a_one a_one_island a_one_island_cells a_one_island_faces a_one_island_kinds a_one_island_pledges a_one_island_ponds a_oneStates a_two a_twoStates a_one_island_weights c_isReached c_one c_one_island c_one_island_cells c_one_island_faces c_one_island_kinds c_one_island_pledges c_one_island_ponds c_oneStates) → va_S A s.heap H locs → lv_has ls 7 [(0, .ref a_t), (3, .int l3), (4, .int l4), (5, .int l5)] → W p l e r_X2_countReached s m args below meth c H locs 0 0 (MQ below (qI E A (res.1) (W_X2_countReached E a_t a_isReached a_one a_one_island a_one_island_cells a_one_island_faces a_one_island_kinds a_one_island_pledges a_one_island_ponds a_oneStates a_two a_twoStates a_one_island_weights (res.2.1) (res.2.2.1) c_one_island c_one_island_cells c_one_island_faces c_one_island_kinds c_one_island_pledges c_one_island_ponds (res.2.2.2))) args s 0 0 A) (F0 m 55 ls []) := by
  obtain ⟨hx, hb, hml, hr, hlk, hown, hts, hG, hA⟩ := id X
  have hK := hG.1
  have hN := hG.2.1
  intro n
  induction n with
  | zero =>
    intro c_isReached c_one c_oneStates l3 l4 l5 ls H locs h
    exact absurd (show (none : Option (Int32 × (Nat → Int32) × (Nat → Int32) × (Nat → Int32))) = some res from h) (by intro q; cases q)
  | succ n ih =>
    intro c_isReached c_one c_oneStates l3 l4 l5 ls H locs h hP hD hS hl
    rw [f_X2_countReached_b55] at h
    refine lv_iload hx hb dX2_countReached_55 (lv_at hl 3 rfl) ?_
    refine lv_iload_n hx hb dX2_countReached_57 rfl (lv_at hl 1 rfl) ?_
    refine lv_icmp_ge (tgt := 124) hx hb dX2_countReached_58 (by decide) (fun hc58 => ?_) (fun hc58 => ?_)
    · have h := if_t h hc58
      refine lv_iload hx hb dX2_countReached_124 (lv_at hl 2 rfl) ?_
      obtain rfl := Option.some.inj h
      exact ret_i X dX2_countReached_126 hP hD hS rfl
    · have h := if_f h hc58
      refine lv_aload_n hx hb dX2_countReached_61 rfl (lv_at hl 0 rfl) ?_
      refine va_get (D := E.1) (ci := 2) (v := .ref a_one) (C := RX2) (T := TX2) (N := 5) hx hb hts iX2_countReached_X2 hown hK hP 0 rfl rfl 0 (by decide) (hts (.fieldLink RX2 22 "LeftIsAgreedOn$Search" "one" "LLeftIsAgreedOn$Walker;") (List.mem_of_getElem? (i := 2) rfl)) (fun _ h9 => h9) rfl dX2_countReached_62 ?_
      refine lv_aload_n hx hb dX2_countReached_65 rfl (lv_at hl 0 rfl) ?_
      refine va_get (D := E.1) (ci := 2) (v := .ref a_oneStates) (C := RX2) (T := TX2) (N := 5) hx hb hts iX2_countReached_X2 hown hK hP 0 rfl rfl 2 (by decide) (hts (.fieldLink RX2 9 "LeftIsAgreedOn$Search" "oneStates" "[I") (List.mem_of_getElem? (i := 4) rfl)) (fun _ h9 => h9) rfl dX2_countReached_66 ?_
      refine lv_iload hx hb dX2_countReached_69 (lv_at hl 3 rfl) ?_
      obtain ⟨v1, hv1, h⟩ := bind_of h
      refine after_v X (run_S X (c_X2_grow l E a_one a_one_island a_one_island_ponds a_oneStates a_one_island_kinds a_one_island_weights a_one_island_cells a_one_island_faces a_one_island_pledges l5 c_one c_one_island c_one_island_ponds c_oneStates H.size v1 hv1) (va_cwS 3 hts gX2_countReached_X2_grow rfl rfl rfl hd_X2_grow ⟨(Nat.le_of_ble_eq_true rfl), (Nat.le_of_ble_eq_true rfl)⟩) hP hD hS [2, 3, 8, 9] rfl rfl hl.1 (rest := []) rfl rfl (Nat.le_of_ble_eq_true rfl) dX2_countReached_71) hP hD hS [2, 3, 8, 9] rfl (ws1 := (W_X2_countReached E a_t a_isReached a_one a_one_island a_one_island_cells a_one_island_faces a_one_island_kinds a_one_island_pledges a_one_island_ponds a_oneStates a_two a_twoStates a_one_island_weights c_isReached (v1.1) c_one_island c_one_island_cells c_one_island_faces c_one_island_kinds c_one_island_pledges c_one_island_ponds (v1.2))) rfl (fun H locs hP hD hS => ?_)
      refine lv_aload_n hx hb dX2_countReached_74 rfl (lv_at hl 0 rfl) ?_
      refine va_get (D := E.1) (ci := 2) (v := .ref a_oneStates) (C := RX2) (T := TX2) (N := 5) hx hb hts iX2_countReached_X2 hown hK hP 0 rfl rfl 2 (by decide) (hts (.fieldLink RX2 9 "LeftIsAgreedOn$Search" "oneStates" "[I") (List.mem_of_getElem? (i := 4) rfl)) (fun _ h9 => h9) rfl dX2_countReached_75 ?_
      refine lv_iload hx hb dX2_countReached_78 (lv_at hl 3 rfl) ?_
      obtain ⟨hz80, h⟩ := chk_of h
      refine ld_i X hP 9 rfl (inb.vp hz80) (v := ((v1.2) (l5).toNatClampNeg)) rfl dX2_countReached_80 ?_
      obtain ⟨v2, hv2, h⟩ := bind_of h
      refine after_i X (run_S X (c_X4_cellOf l E ((v1.2) (l5).toNatClampNeg) H.size v2 hv2) (va_cwS 1 hts gX2_countReached_X4_cellOf rfl rfl rfl hd_X4_cellOf ⟨(Nat.le_of_ble_eq_true rfl), (Nat.le_of_ble_eq_true rfl)⟩) hP hD hS [] rfl rfl hl.1 (rest := []) rfl rfl (Nat.le_of_ble_eq_true rfl) dX2_countReached_81) hP hD hS [] rfl (ws1 := (W_X2_countReached E a_t a_isReached a_one a_one_island a_one_island_cells a_one_island_faces a_one_island_kinds a_one_island_pledges a_one_island_ponds a_oneStates a_two a_twoStates a_one_island_weights c_isReached (v1.1) c_one_island c_one_island_cells c_one_island_faces c_one_island_kinds c_one_island_pledges c_one_island_ponds (v1.2))) rfl (fun H locs hP hD hS => ?_)
      refine lv_istore (lv' := [(6, .int v2), (0, .ref a_t), (3, .int l3), (4, .int l4), (5, .int l5)]) hx hb dX2_countReached_84 hl (by decide) rfl (fun ls hl => ?_)
      refine lv_iload hx hb dX2_countReached_86 (lv_at hl 0 rfl) ?_
      refine lv_iconst (v := (0 : Int32)) hx hb dX2_countReached_88 (by decide) ?_
      refine lv_bipush (v := (69 : Int32)) hx hb dX2_countReached_89 (by decide) ?_
      obtain ⟨v3, hv3, h⟩ := bind_of h
      refine after_i X (run_SN X (c_X5_isWithin l E v2 (0 : Int32) (69 : Int32) H.size v3 hv3) ⟨va_cnB 3 hts gX2_countReached_X5_isWithin_n47 rfl rfl rfl (nM_5 hN) (hts (.initialized RX5) (List.mem_of_getElem? (i := 28) rfl)) hd_X5_isWithin ⟨(Nat.le_of_ble_eq_true rfl), (Nat.le_of_ble_eq_true rfl)⟩, (hts (.static yX5_isWithin) (List.mem_of_getElem? (i := 27) rfl)), trivial⟩ hP hD hS [] rfl rfl hl.1 (rest := []) rfl rfl (Nat.le_of_ble_eq_true rfl) dX2_countReached_91) hP hD hS [] rfl (ws1 := (W_X2_countReached E a_t a_isReached a_one a_one_island a_one_island_cells a_one_island_faces a_one_island_kinds a_one_island_pledges a_one_island_ponds a_oneStates a_two a_twoStates a_one_island_weights c_isReached (v1.1) c_one_island c_one_island_cells c_one_island_faces c_one_island_kinds c_one_island_pledges c_one_island_ponds (v1.2))) rfl (fun H locs hP hD hS => ?_)
      refine lv_if_eq (tgt := 118) hx hb dX2_countReached_94 (by decide) (fun hc94 => ?_) (fun hc94 => ?_)
      · have h := if_t h hc94
        exact w_X2_countReached_b118 X a_t a_isReached a_one a_one_island a_one_island_cells a_one_island_faces a_one_island_kinds a_one_island_pledges a_one_island_ponds a_oneStates a_two a_twoStates a_one_island_weights c_one_island c_one_island_cells c_one_island_faces c_one_island_kinds c_one_island_pledges c_one_island_ponds res (f_X2_countReached_b55 c_one_island c_one_island_cells c_one_island_faces c_one_island_kinds c_one_island_pledges c_one_island_ponds n) ih c_isReached (v1.1) (v1.2) l3 l4 l5 _ _ _ h hP hD hS (lv_sub hl [1, 2, 3, 4] rfl)
      · have h := if_f h hc94
        refine lv_aload_n hx hb dX2_countReached_97 rfl (lv_at hl 1 rfl) ?_
        refine va_get (D := E.1) (ci := 2) (v := .ref a_isReached) (C := RX2) (T := TX2) (N := 5) hx hb hts iX2_countReached_X2 hown hK hP 0 rfl rfl 4 (by decide) (hts (.fieldLink RX2 18 "LeftIsAgreedOn$Search" "isReached" "[Z") (List.mem_of_getElem? (i := 1) rfl)) (fun _ h9 => h9) rfl dX2_countReached_98 ?_
        refine lv_iload hx hb dX2_countReached_101 (lv_at hl 0 rfl) ?_
        obtain ⟨hz103, h⟩ := chk_of h
        refine ld_z X hP 1 rfl (inb.vp hz103) (v := (c_isReached (v2).toNatClampNeg)) rfl dX2_countReached_103 ?_
        refine lv_if_ne (tgt := 118) hx hb dX2_countReached_104 (by decide) (fun hc104 => ?_) (fun hc104 => ?_)
        · have h := if_f h hc104
          exact w_X2_countReached_b118 X a_t a_isReached a_one a_one_island a_one_island_cells a_one_island_faces a_one_island_kinds a_one_island_pledges a_one_island_ponds a_oneStates a_two a_twoStates a_one_island_weights c_one_island c_one_island_cells c_one_island_faces c_one_island_kinds c_one_island_pledges c_one_island_ponds res (f_X2_countReached_b55 c_one_island c_one_island_cells c_one_island_faces c_one_island_kinds c_one_island_pledges c_one_island_ponds n) ih c_isReached (v1.1) (v1.2) l3 l4 l5 _ _ _ h hP hD hS (lv_sub hl [1, 2, 3, 4] rfl)
        · have h := if_t h hc104
          refine lv_aload_n hx hb dX2_countReached_107 rfl (lv_at hl 1 rfl) ?_
          refine va_get (D := E.1) (ci := 2) (v := .ref a_isReached) (C := RX2) (T := TX2) (N := 5) hx hb hts iX2_countReached_X2 hown hK hP 0 rfl rfl 4 (by decide) (hts (.fieldLink RX2 18 "LeftIsAgreedOn$Search" "isReached" "[Z") (List.mem_of_getElem? (i := 1) rfl)) (fun _ h9 => h9) rfl dX2_countReached_108 ?_
          refine lv_iload hx hb dX2_countReached_111 (lv_at hl 0 rfl) ?_
          refine lv_iconst (v := (1 : Int32)) hx hb dX2_countReached_113 (by decide) ?_
          obtain ⟨hz114, h⟩ := chk_of h
          refine st_z X hP hD hS 1 rfl (inb.vp hz114) (k := (v2).toNatClampNeg) rfl (ws1 := (W_X2_countReached E a_t a_isReached a_one a_one_island a_one_island_cells a_one_island_faces a_one_island_kinds a_one_island_pledges a_one_island_ponds a_oneStates a_two a_twoStates a_one_island_weights (upd c_isReached ((v2).toNatClampNeg) (vp_nar .boolean (1 : Int32))) (v1.1) c_one_island c_one_island_cells c_one_island_faces c_one_island_kinds c_one_island_pledges c_one_island_ponds (v1.2))) rfl dX2_countReached_114 (fun H locs hP hD hS => ?_)
          refine lv_iinc (v := (l4 + (1 : Int32))) (lv' := [(4, .int (l4 + (1 : Int32))), (6, .int v2), (0, .ref a_t), (3, .int l3), (5, .int l5)]) hx hb dX2_countReached_115 hl (k := 3) rfl rfl (by decide) rfl (fun ls hl => ?_)
          exact w_X2_countReached_b118 X a_t a_isReached a_one a_one_island a_one_island_cells a_one_island_faces a_one_island_kinds a_one_island_pledges a_one_island_ponds a_oneStates a_two a_twoStates a_one_island_weights c_one_island c_one_island_cells c_one_island_faces c_one_island_kinds c_one_island_pledges c_one_island_ponds res (f_X2_countReached_b55 c_one_island c_one_island_cells c_one_island_faces c_one_island_kinds c_one_island_pledges c_one_island_ponds n) ih (upd c_isReached ((v2).toNatClampNeg) (vp_nar .boolean (1 : Int32))) (v1.1) (v1.2) l3 (l4 + (1 : Int32)) l5 _ _ _ h hP hD hS (lv_sub hl [2, 3, 0, 4] rfl)
set_option maxRecDepth 100000 in
set_option maxHeartbeats 4000000 in
theorem w_X2_countReached_b48 (X : Ctx p m meth c cX2_countReached 7 ((some .int)) s args wsX2_countReached RX2 E A) (a_t : Nat) (a_isReached : Nat) (a_one : Nat) (a_one_island : Nat) (a_one_island_cells : Nat) (a_one_island_faces : Nat) (a_one_island_kinds : Nat) (a_one_island_pledges : Nat) (a_one_island_ponds : Nat) (a_oneStates : Nat) (a_two : Nat) (a_twoStates : Nat) (a_one_island_weights : Nat) (c_one_island : Nat → Int32) (c_one_island_cells : Nat → Int32) (c_one_island_faces : Nat → Int32) (c_one_island_kinds : Nat → Int32) (c_one_island_pledges : Nat → Int32) (c_one_island_ponds : Nat → Int32) (res : Int32 × (Nat → Int32) × (Nat → Int32) × (Nat → Int32)) (c_isReached : Nat → Int32) (c_one : Nat → Int32) (c_oneStates : Nat → Int32) (s0 : Int32) (ls : Array Slot) (H : Heap) (locs : List Loc) (h : f_X2_countReached_b48 c_one_island c_one_island_cells c_one_island_faces c_one_island_kinds c_one_island_pledges c_one_island_ponds c_isReached c_one c_oneStates s0 = some res) (hP : va_P E.1 vwCl (W_X2_countReached E a_t a_isReached a_one a_one_island a_one_island_cells a_one_island_faces a_one_island_kinds a_one_island_pledges a_one_island_ponds a_oneStates a_two a_twoStates a_one_island_weights c_isReached c_one c_one_island c_one_island_cells c_one_island_faces c_one_island_kinds c_one_island_pledges c_one_island_ponds c_oneStates) H) (hD : va_D A (W_X2_countReached E a_t a_isReached a_one a_one_island a_one_island_cells a_one_island_faces a_one_island_kinds a_one_island_pledges a_one_island_ponds a_oneStates a_two a_twoStates a_one_island_weights c_isReached c_one c_one_island c_one_island_cells c_one_island_faces c_one_island_kinds c_one_island_pledges c_one_island_ponds c_oneStates)) (hS : va_S A s.heap H locs) (hl : lv_has ls 7 [(0, .ref a_t)]) : W p l e r_X2_countReached s m args below meth c H locs 0 0 (MQ below (qI E A (res.1) (W_X2_countReached E a_t a_isReached a_one a_one_island a_one_island_cells a_one_island_faces a_one_island_kinds a_one_island_pledges a_one_island_ponds a_oneStates a_two a_twoStates a_one_island_weights (res.2.1) (res.2.2.1) c_one_island c_one_island_cells c_one_island_faces c_one_island_kinds c_one_island_pledges c_one_island_ponds (res.2.2.2))) args s 0 0 A) (F0 m 48 ls [.int s0]) := by
  obtain ⟨hx, hb, hml, hr, hlk, hown, hts, hG, hA⟩ := id X
  have hK := hG.1
  have hN := hG.2.1
  unfold f_X2_countReached_b48 at h
  refine lv_istore_n (lv' := [(3, .int s0), (0, .ref a_t)]) hx hb dX2_countReached_48 rfl hl (by decide) rfl (fun ls hl => ?_)
  refine lv_iconst (v := (0 : Int32)) hx hb dX2_countReached_49 (by decide) ?_
  refine lv_istore (lv' := [(4, .int (0 : Int32)), (3, .int s0), (0, .ref a_t)]) hx hb dX2_countReached_50 hl (by decide) rfl (fun ls hl => ?_)
  refine lv_iconst (v := (0 : Int32)) hx hb dX2_countReached_52 (by decide) ?_
  refine lv_istore (lv' := [(5, .int (0 : Int32)), (4, .int (0 : Int32)), (3, .int s0), (0, .ref a_t)]) hx hb dX2_countReached_53 hl (by decide) rfl (fun ls hl => ?_)
  exact w_X2_countReached_b55 X a_t a_isReached a_one a_one_island a_one_island_cells a_one_island_faces a_one_island_kinds a_one_island_pledges a_one_island_ponds a_oneStates a_two a_twoStates a_one_island_weights c_one_island c_one_island_cells c_one_island_faces c_one_island_kinds c_one_island_pledges c_one_island_ponds res FU c_isReached c_one c_oneStates s0 (0 : Int32) (0 : Int32) _ _ _ h hP hD hS (lv_sub hl [3, 2, 1, 0] rfl)
set_option maxRecDepth 100000 in
set_option maxHeartbeats 4000000 in
theorem w_X2_countReached_b2 (X : Ctx p m meth c cX2_countReached 7 ((some .int)) s args wsX2_countReached RX2 E A) (a_t : Nat) (a_isReached : Nat) (a_one : Nat) (a_one_island : Nat) (a_one_island_cells : Nat) (a_one_island_faces : Nat) (a_one_island_kinds : Nat) (a_one_island_pledges : Nat) (a_one_island_ponds : Nat) (a_oneStates : Nat) (a_two : Nat) (a_twoStates : Nat) (a_one_island_weights : Nat) (c_one_island : Nat → Int32) (c_one_island_cells : Nat → Int32) (c_one_island_faces : Nat → Int32) (c_one_island_kinds : Nat → Int32) (c_one_island_pledges : Nat → Int32) (c_one_island_ponds : Nat → Int32) (res : Int32 × (Nat → Int32) × (Nat → Int32) × (Nat → Int32)) : ∀ (n : Nat) (c_isReached : Nat → Int32) (c_one : Nat → Int32) (c_oneStates : Nat → Int32) (l1 : Int32) (l2 : Int32) (l3 : Int32) (ls : Array Slot) (H : Heap) (locs : List Loc), f_X2_countReached_b2 c_one_island c_one_island_cells c_one_island_faces c_one_island_kinds c_one_island_pledges c_one_island_ponds n c_isReached c_one c_oneStates l1 l2 l3 = some res → va_P E.1 vwCl (W_X2_countReached E a_t a_isReached a_one a_one_island a_one_island_cells a_one_island_faces a_one_island_kinds a_one_island_pledges a_one_island_ponds a_oneStates a_two a_twoStates a_one_island_weights c_isReached c_one c_one_island c_one_island_cells c_one_island_faces c_one_island_kinds c_one_island_pledges c_one_island_ponds c_oneStates) H → va_D A (W_X2_countReached E a_t a_isReached a_one a_one_island a_one_island_cells a_one_island_faces a_one_island_kinds a_one_island_pledges a_one_island_ponds a_oneStates a_two a_twoStates a_one_island_weights c_isReached c_one c_one_island c_one_island_cells c_one_island_faces c_one_island_kinds c_one_island_pledges c_one_island_ponds c_oneStates) → va_S A s.heap H locs → lv_has ls 7 [(0, .ref a_t), (1, .int l1), (2, .int l2), (3, .int l3)] → W p l e r_X2_countReached s m args below meth c H locs 0 0 (MQ below (qI E A (res.1) (W_X2_countReached E a_t a_isReached a_one a_one_island a_one_island_cells a_one_island_faces a_one_island_kinds a_one_island_pledges a_one_island_ponds a_oneStates a_two a_twoStates a_one_island_weights (res.2.1) (res.2.2.1) c_one_island c_one_island_cells c_one_island_faces c_one_island_kinds c_one_island_pledges c_one_island_ponds (res.2.2.2))) args s 0 0 A) (F0 m 2 ls []) := by
  obtain ⟨hx, hb, hml, hr, hlk, hown, hts, hG, hA⟩ := id X
  have hK := hG.1
  have hN := hG.2.1
  intro n
  induction n with
  | zero =>
    intro c_isReached c_one c_oneStates l1 l2 l3 ls H locs h
    exact absurd (show (none : Option (Int32 × (Nat → Int32) × (Nat → Int32) × (Nat → Int32))) = some res from h) (by intro q; cases q)
  | succ n ih =>
    intro c_isReached c_one c_oneStates l1 l2 l3 ls H locs h hP hD hS hl
    rw [f_X2_countReached_b2] at h
    refine lv_iload_n hx hb dX2_countReached_2 rfl (lv_at hl 3 rfl) ?_
    refine lv_bipush (v := (70 : Int32)) hx hb dX2_countReached_3 (by decide) ?_
    refine lv_icmp_ge (tgt := 21) hx hb dX2_countReached_5 (by decide) (fun hc5 => ?_) (fun hc5 => ?_)
    · have h := if_t h hc5
      refine lv_aload_n hx hb dX2_countReached_21 rfl (lv_at hl 0 rfl) ?_
      refine va_get (D := E.1) (ci := 2) (v := .ref a_one) (C := RX2) (T := TX2) (N := 5) hx hb hts iX2_countReached_X2 hown hK hP 0 rfl rfl 0 (by decide) (hts (.fieldLink RX2 22 "LeftIsAgreedOn$Search" "one" "LLeftIsAgreedOn$Walker;") (List.mem_of_getElem? (i := 2) rfl)) (fun _ h9 => h9) rfl dX2_countReached_22 ?_
      refine lv_iload_n hx hb dX2_countReached_25 rfl (lv_at hl 1 rfl) ?_
      obtain ⟨v1, hv1, h⟩ := bind_of h
      refine after_v X (run_V X (c_X4_begin l E a_one a_one_island a_one_island_cells a_one_island_faces a_one_island_kinds a_one_island_pledges a_one_island_ponds a_one_island_weights l1 c_one c_one_island c_one_island_cells c_one_island_faces c_one_island_kinds c_one_island_pledges H.size v1 hv1) (cwV 1 hts gX2_countReached_X4_begin rfl rfl rfl hV_X4_begin ⟨(Nat.le_of_ble_eq_true rfl), (Nat.le_of_ble_eq_true rfl)⟩) hP hD hS [2, 3, 4, 5, 6, 7] rfl rfl hl.1 (ci := 4) rfl rfl rfl (rest := []) rfl rfl (Nat.le_of_ble_eq_true rfl) dX2_countReached_26) hP hD hS [2, 3, 4, 5, 6, 7] rfl (ws1 := (W_X2_countReached E a_t a_isReached a_one a_one_island a_one_island_cells a_one_island_faces a_one_island_kinds a_one_island_pledges a_one_island_ponds a_oneStates a_two a_twoStates a_one_island_weights c_isReached v1 c_one_island c_one_island_cells c_one_island_faces c_one_island_kinds c_one_island_pledges c_one_island_ponds c_oneStates)) rfl (fun H locs hP hD hS => ?_)
      refine lv_iload_n hx hb dX2_countReached_29 rfl (lv_at hl 2 rfl) ?_
      refine lv_iconst (v := (0 : Int32)) hx hb dX2_countReached_30 (by decide) ?_
      refine lv_bipush (v := (6 : Int32)) hx hb dX2_countReached_31 (by decide) ?_
      obtain ⟨v2, hv2, h⟩ := bind_of h
      refine after_i X (run_SN X (c_X5_isWithin l E l2 (0 : Int32) (6 : Int32) H.size v2 hv2) ⟨va_cnB 3 hts gX2_countReached_X5_isWithin_n47 rfl rfl rfl (nM_5 hN) (hts (.initialized RX5) (List.mem_of_getElem? (i := 28) rfl)) hd_X5_isWithin ⟨(Nat.le_of_ble_eq_true rfl), (Nat.le_of_ble_eq_true rfl)⟩, (hts (.static yX5_isWithin) (List.mem_of_getElem? (i := 27) rfl)), trivial⟩ hP hD hS [] rfl rfl hl.1 (rest := []) rfl rfl (Nat.le_of_ble_eq_true rfl) dX2_countReached_33) hP hD hS [] rfl (ws1 := (W_X2_countReached E a_t a_isReached a_one a_one_island a_one_island_cells a_one_island_faces a_one_island_kinds a_one_island_pledges a_one_island_ponds a_oneStates a_two a_twoStates a_one_island_weights c_isReached v1 c_one_island c_one_island_cells c_one_island_faces c_one_island_kinds c_one_island_pledges c_one_island_ponds c_oneStates)) rfl (fun H locs hP hD hS => ?_)
      refine lv_if_eq (tgt := 47) hx hb dX2_countReached_36 (by decide) (fun hc36 => ?_) (fun hc36 => ?_)
      · have h := if_t h hc36
        refine lv_iconst (v := (0 : Int32)) hx hb dX2_countReached_47 (by decide) ?_
        exact w_X2_countReached_b48 X a_t a_isReached a_one a_one_island a_one_island_cells a_one_island_faces a_one_island_kinds a_one_island_pledges a_one_island_ponds a_oneStates a_two a_twoStates a_one_island_weights c_one_island c_one_island_cells c_one_island_faces c_one_island_kinds c_one_island_pledges c_one_island_ponds res c_isReached v1 c_oneStates (0 : Int32) _ _ _ h hP hD hS (lv_sub hl [0] rfl)
      · have h := if_f h hc36
        refine va_gets hx hb (hG.2.2.1.2.1).1 hS hown (hts (.fieldLink RX2 51 "LeftIsAgreedOn$Search" "NODES" "[I") (List.mem_of_getElem? (i := 3) rfl)) (fun _ h9 => h9) dX2_countReached_39 ?_
        refine lv_iload_n hx hb dX2_countReached_42 rfl (lv_at hl 2 rfl) ?_
        obtain ⟨hz43, h⟩ := chk_of h
        refine va_ti hx hb (hG.2.2.1.2.1).2 hS (inb.vp hz43) (v := .int (sNODES (l2).toNatClampNeg)) rfl dX2_countReached_43 ?_
        refine lv_goto (tgt := 48) hx hb dX2_countReached_44 (by decide) ?_
        exact w_X2_countReached_b48 X a_t a_isReached a_one a_one_island a_one_island_cells a_one_island_faces a_one_island_kinds a_one_island_pledges a_one_island_ponds a_oneStates a_two a_twoStates a_one_island_weights c_one_island c_one_island_cells c_one_island_faces c_one_island_kinds c_one_island_pledges c_one_island_ponds res c_isReached v1 c_oneStates (sNODES (l2).toNatClampNeg) _ _ _ h hP hD hS (lv_sub hl [0] rfl)
    · have h := if_f h hc5
      refine lv_aload_n hx hb dX2_countReached_8 rfl (lv_at hl 0 rfl) ?_
      refine va_get (D := E.1) (ci := 2) (v := .ref a_isReached) (C := RX2) (T := TX2) (N := 5) hx hb hts iX2_countReached_X2 hown hK hP 0 rfl rfl 4 (by decide) (hts (.fieldLink RX2 18 "LeftIsAgreedOn$Search" "isReached" "[Z") (List.mem_of_getElem? (i := 1) rfl)) (fun _ h9 => h9) rfl dX2_countReached_9 ?_
      refine lv_iload_n hx hb dX2_countReached_12 rfl (lv_at hl 3 rfl) ?_
      refine lv_iconst (v := (0 : Int32)) hx hb dX2_countReached_13 (by decide) ?_
      obtain ⟨hz14, h⟩ := chk_of h
      refine st_z X hP hD hS 1 rfl (inb.vp hz14) (k := (l3).toNatClampNeg) rfl (ws1 := (W_X2_countReached E a_t a_isReached a_one a_one_island a_one_island_cells a_one_island_faces a_one_island_kinds a_one_island_pledges a_one_island_ponds a_oneStates a_two a_twoStates a_one_island_weights (upd c_isReached ((l3).toNatClampNeg) (vp_nar .boolean (0 : Int32))) c_one c_one_island c_one_island_cells c_one_island_faces c_one_island_kinds c_one_island_pledges c_one_island_ponds c_oneStates)) rfl dX2_countReached_14 (fun H locs hP hD hS => ?_)
      refine lv_iinc (v := (l3 + (1 : Int32))) (lv' := [(3, .int (l3 + (1 : Int32))), (0, .ref a_t), (1, .int l1), (2, .int l2)]) hx hb dX2_countReached_15 hl (k := 3) rfl rfl (by decide) rfl (fun ls hl => ?_)
      refine lv_goto (tgt := 2) hx hb dX2_countReached_18 (by decide) ?_
      exact ih (upd c_isReached ((l3).toNatClampNeg) (vp_nar .boolean (0 : Int32))) c_one c_oneStates l1 l2 (l3 + (1 : Int32)) _ _ _ h hP hD hS (lv_sub hl [1, 2, 3, 0] rfl)
set_option maxRecDepth 100000 in
set_option maxHeartbeats 4000000 in
theorem w_X2_countReached (X : Ctx p m meth c cX2_countReached 7 ((some .int)) s args wsX2_countReached RX2 E A) (a_t : Nat) (a_isReached : Nat) (a_one : Nat) (a_one_island : Nat) (a_one_island_cells : Nat) (a_one_island_faces : Nat) (a_one_island_kinds : Nat) (a_one_island_pledges : Nat) (a_one_island_ponds : Nat) (a_oneStates : Nat) (a_two : Nat) (a_twoStates : Nat) (a_one_island_weights : Nat) (c_one_island : Nat → Int32) (c_one_island_cells : Nat → Int32) (c_one_island_faces : Nat → Int32) (c_one_island_kinds : Nat → Int32) (c_one_island_pledges : Nat → Int32) (c_one_island_ponds : Nat → Int32) (res : Int32 × (Nat → Int32) × (Nat → Int32) × (Nat → Int32)) (c_isReached : Nat → Int32) (c_one : Nat → Int32) (c_oneStates : Nat → Int32) (l1 : Int32) (l2 : Int32) (ls : Array Slot) (H : Heap) (locs : List Loc) (h : f_X2_countReached l1 l2 c_isReached c_one c_one_island c_one_island_cells c_one_island_faces c_one_island_kinds c_one_island_pledges c_one_island_ponds c_oneStates = some res) (hP : va_P E.1 vwCl (W_X2_countReached E a_t a_isReached a_one a_one_island a_one_island_cells a_one_island_faces a_one_island_kinds a_one_island_pledges a_one_island_ponds a_oneStates a_two a_twoStates a_one_island_weights c_isReached c_one c_one_island c_one_island_cells c_one_island_faces c_one_island_kinds c_one_island_pledges c_one_island_ponds c_oneStates) H) (hD : va_D A (W_X2_countReached E a_t a_isReached a_one a_one_island a_one_island_cells a_one_island_faces a_one_island_kinds a_one_island_pledges a_one_island_ponds a_oneStates a_two a_twoStates a_one_island_weights c_isReached c_one c_one_island c_one_island_cells c_one_island_faces c_one_island_kinds c_one_island_pledges c_one_island_ponds c_oneStates)) (hS : va_S A s.heap H locs) (hl : lv_has ls 7 [(0, .ref a_t), (1, .int l1), (2, .int l2)]) : W p l e r_X2_countReached s m args below meth c H locs 0 0 (MQ below (qI E A (res.1) (W_X2_countReached E a_t a_isReached a_one a_one_island a_one_island_cells a_one_island_faces a_one_island_kinds a_one_island_pledges a_one_island_ponds a_oneStates a_two a_twoStates a_one_island_weights (res.2.1) (res.2.2.1) c_one_island c_one_island_cells c_one_island_faces c_one_island_kinds c_one_island_pledges c_one_island_ponds (res.2.2.2))) args s 0 0 A) (F0 m 0 ls []) := by
  obtain ⟨hx, hb, hml, hr, hlk, hown, hts, hG, hA⟩ := id X
  have hK := hG.1
  have hN := hG.2.1
  unfold f_X2_countReached at h
  refine lv_iconst (v := (0 : Int32)) hx hb dX2_countReached_0 (by decide) ?_
  refine lv_istore_n (lv' := [(3, .int (0 : Int32)), (0, .ref a_t), (1, .int l1), (2, .int l2)]) hx hb dX2_countReached_1 rfl hl (by decide) rfl (fun ls hl => ?_)
  exact w_X2_countReached_b2 X a_t a_isReached a_one a_one_island a_one_island_cells a_one_island_faces a_one_island_kinds a_one_island_pledges a_one_island_ponds a_oneStates a_two a_twoStates a_one_island_weights c_one_island c_one_island_cells c_one_island_faces c_one_island_kinds c_one_island_pledges c_one_island_ponds res FU c_isReached c_one c_oneStates l1 l2 (0 : Int32) _ _ _ h hP hD hS (lv_sub hl [1, 2, 3, 0] rfl)
end
set_option maxRecDepth 100000 in
theorem c_X2_countReached (l : Launch) (E : Env0) (a_t : Nat) (a_isReached : Nat) (a_one : Nat) (a_one_island : Nat) (a_one_island_cells : Nat) (a_one_island_faces : Nat) (a_one_island_kinds : Nat) (a_one_island_pledges : Nat) (a_one_island_ponds : Nat) (a_oneStates : Nat) (a_two : Nat) (a_twoStates : Nat) (a_one_island_weights : Nat) (l1 : Int32) (l2 : Int32) (c_isReached : Nat → Int32) (c_one : Nat → Int32) (c_one_island : Nat → Int32) (c_one_island_cells : Nat → Int32) (c_one_island_faces : Nat → Int32) (c_one_island_kinds : Nat → Int32) (c_one_island_pledges : Nat → Int32) (c_one_island_ponds : Nat → Int32) (c_oneStates : Nat → Int32) (sz : Nat) (res : Int32 × (Nat → Int32) × (Nat → Int32) × (Nat → Int32)) (h : f_X2_countReached l1 l2 c_isReached c_one c_one_island c_one_island_cells c_one_island_faces c_one_island_kinds c_one_island_pledges c_one_island_ponds c_oneStates = some res) : Met l yX2_countReached wsX2_countReached r_X2_countReached (cPre E [.ref a_t, .int l1, .int l2] (W_X2_countReached E a_t a_isReached a_one a_one_island a_one_island_cells a_one_island_faces a_one_island_kinds a_one_island_pledges a_one_island_ponds a_oneStates a_two a_twoStates a_one_island_weights c_isReached c_one c_one_island c_one_island_cells c_one_island_faces c_one_island_kinds c_one_island_pledges c_one_island_ponds c_oneStates) sz) (qI E (va_A (W_X2_countReached E a_t a_isReached a_one a_one_island a_one_island_cells a_one_island_faces a_one_island_kinds a_one_island_pledges a_one_island_ponds a_oneStates a_two a_twoStates a_one_island_weights c_isReached c_one c_one_island c_one_island_cells c_one_island_faces c_one_island_kinds c_one_island_pledges c_one_island_ponds c_oneStates) sz) (res.1) (W_X2_countReached E a_t a_isReached a_one a_one_island a_one_island_cells a_one_island_faces a_one_island_kinds a_one_island_pledges a_one_island_ponds a_oneStates a_two a_twoStates a_one_island_weights (res.2.1) (res.2.2.1) c_one_island c_one_island_cells c_one_island_faces c_one_island_kinds c_one_island_pledges c_one_island_ponds (res.2.2.2))) 0 0 (va_A (W_X2_countReached E a_t a_isReached a_one a_one_island a_one_island_cells a_one_island_faces a_one_island_kinds a_one_island_pledges a_one_island_ponds a_oneStates a_two a_twoStates a_one_island_weights c_isReached c_one c_one_island c_one_island_cells c_one_island_faces c_one_island_kinds c_one_island_pledges c_one_island_ponds c_oneStates) sz) :=
  met_of (Qc := fun A => qI E A (res.1) (W_X2_countReached E a_t a_isReached a_one a_one_island a_one_island_cells a_one_island_faces a_one_island_kinds a_one_island_pledges a_one_island_ponds a_oneStates a_two a_twoStates a_one_island_weights (res.2.1) (res.2.2.1) c_one_island c_one_island_cells c_one_island_faces c_one_island_kinds c_one_island_pledges c_one_island_ponds (res.2.2.2))) (by decide) rfl (Nat.le_of_ble_eq_true rfl) (fun p e s m args below meth c X hP hD hS ls hl => w_X2_countReached X a_t a_isReached a_one a_one_island a_one_island_cells a_one_island_faces a_one_island_kinds a_one_island_pledges a_one_island_ponds a_oneStates a_two a_twoStates a_one_island_weights c_one_island c_one_island_cells c_one_island_faces c_one_island_kinds c_one_island_pledges c_one_island_ponds res c_isReached c_one c_oneStates l1 l2 ls _ _ h hP hD hS hl)
-- ===== X2_signsTo
noncomputable abbrev W_X2_signsTo (E : Env0) (a_t : Nat) (a_one : Nat) (a_two : Nat) (a_oneStates : Nat) (a_twoStates : Nat) (a_isReached : Nat) : va_W := [(a_t, .inr (2, [.ref a_one, .ref a_two, .ref a_oneStates, .ref a_twoStates, .ref a_isReached]))]
noncomputable abbrev r_X2_signsTo : Room := { frames := 0, cells := 0, slots := 0, locals := 0 }
theorem hd_X2_signsTo : yX2_signsTo.cls ≠ "java/lang/invoke/MethodHandle" ∧ yX2_signsTo.cls ≠ "java/lang/invoke/VarHandle" ∧ (parseMethodDescriptor yX2_signsTo.desc).map (fun d => d.parameters.length) = some 1 := by decide +kernel
theorem hV_X2_signsTo : yX2_signsTo.cls = RX2 ∧ yX2_signsTo.cls ≠ "java/lang/invoke/MethodHandle" ∧ yX2_signsTo.cls ≠ "java/lang/invoke/VarHandle" ∧ (parseMethodDescriptor yX2_signsTo.desc).map (fun d => d.parameters.length) = some 1 := ⟨rfl, hd_X2_signsTo⟩
section
variable {p : Program} {l : Launch} {e : Env} {s : State} {m : MethodId} {args : Array Value} {below : List Frame} {meth : Method} {c : Code} {E : Env0} {A : Nat → Prop}
set_option maxRecDepth 100000 in
set_option maxHeartbeats 4000000 in
theorem w_X2_signsTo_b2 (X : Ctx p m meth c cX2_signsTo 3 ((some .int)) s args wsX2_signsTo RX2 E A) (a_t : Nat) (a_one : Nat) (a_two : Nat) (a_oneStates : Nat) (a_twoStates : Nat) (a_isReached : Nat) (res : Int32) : ∀ (n : Nat) (l1 : Int32) (l2 : Int32) (ls : Array Slot) (H : Heap) (locs : List Loc), f_X2_signsTo_b2 n l1 l2 = some res → va_P E.1 vwCl (W_X2_signsTo E a_t a_one a_two a_oneStates a_twoStates a_isReached) H → va_D A (W_X2_signsTo E a_t a_one a_two a_oneStates a_twoStates a_isReached) → va_S A s.heap H locs → lv_has ls 3 [(1, .int l1), (2, .int l2)] → W p l e r_X2_signsTo s m args below meth c H locs 0 0 (MQ below (qI E A res (W_X2_signsTo E a_t a_one a_two a_oneStates a_twoStates a_isReached)) args s 0 0 A) (F0 m 2 ls []) := by
  obtain ⟨hx, hb, hml, hr, hlk, hown, hts, hG, hA⟩ := id X
  have hK := hG.1
  have hN := hG.2.1
  intro n
  induction n with
  | zero =>
    intro l1 l2 ls H locs h
    exact absurd (show (none : Option (Int32)) = some res from h) (by intro q; cases q)
  | succ n ih =>
    intro l1 l2 ls H locs h hP hD hS hl
    rw [f_X2_signsTo_b2] at h
    refine lv_iload_n hx hb dX2_signsTo_2 rfl (lv_at hl 1 rfl) ?_
    refine lv_bipush (v := (6 : Int32)) hx hb dX2_signsTo_3 (by decide) ?_
    refine lv_icmp_ge (tgt := 23) hx hb dX2_signsTo_5 (by decide) (fun hc5 => ?_) (fun hc5 => ?_)
    · have h := if_t h hc5
      refine lv_iload_n hx hb dX2_signsTo_23 rfl (lv_at hl 1 rfl) ?_
      obtain rfl := Option.some.inj h
      exact ret_i X dX2_signsTo_24 hP hD hS rfl
    · have h := if_f h hc5
      refine lv_iload_n hx hb dX2_signsTo_8 rfl (lv_at hl 0 rfl) ?_
      refine va_gets hx hb (hG.2.2.1.2.1).1 hS hown (hts (.fieldLink RX2 51 "LeftIsAgreedOn$Search" "NODES" "[I") (List.mem_of_getElem? (i := 1) rfl)) (fun _ h9 => h9) dX2_signsTo_9 ?_
      refine lv_iload_n hx hb dX2_signsTo_12 rfl (lv_at hl 1 rfl) ?_
      obtain ⟨hz13, h⟩ := chk_of h
      refine va_ti hx hb (hG.2.2.1.2.1).2 hS (inb.vp hz13) (v := .int (sNODES (l2).toNatClampNeg)) rfl dX2_signsTo_13 ?_
      refine lv_icmp_lt (tgt := 23) hx hb dX2_signsTo_14 (by decide) (fun hc14 => ?_) (fun hc14 => ?_)
      · have h := if_t h hc14
        refine lv_iload_n hx hb dX2_signsTo_23 rfl (lv_at hl 1 rfl) ?_
        obtain rfl := Option.some.inj h
        exact ret_i X dX2_signsTo_24 hP hD hS rfl
      · have h := if_f h hc14
        refine lv_iinc (v := (l2 + (1 : Int32))) (lv' := [(2, .int (l2 + (1 : Int32))), (1, .int l1)]) hx hb dX2_signsTo_17 hl (k := 1) rfl rfl (by decide) rfl (fun ls hl => ?_)
        refine lv_goto (tgt := 2) hx hb dX2_signsTo_20 (by decide) ?_
        exact ih l1 (l2 + (1 : Int32)) _ _ _ h hP hD hS (lv_sub hl [1, 0] rfl)
set_option maxRecDepth 100000 in
set_option maxHeartbeats 4000000 in
theorem w_X2_signsTo (X : Ctx p m meth c cX2_signsTo 3 ((some .int)) s args wsX2_signsTo RX2 E A) (a_t : Nat) (a_one : Nat) (a_two : Nat) (a_oneStates : Nat) (a_twoStates : Nat) (a_isReached : Nat) (res : Int32) (l1 : Int32) (ls : Array Slot) (H : Heap) (locs : List Loc) (h : f_X2_signsTo l1 = some res) (hP : va_P E.1 vwCl (W_X2_signsTo E a_t a_one a_two a_oneStates a_twoStates a_isReached) H) (hD : va_D A (W_X2_signsTo E a_t a_one a_two a_oneStates a_twoStates a_isReached)) (hS : va_S A s.heap H locs) (hl : lv_has ls 3 [(0, .ref a_t), (1, .int l1)]) : W p l e r_X2_signsTo s m args below meth c H locs 0 0 (MQ below (qI E A res (W_X2_signsTo E a_t a_one a_two a_oneStates a_twoStates a_isReached)) args s 0 0 A) (F0 m 0 ls []) := by
  obtain ⟨hx, hb, hml, hr, hlk, hown, hts, hG, hA⟩ := id X
  have hK := hG.1
  have hN := hG.2.1
  unfold f_X2_signsTo at h
  refine lv_iconst (v := (0 : Int32)) hx hb dX2_signsTo_0 (by decide) ?_
  refine lv_istore_n (lv' := [(2, .int (0 : Int32)), (0, .ref a_t), (1, .int l1)]) hx hb dX2_signsTo_1 rfl hl (by decide) rfl (fun ls hl => ?_)
  exact w_X2_signsTo_b2 X a_t a_one a_two a_oneStates a_twoStates a_isReached res FU l1 (0 : Int32) _ _ _ h hP hD hS (lv_sub hl [2, 0] rfl)
end
set_option maxRecDepth 100000 in
theorem c_X2_signsTo (l : Launch) (E : Env0) (a_t : Nat) (a_one : Nat) (a_two : Nat) (a_oneStates : Nat) (a_twoStates : Nat) (a_isReached : Nat) (l1 : Int32) (sz : Nat) (res : Int32) (h : f_X2_signsTo l1 = some res) : Met l yX2_signsTo wsX2_signsTo r_X2_signsTo (cPre E [.ref a_t, .int l1] (W_X2_signsTo E a_t a_one a_two a_oneStates a_twoStates a_isReached) sz) (qI E (va_A (W_X2_signsTo E a_t a_one a_two a_oneStates a_twoStates a_isReached) sz) res (W_X2_signsTo E a_t a_one a_two a_oneStates a_twoStates a_isReached)) 0 0 (va_A (W_X2_signsTo E a_t a_one a_two a_oneStates a_twoStates a_isReached) sz) :=
  met_of (Qc := fun A => qI E A res (W_X2_signsTo E a_t a_one a_two a_oneStates a_twoStates a_isReached)) (by decide) rfl (Nat.le_of_ble_eq_true rfl) (fun p e s m args below meth c X hP hD hS ls hl => w_X2_signsTo X a_t a_one a_two a_oneStates a_twoStates a_isReached res l1 ls _ _ h hP hD hS hl)
-- ===== X2_signOf
noncomputable abbrev W_X2_signOf (E : Env0) (a_t : Nat) (a_one : Nat) (a_two : Nat) (a_oneStates : Nat) (a_twoStates : Nat) (a_isReached : Nat) : va_W := [(a_t, .inr (2, [.ref a_one, .ref a_two, .ref a_oneStates, .ref a_twoStates, .ref a_isReached]))]
noncomputable abbrev r_X2_signOf : Room := { frames := 0, cells := 0, slots := 0, locals := 0 }
theorem hd_X2_signOf : yX2_signOf.cls ≠ "java/lang/invoke/MethodHandle" ∧ yX2_signOf.cls ≠ "java/lang/invoke/VarHandle" ∧ (parseMethodDescriptor yX2_signOf.desc).map (fun d => d.parameters.length) = some 2 := by decide +kernel
theorem hV_X2_signOf : yX2_signOf.cls = RX2 ∧ yX2_signOf.cls ≠ "java/lang/invoke/MethodHandle" ∧ yX2_signOf.cls ≠ "java/lang/invoke/VarHandle" ∧ (parseMethodDescriptor yX2_signOf.desc).map (fun d => d.parameters.length) = some 2 := ⟨rfl, hd_X2_signOf⟩
section
variable {p : Program} {l : Launch} {e : Env} {s : State} {m : MethodId} {args : Array Value} {below : List Frame} {meth : Method} {c : Code} {E : Env0} {A : Nat → Prop}
set_option maxRecDepth 100000 in
set_option maxHeartbeats 4000000 in
theorem w_X2_signOf_b27 (X : Ctx p m meth c cX2_signOf 5 ((some .int)) s args wsX2_signOf RX2 E A) (a_t : Nat) (a_one : Nat) (a_two : Nat) (a_oneStates : Nat) (a_twoStates : Nat) (a_isReached : Nat) (res : Int32) (l3 : Int32) (ls : Array Slot) (H : Heap) (locs : List Loc) (h : f_X2_signOf_b27 l3 = some res) (hP : va_P E.1 vwCl (W_X2_signOf E a_t a_one a_two a_oneStates a_twoStates a_isReached) H) (hD : va_D A (W_X2_signOf E a_t a_one a_two a_oneStates a_twoStates a_isReached)) (hS : va_S A s.heap H locs) (hl : lv_has ls 5 [(3, .int l3)]) : W p l e r_X2_signOf s m args below meth c H locs 0 0 (MQ below (qI E A res (W_X2_signOf E a_t a_one a_two a_oneStates a_twoStates a_isReached)) args s 0 0 A) (F0 m 27 ls []) := by
  obtain ⟨hx, hb, hml, hr, hlk, hown, hts, hG, hA⟩ := id X
  have hK := hG.1
  have hN := hG.2.1
  unfold f_X2_signOf_b27 at h
  refine lv_iload_n hx hb dX2_signOf_27 rfl (lv_at hl 0 rfl) ?_
  refine lv_if_le (tgt := 39) hx hb dX2_signOf_28 (by decide) (fun hc28 => ?_) (fun hc28 => ?_)
  · have h := if_t h hc28
    refine lv_iconst (v := (0 : Int32)) hx hb dX2_signOf_39 (by decide) ?_
    obtain rfl := Option.some.inj h
    exact ret_i X dX2_signOf_40 hP hD hS rfl
  · have h := if_f h hc28
    refine lv_iload_n hx hb dX2_signOf_31 rfl (lv_at hl 0 rfl) ?_
    refine lv_iconst (v := (1 : Int32)) hx hb dX2_signOf_32 (by decide) ?_
    refine lv_isub hx hb dX2_signOf_33 ?_
    refine lv_iconst (v := (3 : Int32)) hx hb dX2_signOf_34 (by decide) ?_
    refine lv_irem hx hb dX2_signOf_35 (by decide) ?_
    refine lv_goto (tgt := 40) hx hb dX2_signOf_36 (by decide) ?_
    obtain rfl := Option.some.inj h
    exact ret_i X dX2_signOf_40 hP hD hS rfl
set_option maxRecDepth 100000 in
set_option maxHeartbeats 4000000 in
theorem w_X2_signOf_b5 (X : Ctx p m meth c cX2_signOf 5 ((some .int)) s args wsX2_signOf RX2 E A) (a_t : Nat) (a_one : Nat) (a_two : Nat) (a_oneStates : Nat) (a_twoStates : Nat) (a_isReached : Nat) (res : Int32) : ∀ (n : Nat) (l2 : Int32) (l3 : Int32) (l4 : Int32) (ls : Array Slot) (H : Heap) (locs : List Loc), f_X2_signOf_b5 n l2 l3 l4 = some res → va_P E.1 vwCl (W_X2_signOf E a_t a_one a_two a_oneStates a_twoStates a_isReached) H → va_D A (W_X2_signOf E a_t a_one a_two a_oneStates a_twoStates a_isReached) → va_S A s.heap H locs → lv_has ls 5 [(2, .int l2), (3, .int l3), (4, .int l4)] → W p l e r_X2_signOf s m args below meth c H locs 0 0 (MQ below (qI E A res (W_X2_signOf E a_t a_one a_two a_oneStates a_twoStates a_isReached)) args s 0 0 A) (F0 m 5 ls []) := by
  obtain ⟨hx, hb, hml, hr, hlk, hown, hts, hG, hA⟩ := id X
  have hK := hG.1
  have hN := hG.2.1
  intro n
  induction n with
  | zero =>
    intro l2 l3 l4 ls H locs h
    exact absurd (show (none : Option (Int32)) = some res from h) (by intro q; cases q)
  | succ n ih =>
    intro l2 l3 l4 ls H locs h hP hD hS hl
    rw [f_X2_signOf_b5] at h
    refine lv_iload hx hb dX2_signOf_5 (lv_at hl 2 rfl) ?_
    refine lv_iload_n hx hb dX2_signOf_7 rfl (lv_at hl 0 rfl) ?_
    refine lv_icmp_ge (tgt := 27) hx hb dX2_signOf_8 (by decide) (fun hc8 => ?_) (fun hc8 => ?_)
    · have h := if_t h hc8
      exact w_X2_signOf_b27 X a_t a_one a_two a_oneStates a_twoStates a_isReached res l3 _ _ _ h hP hD hS (lv_sub hl [1] rfl)
    · have h := if_f h hc8
      refine lv_iload_n hx hb dX2_signOf_11 rfl (lv_at hl 1 rfl) ?_
      refine lv_if_le (tgt := 27) hx hb dX2_signOf_12 (by decide) (fun hc12 => ?_) (fun hc12 => ?_)
      · have h := if_t h hc12
        exact w_X2_signOf_b27 X a_t a_one a_two a_oneStates a_twoStates a_isReached res l3 _ _ _ h hP hD hS (lv_sub hl [1] rfl)
      · have h := if_f h hc12
        refine lv_iload_n hx hb dX2_signOf_15 rfl (lv_at hl 1 rfl) ?_
        refine lv_iconst (v := (1 : Int32)) hx hb dX2_signOf_16 (by decide) ?_
        refine lv_isub hx hb dX2_signOf_17 ?_
        refine lv_iconst (v := (3 : Int32)) hx hb dX2_signOf_18 (by decide) ?_
        refine lv_idiv hx hb dX2_signOf_19 (by decide) ?_
        refine lv_istore_n (lv' := [(3, .int ((l3 - (1 : Int32)) / (3 : Int32))), (2, .int l2), (4, .int l4)]) hx hb dX2_signOf_20 rfl hl (by decide) rfl (fun ls hl => ?_)
        refine lv_iinc (v := (l4 + (1 : Int32))) (lv' := [(4, .int (l4 + (1 : Int32))), (3, .int ((l3 - (1 : Int32)) / (3 : Int32))), (2, .int l2)]) hx hb dX2_signOf_21 hl (k := 2) rfl rfl (by decide) rfl (fun ls hl => ?_)
        refine lv_goto (tgt := 5) hx hb dX2_signOf_24 (by decide) ?_
        exact ih l2 ((l3 - (1 : Int32)) / (3 : Int32)) (l4 + (1 : Int32)) _ _ _ h hP hD hS (lv_sub hl [2, 1, 0] rfl)
set_option maxRecDepth 100000 in
set_option maxHeartbeats 4000000 in
theorem w_X2_signOf (X : Ctx p m meth c cX2_signOf 5 ((some .int)) s args wsX2_signOf RX2 E A) (a_t : Nat) (a_one : Nat) (a_two : Nat) (a_oneStates : Nat) (a_twoStates : Nat) (a_isReached : Nat) (res : Int32) (l1 : Int32) (l2 : Int32) (ls : Array Slot) (H : Heap) (locs : List Loc) (h : f_X2_signOf l1 l2 = some res) (hP : va_P E.1 vwCl (W_X2_signOf E a_t a_one a_two a_oneStates a_twoStates a_isReached) H) (hD : va_D A (W_X2_signOf E a_t a_one a_two a_oneStates a_twoStates a_isReached)) (hS : va_S A s.heap H locs) (hl : lv_has ls 5 [(0, .ref a_t), (1, .int l1), (2, .int l2)]) : W p l e r_X2_signOf s m args below meth c H locs 0 0 (MQ below (qI E A res (W_X2_signOf E a_t a_one a_two a_oneStates a_twoStates a_isReached)) args s 0 0 A) (F0 m 0 ls []) := by
  obtain ⟨hx, hb, hml, hr, hlk, hown, hts, hG, hA⟩ := id X
  have hK := hG.1
  have hN := hG.2.1
  unfold f_X2_signOf at h
  refine lv_iload_n hx hb dX2_signOf_0 rfl (lv_at hl 1 rfl) ?_
  refine lv_istore_n (lv' := [(3, .int l1), (0, .ref a_t), (1, .int l1), (2, .int l2)]) hx hb dX2_signOf_1 rfl hl (by decide) rfl (fun ls hl => ?_)
  refine lv_iconst (v := (0 : Int32)) hx hb dX2_signOf_2 (by decide) ?_
  refine lv_istore (lv' := [(4, .int (0 : Int32)), (3, .int l1), (0, .ref a_t), (1, .int l1), (2, .int l2)]) hx hb dX2_signOf_3 hl (by decide) rfl (fun ls hl => ?_)
  exact w_X2_signOf_b5 X a_t a_one a_two a_oneStates a_twoStates a_isReached res FU l2 l1 (0 : Int32) _ _ _ h hP hD hS (lv_sub hl [4, 1, 0] rfl)
end
set_option maxRecDepth 100000 in
theorem c_X2_signOf (l : Launch) (E : Env0) (a_t : Nat) (a_one : Nat) (a_two : Nat) (a_oneStates : Nat) (a_twoStates : Nat) (a_isReached : Nat) (l1 : Int32) (l2 : Int32) (sz : Nat) (res : Int32) (h : f_X2_signOf l1 l2 = some res) : Met l yX2_signOf wsX2_signOf r_X2_signOf (cPre E [.ref a_t, .int l1, .int l2] (W_X2_signOf E a_t a_one a_two a_oneStates a_twoStates a_isReached) sz) (qI E (va_A (W_X2_signOf E a_t a_one a_two a_oneStates a_twoStates a_isReached) sz) res (W_X2_signOf E a_t a_one a_two a_oneStates a_twoStates a_isReached)) 0 0 (va_A (W_X2_signOf E a_t a_one a_two a_oneStates a_twoStates a_isReached) sz) :=
  met_of (Qc := fun A => qI E A res (W_X2_signOf E a_t a_one a_two a_oneStates a_twoStates a_isReached)) (by decide) rfl (Nat.le_of_ble_eq_true rfl) (fun p e s m args below meth c X hP hD hS ls hl => w_X2_signOf X a_t a_one a_two a_oneStates a_twoStates a_isReached res l1 l2 ls _ _ h hP hD hS hl)
-- ===== X4_standsAs
noncomputable abbrev W_X4_standsAs (E : Env0) (a_t : Nat) (a_island : Nat) (c_t : Nat → Int32) : va_W := [(a_t, .inr (4, [.ref a_island, .int (c_t 1), .int (c_t 2), .int (c_t 3), .int (c_t 4), .int (c_t 5), .int (c_t 6), .int (c_t 7), .int (c_t 8), .int (c_t 9), .int (c_t 10)]))]
noncomputable abbrev r_X4_standsAs : Room := { frames := 0, cells := 0, slots := 0, locals := 0 }
theorem hd_X4_standsAs : yX4_standsAs.cls ≠ "java/lang/invoke/MethodHandle" ∧ yX4_standsAs.cls ≠ "java/lang/invoke/VarHandle" ∧ (parseMethodDescriptor yX4_standsAs.desc).map (fun d => d.parameters.length) = some 2 := by decide +kernel
theorem hV_X4_standsAs : yX4_standsAs.cls = RX4 ∧ yX4_standsAs.cls ≠ "java/lang/invoke/MethodHandle" ∧ yX4_standsAs.cls ≠ "java/lang/invoke/VarHandle" ∧ (parseMethodDescriptor yX4_standsAs.desc).map (fun d => d.parameters.length) = some 2 := ⟨rfl, hd_X4_standsAs⟩
theorem iX4_standsAs_X4 : ∀ w ∈ wsX40, w ∈ wsX4_standsAs := fun _ h => List.mem_cons_of_mem _ (List.mem_append_right _ (h))
section
variable {p : Program} {l : Launch} {e : Env} {s : State} {m : MethodId} {args : Array Value} {below : List Frame} {meth : Method} {c : Code} {E : Env0} {A : Nat → Prop}
set_option maxRecDepth 100000 in
set_option maxHeartbeats 4000000 in
theorem w_X4_standsAs (X : Ctx p m meth c cX4_standsAs 3 ((some .boolean)) s args wsX4_standsAs RX4 E A) (a_t : Nat) (a_island : Nat) (c_t : Nat → Int32) (res : Int32) (l1 : Int32) (l2 : Int32) (ls : Array Slot) (H : Heap) (locs : List Loc) (h : f_X4_standsAs l1 l2 c_t = some res) (hP : va_P E.1 vwCl (W_X4_standsAs E a_t a_island c_t) H) (hD : va_D A (W_X4_standsAs E a_t a_island c_t)) (hS : va_S A s.heap H locs) (hl : lv_has ls 3 [(0, .ref a_t), (1, .int l1), (2, .int l2)]) : W p l e r_X4_standsAs s m args below meth c H locs 0 0 (MQ below (qI E A res (W_X4_standsAs E a_t a_island c_t)) args s 0 0 A) (F0 m 0 ls []) := by
  obtain ⟨hx, hb, hml, hr, hlk, hown, hts, hG, hA⟩ := id X
  have hK := hG.1
  have hN := hG.2.1
  unfold f_X4_standsAs at h
  refine lv_aload_n hx hb dX4_standsAs_0 rfl (lv_at hl 0 rfl) ?_
  refine va_get (D := E.1) (ci := 4) (v := .int (c_t 4)) (C := RX4) (T := TX4) (N := 11) hx hb hts iX4_standsAs_X4 hown hK hP 0 rfl rfl 4 (by decide) (hts (.fieldLink RX4 21 "LeftIsAgreedOn$Walker" "cell" "I") (List.mem_of_getElem? (i := 1) rfl)) (fun _ h9 => h9) rfl dX4_standsAs_1 ?_
  refine lv_iload_n hx hb dX4_standsAs_4 rfl (lv_at hl 1 rfl) ?_
  refine lv_icmp_ne (tgt := 20) hx hb dX4_standsAs_5 (by decide) (fun hc5 => ?_) (fun hc5 => ?_)
  · have h := if_f h hc5
    refine lv_iconst (v := (0 : Int32)) hx hb dX4_standsAs_20 (by decide) ?_
    obtain rfl := Option.some.inj h
    exact ret_z X dX4_standsAs_21 (by decide) hP hD hS rfl
  · have h := if_t h hc5
    refine lv_aload_n hx hb dX4_standsAs_8 rfl (lv_at hl 0 rfl) ?_
    refine va_get (D := E.1) (ci := 4) (v := .int (c_t 5)) (C := RX4) (T := TX4) (N := 11) hx hb hts iX4_standsAs_X4 hown hK hP 0 rfl rfl 5 (by decide) (hts (.fieldLink RX4 24 "LeftIsAgreedOn$Walker" "faces" "I") (List.mem_of_getElem? (i := 2) rfl)) (fun _ h9 => h9) rfl dX4_standsAs_9 ?_
    refine lv_iload_n hx hb dX4_standsAs_12 rfl (lv_at hl 2 rfl) ?_
    refine lv_icmp_ne (tgt := 20) hx hb dX4_standsAs_13 (by decide) (fun hc13 => ?_) (fun hc13 => ?_)
    · have h := if_f h hc13
      refine lv_iconst (v := (0 : Int32)) hx hb dX4_standsAs_20 (by decide) ?_
      obtain rfl := Option.some.inj h
      exact ret_z X dX4_standsAs_21 (by decide) hP hD hS rfl
    · have h := if_t h hc13
      refine lv_iconst (v := (1 : Int32)) hx hb dX4_standsAs_16 (by decide) ?_
      refine lv_goto (tgt := 21) hx hb dX4_standsAs_17 (by decide) ?_
      obtain rfl := Option.some.inj h
      exact ret_z X dX4_standsAs_21 (by decide) hP hD hS rfl
end
set_option maxRecDepth 100000 in
theorem c_X4_standsAs (l : Launch) (E : Env0) (a_t : Nat) (a_island : Nat) (l1 : Int32) (l2 : Int32) (c_t : Nat → Int32) (sz : Nat) (res : Int32) (h : f_X4_standsAs l1 l2 c_t = some res) : Met l yX4_standsAs wsX4_standsAs r_X4_standsAs (cPre E [.ref a_t, .int l1, .int l2] (W_X4_standsAs E a_t a_island c_t) sz) (qI E (va_A (W_X4_standsAs E a_t a_island c_t) sz) res (W_X4_standsAs E a_t a_island c_t)) 0 0 (va_A (W_X4_standsAs E a_t a_island c_t) sz) :=
  met_of (Qc := fun A => qI E A res (W_X4_standsAs E a_t a_island c_t)) (by decide) rfl (Nat.le_of_ble_eq_true rfl) (fun p e s m args below meth c X hP hD hS ls hl => w_X4_standsAs X a_t a_island c_t res l1 l2 ls _ _ h hP hD hS hl)
