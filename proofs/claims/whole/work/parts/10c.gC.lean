-- ===== X5_person
noncomputable abbrev W_X5_person (E : Env0) (a_t : Nat) (a_now : Nat) (a_now_cells : Nat) (a_now_faces : Nat) (a_now_kinds : Nat) (a_now_pledges : Nat) (a_now_ponds : Nat) (a_now_weights : Nat) (a_refusals : Nat) (a_kept : Nat) (a_trial : Nat) (a_reader : Nat) (a_shelves : Nat) (a_one : Nat) (a_two : Nat) (a_search : Nat) (a_outs : Nat) (c_t : Nat → Int32) (c_now : Nat → Int32) (c_now_cells : Nat → Int32) (c_now_faces : Nat → Int32) (c_now_kinds : Nat → Int32) (c_now_pledges : Nat → Int32) (c_now_ponds : Nat → Int32) (c_now_weights : Nat → Int32) (c_refusals : Nat → Int32) : va_W := [(a_t, .inr (5, [.ref a_now, .ref a_kept, .ref a_trial, .ref a_reader, .ref a_shelves, .ref a_one, .ref a_two, .ref a_search, .ref a_outs, .ref a_refusals, .int (c_t 10)])), (a_now, .inr (0, [.int (c_now 0), .int (c_now 1), .int (c_now 2), .int (c_now 3), .int (c_now 4), .int (c_now 5), .int (c_now 6), .int (c_now 7), .ref a_now_ponds, .ref a_now_kinds, .ref a_now_weights, .ref a_now_cells, .ref a_now_faces, .ref a_now_pledges])), (a_now_cells, .inl (eI E, 8, .inl c_now_cells)), (a_now_faces, .inl (eI E, 8, .inl c_now_faces)), (a_now_kinds, .inl (eI E, 8, .inl c_now_kinds)), (a_now_pledges, .inl (eI E, 8, .inl c_now_pledges)), (a_now_ponds, .inl (eZ E, 70, .inl c_now_ponds)), (a_now_weights, .inl (eI E, 8, .inl c_now_weights)), (a_refusals, .inl (eI E, 5, .inl c_refusals))]
noncomputable abbrev r_X5_person : Room := { frames := 2, cells := 0, slots := 0, locals := 45 }
theorem hd_X5_person : yX5_person.cls ≠ "java/lang/invoke/MethodHandle" ∧ yX5_person.cls ≠ "java/lang/invoke/VarHandle" ∧ (parseMethodDescriptor yX5_person.desc).map (fun d => d.parameters.length) = some 4 := by decide +kernel
theorem hV_X5_person : yX5_person.cls = RX5 ∧ yX5_person.cls ≠ "java/lang/invoke/MethodHandle" ∧ yX5_person.cls ≠ "java/lang/invoke/VarHandle" ∧ (parseMethodDescriptor yX5_person.desc).map (fun d => d.parameters.length) = some 4 := ⟨rfl, hd_X5_person⟩
theorem iX5_person_X5 : ∀ w ∈ wsX50, w ∈ wsX5_person := fun _ h => List.mem_cons_of_mem _ (List.mem_append_left _ (List.mem_append_right _ (h)))
section
variable {p : Program} {l : Launch} {e : Env} {s : State} {m : MethodId} {args : Array Value} {below : List Frame} {meth : Method} {c : Code} {E : Env0} {A : Nat → Prop}
set_option maxRecDepth 100000 in
set_option maxHeartbeats 4000000 in
theorem w_X5_person_b36 (X : Ctx p m meth c cX5_person 5 ((some .int)) s args wsX5_person RX5 E A) (a_t : Nat) (a_now : Nat) (a_now_cells : Nat) (a_now_faces : Nat) (a_now_kinds : Nat) (a_now_pledges : Nat) (a_now_ponds : Nat) (a_now_weights : Nat) (a_refusals : Nat) (a_kept : Nat) (a_trial : Nat) (a_reader : Nat) (a_shelves : Nat) (a_one : Nat) (a_two : Nat) (a_search : Nat) (a_outs : Nat) (c_t : Nat → Int32) (c_now_ponds : Nat → Int32) (res : Int32 × (Nat → Int32) × (Nat → Int32) × (Nat → Int32) × (Nat → Int32) × (Nat → Int32) × (Nat → Int32) × (Nat → Int32)) (c_now : Nat → Int32) (c_now_cells : Nat → Int32) (c_now_faces : Nat → Int32) (c_now_kinds : Nat → Int32) (c_now_pledges : Nat → Int32) (c_now_weights : Nat → Int32) (c_refusals : Nat → Int32) (ls : Array Slot) (H : Heap) (locs : List Loc) (h : f_X5_person_b36 c_t c_now_ponds c_now c_now_cells c_now_faces c_now_kinds c_now_pledges c_now_weights c_refusals = some res) (hP : va_P E.1 vwCl (W_X5_person E a_t a_now a_now_cells a_now_faces a_now_kinds a_now_pledges a_now_ponds a_now_weights a_refusals a_kept a_trial a_reader a_shelves a_one a_two a_search a_outs c_t c_now c_now_cells c_now_faces c_now_kinds c_now_pledges c_now_ponds c_now_weights c_refusals) H) (hD : va_D A (W_X5_person E a_t a_now a_now_cells a_now_faces a_now_kinds a_now_pledges a_now_ponds a_now_weights a_refusals a_kept a_trial a_reader a_shelves a_one a_two a_search a_outs c_t c_now c_now_cells c_now_faces c_now_kinds c_now_pledges c_now_ponds c_now_weights c_refusals)) (hS : va_S A s.heap H locs) (hl : lv_has ls 5 [(0, .ref a_t)]) : W p l e r_X5_person s m args below meth c H locs 0 0 (MQ below (qI E A (res.1) (W_X5_person E a_t a_now a_now_cells a_now_faces a_now_kinds a_now_pledges a_now_ponds a_now_weights a_refusals a_kept a_trial a_reader a_shelves a_one a_two a_search a_outs c_t (res.2.1) (res.2.2.1) (res.2.2.2.1) (res.2.2.2.2.1) (res.2.2.2.2.2.1) c_now_ponds (res.2.2.2.2.2.2.1) (res.2.2.2.2.2.2.2))) args s 0 0 A) (F0 m 36 ls []) := by
  obtain ⟨hx, hb, hml, hr, hlk, hown, hts, hG, hA⟩ := id X
  have hK := hG.1
  have hN := hG.2.1
  unfold f_X5_person_b36 at h
  refine lv_aload_n hx hb dX5_person_36 rfl (lv_at hl 0 rfl) ?_
  refine lv_bipush (v := (-2 : Int32)) hx hb dX5_person_37 (by decide) ?_
  obtain ⟨v1, hv1, h⟩ := bind_of h
  refine after_i X (run_V X (c_X5_refuse l E a_t a_refusals a_now a_kept a_trial a_reader a_shelves a_one a_two a_search a_outs (-2 : Int32) c_t c_refusals H.size v1 hv1) (cwV 1 hts gX5_person_X5_refuse rfl rfl rfl hV_X5_refuse ⟨(Nat.le_of_ble_eq_true rfl), (Nat.le_of_ble_eq_true rfl)⟩) hP hD hS [0, 8] rfl rfl hl.1 (ci := 5) rfl rfl rfl (rest := []) rfl rfl (Nat.le_of_ble_eq_true rfl) dX5_person_39) hP hD hS [0, 8] rfl (ws1 := (W_X5_person E a_t a_now a_now_cells a_now_faces a_now_kinds a_now_pledges a_now_ponds a_now_weights a_refusals a_kept a_trial a_reader a_shelves a_one a_two a_search a_outs c_t c_now c_now_cells c_now_faces c_now_kinds c_now_pledges c_now_ponds c_now_weights (v1.2))) rfl (fun H locs hP hD hS => ?_)
  obtain rfl := Option.some.inj h
  exact ret_i X dX5_person_42 hP hD hS rfl
set_option maxRecDepth 100000 in
set_option maxHeartbeats 4000000 in
theorem w_X5_person (X : Ctx p m meth c cX5_person 5 ((some .int)) s args wsX5_person RX5 E A) (a_t : Nat) (a_now : Nat) (a_now_cells : Nat) (a_now_faces : Nat) (a_now_kinds : Nat) (a_now_pledges : Nat) (a_now_ponds : Nat) (a_now_weights : Nat) (a_refusals : Nat) (a_kept : Nat) (a_trial : Nat) (a_reader : Nat) (a_shelves : Nat) (a_one : Nat) (a_two : Nat) (a_search : Nat) (a_outs : Nat) (c_t : Nat → Int32) (c_now_ponds : Nat → Int32) (res : Int32 × (Nat → Int32) × (Nat → Int32) × (Nat → Int32) × (Nat → Int32) × (Nat → Int32) × (Nat → Int32) × (Nat → Int32)) (c_now : Nat → Int32) (c_now_cells : Nat → Int32) (c_now_faces : Nat → Int32) (c_now_kinds : Nat → Int32) (c_now_pledges : Nat → Int32) (c_now_weights : Nat → Int32) (c_refusals : Nat → Int32) (l1 : Int32) (l2 : Int32) (l3 : Int32) (l4 : Int32) (ls : Array Slot) (H : Heap) (locs : List Loc) (h : f_X5_person l1 l2 l3 l4 c_t c_now c_now_cells c_now_faces c_now_kinds c_now_pledges c_now_ponds c_now_weights c_refusals = some res) (hP : va_P E.1 vwCl (W_X5_person E a_t a_now a_now_cells a_now_faces a_now_kinds a_now_pledges a_now_ponds a_now_weights a_refusals a_kept a_trial a_reader a_shelves a_one a_two a_search a_outs c_t c_now c_now_cells c_now_faces c_now_kinds c_now_pledges c_now_ponds c_now_weights c_refusals) H) (hD : va_D A (W_X5_person E a_t a_now a_now_cells a_now_faces a_now_kinds a_now_pledges a_now_ponds a_now_weights a_refusals a_kept a_trial a_reader a_shelves a_one a_two a_search a_outs c_t c_now c_now_cells c_now_faces c_now_kinds c_now_pledges c_now_ponds c_now_weights c_refusals)) (hS : va_S A s.heap H locs) (hl : lv_has ls 5 [(0, .ref a_t), (1, .int l1), (2, .int l2), (3, .int l3), (4, .int l4)]) : W p l e r_X5_person s m args below meth c H locs 0 0 (MQ below (qI E A (res.1) (W_X5_person E a_t a_now a_now_cells a_now_faces a_now_kinds a_now_pledges a_now_ponds a_now_weights a_refusals a_kept a_trial a_reader a_shelves a_one a_two a_search a_outs c_t (res.2.1) (res.2.2.1) (res.2.2.2.1) (res.2.2.2.2.1) (res.2.2.2.2.2.1) c_now_ponds (res.2.2.2.2.2.2.1) (res.2.2.2.2.2.2.2))) args s 0 0 A) (F0 m 0 ls []) := by
  obtain ⟨hx, hb, hml, hr, hlk, hown, hts, hG, hA⟩ := id X
  have hK := hG.1
  have hN := hG.2.1
  unfold f_X5_person at h
  refine lv_iload_n hx hb dX5_person_0 rfl (lv_at hl 1 rfl) ?_
  obtain ⟨v1, hv1, h⟩ := bind_of h
  refine after_i X (run_S X (c_X5_isKind l E l1 H.size v1 hv1) (va_cwS 1 hts gX5_person_X5_isKind rfl rfl rfl hd_X5_isKind ⟨(Nat.le_of_ble_eq_true rfl), (Nat.le_of_ble_eq_true rfl)⟩) hP hD hS [] rfl rfl hl.1 (rest := []) rfl rfl (Nat.le_of_ble_eq_true rfl) dX5_person_1) hP hD hS [] rfl (ws1 := (W_X5_person E a_t a_now a_now_cells a_now_faces a_now_kinds a_now_pledges a_now_ponds a_now_weights a_refusals a_kept a_trial a_reader a_shelves a_one a_two a_search a_outs c_t c_now c_now_cells c_now_faces c_now_kinds c_now_pledges c_now_ponds c_now_weights c_refusals)) rfl (fun H locs hP hD hS => ?_)
  refine lv_if_eq (tgt := 36) hx hb dX5_person_4 (by decide) (fun hc4 => ?_) (fun hc4 => ?_)
  · have h := if_t h hc4
    exact w_X5_person_b36 X a_t a_now a_now_cells a_now_faces a_now_kinds a_now_pledges a_now_ponds a_now_weights a_refusals a_kept a_trial a_reader a_shelves a_one a_two a_search a_outs c_t c_now_ponds res c_now c_now_cells c_now_faces c_now_kinds c_now_pledges c_now_weights c_refusals _ _ _ h hP hD hS (lv_sub hl [0] rfl)
  · have h := if_f h hc4
    refine lv_iload_n hx hb dX5_person_7 rfl (lv_at hl 2 rfl) ?_
    refine lv_iconst (v := (0 : Int32)) hx hb dX5_person_8 (by decide) ?_
    refine lv_bipush (v := (9 : Int32)) hx hb dX5_person_9 (by decide) ?_
    obtain ⟨v2, hv2, h⟩ := bind_of h
    refine after_i X (run_S X (c_X5_isWithin l E l2 (0 : Int32) (9 : Int32) H.size v2 hv2) (va_cwS 3 hts gX5_person_X5_isWithin rfl rfl rfl hd_X5_isWithin ⟨(Nat.le_of_ble_eq_true rfl), (Nat.le_of_ble_eq_true rfl)⟩) hP hD hS [] rfl rfl hl.1 (rest := []) rfl rfl (Nat.le_of_ble_eq_true rfl) dX5_person_11) hP hD hS [] rfl (ws1 := (W_X5_person E a_t a_now a_now_cells a_now_faces a_now_kinds a_now_pledges a_now_ponds a_now_weights a_refusals a_kept a_trial a_reader a_shelves a_one a_two a_search a_outs c_t c_now c_now_cells c_now_faces c_now_kinds c_now_pledges c_now_ponds c_now_weights c_refusals)) rfl (fun H locs hP hD hS => ?_)
    refine lv_if_eq (tgt := 36) hx hb dX5_person_14 (by decide) (fun hc14 => ?_) (fun hc14 => ?_)
    · have h := if_t h hc14
      exact w_X5_person_b36 X a_t a_now a_now_cells a_now_faces a_now_kinds a_now_pledges a_now_ponds a_now_weights a_refusals a_kept a_trial a_reader a_shelves a_one a_two a_search a_outs c_t c_now_ponds res c_now c_now_cells c_now_faces c_now_kinds c_now_pledges c_now_weights c_refusals _ _ _ h hP hD hS (lv_sub hl [0] rfl)
    · have h := if_f h hc14
      refine lv_aload_n hx hb dX5_person_17 rfl (lv_at hl 0 rfl) ?_
      refine va_get (D := E.1) (ci := 5) (v := .ref a_now) (C := RX5) (T := TX5) (N := 11) hx hb hts iX5_person_X5 hown hK hP 0 rfl rfl 0 (by decide) (hts (.fieldLink RX5 10 "LeftIsAgreedOn" "now" "LLeftIsAgreedOn$Island;") (List.mem_of_getElem? (i := 1) rfl)) (fun _ h9 => h9) rfl dX5_person_18 ?_
      refine lv_iload_n hx hb dX5_person_21 rfl (lv_at hl 3 rfl) ?_
      obtain ⟨v3, hv3, h⟩ := bind_of h
      refine after_i X (run_V X (c_X0_isCell l E a_now a_now_ponds a_now_kinds a_now_weights a_now_cells a_now_faces a_now_pledges l3 c_now H.size v3 hv3) (cwV 1 hts gX5_person_X0_isCell rfl rfl rfl hV_X0_isCell ⟨(Nat.le_of_ble_eq_true rfl), (Nat.le_of_ble_eq_true rfl)⟩) hP hD hS [1] rfl rfl hl.1 (ci := 0) rfl rfl rfl (rest := []) rfl rfl (Nat.le_of_ble_eq_true rfl) dX5_person_22) hP hD hS [1] rfl (ws1 := (W_X5_person E a_t a_now a_now_cells a_now_faces a_now_kinds a_now_pledges a_now_ponds a_now_weights a_refusals a_kept a_trial a_reader a_shelves a_one a_two a_search a_outs c_t c_now c_now_cells c_now_faces c_now_kinds c_now_pledges c_now_ponds c_now_weights c_refusals)) rfl (fun H locs hP hD hS => ?_)
      refine lv_if_eq (tgt := 36) hx hb dX5_person_25 (by decide) (fun hc25 => ?_) (fun hc25 => ?_)
      · have h := if_t h hc25
        exact w_X5_person_b36 X a_t a_now a_now_cells a_now_faces a_now_kinds a_now_pledges a_now_ponds a_now_weights a_refusals a_kept a_trial a_reader a_shelves a_one a_two a_search a_outs c_t c_now_ponds res c_now c_now_cells c_now_faces c_now_kinds c_now_pledges c_now_weights c_refusals _ _ _ h hP hD hS (lv_sub hl [0] rfl)
      · have h := if_f h hc25
        refine lv_iload hx hb dX5_person_28 (lv_at hl 4 rfl) ?_
        obtain ⟨v4, hv4, h⟩ := bind_of h
        refine after_i X (run_S X (c_X5_isFaces l E l4 H.size v4 hv4) (va_cwS 1 hts gX5_person_X5_isFaces rfl rfl rfl hd_X5_isFaces ⟨(Nat.le_of_ble_eq_true rfl), (Nat.le_of_ble_eq_true rfl)⟩) hP hD hS [] rfl rfl hl.1 (rest := []) rfl rfl (Nat.le_of_ble_eq_true rfl) dX5_person_30) hP hD hS [] rfl (ws1 := (W_X5_person E a_t a_now a_now_cells a_now_faces a_now_kinds a_now_pledges a_now_ponds a_now_weights a_refusals a_kept a_trial a_reader a_shelves a_one a_two a_search a_outs c_t c_now c_now_cells c_now_faces c_now_kinds c_now_pledges c_now_ponds c_now_weights c_refusals)) rfl (fun H locs hP hD hS => ?_)
        refine lv_if_ne (tgt := 43) hx hb dX5_person_33 (by decide) (fun hc33 => ?_) (fun hc33 => ?_)
        · have h := if_f h hc33
          refine lv_aload_n hx hb dX5_person_43 rfl (lv_at hl 0 rfl) ?_
          refine va_get (D := E.1) (ci := 5) (v := .ref a_now) (C := RX5) (T := TX5) (N := 11) hx hb hts iX5_person_X5 hown hK hP 0 rfl rfl 0 (by decide) (hts (.fieldLink RX5 10 "LeftIsAgreedOn" "now" "LLeftIsAgreedOn$Island;") (List.mem_of_getElem? (i := 1) rfl)) (fun _ h9 => h9) rfl dX5_person_44 ?_
          refine lv_iload_n hx hb dX5_person_47 rfl (lv_at hl 3 rfl) ?_
          obtain ⟨v5, hv5, h⟩ := bind_of h
          refine after_i X (run_V X (c_X0_hasPond l E a_now a_now_ponds a_now_kinds a_now_weights a_now_cells a_now_faces a_now_pledges l3 c_now c_now_ponds H.size v5 hv5) (cwV 1 hts gX5_person_X0_hasPond rfl rfl rfl hV_X0_hasPond ⟨(Nat.le_of_ble_eq_true rfl), (Nat.le_of_ble_eq_true rfl)⟩) hP hD hS [1, 6] rfl rfl hl.1 (ci := 0) rfl rfl rfl (rest := []) rfl rfl (Nat.le_of_ble_eq_true rfl) dX5_person_48) hP hD hS [1, 6] rfl (ws1 := (W_X5_person E a_t a_now a_now_cells a_now_faces a_now_kinds a_now_pledges a_now_ponds a_now_weights a_refusals a_kept a_trial a_reader a_shelves a_one a_two a_search a_outs c_t c_now c_now_cells c_now_faces c_now_kinds c_now_pledges c_now_ponds c_now_weights c_refusals)) rfl (fun H locs hP hD hS => ?_)
          refine lv_if_eq (tgt := 61) hx hb dX5_person_51 (by decide) (fun hc51 => ?_) (fun hc51 => ?_)
          · have h := if_t h hc51
            refine lv_aload_n hx hb dX5_person_61 rfl (lv_at hl 0 rfl) ?_
            refine va_get (D := E.1) (ci := 5) (v := .ref a_now) (C := RX5) (T := TX5) (N := 11) hx hb hts iX5_person_X5 hown hK hP 0 rfl rfl 0 (by decide) (hts (.fieldLink RX5 10 "LeftIsAgreedOn" "now" "LLeftIsAgreedOn$Island;") (List.mem_of_getElem? (i := 1) rfl)) (fun _ h9 => h9) rfl dX5_person_62 ?_
            obtain ⟨v6, hv6, h⟩ := bind_of h
            refine after_i X (run_V X (c_X0_isFull l E a_now a_now_ponds a_now_kinds a_now_weights a_now_cells a_now_faces a_now_pledges c_now H.size v6 hv6) (cwV 0 hts gX5_person_X0_isFull rfl rfl rfl hV_X0_isFull ⟨(Nat.le_of_ble_eq_true rfl), (Nat.le_of_ble_eq_true rfl)⟩) hP hD hS [1] rfl rfl hl.1 (ci := 0) rfl rfl rfl (rest := []) rfl rfl (Nat.le_of_ble_eq_true rfl) dX5_person_65) hP hD hS [1] rfl (ws1 := (W_X5_person E a_t a_now a_now_cells a_now_faces a_now_kinds a_now_pledges a_now_ponds a_now_weights a_refusals a_kept a_trial a_reader a_shelves a_one a_two a_search a_outs c_t c_now c_now_cells c_now_faces c_now_kinds c_now_pledges c_now_ponds c_now_weights c_refusals)) rfl (fun H locs hP hD hS => ?_)
            refine lv_if_eq (tgt := 78) hx hb dX5_person_68 (by decide) (fun hc68 => ?_) (fun hc68 => ?_)
            · have h := if_t h hc68
              refine lv_aload_n hx hb dX5_person_78 rfl (lv_at hl 0 rfl) ?_
              refine va_get (D := E.1) (ci := 5) (v := .ref a_now) (C := RX5) (T := TX5) (N := 11) hx hb hts iX5_person_X5 hown hK hP 0 rfl rfl 0 (by decide) (hts (.fieldLink RX5 10 "LeftIsAgreedOn" "now" "LLeftIsAgreedOn$Island;") (List.mem_of_getElem? (i := 1) rfl)) (fun _ h9 => h9) rfl dX5_person_79 ?_
              refine lv_iload_n hx hb dX5_person_82 rfl (lv_at hl 1 rfl) ?_
              refine lv_iload_n hx hb dX5_person_83 rfl (lv_at hl 2 rfl) ?_
              refine lv_iload_n hx hb dX5_person_84 rfl (lv_at hl 3 rfl) ?_
              refine lv_iload hx hb dX5_person_85 (lv_at hl 4 rfl) ?_
              obtain ⟨v7, hv7, h⟩ := bind_of h
              refine after_i X (run_V X (c_X0_add l E a_now a_now_cells a_now_faces a_now_kinds a_now_pledges a_now_weights a_now_ponds l1 l2 l3 l4 c_now c_now_cells c_now_faces c_now_kinds c_now_pledges c_now_weights H.size v7 hv7) (cwV 4 hts gX5_person_X0_add rfl rfl rfl hV_X0_add ⟨(Nat.le_of_ble_eq_true rfl), (Nat.le_of_ble_eq_true rfl)⟩) hP hD hS [1, 2, 3, 4, 5, 7] rfl rfl hl.1 (ci := 0) rfl rfl rfl (rest := []) rfl rfl (Nat.le_of_ble_eq_true rfl) dX5_person_87) hP hD hS [1, 2, 3, 4, 5, 7] rfl (ws1 := (W_X5_person E a_t a_now a_now_cells a_now_faces a_now_kinds a_now_pledges a_now_ponds a_now_weights a_refusals a_kept a_trial a_reader a_shelves a_one a_two a_search a_outs c_t (v7.2.1) (v7.2.2.1) (v7.2.2.2.1) (v7.2.2.2.2.1) (v7.2.2.2.2.2.1) c_now_ponds (v7.2.2.2.2.2.2) c_refusals)) rfl (fun H locs hP hD hS => ?_)
              obtain rfl := Option.some.inj h
              exact ret_i X dX5_person_90 hP hD hS rfl
            · have h := if_f h hc68
              refine lv_aload_n hx hb dX5_person_71 rfl (lv_at hl 0 rfl) ?_
              refine lv_bipush (v := (-6 : Int32)) hx hb dX5_person_72 (by decide) ?_
              obtain ⟨v8, hv8, h⟩ := bind_of h
              refine after_i X (run_V X (c_X5_refuse l E a_t a_refusals a_now a_kept a_trial a_reader a_shelves a_one a_two a_search a_outs (-6 : Int32) c_t c_refusals H.size v8 hv8) (cwV 1 hts gX5_person_X5_refuse rfl rfl rfl hV_X5_refuse ⟨(Nat.le_of_ble_eq_true rfl), (Nat.le_of_ble_eq_true rfl)⟩) hP hD hS [0, 8] rfl rfl hl.1 (ci := 5) rfl rfl rfl (rest := []) rfl rfl (Nat.le_of_ble_eq_true rfl) dX5_person_74) hP hD hS [0, 8] rfl (ws1 := (W_X5_person E a_t a_now a_now_cells a_now_faces a_now_kinds a_now_pledges a_now_ponds a_now_weights a_refusals a_kept a_trial a_reader a_shelves a_one a_two a_search a_outs c_t c_now c_now_cells c_now_faces c_now_kinds c_now_pledges c_now_ponds c_now_weights (v8.2))) rfl (fun H locs hP hD hS => ?_)
              obtain rfl := Option.some.inj h
              exact ret_i X dX5_person_77 hP hD hS rfl
          · have h := if_f h hc51
            refine lv_aload_n hx hb dX5_person_54 rfl (lv_at hl 0 rfl) ?_
            refine lv_bipush (v := (-5 : Int32)) hx hb dX5_person_55 (by decide) ?_
            obtain ⟨v9, hv9, h⟩ := bind_of h
            refine after_i X (run_V X (c_X5_refuse l E a_t a_refusals a_now a_kept a_trial a_reader a_shelves a_one a_two a_search a_outs (-5 : Int32) c_t c_refusals H.size v9 hv9) (cwV 1 hts gX5_person_X5_refuse rfl rfl rfl hV_X5_refuse ⟨(Nat.le_of_ble_eq_true rfl), (Nat.le_of_ble_eq_true rfl)⟩) hP hD hS [0, 8] rfl rfl hl.1 (ci := 5) rfl rfl rfl (rest := []) rfl rfl (Nat.le_of_ble_eq_true rfl) dX5_person_57) hP hD hS [0, 8] rfl (ws1 := (W_X5_person E a_t a_now a_now_cells a_now_faces a_now_kinds a_now_pledges a_now_ponds a_now_weights a_refusals a_kept a_trial a_reader a_shelves a_one a_two a_search a_outs c_t c_now c_now_cells c_now_faces c_now_kinds c_now_pledges c_now_ponds c_now_weights (v9.2))) rfl (fun H locs hP hD hS => ?_)
            obtain rfl := Option.some.inj h
            exact ret_i X dX5_person_60 hP hD hS rfl
        · have h := if_t h hc33
          exact w_X5_person_b36 X a_t a_now a_now_cells a_now_faces a_now_kinds a_now_pledges a_now_ponds a_now_weights a_refusals a_kept a_trial a_reader a_shelves a_one a_two a_search a_outs c_t c_now_ponds res c_now c_now_cells c_now_faces c_now_kinds c_now_pledges c_now_weights c_refusals _ _ _ h hP hD hS (lv_sub hl [0] rfl)
end
set_option maxRecDepth 100000 in
theorem c_X5_person (l : Launch) (E : Env0) (a_t : Nat) (a_now : Nat) (a_now_cells : Nat) (a_now_faces : Nat) (a_now_kinds : Nat) (a_now_pledges : Nat) (a_now_ponds : Nat) (a_now_weights : Nat) (a_refusals : Nat) (a_kept : Nat) (a_trial : Nat) (a_reader : Nat) (a_shelves : Nat) (a_one : Nat) (a_two : Nat) (a_search : Nat) (a_outs : Nat) (l1 : Int32) (l2 : Int32) (l3 : Int32) (l4 : Int32) (c_t : Nat → Int32) (c_now : Nat → Int32) (c_now_cells : Nat → Int32) (c_now_faces : Nat → Int32) (c_now_kinds : Nat → Int32) (c_now_pledges : Nat → Int32) (c_now_ponds : Nat → Int32) (c_now_weights : Nat → Int32) (c_refusals : Nat → Int32) (sz : Nat) (res : Int32 × (Nat → Int32) × (Nat → Int32) × (Nat → Int32) × (Nat → Int32) × (Nat → Int32) × (Nat → Int32) × (Nat → Int32)) (h : f_X5_person l1 l2 l3 l4 c_t c_now c_now_cells c_now_faces c_now_kinds c_now_pledges c_now_ponds c_now_weights c_refusals = some res) : Met l yX5_person wsX5_person r_X5_person (cPre E [.ref a_t, .int l1, .int l2, .int l3, .int l4] (W_X5_person E a_t a_now a_now_cells a_now_faces a_now_kinds a_now_pledges a_now_ponds a_now_weights a_refusals a_kept a_trial a_reader a_shelves a_one a_two a_search a_outs c_t c_now c_now_cells c_now_faces c_now_kinds c_now_pledges c_now_ponds c_now_weights c_refusals) sz) (qI E (va_A (W_X5_person E a_t a_now a_now_cells a_now_faces a_now_kinds a_now_pledges a_now_ponds a_now_weights a_refusals a_kept a_trial a_reader a_shelves a_one a_two a_search a_outs c_t c_now c_now_cells c_now_faces c_now_kinds c_now_pledges c_now_ponds c_now_weights c_refusals) sz) (res.1) (W_X5_person E a_t a_now a_now_cells a_now_faces a_now_kinds a_now_pledges a_now_ponds a_now_weights a_refusals a_kept a_trial a_reader a_shelves a_one a_two a_search a_outs c_t (res.2.1) (res.2.2.1) (res.2.2.2.1) (res.2.2.2.2.1) (res.2.2.2.2.2.1) c_now_ponds (res.2.2.2.2.2.2.1) (res.2.2.2.2.2.2.2))) 0 0 (va_A (W_X5_person E a_t a_now a_now_cells a_now_faces a_now_kinds a_now_pledges a_now_ponds a_now_weights a_refusals a_kept a_trial a_reader a_shelves a_one a_two a_search a_outs c_t c_now c_now_cells c_now_faces c_now_kinds c_now_pledges c_now_ponds c_now_weights c_refusals) sz) :=
  met_of (Qc := fun A => qI E A (res.1) (W_X5_person E a_t a_now a_now_cells a_now_faces a_now_kinds a_now_pledges a_now_ponds a_now_weights a_refusals a_kept a_trial a_reader a_shelves a_one a_two a_search a_outs c_t (res.2.1) (res.2.2.1) (res.2.2.2.1) (res.2.2.2.2.1) (res.2.2.2.2.2.1) c_now_ponds (res.2.2.2.2.2.2.1) (res.2.2.2.2.2.2.2))) (by decide) rfl (Nat.le_of_ble_eq_true rfl) (fun p e s m args below meth c X hP hD hS ls hl => w_X5_person X a_t a_now a_now_cells a_now_faces a_now_kinds a_now_pledges a_now_ponds a_now_weights a_refusals a_kept a_trial a_reader a_shelves a_one a_two a_search a_outs c_t c_now_ponds res c_now c_now_cells c_now_faces c_now_kinds c_now_pledges c_now_weights c_refusals l1 l2 l3 l4 ls _ _ h hP hD hS hl)
-- ===== X5_tell
noncomputable abbrev W_X5_tell (E : Env0) (a_t : Nat) (a_now : Nat) (a_refusals : Nat) (a_kept : Nat) (a_trial : Nat) (a_reader : Nat) (a_shelves : Nat) (a_one : Nat) (a_two : Nat) (a_search : Nat) (a_outs : Nat) (a_now_ponds : Nat) (a_now_kinds : Nat) (a_now_weights : Nat) (a_now_cells : Nat) (a_now_faces : Nat) (a_now_pledges : Nat) (c_t : Nat → Int32) (c_now : Nat → Int32) (c_refusals : Nat → Int32) : va_W := [(a_t, .inr (5, [.ref a_now, .ref a_kept, .ref a_trial, .ref a_reader, .ref a_shelves, .ref a_one, .ref a_two, .ref a_search, .ref a_outs, .ref a_refusals, .int (c_t 10)])), (a_now, .inr (0, [.int (c_now 0), .int (c_now 1), .int (c_now 2), .int (c_now 3), .int (c_now 4), .int (c_now 5), .int (c_now 6), .int (c_now 7), .ref a_now_ponds, .ref a_now_kinds, .ref a_now_weights, .ref a_now_cells, .ref a_now_faces, .ref a_now_pledges])), (a_refusals, .inl (eI E, 5, .inl c_refusals))]
noncomputable abbrev r_X5_tell : Room := { frames := 2, cells := 0, slots := 0, locals := 43 }
theorem hd_X5_tell : yX5_tell.cls ≠ "java/lang/invoke/MethodHandle" ∧ yX5_tell.cls ≠ "java/lang/invoke/VarHandle" ∧ (parseMethodDescriptor yX5_tell.desc).map (fun d => d.parameters.length) = some 2 := by decide +kernel
theorem hV_X5_tell : yX5_tell.cls = RX5 ∧ yX5_tell.cls ≠ "java/lang/invoke/MethodHandle" ∧ yX5_tell.cls ≠ "java/lang/invoke/VarHandle" ∧ (parseMethodDescriptor yX5_tell.desc).map (fun d => d.parameters.length) = some 2 := ⟨rfl, hd_X5_tell⟩
theorem iX5_tell_X0 : ∀ w ∈ wsX00, w ∈ wsX5_tell := fun _ h => List.mem_cons_of_mem _ (List.mem_append_right _ (h))
theorem iX5_tell_X5 : ∀ w ∈ wsX50, w ∈ wsX5_tell := fun _ h => List.mem_cons_of_mem _ (List.mem_append_left _ (List.mem_append_right _ (h)))
section
variable {p : Program} {l : Launch} {e : Env} {s : State} {m : MethodId} {args : Array Value} {below : List Frame} {meth : Method} {c : Code} {E : Env0} {A : Nat → Prop}
set_option maxRecDepth 100000 in
set_option maxHeartbeats 4000000 in
theorem w_X5_tell_b28 (X : Ctx p m meth c cX5_tell 4 ((some .int)) s args wsX5_tell RX5 E A) (a_t : Nat) (a_now : Nat) (a_refusals : Nat) (a_kept : Nat) (a_trial : Nat) (a_reader : Nat) (a_shelves : Nat) (a_one : Nat) (a_two : Nat) (a_search : Nat) (a_outs : Nat) (a_now_ponds : Nat) (a_now_kinds : Nat) (a_now_weights : Nat) (a_now_cells : Nat) (a_now_faces : Nat) (a_now_pledges : Nat) (c_t : Nat → Int32) (res : Int32 × (Nat → Int32) × (Nat → Int32)) (c_now : Nat → Int32) (c_refusals : Nat → Int32) (ls : Array Slot) (H : Heap) (locs : List Loc) (h : f_X5_tell_b28 c_t c_now c_refusals = some res) (hP : va_P E.1 vwCl (W_X5_tell E a_t a_now a_refusals a_kept a_trial a_reader a_shelves a_one a_two a_search a_outs a_now_ponds a_now_kinds a_now_weights a_now_cells a_now_faces a_now_pledges c_t c_now c_refusals) H) (hD : va_D A (W_X5_tell E a_t a_now a_refusals a_kept a_trial a_reader a_shelves a_one a_two a_search a_outs a_now_ponds a_now_kinds a_now_weights a_now_cells a_now_faces a_now_pledges c_t c_now c_refusals)) (hS : va_S A s.heap H locs) (hl : lv_has ls 4 [(0, .ref a_t)]) : W p l e r_X5_tell s m args below meth c H locs 0 0 (MQ below (qI E A (res.1) (W_X5_tell E a_t a_now a_refusals a_kept a_trial a_reader a_shelves a_one a_two a_search a_outs a_now_ponds a_now_kinds a_now_weights a_now_cells a_now_faces a_now_pledges c_t (res.2.1) (res.2.2))) args s 0 0 A) (F0 m 28 ls []) := by
  obtain ⟨hx, hb, hml, hr, hlk, hown, hts, hG, hA⟩ := id X
  have hK := hG.1
  have hN := hG.2.1
  unfold f_X5_tell_b28 at h
  refine lv_aload_n hx hb dX5_tell_28 rfl (lv_at hl 0 rfl) ?_
  refine lv_bipush (v := (-2 : Int32)) hx hb dX5_tell_29 (by decide) ?_
  obtain ⟨v1, hv1, h⟩ := bind_of h
  refine after_i X (run_V X (c_X5_refuse l E a_t a_refusals a_now a_kept a_trial a_reader a_shelves a_one a_two a_search a_outs (-2 : Int32) c_t c_refusals H.size v1 hv1) (cwV 1 hts gX5_tell_X5_refuse rfl rfl rfl hV_X5_refuse ⟨(Nat.le_of_ble_eq_true rfl), (Nat.le_of_ble_eq_true rfl)⟩) hP hD hS [0, 2] rfl rfl hl.1 (ci := 5) rfl rfl rfl (rest := []) rfl rfl (Nat.le_of_ble_eq_true rfl) dX5_tell_31) hP hD hS [0, 2] rfl (ws1 := (W_X5_tell E a_t a_now a_refusals a_kept a_trial a_reader a_shelves a_one a_two a_search a_outs a_now_ponds a_now_kinds a_now_weights a_now_cells a_now_faces a_now_pledges c_t c_now (v1.2))) rfl (fun H locs hP hD hS => ?_)
  obtain rfl := Option.some.inj h
  exact ret_i X dX5_tell_34 hP hD hS rfl
set_option maxRecDepth 100000 in
set_option maxHeartbeats 4000000 in
theorem w_X5_tell_b22 (X : Ctx p m meth c cX5_tell 4 ((some .int)) s args wsX5_tell RX5 E A) (a_t : Nat) (a_now : Nat) (a_refusals : Nat) (a_kept : Nat) (a_trial : Nat) (a_reader : Nat) (a_shelves : Nat) (a_one : Nat) (a_two : Nat) (a_search : Nat) (a_outs : Nat) (a_now_ponds : Nat) (a_now_kinds : Nat) (a_now_weights : Nat) (a_now_cells : Nat) (a_now_faces : Nat) (a_now_pledges : Nat) (c_t : Nat → Int32) (res : Int32 × (Nat → Int32) × (Nat → Int32)) (c_now : Nat → Int32) (c_refusals : Nat → Int32) (l1 : Int32) (l2 : Int32) (s0 : Int32) (s1 : Int32) (s2 : Int32) (ls : Array Slot) (H : Heap) (locs : List Loc) (h : f_X5_tell_b22 c_t c_now c_refusals l1 l2 s0 s1 s2 = some res) (hP : va_P E.1 vwCl (W_X5_tell E a_t a_now a_refusals a_kept a_trial a_reader a_shelves a_one a_two a_search a_outs a_now_ponds a_now_kinds a_now_weights a_now_cells a_now_faces a_now_pledges c_t c_now c_refusals) H) (hD : va_D A (W_X5_tell E a_t a_now a_refusals a_kept a_trial a_reader a_shelves a_one a_two a_search a_outs a_now_ponds a_now_kinds a_now_weights a_now_cells a_now_faces a_now_pledges c_t c_now c_refusals)) (hS : va_S A s.heap H locs) (hl : lv_has ls 4 [(0, .ref a_t), (1, .int l1), (2, .int l2)]) : W p l e r_X5_tell s m args below meth c H locs 0 0 (MQ below (qI E A (res.1) (W_X5_tell E a_t a_now a_refusals a_kept a_trial a_reader a_shelves a_one a_two a_search a_outs a_now_ponds a_now_kinds a_now_weights a_now_cells a_now_faces a_now_pledges c_t (res.2.1) (res.2.2))) args s 0 0 A) (F0 m 22 ls [.int s0, .int s1, .int s2]) := by
  obtain ⟨hx, hb, hml, hr, hlk, hown, hts, hG, hA⟩ := id X
  have hK := hG.1
  have hN := hG.2.1
  unfold f_X5_tell_b22 at h
  obtain ⟨v1, hv1, h⟩ := bind_of h
  refine after_i X (run_S X (c_X5_isWithin l E s2 s1 s0 H.size v1 hv1) (va_cwS 3 hts gX5_tell_X5_isWithin rfl rfl rfl hd_X5_isWithin ⟨(Nat.le_of_ble_eq_true rfl), (Nat.le_of_ble_eq_true rfl)⟩) hP hD hS [] rfl rfl hl.1 (rest := []) rfl rfl (Nat.le_of_ble_eq_true rfl) dX5_tell_22) hP hD hS [] rfl (ws1 := (W_X5_tell E a_t a_now a_refusals a_kept a_trial a_reader a_shelves a_one a_two a_search a_outs a_now_ponds a_now_kinds a_now_weights a_now_cells a_now_faces a_now_pledges c_t c_now c_refusals)) rfl (fun H locs hP hD hS => ?_)
  refine lv_if_ne (tgt := 35) hx hb dX5_tell_25 (by decide) (fun hc25 => ?_) (fun hc25 => ?_)
  · have h := if_f h hc25
    refine lv_iload_n hx hb dX5_tell_35 rfl (lv_at hl 1 rfl) ?_
    refine lv_if_ne (tgt := 58) hx hb dX5_tell_36 (by decide) (fun hc36 => ?_) (fun hc36 => ?_)
    · have h := if_f h hc36
      refine lv_iload_n hx hb dX5_tell_58 rfl (lv_at hl 1 rfl) ?_
      refine lv_iconst (v := (1 : Int32)) hx hb dX5_tell_59 (by decide) ?_
      refine lv_icmp_ne (tgt := 82) hx hb dX5_tell_60 (by decide) (fun hc60 => ?_) (fun hc60 => ?_)
      · have h := if_f h hc60
        refine lv_aload_n hx hb dX5_tell_82 rfl (lv_at hl 0 rfl) ?_
        refine va_get (D := E.1) (ci := 5) (v := .ref a_now) (C := RX5) (T := TX5) (N := 11) hx hb hts iX5_tell_X5 hown hK hP 0 rfl rfl 0 (by decide) (hts (.fieldLink RX5 10 "LeftIsAgreedOn" "now" "LLeftIsAgreedOn$Island;") (List.mem_of_getElem? (i := 1) rfl)) (fun _ h9 => h9) rfl dX5_tell_83 ?_
        refine va_getN (D := E.1) (ci := 0) (v := .int (c_now 3)) (C := RX0) (T := TX0) (N := 14) hx hb hts iX5_tell_X0 hown hK hP 1 rfl rfl 3 (by decide) (va_Nw.use rfl (nF_7 hN)) (fun _ h9 => h9) rfl dX5_tell_86 ?_
        refine lv_istore_n (lv' := [(3, .int (c_now 3)), (0, .ref a_t), (1, .int l1), (2, .int l2)]) hx hb dX5_tell_89 rfl hl (by decide) rfl (fun ls hl => ?_)
        refine lv_aload_n hx hb dX5_tell_90 rfl (lv_at hl 1 rfl) ?_
        refine va_get (D := E.1) (ci := 5) (v := .ref a_now) (C := RX5) (T := TX5) (N := 11) hx hb hts iX5_tell_X5 hown hK hP 0 rfl rfl 0 (by decide) (hts (.fieldLink RX5 10 "LeftIsAgreedOn" "now" "LLeftIsAgreedOn$Island;") (List.mem_of_getElem? (i := 1) rfl)) (fun _ h9 => h9) rfl dX5_tell_91 ?_
        refine lv_iload_n hx hb dX5_tell_94 rfl (lv_at hl 3 rfl) ?_
        refine va_putN (D := E.1) (ci := 0) (v := .int l2) (ty := .int) (C := RX0) (T := TX0) (N := 14) hx hb hts iX5_tell_X0 tyX0 tyX0_ok nmX0 hown hK hP hD hS 1 rfl rfl 3 (by decide) (va_Nw.use rfl (nF_7 hN)) (fun _ h9 => h9) rfl (tyX0_ok 3 (by decide)) rfl rfl (Nat.le_of_ble_eq_true rfl) dX5_tell_95 (fun H locs hP hD hS => ?_)
        have hP : va_P E.1 vwCl (W_X5_tell E a_t a_now a_refusals a_kept a_trial a_reader a_shelves a_one a_two a_search a_outs a_now_ponds a_now_kinds a_now_weights a_now_cells a_now_faces a_now_pledges c_t (upd c_now 3 l2) c_refusals) H := hP
        have hD : va_D A (W_X5_tell E a_t a_now a_refusals a_kept a_trial a_reader a_shelves a_one a_two a_search a_outs a_now_ponds a_now_kinds a_now_weights a_now_cells a_now_faces a_now_pledges c_t (upd c_now 3 l2) c_refusals) := hD
        refine lv_iload_n hx hb dX5_tell_98 rfl (lv_at hl 0 rfl) ?_
        obtain rfl := Option.some.inj h
        exact ret_i X dX5_tell_99 hP hD hS rfl
      · have h := if_t h hc60
        refine lv_aload_n hx hb dX5_tell_63 rfl (lv_at hl 0 rfl) ?_
        refine va_get (D := E.1) (ci := 5) (v := .ref a_now) (C := RX5) (T := TX5) (N := 11) hx hb hts iX5_tell_X5 hown hK hP 0 rfl rfl 0 (by decide) (hts (.fieldLink RX5 10 "LeftIsAgreedOn" "now" "LLeftIsAgreedOn$Island;") (List.mem_of_getElem? (i := 1) rfl)) (fun _ h9 => h9) rfl dX5_tell_64 ?_
        refine va_getN (D := E.1) (ci := 0) (v := .int (c_now 2)) (C := RX0) (T := TX0) (N := 14) hx hb hts iX5_tell_X0 hown hK hP 1 rfl rfl 2 (by decide) (va_Nw.use rfl (nF_6 hN)) (fun _ h9 => h9) rfl dX5_tell_67 ?_
        refine lv_istore_n (lv' := [(3, .int (c_now 2)), (0, .ref a_t), (1, .int l1), (2, .int l2)]) hx hb dX5_tell_70 rfl hl (by decide) rfl (fun ls hl => ?_)
        refine lv_aload_n hx hb dX5_tell_71 rfl (lv_at hl 1 rfl) ?_
        refine va_get (D := E.1) (ci := 5) (v := .ref a_now) (C := RX5) (T := TX5) (N := 11) hx hb hts iX5_tell_X5 hown hK hP 0 rfl rfl 0 (by decide) (hts (.fieldLink RX5 10 "LeftIsAgreedOn" "now" "LLeftIsAgreedOn$Island;") (List.mem_of_getElem? (i := 1) rfl)) (fun _ h9 => h9) rfl dX5_tell_72 ?_
        refine lv_iload_n hx hb dX5_tell_75 rfl (lv_at hl 3 rfl) ?_
        refine va_putN (D := E.1) (ci := 0) (v := .int l2) (ty := .int) (C := RX0) (T := TX0) (N := 14) hx hb hts iX5_tell_X0 tyX0 tyX0_ok nmX0 hown hK hP hD hS 1 rfl rfl 2 (by decide) (va_Nw.use rfl (nF_6 hN)) (fun _ h9 => h9) rfl (tyX0_ok 2 (by decide)) rfl rfl (Nat.le_of_ble_eq_true rfl) dX5_tell_76 (fun H locs hP hD hS => ?_)
        have hP : va_P E.1 vwCl (W_X5_tell E a_t a_now a_refusals a_kept a_trial a_reader a_shelves a_one a_two a_search a_outs a_now_ponds a_now_kinds a_now_weights a_now_cells a_now_faces a_now_pledges c_t (upd c_now 2 l2) c_refusals) H := hP
        have hD : va_D A (W_X5_tell E a_t a_now a_refusals a_kept a_trial a_reader a_shelves a_one a_two a_search a_outs a_now_ponds a_now_kinds a_now_weights a_now_cells a_now_faces a_now_pledges c_t (upd c_now 2 l2) c_refusals) := hD
        refine lv_goto (tgt := 98) hx hb dX5_tell_79 (by decide) ?_
        refine lv_iload_n hx hb dX5_tell_98 rfl (lv_at hl 0 rfl) ?_
        obtain rfl := Option.some.inj h
        exact ret_i X dX5_tell_99 hP hD hS rfl
    · have h := if_t h hc36
      refine lv_aload_n hx hb dX5_tell_39 rfl (lv_at hl 0 rfl) ?_
      refine va_get (D := E.1) (ci := 5) (v := .ref a_now) (C := RX5) (T := TX5) (N := 11) hx hb hts iX5_tell_X5 hown hK hP 0 rfl rfl 0 (by decide) (hts (.fieldLink RX5 10 "LeftIsAgreedOn" "now" "LLeftIsAgreedOn$Island;") (List.mem_of_getElem? (i := 1) rfl)) (fun _ h9 => h9) rfl dX5_tell_40 ?_
      refine va_getN (D := E.1) (ci := 0) (v := .int (c_now 1)) (C := RX0) (T := TX0) (N := 14) hx hb hts iX5_tell_X0 hown hK hP 1 rfl rfl 1 (by decide) (va_Nw.use rfl (nF_5 hN)) (fun _ h9 => h9) rfl dX5_tell_43 ?_
      refine lv_istore_n (lv' := [(3, .int (c_now 1)), (0, .ref a_t), (1, .int l1), (2, .int l2)]) hx hb dX5_tell_46 rfl hl (by decide) rfl (fun ls hl => ?_)
      refine lv_aload_n hx hb dX5_tell_47 rfl (lv_at hl 1 rfl) ?_
      refine va_get (D := E.1) (ci := 5) (v := .ref a_now) (C := RX5) (T := TX5) (N := 11) hx hb hts iX5_tell_X5 hown hK hP 0 rfl rfl 0 (by decide) (hts (.fieldLink RX5 10 "LeftIsAgreedOn" "now" "LLeftIsAgreedOn$Island;") (List.mem_of_getElem? (i := 1) rfl)) (fun _ h9 => h9) rfl dX5_tell_48 ?_
      refine lv_iload_n hx hb dX5_tell_51 rfl (lv_at hl 3 rfl) ?_
      refine va_putN (D := E.1) (ci := 0) (v := .int l2) (ty := .int) (C := RX0) (T := TX0) (N := 14) hx hb hts iX5_tell_X0 tyX0 tyX0_ok nmX0 hown hK hP hD hS 1 rfl rfl 1 (by decide) (va_Nw.use rfl (nF_5 hN)) (fun _ h9 => h9) rfl (tyX0_ok 1 (by decide)) rfl rfl (Nat.le_of_ble_eq_true rfl) dX5_tell_52 (fun H locs hP hD hS => ?_)
      have hP : va_P E.1 vwCl (W_X5_tell E a_t a_now a_refusals a_kept a_trial a_reader a_shelves a_one a_two a_search a_outs a_now_ponds a_now_kinds a_now_weights a_now_cells a_now_faces a_now_pledges c_t (upd c_now 1 l2) c_refusals) H := hP
      have hD : va_D A (W_X5_tell E a_t a_now a_refusals a_kept a_trial a_reader a_shelves a_one a_two a_search a_outs a_now_ponds a_now_kinds a_now_weights a_now_cells a_now_faces a_now_pledges c_t (upd c_now 1 l2) c_refusals) := hD
      refine lv_goto (tgt := 98) hx hb dX5_tell_55 (by decide) ?_
      refine lv_iload_n hx hb dX5_tell_98 rfl (lv_at hl 0 rfl) ?_
      obtain rfl := Option.some.inj h
      exact ret_i X dX5_tell_99 hP hD hS rfl
  · have h := if_t h hc25
    exact w_X5_tell_b28 X a_t a_now a_refusals a_kept a_trial a_reader a_shelves a_one a_two a_search a_outs a_now_ponds a_now_kinds a_now_weights a_now_cells a_now_faces a_now_pledges c_t res c_now c_refusals _ _ _ h hP hD hS (lv_sub hl [0] rfl)
set_option maxRecDepth 100000 in
set_option maxHeartbeats 4000000 in
theorem w_X5_tell (X : Ctx p m meth c cX5_tell 4 ((some .int)) s args wsX5_tell RX5 E A) (a_t : Nat) (a_now : Nat) (a_refusals : Nat) (a_kept : Nat) (a_trial : Nat) (a_reader : Nat) (a_shelves : Nat) (a_one : Nat) (a_two : Nat) (a_search : Nat) (a_outs : Nat) (a_now_ponds : Nat) (a_now_kinds : Nat) (a_now_weights : Nat) (a_now_cells : Nat) (a_now_faces : Nat) (a_now_pledges : Nat) (c_t : Nat → Int32) (res : Int32 × (Nat → Int32) × (Nat → Int32)) (c_now : Nat → Int32) (c_refusals : Nat → Int32) (l1 : Int32) (l2 : Int32) (ls : Array Slot) (H : Heap) (locs : List Loc) (h : f_X5_tell l1 l2 c_t c_now c_refusals = some res) (hP : va_P E.1 vwCl (W_X5_tell E a_t a_now a_refusals a_kept a_trial a_reader a_shelves a_one a_two a_search a_outs a_now_ponds a_now_kinds a_now_weights a_now_cells a_now_faces a_now_pledges c_t c_now c_refusals) H) (hD : va_D A (W_X5_tell E a_t a_now a_refusals a_kept a_trial a_reader a_shelves a_one a_two a_search a_outs a_now_ponds a_now_kinds a_now_weights a_now_cells a_now_faces a_now_pledges c_t c_now c_refusals)) (hS : va_S A s.heap H locs) (hl : lv_has ls 4 [(0, .ref a_t), (1, .int l1), (2, .int l2)]) : W p l e r_X5_tell s m args below meth c H locs 0 0 (MQ below (qI E A (res.1) (W_X5_tell E a_t a_now a_refusals a_kept a_trial a_reader a_shelves a_one a_two a_search a_outs a_now_ponds a_now_kinds a_now_weights a_now_cells a_now_faces a_now_pledges c_t (res.2.1) (res.2.2))) args s 0 0 A) (F0 m 0 ls []) := by
  obtain ⟨hx, hb, hml, hr, hlk, hown, hts, hG, hA⟩ := id X
  have hK := hG.1
  have hN := hG.2.1
  unfold f_X5_tell at h
  refine lv_iload_n hx hb dX5_tell_0 rfl (lv_at hl 1 rfl) ?_
  refine lv_iconst (v := (0 : Int32)) hx hb dX5_tell_1 (by decide) ?_
  refine lv_iconst (v := (2 : Int32)) hx hb dX5_tell_2 (by decide) ?_
  obtain ⟨v1, hv1, h⟩ := bind_of h
  refine after_i X (run_S X (c_X5_isWithin l E l1 (0 : Int32) (2 : Int32) H.size v1 hv1) (va_cwS 3 hts gX5_tell_X5_isWithin rfl rfl rfl hd_X5_isWithin ⟨(Nat.le_of_ble_eq_true rfl), (Nat.le_of_ble_eq_true rfl)⟩) hP hD hS [] rfl rfl hl.1 (rest := []) rfl rfl (Nat.le_of_ble_eq_true rfl) dX5_tell_3) hP hD hS [] rfl (ws1 := (W_X5_tell E a_t a_now a_refusals a_kept a_trial a_reader a_shelves a_one a_two a_search a_outs a_now_ponds a_now_kinds a_now_weights a_now_cells a_now_faces a_now_pledges c_t c_now c_refusals)) rfl (fun H locs hP hD hS => ?_)
  refine lv_if_eq (tgt := 28) hx hb dX5_tell_6 (by decide) (fun hc6 => ?_) (fun hc6 => ?_)
  · have h := if_t h hc6
    exact w_X5_tell_b28 X a_t a_now a_refusals a_kept a_trial a_reader a_shelves a_one a_two a_search a_outs a_now_ponds a_now_kinds a_now_weights a_now_cells a_now_faces a_now_pledges c_t res c_now c_refusals _ _ _ h hP hD hS (lv_sub hl [0] rfl)
  · have h := if_f h hc6
    refine lv_iload_n hx hb dX5_tell_9 rfl (lv_at hl 2 rfl) ?_
    refine lv_iconst (v := (0 : Int32)) hx hb dX5_tell_10 (by decide) ?_
    refine lv_iload_n hx hb dX5_tell_11 rfl (lv_at hl 1 rfl) ?_
    refine lv_iconst (v := (2 : Int32)) hx hb dX5_tell_12 (by decide) ?_
    refine lv_icmp_ne (tgt := 21) hx hb dX5_tell_13 (by decide) (fun hc13 => ?_) (fun hc13 => ?_)
    · have h := if_f h hc13
      refine lv_iconst (v := (1 : Int32)) hx hb dX5_tell_21 (by decide) ?_
      exact w_X5_tell_b22 X a_t a_now a_refusals a_kept a_trial a_reader a_shelves a_one a_two a_search a_outs a_now_ponds a_now_kinds a_now_weights a_now_cells a_now_faces a_now_pledges c_t res c_now c_refusals l1 l2 (1 : Int32) (0 : Int32) l2 _ _ _ h hP hD hS (lv_sub hl [0, 1, 2] rfl)
    · have h := if_t h hc13
      refine lv_bipush (v := (12 : Int32)) hx hb dX5_tell_16 (by decide) ?_
      refine lv_goto (tgt := 22) hx hb dX5_tell_18 (by decide) ?_
      exact w_X5_tell_b22 X a_t a_now a_refusals a_kept a_trial a_reader a_shelves a_one a_two a_search a_outs a_now_ponds a_now_kinds a_now_weights a_now_cells a_now_faces a_now_pledges c_t res c_now c_refusals l1 l2 (12 : Int32) (0 : Int32) l2 _ _ _ h hP hD hS (lv_sub hl [0, 1, 2] rfl)
end
set_option maxRecDepth 100000 in
theorem c_X5_tell (l : Launch) (E : Env0) (a_t : Nat) (a_now : Nat) (a_refusals : Nat) (a_kept : Nat) (a_trial : Nat) (a_reader : Nat) (a_shelves : Nat) (a_one : Nat) (a_two : Nat) (a_search : Nat) (a_outs : Nat) (a_now_ponds : Nat) (a_now_kinds : Nat) (a_now_weights : Nat) (a_now_cells : Nat) (a_now_faces : Nat) (a_now_pledges : Nat) (l1 : Int32) (l2 : Int32) (c_t : Nat → Int32) (c_now : Nat → Int32) (c_refusals : Nat → Int32) (sz : Nat) (res : Int32 × (Nat → Int32) × (Nat → Int32)) (h : f_X5_tell l1 l2 c_t c_now c_refusals = some res) : Met l yX5_tell wsX5_tell r_X5_tell (cPre E [.ref a_t, .int l1, .int l2] (W_X5_tell E a_t a_now a_refusals a_kept a_trial a_reader a_shelves a_one a_two a_search a_outs a_now_ponds a_now_kinds a_now_weights a_now_cells a_now_faces a_now_pledges c_t c_now c_refusals) sz) (qI E (va_A (W_X5_tell E a_t a_now a_refusals a_kept a_trial a_reader a_shelves a_one a_two a_search a_outs a_now_ponds a_now_kinds a_now_weights a_now_cells a_now_faces a_now_pledges c_t c_now c_refusals) sz) (res.1) (W_X5_tell E a_t a_now a_refusals a_kept a_trial a_reader a_shelves a_one a_two a_search a_outs a_now_ponds a_now_kinds a_now_weights a_now_cells a_now_faces a_now_pledges c_t (res.2.1) (res.2.2))) 0 0 (va_A (W_X5_tell E a_t a_now a_refusals a_kept a_trial a_reader a_shelves a_one a_two a_search a_outs a_now_ponds a_now_kinds a_now_weights a_now_cells a_now_faces a_now_pledges c_t c_now c_refusals) sz) :=
  met_of (Qc := fun A => qI E A (res.1) (W_X5_tell E a_t a_now a_refusals a_kept a_trial a_reader a_shelves a_one a_two a_search a_outs a_now_ponds a_now_kinds a_now_weights a_now_cells a_now_faces a_now_pledges c_t (res.2.1) (res.2.2))) (by decide) rfl (Nat.le_of_ble_eq_true rfl) (fun p e s m args below meth c X hP hD hS ls hl => w_X5_tell X a_t a_now a_refusals a_kept a_trial a_reader a_shelves a_one a_two a_search a_outs a_now_ponds a_now_kinds a_now_weights a_now_cells a_now_faces a_now_pledges c_t res c_now c_refusals l1 l2 ls _ _ h hP hD hS hl)
-- ===== X5_isFor
noncomputable abbrev W_X5_isFor (E : Env0) (a_t : Nat) (a_now : Nat) (a_now_pledges : Nat) (a_refusals : Nat) (a_kept : Nat) (a_trial : Nat) (a_reader : Nat) (a_shelves : Nat) (a_one : Nat) (a_two : Nat) (a_search : Nat) (a_outs : Nat) (a_now_ponds : Nat) (a_now_kinds : Nat) (a_now_weights : Nat) (a_now_cells : Nat) (a_now_faces : Nat) (c_t : Nat → Int32) (c_now : Nat → Int32) (c_now_pledges : Nat → Int32) (c_refusals : Nat → Int32) : va_W := [(a_t, .inr (5, [.ref a_now, .ref a_kept, .ref a_trial, .ref a_reader, .ref a_shelves, .ref a_one, .ref a_two, .ref a_search, .ref a_outs, .ref a_refusals, .int (c_t 10)])), (a_now, .inr (0, [.int (c_now 0), .int (c_now 1), .int (c_now 2), .int (c_now 3), .int (c_now 4), .int (c_now 5), .int (c_now 6), .int (c_now 7), .ref a_now_ponds, .ref a_now_kinds, .ref a_now_weights, .ref a_now_cells, .ref a_now_faces, .ref a_now_pledges])), (a_now_pledges, .inl (eI E, 8, .inl c_now_pledges)), (a_refusals, .inl (eI E, 5, .inl c_refusals))]
noncomputable abbrev r_X5_isFor : Room := { frames := 2, cells := 0, slots := 0, locals := 43 }
theorem hd_X5_isFor : yX5_isFor.cls ≠ "java/lang/invoke/MethodHandle" ∧ yX5_isFor.cls ≠ "java/lang/invoke/VarHandle" ∧ (parseMethodDescriptor yX5_isFor.desc).map (fun d => d.parameters.length) = some 2 := by decide +kernel
theorem hV_X5_isFor : yX5_isFor.cls = RX5 ∧ yX5_isFor.cls ≠ "java/lang/invoke/MethodHandle" ∧ yX5_isFor.cls ≠ "java/lang/invoke/VarHandle" ∧ (parseMethodDescriptor yX5_isFor.desc).map (fun d => d.parameters.length) = some 2 := ⟨rfl, hd_X5_isFor⟩
theorem iX5_isFor_X0 : ∀ w ∈ wsX00, w ∈ wsX5_isFor := fun _ h => List.mem_cons_of_mem _ (List.mem_append_right _ (h))
theorem iX5_isFor_X5 : ∀ w ∈ wsX50, w ∈ wsX5_isFor := fun _ h => List.mem_cons_of_mem _ (List.mem_append_left _ (List.mem_append_right _ (h)))
section
variable {p : Program} {l : Launch} {e : Env} {s : State} {m : MethodId} {args : Array Value} {below : List Frame} {meth : Method} {c : Code} {E : Env0} {A : Nat → Prop}
set_option maxRecDepth 100000 in
set_option maxHeartbeats 4000000 in
theorem w_X5_isFor_b20 (X : Ctx p m meth c cX5_isFor 4 ((some .int)) s args wsX5_isFor RX5 E A) (a_t : Nat) (a_now : Nat) (a_now_pledges : Nat) (a_refusals : Nat) (a_kept : Nat) (a_trial : Nat) (a_reader : Nat) (a_shelves : Nat) (a_one : Nat) (a_two : Nat) (a_search : Nat) (a_outs : Nat) (a_now_ponds : Nat) (a_now_kinds : Nat) (a_now_weights : Nat) (a_now_cells : Nat) (a_now_faces : Nat) (c_t : Nat → Int32) (c_now : Nat → Int32) (res : Int32 × (Nat → Int32) × (Nat → Int32)) (c_now_pledges : Nat → Int32) (c_refusals : Nat → Int32) (ls : Array Slot) (H : Heap) (locs : List Loc) (h : f_X5_isFor_b20 c_t c_now c_now_pledges c_refusals = some res) (hP : va_P E.1 vwCl (W_X5_isFor E a_t a_now a_now_pledges a_refusals a_kept a_trial a_reader a_shelves a_one a_two a_search a_outs a_now_ponds a_now_kinds a_now_weights a_now_cells a_now_faces c_t c_now c_now_pledges c_refusals) H) (hD : va_D A (W_X5_isFor E a_t a_now a_now_pledges a_refusals a_kept a_trial a_reader a_shelves a_one a_two a_search a_outs a_now_ponds a_now_kinds a_now_weights a_now_cells a_now_faces c_t c_now c_now_pledges c_refusals)) (hS : va_S A s.heap H locs) (hl : lv_has ls 4 [(0, .ref a_t)]) : W p l e r_X5_isFor s m args below meth c H locs 0 0 (MQ below (qI E A (res.1) (W_X5_isFor E a_t a_now a_now_pledges a_refusals a_kept a_trial a_reader a_shelves a_one a_two a_search a_outs a_now_ponds a_now_kinds a_now_weights a_now_cells a_now_faces c_t c_now (res.2.1) (res.2.2))) args s 0 0 A) (F0 m 20 ls []) := by
  obtain ⟨hx, hb, hml, hr, hlk, hown, hts, hG, hA⟩ := id X
  have hK := hG.1
  have hN := hG.2.1
  unfold f_X5_isFor_b20 at h
  refine lv_aload_n hx hb dX5_isFor_20 rfl (lv_at hl 0 rfl) ?_
  refine lv_bipush (v := (-2 : Int32)) hx hb dX5_isFor_21 (by decide) ?_
  obtain ⟨v1, hv1, h⟩ := bind_of h
  refine after_i X (run_V X (c_X5_refuse l E a_t a_refusals a_now a_kept a_trial a_reader a_shelves a_one a_two a_search a_outs (-2 : Int32) c_t c_refusals H.size v1 hv1) (cwV 1 hts gX5_isFor_X5_refuse rfl rfl rfl hV_X5_refuse ⟨(Nat.le_of_ble_eq_true rfl), (Nat.le_of_ble_eq_true rfl)⟩) hP hD hS [0, 3] rfl rfl hl.1 (ci := 5) rfl rfl rfl (rest := []) rfl rfl (Nat.le_of_ble_eq_true rfl) dX5_isFor_23) hP hD hS [0, 3] rfl (ws1 := (W_X5_isFor E a_t a_now a_now_pledges a_refusals a_kept a_trial a_reader a_shelves a_one a_two a_search a_outs a_now_ponds a_now_kinds a_now_weights a_now_cells a_now_faces c_t c_now c_now_pledges (v1.2))) rfl (fun H locs hP hD hS => ?_)
  obtain rfl := Option.some.inj h
  exact ret_i X dX5_isFor_26 hP hD hS rfl
set_option maxRecDepth 100000 in
set_option maxHeartbeats 4000000 in
theorem w_X5_isFor (X : Ctx p m meth c cX5_isFor 4 ((some .int)) s args wsX5_isFor RX5 E A) (a_t : Nat) (a_now : Nat) (a_now_pledges : Nat) (a_refusals : Nat) (a_kept : Nat) (a_trial : Nat) (a_reader : Nat) (a_shelves : Nat) (a_one : Nat) (a_two : Nat) (a_search : Nat) (a_outs : Nat) (a_now_ponds : Nat) (a_now_kinds : Nat) (a_now_weights : Nat) (a_now_cells : Nat) (a_now_faces : Nat) (c_t : Nat → Int32) (c_now : Nat → Int32) (res : Int32 × (Nat → Int32) × (Nat → Int32)) (c_now_pledges : Nat → Int32) (c_refusals : Nat → Int32) (l1 : Int32) (l2 : Int32) (ls : Array Slot) (H : Heap) (locs : List Loc) (h : f_X5_isFor l1 l2 c_t c_now c_now_pledges c_refusals = some res) (hP : va_P E.1 vwCl (W_X5_isFor E a_t a_now a_now_pledges a_refusals a_kept a_trial a_reader a_shelves a_one a_two a_search a_outs a_now_ponds a_now_kinds a_now_weights a_now_cells a_now_faces c_t c_now c_now_pledges c_refusals) H) (hD : va_D A (W_X5_isFor E a_t a_now a_now_pledges a_refusals a_kept a_trial a_reader a_shelves a_one a_two a_search a_outs a_now_ponds a_now_kinds a_now_weights a_now_cells a_now_faces c_t c_now c_now_pledges c_refusals)) (hS : va_S A s.heap H locs) (hl : lv_has ls 4 [(0, .ref a_t), (1, .int l1), (2, .int l2)]) : W p l e r_X5_isFor s m args below meth c H locs 0 0 (MQ below (qI E A (res.1) (W_X5_isFor E a_t a_now a_now_pledges a_refusals a_kept a_trial a_reader a_shelves a_one a_two a_search a_outs a_now_ponds a_now_kinds a_now_weights a_now_cells a_now_faces c_t c_now (res.2.1) (res.2.2))) args s 0 0 A) (F0 m 0 ls []) := by
  obtain ⟨hx, hb, hml, hr, hlk, hown, hts, hG, hA⟩ := id X
  have hK := hG.1
  have hN := hG.2.1
  unfold f_X5_isFor at h
  refine lv_aload_n hx hb dX5_isFor_0 rfl (lv_at hl 0 rfl) ?_
  refine va_get (D := E.1) (ci := 5) (v := .ref a_now) (C := RX5) (T := TX5) (N := 11) hx hb hts iX5_isFor_X5 hown hK hP 0 rfl rfl 0 (by decide) (hts (.fieldLink RX5 10 "LeftIsAgreedOn" "now" "LLeftIsAgreedOn$Island;") (List.mem_of_getElem? (i := 1) rfl)) (fun _ h9 => h9) rfl dX5_isFor_1 ?_
  refine lv_iload_n hx hb dX5_isFor_4 rfl (lv_at hl 1 rfl) ?_
  obtain ⟨v1, hv1, h⟩ := bind_of h
  refine after_i X (run_V X (c_X0_isOne l E a_now a_now_ponds a_now_kinds a_now_weights a_now_cells a_now_faces a_now_pledges l1 c_now H.size v1 hv1) (cwV 1 hts gX5_isFor_X0_isOne rfl rfl rfl hV_X0_isOne ⟨(Nat.le_of_ble_eq_true rfl), (Nat.le_of_ble_eq_true rfl)⟩) hP hD hS [1] rfl rfl hl.1 (ci := 0) rfl rfl rfl (rest := []) rfl rfl (Nat.le_of_ble_eq_true rfl) dX5_isFor_5) hP hD hS [1] rfl (ws1 := (W_X5_isFor E a_t a_now a_now_pledges a_refusals a_kept a_trial a_reader a_shelves a_one a_two a_search a_outs a_now_ponds a_now_kinds a_now_weights a_now_cells a_now_faces c_t c_now c_now_pledges c_refusals)) rfl (fun H locs hP hD hS => ?_)
  refine lv_if_eq (tgt := 20) hx hb dX5_isFor_8 (by decide) (fun hc8 => ?_) (fun hc8 => ?_)
  · have h := if_t h hc8
    exact w_X5_isFor_b20 X a_t a_now a_now_pledges a_refusals a_kept a_trial a_reader a_shelves a_one a_two a_search a_outs a_now_ponds a_now_kinds a_now_weights a_now_cells a_now_faces c_t c_now res c_now_pledges c_refusals _ _ _ h hP hD hS (lv_sub hl [0] rfl)
  · have h := if_f h hc8
    refine lv_iload_n hx hb dX5_isFor_11 rfl (lv_at hl 2 rfl) ?_
    refine lv_iconst (v := (0 : Int32)) hx hb dX5_isFor_12 (by decide) ?_
    refine lv_iconst (v := (1 : Int32)) hx hb dX5_isFor_13 (by decide) ?_
    obtain ⟨v2, hv2, h⟩ := bind_of h
    refine after_i X (run_S X (c_X5_isWithin l E l2 (0 : Int32) (1 : Int32) H.size v2 hv2) (va_cwS 3 hts gX5_isFor_X5_isWithin rfl rfl rfl hd_X5_isWithin ⟨(Nat.le_of_ble_eq_true rfl), (Nat.le_of_ble_eq_true rfl)⟩) hP hD hS [] rfl rfl hl.1 (rest := []) rfl rfl (Nat.le_of_ble_eq_true rfl) dX5_isFor_14) hP hD hS [] rfl (ws1 := (W_X5_isFor E a_t a_now a_now_pledges a_refusals a_kept a_trial a_reader a_shelves a_one a_two a_search a_outs a_now_ponds a_now_kinds a_now_weights a_now_cells a_now_faces c_t c_now c_now_pledges c_refusals)) rfl (fun H locs hP hD hS => ?_)
    refine lv_if_ne (tgt := 27) hx hb dX5_isFor_17 (by decide) (fun hc17 => ?_) (fun hc17 => ?_)
    · have h := if_f h hc17
      refine lv_aload_n hx hb dX5_isFor_27 rfl (lv_at hl 0 rfl) ?_
      refine va_get (D := E.1) (ci := 5) (v := .ref a_now) (C := RX5) (T := TX5) (N := 11) hx hb hts iX5_isFor_X5 hown hK hP 0 rfl rfl 0 (by decide) (hts (.fieldLink RX5 10 "LeftIsAgreedOn" "now" "LLeftIsAgreedOn$Island;") (List.mem_of_getElem? (i := 1) rfl)) (fun _ h9 => h9) rfl dX5_isFor_28 ?_
      refine va_getN (D := E.1) (ci := 0) (v := .ref a_now_pledges) (C := RX0) (T := TX0) (N := 14) hx hb hts iX5_isFor_X0 hown hK hP 1 rfl rfl 13 (by decide) (va_Nw.use rfl (nF_8 hN)) (fun _ h9 => h9) rfl dX5_isFor_31 ?_
      refine lv_iload_n hx hb dX5_isFor_34 rfl (lv_at hl 1 rfl) ?_
      obtain ⟨hz35, h⟩ := chk_of h
      refine ld_i X hP 2 rfl (inb.vp hz35) (v := (c_now_pledges (l1).toNatClampNeg)) rfl dX5_isFor_35 ?_
      refine lv_istore_n (lv' := [(3, .int (c_now_pledges (l1).toNatClampNeg)), (0, .ref a_t), (1, .int l1), (2, .int l2)]) hx hb dX5_isFor_36 rfl hl (by decide) rfl (fun ls hl => ?_)
      refine lv_aload_n hx hb dX5_isFor_37 rfl (lv_at hl 1 rfl) ?_
      refine va_get (D := E.1) (ci := 5) (v := .ref a_now) (C := RX5) (T := TX5) (N := 11) hx hb hts iX5_isFor_X5 hown hK hP 0 rfl rfl 0 (by decide) (hts (.fieldLink RX5 10 "LeftIsAgreedOn" "now" "LLeftIsAgreedOn$Island;") (List.mem_of_getElem? (i := 1) rfl)) (fun _ h9 => h9) rfl dX5_isFor_38 ?_
      refine va_getN (D := E.1) (ci := 0) (v := .ref a_now_pledges) (C := RX0) (T := TX0) (N := 14) hx hb hts iX5_isFor_X0 hown hK hP 1 rfl rfl 13 (by decide) (va_Nw.use rfl (nF_8 hN)) (fun _ h9 => h9) rfl dX5_isFor_41 ?_
      refine lv_iload_n hx hb dX5_isFor_44 rfl (lv_at hl 2 rfl) ?_
      refine lv_iload_n hx hb dX5_isFor_45 rfl (lv_at hl 3 rfl) ?_
      obtain ⟨hz46, h⟩ := chk_of h
      refine st_i X hP hD hS 2 rfl (inb.vp hz46) (k := (l1).toNatClampNeg) rfl (ws1 := (W_X5_isFor E a_t a_now a_now_pledges a_refusals a_kept a_trial a_reader a_shelves a_one a_two a_search a_outs a_now_ponds a_now_kinds a_now_weights a_now_cells a_now_faces c_t c_now (upd c_now_pledges ((l1).toNatClampNeg) l2) c_refusals)) rfl dX5_isFor_46 (fun H locs hP hD hS => ?_)
      refine lv_iload_n hx hb dX5_isFor_47 rfl (lv_at hl 0 rfl) ?_
      obtain rfl := Option.some.inj h
      exact ret_i X dX5_isFor_48 hP hD hS rfl
    · have h := if_t h hc17
      exact w_X5_isFor_b20 X a_t a_now a_now_pledges a_refusals a_kept a_trial a_reader a_shelves a_one a_two a_search a_outs a_now_ponds a_now_kinds a_now_weights a_now_cells a_now_faces c_t c_now res c_now_pledges c_refusals _ _ _ h hP hD hS (lv_sub hl [0] rfl)
end
set_option maxRecDepth 100000 in
theorem c_X5_isFor (l : Launch) (E : Env0) (a_t : Nat) (a_now : Nat) (a_now_pledges : Nat) (a_refusals : Nat) (a_kept : Nat) (a_trial : Nat) (a_reader : Nat) (a_shelves : Nat) (a_one : Nat) (a_two : Nat) (a_search : Nat) (a_outs : Nat) (a_now_ponds : Nat) (a_now_kinds : Nat) (a_now_weights : Nat) (a_now_cells : Nat) (a_now_faces : Nat) (l1 : Int32) (l2 : Int32) (c_t : Nat → Int32) (c_now : Nat → Int32) (c_now_pledges : Nat → Int32) (c_refusals : Nat → Int32) (sz : Nat) (res : Int32 × (Nat → Int32) × (Nat → Int32)) (h : f_X5_isFor l1 l2 c_t c_now c_now_pledges c_refusals = some res) : Met l yX5_isFor wsX5_isFor r_X5_isFor (cPre E [.ref a_t, .int l1, .int l2] (W_X5_isFor E a_t a_now a_now_pledges a_refusals a_kept a_trial a_reader a_shelves a_one a_two a_search a_outs a_now_ponds a_now_kinds a_now_weights a_now_cells a_now_faces c_t c_now c_now_pledges c_refusals) sz) (qI E (va_A (W_X5_isFor E a_t a_now a_now_pledges a_refusals a_kept a_trial a_reader a_shelves a_one a_two a_search a_outs a_now_ponds a_now_kinds a_now_weights a_now_cells a_now_faces c_t c_now c_now_pledges c_refusals) sz) (res.1) (W_X5_isFor E a_t a_now a_now_pledges a_refusals a_kept a_trial a_reader a_shelves a_one a_two a_search a_outs a_now_ponds a_now_kinds a_now_weights a_now_cells a_now_faces c_t c_now (res.2.1) (res.2.2))) 0 0 (va_A (W_X5_isFor E a_t a_now a_now_pledges a_refusals a_kept a_trial a_reader a_shelves a_one a_two a_search a_outs a_now_ponds a_now_kinds a_now_weights a_now_cells a_now_faces c_t c_now c_now_pledges c_refusals) sz) :=
  met_of (Qc := fun A => qI E A (res.1) (W_X5_isFor E a_t a_now a_now_pledges a_refusals a_kept a_trial a_reader a_shelves a_one a_two a_search a_outs a_now_ponds a_now_kinds a_now_weights a_now_cells a_now_faces c_t c_now (res.2.1) (res.2.2))) (by decide) rfl (Nat.le_of_ble_eq_true rfl) (fun p e s m args below meth c X hP hD hS ls hl => w_X5_isFor X a_t a_now a_now_pledges a_refusals a_kept a_trial a_reader a_shelves a_one a_two a_search a_outs a_now_ponds a_now_kinds a_now_weights a_now_cells a_now_faces c_t c_now res c_now_pledges c_refusals l1 l2 ls _ _ h hP hD hS hl)
-- ===== X5_put
noncomputable abbrev W_X5_put (E : Env0) (a_t : Nat) (a_now : Nat) (a_now_cells : Nat) (a_now_faces : Nat) (a_now_ponds : Nat) (a_refusals : Nat) (a_kept : Nat) (a_trial : Nat) (a_reader : Nat) (a_shelves : Nat) (a_one : Nat) (a_two : Nat) (a_search : Nat) (a_outs : Nat) (a_now_kinds : Nat) (a_now_weights : Nat) (a_now_pledges : Nat) (c_t : Nat → Int32) (c_now : Nat → Int32) (c_now_cells : Nat → Int32) (c_now_faces : Nat → Int32) (c_now_ponds : Nat → Int32) (c_refusals : Nat → Int32) : va_W := [(a_t, .inr (5, [.ref a_now, .ref a_kept, .ref a_trial, .ref a_reader, .ref a_shelves, .ref a_one, .ref a_two, .ref a_search, .ref a_outs, .ref a_refusals, .int (c_t 10)])), (a_now, .inr (0, [.int (c_now 0), .int (c_now 1), .int (c_now 2), .int (c_now 3), .int (c_now 4), .int (c_now 5), .int (c_now 6), .int (c_now 7), .ref a_now_ponds, .ref a_now_kinds, .ref a_now_weights, .ref a_now_cells, .ref a_now_faces, .ref a_now_pledges])), (a_now_cells, .inl (eI E, 8, .inl c_now_cells)), (a_now_faces, .inl (eI E, 8, .inl c_now_faces)), (a_now_ponds, .inl (eZ E, 70, .inl c_now_ponds)), (a_refusals, .inl (eI E, 5, .inl c_refusals))]
noncomputable abbrev r_X5_put : Room := { frames := 2, cells := 0, slots := 0, locals := 43 }
theorem hd_X5_put : yX5_put.cls ≠ "java/lang/invoke/MethodHandle" ∧ yX5_put.cls ≠ "java/lang/invoke/VarHandle" ∧ (parseMethodDescriptor yX5_put.desc).map (fun d => d.parameters.length) = some 3 := by decide +kernel
theorem hV_X5_put : yX5_put.cls = RX5 ∧ yX5_put.cls ≠ "java/lang/invoke/MethodHandle" ∧ yX5_put.cls ≠ "java/lang/invoke/VarHandle" ∧ (parseMethodDescriptor yX5_put.desc).map (fun d => d.parameters.length) = some 3 := ⟨rfl, hd_X5_put⟩
theorem iX5_put_X0 : ∀ w ∈ wsX00, w ∈ wsX5_put := fun _ h => List.mem_cons_of_mem _ (List.mem_append_right _ (h))
theorem iX5_put_X5 : ∀ w ∈ wsX50, w ∈ wsX5_put := fun _ h => List.mem_cons_of_mem _ (List.mem_append_left _ (List.mem_append_right _ (h)))
section
variable {p : Program} {l : Launch} {e : Env} {s : State} {m : MethodId} {args : Array Value} {below : List Frame} {meth : Method} {c : Code} {E : Env0} {A : Nat → Prop}
set_option maxRecDepth 100000 in
set_option maxHeartbeats 4000000 in
theorem w_X5_put_b29 (X : Ctx p m meth c cX5_put 5 ((some .int)) s args wsX5_put RX5 E A) (a_t : Nat) (a_now : Nat) (a_now_cells : Nat) (a_now_faces : Nat) (a_now_ponds : Nat) (a_refusals : Nat) (a_kept : Nat) (a_trial : Nat) (a_reader : Nat) (a_shelves : Nat) (a_one : Nat) (a_two : Nat) (a_search : Nat) (a_outs : Nat) (a_now_kinds : Nat) (a_now_weights : Nat) (a_now_pledges : Nat) (c_t : Nat → Int32) (c_now : Nat → Int32) (c_now_ponds : Nat → Int32) (res : Int32 × (Nat → Int32) × (Nat → Int32) × (Nat → Int32)) (c_now_cells : Nat → Int32) (c_now_faces : Nat → Int32) (c_refusals : Nat → Int32) (ls : Array Slot) (H : Heap) (locs : List Loc) (h : f_X5_put_b29 c_t c_now c_now_ponds c_now_cells c_now_faces c_refusals = some res) (hP : va_P E.1 vwCl (W_X5_put E a_t a_now a_now_cells a_now_faces a_now_ponds a_refusals a_kept a_trial a_reader a_shelves a_one a_two a_search a_outs a_now_kinds a_now_weights a_now_pledges c_t c_now c_now_cells c_now_faces c_now_ponds c_refusals) H) (hD : va_D A (W_X5_put E a_t a_now a_now_cells a_now_faces a_now_ponds a_refusals a_kept a_trial a_reader a_shelves a_one a_two a_search a_outs a_now_kinds a_now_weights a_now_pledges c_t c_now c_now_cells c_now_faces c_now_ponds c_refusals)) (hS : va_S A s.heap H locs) (hl : lv_has ls 5 [(0, .ref a_t)]) : W p l e r_X5_put s m args below meth c H locs 0 0 (MQ below (qI E A (res.1) (W_X5_put E a_t a_now a_now_cells a_now_faces a_now_ponds a_refusals a_kept a_trial a_reader a_shelves a_one a_two a_search a_outs a_now_kinds a_now_weights a_now_pledges c_t c_now (res.2.1) (res.2.2.1) c_now_ponds (res.2.2.2))) args s 0 0 A) (F0 m 29 ls []) := by
  obtain ⟨hx, hb, hml, hr, hlk, hown, hts, hG, hA⟩ := id X
  have hK := hG.1
  have hN := hG.2.1
  unfold f_X5_put_b29 at h
  refine lv_aload_n hx hb dX5_put_29 rfl (lv_at hl 0 rfl) ?_
  refine lv_bipush (v := (-2 : Int32)) hx hb dX5_put_30 (by decide) ?_
  obtain ⟨v1, hv1, h⟩ := bind_of h
  refine after_i X (run_V X (c_X5_refuse l E a_t a_refusals a_now a_kept a_trial a_reader a_shelves a_one a_two a_search a_outs (-2 : Int32) c_t c_refusals H.size v1 hv1) (cwV 1 hts gX5_put_X5_refuse rfl rfl rfl hV_X5_refuse ⟨(Nat.le_of_ble_eq_true rfl), (Nat.le_of_ble_eq_true rfl)⟩) hP hD hS [0, 5] rfl rfl hl.1 (ci := 5) rfl rfl rfl (rest := []) rfl rfl (Nat.le_of_ble_eq_true rfl) dX5_put_32) hP hD hS [0, 5] rfl (ws1 := (W_X5_put E a_t a_now a_now_cells a_now_faces a_now_ponds a_refusals a_kept a_trial a_reader a_shelves a_one a_two a_search a_outs a_now_kinds a_now_weights a_now_pledges c_t c_now c_now_cells c_now_faces c_now_ponds (v1.2))) rfl (fun H locs hP hD hS => ?_)
  obtain rfl := Option.some.inj h
  exact ret_i X dX5_put_35 hP hD hS rfl
set_option maxRecDepth 100000 in
set_option maxHeartbeats 4000000 in
theorem w_X5_put (X : Ctx p m meth c cX5_put 5 ((some .int)) s args wsX5_put RX5 E A) (a_t : Nat) (a_now : Nat) (a_now_cells : Nat) (a_now_faces : Nat) (a_now_ponds : Nat) (a_refusals : Nat) (a_kept : Nat) (a_trial : Nat) (a_reader : Nat) (a_shelves : Nat) (a_one : Nat) (a_two : Nat) (a_search : Nat) (a_outs : Nat) (a_now_kinds : Nat) (a_now_weights : Nat) (a_now_pledges : Nat) (c_t : Nat → Int32) (c_now : Nat → Int32) (c_now_ponds : Nat → Int32) (res : Int32 × (Nat → Int32) × (Nat → Int32) × (Nat → Int32)) (c_now_cells : Nat → Int32) (c_now_faces : Nat → Int32) (c_refusals : Nat → Int32) (l1 : Int32) (l2 : Int32) (l3 : Int32) (ls : Array Slot) (H : Heap) (locs : List Loc) (h : f_X5_put l1 l2 l3 c_t c_now c_now_cells c_now_faces c_now_ponds c_refusals = some res) (hP : va_P E.1 vwCl (W_X5_put E a_t a_now a_now_cells a_now_faces a_now_ponds a_refusals a_kept a_trial a_reader a_shelves a_one a_two a_search a_outs a_now_kinds a_now_weights a_now_pledges c_t c_now c_now_cells c_now_faces c_now_ponds c_refusals) H) (hD : va_D A (W_X5_put E a_t a_now a_now_cells a_now_faces a_now_ponds a_refusals a_kept a_trial a_reader a_shelves a_one a_two a_search a_outs a_now_kinds a_now_weights a_now_pledges c_t c_now c_now_cells c_now_faces c_now_ponds c_refusals)) (hS : va_S A s.heap H locs) (hl : lv_has ls 5 [(0, .ref a_t), (1, .int l1), (2, .int l2), (3, .int l3)]) : W p l e r_X5_put s m args below meth c H locs 0 0 (MQ below (qI E A (res.1) (W_X5_put E a_t a_now a_now_cells a_now_faces a_now_ponds a_refusals a_kept a_trial a_reader a_shelves a_one a_two a_search a_outs a_now_kinds a_now_weights a_now_pledges c_t c_now (res.2.1) (res.2.2.1) c_now_ponds (res.2.2.2))) args s 0 0 A) (F0 m 0 ls []) := by
  obtain ⟨hx, hb, hml, hr, hlk, hown, hts, hG, hA⟩ := id X
  have hK := hG.1
  have hN := hG.2.1
  unfold f_X5_put at h
  refine lv_aload_n hx hb dX5_put_0 rfl (lv_at hl 0 rfl) ?_
  refine va_get (D := E.1) (ci := 5) (v := .ref a_now) (C := RX5) (T := TX5) (N := 11) hx hb hts iX5_put_X5 hown hK hP 0 rfl rfl 0 (by decide) (hts (.fieldLink RX5 10 "LeftIsAgreedOn" "now" "LLeftIsAgreedOn$Island;") (List.mem_of_getElem? (i := 1) rfl)) (fun _ h9 => h9) rfl dX5_put_1 ?_
  refine lv_iload_n hx hb dX5_put_4 rfl (lv_at hl 1 rfl) ?_
  obtain ⟨v1, hv1, h⟩ := bind_of h
  refine after_i X (run_V X (c_X0_isOne l E a_now a_now_ponds a_now_kinds a_now_weights a_now_cells a_now_faces a_now_pledges l1 c_now H.size v1 hv1) (cwV 1 hts gX5_put_X0_isOne rfl rfl rfl hV_X0_isOne ⟨(Nat.le_of_ble_eq_true rfl), (Nat.le_of_ble_eq_true rfl)⟩) hP hD hS [1] rfl rfl hl.1 (ci := 0) rfl rfl rfl (rest := []) rfl rfl (Nat.le_of_ble_eq_true rfl) dX5_put_5) hP hD hS [1] rfl (ws1 := (W_X5_put E a_t a_now a_now_cells a_now_faces a_now_ponds a_refusals a_kept a_trial a_reader a_shelves a_one a_two a_search a_outs a_now_kinds a_now_weights a_now_pledges c_t c_now c_now_cells c_now_faces c_now_ponds c_refusals)) rfl (fun H locs hP hD hS => ?_)
  refine lv_if_eq (tgt := 29) hx hb dX5_put_8 (by decide) (fun hc8 => ?_) (fun hc8 => ?_)
  · have h := if_t h hc8
    exact w_X5_put_b29 X a_t a_now a_now_cells a_now_faces a_now_ponds a_refusals a_kept a_trial a_reader a_shelves a_one a_two a_search a_outs a_now_kinds a_now_weights a_now_pledges c_t c_now c_now_ponds res c_now_cells c_now_faces c_refusals _ _ _ h hP hD hS (lv_sub hl [0] rfl)
  · have h := if_f h hc8
    refine lv_aload_n hx hb dX5_put_11 rfl (lv_at hl 0 rfl) ?_
    refine va_get (D := E.1) (ci := 5) (v := .ref a_now) (C := RX5) (T := TX5) (N := 11) hx hb hts iX5_put_X5 hown hK hP 0 rfl rfl 0 (by decide) (hts (.fieldLink RX5 10 "LeftIsAgreedOn" "now" "LLeftIsAgreedOn$Island;") (List.mem_of_getElem? (i := 1) rfl)) (fun _ h9 => h9) rfl dX5_put_12 ?_
    refine lv_iload_n hx hb dX5_put_15 rfl (lv_at hl 2 rfl) ?_
    obtain ⟨v2, hv2, h⟩ := bind_of h
    refine after_i X (run_V X (c_X0_isCell l E a_now a_now_ponds a_now_kinds a_now_weights a_now_cells a_now_faces a_now_pledges l2 c_now H.size v2 hv2) (cwV 1 hts gX5_put_X0_isCell rfl rfl rfl hV_X0_isCell ⟨(Nat.le_of_ble_eq_true rfl), (Nat.le_of_ble_eq_true rfl)⟩) hP hD hS [1] rfl rfl hl.1 (ci := 0) rfl rfl rfl (rest := []) rfl rfl (Nat.le_of_ble_eq_true rfl) dX5_put_16) hP hD hS [1] rfl (ws1 := (W_X5_put E a_t a_now a_now_cells a_now_faces a_now_ponds a_refusals a_kept a_trial a_reader a_shelves a_one a_two a_search a_outs a_now_kinds a_now_weights a_now_pledges c_t c_now c_now_cells c_now_faces c_now_ponds c_refusals)) rfl (fun H locs hP hD hS => ?_)
    refine lv_if_eq (tgt := 29) hx hb dX5_put_19 (by decide) (fun hc19 => ?_) (fun hc19 => ?_)
    · have h := if_t h hc19
      exact w_X5_put_b29 X a_t a_now a_now_cells a_now_faces a_now_ponds a_refusals a_kept a_trial a_reader a_shelves a_one a_two a_search a_outs a_now_kinds a_now_weights a_now_pledges c_t c_now c_now_ponds res c_now_cells c_now_faces c_refusals _ _ _ h hP hD hS (lv_sub hl [0] rfl)
    · have h := if_f h hc19
      refine lv_iload_n hx hb dX5_put_22 rfl (lv_at hl 3 rfl) ?_
      obtain ⟨v3, hv3, h⟩ := bind_of h
      refine after_i X (run_S X (c_X5_isFaces l E l3 H.size v3 hv3) (va_cwS 1 hts gX5_put_X5_isFaces rfl rfl rfl hd_X5_isFaces ⟨(Nat.le_of_ble_eq_true rfl), (Nat.le_of_ble_eq_true rfl)⟩) hP hD hS [] rfl rfl hl.1 (rest := []) rfl rfl (Nat.le_of_ble_eq_true rfl) dX5_put_23) hP hD hS [] rfl (ws1 := (W_X5_put E a_t a_now a_now_cells a_now_faces a_now_ponds a_refusals a_kept a_trial a_reader a_shelves a_one a_two a_search a_outs a_now_kinds a_now_weights a_now_pledges c_t c_now c_now_cells c_now_faces c_now_ponds c_refusals)) rfl (fun H locs hP hD hS => ?_)
      refine lv_if_ne (tgt := 36) hx hb dX5_put_26 (by decide) (fun hc26 => ?_) (fun hc26 => ?_)
      · have h := if_f h hc26
        refine lv_aload_n hx hb dX5_put_36 rfl (lv_at hl 0 rfl) ?_
        refine va_get (D := E.1) (ci := 5) (v := .ref a_now) (C := RX5) (T := TX5) (N := 11) hx hb hts iX5_put_X5 hown hK hP 0 rfl rfl 0 (by decide) (hts (.fieldLink RX5 10 "LeftIsAgreedOn" "now" "LLeftIsAgreedOn$Island;") (List.mem_of_getElem? (i := 1) rfl)) (fun _ h9 => h9) rfl dX5_put_37 ?_
        refine lv_iload_n hx hb dX5_put_40 rfl (lv_at hl 2 rfl) ?_
        obtain ⟨v4, hv4, h⟩ := bind_of h
        refine after_i X (run_V X (c_X0_hasPond l E a_now a_now_ponds a_now_kinds a_now_weights a_now_cells a_now_faces a_now_pledges l2 c_now c_now_ponds H.size v4 hv4) (cwV 1 hts gX5_put_X0_hasPond rfl rfl rfl hV_X0_hasPond ⟨(Nat.le_of_ble_eq_true rfl), (Nat.le_of_ble_eq_true rfl)⟩) hP hD hS [1, 4] rfl rfl hl.1 (ci := 0) rfl rfl rfl (rest := []) rfl rfl (Nat.le_of_ble_eq_true rfl) dX5_put_41) hP hD hS [1, 4] rfl (ws1 := (W_X5_put E a_t a_now a_now_cells a_now_faces a_now_ponds a_refusals a_kept a_trial a_reader a_shelves a_one a_two a_search a_outs a_now_kinds a_now_weights a_now_pledges c_t c_now c_now_cells c_now_faces c_now_ponds c_refusals)) rfl (fun H locs hP hD hS => ?_)
        refine lv_if_eq (tgt := 54) hx hb dX5_put_44 (by decide) (fun hc44 => ?_) (fun hc44 => ?_)
        · have h := if_t h hc44
          refine lv_aload_n hx hb dX5_put_54 rfl (lv_at hl 0 rfl) ?_
          refine va_get (D := E.1) (ci := 5) (v := .ref a_now) (C := RX5) (T := TX5) (N := 11) hx hb hts iX5_put_X5 hown hK hP 0 rfl rfl 0 (by decide) (hts (.fieldLink RX5 10 "LeftIsAgreedOn" "now" "LLeftIsAgreedOn$Island;") (List.mem_of_getElem? (i := 1) rfl)) (fun _ h9 => h9) rfl dX5_put_55 ?_
          refine va_getN (D := E.1) (ci := 0) (v := .ref a_now_cells) (C := RX0) (T := TX0) (N := 14) hx hb hts iX5_put_X0 hown hK hP 1 rfl rfl 11 (by decide) (va_Nw.use rfl (nF_9 hN)) (fun _ h9 => h9) rfl dX5_put_58 ?_
          refine lv_iload_n hx hb dX5_put_61 rfl (lv_at hl 1 rfl) ?_
          obtain ⟨hz62, h⟩ := chk_of h
          refine ld_i X hP 2 rfl (inb.vp hz62) (v := (c_now_cells (l1).toNatClampNeg)) rfl dX5_put_62 ?_
          refine lv_istore (lv' := [(4, .int (c_now_cells (l1).toNatClampNeg)), (0, .ref a_t), (1, .int l1), (2, .int l2), (3, .int l3)]) hx hb dX5_put_63 hl (by decide) rfl (fun ls hl => ?_)
          refine lv_aload_n hx hb dX5_put_65 rfl (lv_at hl 1 rfl) ?_
          refine va_get (D := E.1) (ci := 5) (v := .ref a_now) (C := RX5) (T := TX5) (N := 11) hx hb hts iX5_put_X5 hown hK hP 0 rfl rfl 0 (by decide) (hts (.fieldLink RX5 10 "LeftIsAgreedOn" "now" "LLeftIsAgreedOn$Island;") (List.mem_of_getElem? (i := 1) rfl)) (fun _ h9 => h9) rfl dX5_put_66 ?_
          refine va_getN (D := E.1) (ci := 0) (v := .ref a_now_cells) (C := RX0) (T := TX0) (N := 14) hx hb hts iX5_put_X0 hown hK hP 1 rfl rfl 11 (by decide) (va_Nw.use rfl (nF_9 hN)) (fun _ h9 => h9) rfl dX5_put_69 ?_
          refine lv_iload_n hx hb dX5_put_72 rfl (lv_at hl 2 rfl) ?_
          refine lv_iload_n hx hb dX5_put_73 rfl (lv_at hl 3 rfl) ?_
          obtain ⟨hz74, h⟩ := chk_of h
          refine st_i X hP hD hS 2 rfl (inb.vp hz74) (k := (l1).toNatClampNeg) rfl (ws1 := (W_X5_put E a_t a_now a_now_cells a_now_faces a_now_ponds a_refusals a_kept a_trial a_reader a_shelves a_one a_two a_search a_outs a_now_kinds a_now_weights a_now_pledges c_t c_now (upd c_now_cells ((l1).toNatClampNeg) l2) c_now_faces c_now_ponds c_refusals)) rfl dX5_put_74 (fun H locs hP hD hS => ?_)
          refine lv_aload_n hx hb dX5_put_75 rfl (lv_at hl 1 rfl) ?_
          refine va_get (D := E.1) (ci := 5) (v := .ref a_now) (C := RX5) (T := TX5) (N := 11) hx hb hts iX5_put_X5 hown hK hP 0 rfl rfl 0 (by decide) (hts (.fieldLink RX5 10 "LeftIsAgreedOn" "now" "LLeftIsAgreedOn$Island;") (List.mem_of_getElem? (i := 1) rfl)) (fun _ h9 => h9) rfl dX5_put_76 ?_
          refine va_getN (D := E.1) (ci := 0) (v := .ref a_now_faces) (C := RX0) (T := TX0) (N := 14) hx hb hts iX5_put_X0 hown hK hP 1 rfl rfl 12 (by decide) (va_Nw.use rfl (nF_10 hN)) (fun _ h9 => h9) rfl dX5_put_79 ?_
          refine lv_iload_n hx hb dX5_put_82 rfl (lv_at hl 2 rfl) ?_
          refine lv_iload_n hx hb dX5_put_83 rfl (lv_at hl 4 rfl) ?_
          obtain ⟨hz84, h⟩ := chk_of h
          refine st_i X hP hD hS 3 rfl (inb.vp hz84) (k := (l1).toNatClampNeg) rfl (ws1 := (W_X5_put E a_t a_now a_now_cells a_now_faces a_now_ponds a_refusals a_kept a_trial a_reader a_shelves a_one a_two a_search a_outs a_now_kinds a_now_weights a_now_pledges c_t c_now (upd c_now_cells ((l1).toNatClampNeg) l2) (upd c_now_faces ((l1).toNatClampNeg) l3) c_now_ponds c_refusals)) rfl dX5_put_84 (fun H locs hP hD hS => ?_)
          refine lv_iload hx hb dX5_put_85 (lv_at hl 0 rfl) ?_
          obtain rfl := Option.some.inj h
          exact ret_i X dX5_put_87 hP hD hS rfl
        · have h := if_f h hc44
          refine lv_aload_n hx hb dX5_put_47 rfl (lv_at hl 0 rfl) ?_
          refine lv_bipush (v := (-5 : Int32)) hx hb dX5_put_48 (by decide) ?_
          obtain ⟨v5, hv5, h⟩ := bind_of h
          refine after_i X (run_V X (c_X5_refuse l E a_t a_refusals a_now a_kept a_trial a_reader a_shelves a_one a_two a_search a_outs (-5 : Int32) c_t c_refusals H.size v5 hv5) (cwV 1 hts gX5_put_X5_refuse rfl rfl rfl hV_X5_refuse ⟨(Nat.le_of_ble_eq_true rfl), (Nat.le_of_ble_eq_true rfl)⟩) hP hD hS [0, 5] rfl rfl hl.1 (ci := 5) rfl rfl rfl (rest := []) rfl rfl (Nat.le_of_ble_eq_true rfl) dX5_put_50) hP hD hS [0, 5] rfl (ws1 := (W_X5_put E a_t a_now a_now_cells a_now_faces a_now_ponds a_refusals a_kept a_trial a_reader a_shelves a_one a_two a_search a_outs a_now_kinds a_now_weights a_now_pledges c_t c_now c_now_cells c_now_faces c_now_ponds (v5.2))) rfl (fun H locs hP hD hS => ?_)
          obtain rfl := Option.some.inj h
          exact ret_i X dX5_put_53 hP hD hS rfl
      · have h := if_t h hc26
        exact w_X5_put_b29 X a_t a_now a_now_cells a_now_faces a_now_ponds a_refusals a_kept a_trial a_reader a_shelves a_one a_two a_search a_outs a_now_kinds a_now_weights a_now_pledges c_t c_now c_now_ponds res c_now_cells c_now_faces c_refusals _ _ _ h hP hD hS (lv_sub hl [0] rfl)
end
set_option maxRecDepth 100000 in
theorem c_X5_put (l : Launch) (E : Env0) (a_t : Nat) (a_now : Nat) (a_now_cells : Nat) (a_now_faces : Nat) (a_now_ponds : Nat) (a_refusals : Nat) (a_kept : Nat) (a_trial : Nat) (a_reader : Nat) (a_shelves : Nat) (a_one : Nat) (a_two : Nat) (a_search : Nat) (a_outs : Nat) (a_now_kinds : Nat) (a_now_weights : Nat) (a_now_pledges : Nat) (l1 : Int32) (l2 : Int32) (l3 : Int32) (c_t : Nat → Int32) (c_now : Nat → Int32) (c_now_cells : Nat → Int32) (c_now_faces : Nat → Int32) (c_now_ponds : Nat → Int32) (c_refusals : Nat → Int32) (sz : Nat) (res : Int32 × (Nat → Int32) × (Nat → Int32) × (Nat → Int32)) (h : f_X5_put l1 l2 l3 c_t c_now c_now_cells c_now_faces c_now_ponds c_refusals = some res) : Met l yX5_put wsX5_put r_X5_put (cPre E [.ref a_t, .int l1, .int l2, .int l3] (W_X5_put E a_t a_now a_now_cells a_now_faces a_now_ponds a_refusals a_kept a_trial a_reader a_shelves a_one a_two a_search a_outs a_now_kinds a_now_weights a_now_pledges c_t c_now c_now_cells c_now_faces c_now_ponds c_refusals) sz) (qI E (va_A (W_X5_put E a_t a_now a_now_cells a_now_faces a_now_ponds a_refusals a_kept a_trial a_reader a_shelves a_one a_two a_search a_outs a_now_kinds a_now_weights a_now_pledges c_t c_now c_now_cells c_now_faces c_now_ponds c_refusals) sz) (res.1) (W_X5_put E a_t a_now a_now_cells a_now_faces a_now_ponds a_refusals a_kept a_trial a_reader a_shelves a_one a_two a_search a_outs a_now_kinds a_now_weights a_now_pledges c_t c_now (res.2.1) (res.2.2.1) c_now_ponds (res.2.2.2))) 0 0 (va_A (W_X5_put E a_t a_now a_now_cells a_now_faces a_now_ponds a_refusals a_kept a_trial a_reader a_shelves a_one a_two a_search a_outs a_now_kinds a_now_weights a_now_pledges c_t c_now c_now_cells c_now_faces c_now_ponds c_refusals) sz) :=
  met_of (Qc := fun A => qI E A (res.1) (W_X5_put E a_t a_now a_now_cells a_now_faces a_now_ponds a_refusals a_kept a_trial a_reader a_shelves a_one a_two a_search a_outs a_now_kinds a_now_weights a_now_pledges c_t c_now (res.2.1) (res.2.2.1) c_now_ponds (res.2.2.2))) (by decide) rfl (Nat.le_of_ble_eq_true rfl) (fun p e s m args below meth c X hP hD hS ls hl => w_X5_put X a_t a_now a_now_cells a_now_faces a_now_ponds a_refusals a_kept a_trial a_reader a_shelves a_one a_two a_search a_outs a_now_kinds a_now_weights a_now_pledges c_t c_now c_now_ponds res c_now_cells c_now_faces c_refusals l1 l2 l3 ls _ _ h hP hD hS hl)
-- ===== X5_personOf
noncomputable abbrev W_X5_personOf (E : Env0) (a_t : Nat) (a_now : Nat) (a_now_cells : Nat) (a_now_faces : Nat) (a_now_kinds : Nat) (a_now_pledges : Nat) (a_now_weights : Nat) (a_refusals : Nat) (a_kept : Nat) (a_trial : Nat) (a_reader : Nat) (a_shelves : Nat) (a_one : Nat) (a_two : Nat) (a_search : Nat) (a_outs : Nat) (a_now_ponds : Nat) (c_t : Nat → Int32) (c_now : Nat → Int32) (c_now_cells : Nat → Int32) (c_now_faces : Nat → Int32) (c_now_kinds : Nat → Int32) (c_now_pledges : Nat → Int32) (c_now_weights : Nat → Int32) (c_refusals : Nat → Int32) : va_W := [(a_t, .inr (5, [.ref a_now, .ref a_kept, .ref a_trial, .ref a_reader, .ref a_shelves, .ref a_one, .ref a_two, .ref a_search, .ref a_outs, .ref a_refusals, .int (c_t 10)])), (a_now, .inr (0, [.int (c_now 0), .int (c_now 1), .int (c_now 2), .int (c_now 3), .int (c_now 4), .int (c_now 5), .int (c_now 6), .int (c_now 7), .ref a_now_ponds, .ref a_now_kinds, .ref a_now_weights, .ref a_now_cells, .ref a_now_faces, .ref a_now_pledges])), (a_now_cells, .inl (eI E, 8, .inl c_now_cells)), (a_now_faces, .inl (eI E, 8, .inl c_now_faces)), (a_now_kinds, .inl (eI E, 8, .inl c_now_kinds)), (a_now_pledges, .inl (eI E, 8, .inl c_now_pledges)), (a_now_weights, .inl (eI E, 8, .inl c_now_weights)), (a_refusals, .inl (eI E, 5, .inl c_refusals))]
noncomputable abbrev r_X5_personOf : Room := { frames := 2, cells := 0, slots := 0, locals := 50 }
theorem hd_X5_personOf : yX5_personOf.cls ≠ "java/lang/invoke/MethodHandle" ∧ yX5_personOf.cls ≠ "java/lang/invoke/VarHandle" ∧ (parseMethodDescriptor yX5_personOf.desc).map (fun d => d.parameters.length) = some 2 := by decide +kernel
theorem hV_X5_personOf : yX5_personOf.cls = RX5 ∧ yX5_personOf.cls ≠ "java/lang/invoke/MethodHandle" ∧ yX5_personOf.cls ≠ "java/lang/invoke/VarHandle" ∧ (parseMethodDescriptor yX5_personOf.desc).map (fun d => d.parameters.length) = some 2 := ⟨rfl, hd_X5_personOf⟩
theorem iX5_personOf_X0 : ∀ w ∈ wsX00, w ∈ wsX5_personOf := fun _ h => List.mem_cons_of_mem _ (List.mem_append_right _ (h))
theorem iX5_personOf_X5 : ∀ w ∈ wsX50, w ∈ wsX5_personOf := fun _ h => List.mem_cons_of_mem _ (List.mem_append_left _ (List.mem_append_right _ (h)))
section
variable {p : Program} {l : Launch} {e : Env} {s : State} {m : MethodId} {args : Array Value} {below : List Frame} {meth : Method} {c : Code} {E : Env0} {A : Nat → Prop}
set_option maxRecDepth 100000 in
set_option maxHeartbeats 4000000 in
theorem w_X5_personOf (X : Ctx p m meth c cX5_personOf 3 ((some .int)) s args wsX5_personOf RX5 E A) (a_t : Nat) (a_now : Nat) (a_now_cells : Nat) (a_now_faces : Nat) (a_now_kinds : Nat) (a_now_pledges : Nat) (a_now_weights : Nat) (a_refusals : Nat) (a_kept : Nat) (a_trial : Nat) (a_reader : Nat) (a_shelves : Nat) (a_one : Nat) (a_two : Nat) (a_search : Nat) (a_outs : Nat) (a_now_ponds : Nat) (c_t : Nat → Int32) (c_now : Nat → Int32) (c_now_cells : Nat → Int32) (c_now_faces : Nat → Int32) (c_now_kinds : Nat → Int32) (c_now_pledges : Nat → Int32) (c_now_weights : Nat → Int32) (res : Int32 × (Nat → Int32)) (c_refusals : Nat → Int32) (l1 : Int32) (l2 : Int32) (ls : Array Slot) (H : Heap) (locs : List Loc) (h : f_X5_personOf l1 l2 c_t c_now c_now_cells c_now_faces c_now_kinds c_now_pledges c_now_weights c_refusals = some res) (hP : va_P E.1 vwCl (W_X5_personOf E a_t a_now a_now_cells a_now_faces a_now_kinds a_now_pledges a_now_weights a_refusals a_kept a_trial a_reader a_shelves a_one a_two a_search a_outs a_now_ponds c_t c_now c_now_cells c_now_faces c_now_kinds c_now_pledges c_now_weights c_refusals) H) (hD : va_D A (W_X5_personOf E a_t a_now a_now_cells a_now_faces a_now_kinds a_now_pledges a_now_weights a_refusals a_kept a_trial a_reader a_shelves a_one a_two a_search a_outs a_now_ponds c_t c_now c_now_cells c_now_faces c_now_kinds c_now_pledges c_now_weights c_refusals)) (hS : va_S A s.heap H locs) (hl : lv_has ls 3 [(0, .ref a_t), (1, .int l1), (2, .int l2)]) : W p l e r_X5_personOf s m args below meth c H locs 0 0 (MQ below (qI E A (res.1) (W_X5_personOf E a_t a_now a_now_cells a_now_faces a_now_kinds a_now_pledges a_now_weights a_refusals a_kept a_trial a_reader a_shelves a_one a_two a_search a_outs a_now_ponds c_t c_now c_now_cells c_now_faces c_now_kinds c_now_pledges c_now_weights (res.2))) args s 0 0 A) (F0 m 0 ls []) := by
  obtain ⟨hx, hb, hml, hr, hlk, hown, hts, hG, hA⟩ := id X
  have hK := hG.1
  have hN := hG.2.1
  unfold f_X5_personOf at h
  refine lv_aload_n hx hb dX5_personOf_0 rfl (lv_at hl 0 rfl) ?_
  refine va_get (D := E.1) (ci := 5) (v := .ref a_now) (C := RX5) (T := TX5) (N := 11) hx hb hts iX5_personOf_X5 hown hK hP 0 rfl rfl 0 (by decide) (hts (.fieldLink RX5 10 "LeftIsAgreedOn" "now" "LLeftIsAgreedOn$Island;") (List.mem_of_getElem? (i := 1) rfl)) (fun _ h9 => h9) rfl dX5_personOf_1 ?_
  refine lv_iload_n hx hb dX5_personOf_4 rfl (lv_at hl 1 rfl) ?_
  obtain ⟨v1, hv1, h⟩ := bind_of h
  refine after_i X (run_V X (c_X0_isOne l E a_now a_now_ponds a_now_kinds a_now_weights a_now_cells a_now_faces a_now_pledges l1 c_now H.size v1 hv1) (cwV 1 hts gX5_personOf_X0_isOne rfl rfl rfl hV_X0_isOne ⟨(Nat.le_of_ble_eq_true rfl), (Nat.le_of_ble_eq_true rfl)⟩) hP hD hS [1] rfl rfl hl.1 (ci := 0) rfl rfl rfl (rest := []) rfl rfl (Nat.le_of_ble_eq_true rfl) dX5_personOf_5) hP hD hS [1] rfl (ws1 := (W_X5_personOf E a_t a_now a_now_cells a_now_faces a_now_kinds a_now_pledges a_now_weights a_refusals a_kept a_trial a_reader a_shelves a_one a_two a_search a_outs a_now_ponds c_t c_now c_now_cells c_now_faces c_now_kinds c_now_pledges c_now_weights c_refusals)) rfl (fun H locs hP hD hS => ?_)
  refine lv_if_ne (tgt := 18) hx hb dX5_personOf_8 (by decide) (fun hc8 => ?_) (fun hc8 => ?_)
  · have h := if_f h hc8
    refine lv_iload_n hx hb dX5_personOf_18 rfl (lv_at hl 2 rfl) ?_
    by_cases hs19_0 : l2 = (0 : Int32)
    · have h := if_t h hs19_0
      refine lv_tableIn (off := (37)) (tgt := 56) hx hb dX5_personOf_19 (by rw [hs19_0]; decide) (by rw [hs19_0]; decide) (by rw [hs19_0]; rfl) (by decide) ?_
      refine lv_aload_n hx hb dX5_personOf_56 rfl (lv_at hl 0 rfl) ?_
      refine va_get (D := E.1) (ci := 5) (v := .ref a_now) (C := RX5) (T := TX5) (N := 11) hx hb hts iX5_personOf_X5 hown hK hP 0 rfl rfl 0 (by decide) (hts (.fieldLink RX5 10 "LeftIsAgreedOn" "now" "LLeftIsAgreedOn$Island;") (List.mem_of_getElem? (i := 1) rfl)) (fun _ h9 => h9) rfl dX5_personOf_57 ?_
      refine va_getN (D := E.1) (ci := 0) (v := .ref a_now_kinds) (C := RX0) (T := TX0) (N := 14) hx hb hts iX5_personOf_X0 hown hK hP 1 rfl rfl 9 (by decide) (va_Nw.use rfl (nF_0 hN)) (fun _ h9 => h9) rfl dX5_personOf_60 ?_
      refine lv_iload_n hx hb dX5_personOf_63 rfl (lv_at hl 1 rfl) ?_
      obtain ⟨hz64, h⟩ := chk_of h
      refine ld_i X hP 4 rfl (inb.vp hz64) (v := (c_now_kinds (l1).toNatClampNeg)) rfl dX5_personOf_64 ?_
      obtain rfl := Option.some.inj h
      exact ret_i X dX5_personOf_65 hP hD hS rfl
    · have h := if_f h hs19_0
      by_cases hs19_1 : l2 = (1 : Int32)
      · have h := if_t h hs19_1
        refine lv_tableIn (off := (47)) (tgt := 66) hx hb dX5_personOf_19 (by rw [hs19_1]; decide) (by rw [hs19_1]; decide) (by rw [hs19_1]; rfl) (by decide) ?_
        refine lv_aload_n hx hb dX5_personOf_66 rfl (lv_at hl 0 rfl) ?_
        refine va_get (D := E.1) (ci := 5) (v := .ref a_now) (C := RX5) (T := TX5) (N := 11) hx hb hts iX5_personOf_X5 hown hK hP 0 rfl rfl 0 (by decide) (hts (.fieldLink RX5 10 "LeftIsAgreedOn" "now" "LLeftIsAgreedOn$Island;") (List.mem_of_getElem? (i := 1) rfl)) (fun _ h9 => h9) rfl dX5_personOf_67 ?_
        refine va_getN (D := E.1) (ci := 0) (v := .ref a_now_weights) (C := RX0) (T := TX0) (N := 14) hx hb hts iX5_personOf_X0 hown hK hP 1 rfl rfl 10 (by decide) (va_Nw.use rfl (nF_1 hN)) (fun _ h9 => h9) rfl dX5_personOf_70 ?_
        refine lv_iload_n hx hb dX5_personOf_73 rfl (lv_at hl 1 rfl) ?_
        obtain ⟨hz74, h⟩ := chk_of h
        refine ld_i X hP 6 rfl (inb.vp hz74) (v := (c_now_weights (l1).toNatClampNeg)) rfl dX5_personOf_74 ?_
        obtain rfl := Option.some.inj h
        exact ret_i X dX5_personOf_75 hP hD hS rfl
      · have h := if_f h hs19_1
        by_cases hs19_2 : l2 = (2 : Int32)
        · have h := if_t h hs19_2
          refine lv_tableIn (off := (57)) (tgt := 76) hx hb dX5_personOf_19 (by rw [hs19_2]; decide) (by rw [hs19_2]; decide) (by rw [hs19_2]; rfl) (by decide) ?_
          refine lv_aload_n hx hb dX5_personOf_76 rfl (lv_at hl 0 rfl) ?_
          refine va_get (D := E.1) (ci := 5) (v := .ref a_now) (C := RX5) (T := TX5) (N := 11) hx hb hts iX5_personOf_X5 hown hK hP 0 rfl rfl 0 (by decide) (hts (.fieldLink RX5 10 "LeftIsAgreedOn" "now" "LLeftIsAgreedOn$Island;") (List.mem_of_getElem? (i := 1) rfl)) (fun _ h9 => h9) rfl dX5_personOf_77 ?_
          refine va_getN (D := E.1) (ci := 0) (v := .ref a_now_cells) (C := RX0) (T := TX0) (N := 14) hx hb hts iX5_personOf_X0 hown hK hP 1 rfl rfl 11 (by decide) (va_Nw.use rfl (nF_9 hN)) (fun _ h9 => h9) rfl dX5_personOf_80 ?_
          refine lv_iload_n hx hb dX5_personOf_83 rfl (lv_at hl 1 rfl) ?_
          obtain ⟨hz84, h⟩ := chk_of h
          refine ld_i X hP 2 rfl (inb.vp hz84) (v := (c_now_cells (l1).toNatClampNeg)) rfl dX5_personOf_84 ?_
          obtain rfl := Option.some.inj h
          exact ret_i X dX5_personOf_85 hP hD hS rfl
        · have h := if_f h hs19_2
          by_cases hs19_3 : l2 = (3 : Int32)
          · have h := if_t h hs19_3
            refine lv_tableIn (off := (67)) (tgt := 86) hx hb dX5_personOf_19 (by rw [hs19_3]; decide) (by rw [hs19_3]; decide) (by rw [hs19_3]; rfl) (by decide) ?_
            refine lv_aload_n hx hb dX5_personOf_86 rfl (lv_at hl 0 rfl) ?_
            refine va_get (D := E.1) (ci := 5) (v := .ref a_now) (C := RX5) (T := TX5) (N := 11) hx hb hts iX5_personOf_X5 hown hK hP 0 rfl rfl 0 (by decide) (hts (.fieldLink RX5 10 "LeftIsAgreedOn" "now" "LLeftIsAgreedOn$Island;") (List.mem_of_getElem? (i := 1) rfl)) (fun _ h9 => h9) rfl dX5_personOf_87 ?_
            refine va_getN (D := E.1) (ci := 0) (v := .ref a_now_faces) (C := RX0) (T := TX0) (N := 14) hx hb hts iX5_personOf_X0 hown hK hP 1 rfl rfl 12 (by decide) (va_Nw.use rfl (nF_10 hN)) (fun _ h9 => h9) rfl dX5_personOf_90 ?_
            refine lv_iload_n hx hb dX5_personOf_93 rfl (lv_at hl 1 rfl) ?_
            obtain ⟨hz94, h⟩ := chk_of h
            refine ld_i X hP 3 rfl (inb.vp hz94) (v := (c_now_faces (l1).toNatClampNeg)) rfl dX5_personOf_94 ?_
            obtain rfl := Option.some.inj h
            exact ret_i X dX5_personOf_95 hP hD hS rfl
          · have h := if_f h hs19_3
            by_cases hs19_4 : l2 = (4 : Int32)
            · have h := if_t h hs19_4
              refine lv_tableIn (off := (77)) (tgt := 96) hx hb dX5_personOf_19 (by rw [hs19_4]; decide) (by rw [hs19_4]; decide) (by rw [hs19_4]; rfl) (by decide) ?_
              refine lv_aload_n hx hb dX5_personOf_96 rfl (lv_at hl 0 rfl) ?_
              refine va_get (D := E.1) (ci := 5) (v := .ref a_now) (C := RX5) (T := TX5) (N := 11) hx hb hts iX5_personOf_X5 hown hK hP 0 rfl rfl 0 (by decide) (hts (.fieldLink RX5 10 "LeftIsAgreedOn" "now" "LLeftIsAgreedOn$Island;") (List.mem_of_getElem? (i := 1) rfl)) (fun _ h9 => h9) rfl dX5_personOf_97 ?_
              refine va_getN (D := E.1) (ci := 0) (v := .ref a_now_pledges) (C := RX0) (T := TX0) (N := 14) hx hb hts iX5_personOf_X0 hown hK hP 1 rfl rfl 13 (by decide) (va_Nw.use rfl (nF_8 hN)) (fun _ h9 => h9) rfl dX5_personOf_100 ?_
              refine lv_iload_n hx hb dX5_personOf_103 rfl (lv_at hl 1 rfl) ?_
              obtain ⟨hz104, h⟩ := chk_of h
              refine ld_i X hP 5 rfl (inb.vp hz104) (v := (c_now_pledges (l1).toNatClampNeg)) rfl dX5_personOf_104 ?_
              obtain rfl := Option.some.inj h
              exact ret_i X dX5_personOf_105 hP hD hS rfl
            · have h := if_f h hs19_4
              by_cases hs19_5 : l2 = (5 : Int32)
              · have h := if_t h hs19_5
                refine lv_tableIn (off := (87)) (tgt := 106) hx hb dX5_personOf_19 (by rw [hs19_5]; decide) (by rw [hs19_5]; decide) (by rw [hs19_5]; rfl) (by decide) ?_
                refine lv_aload_n hx hb dX5_personOf_106 rfl (lv_at hl 0 rfl) ?_
                refine va_get (D := E.1) (ci := 5) (v := .ref a_now) (C := RX5) (T := TX5) (N := 11) hx hb hts iX5_personOf_X5 hown hK hP 0 rfl rfl 0 (by decide) (hts (.fieldLink RX5 10 "LeftIsAgreedOn" "now" "LLeftIsAgreedOn$Island;") (List.mem_of_getElem? (i := 1) rfl)) (fun _ h9 => h9) rfl dX5_personOf_107 ?_
                refine lv_iload_n hx hb dX5_personOf_110 rfl (lv_at hl 1 rfl) ?_
                obtain ⟨v2, hv2, h⟩ := bind_of h
                refine after_i X (run_V X (c_X0_powerOf l E a_now a_now_weights a_now_ponds a_now_kinds a_now_cells a_now_faces a_now_pledges l1 c_now c_now_weights H.size v2 hv2) (cwV 1 hts gX5_personOf_X0_powerOf rfl rfl rfl hV_X0_powerOf ⟨(Nat.le_of_ble_eq_true rfl), (Nat.le_of_ble_eq_true rfl)⟩) hP hD hS [1, 6] rfl rfl hl.1 (ci := 0) rfl rfl rfl (rest := []) rfl rfl (Nat.le_of_ble_eq_true rfl) dX5_personOf_111) hP hD hS [1, 6] rfl (ws1 := (W_X5_personOf E a_t a_now a_now_cells a_now_faces a_now_kinds a_now_pledges a_now_weights a_refusals a_kept a_trial a_reader a_shelves a_one a_two a_search a_outs a_now_ponds c_t c_now c_now_cells c_now_faces c_now_kinds c_now_pledges c_now_weights c_refusals)) rfl (fun H locs hP hD hS => ?_)
                obtain rfl := Option.some.inj h
                exact ret_i X dX5_personOf_114 hP hD hS rfl
              · have h := if_f h hs19_5
                refine lv_tableOut (tgt := 115) hx hb dX5_personOf_19 (tsw_0_5 hs19_0 hs19_1 hs19_2 hs19_3 hs19_4 hs19_5) (by decide) ?_
                refine lv_aload_n hx hb dX5_personOf_115 rfl (lv_at hl 0 rfl) ?_
                refine lv_bipush (v := (-2 : Int32)) hx hb dX5_personOf_116 (by decide) ?_
                obtain ⟨v3, hv3, h⟩ := bind_of h
                refine after_i X (run_V X (c_X5_refuse l E a_t a_refusals a_now a_kept a_trial a_reader a_shelves a_one a_two a_search a_outs (-2 : Int32) c_t c_refusals H.size v3 hv3) (cwV 1 hts gX5_personOf_X5_refuse rfl rfl rfl hV_X5_refuse ⟨(Nat.le_of_ble_eq_true rfl), (Nat.le_of_ble_eq_true rfl)⟩) hP hD hS [0, 7] rfl rfl hl.1 (ci := 5) rfl rfl rfl (rest := []) rfl rfl (Nat.le_of_ble_eq_true rfl) dX5_personOf_118) hP hD hS [0, 7] rfl (ws1 := (W_X5_personOf E a_t a_now a_now_cells a_now_faces a_now_kinds a_now_pledges a_now_weights a_refusals a_kept a_trial a_reader a_shelves a_one a_two a_search a_outs a_now_ponds c_t c_now c_now_cells c_now_faces c_now_kinds c_now_pledges c_now_weights (v3.2))) rfl (fun H locs hP hD hS => ?_)
                obtain rfl := Option.some.inj h
                exact ret_i X dX5_personOf_121 hP hD hS rfl
  · have h := if_t h hc8
    refine lv_aload_n hx hb dX5_personOf_11 rfl (lv_at hl 0 rfl) ?_
    refine lv_bipush (v := (-2 : Int32)) hx hb dX5_personOf_12 (by decide) ?_
    obtain ⟨v4, hv4, h⟩ := bind_of h
    refine after_i X (run_V X (c_X5_refuse l E a_t a_refusals a_now a_kept a_trial a_reader a_shelves a_one a_two a_search a_outs (-2 : Int32) c_t c_refusals H.size v4 hv4) (cwV 1 hts gX5_personOf_X5_refuse rfl rfl rfl hV_X5_refuse ⟨(Nat.le_of_ble_eq_true rfl), (Nat.le_of_ble_eq_true rfl)⟩) hP hD hS [0, 7] rfl rfl hl.1 (ci := 5) rfl rfl rfl (rest := []) rfl rfl (Nat.le_of_ble_eq_true rfl) dX5_personOf_14) hP hD hS [0, 7] rfl (ws1 := (W_X5_personOf E a_t a_now a_now_cells a_now_faces a_now_kinds a_now_pledges a_now_weights a_refusals a_kept a_trial a_reader a_shelves a_one a_two a_search a_outs a_now_ponds c_t c_now c_now_cells c_now_faces c_now_kinds c_now_pledges c_now_weights (v4.2))) rfl (fun H locs hP hD hS => ?_)
    obtain rfl := Option.some.inj h
    exact ret_i X dX5_personOf_17 hP hD hS rfl
end
set_option maxRecDepth 100000 in
theorem c_X5_personOf (l : Launch) (E : Env0) (a_t : Nat) (a_now : Nat) (a_now_cells : Nat) (a_now_faces : Nat) (a_now_kinds : Nat) (a_now_pledges : Nat) (a_now_weights : Nat) (a_refusals : Nat) (a_kept : Nat) (a_trial : Nat) (a_reader : Nat) (a_shelves : Nat) (a_one : Nat) (a_two : Nat) (a_search : Nat) (a_outs : Nat) (a_now_ponds : Nat) (l1 : Int32) (l2 : Int32) (c_t : Nat → Int32) (c_now : Nat → Int32) (c_now_cells : Nat → Int32) (c_now_faces : Nat → Int32) (c_now_kinds : Nat → Int32) (c_now_pledges : Nat → Int32) (c_now_weights : Nat → Int32) (c_refusals : Nat → Int32) (sz : Nat) (res : Int32 × (Nat → Int32)) (h : f_X5_personOf l1 l2 c_t c_now c_now_cells c_now_faces c_now_kinds c_now_pledges c_now_weights c_refusals = some res) : Met l yX5_personOf wsX5_personOf r_X5_personOf (cPre E [.ref a_t, .int l1, .int l2] (W_X5_personOf E a_t a_now a_now_cells a_now_faces a_now_kinds a_now_pledges a_now_weights a_refusals a_kept a_trial a_reader a_shelves a_one a_two a_search a_outs a_now_ponds c_t c_now c_now_cells c_now_faces c_now_kinds c_now_pledges c_now_weights c_refusals) sz) (qI E (va_A (W_X5_personOf E a_t a_now a_now_cells a_now_faces a_now_kinds a_now_pledges a_now_weights a_refusals a_kept a_trial a_reader a_shelves a_one a_two a_search a_outs a_now_ponds c_t c_now c_now_cells c_now_faces c_now_kinds c_now_pledges c_now_weights c_refusals) sz) (res.1) (W_X5_personOf E a_t a_now a_now_cells a_now_faces a_now_kinds a_now_pledges a_now_weights a_refusals a_kept a_trial a_reader a_shelves a_one a_two a_search a_outs a_now_ponds c_t c_now c_now_cells c_now_faces c_now_kinds c_now_pledges c_now_weights (res.2))) 0 0 (va_A (W_X5_personOf E a_t a_now a_now_cells a_now_faces a_now_kinds a_now_pledges a_now_weights a_refusals a_kept a_trial a_reader a_shelves a_one a_two a_search a_outs a_now_ponds c_t c_now c_now_cells c_now_faces c_now_kinds c_now_pledges c_now_weights c_refusals) sz) :=
  met_of (Qc := fun A => qI E A (res.1) (W_X5_personOf E a_t a_now a_now_cells a_now_faces a_now_kinds a_now_pledges a_now_weights a_refusals a_kept a_trial a_reader a_shelves a_one a_two a_search a_outs a_now_ponds c_t c_now c_now_cells c_now_faces c_now_kinds c_now_pledges c_now_weights (res.2))) (by decide) rfl (Nat.le_of_ble_eq_true rfl) (fun p e s m args below meth c X hP hD hS ls hl => w_X5_personOf X a_t a_now a_now_cells a_now_faces a_now_kinds a_now_pledges a_now_weights a_refusals a_kept a_trial a_reader a_shelves a_one a_two a_search a_outs a_now_ponds c_t c_now c_now_cells c_now_faces c_now_kinds c_now_pledges c_now_weights res c_refusals l1 l2 ls _ _ h hP hD hS hl)
-- ===== X5_isPond
noncomputable abbrev W_X5_isPond (E : Env0) (a_t : Nat) (a_now : Nat) (a_now_ponds : Nat) (a_refusals : Nat) (a_kept : Nat) (a_trial : Nat) (a_reader : Nat) (a_shelves : Nat) (a_one : Nat) (a_two : Nat) (a_search : Nat) (a_outs : Nat) (a_now_kinds : Nat) (a_now_weights : Nat) (a_now_cells : Nat) (a_now_faces : Nat) (a_now_pledges : Nat) (c_t : Nat → Int32) (c_now : Nat → Int32) (c_now_ponds : Nat → Int32) (c_refusals : Nat → Int32) : va_W := [(a_t, .inr (5, [.ref a_now, .ref a_kept, .ref a_trial, .ref a_reader, .ref a_shelves, .ref a_one, .ref a_two, .ref a_search, .ref a_outs, .ref a_refusals, .int (c_t 10)])), (a_now, .inr (0, [.int (c_now 0), .int (c_now 1), .int (c_now 2), .int (c_now 3), .int (c_now 4), .int (c_now 5), .int (c_now 6), .int (c_now 7), .ref a_now_ponds, .ref a_now_kinds, .ref a_now_weights, .ref a_now_cells, .ref a_now_faces, .ref a_now_pledges])), (a_now_ponds, .inl (eZ E, 70, .inl c_now_ponds)), (a_refusals, .inl (eI E, 5, .inl c_refusals))]
noncomputable abbrev r_X5_isPond : Room := { frames := 2, cells := 0, slots := 0, locals := 43 }
theorem hd_X5_isPond : yX5_isPond.cls ≠ "java/lang/invoke/MethodHandle" ∧ yX5_isPond.cls ≠ "java/lang/invoke/VarHandle" ∧ (parseMethodDescriptor yX5_isPond.desc).map (fun d => d.parameters.length) = some 1 := by decide +kernel
theorem hV_X5_isPond : yX5_isPond.cls = RX5 ∧ yX5_isPond.cls ≠ "java/lang/invoke/MethodHandle" ∧ yX5_isPond.cls ≠ "java/lang/invoke/VarHandle" ∧ (parseMethodDescriptor yX5_isPond.desc).map (fun d => d.parameters.length) = some 1 := ⟨rfl, hd_X5_isPond⟩
theorem iX5_isPond_X5 : ∀ w ∈ wsX50, w ∈ wsX5_isPond := fun _ h => List.mem_cons_of_mem _ (List.mem_append_left _ (List.mem_append_right _ (h)))
section
variable {p : Program} {l : Launch} {e : Env} {s : State} {m : MethodId} {args : Array Value} {below : List Frame} {meth : Method} {c : Code} {E : Env0} {A : Nat → Prop}
set_option maxRecDepth 100000 in
set_option maxHeartbeats 4000000 in
theorem w_X5_isPond (X : Ctx p m meth c cX5_isPond 2 ((some .int)) s args wsX5_isPond RX5 E A) (a_t : Nat) (a_now : Nat) (a_now_ponds : Nat) (a_refusals : Nat) (a_kept : Nat) (a_trial : Nat) (a_reader : Nat) (a_shelves : Nat) (a_one : Nat) (a_two : Nat) (a_search : Nat) (a_outs : Nat) (a_now_kinds : Nat) (a_now_weights : Nat) (a_now_cells : Nat) (a_now_faces : Nat) (a_now_pledges : Nat) (c_t : Nat → Int32) (c_now : Nat → Int32) (c_now_ponds : Nat → Int32) (res : Int32 × (Nat → Int32)) (c_refusals : Nat → Int32) (l1 : Int32) (ls : Array Slot) (H : Heap) (locs : List Loc) (h : f_X5_isPond l1 c_t c_now c_now_ponds c_refusals = some res) (hP : va_P E.1 vwCl (W_X5_isPond E a_t a_now a_now_ponds a_refusals a_kept a_trial a_reader a_shelves a_one a_two a_search a_outs a_now_kinds a_now_weights a_now_cells a_now_faces a_now_pledges c_t c_now c_now_ponds c_refusals) H) (hD : va_D A (W_X5_isPond E a_t a_now a_now_ponds a_refusals a_kept a_trial a_reader a_shelves a_one a_two a_search a_outs a_now_kinds a_now_weights a_now_cells a_now_faces a_now_pledges c_t c_now c_now_ponds c_refusals)) (hS : va_S A s.heap H locs) (hl : lv_has ls 2 [(0, .ref a_t), (1, .int l1)]) : W p l e r_X5_isPond s m args below meth c H locs 0 0 (MQ below (qI E A (res.1) (W_X5_isPond E a_t a_now a_now_ponds a_refusals a_kept a_trial a_reader a_shelves a_one a_two a_search a_outs a_now_kinds a_now_weights a_now_cells a_now_faces a_now_pledges c_t c_now c_now_ponds (res.2))) args s 0 0 A) (F0 m 0 ls []) := by
  obtain ⟨hx, hb, hml, hr, hlk, hown, hts, hG, hA⟩ := id X
  have hK := hG.1
  have hN := hG.2.1
  unfold f_X5_isPond at h
  refine lv_aload_n hx hb dX5_isPond_0 rfl (lv_at hl 0 rfl) ?_
  refine va_get (D := E.1) (ci := 5) (v := .ref a_now) (C := RX5) (T := TX5) (N := 11) hx hb hts iX5_isPond_X5 hown hK hP 0 rfl rfl 0 (by decide) (hts (.fieldLink RX5 10 "LeftIsAgreedOn" "now" "LLeftIsAgreedOn$Island;") (List.mem_of_getElem? (i := 1) rfl)) (fun _ h9 => h9) rfl dX5_isPond_1 ?_
  refine lv_iload_n hx hb dX5_isPond_4 rfl (lv_at hl 1 rfl) ?_
  obtain ⟨v1, hv1, h⟩ := bind_of h
  refine after_i X (run_V X (c_X0_isCell l E a_now a_now_ponds a_now_kinds a_now_weights a_now_cells a_now_faces a_now_pledges l1 c_now H.size v1 hv1) (cwV 1 hts gX5_isPond_X0_isCell rfl rfl rfl hV_X0_isCell ⟨(Nat.le_of_ble_eq_true rfl), (Nat.le_of_ble_eq_true rfl)⟩) hP hD hS [1] rfl rfl hl.1 (ci := 0) rfl rfl rfl (rest := []) rfl rfl (Nat.le_of_ble_eq_true rfl) dX5_isPond_5) hP hD hS [1] rfl (ws1 := (W_X5_isPond E a_t a_now a_now_ponds a_refusals a_kept a_trial a_reader a_shelves a_one a_two a_search a_outs a_now_kinds a_now_weights a_now_cells a_now_faces a_now_pledges c_t c_now c_now_ponds c_refusals)) rfl (fun H locs hP hD hS => ?_)
  refine lv_if_ne (tgt := 18) hx hb dX5_isPond_8 (by decide) (fun hc8 => ?_) (fun hc8 => ?_)
  · have h := if_f h hc8
    refine lv_aload_n hx hb dX5_isPond_18 rfl (lv_at hl 0 rfl) ?_
    refine va_get (D := E.1) (ci := 5) (v := .ref a_now) (C := RX5) (T := TX5) (N := 11) hx hb hts iX5_isPond_X5 hown hK hP 0 rfl rfl 0 (by decide) (hts (.fieldLink RX5 10 "LeftIsAgreedOn" "now" "LLeftIsAgreedOn$Island;") (List.mem_of_getElem? (i := 1) rfl)) (fun _ h9 => h9) rfl dX5_isPond_19 ?_
    refine lv_iload_n hx hb dX5_isPond_22 rfl (lv_at hl 1 rfl) ?_
    obtain ⟨v2, hv2, h⟩ := bind_of h
    refine after_i X (run_V X (c_X0_hasPond l E a_now a_now_ponds a_now_kinds a_now_weights a_now_cells a_now_faces a_now_pledges l1 c_now c_now_ponds H.size v2 hv2) (cwV 1 hts gX5_isPond_X0_hasPond rfl rfl rfl hV_X0_hasPond ⟨(Nat.le_of_ble_eq_true rfl), (Nat.le_of_ble_eq_true rfl)⟩) hP hD hS [1, 2] rfl rfl hl.1 (ci := 0) rfl rfl rfl (rest := []) rfl rfl (Nat.le_of_ble_eq_true rfl) dX5_isPond_23) hP hD hS [1, 2] rfl (ws1 := (W_X5_isPond E a_t a_now a_now_ponds a_refusals a_kept a_trial a_reader a_shelves a_one a_two a_search a_outs a_now_kinds a_now_weights a_now_cells a_now_faces a_now_pledges c_t c_now c_now_ponds c_refusals)) rfl (fun H locs hP hD hS => ?_)
    obtain ⟨v3, hv3, h⟩ := bind_of h
    refine after_i X (run_S X (c_X5_asNumber l E v2 H.size v3 hv3) (va_cwS 1 hts gX5_isPond_X5_asNumber rfl rfl rfl hd_X5_asNumber ⟨(Nat.le_of_ble_eq_true rfl), (Nat.le_of_ble_eq_true rfl)⟩) hP hD hS [] rfl rfl hl.1 (rest := []) rfl rfl (Nat.le_of_ble_eq_true rfl) dX5_isPond_26) hP hD hS [] rfl (ws1 := (W_X5_isPond E a_t a_now a_now_ponds a_refusals a_kept a_trial a_reader a_shelves a_one a_two a_search a_outs a_now_kinds a_now_weights a_now_cells a_now_faces a_now_pledges c_t c_now c_now_ponds c_refusals)) rfl (fun H locs hP hD hS => ?_)
    obtain rfl := Option.some.inj h
    exact ret_i X dX5_isPond_29 hP hD hS rfl
  · have h := if_t h hc8
    refine lv_aload_n hx hb dX5_isPond_11 rfl (lv_at hl 0 rfl) ?_
    refine lv_bipush (v := (-2 : Int32)) hx hb dX5_isPond_12 (by decide) ?_
    obtain ⟨v4, hv4, h⟩ := bind_of h
    refine after_i X (run_V X (c_X5_refuse l E a_t a_refusals a_now a_kept a_trial a_reader a_shelves a_one a_two a_search a_outs (-2 : Int32) c_t c_refusals H.size v4 hv4) (cwV 1 hts gX5_isPond_X5_refuse rfl rfl rfl hV_X5_refuse ⟨(Nat.le_of_ble_eq_true rfl), (Nat.le_of_ble_eq_true rfl)⟩) hP hD hS [0, 3] rfl rfl hl.1 (ci := 5) rfl rfl rfl (rest := []) rfl rfl (Nat.le_of_ble_eq_true rfl) dX5_isPond_14) hP hD hS [0, 3] rfl (ws1 := (W_X5_isPond E a_t a_now a_now_ponds a_refusals a_kept a_trial a_reader a_shelves a_one a_two a_search a_outs a_now_kinds a_now_weights a_now_cells a_now_faces a_now_pledges c_t c_now c_now_ponds (v4.2))) rfl (fun H locs hP hD hS => ?_)
    obtain rfl := Option.some.inj h
    exact ret_i X dX5_isPond_17 hP hD hS rfl
end
set_option maxRecDepth 100000 in
theorem c_X5_isPond (l : Launch) (E : Env0) (a_t : Nat) (a_now : Nat) (a_now_ponds : Nat) (a_refusals : Nat) (a_kept : Nat) (a_trial : Nat) (a_reader : Nat) (a_shelves : Nat) (a_one : Nat) (a_two : Nat) (a_search : Nat) (a_outs : Nat) (a_now_kinds : Nat) (a_now_weights : Nat) (a_now_cells : Nat) (a_now_faces : Nat) (a_now_pledges : Nat) (l1 : Int32) (c_t : Nat → Int32) (c_now : Nat → Int32) (c_now_ponds : Nat → Int32) (c_refusals : Nat → Int32) (sz : Nat) (res : Int32 × (Nat → Int32)) (h : f_X5_isPond l1 c_t c_now c_now_ponds c_refusals = some res) : Met l yX5_isPond wsX5_isPond r_X5_isPond (cPre E [.ref a_t, .int l1] (W_X5_isPond E a_t a_now a_now_ponds a_refusals a_kept a_trial a_reader a_shelves a_one a_two a_search a_outs a_now_kinds a_now_weights a_now_cells a_now_faces a_now_pledges c_t c_now c_now_ponds c_refusals) sz) (qI E (va_A (W_X5_isPond E a_t a_now a_now_ponds a_refusals a_kept a_trial a_reader a_shelves a_one a_two a_search a_outs a_now_kinds a_now_weights a_now_cells a_now_faces a_now_pledges c_t c_now c_now_ponds c_refusals) sz) (res.1) (W_X5_isPond E a_t a_now a_now_ponds a_refusals a_kept a_trial a_reader a_shelves a_one a_two a_search a_outs a_now_kinds a_now_weights a_now_cells a_now_faces a_now_pledges c_t c_now c_now_ponds (res.2))) 0 0 (va_A (W_X5_isPond E a_t a_now a_now_ponds a_refusals a_kept a_trial a_reader a_shelves a_one a_two a_search a_outs a_now_kinds a_now_weights a_now_cells a_now_faces a_now_pledges c_t c_now c_now_ponds c_refusals) sz) :=
  met_of (Qc := fun A => qI E A (res.1) (W_X5_isPond E a_t a_now a_now_ponds a_refusals a_kept a_trial a_reader a_shelves a_one a_two a_search a_outs a_now_kinds a_now_weights a_now_cells a_now_faces a_now_pledges c_t c_now c_now_ponds (res.2))) (by decide) rfl (Nat.le_of_ble_eq_true rfl) (fun p e s m args below meth c X hP hD hS ls hl => w_X5_isPond X a_t a_now a_now_ponds a_refusals a_kept a_trial a_reader a_shelves a_one a_two a_search a_outs a_now_kinds a_now_weights a_now_cells a_now_faces a_now_pledges c_t c_now c_now_ponds res c_refusals l1 ls _ _ h hP hD hS hl)
-- ===== X5_open
noncomputable abbrev W_X5_open (E : Env0) (a_t : Nat) (a_now : Nat) (a_now_ponds : Nat) (a_refusals : Nat) (a_kept : Nat) (a_trial : Nat) (a_reader : Nat) (a_shelves : Nat) (a_one : Nat) (a_two : Nat) (a_search : Nat) (a_outs : Nat) (a_now_kinds : Nat) (a_now_weights : Nat) (a_now_cells : Nat) (a_now_faces : Nat) (a_now_pledges : Nat) (c_t : Nat → Int32) (c_now : Nat → Int32) (c_now_ponds : Nat → Int32) (c_refusals : Nat → Int32) : va_W := [(a_t, .inr (5, [.ref a_now, .ref a_kept, .ref a_trial, .ref a_reader, .ref a_shelves, .ref a_one, .ref a_two, .ref a_search, .ref a_outs, .ref a_refusals, .int (c_t 10)])), (a_now, .inr (0, [.int (c_now 0), .int (c_now 1), .int (c_now 2), .int (c_now 3), .int (c_now 4), .int (c_now 5), .int (c_now 6), .int (c_now 7), .ref a_now_ponds, .ref a_now_kinds, .ref a_now_weights, .ref a_now_cells, .ref a_now_faces, .ref a_now_pledges])), (a_now_ponds, .inl (eZ E, 70, .inl c_now_ponds)), (a_refusals, .inl (eI E, 5, .inl c_refusals))]
noncomputable abbrev r_X5_open : Room := { frames := 2, cells := 0, slots := 0, locals := 43 }
theorem hd_X5_open : yX5_open.cls ≠ "java/lang/invoke/MethodHandle" ∧ yX5_open.cls ≠ "java/lang/invoke/VarHandle" ∧ (parseMethodDescriptor yX5_open.desc).map (fun d => d.parameters.length) = some 2 := by decide +kernel
theorem hV_X5_open : yX5_open.cls = RX5 ∧ yX5_open.cls ≠ "java/lang/invoke/MethodHandle" ∧ yX5_open.cls ≠ "java/lang/invoke/VarHandle" ∧ (parseMethodDescriptor yX5_open.desc).map (fun d => d.parameters.length) = some 2 := ⟨rfl, hd_X5_open⟩
theorem iX5_open_X5 : ∀ w ∈ wsX50, w ∈ wsX5_open := fun _ h => List.mem_cons_of_mem _ (List.mem_append_left _ (List.mem_append_right _ (h)))
section
variable {p : Program} {l : Launch} {e : Env} {s : State} {m : MethodId} {args : Array Value} {below : List Frame} {meth : Method} {c : Code} {E : Env0} {A : Nat → Prop}
set_option maxRecDepth 100000 in
set_option maxHeartbeats 4000000 in
theorem w_X5_open_b18 (X : Ctx p m meth c cX5_open 5 ((some .int)) s args wsX5_open RX5 E A) (a_t : Nat) (a_now : Nat) (a_now_ponds : Nat) (a_refusals : Nat) (a_kept : Nat) (a_trial : Nat) (a_reader : Nat) (a_shelves : Nat) (a_one : Nat) (a_two : Nat) (a_search : Nat) (a_outs : Nat) (a_now_kinds : Nat) (a_now_weights : Nat) (a_now_cells : Nat) (a_now_faces : Nat) (a_now_pledges : Nat) (c_t : Nat → Int32) (c_now : Nat → Int32) (c_now_ponds : Nat → Int32) (res : Int32 × (Nat → Int32)) (c_refusals : Nat → Int32) (ls : Array Slot) (H : Heap) (locs : List Loc) (h : f_X5_open_b18 c_t c_now c_now_ponds c_refusals = some res) (hP : va_P E.1 vwCl (W_X5_open E a_t a_now a_now_ponds a_refusals a_kept a_trial a_reader a_shelves a_one a_two a_search a_outs a_now_kinds a_now_weights a_now_cells a_now_faces a_now_pledges c_t c_now c_now_ponds c_refusals) H) (hD : va_D A (W_X5_open E a_t a_now a_now_ponds a_refusals a_kept a_trial a_reader a_shelves a_one a_two a_search a_outs a_now_kinds a_now_weights a_now_cells a_now_faces a_now_pledges c_t c_now c_now_ponds c_refusals)) (hS : va_S A s.heap H locs) (hl : lv_has ls 5 [(0, .ref a_t)]) : W p l e r_X5_open s m args below meth c H locs 0 0 (MQ below (qI E A (res.1) (W_X5_open E a_t a_now a_now_ponds a_refusals a_kept a_trial a_reader a_shelves a_one a_two a_search a_outs a_now_kinds a_now_weights a_now_cells a_now_faces a_now_pledges c_t c_now c_now_ponds (res.2))) args s 0 0 A) (F0 m 18 ls []) := by
  obtain ⟨hx, hb, hml, hr, hlk, hown, hts, hG, hA⟩ := id X
  have hK := hG.1
  have hN := hG.2.1
  unfold f_X5_open_b18 at h
  refine lv_aload_n hx hb dX5_open_18 rfl (lv_at hl 0 rfl) ?_
  refine lv_bipush (v := (-2 : Int32)) hx hb dX5_open_19 (by decide) ?_
  obtain ⟨v1, hv1, h⟩ := bind_of h
  refine after_i X (run_V X (c_X5_refuse l E a_t a_refusals a_now a_kept a_trial a_reader a_shelves a_one a_two a_search a_outs (-2 : Int32) c_t c_refusals H.size v1 hv1) (cwV 1 hts gX5_open_X5_refuse rfl rfl rfl hV_X5_refuse ⟨(Nat.le_of_ble_eq_true rfl), (Nat.le_of_ble_eq_true rfl)⟩) hP hD hS [0, 3] rfl rfl hl.1 (ci := 5) rfl rfl rfl (rest := []) rfl rfl (Nat.le_of_ble_eq_true rfl) dX5_open_21) hP hD hS [0, 3] rfl (ws1 := (W_X5_open E a_t a_now a_now_ponds a_refusals a_kept a_trial a_reader a_shelves a_one a_two a_search a_outs a_now_kinds a_now_weights a_now_cells a_now_faces a_now_pledges c_t c_now c_now_ponds (v1.2))) rfl (fun H locs hP hD hS => ?_)
  obtain rfl := Option.some.inj h
  exact ret_i X dX5_open_24 hP hD hS rfl
set_option maxRecDepth 100000 in
set_option maxHeartbeats 4000000 in
theorem w_X5_open_b38 (X : Ctx p m meth c cX5_open 5 ((some .int)) s args wsX5_open RX5 E A) (a_t : Nat) (a_now : Nat) (a_now_ponds : Nat) (a_refusals : Nat) (a_kept : Nat) (a_trial : Nat) (a_reader : Nat) (a_shelves : Nat) (a_one : Nat) (a_two : Nat) (a_search : Nat) (a_outs : Nat) (a_now_kinds : Nat) (a_now_weights : Nat) (a_now_cells : Nat) (a_now_faces : Nat) (a_now_pledges : Nat) (c_t : Nat → Int32) (c_now : Nat → Int32) (c_now_ponds : Nat → Int32) (res : Int32 × (Nat → Int32)) : ∀ (n : Nat) (c_refusals : Nat → Int32) (l2 : Int32) (l3 : Int32) (l4 : Int32) (ls : Array Slot) (H : Heap) (locs : List Loc), f_X5_open_b38 c_t c_now c_now_ponds n c_refusals l2 l3 l4 = some res → va_P E.1 vwCl (W_X5_open E a_t a_now a_now_ponds a_refusals a_kept a_trial a_reader a_shelves a_one a_two a_search a_outs a_now_kinds a_now_weights a_now_cells a_now_faces a_now_pledges c_t c_now c_now_ponds c_refusals) H → va_D A (W_X5_open E a_t a_now a_now_ponds a_refusals a_kept a_trial a_reader a_shelves a_one a_two a_search a_outs a_now_kinds a_now_weights a_now_cells a_now_faces a_now_pledges c_t c_now c_now_ponds c_refusals) → va_S A s.heap H locs → lv_has ls 5 [(0, .ref a_t), (2, .int l2), (3, .int l3), (4, .int l4)] → W p l e r_X5_open s m args below meth c H locs 0 0 (MQ below (qI E A (res.1) (W_X5_open E a_t a_now a_now_ponds a_refusals a_kept a_trial a_reader a_shelves a_one a_two a_search a_outs a_now_kinds a_now_weights a_now_cells a_now_faces a_now_pledges c_t c_now c_now_ponds (res.2))) args s 0 0 A) (F0 m 38 ls []) := by
  obtain ⟨hx, hb, hml, hr, hlk, hown, hts, hG, hA⟩ := id X
  have hK := hG.1
  have hN := hG.2.1
  intro n
  induction n with
  | zero =>
    intro c_refusals l2 l3 l4 ls H locs h
    exact absurd (show (none : Option (Int32 × (Nat → Int32))) = some res from h) (by intro q; cases q)
  | succ n ih =>
    intro c_refusals l2 l3 l4 ls H locs h hP hD hS hl
    rw [f_X5_open_b38] at h
    refine lv_iload hx hb dX5_open_38 (lv_at hl 3 rfl) ?_
    refine lv_bipush (v := (7 : Int32)) hx hb dX5_open_40 (by decide) ?_
    refine lv_icmp_ge (tgt := 77) hx hb dX5_open_42 (by decide) (fun hc42 => ?_) (fun hc42 => ?_)
    · have h := if_t h hc42
      refine lv_iload hx hb dX5_open_77 (lv_at hl 3 rfl) ?_
      obtain rfl := Option.some.inj h
      exact ret_i X dX5_open_79 hP hD hS rfl
    · have h := if_f h hc42
      refine lv_iload_n hx hb dX5_open_45 rfl (lv_at hl 2 rfl) ?_
      refine lv_iconst (v := (-1 : Int32)) hx hb dX5_open_46 (by decide) ?_
      refine lv_icmp_eq (tgt := 77) hx hb dX5_open_47 (by decide) (fun hc47 => ?_) (fun hc47 => ?_)
      · have h := if_t h hc47
        refine lv_iload hx hb dX5_open_77 (lv_at hl 3 rfl) ?_
        obtain rfl := Option.some.inj h
        exact ret_i X dX5_open_79 hP hD hS rfl
      · have h := if_f h hc47
        refine lv_aload_n hx hb dX5_open_50 rfl (lv_at hl 0 rfl) ?_
        refine va_get (D := E.1) (ci := 5) (v := .ref a_now) (C := RX5) (T := TX5) (N := 11) hx hb hts iX5_open_X5 hown hK hP 0 rfl rfl 0 (by decide) (hts (.fieldLink RX5 10 "LeftIsAgreedOn" "now" "LLeftIsAgreedOn$Island;") (List.mem_of_getElem? (i := 1) rfl)) (fun _ h9 => h9) rfl dX5_open_51 ?_
        refine lv_iload_n hx hb dX5_open_54 rfl (lv_at hl 2 rfl) ?_
        obtain ⟨v1, hv1, h⟩ := bind_of h
        refine after_i X (run_V X (c_X0_hasPond l E a_now a_now_ponds a_now_kinds a_now_weights a_now_cells a_now_faces a_now_pledges l3 c_now c_now_ponds H.size v1 hv1) (cwV 1 hts gX5_open_X0_hasPond rfl rfl rfl hV_X0_hasPond ⟨(Nat.le_of_ble_eq_true rfl), (Nat.le_of_ble_eq_true rfl)⟩) hP hD hS [1, 2] rfl rfl hl.1 (ci := 0) rfl rfl rfl (rest := []) rfl rfl (Nat.le_of_ble_eq_true rfl) dX5_open_55) hP hD hS [1, 2] rfl (ws1 := (W_X5_open E a_t a_now a_now_ponds a_refusals a_kept a_trial a_reader a_shelves a_one a_two a_search a_outs a_now_kinds a_now_weights a_now_cells a_now_faces a_now_pledges c_t c_now c_now_ponds c_refusals)) rfl (fun H locs hP hD hS => ?_)
        refine lv_if_ne (tgt := 77) hx hb dX5_open_58 (by decide) (fun hc58 => ?_) (fun hc58 => ?_)
        · have h := if_f h hc58
          refine lv_iload hx hb dX5_open_77 (lv_at hl 3 rfl) ?_
          obtain rfl := Option.some.inj h
          exact ret_i X dX5_open_79 hP hD hS rfl
        · have h := if_t h hc58
          refine lv_iinc (v := (l4 + (1 : Int32))) (lv' := [(4, .int (l4 + (1 : Int32))), (0, .ref a_t), (2, .int l2), (3, .int l3)]) hx hb dX5_open_61 hl (k := 3) rfl rfl (by decide) rfl (fun ls hl => ?_)
          refine lv_aload_n hx hb dX5_open_64 rfl (lv_at hl 1 rfl) ?_
          refine va_get (D := E.1) (ci := 5) (v := .ref a_now) (C := RX5) (T := TX5) (N := 11) hx hb hts iX5_open_X5 hown hK hP 0 rfl rfl 0 (by decide) (hts (.fieldLink RX5 10 "LeftIsAgreedOn" "now" "LLeftIsAgreedOn$Island;") (List.mem_of_getElem? (i := 1) rfl)) (fun _ h9 => h9) rfl dX5_open_65 ?_
          refine lv_iload_n hx hb dX5_open_68 rfl (lv_at hl 3 rfl) ?_
          refine lv_iload_n hx hb dX5_open_69 rfl (lv_at hl 2 rfl) ?_
          obtain ⟨v2, hv2, h⟩ := bind_of h
          refine after_i X (run_V X (c_X0_cellAhead l E a_now a_now_ponds a_now_kinds a_now_weights a_now_cells a_now_faces a_now_pledges l3 l2 c_now H.size v2 hv2) (cwV 2 hts gX5_open_X0_cellAhead rfl rfl rfl hV_X0_cellAhead ⟨(Nat.le_of_ble_eq_true rfl), (Nat.le_of_ble_eq_true rfl)⟩) hP hD hS [1] rfl rfl hl.1 (ci := 0) rfl rfl rfl (rest := []) rfl rfl (Nat.le_of_ble_eq_true rfl) dX5_open_70) hP hD hS [1] rfl (ws1 := (W_X5_open E a_t a_now a_now_ponds a_refusals a_kept a_trial a_reader a_shelves a_one a_two a_search a_outs a_now_kinds a_now_weights a_now_cells a_now_faces a_now_pledges c_t c_now c_now_ponds c_refusals)) rfl (fun H locs hP hD hS => ?_)
          refine lv_istore_n (lv' := [(3, .int v2), (4, .int (l4 + (1 : Int32))), (0, .ref a_t), (2, .int l2)]) hx hb dX5_open_73 rfl hl (by decide) rfl (fun ls hl => ?_)
          refine lv_goto (tgt := 38) hx hb dX5_open_74 (by decide) ?_
          exact ih c_refusals l2 v2 (l4 + (1 : Int32)) _ _ _ h hP hD hS (lv_sub hl [2, 3, 0, 1] rfl)
set_option maxRecDepth 100000 in
set_option maxHeartbeats 4000000 in
theorem w_X5_open (X : Ctx p m meth c cX5_open 5 ((some .int)) s args wsX5_open RX5 E A) (a_t : Nat) (a_now : Nat) (a_now_ponds : Nat) (a_refusals : Nat) (a_kept : Nat) (a_trial : Nat) (a_reader : Nat) (a_shelves : Nat) (a_one : Nat) (a_two : Nat) (a_search : Nat) (a_outs : Nat) (a_now_kinds : Nat) (a_now_weights : Nat) (a_now_cells : Nat) (a_now_faces : Nat) (a_now_pledges : Nat) (c_t : Nat → Int32) (c_now : Nat → Int32) (c_now_ponds : Nat → Int32) (res : Int32 × (Nat → Int32)) (c_refusals : Nat → Int32) (l1 : Int32) (l2 : Int32) (ls : Array Slot) (H : Heap) (locs : List Loc) (h : f_X5_open l1 l2 c_t c_now c_now_ponds c_refusals = some res) (hP : va_P E.1 vwCl (W_X5_open E a_t a_now a_now_ponds a_refusals a_kept a_trial a_reader a_shelves a_one a_two a_search a_outs a_now_kinds a_now_weights a_now_cells a_now_faces a_now_pledges c_t c_now c_now_ponds c_refusals) H) (hD : va_D A (W_X5_open E a_t a_now a_now_ponds a_refusals a_kept a_trial a_reader a_shelves a_one a_two a_search a_outs a_now_kinds a_now_weights a_now_cells a_now_faces a_now_pledges c_t c_now c_now_ponds c_refusals)) (hS : va_S A s.heap H locs) (hl : lv_has ls 5 [(0, .ref a_t), (1, .int l1), (2, .int l2)]) : W p l e r_X5_open s m args below meth c H locs 0 0 (MQ below (qI E A (res.1) (W_X5_open E a_t a_now a_now_ponds a_refusals a_kept a_trial a_reader a_shelves a_one a_two a_search a_outs a_now_kinds a_now_weights a_now_cells a_now_faces a_now_pledges c_t c_now c_now_ponds (res.2))) args s 0 0 A) (F0 m 0 ls []) := by
  obtain ⟨hx, hb, hml, hr, hlk, hown, hts, hG, hA⟩ := id X
  have hK := hG.1
  have hN := hG.2.1
  unfold f_X5_open at h
  refine lv_aload_n hx hb dX5_open_0 rfl (lv_at hl 0 rfl) ?_
  refine va_get (D := E.1) (ci := 5) (v := .ref a_now) (C := RX5) (T := TX5) (N := 11) hx hb hts iX5_open_X5 hown hK hP 0 rfl rfl 0 (by decide) (hts (.fieldLink RX5 10 "LeftIsAgreedOn" "now" "LLeftIsAgreedOn$Island;") (List.mem_of_getElem? (i := 1) rfl)) (fun _ h9 => h9) rfl dX5_open_1 ?_
  refine lv_iload_n hx hb dX5_open_4 rfl (lv_at hl 1 rfl) ?_
  obtain ⟨v1, hv1, h⟩ := bind_of h
  refine after_i X (run_V X (c_X0_isCell l E a_now a_now_ponds a_now_kinds a_now_weights a_now_cells a_now_faces a_now_pledges l1 c_now H.size v1 hv1) (cwV 1 hts gX5_open_X0_isCell rfl rfl rfl hV_X0_isCell ⟨(Nat.le_of_ble_eq_true rfl), (Nat.le_of_ble_eq_true rfl)⟩) hP hD hS [1] rfl rfl hl.1 (ci := 0) rfl rfl rfl (rest := []) rfl rfl (Nat.le_of_ble_eq_true rfl) dX5_open_5) hP hD hS [1] rfl (ws1 := (W_X5_open E a_t a_now a_now_ponds a_refusals a_kept a_trial a_reader a_shelves a_one a_two a_search a_outs a_now_kinds a_now_weights a_now_cells a_now_faces a_now_pledges c_t c_now c_now_ponds c_refusals)) rfl (fun H locs hP hD hS => ?_)
  refine lv_if_eq (tgt := 18) hx hb dX5_open_8 (by decide) (fun hc8 => ?_) (fun hc8 => ?_)
  · have h := if_t h hc8
    exact w_X5_open_b18 X a_t a_now a_now_ponds a_refusals a_kept a_trial a_reader a_shelves a_one a_two a_search a_outs a_now_kinds a_now_weights a_now_cells a_now_faces a_now_pledges c_t c_now c_now_ponds res c_refusals _ _ _ h hP hD hS (lv_sub hl [0] rfl)
  · have h := if_f h hc8
    refine lv_iload_n hx hb dX5_open_11 rfl (lv_at hl 2 rfl) ?_
    obtain ⟨v2, hv2, h⟩ := bind_of h
    refine after_i X (run_S X (c_X5_isFaces l E l2 H.size v2 hv2) (va_cwS 1 hts gX5_open_X5_isFaces rfl rfl rfl hd_X5_isFaces ⟨(Nat.le_of_ble_eq_true rfl), (Nat.le_of_ble_eq_true rfl)⟩) hP hD hS [] rfl rfl hl.1 (rest := []) rfl rfl (Nat.le_of_ble_eq_true rfl) dX5_open_12) hP hD hS [] rfl (ws1 := (W_X5_open E a_t a_now a_now_ponds a_refusals a_kept a_trial a_reader a_shelves a_one a_two a_search a_outs a_now_kinds a_now_weights a_now_cells a_now_faces a_now_pledges c_t c_now c_now_ponds c_refusals)) rfl (fun H locs hP hD hS => ?_)
    refine lv_if_ne (tgt := 25) hx hb dX5_open_15 (by decide) (fun hc15 => ?_) (fun hc15 => ?_)
    · have h := if_f h hc15
      refine lv_aload_n hx hb dX5_open_25 rfl (lv_at hl 0 rfl) ?_
      refine va_get (D := E.1) (ci := 5) (v := .ref a_now) (C := RX5) (T := TX5) (N := 11) hx hb hts iX5_open_X5 hown hK hP 0 rfl rfl 0 (by decide) (hts (.fieldLink RX5 10 "LeftIsAgreedOn" "now" "LLeftIsAgreedOn$Island;") (List.mem_of_getElem? (i := 1) rfl)) (fun _ h9 => h9) rfl dX5_open_26 ?_
      refine lv_iload_n hx hb dX5_open_29 rfl (lv_at hl 1 rfl) ?_
      refine lv_iload_n hx hb dX5_open_30 rfl (lv_at hl 2 rfl) ?_
      obtain ⟨v3, hv3, h⟩ := bind_of h
      refine after_i X (run_V X (c_X0_cellAhead l E a_now a_now_ponds a_now_kinds a_now_weights a_now_cells a_now_faces a_now_pledges l1 l2 c_now H.size v3 hv3) (cwV 2 hts gX5_open_X0_cellAhead rfl rfl rfl hV_X0_cellAhead ⟨(Nat.le_of_ble_eq_true rfl), (Nat.le_of_ble_eq_true rfl)⟩) hP hD hS [1] rfl rfl hl.1 (ci := 0) rfl rfl rfl (rest := []) rfl rfl (Nat.le_of_ble_eq_true rfl) dX5_open_31) hP hD hS [1] rfl (ws1 := (W_X5_open E a_t a_now a_now_ponds a_refusals a_kept a_trial a_reader a_shelves a_one a_two a_search a_outs a_now_kinds a_now_weights a_now_cells a_now_faces a_now_pledges c_t c_now c_now_ponds c_refusals)) rfl (fun H locs hP hD hS => ?_)
      refine lv_istore_n (lv' := [(3, .int v3), (0, .ref a_t), (1, .int l1), (2, .int l2)]) hx hb dX5_open_34 rfl hl (by decide) rfl (fun ls hl => ?_)
      refine lv_iconst (v := (0 : Int32)) hx hb dX5_open_35 (by decide) ?_
      refine lv_istore (lv' := [(4, .int (0 : Int32)), (3, .int v3), (0, .ref a_t), (1, .int l1), (2, .int l2)]) hx hb dX5_open_36 hl (by decide) rfl (fun ls hl => ?_)
      exact w_X5_open_b38 X a_t a_now a_now_ponds a_refusals a_kept a_trial a_reader a_shelves a_one a_two a_search a_outs a_now_kinds a_now_weights a_now_cells a_now_faces a_now_pledges c_t c_now c_now_ponds res FU c_refusals l2 v3 (0 : Int32) _ _ _ h hP hD hS (lv_sub hl [2, 4, 1, 0] rfl)
    · have h := if_t h hc15
      exact w_X5_open_b18 X a_t a_now a_now_ponds a_refusals a_kept a_trial a_reader a_shelves a_one a_two a_search a_outs a_now_kinds a_now_weights a_now_cells a_now_faces a_now_pledges c_t c_now c_now_ponds res c_refusals _ _ _ h hP hD hS (lv_sub hl [0] rfl)
end
set_option maxRecDepth 100000 in
theorem c_X5_open (l : Launch) (E : Env0) (a_t : Nat) (a_now : Nat) (a_now_ponds : Nat) (a_refusals : Nat) (a_kept : Nat) (a_trial : Nat) (a_reader : Nat) (a_shelves : Nat) (a_one : Nat) (a_two : Nat) (a_search : Nat) (a_outs : Nat) (a_now_kinds : Nat) (a_now_weights : Nat) (a_now_cells : Nat) (a_now_faces : Nat) (a_now_pledges : Nat) (l1 : Int32) (l2 : Int32) (c_t : Nat → Int32) (c_now : Nat → Int32) (c_now_ponds : Nat → Int32) (c_refusals : Nat → Int32) (sz : Nat) (res : Int32 × (Nat → Int32)) (h : f_X5_open l1 l2 c_t c_now c_now_ponds c_refusals = some res) : Met l yX5_open wsX5_open r_X5_open (cPre E [.ref a_t, .int l1, .int l2] (W_X5_open E a_t a_now a_now_ponds a_refusals a_kept a_trial a_reader a_shelves a_one a_two a_search a_outs a_now_kinds a_now_weights a_now_cells a_now_faces a_now_pledges c_t c_now c_now_ponds c_refusals) sz) (qI E (va_A (W_X5_open E a_t a_now a_now_ponds a_refusals a_kept a_trial a_reader a_shelves a_one a_two a_search a_outs a_now_kinds a_now_weights a_now_cells a_now_faces a_now_pledges c_t c_now c_now_ponds c_refusals) sz) (res.1) (W_X5_open E a_t a_now a_now_ponds a_refusals a_kept a_trial a_reader a_shelves a_one a_two a_search a_outs a_now_kinds a_now_weights a_now_cells a_now_faces a_now_pledges c_t c_now c_now_ponds (res.2))) 0 0 (va_A (W_X5_open E a_t a_now a_now_ponds a_refusals a_kept a_trial a_reader a_shelves a_one a_two a_search a_outs a_now_kinds a_now_weights a_now_cells a_now_faces a_now_pledges c_t c_now c_now_ponds c_refusals) sz) :=
  met_of (Qc := fun A => qI E A (res.1) (W_X5_open E a_t a_now a_now_ponds a_refusals a_kept a_trial a_reader a_shelves a_one a_two a_search a_outs a_now_kinds a_now_weights a_now_cells a_now_faces a_now_pledges c_t c_now c_now_ponds (res.2))) (by decide) rfl (Nat.le_of_ble_eq_true rfl) (fun p e s m args below meth c X hP hD hS ls hl => w_X5_open X a_t a_now a_now_ponds a_refusals a_kept a_trial a_reader a_shelves a_one a_two a_search a_outs a_now_kinds a_now_weights a_now_cells a_now_faces a_now_pledges c_t c_now c_now_ponds res c_refusals l1 l2 ls _ _ h hP hD hS hl)
-- ===== X5_shore
noncomputable abbrev W_X5_shore (E : Env0) (a_t : Nat) (a_now : Nat) (a_now_ponds : Nat) (a_kept : Nat) (a_trial : Nat) (a_reader : Nat) (a_shelves : Nat) (a_one : Nat) (a_two : Nat) (a_search : Nat) (a_outs : Nat) (a_refusals : Nat) (a_now_kinds : Nat) (a_now_weights : Nat) (a_now_cells : Nat) (a_now_faces : Nat) (a_now_pledges : Nat) (c_t : Nat → Int32) (c_now : Nat → Int32) (c_now_ponds : Nat → Int32) : va_W := [(a_t, .inr (5, [.ref a_now, .ref a_kept, .ref a_trial, .ref a_reader, .ref a_shelves, .ref a_one, .ref a_two, .ref a_search, .ref a_outs, .ref a_refusals, .int (c_t 10)])), (a_now, .inr (0, [.int (c_now 0), .int (c_now 1), .int (c_now 2), .int (c_now 3), .int (c_now 4), .int (c_now 5), .int (c_now 6), .int (c_now 7), .ref a_now_ponds, .ref a_now_kinds, .ref a_now_weights, .ref a_now_cells, .ref a_now_faces, .ref a_now_pledges])), (a_now_ponds, .inl (eZ E, 70, .inl c_now_ponds))]
noncomputable abbrev r_X5_shore : Room := { frames := 2, cells := 0, slots := 0, locals := 48 }
theorem hd_X5_shore : yX5_shore.cls ≠ "java/lang/invoke/MethodHandle" ∧ yX5_shore.cls ≠ "java/lang/invoke/VarHandle" ∧ (parseMethodDescriptor yX5_shore.desc).map (fun d => d.parameters.length) = some 0 := by decide +kernel
theorem hV_X5_shore : yX5_shore.cls = RX5 ∧ yX5_shore.cls ≠ "java/lang/invoke/MethodHandle" ∧ yX5_shore.cls ≠ "java/lang/invoke/VarHandle" ∧ (parseMethodDescriptor yX5_shore.desc).map (fun d => d.parameters.length) = some 0 := ⟨rfl, hd_X5_shore⟩
theorem iX5_shore_X5 : ∀ w ∈ wsX50, w ∈ wsX5_shore := fun _ h => List.mem_cons_of_mem _ (List.mem_append_left _ (List.mem_append_right _ (h)))
section
variable {p : Program} {l : Launch} {e : Env} {s : State} {m : MethodId} {args : Array Value} {below : List Frame} {meth : Method} {c : Code} {E : Env0} {A : Nat → Prop}
set_option maxRecDepth 100000 in
set_option maxHeartbeats 4000000 in
theorem w_X5_shore_b35 (X : Ctx p m meth c cX5_shore 3 ((some .int)) s args wsX5_shore RX5 E A) (a_t : Nat) (a_now : Nat) (a_now_ponds : Nat) (a_kept : Nat) (a_trial : Nat) (a_reader : Nat) (a_shelves : Nat) (a_one : Nat) (a_two : Nat) (a_search : Nat) (a_outs : Nat) (a_refusals : Nat) (a_now_kinds : Nat) (a_now_weights : Nat) (a_now_cells : Nat) (a_now_faces : Nat) (a_now_pledges : Nat) (c_t : Nat → Int32) (c_now : Nat → Int32) (c_now_ponds : Nat → Int32) (res : Int32) (k4 : Int32 → Int32 → Option (Int32)) (hk4 : ∀ (l1 : Int32) (l2 : Int32) (ls : Array Slot) (H : Heap) (locs : List Loc), k4 l1 l2 = some res → va_P E.1 vwCl (W_X5_shore E a_t a_now a_now_ponds a_kept a_trial a_reader a_shelves a_one a_two a_search a_outs a_refusals a_now_kinds a_now_weights a_now_cells a_now_faces a_now_pledges c_t c_now c_now_ponds) H → va_D A (W_X5_shore E a_t a_now a_now_ponds a_kept a_trial a_reader a_shelves a_one a_two a_search a_outs a_refusals a_now_kinds a_now_weights a_now_cells a_now_faces a_now_pledges c_t c_now c_now_ponds) → va_S A s.heap H locs → lv_has ls 3 [(0, .ref a_t), (1, .int l1), (2, .int l2)] → W p l e r_X5_shore s m args below meth c H locs 0 0 (MQ below (qI E A res (W_X5_shore E a_t a_now a_now_ponds a_kept a_trial a_reader a_shelves a_one a_two a_search a_outs a_refusals a_now_kinds a_now_weights a_now_cells a_now_faces a_now_pledges c_t c_now c_now_ponds)) args s 0 0 A) (F0 m 4 ls [])) (l1 : Int32) (l2 : Int32) (ls : Array Slot) (H : Heap) (locs : List Loc) (h : f_X5_shore_b35 c_t c_now c_now_ponds k4 l1 l2 = some res) (hP : va_P E.1 vwCl (W_X5_shore E a_t a_now a_now_ponds a_kept a_trial a_reader a_shelves a_one a_two a_search a_outs a_refusals a_now_kinds a_now_weights a_now_cells a_now_faces a_now_pledges c_t c_now c_now_ponds) H) (hD : va_D A (W_X5_shore E a_t a_now a_now_ponds a_kept a_trial a_reader a_shelves a_one a_two a_search a_outs a_refusals a_now_kinds a_now_weights a_now_cells a_now_faces a_now_pledges c_t c_now c_now_ponds)) (hS : va_S A s.heap H locs) (hl : lv_has ls 3 [(0, .ref a_t), (1, .int l1), (2, .int l2)]) : W p l e r_X5_shore s m args below meth c H locs 0 0 (MQ below (qI E A res (W_X5_shore E a_t a_now a_now_ponds a_kept a_trial a_reader a_shelves a_one a_two a_search a_outs a_refusals a_now_kinds a_now_weights a_now_cells a_now_faces a_now_pledges c_t c_now c_now_ponds)) args s 0 0 A) (F0 m 35 ls []) := by
  obtain ⟨hx, hb, hml, hr, hlk, hown, hts, hG, hA⟩ := id X
  have hK := hG.1
  have hN := hG.2.1
  unfold f_X5_shore_b35 at h
  refine lv_iinc (v := (l2 + (1 : Int32))) (lv' := [(2, .int (l2 + (1 : Int32))), (0, .ref a_t), (1, .int l1)]) hx hb dX5_shore_35 hl (k := 2) rfl rfl (by decide) rfl (fun ls hl => ?_)
  refine lv_goto (tgt := 4) hx hb dX5_shore_38 (by decide) ?_
  exact hk4 l1 (l2 + (1 : Int32)) _ _ _ h hP hD hS (lv_sub hl [1, 2, 0] rfl)
set_option maxRecDepth 100000 in
set_option maxHeartbeats 4000000 in
theorem w_X5_shore_b4 (X : Ctx p m meth c cX5_shore 3 ((some .int)) s args wsX5_shore RX5 E A) (a_t : Nat) (a_now : Nat) (a_now_ponds : Nat) (a_kept : Nat) (a_trial : Nat) (a_reader : Nat) (a_shelves : Nat) (a_one : Nat) (a_two : Nat) (a_search : Nat) (a_outs : Nat) (a_refusals : Nat) (a_now_kinds : Nat) (a_now_weights : Nat) (a_now_cells : Nat) (a_now_faces : Nat) (a_now_pledges : Nat) (c_t : Nat → Int32) (c_now : Nat → Int32) (c_now_ponds : Nat → Int32) (res : Int32) : ∀ (n : Nat) (l1 : Int32) (l2 : Int32) (ls : Array Slot) (H : Heap) (locs : List Loc), f_X5_shore_b4 c_t c_now c_now_ponds n l1 l2 = some res → va_P E.1 vwCl (W_X5_shore E a_t a_now a_now_ponds a_kept a_trial a_reader a_shelves a_one a_two a_search a_outs a_refusals a_now_kinds a_now_weights a_now_cells a_now_faces a_now_pledges c_t c_now c_now_ponds) H → va_D A (W_X5_shore E a_t a_now a_now_ponds a_kept a_trial a_reader a_shelves a_one a_two a_search a_outs a_refusals a_now_kinds a_now_weights a_now_cells a_now_faces a_now_pledges c_t c_now c_now_ponds) → va_S A s.heap H locs → lv_has ls 3 [(0, .ref a_t), (1, .int l1), (2, .int l2)] → W p l e r_X5_shore s m args below meth c H locs 0 0 (MQ below (qI E A res (W_X5_shore E a_t a_now a_now_ponds a_kept a_trial a_reader a_shelves a_one a_two a_search a_outs a_refusals a_now_kinds a_now_weights a_now_cells a_now_faces a_now_pledges c_t c_now c_now_ponds)) args s 0 0 A) (F0 m 4 ls []) := by
  obtain ⟨hx, hb, hml, hr, hlk, hown, hts, hG, hA⟩ := id X
  have hK := hG.1
  have hN := hG.2.1
  intro n
  induction n with
  | zero =>
    intro l1 l2 ls H locs h
    exact absurd (show (none : Option (Int32)) = some res from h) (by intro q; cases q)
  | succ n ih =>
    intro l1 l2 ls H locs h hP hD hS hl
    rw [f_X5_shore_b4] at h
    refine lv_iload_n hx hb dX5_shore_4 rfl (lv_at hl 2 rfl) ?_
    refine lv_bipush (v := (70 : Int32)) hx hb dX5_shore_5 (by decide) ?_
    refine lv_icmp_ge (tgt := 41) hx hb dX5_shore_7 (by decide) (fun hc7 => ?_) (fun hc7 => ?_)
    · have h := if_t h hc7
      refine lv_iload_n hx hb dX5_shore_41 rfl (lv_at hl 1 rfl) ?_
      obtain rfl := Option.some.inj h
      exact ret_i X dX5_shore_42 hP hD hS rfl
    · have h := if_f h hc7
      refine lv_aload_n hx hb dX5_shore_10 rfl (lv_at hl 0 rfl) ?_
      refine va_get (D := E.1) (ci := 5) (v := .ref a_now) (C := RX5) (T := TX5) (N := 11) hx hb hts iX5_shore_X5 hown hK hP 0 rfl rfl 0 (by decide) (hts (.fieldLink RX5 10 "LeftIsAgreedOn" "now" "LLeftIsAgreedOn$Island;") (List.mem_of_getElem? (i := 1) rfl)) (fun _ h9 => h9) rfl dX5_shore_11 ?_
      refine lv_iload_n hx hb dX5_shore_14 rfl (lv_at hl 2 rfl) ?_
      obtain ⟨v1, hv1, h⟩ := bind_of h
      refine after_i X (run_V X (c_X0_isDry l E a_now a_now_ponds a_now_kinds a_now_weights a_now_cells a_now_faces a_now_pledges l2 c_now c_now_ponds H.size v1 hv1) (cwV 1 hts gX5_shore_X0_isDry rfl rfl rfl hV_X0_isDry ⟨(Nat.le_of_ble_eq_true rfl), (Nat.le_of_ble_eq_true rfl)⟩) hP hD hS [1, 2] rfl rfl hl.1 (ci := 0) rfl rfl rfl (rest := []) rfl rfl (Nat.le_of_ble_eq_true rfl) dX5_shore_15) hP hD hS [1, 2] rfl (ws1 := (W_X5_shore E a_t a_now a_now_ponds a_kept a_trial a_reader a_shelves a_one a_two a_search a_outs a_refusals a_now_kinds a_now_weights a_now_cells a_now_faces a_now_pledges c_t c_now c_now_ponds)) rfl (fun H locs hP hD hS => ?_)
      refine lv_if_eq (tgt := 35) hx hb dX5_shore_18 (by decide) (fun hc18 => ?_) (fun hc18 => ?_)
      · have h := if_t h hc18
        exact w_X5_shore_b35 X a_t a_now a_now_ponds a_kept a_trial a_reader a_shelves a_one a_two a_search a_outs a_refusals a_now_kinds a_now_weights a_now_cells a_now_faces a_now_pledges c_t c_now c_now_ponds res (f_X5_shore_b4 c_t c_now c_now_ponds n) ih l1 l2 _ _ _ h hP hD hS (lv_sub hl [0, 1, 2] rfl)
      · have h := if_f h hc18
        refine lv_aload_n hx hb dX5_shore_21 rfl (lv_at hl 0 rfl) ?_
        refine va_get (D := E.1) (ci := 5) (v := .ref a_now) (C := RX5) (T := TX5) (N := 11) hx hb hts iX5_shore_X5 hown hK hP 0 rfl rfl 0 (by decide) (hts (.fieldLink RX5 10 "LeftIsAgreedOn" "now" "LLeftIsAgreedOn$Island;") (List.mem_of_getElem? (i := 1) rfl)) (fun _ h9 => h9) rfl dX5_shore_22 ?_
        refine lv_iload_n hx hb dX5_shore_25 rfl (lv_at hl 2 rfl) ?_
        obtain ⟨v2, hv2, h⟩ := bind_of h
        refine after_i X (run_V X (c_X0_hasPondBeside l E a_now a_now_ponds a_now_kinds a_now_weights a_now_cells a_now_faces a_now_pledges l2 c_now c_now_ponds H.size v2 hv2) (cwV 1 hts gX5_shore_X0_hasPondBeside rfl rfl rfl hV_X0_hasPondBeside ⟨(Nat.le_of_ble_eq_true rfl), (Nat.le_of_ble_eq_true rfl)⟩) hP hD hS [1, 2] rfl rfl hl.1 (ci := 0) rfl rfl rfl (rest := []) rfl rfl (Nat.le_of_ble_eq_true rfl) dX5_shore_26) hP hD hS [1, 2] rfl (ws1 := (W_X5_shore E a_t a_now a_now_ponds a_kept a_trial a_reader a_shelves a_one a_two a_search a_outs a_refusals a_now_kinds a_now_weights a_now_cells a_now_faces a_now_pledges c_t c_now c_now_ponds)) rfl (fun H locs hP hD hS => ?_)
        refine lv_if_eq (tgt := 35) hx hb dX5_shore_29 (by decide) (fun hc29 => ?_) (fun hc29 => ?_)
        · have h := if_t h hc29
          exact w_X5_shore_b35 X a_t a_now a_now_ponds a_kept a_trial a_reader a_shelves a_one a_two a_search a_outs a_refusals a_now_kinds a_now_weights a_now_cells a_now_faces a_now_pledges c_t c_now c_now_ponds res (f_X5_shore_b4 c_t c_now c_now_ponds n) ih l1 l2 _ _ _ h hP hD hS (lv_sub hl [0, 1, 2] rfl)
        · have h := if_f h hc29
          refine lv_iinc (v := (l1 + (1 : Int32))) (lv' := [(1, .int (l1 + (1 : Int32))), (0, .ref a_t), (2, .int l2)]) hx hb dX5_shore_32 hl (k := 1) rfl rfl (by decide) rfl (fun ls hl => ?_)
          exact w_X5_shore_b35 X a_t a_now a_now_ponds a_kept a_trial a_reader a_shelves a_one a_two a_search a_outs a_refusals a_now_kinds a_now_weights a_now_cells a_now_faces a_now_pledges c_t c_now c_now_ponds res (f_X5_shore_b4 c_t c_now c_now_ponds n) ih (l1 + (1 : Int32)) l2 _ _ _ h hP hD hS (lv_sub hl [1, 0, 2] rfl)
set_option maxRecDepth 100000 in
set_option maxHeartbeats 4000000 in
theorem w_X5_shore (X : Ctx p m meth c cX5_shore 3 ((some .int)) s args wsX5_shore RX5 E A) (a_t : Nat) (a_now : Nat) (a_now_ponds : Nat) (a_kept : Nat) (a_trial : Nat) (a_reader : Nat) (a_shelves : Nat) (a_one : Nat) (a_two : Nat) (a_search : Nat) (a_outs : Nat) (a_refusals : Nat) (a_now_kinds : Nat) (a_now_weights : Nat) (a_now_cells : Nat) (a_now_faces : Nat) (a_now_pledges : Nat) (c_t : Nat → Int32) (c_now : Nat → Int32) (c_now_ponds : Nat → Int32) (res : Int32) (ls : Array Slot) (H : Heap) (locs : List Loc) (h : f_X5_shore c_t c_now c_now_ponds = some res) (hP : va_P E.1 vwCl (W_X5_shore E a_t a_now a_now_ponds a_kept a_trial a_reader a_shelves a_one a_two a_search a_outs a_refusals a_now_kinds a_now_weights a_now_cells a_now_faces a_now_pledges c_t c_now c_now_ponds) H) (hD : va_D A (W_X5_shore E a_t a_now a_now_ponds a_kept a_trial a_reader a_shelves a_one a_two a_search a_outs a_refusals a_now_kinds a_now_weights a_now_cells a_now_faces a_now_pledges c_t c_now c_now_ponds)) (hS : va_S A s.heap H locs) (hl : lv_has ls 3 [(0, .ref a_t)]) : W p l e r_X5_shore s m args below meth c H locs 0 0 (MQ below (qI E A res (W_X5_shore E a_t a_now a_now_ponds a_kept a_trial a_reader a_shelves a_one a_two a_search a_outs a_refusals a_now_kinds a_now_weights a_now_cells a_now_faces a_now_pledges c_t c_now c_now_ponds)) args s 0 0 A) (F0 m 0 ls []) := by
  obtain ⟨hx, hb, hml, hr, hlk, hown, hts, hG, hA⟩ := id X
  have hK := hG.1
  have hN := hG.2.1
  unfold f_X5_shore at h
  refine lv_iconst (v := (0 : Int32)) hx hb dX5_shore_0 (by decide) ?_
  refine lv_istore_n (lv' := [(1, .int (0 : Int32)), (0, .ref a_t)]) hx hb dX5_shore_1 rfl hl (by decide) rfl (fun ls hl => ?_)
  refine lv_iconst (v := (0 : Int32)) hx hb dX5_shore_2 (by decide) ?_
  refine lv_istore_n (lv' := [(2, .int (0 : Int32)), (1, .int (0 : Int32)), (0, .ref a_t)]) hx hb dX5_shore_3 rfl hl (by decide) rfl (fun ls hl => ?_)
  exact w_X5_shore_b4 X a_t a_now a_now_ponds a_kept a_trial a_reader a_shelves a_one a_two a_search a_outs a_refusals a_now_kinds a_now_weights a_now_cells a_now_faces a_now_pledges c_t c_now c_now_ponds res FU (0 : Int32) (0 : Int32) _ _ _ h hP hD hS (lv_sub hl [2, 1, 0] rfl)
end
set_option maxRecDepth 100000 in
theorem c_X5_shore (l : Launch) (E : Env0) (a_t : Nat) (a_now : Nat) (a_now_ponds : Nat) (a_kept : Nat) (a_trial : Nat) (a_reader : Nat) (a_shelves : Nat) (a_one : Nat) (a_two : Nat) (a_search : Nat) (a_outs : Nat) (a_refusals : Nat) (a_now_kinds : Nat) (a_now_weights : Nat) (a_now_cells : Nat) (a_now_faces : Nat) (a_now_pledges : Nat) (c_t : Nat → Int32) (c_now : Nat → Int32) (c_now_ponds : Nat → Int32) (sz : Nat) (res : Int32) (h : f_X5_shore c_t c_now c_now_ponds = some res) : Met l yX5_shore wsX5_shore r_X5_shore (cPre E [.ref a_t] (W_X5_shore E a_t a_now a_now_ponds a_kept a_trial a_reader a_shelves a_one a_two a_search a_outs a_refusals a_now_kinds a_now_weights a_now_cells a_now_faces a_now_pledges c_t c_now c_now_ponds) sz) (qI E (va_A (W_X5_shore E a_t a_now a_now_ponds a_kept a_trial a_reader a_shelves a_one a_two a_search a_outs a_refusals a_now_kinds a_now_weights a_now_cells a_now_faces a_now_pledges c_t c_now c_now_ponds) sz) res (W_X5_shore E a_t a_now a_now_ponds a_kept a_trial a_reader a_shelves a_one a_two a_search a_outs a_refusals a_now_kinds a_now_weights a_now_cells a_now_faces a_now_pledges c_t c_now c_now_ponds)) 0 0 (va_A (W_X5_shore E a_t a_now a_now_ponds a_kept a_trial a_reader a_shelves a_one a_two a_search a_outs a_refusals a_now_kinds a_now_weights a_now_cells a_now_faces a_now_pledges c_t c_now c_now_ponds) sz) :=
  met_of (Qc := fun A => qI E A res (W_X5_shore E a_t a_now a_now_ponds a_kept a_trial a_reader a_shelves a_one a_two a_search a_outs a_refusals a_now_kinds a_now_weights a_now_cells a_now_faces a_now_pledges c_t c_now c_now_ponds)) (by decide) rfl (Nat.le_of_ble_eq_true rfl) (fun p e s m args below meth c X hP hD hS ls hl => w_X5_shore X a_t a_now a_now_ponds a_kept a_trial a_reader a_shelves a_one a_two a_search a_outs a_refusals a_now_kinds a_now_weights a_now_cells a_now_faces a_now_pledges c_t c_now c_now_ponds res ls _ _ h hP hD hS hl)
