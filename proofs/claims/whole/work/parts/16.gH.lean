-- ===== X1_isWord
noncomputable abbrev W_X1_isWord (E : Env0) (a_t : Nat) (a_bytes : Nat) (a_trial : Nat) (c_t : Nat → Int32) (c_bytes : Nat → Int32) : va_W := [(a_t, .inr (1, [.ref a_trial, .ref a_bytes, .int (c_t 2), .int (c_t 3), .int (c_t 4), .int (c_t 5), .int (c_t 6)])), (a_bytes, .inl (eI E, 250, .inl c_bytes))]
noncomputable abbrev r_X1_isWord : Room := { frames := 4, cells := 0, slots := 0, locals := 85 }
theorem hd_X1_isWord : yX1_isWord.cls ≠ "java/lang/invoke/MethodHandle" ∧ yX1_isWord.cls ≠ "java/lang/invoke/VarHandle" ∧ (parseMethodDescriptor yX1_isWord.desc).map (fun d => d.parameters.length) = some 1 := by decide +kernel
theorem hV_X1_isWord : yX1_isWord.cls = RX1 ∧ yX1_isWord.cls ≠ "java/lang/invoke/MethodHandle" ∧ yX1_isWord.cls ≠ "java/lang/invoke/VarHandle" ∧ (parseMethodDescriptor yX1_isWord.desc).map (fun d => d.parameters.length) = some 1 := ⟨rfl, hd_X1_isWord⟩
theorem iX1_isWord_X1 : ∀ w ∈ wsX10, w ∈ wsX1_isWord := fun _ h => List.mem_cons_of_mem _ (List.mem_append_right _ (h))
section
variable {p : Program} {l : Launch} {e : Env} {s : State} {m : MethodId} {args : Array Value} {below : List Frame} {meth : Method} {c : Code} {E : Env0} {A : Nat → Prop}
set_option maxRecDepth 100000 in
set_option maxHeartbeats 4000000 in
theorem w_X1_isWord_b20 (X : Ctx p m meth c cX1_isWord 3 ((some .boolean)) s args wsX1_isWord RX1 E A) (a_t : Nat) (a_bytes : Nat) (a_trial : Nat) (tk : Nat) (c_t : Nat → Int32) (c_bytes : Nat → Int32) (res : Int32) : ∀ (n : Nat) (l2 : Int32) (ls : Array Slot) (H : Heap) (locs : List Loc), f_X1_isWord_b20 tk c_t c_bytes n l2 = some res → va_P E.1 vwCl (W_X1_isWord E a_t a_bytes a_trial c_t c_bytes) H → va_D A (W_X1_isWord E a_t a_bytes a_trial c_t c_bytes) → va_S A s.heap H locs → lv_has ls 3 [(0, .ref a_t), (1, .ref (E.2.2.2.1 tk)), (2, .int l2)] → W p l e r_X1_isWord s m args below meth c H locs 0 0 (MQ below (qI E A res (W_X1_isWord E a_t a_bytes a_trial c_t c_bytes)) args s 0 0 A) (F0 m 20 ls []) := by
  obtain ⟨hx, hb, hml, hr, hlk, hown, hts, hG, hA⟩ := id X
  have hK := hG.1
  have hN := hG.2.1
  intro n
  induction n with
  | zero =>
    intro l2 ls H locs h
    exact absurd (show (none : Option (Int32)) = some res from h) (by intro q; cases q)
  | succ n ih =>
    intro l2 ls H locs h hP hD hS hl
    rw [f_X1_isWord_b20] at h
    refine lv_iload_n hx hb dX1_isWord_20 rfl (lv_at hl 2 rfl) ?_
    refine lv_aload_n hx hb dX1_isWord_21 rfl (lv_at hl 1 rfl) ?_
    obtain ⟨hz22, h⟩ := chk_of h
    refine after_i X (run_T X hz22 (c_slen l E tk hz22 H.size) (cwV 0 hts gX1_isWord_J0_length_8abf5 rfl rfl rfl hV_J0_length_8abf5 ⟨(Nat.le_of_ble_eq_true rfl), (Nat.le_of_ble_eq_true rfl)⟩) hP hD hS hl.1 (rest := [.int l2]) rfl rfl (Nat.le_of_ble_eq_true rfl) dX1_isWord_22) hP hD hS [] rfl (ws1 := (W_X1_isWord E a_t a_bytes a_trial c_t c_bytes)) rfl (fun H locs hP hD hS => ?_)
    refine lv_icmp_ge (tgt := 55) hx hb dX1_isWord_25 (by decide) (fun hc25 => ?_) (fun hc25 => ?_)
    · have h := if_t h hc25
      refine lv_iconst (v := (1 : Int32)) hx hb dX1_isWord_55 (by decide) ?_
      obtain rfl := Option.some.inj h
      exact ret_z X dX1_isWord_56 (by decide) hP hD hS rfl
    · have h := if_f h hc25
      refine lv_aload_n hx hb dX1_isWord_28 rfl (lv_at hl 0 rfl) ?_
      refine va_get (D := E.1) (ci := 1) (v := .ref a_bytes) (C := RX1) (T := TX1) (N := 7) hx hb hts iX1_isWord_X1 hown hK hP 0 rfl rfl 1 (by decide) (hts (.fieldLink RX1 11 "LeftIsAgreedOn$Reader" "bytes" "[I") (List.mem_of_getElem? (i := 3) rfl)) (fun _ h9 => h9) rfl dX1_isWord_29 ?_
      refine lv_aload_n hx hb dX1_isWord_32 rfl (lv_at hl 0 rfl) ?_
      refine va_get (D := E.1) (ci := 1) (v := .int (c_t 5)) (C := RX1) (T := TX1) (N := 7) hx hb hts iX1_isWord_X1 hown hK hP 0 rfl rfl 5 (by decide) (hts (.fieldLink RX1 25 "LeftIsAgreedOn$Reader" "tokenAt" "I") (List.mem_of_getElem? (i := 2) rfl)) (fun _ h9 => h9) rfl dX1_isWord_33 ?_
      refine lv_iload_n hx hb dX1_isWord_36 rfl (lv_at hl 2 rfl) ?_
      refine lv_iadd hx hb dX1_isWord_37 ?_
      obtain ⟨hz38, h⟩ := chk_of h
      refine ld_i X hP 1 rfl (inb.vp hz38) (v := (c_bytes (((c_t 5) + l2)).toNatClampNeg)) rfl dX1_isWord_38 ?_
      refine lv_aload_n hx hb dX1_isWord_39 rfl (lv_at hl 1 rfl) ?_
      refine lv_iload_n hx hb dX1_isWord_40 rfl (lv_at hl 2 rfl) ?_
      obtain ⟨hz41, h⟩ := chk_of h
      obtain ⟨hy41, h⟩ := chk_of h
      refine after_i X (run_T X hz41 (c_schar l E tk hz41 l2 hy41 H.size) (cwV 1 hts gX1_isWord_J0_charAt_5068e rfl rfl rfl hV_J0_charAt_5068e ⟨(Nat.le_of_ble_eq_true rfl), (Nat.le_of_ble_eq_true rfl)⟩) hP hD hS hl.1 (rest := [.int (c_bytes (((c_t 5) + l2)).toNatClampNeg)]) rfl rfl (Nat.le_of_ble_eq_true rfl) dX1_isWord_41) hP hD hS [] rfl (ws1 := (W_X1_isWord E a_t a_bytes a_trial c_t c_bytes)) rfl (fun H locs hP hD hS => ?_)
      refine lv_icmp_eq (tgt := 49) hx hb dX1_isWord_44 (by decide) (fun hc44 => ?_) (fun hc44 => ?_)
      · have h := if_t h hc44
        refine lv_iinc (v := (l2 + (1 : Int32))) (lv' := [(2, .int (l2 + (1 : Int32))), (0, .ref a_t), (1, .ref (E.2.2.2.1 tk))]) hx hb dX1_isWord_49 hl (k := 2) rfl rfl (by decide) rfl (fun ls hl => ?_)
        refine lv_goto (tgt := 20) hx hb dX1_isWord_52 (by decide) ?_
        exact ih (l2 + (1 : Int32)) _ _ _ h hP hD hS (lv_sub hl [1, 2, 0] rfl)
      · have h := if_f h hc44
        refine lv_iconst (v := (0 : Int32)) hx hb dX1_isWord_47 (by decide) ?_
        obtain rfl := Option.some.inj h
        exact ret_z X dX1_isWord_48 (by decide) hP hD hS rfl
set_option maxRecDepth 100000 in
set_option maxHeartbeats 4000000 in
theorem w_X1_isWord (X : Ctx p m meth c cX1_isWord 3 ((some .boolean)) s args wsX1_isWord RX1 E A) (a_t : Nat) (a_bytes : Nat) (a_trial : Nat) (tk : Nat) (c_t : Nat → Int32) (c_bytes : Nat → Int32) (res : Int32) (ls : Array Slot) (H : Heap) (locs : List Loc) (h : f_X1_isWord tk c_t c_bytes = some res) (hP : va_P E.1 vwCl (W_X1_isWord E a_t a_bytes a_trial c_t c_bytes) H) (hD : va_D A (W_X1_isWord E a_t a_bytes a_trial c_t c_bytes)) (hS : va_S A s.heap H locs) (hl : lv_has ls 3 [(0, .ref a_t), (1, .ref (E.2.2.2.1 tk))]) : W p l e r_X1_isWord s m args below meth c H locs 0 0 (MQ below (qI E A res (W_X1_isWord E a_t a_bytes a_trial c_t c_bytes)) args s 0 0 A) (F0 m 0 ls []) := by
  obtain ⟨hx, hb, hml, hr, hlk, hown, hts, hG, hA⟩ := id X
  have hK := hG.1
  have hN := hG.2.1
  unfold f_X1_isWord at h
  refine lv_aload_n hx hb dX1_isWord_0 rfl (lv_at hl 0 rfl) ?_
  refine va_get (D := E.1) (ci := 1) (v := .int (c_t 3)) (C := RX1) (T := TX1) (N := 7) hx hb hts iX1_isWord_X1 hown hK hP 0 rfl rfl 3 (by decide) (hts (.fieldLink RX1 19 "LeftIsAgreedOn$Reader" "at" "I") (List.mem_of_getElem? (i := 1) rfl)) (fun _ h9 => h9) rfl dX1_isWord_1 ?_
  refine lv_aload_n hx hb dX1_isWord_4 rfl (lv_at hl 0 rfl) ?_
  refine va_get (D := E.1) (ci := 1) (v := .int (c_t 5)) (C := RX1) (T := TX1) (N := 7) hx hb hts iX1_isWord_X1 hown hK hP 0 rfl rfl 5 (by decide) (hts (.fieldLink RX1 25 "LeftIsAgreedOn$Reader" "tokenAt" "I") (List.mem_of_getElem? (i := 2) rfl)) (fun _ h9 => h9) rfl dX1_isWord_5 ?_
  refine lv_isub hx hb dX1_isWord_8 ?_
  refine lv_aload_n hx hb dX1_isWord_9 rfl (lv_at hl 1 rfl) ?_
  obtain ⟨hz10, h⟩ := chk_of h
  refine after_i X (run_T X hz10 (c_slen l E tk hz10 H.size) (cwV 0 hts gX1_isWord_J0_length_8abf5 rfl rfl rfl hV_J0_length_8abf5 ⟨(Nat.le_of_ble_eq_true rfl), (Nat.le_of_ble_eq_true rfl)⟩) hP hD hS hl.1 (rest := [.int ((c_t 3) - (c_t 5))]) rfl rfl (Nat.le_of_ble_eq_true rfl) dX1_isWord_10) hP hD hS [] rfl (ws1 := (W_X1_isWord E a_t a_bytes a_trial c_t c_bytes)) rfl (fun H locs hP hD hS => ?_)
  refine lv_icmp_eq (tgt := 18) hx hb dX1_isWord_13 (by decide) (fun hc13 => ?_) (fun hc13 => ?_)
  · have h := if_t h hc13
    refine lv_iconst (v := (0 : Int32)) hx hb dX1_isWord_18 (by decide) ?_
    refine lv_istore_n (lv' := [(2, .int (0 : Int32)), (0, .ref a_t), (1, .ref (E.2.2.2.1 tk))]) hx hb dX1_isWord_19 rfl hl (by decide) rfl (fun ls hl => ?_)
    exact w_X1_isWord_b20 X a_t a_bytes a_trial tk c_t c_bytes res FU (0 : Int32) _ _ _ h hP hD hS (lv_sub hl [1, 2, 0] rfl)
  · have h := if_f h hc13
    refine lv_iconst (v := (0 : Int32)) hx hb dX1_isWord_16 (by decide) ?_
    obtain rfl := Option.some.inj h
    exact ret_z X dX1_isWord_17 (by decide) hP hD hS rfl
end
set_option maxRecDepth 100000 in
theorem c_X1_isWord (l : Launch) (E : Env0) (a_t : Nat) (a_bytes : Nat) (a_trial : Nat) (tk : Nat) (c_t : Nat → Int32) (c_bytes : Nat → Int32) (sz : Nat) (res : Int32) (h : f_X1_isWord tk c_t c_bytes = some res) : Met l yX1_isWord wsX1_isWord r_X1_isWord (cPre E [.ref a_t, .ref (E.2.2.2.1 tk)] (W_X1_isWord E a_t a_bytes a_trial c_t c_bytes) sz) (qI E (va_A (W_X1_isWord E a_t a_bytes a_trial c_t c_bytes) sz) res (W_X1_isWord E a_t a_bytes a_trial c_t c_bytes)) 0 0 (va_A (W_X1_isWord E a_t a_bytes a_trial c_t c_bytes) sz) :=
  met_of (Qc := fun A => qI E A res (W_X1_isWord E a_t a_bytes a_trial c_t c_bytes)) (by decide) rfl (Nat.le_of_ble_eq_true rfl) (fun p e s m args below meth c X hP hD hS ls hl => w_X1_isWord X a_t a_bytes a_trial tk c_t c_bytes res ls _ _ h hP hD hS hl)
-- ===== X1_readNumber
noncomputable abbrev W_X1_readNumber (E : Env0) (a_t : Nat) (a_bytes : Nat) (a_trial : Nat) (c_t : Nat → Int32) (c_bytes : Nat → Int32) : va_W := [(a_t, .inr (1, [.ref a_trial, .ref a_bytes, .int (c_t 2), .int (c_t 3), .int (c_t 4), .int (c_t 5), .int (c_t 6)])), (a_bytes, .inl (eI E, 250, .inl c_bytes))]
noncomputable abbrev r_X1_readNumber : Room := { frames := 2, cells := 0, slots := 0, locals := 42 }
theorem hd_X1_readNumber : yX1_readNumber.cls ≠ "java/lang/invoke/MethodHandle" ∧ yX1_readNumber.cls ≠ "java/lang/invoke/VarHandle" ∧ (parseMethodDescriptor yX1_readNumber.desc).map (fun d => d.parameters.length) = some 2 := by decide +kernel
theorem hV_X1_readNumber : yX1_readNumber.cls = RX1 ∧ yX1_readNumber.cls ≠ "java/lang/invoke/MethodHandle" ∧ yX1_readNumber.cls ≠ "java/lang/invoke/VarHandle" ∧ (parseMethodDescriptor yX1_readNumber.desc).map (fun d => d.parameters.length) = some 2 := ⟨rfl, hd_X1_readNumber⟩
theorem iX1_readNumber_X1 : ∀ w ∈ wsX10, w ∈ wsX1_readNumber := fun _ h => List.mem_cons_of_mem _ (List.mem_append_right _ (h))
section
variable {p : Program} {l : Launch} {e : Env} {s : State} {m : MethodId} {args : Array Value} {below : List Frame} {meth : Method} {c : Code} {E : Env0} {A : Nat → Prop}
set_option maxRecDepth 100000 in
set_option maxHeartbeats 4000000 in
theorem w_X1_readNumber (X : Ctx p m meth c cX1_readNumber 3 ((some .boolean)) s args wsX1_readNumber RX1 E A) (a_t : Nat) (a_bytes : Nat) (a_trial : Nat) (c_bytes : Nat → Int32) (res : Int32 × (Nat → Int32)) (c_t : Nat → Int32) (l1 : Int32) (l2 : Int32) (ls : Array Slot) (H : Heap) (locs : List Loc) (h : f_X1_readNumber l1 l2 c_t c_bytes = some res) (hP : va_P E.1 vwCl (W_X1_readNumber E a_t a_bytes a_trial c_t c_bytes) H) (hD : va_D A (W_X1_readNumber E a_t a_bytes a_trial c_t c_bytes)) (hS : va_S A s.heap H locs) (hl : lv_has ls 3 [(0, .ref a_t), (1, .int l1), (2, .int l2)]) : W p l e r_X1_readNumber s m args below meth c H locs 0 0 (MQ below (qI E A (res.1) (W_X1_readNumber E a_t a_bytes a_trial (res.2) c_bytes)) args s 0 0 A) (F0 m 0 ls []) := by
  obtain ⟨hx, hb, hml, hr, hlk, hown, hts, hG, hA⟩ := id X
  have hK := hG.1
  have hN := hG.2.1
  unfold f_X1_readNumber at h
  refine lv_aload_n hx hb dX1_readNumber_0 rfl (lv_at hl 0 rfl) ?_
  obtain ⟨v1, hv1, h⟩ := bind_of h
  refine after_v X (run_V X (c_X1_nextToken l E a_t a_bytes a_trial c_t c_bytes H.size v1 hv1) (cwV 0 hts gX1_readNumber_X1_nextToken rfl rfl rfl hV_X1_nextToken ⟨(Nat.le_of_ble_eq_true rfl), (Nat.le_of_ble_eq_true rfl)⟩) hP hD hS [0, 1] rfl rfl hl.1 (ci := 1) rfl rfl rfl (rest := []) rfl rfl (Nat.le_of_ble_eq_true rfl) dX1_readNumber_1) hP hD hS [0, 1] rfl (ws1 := (W_X1_readNumber E a_t a_bytes a_trial v1 c_bytes)) rfl (fun H locs hP hD hS => ?_)
  refine lv_aload_n hx hb dX1_readNumber_4 rfl (lv_at hl 0 rfl) ?_
  refine va_get (D := E.1) (ci := 1) (v := .int (v1 4)) (C := RX1) (T := TX1) (N := 7) hx hb hts iX1_readNumber_X1 hown hK hP 0 rfl rfl 4 (by decide) (hts (.fieldLink RX1 22 "LeftIsAgreedOn$Reader" "token" "I") (List.mem_of_getElem? (i := 1) rfl)) (fun _ h9 => h9) rfl dX1_readNumber_5 ?_
  refine lv_iconst (v := (2 : Int32)) hx hb dX1_readNumber_8 (by decide) ?_
  refine lv_icmp_ne (tgt := 28) hx hb dX1_readNumber_9 (by decide) (fun hc9 => ?_) (fun hc9 => ?_)
  · have h := if_f h hc9
    refine lv_iconst (v := (0 : Int32)) hx hb dX1_readNumber_28 (by decide) ?_
    obtain rfl := Option.some.inj h
    exact ret_z X dX1_readNumber_29 (by decide) hP hD hS rfl
  · have h := if_t h hc9
    refine lv_aload_n hx hb dX1_readNumber_12 rfl (lv_at hl 0 rfl) ?_
    refine va_get (D := E.1) (ci := 1) (v := .int (v1 6)) (C := RX1) (T := TX1) (N := 7) hx hb hts iX1_readNumber_X1 hown hK hP 0 rfl rfl 6 (by decide) (hts (.fieldLink RX1 28 "LeftIsAgreedOn$Reader" "value" "I") (List.mem_of_getElem? (i := 2) rfl)) (fun _ h9 => h9) rfl dX1_readNumber_13 ?_
    refine lv_iload_n hx hb dX1_readNumber_16 rfl (lv_at hl 1 rfl) ?_
    refine lv_iload_n hx hb dX1_readNumber_17 rfl (lv_at hl 2 rfl) ?_
    obtain ⟨v2, hv2, h⟩ := bind_of h
    refine after_i X (run_SN X (c_X5_isWithin l E (v1 6) l1 l2 H.size v2 hv2) ⟨va_cnB 3 hts gX1_readNumber_X5_isWithin_n125 rfl rfl rfl (nM_4 hN) (hts (.initialized RX5) (List.mem_of_getElem? (i := 13) rfl)) hd_X5_isWithin ⟨(Nat.le_of_ble_eq_true rfl), (Nat.le_of_ble_eq_true rfl)⟩, (hts (.static yX5_isWithin) (List.mem_of_getElem? (i := 12) rfl)), trivial⟩ hP hD hS [] rfl rfl hl.1 (rest := []) rfl rfl (Nat.le_of_ble_eq_true rfl) dX1_readNumber_18) hP hD hS [] rfl (ws1 := (W_X1_readNumber E a_t a_bytes a_trial v1 c_bytes)) rfl (fun H locs hP hD hS => ?_)
    refine lv_if_eq (tgt := 28) hx hb dX1_readNumber_21 (by decide) (fun hc21 => ?_) (fun hc21 => ?_)
    · have h := if_t h hc21
      refine lv_iconst (v := (0 : Int32)) hx hb dX1_readNumber_28 (by decide) ?_
      obtain rfl := Option.some.inj h
      exact ret_z X dX1_readNumber_29 (by decide) hP hD hS rfl
    · have h := if_f h hc21
      refine lv_iconst (v := (1 : Int32)) hx hb dX1_readNumber_24 (by decide) ?_
      refine lv_goto (tgt := 29) hx hb dX1_readNumber_25 (by decide) ?_
      obtain rfl := Option.some.inj h
      exact ret_z X dX1_readNumber_29 (by decide) hP hD hS rfl
end
set_option maxRecDepth 100000 in
theorem c_X1_readNumber (l : Launch) (E : Env0) (a_t : Nat) (a_bytes : Nat) (a_trial : Nat) (l1 : Int32) (l2 : Int32) (c_t : Nat → Int32) (c_bytes : Nat → Int32) (sz : Nat) (res : Int32 × (Nat → Int32)) (h : f_X1_readNumber l1 l2 c_t c_bytes = some res) : Met l yX1_readNumber wsX1_readNumber r_X1_readNumber (cPre E [.ref a_t, .int l1, .int l2] (W_X1_readNumber E a_t a_bytes a_trial c_t c_bytes) sz) (qI E (va_A (W_X1_readNumber E a_t a_bytes a_trial c_t c_bytes) sz) (res.1) (W_X1_readNumber E a_t a_bytes a_trial (res.2) c_bytes)) 0 0 (va_A (W_X1_readNumber E a_t a_bytes a_trial c_t c_bytes) sz) :=
  met_of (Qc := fun A => qI E A (res.1) (W_X1_readNumber E a_t a_bytes a_trial (res.2) c_bytes)) (by decide) rfl (Nat.le_of_ble_eq_true rfl) (fun p e s m args below meth c X hP hD hS ls hl => w_X1_readNumber X a_t a_bytes a_trial c_bytes res c_t l1 l2 ls _ _ h hP hD hS hl)
-- ===== X1_readSide
noncomputable abbrev W_X1_readSide (E : Env0) (a_t : Nat) (a_bytes : Nat) (a_trial : Nat) (a_trial_ponds : Nat) (a_trial_kinds : Nat) (a_trial_weights : Nat) (a_trial_cells : Nat) (a_trial_faces : Nat) (a_trial_pledges : Nat) (c_t : Nat → Int32) (c_bytes : Nat → Int32) (c_trial : Nat → Int32) : va_W := [(a_t, .inr (1, [.ref a_trial, .ref a_bytes, .int (c_t 2), .int (c_t 3), .int (c_t 4), .int (c_t 5), .int (c_t 6)])), (a_bytes, .inl (eI E, 250, .inl c_bytes)), (a_trial, .inr (0, [.int (c_trial 0), .int (c_trial 1), .int (c_trial 2), .int (c_trial 3), .int (c_trial 4), .int (c_trial 5), .int (c_trial 6), .int (c_trial 7), .ref a_trial_ponds, .ref a_trial_kinds, .ref a_trial_weights, .ref a_trial_cells, .ref a_trial_faces, .ref a_trial_pledges]))]
noncomputable abbrev r_X1_readSide : Room := { frames := 3, cells := 0, slots := 0, locals := 64 }
theorem hd_X1_readSide : yX1_readSide.cls ≠ "java/lang/invoke/MethodHandle" ∧ yX1_readSide.cls ≠ "java/lang/invoke/VarHandle" ∧ (parseMethodDescriptor yX1_readSide.desc).map (fun d => d.parameters.length) = some 0 := by decide +kernel
theorem hV_X1_readSide : yX1_readSide.cls = RX1 ∧ yX1_readSide.cls ≠ "java/lang/invoke/MethodHandle" ∧ yX1_readSide.cls ≠ "java/lang/invoke/VarHandle" ∧ (parseMethodDescriptor yX1_readSide.desc).map (fun d => d.parameters.length) = some 0 := ⟨rfl, hd_X1_readSide⟩
theorem iX1_readSide_X0 : ∀ w ∈ wsX00, w ∈ wsX1_readSide := fun _ h => List.mem_cons_of_mem _ (List.mem_append_right _ (h))
theorem iX1_readSide_X1 : ∀ w ∈ wsX10, w ∈ wsX1_readSide := fun _ h => List.mem_cons_of_mem _ (List.mem_append_left _ (List.mem_append_right _ (h)))
section
variable {p : Program} {l : Launch} {e : Env} {s : State} {m : MethodId} {args : Array Value} {below : List Frame} {meth : Method} {c : Code} {E : Env0} {A : Nat → Prop}
set_option maxRecDepth 100000 in
set_option maxHeartbeats 4000000 in
theorem w_X1_readSide (X : Ctx p m meth c cX1_readSide 1 ((some .boolean)) s args wsX1_readSide RX1 E A) (a_t : Nat) (a_bytes : Nat) (a_trial : Nat) (a_trial_ponds : Nat) (a_trial_kinds : Nat) (a_trial_weights : Nat) (a_trial_cells : Nat) (a_trial_faces : Nat) (a_trial_pledges : Nat) (c_bytes : Nat → Int32) (res : Int32 × (Nat → Int32) × (Nat → Int32)) (c_t : Nat → Int32) (c_trial : Nat → Int32) (ls : Array Slot) (H : Heap) (locs : List Loc) (h : f_X1_readSide c_t c_bytes c_trial = some res) (hP : va_P E.1 vwCl (W_X1_readSide E a_t a_bytes a_trial a_trial_ponds a_trial_kinds a_trial_weights a_trial_cells a_trial_faces a_trial_pledges c_t c_bytes c_trial) H) (hD : va_D A (W_X1_readSide E a_t a_bytes a_trial a_trial_ponds a_trial_kinds a_trial_weights a_trial_cells a_trial_faces a_trial_pledges c_t c_bytes c_trial)) (hS : va_S A s.heap H locs) (hl : lv_has ls 1 [(0, .ref a_t)]) : W p l e r_X1_readSide s m args below meth c H locs 0 0 (MQ below (qI E A (res.1) (W_X1_readSide E a_t a_bytes a_trial a_trial_ponds a_trial_kinds a_trial_weights a_trial_cells a_trial_faces a_trial_pledges (res.2.1) c_bytes (res.2.2))) args s 0 0 A) (F0 m 0 ls []) := by
  obtain ⟨hx, hb, hml, hr, hlk, hown, hts, hG, hA⟩ := id X
  have hK := hG.1
  have hN := hG.2.1
  unfold f_X1_readSide at h
  refine lv_aload_n hx hb dX1_readSide_0 rfl (lv_at hl 0 rfl) ?_
  refine lv_iconst (v := (3 : Int32)) hx hb dX1_readSide_1 (by decide) ?_
  refine lv_bipush (v := (7 : Int32)) hx hb dX1_readSide_2 (by decide) ?_
  obtain ⟨v1, hv1, h⟩ := bind_of h
  refine after_i X (run_V X (c_X1_readNumber l E a_t a_bytes a_trial (3 : Int32) (7 : Int32) c_t c_bytes H.size v1 hv1) (cwV 2 hts gX1_readSide_X1_readNumber rfl rfl rfl hV_X1_readNumber ⟨(Nat.le_of_ble_eq_true rfl), (Nat.le_of_ble_eq_true rfl)⟩) hP hD hS [0, 1] rfl rfl hl.1 (ci := 1) rfl rfl rfl (rest := []) rfl rfl (Nat.le_of_ble_eq_true rfl) dX1_readSide_4) hP hD hS [0, 1] rfl (ws1 := (W_X1_readSide E a_t a_bytes a_trial a_trial_ponds a_trial_kinds a_trial_weights a_trial_cells a_trial_faces a_trial_pledges (v1.2) c_bytes c_trial)) rfl (fun H locs hP hD hS => ?_)
  refine lv_if_eq (tgt := 24) hx hb dX1_readSide_7 (by decide) (fun hc7 => ?_) (fun hc7 => ?_)
  · have h := if_t h hc7
    refine lv_iconst (v := (0 : Int32)) hx hb dX1_readSide_24 (by decide) ?_
    obtain rfl := Option.some.inj h
    exact ret_z X dX1_readSide_25 (by decide) hP hD hS rfl
  · have h := if_f h hc7
    refine lv_aload_n hx hb dX1_readSide_10 rfl (lv_at hl 0 rfl) ?_
    refine va_get (D := E.1) (ci := 1) (v := .ref a_trial) (C := RX1) (T := TX1) (N := 7) hx hb hts iX1_readSide_X1 hown hK hP 0 rfl rfl 0 (by decide) (hts (.fieldLink RX1 31 "LeftIsAgreedOn$Reader" "trial" "LLeftIsAgreedOn$Island;") (List.mem_of_getElem? (i := 1) rfl)) (fun _ h9 => h9) rfl dX1_readSide_11 ?_
    refine lv_aload_n hx hb dX1_readSide_14 rfl (lv_at hl 0 rfl) ?_
    refine va_get (D := E.1) (ci := 1) (v := .int ((v1.2) 6)) (C := RX1) (T := TX1) (N := 7) hx hb hts iX1_readSide_X1 hown hK hP 0 rfl rfl 6 (by decide) (hts (.fieldLink RX1 28 "LeftIsAgreedOn$Reader" "value" "I") (List.mem_of_getElem? (i := 2) rfl)) (fun _ h9 => h9) rfl dX1_readSide_15 ?_
    obtain ⟨v2, hv2, h⟩ := bind_of h
    refine after_i X (run_V X (c_X0_maySide l E a_trial a_trial_ponds a_trial_kinds a_trial_weights a_trial_cells a_trial_faces a_trial_pledges ((v1.2) 6) c_trial H.size v2 hv2) (cwV 1 hts gX1_readSide_X0_maySide rfl rfl rfl hV_X0_maySide ⟨(Nat.le_of_ble_eq_true rfl), (Nat.le_of_ble_eq_true rfl)⟩) hP hD hS [2] rfl rfl hl.1 (ci := 0) rfl rfl rfl (rest := []) rfl rfl (Nat.le_of_ble_eq_true rfl) dX1_readSide_18) hP hD hS [2] rfl (ws1 := (W_X1_readSide E a_t a_bytes a_trial a_trial_ponds a_trial_kinds a_trial_weights a_trial_cells a_trial_faces a_trial_pledges (v1.2) c_bytes c_trial)) rfl (fun H locs hP hD hS => ?_)
    refine lv_if_ne (tgt := 26) hx hb dX1_readSide_21 (by decide) (fun hc21 => ?_) (fun hc21 => ?_)
    · have h := if_f h hc21
      refine lv_aload_n hx hb dX1_readSide_26 rfl (lv_at hl 0 rfl) ?_
      refine va_get (D := E.1) (ci := 1) (v := .ref a_trial) (C := RX1) (T := TX1) (N := 7) hx hb hts iX1_readSide_X1 hown hK hP 0 rfl rfl 0 (by decide) (hts (.fieldLink RX1 31 "LeftIsAgreedOn$Reader" "trial" "LLeftIsAgreedOn$Island;") (List.mem_of_getElem? (i := 1) rfl)) (fun _ h9 => h9) rfl dX1_readSide_27 ?_
      refine lv_aload_n hx hb dX1_readSide_30 rfl (lv_at hl 0 rfl) ?_
      refine va_get (D := E.1) (ci := 1) (v := .int ((v1.2) 6)) (C := RX1) (T := TX1) (N := 7) hx hb hts iX1_readSide_X1 hown hK hP 0 rfl rfl 6 (by decide) (hts (.fieldLink RX1 28 "LeftIsAgreedOn$Reader" "value" "I") (List.mem_of_getElem? (i := 2) rfl)) (fun _ h9 => h9) rfl dX1_readSide_31 ?_
      refine va_putN (D := E.1) (ci := 0) (v := .int ((v1.2) 6)) (ty := .int) (C := RX0) (T := TX0) (N := 14) hx hb hts iX1_readSide_X0 tyX0 tyX0_ok nmX0 hown hK hP hD hS 2 rfl rfl 0 (by decide) (va_Nw.use rfl (nF_24 hN)) (fun _ h9 => h9) rfl (tyX0_ok 0 (by decide)) rfl rfl (Nat.le_of_ble_eq_true rfl) dX1_readSide_34 (fun H locs hP hD hS => ?_)
      have hP : va_P E.1 vwCl (W_X1_readSide E a_t a_bytes a_trial a_trial_ponds a_trial_kinds a_trial_weights a_trial_cells a_trial_faces a_trial_pledges (v1.2) c_bytes (upd c_trial 0 ((v1.2) 6))) H := hP
      have hD : va_D A (W_X1_readSide E a_t a_bytes a_trial a_trial_ponds a_trial_kinds a_trial_weights a_trial_cells a_trial_faces a_trial_pledges (v1.2) c_bytes (upd c_trial 0 ((v1.2) 6))) := hD
      refine lv_iconst (v := (1 : Int32)) hx hb dX1_readSide_37 (by decide) ?_
      obtain rfl := Option.some.inj h
      exact ret_z X dX1_readSide_38 (by decide) hP hD hS rfl
    · have h := if_t h hc21
      refine lv_iconst (v := (0 : Int32)) hx hb dX1_readSide_24 (by decide) ?_
      obtain rfl := Option.some.inj h
      exact ret_z X dX1_readSide_25 (by decide) hP hD hS rfl
end
set_option maxRecDepth 100000 in
theorem c_X1_readSide (l : Launch) (E : Env0) (a_t : Nat) (a_bytes : Nat) (a_trial : Nat) (a_trial_ponds : Nat) (a_trial_kinds : Nat) (a_trial_weights : Nat) (a_trial_cells : Nat) (a_trial_faces : Nat) (a_trial_pledges : Nat) (c_t : Nat → Int32) (c_bytes : Nat → Int32) (c_trial : Nat → Int32) (sz : Nat) (res : Int32 × (Nat → Int32) × (Nat → Int32)) (h : f_X1_readSide c_t c_bytes c_trial = some res) : Met l yX1_readSide wsX1_readSide r_X1_readSide (cPre E [.ref a_t] (W_X1_readSide E a_t a_bytes a_trial a_trial_ponds a_trial_kinds a_trial_weights a_trial_cells a_trial_faces a_trial_pledges c_t c_bytes c_trial) sz) (qI E (va_A (W_X1_readSide E a_t a_bytes a_trial a_trial_ponds a_trial_kinds a_trial_weights a_trial_cells a_trial_faces a_trial_pledges c_t c_bytes c_trial) sz) (res.1) (W_X1_readSide E a_t a_bytes a_trial a_trial_ponds a_trial_kinds a_trial_weights a_trial_cells a_trial_faces a_trial_pledges (res.2.1) c_bytes (res.2.2))) 0 0 (va_A (W_X1_readSide E a_t a_bytes a_trial a_trial_ponds a_trial_kinds a_trial_weights a_trial_cells a_trial_faces a_trial_pledges c_t c_bytes c_trial) sz) :=
  met_of (Qc := fun A => qI E A (res.1) (W_X1_readSide E a_t a_bytes a_trial a_trial_ponds a_trial_kinds a_trial_weights a_trial_cells a_trial_faces a_trial_pledges (res.2.1) c_bytes (res.2.2))) (by decide) rfl (Nat.le_of_ble_eq_true rfl) (fun p e s m args below meth c X hP hD hS ls hl => w_X1_readSide X a_t a_bytes a_trial a_trial_ponds a_trial_kinds a_trial_weights a_trial_cells a_trial_faces a_trial_pledges c_bytes res c_t c_trial ls _ _ h hP hD hS hl)
-- ===== X1_readCell
noncomputable abbrev W_X1_readCell (E : Env0) (a_t : Nat) (a_bytes : Nat) (a_trial : Nat) (a_trial_ponds : Nat) (a_trial_kinds : Nat) (a_trial_weights : Nat) (a_trial_cells : Nat) (a_trial_faces : Nat) (a_trial_pledges : Nat) (c_t : Nat → Int32) (c_bytes : Nat → Int32) (c_trial : Nat → Int32) : va_W := [(a_t, .inr (1, [.ref a_trial, .ref a_bytes, .int (c_t 2), .int (c_t 3), .int (c_t 4), .int (c_t 5), .int (c_t 6)])), (a_bytes, .inl (eI E, 250, .inl c_bytes)), (a_trial, .inr (0, [.int (c_trial 0), .int (c_trial 1), .int (c_trial 2), .int (c_trial 3), .int (c_trial 4), .int (c_trial 5), .int (c_trial 6), .int (c_trial 7), .ref a_trial_ponds, .ref a_trial_kinds, .ref a_trial_weights, .ref a_trial_cells, .ref a_trial_faces, .ref a_trial_pledges]))]
noncomputable abbrev r_X1_readCell : Room := { frames := 2, cells := 0, slots := 0, locals := 42 }
theorem hd_X1_readCell : yX1_readCell.cls ≠ "java/lang/invoke/MethodHandle" ∧ yX1_readCell.cls ≠ "java/lang/invoke/VarHandle" ∧ (parseMethodDescriptor yX1_readCell.desc).map (fun d => d.parameters.length) = some 0 := by decide +kernel
theorem hV_X1_readCell : yX1_readCell.cls = RX1 ∧ yX1_readCell.cls ≠ "java/lang/invoke/MethodHandle" ∧ yX1_readCell.cls ≠ "java/lang/invoke/VarHandle" ∧ (parseMethodDescriptor yX1_readCell.desc).map (fun d => d.parameters.length) = some 0 := ⟨rfl, hd_X1_readCell⟩
theorem iX1_readCell_X1 : ∀ w ∈ wsX10, w ∈ wsX1_readCell := fun _ h => List.mem_cons_of_mem _ (List.mem_append_left _ (List.mem_append_right _ (h)))
section
variable {p : Program} {l : Launch} {e : Env} {s : State} {m : MethodId} {args : Array Value} {below : List Frame} {meth : Method} {c : Code} {E : Env0} {A : Nat → Prop}
set_option maxRecDepth 100000 in
set_option maxHeartbeats 4000000 in
theorem w_X1_readCell (X : Ctx p m meth c cX1_readCell 1 ((some .boolean)) s args wsX1_readCell RX1 E A) (a_t : Nat) (a_bytes : Nat) (a_trial : Nat) (a_trial_ponds : Nat) (a_trial_kinds : Nat) (a_trial_weights : Nat) (a_trial_cells : Nat) (a_trial_faces : Nat) (a_trial_pledges : Nat) (c_bytes : Nat → Int32) (c_trial : Nat → Int32) (res : Int32 × (Nat → Int32)) (c_t : Nat → Int32) (ls : Array Slot) (H : Heap) (locs : List Loc) (h : f_X1_readCell c_t c_bytes c_trial = some res) (hP : va_P E.1 vwCl (W_X1_readCell E a_t a_bytes a_trial a_trial_ponds a_trial_kinds a_trial_weights a_trial_cells a_trial_faces a_trial_pledges c_t c_bytes c_trial) H) (hD : va_D A (W_X1_readCell E a_t a_bytes a_trial a_trial_ponds a_trial_kinds a_trial_weights a_trial_cells a_trial_faces a_trial_pledges c_t c_bytes c_trial)) (hS : va_S A s.heap H locs) (hl : lv_has ls 1 [(0, .ref a_t)]) : W p l e r_X1_readCell s m args below meth c H locs 0 0 (MQ below (qI E A (res.1) (W_X1_readCell E a_t a_bytes a_trial a_trial_ponds a_trial_kinds a_trial_weights a_trial_cells a_trial_faces a_trial_pledges (res.2) c_bytes c_trial)) args s 0 0 A) (F0 m 0 ls []) := by
  obtain ⟨hx, hb, hml, hr, hlk, hown, hts, hG, hA⟩ := id X
  have hK := hG.1
  have hN := hG.2.1
  unfold f_X1_readCell at h
  refine lv_aload_n hx hb dX1_readCell_0 rfl (lv_at hl 0 rfl) ?_
  obtain ⟨v1, hv1, h⟩ := bind_of h
  refine after_v X (run_V X (c_X1_nextToken l E a_t a_bytes a_trial c_t c_bytes H.size v1 hv1) (cwV 0 hts gX1_readCell_X1_nextToken rfl rfl rfl hV_X1_nextToken ⟨(Nat.le_of_ble_eq_true rfl), (Nat.le_of_ble_eq_true rfl)⟩) hP hD hS [0, 1] rfl rfl hl.1 (ci := 1) rfl rfl rfl (rest := []) rfl rfl (Nat.le_of_ble_eq_true rfl) dX1_readCell_1) hP hD hS [0, 1] rfl (ws1 := (W_X1_readCell E a_t a_bytes a_trial a_trial_ponds a_trial_kinds a_trial_weights a_trial_cells a_trial_faces a_trial_pledges v1 c_bytes c_trial)) rfl (fun H locs hP hD hS => ?_)
  refine lv_aload_n hx hb dX1_readCell_4 rfl (lv_at hl 0 rfl) ?_
  refine va_get (D := E.1) (ci := 1) (v := .int (v1 4)) (C := RX1) (T := TX1) (N := 7) hx hb hts iX1_readCell_X1 hown hK hP 0 rfl rfl 4 (by decide) (hts (.fieldLink RX1 22 "LeftIsAgreedOn$Reader" "token" "I") (List.mem_of_getElem? (i := 1) rfl)) (fun _ h9 => h9) rfl dX1_readCell_5 ?_
  refine lv_iconst (v := (2 : Int32)) hx hb dX1_readCell_8 (by decide) ?_
  refine lv_icmp_ne (tgt := 30) hx hb dX1_readCell_9 (by decide) (fun hc9 => ?_) (fun hc9 => ?_)
  · have h := if_f h hc9
    refine lv_iconst (v := (0 : Int32)) hx hb dX1_readCell_30 (by decide) ?_
    obtain rfl := Option.some.inj h
    exact ret_z X dX1_readCell_31 (by decide) hP hD hS rfl
  · have h := if_t h hc9
    refine lv_aload_n hx hb dX1_readCell_12 rfl (lv_at hl 0 rfl) ?_
    refine va_get (D := E.1) (ci := 1) (v := .ref a_trial) (C := RX1) (T := TX1) (N := 7) hx hb hts iX1_readCell_X1 hown hK hP 0 rfl rfl 0 (by decide) (hts (.fieldLink RX1 31 "LeftIsAgreedOn$Reader" "trial" "LLeftIsAgreedOn$Island;") (List.mem_of_getElem? (i := 2) rfl)) (fun _ h9 => h9) rfl dX1_readCell_13 ?_
    refine lv_aload_n hx hb dX1_readCell_16 rfl (lv_at hl 0 rfl) ?_
    refine va_get (D := E.1) (ci := 1) (v := .int (v1 6)) (C := RX1) (T := TX1) (N := 7) hx hb hts iX1_readCell_X1 hown hK hP 0 rfl rfl 6 (by decide) (hts (.fieldLink RX1 28 "LeftIsAgreedOn$Reader" "value" "I") (List.mem_of_getElem? (i := 3) rfl)) (fun _ h9 => h9) rfl dX1_readCell_17 ?_
    obtain ⟨v2, hv2, h⟩ := bind_of h
    refine after_i X (run_V X (c_X0_isCell l E a_trial a_trial_ponds a_trial_kinds a_trial_weights a_trial_cells a_trial_faces a_trial_pledges (v1 6) c_trial H.size v2 hv2) (cwV 1 hts gX1_readCell_X0_isCell rfl rfl rfl hV_X0_isCell ⟨(Nat.le_of_ble_eq_true rfl), (Nat.le_of_ble_eq_true rfl)⟩) hP hD hS [2] rfl rfl hl.1 (ci := 0) rfl rfl rfl (rest := []) rfl rfl (Nat.le_of_ble_eq_true rfl) dX1_readCell_20) hP hD hS [2] rfl (ws1 := (W_X1_readCell E a_t a_bytes a_trial a_trial_ponds a_trial_kinds a_trial_weights a_trial_cells a_trial_faces a_trial_pledges v1 c_bytes c_trial)) rfl (fun H locs hP hD hS => ?_)
    refine lv_if_eq (tgt := 30) hx hb dX1_readCell_23 (by decide) (fun hc23 => ?_) (fun hc23 => ?_)
    · have h := if_t h hc23
      refine lv_iconst (v := (0 : Int32)) hx hb dX1_readCell_30 (by decide) ?_
      obtain rfl := Option.some.inj h
      exact ret_z X dX1_readCell_31 (by decide) hP hD hS rfl
    · have h := if_f h hc23
      refine lv_iconst (v := (1 : Int32)) hx hb dX1_readCell_26 (by decide) ?_
      refine lv_goto (tgt := 31) hx hb dX1_readCell_27 (by decide) ?_
      obtain rfl := Option.some.inj h
      exact ret_z X dX1_readCell_31 (by decide) hP hD hS rfl
end
set_option maxRecDepth 100000 in
theorem c_X1_readCell (l : Launch) (E : Env0) (a_t : Nat) (a_bytes : Nat) (a_trial : Nat) (a_trial_ponds : Nat) (a_trial_kinds : Nat) (a_trial_weights : Nat) (a_trial_cells : Nat) (a_trial_faces : Nat) (a_trial_pledges : Nat) (c_t : Nat → Int32) (c_bytes : Nat → Int32) (c_trial : Nat → Int32) (sz : Nat) (res : Int32 × (Nat → Int32)) (h : f_X1_readCell c_t c_bytes c_trial = some res) : Met l yX1_readCell wsX1_readCell r_X1_readCell (cPre E [.ref a_t] (W_X1_readCell E a_t a_bytes a_trial a_trial_ponds a_trial_kinds a_trial_weights a_trial_cells a_trial_faces a_trial_pledges c_t c_bytes c_trial) sz) (qI E (va_A (W_X1_readCell E a_t a_bytes a_trial a_trial_ponds a_trial_kinds a_trial_weights a_trial_cells a_trial_faces a_trial_pledges c_t c_bytes c_trial) sz) (res.1) (W_X1_readCell E a_t a_bytes a_trial a_trial_ponds a_trial_kinds a_trial_weights a_trial_cells a_trial_faces a_trial_pledges (res.2) c_bytes c_trial)) 0 0 (va_A (W_X1_readCell E a_t a_bytes a_trial a_trial_ponds a_trial_kinds a_trial_weights a_trial_cells a_trial_faces a_trial_pledges c_t c_bytes c_trial) sz) :=
  met_of (Qc := fun A => qI E A (res.1) (W_X1_readCell E a_t a_bytes a_trial a_trial_ponds a_trial_kinds a_trial_weights a_trial_cells a_trial_faces a_trial_pledges (res.2) c_bytes c_trial)) (by decide) rfl (Nat.le_of_ble_eq_true rfl) (fun p e s m args below meth c X hP hD hS ls hl => w_X1_readCell X a_t a_bytes a_trial a_trial_ponds a_trial_kinds a_trial_weights a_trial_cells a_trial_faces a_trial_pledges c_bytes c_trial res c_t ls _ _ h hP hD hS hl)
-- ===== X1_readPond
noncomputable abbrev W_X1_readPond (E : Env0) (a_t : Nat) (a_bytes : Nat) (a_trial : Nat) (a_trial_cells : Nat) (a_trial_ponds : Nat) (a_trial_kinds : Nat) (a_trial_weights : Nat) (a_trial_faces : Nat) (a_trial_pledges : Nat) (c_t : Nat → Int32) (c_bytes : Nat → Int32) (c_trial : Nat → Int32) (c_trial_cells : Nat → Int32) (c_trial_ponds : Nat → Int32) : va_W := [(a_t, .inr (1, [.ref a_trial, .ref a_bytes, .int (c_t 2), .int (c_t 3), .int (c_t 4), .int (c_t 5), .int (c_t 6)])), (a_bytes, .inl (eI E, 250, .inl c_bytes)), (a_trial, .inr (0, [.int (c_trial 0), .int (c_trial 1), .int (c_trial 2), .int (c_trial 3), .int (c_trial 4), .int (c_trial 5), .int (c_trial 6), .int (c_trial 7), .ref a_trial_ponds, .ref a_trial_kinds, .ref a_trial_weights, .ref a_trial_cells, .ref a_trial_faces, .ref a_trial_pledges])), (a_trial_cells, .inl (eI E, 8, .inl c_trial_cells)), (a_trial_ponds, .inl (eZ E, 70, .inl c_trial_ponds))]
noncomputable abbrev r_X1_readPond : Room := { frames := 3, cells := 0, slots := 0, locals := 62 }
theorem hd_X1_readPond : yX1_readPond.cls ≠ "java/lang/invoke/MethodHandle" ∧ yX1_readPond.cls ≠ "java/lang/invoke/VarHandle" ∧ (parseMethodDescriptor yX1_readPond.desc).map (fun d => d.parameters.length) = some 0 := by decide +kernel
theorem hV_X1_readPond : yX1_readPond.cls = RX1 ∧ yX1_readPond.cls ≠ "java/lang/invoke/MethodHandle" ∧ yX1_readPond.cls ≠ "java/lang/invoke/VarHandle" ∧ (parseMethodDescriptor yX1_readPond.desc).map (fun d => d.parameters.length) = some 0 := ⟨rfl, hd_X1_readPond⟩
theorem iX1_readPond_X0 : ∀ w ∈ wsX00, w ∈ wsX1_readPond := fun _ h => List.mem_cons_of_mem _ (List.mem_append_right _ (h))
theorem iX1_readPond_X1 : ∀ w ∈ wsX10, w ∈ wsX1_readPond := fun _ h => List.mem_cons_of_mem _ (List.mem_append_left _ (List.mem_append_right _ (h)))
section
variable {p : Program} {l : Launch} {e : Env} {s : State} {m : MethodId} {args : Array Value} {below : List Frame} {meth : Method} {c : Code} {E : Env0} {A : Nat → Prop}
set_option maxRecDepth 100000 in
set_option maxHeartbeats 4000000 in
theorem w_X1_readPond (X : Ctx p m meth c cX1_readPond 1 ((some .boolean)) s args wsX1_readPond RX1 E A) (a_t : Nat) (a_bytes : Nat) (a_trial : Nat) (a_trial_cells : Nat) (a_trial_ponds : Nat) (a_trial_kinds : Nat) (a_trial_weights : Nat) (a_trial_faces : Nat) (a_trial_pledges : Nat) (c_bytes : Nat → Int32) (c_trial : Nat → Int32) (c_trial_cells : Nat → Int32) (res : Int32 × (Nat → Int32) × (Nat → Int32)) (c_t : Nat → Int32) (c_trial_ponds : Nat → Int32) (ls : Array Slot) (H : Heap) (locs : List Loc) (h : f_X1_readPond c_t c_bytes c_trial c_trial_cells c_trial_ponds = some res) (hP : va_P E.1 vwCl (W_X1_readPond E a_t a_bytes a_trial a_trial_cells a_trial_ponds a_trial_kinds a_trial_weights a_trial_faces a_trial_pledges c_t c_bytes c_trial c_trial_cells c_trial_ponds) H) (hD : va_D A (W_X1_readPond E a_t a_bytes a_trial a_trial_cells a_trial_ponds a_trial_kinds a_trial_weights a_trial_faces a_trial_pledges c_t c_bytes c_trial c_trial_cells c_trial_ponds)) (hS : va_S A s.heap H locs) (hl : lv_has ls 1 [(0, .ref a_t)]) : W p l e r_X1_readPond s m args below meth c H locs 0 0 (MQ below (qI E A (res.1) (W_X1_readPond E a_t a_bytes a_trial a_trial_cells a_trial_ponds a_trial_kinds a_trial_weights a_trial_faces a_trial_pledges (res.2.1) c_bytes c_trial c_trial_cells (res.2.2))) args s 0 0 A) (F0 m 0 ls []) := by
  obtain ⟨hx, hb, hml, hr, hlk, hown, hts, hG, hA⟩ := id X
  have hK := hG.1
  have hN := hG.2.1
  unfold f_X1_readPond at h
  refine lv_aload_n hx hb dX1_readPond_0 rfl (lv_at hl 0 rfl) ?_
  obtain ⟨v1, hv1, h⟩ := bind_of h
  refine after_i X (run_V X (c_X1_readCell l E a_t a_bytes a_trial a_trial_ponds a_trial_kinds a_trial_weights a_trial_cells a_trial_faces a_trial_pledges c_t c_bytes c_trial H.size v1 hv1) (cwV 0 hts gX1_readPond_X1_readCell rfl rfl rfl hV_X1_readCell ⟨(Nat.le_of_ble_eq_true rfl), (Nat.le_of_ble_eq_true rfl)⟩) hP hD hS [0, 1, 2] rfl rfl hl.1 (ci := 1) rfl rfl rfl (rest := []) rfl rfl (Nat.le_of_ble_eq_true rfl) dX1_readPond_1) hP hD hS [0, 1, 2] rfl (ws1 := (W_X1_readPond E a_t a_bytes a_trial a_trial_cells a_trial_ponds a_trial_kinds a_trial_weights a_trial_faces a_trial_pledges (v1.2) c_bytes c_trial c_trial_cells c_trial_ponds)) rfl (fun H locs hP hD hS => ?_)
  refine lv_if_eq (tgt := 21) hx hb dX1_readPond_4 (by decide) (fun hc4 => ?_) (fun hc4 => ?_)
  · have h := if_t h hc4
    refine lv_iconst (v := (0 : Int32)) hx hb dX1_readPond_21 (by decide) ?_
    obtain rfl := Option.some.inj h
    exact ret_z X dX1_readPond_22 (by decide) hP hD hS rfl
  · have h := if_f h hc4
    refine lv_aload_n hx hb dX1_readPond_7 rfl (lv_at hl 0 rfl) ?_
    refine va_get (D := E.1) (ci := 1) (v := .ref a_trial) (C := RX1) (T := TX1) (N := 7) hx hb hts iX1_readPond_X1 hown hK hP 0 rfl rfl 0 (by decide) (hts (.fieldLink RX1 31 "LeftIsAgreedOn$Reader" "trial" "LLeftIsAgreedOn$Island;") (List.mem_of_getElem? (i := 1) rfl)) (fun _ h9 => h9) rfl dX1_readPond_8 ?_
    refine lv_aload_n hx hb dX1_readPond_11 rfl (lv_at hl 0 rfl) ?_
    refine va_get (D := E.1) (ci := 1) (v := .int ((v1.2) 6)) (C := RX1) (T := TX1) (N := 7) hx hb hts iX1_readPond_X1 hown hK hP 0 rfl rfl 6 (by decide) (hts (.fieldLink RX1 28 "LeftIsAgreedOn$Reader" "value" "I") (List.mem_of_getElem? (i := 2) rfl)) (fun _ h9 => h9) rfl dX1_readPond_12 ?_
    obtain ⟨v2, hv2, h⟩ := bind_of h
    refine after_i X (run_V X (c_X0_hasSomebody l E a_trial a_trial_cells a_trial_ponds a_trial_kinds a_trial_weights a_trial_faces a_trial_pledges ((v1.2) 6) c_trial c_trial_cells H.size v2 hv2) (cwV 1 hts gX1_readPond_X0_hasSomebody rfl rfl rfl hV_X0_hasSomebody ⟨(Nat.le_of_ble_eq_true rfl), (Nat.le_of_ble_eq_true rfl)⟩) hP hD hS [2, 3] rfl rfl hl.1 (ci := 0) rfl rfl rfl (rest := []) rfl rfl (Nat.le_of_ble_eq_true rfl) dX1_readPond_15) hP hD hS [2, 3] rfl (ws1 := (W_X1_readPond E a_t a_bytes a_trial a_trial_cells a_trial_ponds a_trial_kinds a_trial_weights a_trial_faces a_trial_pledges (v1.2) c_bytes c_trial c_trial_cells c_trial_ponds)) rfl (fun H locs hP hD hS => ?_)
    refine lv_if_eq (tgt := 23) hx hb dX1_readPond_18 (by decide) (fun hc18 => ?_) (fun hc18 => ?_)
    · have h := if_t h hc18
      refine lv_aload_n hx hb dX1_readPond_23 rfl (lv_at hl 0 rfl) ?_
      refine va_get (D := E.1) (ci := 1) (v := .ref a_trial) (C := RX1) (T := TX1) (N := 7) hx hb hts iX1_readPond_X1 hown hK hP 0 rfl rfl 0 (by decide) (hts (.fieldLink RX1 31 "LeftIsAgreedOn$Reader" "trial" "LLeftIsAgreedOn$Island;") (List.mem_of_getElem? (i := 1) rfl)) (fun _ h9 => h9) rfl dX1_readPond_24 ?_
      refine va_getN (D := E.1) (ci := 0) (v := .ref a_trial_ponds) (C := RX0) (T := TX0) (N := 14) hx hb hts iX1_readPond_X0 hown hK hP 2 rfl rfl 8 (by decide) (va_Nw.use rfl (nF_25 hN)) (fun _ h9 => h9) rfl dX1_readPond_27 ?_
      refine lv_aload_n hx hb dX1_readPond_30 rfl (lv_at hl 0 rfl) ?_
      refine va_get (D := E.1) (ci := 1) (v := .int ((v1.2) 6)) (C := RX1) (T := TX1) (N := 7) hx hb hts iX1_readPond_X1 hown hK hP 0 rfl rfl 6 (by decide) (hts (.fieldLink RX1 28 "LeftIsAgreedOn$Reader" "value" "I") (List.mem_of_getElem? (i := 2) rfl)) (fun _ h9 => h9) rfl dX1_readPond_31 ?_
      refine lv_iconst (v := (1 : Int32)) hx hb dX1_readPond_34 (by decide) ?_
      obtain ⟨hz35, h⟩ := chk_of h
      refine st_z X hP hD hS 4 rfl (inb.vp hz35) (k := (((v1.2) 6)).toNatClampNeg) rfl (ws1 := (W_X1_readPond E a_t a_bytes a_trial a_trial_cells a_trial_ponds a_trial_kinds a_trial_weights a_trial_faces a_trial_pledges (v1.2) c_bytes c_trial c_trial_cells (upd c_trial_ponds ((((v1.2) 6)).toNatClampNeg) (vp_nar .boolean (1 : Int32))))) rfl dX1_readPond_35 (fun H locs hP hD hS => ?_)
      refine lv_iconst (v := (1 : Int32)) hx hb dX1_readPond_36 (by decide) ?_
      obtain rfl := Option.some.inj h
      exact ret_z X dX1_readPond_37 (by decide) hP hD hS rfl
    · have h := if_f h hc18
      refine lv_iconst (v := (0 : Int32)) hx hb dX1_readPond_21 (by decide) ?_
      obtain rfl := Option.some.inj h
      exact ret_z X dX1_readPond_22 (by decide) hP hD hS rfl
end
set_option maxRecDepth 100000 in
theorem c_X1_readPond (l : Launch) (E : Env0) (a_t : Nat) (a_bytes : Nat) (a_trial : Nat) (a_trial_cells : Nat) (a_trial_ponds : Nat) (a_trial_kinds : Nat) (a_trial_weights : Nat) (a_trial_faces : Nat) (a_trial_pledges : Nat) (c_t : Nat → Int32) (c_bytes : Nat → Int32) (c_trial : Nat → Int32) (c_trial_cells : Nat → Int32) (c_trial_ponds : Nat → Int32) (sz : Nat) (res : Int32 × (Nat → Int32) × (Nat → Int32)) (h : f_X1_readPond c_t c_bytes c_trial c_trial_cells c_trial_ponds = some res) : Met l yX1_readPond wsX1_readPond r_X1_readPond (cPre E [.ref a_t] (W_X1_readPond E a_t a_bytes a_trial a_trial_cells a_trial_ponds a_trial_kinds a_trial_weights a_trial_faces a_trial_pledges c_t c_bytes c_trial c_trial_cells c_trial_ponds) sz) (qI E (va_A (W_X1_readPond E a_t a_bytes a_trial a_trial_cells a_trial_ponds a_trial_kinds a_trial_weights a_trial_faces a_trial_pledges c_t c_bytes c_trial c_trial_cells c_trial_ponds) sz) (res.1) (W_X1_readPond E a_t a_bytes a_trial a_trial_cells a_trial_ponds a_trial_kinds a_trial_weights a_trial_faces a_trial_pledges (res.2.1) c_bytes c_trial c_trial_cells (res.2.2))) 0 0 (va_A (W_X1_readPond E a_t a_bytes a_trial a_trial_cells a_trial_ponds a_trial_kinds a_trial_weights a_trial_faces a_trial_pledges c_t c_bytes c_trial c_trial_cells c_trial_ponds) sz) :=
  met_of (Qc := fun A => qI E A (res.1) (W_X1_readPond E a_t a_bytes a_trial a_trial_cells a_trial_ponds a_trial_kinds a_trial_weights a_trial_faces a_trial_pledges (res.2.1) c_bytes c_trial c_trial_cells (res.2.2))) (by decide) rfl (Nat.le_of_ble_eq_true rfl) (fun p e s m args below meth c X hP hD hS ls hl => w_X1_readPond X a_t a_bytes a_trial a_trial_cells a_trial_ponds a_trial_kinds a_trial_weights a_trial_faces a_trial_pledges c_bytes c_trial c_trial_cells res c_t c_trial_ponds ls _ _ h hP hD hS hl)
-- ===== X1_readDry
noncomputable abbrev W_X1_readDry (E : Env0) (a_t : Nat) (a_bytes : Nat) (a_trial : Nat) (a_trial_ponds : Nat) (a_trial_kinds : Nat) (a_trial_weights : Nat) (a_trial_cells : Nat) (a_trial_faces : Nat) (a_trial_pledges : Nat) (c_t : Nat → Int32) (c_bytes : Nat → Int32) (c_trial : Nat → Int32) (c_trial_ponds : Nat → Int32) : va_W := [(a_t, .inr (1, [.ref a_trial, .ref a_bytes, .int (c_t 2), .int (c_t 3), .int (c_t 4), .int (c_t 5), .int (c_t 6)])), (a_bytes, .inl (eI E, 250, .inl c_bytes)), (a_trial, .inr (0, [.int (c_trial 0), .int (c_trial 1), .int (c_trial 2), .int (c_trial 3), .int (c_trial 4), .int (c_trial 5), .int (c_trial 6), .int (c_trial 7), .ref a_trial_ponds, .ref a_trial_kinds, .ref a_trial_weights, .ref a_trial_cells, .ref a_trial_faces, .ref a_trial_pledges])), (a_trial_ponds, .inl (eZ E, 70, .inl c_trial_ponds))]
noncomputable abbrev r_X1_readDry : Room := { frames := 3, cells := 0, slots := 0, locals := 62 }
theorem hd_X1_readDry : yX1_readDry.cls ≠ "java/lang/invoke/MethodHandle" ∧ yX1_readDry.cls ≠ "java/lang/invoke/VarHandle" ∧ (parseMethodDescriptor yX1_readDry.desc).map (fun d => d.parameters.length) = some 0 := by decide +kernel
theorem hV_X1_readDry : yX1_readDry.cls = RX1 ∧ yX1_readDry.cls ≠ "java/lang/invoke/MethodHandle" ∧ yX1_readDry.cls ≠ "java/lang/invoke/VarHandle" ∧ (parseMethodDescriptor yX1_readDry.desc).map (fun d => d.parameters.length) = some 0 := ⟨rfl, hd_X1_readDry⟩
theorem iX1_readDry_X0 : ∀ w ∈ wsX00, w ∈ wsX1_readDry := fun _ h => List.mem_cons_of_mem _ (List.mem_append_right _ (h))
theorem iX1_readDry_X1 : ∀ w ∈ wsX10, w ∈ wsX1_readDry := fun _ h => List.mem_cons_of_mem _ (List.mem_append_left _ (List.mem_append_right _ (h)))
section
variable {p : Program} {l : Launch} {e : Env} {s : State} {m : MethodId} {args : Array Value} {below : List Frame} {meth : Method} {c : Code} {E : Env0} {A : Nat → Prop}
set_option maxRecDepth 100000 in
set_option maxHeartbeats 4000000 in
theorem w_X1_readDry (X : Ctx p m meth c cX1_readDry 1 ((some .boolean)) s args wsX1_readDry RX1 E A) (a_t : Nat) (a_bytes : Nat) (a_trial : Nat) (a_trial_ponds : Nat) (a_trial_kinds : Nat) (a_trial_weights : Nat) (a_trial_cells : Nat) (a_trial_faces : Nat) (a_trial_pledges : Nat) (c_bytes : Nat → Int32) (c_trial : Nat → Int32) (res : Int32 × (Nat → Int32) × (Nat → Int32)) (c_t : Nat → Int32) (c_trial_ponds : Nat → Int32) (ls : Array Slot) (H : Heap) (locs : List Loc) (h : f_X1_readDry c_t c_bytes c_trial c_trial_ponds = some res) (hP : va_P E.1 vwCl (W_X1_readDry E a_t a_bytes a_trial a_trial_ponds a_trial_kinds a_trial_weights a_trial_cells a_trial_faces a_trial_pledges c_t c_bytes c_trial c_trial_ponds) H) (hD : va_D A (W_X1_readDry E a_t a_bytes a_trial a_trial_ponds a_trial_kinds a_trial_weights a_trial_cells a_trial_faces a_trial_pledges c_t c_bytes c_trial c_trial_ponds)) (hS : va_S A s.heap H locs) (hl : lv_has ls 1 [(0, .ref a_t)]) : W p l e r_X1_readDry s m args below meth c H locs 0 0 (MQ below (qI E A (res.1) (W_X1_readDry E a_t a_bytes a_trial a_trial_ponds a_trial_kinds a_trial_weights a_trial_cells a_trial_faces a_trial_pledges (res.2.1) c_bytes c_trial (res.2.2))) args s 0 0 A) (F0 m 0 ls []) := by
  obtain ⟨hx, hb, hml, hr, hlk, hown, hts, hG, hA⟩ := id X
  have hK := hG.1
  have hN := hG.2.1
  unfold f_X1_readDry at h
  refine lv_aload_n hx hb dX1_readDry_0 rfl (lv_at hl 0 rfl) ?_
  obtain ⟨v1, hv1, h⟩ := bind_of h
  refine after_i X (run_V X (c_X1_readCell l E a_t a_bytes a_trial a_trial_ponds a_trial_kinds a_trial_weights a_trial_cells a_trial_faces a_trial_pledges c_t c_bytes c_trial H.size v1 hv1) (cwV 0 hts gX1_readDry_X1_readCell rfl rfl rfl hV_X1_readCell ⟨(Nat.le_of_ble_eq_true rfl), (Nat.le_of_ble_eq_true rfl)⟩) hP hD hS [0, 1, 2] rfl rfl hl.1 (ci := 1) rfl rfl rfl (rest := []) rfl rfl (Nat.le_of_ble_eq_true rfl) dX1_readDry_1) hP hD hS [0, 1, 2] rfl (ws1 := (W_X1_readDry E a_t a_bytes a_trial a_trial_ponds a_trial_kinds a_trial_weights a_trial_cells a_trial_faces a_trial_pledges (v1.2) c_bytes c_trial c_trial_ponds)) rfl (fun H locs hP hD hS => ?_)
  refine lv_if_ne (tgt := 9) hx hb dX1_readDry_4 (by decide) (fun hc4 => ?_) (fun hc4 => ?_)
  · have h := if_f h hc4
    refine lv_aload_n hx hb dX1_readDry_9 rfl (lv_at hl 0 rfl) ?_
    refine va_get (D := E.1) (ci := 1) (v := .ref a_trial) (C := RX1) (T := TX1) (N := 7) hx hb hts iX1_readDry_X1 hown hK hP 0 rfl rfl 0 (by decide) (hts (.fieldLink RX1 31 "LeftIsAgreedOn$Reader" "trial" "LLeftIsAgreedOn$Island;") (List.mem_of_getElem? (i := 1) rfl)) (fun _ h9 => h9) rfl dX1_readDry_10 ?_
    refine va_getN (D := E.1) (ci := 0) (v := .ref a_trial_ponds) (C := RX0) (T := TX0) (N := 14) hx hb hts iX1_readDry_X0 hown hK hP 2 rfl rfl 8 (by decide) (va_Nw.use rfl (nF_25 hN)) (fun _ h9 => h9) rfl dX1_readDry_13 ?_
    refine lv_aload_n hx hb dX1_readDry_16 rfl (lv_at hl 0 rfl) ?_
    refine va_get (D := E.1) (ci := 1) (v := .int ((v1.2) 6)) (C := RX1) (T := TX1) (N := 7) hx hb hts iX1_readDry_X1 hown hK hP 0 rfl rfl 6 (by decide) (hts (.fieldLink RX1 28 "LeftIsAgreedOn$Reader" "value" "I") (List.mem_of_getElem? (i := 2) rfl)) (fun _ h9 => h9) rfl dX1_readDry_17 ?_
    refine lv_iconst (v := (0 : Int32)) hx hb dX1_readDry_20 (by decide) ?_
    obtain ⟨hz21, h⟩ := chk_of h
    refine st_z X hP hD hS 3 rfl (inb.vp hz21) (k := (((v1.2) 6)).toNatClampNeg) rfl (ws1 := (W_X1_readDry E a_t a_bytes a_trial a_trial_ponds a_trial_kinds a_trial_weights a_trial_cells a_trial_faces a_trial_pledges (v1.2) c_bytes c_trial (upd c_trial_ponds ((((v1.2) 6)).toNatClampNeg) (vp_nar .boolean (0 : Int32))))) rfl dX1_readDry_21 (fun H locs hP hD hS => ?_)
    refine lv_iconst (v := (1 : Int32)) hx hb dX1_readDry_22 (by decide) ?_
    obtain rfl := Option.some.inj h
    exact ret_z X dX1_readDry_23 (by decide) hP hD hS rfl
  · have h := if_t h hc4
    refine lv_iconst (v := (0 : Int32)) hx hb dX1_readDry_7 (by decide) ?_
    obtain rfl := Option.some.inj h
    exact ret_z X dX1_readDry_8 (by decide) hP hD hS rfl
end
set_option maxRecDepth 100000 in
theorem c_X1_readDry (l : Launch) (E : Env0) (a_t : Nat) (a_bytes : Nat) (a_trial : Nat) (a_trial_ponds : Nat) (a_trial_kinds : Nat) (a_trial_weights : Nat) (a_trial_cells : Nat) (a_trial_faces : Nat) (a_trial_pledges : Nat) (c_t : Nat → Int32) (c_bytes : Nat → Int32) (c_trial : Nat → Int32) (c_trial_ponds : Nat → Int32) (sz : Nat) (res : Int32 × (Nat → Int32) × (Nat → Int32)) (h : f_X1_readDry c_t c_bytes c_trial c_trial_ponds = some res) : Met l yX1_readDry wsX1_readDry r_X1_readDry (cPre E [.ref a_t] (W_X1_readDry E a_t a_bytes a_trial a_trial_ponds a_trial_kinds a_trial_weights a_trial_cells a_trial_faces a_trial_pledges c_t c_bytes c_trial c_trial_ponds) sz) (qI E (va_A (W_X1_readDry E a_t a_bytes a_trial a_trial_ponds a_trial_kinds a_trial_weights a_trial_cells a_trial_faces a_trial_pledges c_t c_bytes c_trial c_trial_ponds) sz) (res.1) (W_X1_readDry E a_t a_bytes a_trial a_trial_ponds a_trial_kinds a_trial_weights a_trial_cells a_trial_faces a_trial_pledges (res.2.1) c_bytes c_trial (res.2.2))) 0 0 (va_A (W_X1_readDry E a_t a_bytes a_trial a_trial_ponds a_trial_kinds a_trial_weights a_trial_cells a_trial_faces a_trial_pledges c_t c_bytes c_trial c_trial_ponds) sz) :=
  met_of (Qc := fun A => qI E A (res.1) (W_X1_readDry E a_t a_bytes a_trial a_trial_ponds a_trial_kinds a_trial_weights a_trial_cells a_trial_faces a_trial_pledges (res.2.1) c_bytes c_trial (res.2.2))) (by decide) rfl (Nat.le_of_ble_eq_true rfl) (fun p e s m args below meth c X hP hD hS ls hl => w_X1_readDry X a_t a_bytes a_trial a_trial_ponds a_trial_kinds a_trial_weights a_trial_cells a_trial_faces a_trial_pledges c_bytes c_trial res c_t c_trial_ponds ls _ _ h hP hD hS hl)
-- ===== X1_readPerson
noncomputable abbrev W_X1_readPerson (E : Env0) (a_t : Nat) (a_bytes : Nat) (a_trial : Nat) (a_trial_cells : Nat) (a_trial_faces : Nat) (a_trial_kinds : Nat) (a_trial_pledges : Nat) (a_trial_ponds : Nat) (a_trial_weights : Nat) (c_t : Nat → Int32) (c_bytes : Nat → Int32) (c_trial : Nat → Int32) (c_trial_cells : Nat → Int32) (c_trial_faces : Nat → Int32) (c_trial_kinds : Nat → Int32) (c_trial_pledges : Nat → Int32) (c_trial_ponds : Nat → Int32) (c_trial_weights : Nat → Int32) : va_W := [(a_t, .inr (1, [.ref a_trial, .ref a_bytes, .int (c_t 2), .int (c_t 3), .int (c_t 4), .int (c_t 5), .int (c_t 6)])), (a_bytes, .inl (eI E, 250, .inl c_bytes)), (a_trial, .inr (0, [.int (c_trial 0), .int (c_trial 1), .int (c_trial 2), .int (c_trial 3), .int (c_trial 4), .int (c_trial 5), .int (c_trial 6), .int (c_trial 7), .ref a_trial_ponds, .ref a_trial_kinds, .ref a_trial_weights, .ref a_trial_cells, .ref a_trial_faces, .ref a_trial_pledges])), (a_trial_cells, .inl (eI E, 8, .inl c_trial_cells)), (a_trial_faces, .inl (eI E, 8, .inl c_trial_faces)), (a_trial_kinds, .inl (eI E, 8, .inl c_trial_kinds)), (a_trial_pledges, .inl (eI E, 8, .inl c_trial_pledges)), (a_trial_ponds, .inl (eZ E, 70, .inl c_trial_ponds)), (a_trial_weights, .inl (eI E, 8, .inl c_trial_weights))]
noncomputable abbrev r_X1_readPerson : Room := { frames := 3, cells := 0, slots := 0, locals := 64 }
theorem hd_X1_readPerson : yX1_readPerson.cls ≠ "java/lang/invoke/MethodHandle" ∧ yX1_readPerson.cls ≠ "java/lang/invoke/VarHandle" ∧ (parseMethodDescriptor yX1_readPerson.desc).map (fun d => d.parameters.length) = some 0 := by decide +kernel
theorem hV_X1_readPerson : yX1_readPerson.cls = RX1 ∧ yX1_readPerson.cls ≠ "java/lang/invoke/MethodHandle" ∧ yX1_readPerson.cls ≠ "java/lang/invoke/VarHandle" ∧ (parseMethodDescriptor yX1_readPerson.desc).map (fun d => d.parameters.length) = some 0 := ⟨rfl, hd_X1_readPerson⟩
theorem iX1_readPerson_X1 : ∀ w ∈ wsX10, w ∈ wsX1_readPerson := fun _ h => List.mem_cons_of_mem _ (List.mem_append_left _ (List.mem_append_right _ (h)))
section
variable {p : Program} {l : Launch} {e : Env} {s : State} {m : MethodId} {args : Array Value} {below : List Frame} {meth : Method} {c : Code} {E : Env0} {A : Nat → Prop}
set_option maxRecDepth 100000 in
set_option maxHeartbeats 4000000 in
theorem w_X1_readPerson (X : Ctx p m meth c cX1_readPerson 4 ((some .boolean)) s args wsX1_readPerson RX1 E A) (a_t : Nat) (a_bytes : Nat) (a_trial : Nat) (a_trial_cells : Nat) (a_trial_faces : Nat) (a_trial_kinds : Nat) (a_trial_pledges : Nat) (a_trial_ponds : Nat) (a_trial_weights : Nat) (c_bytes : Nat → Int32) (c_trial_ponds : Nat → Int32) (res : Int32 × (Nat → Int32) × (Nat → Int32) × (Nat → Int32) × (Nat → Int32) × (Nat → Int32) × (Nat → Int32) × (Nat → Int32)) (c_t : Nat → Int32) (c_trial : Nat → Int32) (c_trial_cells : Nat → Int32) (c_trial_faces : Nat → Int32) (c_trial_kinds : Nat → Int32) (c_trial_pledges : Nat → Int32) (c_trial_weights : Nat → Int32) (ls : Array Slot) (H : Heap) (locs : List Loc) (h : f_X1_readPerson c_t c_bytes c_trial c_trial_cells c_trial_faces c_trial_kinds c_trial_pledges c_trial_ponds c_trial_weights = some res) (hP : va_P E.1 vwCl (W_X1_readPerson E a_t a_bytes a_trial a_trial_cells a_trial_faces a_trial_kinds a_trial_pledges a_trial_ponds a_trial_weights c_t c_bytes c_trial c_trial_cells c_trial_faces c_trial_kinds c_trial_pledges c_trial_ponds c_trial_weights) H) (hD : va_D A (W_X1_readPerson E a_t a_bytes a_trial a_trial_cells a_trial_faces a_trial_kinds a_trial_pledges a_trial_ponds a_trial_weights c_t c_bytes c_trial c_trial_cells c_trial_faces c_trial_kinds c_trial_pledges c_trial_ponds c_trial_weights)) (hS : va_S A s.heap H locs) (hl : lv_has ls 4 [(0, .ref a_t)]) : W p l e r_X1_readPerson s m args below meth c H locs 0 0 (MQ below (qI E A (res.1) (W_X1_readPerson E a_t a_bytes a_trial a_trial_cells a_trial_faces a_trial_kinds a_trial_pledges a_trial_ponds a_trial_weights (res.2.1) c_bytes (res.2.2.1) (res.2.2.2.1) (res.2.2.2.2.1) (res.2.2.2.2.2.1) (res.2.2.2.2.2.2.1) c_trial_ponds (res.2.2.2.2.2.2.2))) args s 0 0 A) (F0 m 0 ls []) := by
  obtain ⟨hx, hb, hml, hr, hlk, hown, hts, hG, hA⟩ := id X
  have hK := hG.1
  have hN := hG.2.1
  unfold f_X1_readPerson at h
  refine lv_aload_n hx hb dX1_readPerson_0 rfl (lv_at hl 0 rfl) ?_
  refine va_get (D := E.1) (ci := 1) (v := .ref a_trial) (C := RX1) (T := TX1) (N := 7) hx hb hts iX1_readPerson_X1 hown hK hP 0 rfl rfl 0 (by decide) (hts (.fieldLink RX1 31 "LeftIsAgreedOn$Reader" "trial" "LLeftIsAgreedOn$Island;") (List.mem_of_getElem? (i := 1) rfl)) (fun _ h9 => h9) rfl dX1_readPerson_1 ?_
  obtain ⟨v1, hv1, h⟩ := bind_of h
  refine after_i X (run_V X (c_X0_isFull l E a_trial a_trial_ponds a_trial_kinds a_trial_weights a_trial_cells a_trial_faces a_trial_pledges c_trial H.size v1 hv1) (cwV 0 hts gX1_readPerson_X0_isFull rfl rfl rfl hV_X0_isFull ⟨(Nat.le_of_ble_eq_true rfl), (Nat.le_of_ble_eq_true rfl)⟩) hP hD hS [2] rfl rfl hl.1 (ci := 0) rfl rfl rfl (rest := []) rfl rfl (Nat.le_of_ble_eq_true rfl) dX1_readPerson_4) hP hD hS [2] rfl (ws1 := (W_X1_readPerson E a_t a_bytes a_trial a_trial_cells a_trial_faces a_trial_kinds a_trial_pledges a_trial_ponds a_trial_weights c_t c_bytes c_trial c_trial_cells c_trial_faces c_trial_kinds c_trial_pledges c_trial_ponds c_trial_weights)) rfl (fun H locs hP hD hS => ?_)
  refine lv_if_ne (tgt := 19) hx hb dX1_readPerson_7 (by decide) (fun hc7 => ?_) (fun hc7 => ?_)
  · have h := if_f h hc7
    refine lv_iconst (v := (0 : Int32)) hx hb dX1_readPerson_19 (by decide) ?_
    obtain rfl := Option.some.inj h
    exact ret_z X dX1_readPerson_20 (by decide) hP hD hS rfl
  · have h := if_t h hc7
    refine lv_aload_n hx hb dX1_readPerson_10 rfl (lv_at hl 0 rfl) ?_
    refine lv_iconst (v := (0 : Int32)) hx hb dX1_readPerson_11 (by decide) ?_
    refine lv_iconst (v := (5 : Int32)) hx hb dX1_readPerson_12 (by decide) ?_
    obtain ⟨v2, hv2, h⟩ := bind_of h
    refine after_i X (run_V X (c_X1_readNumber l E a_t a_bytes a_trial (0 : Int32) (5 : Int32) c_t c_bytes H.size v2 hv2) (cwV 2 hts gX1_readPerson_X1_readNumber rfl rfl rfl hV_X1_readNumber ⟨(Nat.le_of_ble_eq_true rfl), (Nat.le_of_ble_eq_true rfl)⟩) hP hD hS [0, 1] rfl rfl hl.1 (ci := 1) rfl rfl rfl (rest := []) rfl rfl (Nat.le_of_ble_eq_true rfl) dX1_readPerson_13) hP hD hS [0, 1] rfl (ws1 := (W_X1_readPerson E a_t a_bytes a_trial a_trial_cells a_trial_faces a_trial_kinds a_trial_pledges a_trial_ponds a_trial_weights (v2.2) c_bytes c_trial c_trial_cells c_trial_faces c_trial_kinds c_trial_pledges c_trial_ponds c_trial_weights)) rfl (fun H locs hP hD hS => ?_)
    refine lv_if_ne (tgt := 21) hx hb dX1_readPerson_16 (by decide) (fun hc16 => ?_) (fun hc16 => ?_)
    · have h := if_f h hc16
      refine lv_aload_n hx hb dX1_readPerson_21 rfl (lv_at hl 0 rfl) ?_
      refine va_get (D := E.1) (ci := 1) (v := .int ((v2.2) 6)) (C := RX1) (T := TX1) (N := 7) hx hb hts iX1_readPerson_X1 hown hK hP 0 rfl rfl 6 (by decide) (hts (.fieldLink RX1 28 "LeftIsAgreedOn$Reader" "value" "I") (List.mem_of_getElem? (i := 2) rfl)) (fun _ h9 => h9) rfl dX1_readPerson_22 ?_
      refine lv_istore_n (lv' := [(1, .int ((v2.2) 6)), (0, .ref a_t)]) hx hb dX1_readPerson_25 rfl hl (by decide) rfl (fun ls hl => ?_)
      refine lv_aload_n hx hb dX1_readPerson_26 rfl (lv_at hl 1 rfl) ?_
      refine lv_iconst (v := (0 : Int32)) hx hb dX1_readPerson_27 (by decide) ?_
      refine lv_bipush (v := (9 : Int32)) hx hb dX1_readPerson_28 (by decide) ?_
      obtain ⟨v3, hv3, h⟩ := bind_of h
      refine after_i X (run_V X (c_X1_readNumber l E a_t a_bytes a_trial (0 : Int32) (9 : Int32) (v2.2) c_bytes H.size v3 hv3) (cwV 2 hts gX1_readPerson_X1_readNumber rfl rfl rfl hV_X1_readNumber ⟨(Nat.le_of_ble_eq_true rfl), (Nat.le_of_ble_eq_true rfl)⟩) hP hD hS [0, 1] rfl rfl hl.1 (ci := 1) rfl rfl rfl (rest := []) rfl rfl (Nat.le_of_ble_eq_true rfl) dX1_readPerson_30) hP hD hS [0, 1] rfl (ws1 := (W_X1_readPerson E a_t a_bytes a_trial a_trial_cells a_trial_faces a_trial_kinds a_trial_pledges a_trial_ponds a_trial_weights (v3.2) c_bytes c_trial c_trial_cells c_trial_faces c_trial_kinds c_trial_pledges c_trial_ponds c_trial_weights)) rfl (fun H locs hP hD hS => ?_)
      refine lv_if_ne (tgt := 38) hx hb dX1_readPerson_33 (by decide) (fun hc33 => ?_) (fun hc33 => ?_)
      · have h := if_f h hc33
        refine lv_aload_n hx hb dX1_readPerson_38 rfl (lv_at hl 1 rfl) ?_
        refine va_get (D := E.1) (ci := 1) (v := .int ((v3.2) 6)) (C := RX1) (T := TX1) (N := 7) hx hb hts iX1_readPerson_X1 hown hK hP 0 rfl rfl 6 (by decide) (hts (.fieldLink RX1 28 "LeftIsAgreedOn$Reader" "value" "I") (List.mem_of_getElem? (i := 2) rfl)) (fun _ h9 => h9) rfl dX1_readPerson_39 ?_
        refine lv_istore_n (lv' := [(2, .int ((v3.2) 6)), (1, .int ((v2.2) 6)), (0, .ref a_t)]) hx hb dX1_readPerson_42 rfl hl (by decide) rfl (fun ls hl => ?_)
        refine lv_aload_n hx hb dX1_readPerson_43 rfl (lv_at hl 2 rfl) ?_
        obtain ⟨v4, hv4, h⟩ := bind_of h
        refine after_i X (run_V X (c_X1_readCell l E a_t a_bytes a_trial a_trial_ponds a_trial_kinds a_trial_weights a_trial_cells a_trial_faces a_trial_pledges (v3.2) c_bytes c_trial H.size v4 hv4) (cwV 0 hts gX1_readPerson_X1_readCell rfl rfl rfl hV_X1_readCell ⟨(Nat.le_of_ble_eq_true rfl), (Nat.le_of_ble_eq_true rfl)⟩) hP hD hS [0, 1, 2] rfl rfl hl.1 (ci := 1) rfl rfl rfl (rest := []) rfl rfl (Nat.le_of_ble_eq_true rfl) dX1_readPerson_44) hP hD hS [0, 1, 2] rfl (ws1 := (W_X1_readPerson E a_t a_bytes a_trial a_trial_cells a_trial_faces a_trial_kinds a_trial_pledges a_trial_ponds a_trial_weights (v4.2) c_bytes c_trial c_trial_cells c_trial_faces c_trial_kinds c_trial_pledges c_trial_ponds c_trial_weights)) rfl (fun H locs hP hD hS => ?_)
        refine lv_if_eq (tgt := 64) hx hb dX1_readPerson_47 (by decide) (fun hc47 => ?_) (fun hc47 => ?_)
        · have h := if_t h hc47
          refine lv_iconst (v := (0 : Int32)) hx hb dX1_readPerson_64 (by decide) ?_
          obtain rfl := Option.some.inj h
          exact ret_z X dX1_readPerson_65 (by decide) hP hD hS rfl
        · have h := if_f h hc47
          refine lv_aload_n hx hb dX1_readPerson_50 rfl (lv_at hl 2 rfl) ?_
          refine va_get (D := E.1) (ci := 1) (v := .ref a_trial) (C := RX1) (T := TX1) (N := 7) hx hb hts iX1_readPerson_X1 hown hK hP 0 rfl rfl 0 (by decide) (hts (.fieldLink RX1 31 "LeftIsAgreedOn$Reader" "trial" "LLeftIsAgreedOn$Island;") (List.mem_of_getElem? (i := 1) rfl)) (fun _ h9 => h9) rfl dX1_readPerson_51 ?_
          refine lv_aload_n hx hb dX1_readPerson_54 rfl (lv_at hl 2 rfl) ?_
          refine va_get (D := E.1) (ci := 1) (v := .int ((v4.2) 6)) (C := RX1) (T := TX1) (N := 7) hx hb hts iX1_readPerson_X1 hown hK hP 0 rfl rfl 6 (by decide) (hts (.fieldLink RX1 28 "LeftIsAgreedOn$Reader" "value" "I") (List.mem_of_getElem? (i := 2) rfl)) (fun _ h9 => h9) rfl dX1_readPerson_55 ?_
          obtain ⟨v5, hv5, h⟩ := bind_of h
          refine after_i X (run_V X (c_X0_hasPond l E a_trial a_trial_ponds a_trial_kinds a_trial_weights a_trial_cells a_trial_faces a_trial_pledges ((v4.2) 6) c_trial c_trial_ponds H.size v5 hv5) (cwV 1 hts gX1_readPerson_X0_hasPond rfl rfl rfl hV_X0_hasPond ⟨(Nat.le_of_ble_eq_true rfl), (Nat.le_of_ble_eq_true rfl)⟩) hP hD hS [2, 7] rfl rfl hl.1 (ci := 0) rfl rfl rfl (rest := []) rfl rfl (Nat.le_of_ble_eq_true rfl) dX1_readPerson_58) hP hD hS [2, 7] rfl (ws1 := (W_X1_readPerson E a_t a_bytes a_trial a_trial_cells a_trial_faces a_trial_kinds a_trial_pledges a_trial_ponds a_trial_weights (v4.2) c_bytes c_trial c_trial_cells c_trial_faces c_trial_kinds c_trial_pledges c_trial_ponds c_trial_weights)) rfl (fun H locs hP hD hS => ?_)
          refine lv_if_eq (tgt := 66) hx hb dX1_readPerson_61 (by decide) (fun hc61 => ?_) (fun hc61 => ?_)
          · have h := if_t h hc61
            refine lv_aload_n hx hb dX1_readPerson_66 rfl (lv_at hl 2 rfl) ?_
            refine va_get (D := E.1) (ci := 1) (v := .int ((v4.2) 6)) (C := RX1) (T := TX1) (N := 7) hx hb hts iX1_readPerson_X1 hown hK hP 0 rfl rfl 6 (by decide) (hts (.fieldLink RX1 28 "LeftIsAgreedOn$Reader" "value" "I") (List.mem_of_getElem? (i := 2) rfl)) (fun _ h9 => h9) rfl dX1_readPerson_67 ?_
            refine lv_istore_n (lv' := [(3, .int ((v4.2) 6)), (2, .int ((v3.2) 6)), (1, .int ((v2.2) 6)), (0, .ref a_t)]) hx hb dX1_readPerson_70 rfl hl (by decide) rfl (fun ls hl => ?_)
            refine lv_aload_n hx hb dX1_readPerson_71 rfl (lv_at hl 3 rfl) ?_
            refine lv_iconst (v := (0 : Int32)) hx hb dX1_readPerson_72 (by decide) ?_
            refine lv_iconst (v := (3 : Int32)) hx hb dX1_readPerson_73 (by decide) ?_
            obtain ⟨v6, hv6, h⟩ := bind_of h
            refine after_i X (run_V X (c_X1_readNumber l E a_t a_bytes a_trial (0 : Int32) (3 : Int32) (v4.2) c_bytes H.size v6 hv6) (cwV 2 hts gX1_readPerson_X1_readNumber rfl rfl rfl hV_X1_readNumber ⟨(Nat.le_of_ble_eq_true rfl), (Nat.le_of_ble_eq_true rfl)⟩) hP hD hS [0, 1] rfl rfl hl.1 (ci := 1) rfl rfl rfl (rest := []) rfl rfl (Nat.le_of_ble_eq_true rfl) dX1_readPerson_74) hP hD hS [0, 1] rfl (ws1 := (W_X1_readPerson E a_t a_bytes a_trial a_trial_cells a_trial_faces a_trial_kinds a_trial_pledges a_trial_ponds a_trial_weights (v6.2) c_bytes c_trial c_trial_cells c_trial_faces c_trial_kinds c_trial_pledges c_trial_ponds c_trial_weights)) rfl (fun H locs hP hD hS => ?_)
            refine lv_if_ne (tgt := 82) hx hb dX1_readPerson_77 (by decide) (fun hc77 => ?_) (fun hc77 => ?_)
            · have h := if_f h hc77
              refine lv_aload_n hx hb dX1_readPerson_82 rfl (lv_at hl 3 rfl) ?_
              refine va_get (D := E.1) (ci := 1) (v := .ref a_trial) (C := RX1) (T := TX1) (N := 7) hx hb hts iX1_readPerson_X1 hown hK hP 0 rfl rfl 0 (by decide) (hts (.fieldLink RX1 31 "LeftIsAgreedOn$Reader" "trial" "LLeftIsAgreedOn$Island;") (List.mem_of_getElem? (i := 1) rfl)) (fun _ h9 => h9) rfl dX1_readPerson_83 ?_
              refine lv_iload_n hx hb dX1_readPerson_86 rfl (lv_at hl 2 rfl) ?_
              refine lv_iload_n hx hb dX1_readPerson_87 rfl (lv_at hl 1 rfl) ?_
              refine lv_iload_n hx hb dX1_readPerson_88 rfl (lv_at hl 0 rfl) ?_
              refine lv_aload_n hx hb dX1_readPerson_89 rfl (lv_at hl 3 rfl) ?_
              refine va_get (D := E.1) (ci := 1) (v := .int ((v6.2) 6)) (C := RX1) (T := TX1) (N := 7) hx hb hts iX1_readPerson_X1 hown hK hP 0 rfl rfl 6 (by decide) (hts (.fieldLink RX1 28 "LeftIsAgreedOn$Reader" "value" "I") (List.mem_of_getElem? (i := 2) rfl)) (fun _ h9 => h9) rfl dX1_readPerson_90 ?_
              obtain ⟨v7, hv7, h⟩ := bind_of h
              refine after_i X (run_V X (c_X0_add l E a_trial a_trial_cells a_trial_faces a_trial_kinds a_trial_pledges a_trial_weights a_trial_ponds ((v2.2) 6) ((v3.2) 6) ((v4.2) 6) ((v6.2) 6) c_trial c_trial_cells c_trial_faces c_trial_kinds c_trial_pledges c_trial_weights H.size v7 hv7) (cwV 4 hts gX1_readPerson_X0_add rfl rfl rfl hV_X0_add ⟨(Nat.le_of_ble_eq_true rfl), (Nat.le_of_ble_eq_true rfl)⟩) hP hD hS [2, 3, 4, 5, 6, 8] rfl rfl hl.1 (ci := 0) rfl rfl rfl (rest := []) rfl rfl (Nat.le_of_ble_eq_true rfl) dX1_readPerson_93) hP hD hS [2, 3, 4, 5, 6, 8] rfl (ws1 := (W_X1_readPerson E a_t a_bytes a_trial a_trial_cells a_trial_faces a_trial_kinds a_trial_pledges a_trial_ponds a_trial_weights (v6.2) c_bytes (v7.2.1) (v7.2.2.1) (v7.2.2.2.1) (v7.2.2.2.2.1) (v7.2.2.2.2.2.1) c_trial_ponds (v7.2.2.2.2.2.2))) rfl (fun H locs hP hD hS => ?_)
              refine lv_pop hx hb dX1_readPerson_96 rfl ?_
              refine lv_iconst (v := (1 : Int32)) hx hb dX1_readPerson_97 (by decide) ?_
              obtain rfl := Option.some.inj h
              exact ret_z X dX1_readPerson_98 (by decide) hP hD hS rfl
            · have h := if_t h hc77
              refine lv_iconst (v := (0 : Int32)) hx hb dX1_readPerson_80 (by decide) ?_
              obtain rfl := Option.some.inj h
              exact ret_z X dX1_readPerson_81 (by decide) hP hD hS rfl
          · have h := if_f h hc61
            refine lv_iconst (v := (0 : Int32)) hx hb dX1_readPerson_64 (by decide) ?_
            obtain rfl := Option.some.inj h
            exact ret_z X dX1_readPerson_65 (by decide) hP hD hS rfl
      · have h := if_t h hc33
        refine lv_iconst (v := (0 : Int32)) hx hb dX1_readPerson_36 (by decide) ?_
        obtain rfl := Option.some.inj h
        exact ret_z X dX1_readPerson_37 (by decide) hP hD hS rfl
    · have h := if_t h hc16
      refine lv_iconst (v := (0 : Int32)) hx hb dX1_readPerson_19 (by decide) ?_
      obtain rfl := Option.some.inj h
      exact ret_z X dX1_readPerson_20 (by decide) hP hD hS rfl
end
set_option maxRecDepth 100000 in
theorem c_X1_readPerson (l : Launch) (E : Env0) (a_t : Nat) (a_bytes : Nat) (a_trial : Nat) (a_trial_cells : Nat) (a_trial_faces : Nat) (a_trial_kinds : Nat) (a_trial_pledges : Nat) (a_trial_ponds : Nat) (a_trial_weights : Nat) (c_t : Nat → Int32) (c_bytes : Nat → Int32) (c_trial : Nat → Int32) (c_trial_cells : Nat → Int32) (c_trial_faces : Nat → Int32) (c_trial_kinds : Nat → Int32) (c_trial_pledges : Nat → Int32) (c_trial_ponds : Nat → Int32) (c_trial_weights : Nat → Int32) (sz : Nat) (res : Int32 × (Nat → Int32) × (Nat → Int32) × (Nat → Int32) × (Nat → Int32) × (Nat → Int32) × (Nat → Int32) × (Nat → Int32)) (h : f_X1_readPerson c_t c_bytes c_trial c_trial_cells c_trial_faces c_trial_kinds c_trial_pledges c_trial_ponds c_trial_weights = some res) : Met l yX1_readPerson wsX1_readPerson r_X1_readPerson (cPre E [.ref a_t] (W_X1_readPerson E a_t a_bytes a_trial a_trial_cells a_trial_faces a_trial_kinds a_trial_pledges a_trial_ponds a_trial_weights c_t c_bytes c_trial c_trial_cells c_trial_faces c_trial_kinds c_trial_pledges c_trial_ponds c_trial_weights) sz) (qI E (va_A (W_X1_readPerson E a_t a_bytes a_trial a_trial_cells a_trial_faces a_trial_kinds a_trial_pledges a_trial_ponds a_trial_weights c_t c_bytes c_trial c_trial_cells c_trial_faces c_trial_kinds c_trial_pledges c_trial_ponds c_trial_weights) sz) (res.1) (W_X1_readPerson E a_t a_bytes a_trial a_trial_cells a_trial_faces a_trial_kinds a_trial_pledges a_trial_ponds a_trial_weights (res.2.1) c_bytes (res.2.2.1) (res.2.2.2.1) (res.2.2.2.2.1) (res.2.2.2.2.2.1) (res.2.2.2.2.2.2.1) c_trial_ponds (res.2.2.2.2.2.2.2))) 0 0 (va_A (W_X1_readPerson E a_t a_bytes a_trial a_trial_cells a_trial_faces a_trial_kinds a_trial_pledges a_trial_ponds a_trial_weights c_t c_bytes c_trial c_trial_cells c_trial_faces c_trial_kinds c_trial_pledges c_trial_ponds c_trial_weights) sz) :=
  met_of (Qc := fun A => qI E A (res.1) (W_X1_readPerson E a_t a_bytes a_trial a_trial_cells a_trial_faces a_trial_kinds a_trial_pledges a_trial_ponds a_trial_weights (res.2.1) c_bytes (res.2.2.1) (res.2.2.2.1) (res.2.2.2.2.1) (res.2.2.2.2.2.1) (res.2.2.2.2.2.2.1) c_trial_ponds (res.2.2.2.2.2.2.2))) (by decide) rfl (Nat.le_of_ble_eq_true rfl) (fun p e s m args below meth c X hP hD hS ls hl => w_X1_readPerson X a_t a_bytes a_trial a_trial_cells a_trial_faces a_trial_kinds a_trial_pledges a_trial_ponds a_trial_weights c_bytes c_trial_ponds res c_t c_trial c_trial_cells c_trial_faces c_trial_kinds c_trial_pledges c_trial_weights ls _ _ h hP hD hS hl)
-- ===== X1_readIs
noncomputable abbrev W_X1_readIs (E : Env0) (a_t : Nat) (a_bytes : Nat) (a_trial : Nat) (a_trial_pledges : Nat) (a_trial_ponds : Nat) (a_trial_kinds : Nat) (a_trial_weights : Nat) (a_trial_cells : Nat) (a_trial_faces : Nat) (c_t : Nat → Int32) (c_bytes : Nat → Int32) (c_trial : Nat → Int32) (c_trial_pledges : Nat → Int32) : va_W := [(a_t, .inr (1, [.ref a_trial, .ref a_bytes, .int (c_t 2), .int (c_t 3), .int (c_t 4), .int (c_t 5), .int (c_t 6)])), (a_bytes, .inl (eI E, 250, .inl c_bytes)), (a_trial, .inr (0, [.int (c_trial 0), .int (c_trial 1), .int (c_trial 2), .int (c_trial 3), .int (c_trial 4), .int (c_trial 5), .int (c_trial 6), .int (c_trial 7), .ref a_trial_ponds, .ref a_trial_kinds, .ref a_trial_weights, .ref a_trial_cells, .ref a_trial_faces, .ref a_trial_pledges])), (a_trial_pledges, .inl (eI E, 8, .inl c_trial_pledges))]
noncomputable abbrev r_X1_readIs : Room := { frames := 3, cells := 0, slots := 0, locals := 64 }
theorem hd_X1_readIs : yX1_readIs.cls ≠ "java/lang/invoke/MethodHandle" ∧ yX1_readIs.cls ≠ "java/lang/invoke/VarHandle" ∧ (parseMethodDescriptor yX1_readIs.desc).map (fun d => d.parameters.length) = some 0 := by decide +kernel
theorem hV_X1_readIs : yX1_readIs.cls = RX1 ∧ yX1_readIs.cls ≠ "java/lang/invoke/MethodHandle" ∧ yX1_readIs.cls ≠ "java/lang/invoke/VarHandle" ∧ (parseMethodDescriptor yX1_readIs.desc).map (fun d => d.parameters.length) = some 0 := ⟨rfl, hd_X1_readIs⟩
theorem iX1_readIs_X0 : ∀ w ∈ wsX00, w ∈ wsX1_readIs := fun _ h => List.mem_cons_of_mem _ (List.mem_append_right _ (h))
theorem iX1_readIs_X1 : ∀ w ∈ wsX10, w ∈ wsX1_readIs := fun _ h => List.mem_cons_of_mem _ (List.mem_append_left _ (List.mem_append_right _ (h)))
section
variable {p : Program} {l : Launch} {e : Env} {s : State} {m : MethodId} {args : Array Value} {below : List Frame} {meth : Method} {c : Code} {E : Env0} {A : Nat → Prop}
set_option maxRecDepth 100000 in
set_option maxHeartbeats 4000000 in
theorem w_X1_readIs (X : Ctx p m meth c cX1_readIs 2 ((some .boolean)) s args wsX1_readIs RX1 E A) (a_t : Nat) (a_bytes : Nat) (a_trial : Nat) (a_trial_pledges : Nat) (a_trial_ponds : Nat) (a_trial_kinds : Nat) (a_trial_weights : Nat) (a_trial_cells : Nat) (a_trial_faces : Nat) (c_bytes : Nat → Int32) (c_trial : Nat → Int32) (res : Int32 × (Nat → Int32) × (Nat → Int32)) (c_t : Nat → Int32) (c_trial_pledges : Nat → Int32) (ls : Array Slot) (H : Heap) (locs : List Loc) (h : f_X1_readIs c_t c_bytes c_trial c_trial_pledges = some res) (hP : va_P E.1 vwCl (W_X1_readIs E a_t a_bytes a_trial a_trial_pledges a_trial_ponds a_trial_kinds a_trial_weights a_trial_cells a_trial_faces c_t c_bytes c_trial c_trial_pledges) H) (hD : va_D A (W_X1_readIs E a_t a_bytes a_trial a_trial_pledges a_trial_ponds a_trial_kinds a_trial_weights a_trial_cells a_trial_faces c_t c_bytes c_trial c_trial_pledges)) (hS : va_S A s.heap H locs) (hl : lv_has ls 2 [(0, .ref a_t)]) : W p l e r_X1_readIs s m args below meth c H locs 0 0 (MQ below (qI E A (res.1) (W_X1_readIs E a_t a_bytes a_trial a_trial_pledges a_trial_ponds a_trial_kinds a_trial_weights a_trial_cells a_trial_faces (res.2.1) c_bytes c_trial (res.2.2))) args s 0 0 A) (F0 m 0 ls []) := by
  obtain ⟨hx, hb, hml, hr, hlk, hown, hts, hG, hA⟩ := id X
  have hK := hG.1
  have hN := hG.2.1
  unfold f_X1_readIs at h
  refine lv_aload_n hx hb dX1_readIs_0 rfl (lv_at hl 0 rfl) ?_
  refine lv_iconst (v := (0 : Int32)) hx hb dX1_readIs_1 (by decide) ?_
  refine lv_bipush (v := (7 : Int32)) hx hb dX1_readIs_2 (by decide) ?_
  obtain ⟨v1, hv1, h⟩ := bind_of h
  refine after_i X (run_V X (c_X1_readNumber l E a_t a_bytes a_trial (0 : Int32) (7 : Int32) c_t c_bytes H.size v1 hv1) (cwV 2 hts gX1_readIs_X1_readNumber rfl rfl rfl hV_X1_readNumber ⟨(Nat.le_of_ble_eq_true rfl), (Nat.le_of_ble_eq_true rfl)⟩) hP hD hS [0, 1] rfl rfl hl.1 (ci := 1) rfl rfl rfl (rest := []) rfl rfl (Nat.le_of_ble_eq_true rfl) dX1_readIs_4) hP hD hS [0, 1] rfl (ws1 := (W_X1_readIs E a_t a_bytes a_trial a_trial_pledges a_trial_ponds a_trial_kinds a_trial_weights a_trial_cells a_trial_faces (v1.2) c_bytes c_trial c_trial_pledges)) rfl (fun H locs hP hD hS => ?_)
  refine lv_if_eq (tgt := 24) hx hb dX1_readIs_7 (by decide) (fun hc7 => ?_) (fun hc7 => ?_)
  · have h := if_t h hc7
    refine lv_iconst (v := (0 : Int32)) hx hb dX1_readIs_24 (by decide) ?_
    obtain rfl := Option.some.inj h
    exact ret_z X dX1_readIs_25 (by decide) hP hD hS rfl
  · have h := if_f h hc7
    refine lv_aload_n hx hb dX1_readIs_10 rfl (lv_at hl 0 rfl) ?_
    refine va_get (D := E.1) (ci := 1) (v := .ref a_trial) (C := RX1) (T := TX1) (N := 7) hx hb hts iX1_readIs_X1 hown hK hP 0 rfl rfl 0 (by decide) (hts (.fieldLink RX1 31 "LeftIsAgreedOn$Reader" "trial" "LLeftIsAgreedOn$Island;") (List.mem_of_getElem? (i := 1) rfl)) (fun _ h9 => h9) rfl dX1_readIs_11 ?_
    refine lv_aload_n hx hb dX1_readIs_14 rfl (lv_at hl 0 rfl) ?_
    refine va_get (D := E.1) (ci := 1) (v := .int ((v1.2) 6)) (C := RX1) (T := TX1) (N := 7) hx hb hts iX1_readIs_X1 hown hK hP 0 rfl rfl 6 (by decide) (hts (.fieldLink RX1 28 "LeftIsAgreedOn$Reader" "value" "I") (List.mem_of_getElem? (i := 2) rfl)) (fun _ h9 => h9) rfl dX1_readIs_15 ?_
    obtain ⟨v2, hv2, h⟩ := bind_of h
    refine after_i X (run_V X (c_X0_isOne l E a_trial a_trial_ponds a_trial_kinds a_trial_weights a_trial_cells a_trial_faces a_trial_pledges ((v1.2) 6) c_trial H.size v2 hv2) (cwV 1 hts gX1_readIs_X0_isOne rfl rfl rfl hV_X0_isOne ⟨(Nat.le_of_ble_eq_true rfl), (Nat.le_of_ble_eq_true rfl)⟩) hP hD hS [2] rfl rfl hl.1 (ci := 0) rfl rfl rfl (rest := []) rfl rfl (Nat.le_of_ble_eq_true rfl) dX1_readIs_18) hP hD hS [2] rfl (ws1 := (W_X1_readIs E a_t a_bytes a_trial a_trial_pledges a_trial_ponds a_trial_kinds a_trial_weights a_trial_cells a_trial_faces (v1.2) c_bytes c_trial c_trial_pledges)) rfl (fun H locs hP hD hS => ?_)
    refine lv_if_ne (tgt := 26) hx hb dX1_readIs_21 (by decide) (fun hc21 => ?_) (fun hc21 => ?_)
    · have h := if_f h hc21
      refine lv_aload_n hx hb dX1_readIs_26 rfl (lv_at hl 0 rfl) ?_
      refine va_get (D := E.1) (ci := 1) (v := .int ((v1.2) 6)) (C := RX1) (T := TX1) (N := 7) hx hb hts iX1_readIs_X1 hown hK hP 0 rfl rfl 6 (by decide) (hts (.fieldLink RX1 28 "LeftIsAgreedOn$Reader" "value" "I") (List.mem_of_getElem? (i := 2) rfl)) (fun _ h9 => h9) rfl dX1_readIs_27 ?_
      refine lv_istore_n (lv' := [(1, .int ((v1.2) 6)), (0, .ref a_t)]) hx hb dX1_readIs_30 rfl hl (by decide) rfl (fun ls hl => ?_)
      refine lv_aload_n hx hb dX1_readIs_31 rfl (lv_at hl 1 rfl) ?_
      refine lv_iconst (v := (0 : Int32)) hx hb dX1_readIs_32 (by decide) ?_
      refine lv_iconst (v := (1 : Int32)) hx hb dX1_readIs_33 (by decide) ?_
      obtain ⟨v3, hv3, h⟩ := bind_of h
      refine after_i X (run_V X (c_X1_readNumber l E a_t a_bytes a_trial (0 : Int32) (1 : Int32) (v1.2) c_bytes H.size v3 hv3) (cwV 2 hts gX1_readIs_X1_readNumber rfl rfl rfl hV_X1_readNumber ⟨(Nat.le_of_ble_eq_true rfl), (Nat.le_of_ble_eq_true rfl)⟩) hP hD hS [0, 1] rfl rfl hl.1 (ci := 1) rfl rfl rfl (rest := []) rfl rfl (Nat.le_of_ble_eq_true rfl) dX1_readIs_34) hP hD hS [0, 1] rfl (ws1 := (W_X1_readIs E a_t a_bytes a_trial a_trial_pledges a_trial_ponds a_trial_kinds a_trial_weights a_trial_cells a_trial_faces (v3.2) c_bytes c_trial c_trial_pledges)) rfl (fun H locs hP hD hS => ?_)
      refine lv_if_ne (tgt := 42) hx hb dX1_readIs_37 (by decide) (fun hc37 => ?_) (fun hc37 => ?_)
      · have h := if_f h hc37
        refine lv_aload_n hx hb dX1_readIs_42 rfl (lv_at hl 1 rfl) ?_
        refine va_get (D := E.1) (ci := 1) (v := .ref a_trial) (C := RX1) (T := TX1) (N := 7) hx hb hts iX1_readIs_X1 hown hK hP 0 rfl rfl 0 (by decide) (hts (.fieldLink RX1 31 "LeftIsAgreedOn$Reader" "trial" "LLeftIsAgreedOn$Island;") (List.mem_of_getElem? (i := 1) rfl)) (fun _ h9 => h9) rfl dX1_readIs_43 ?_
        refine va_getN (D := E.1) (ci := 0) (v := .ref a_trial_pledges) (C := RX0) (T := TX0) (N := 14) hx hb hts iX1_readIs_X0 hown hK hP 2 rfl rfl 13 (by decide) (va_Nw.use rfl (nF_20 hN)) (fun _ h9 => h9) rfl dX1_readIs_46 ?_
        refine lv_iload_n hx hb dX1_readIs_49 rfl (lv_at hl 0 rfl) ?_
        refine lv_aload_n hx hb dX1_readIs_50 rfl (lv_at hl 1 rfl) ?_
        refine va_get (D := E.1) (ci := 1) (v := .int ((v3.2) 6)) (C := RX1) (T := TX1) (N := 7) hx hb hts iX1_readIs_X1 hown hK hP 0 rfl rfl 6 (by decide) (hts (.fieldLink RX1 28 "LeftIsAgreedOn$Reader" "value" "I") (List.mem_of_getElem? (i := 2) rfl)) (fun _ h9 => h9) rfl dX1_readIs_51 ?_
        obtain ⟨hz54, h⟩ := chk_of h
        refine st_i X hP hD hS 3 rfl (inb.vp hz54) (k := (((v1.2) 6)).toNatClampNeg) rfl (ws1 := (W_X1_readIs E a_t a_bytes a_trial a_trial_pledges a_trial_ponds a_trial_kinds a_trial_weights a_trial_cells a_trial_faces (v3.2) c_bytes c_trial (upd c_trial_pledges ((((v1.2) 6)).toNatClampNeg) ((v3.2) 6)))) rfl dX1_readIs_54 (fun H locs hP hD hS => ?_)
        refine lv_iconst (v := (1 : Int32)) hx hb dX1_readIs_55 (by decide) ?_
        obtain rfl := Option.some.inj h
        exact ret_z X dX1_readIs_56 (by decide) hP hD hS rfl
      · have h := if_t h hc37
        refine lv_iconst (v := (0 : Int32)) hx hb dX1_readIs_40 (by decide) ?_
        obtain rfl := Option.some.inj h
        exact ret_z X dX1_readIs_41 (by decide) hP hD hS rfl
    · have h := if_t h hc21
      refine lv_iconst (v := (0 : Int32)) hx hb dX1_readIs_24 (by decide) ?_
      obtain rfl := Option.some.inj h
      exact ret_z X dX1_readIs_25 (by decide) hP hD hS rfl
end
set_option maxRecDepth 100000 in
theorem c_X1_readIs (l : Launch) (E : Env0) (a_t : Nat) (a_bytes : Nat) (a_trial : Nat) (a_trial_pledges : Nat) (a_trial_ponds : Nat) (a_trial_kinds : Nat) (a_trial_weights : Nat) (a_trial_cells : Nat) (a_trial_faces : Nat) (c_t : Nat → Int32) (c_bytes : Nat → Int32) (c_trial : Nat → Int32) (c_trial_pledges : Nat → Int32) (sz : Nat) (res : Int32 × (Nat → Int32) × (Nat → Int32)) (h : f_X1_readIs c_t c_bytes c_trial c_trial_pledges = some res) : Met l yX1_readIs wsX1_readIs r_X1_readIs (cPre E [.ref a_t] (W_X1_readIs E a_t a_bytes a_trial a_trial_pledges a_trial_ponds a_trial_kinds a_trial_weights a_trial_cells a_trial_faces c_t c_bytes c_trial c_trial_pledges) sz) (qI E (va_A (W_X1_readIs E a_t a_bytes a_trial a_trial_pledges a_trial_ponds a_trial_kinds a_trial_weights a_trial_cells a_trial_faces c_t c_bytes c_trial c_trial_pledges) sz) (res.1) (W_X1_readIs E a_t a_bytes a_trial a_trial_pledges a_trial_ponds a_trial_kinds a_trial_weights a_trial_cells a_trial_faces (res.2.1) c_bytes c_trial (res.2.2))) 0 0 (va_A (W_X1_readIs E a_t a_bytes a_trial a_trial_pledges a_trial_ponds a_trial_kinds a_trial_weights a_trial_cells a_trial_faces c_t c_bytes c_trial c_trial_pledges) sz) :=
  met_of (Qc := fun A => qI E A (res.1) (W_X1_readIs E a_t a_bytes a_trial a_trial_pledges a_trial_ponds a_trial_kinds a_trial_weights a_trial_cells a_trial_faces (res.2.1) c_bytes c_trial (res.2.2))) (by decide) rfl (Nat.le_of_ble_eq_true rfl) (fun p e s m args below meth c X hP hD hS ls hl => w_X1_readIs X a_t a_bytes a_trial a_trial_pledges a_trial_ponds a_trial_kinds a_trial_weights a_trial_cells a_trial_faces c_bytes c_trial res c_t c_trial_pledges ls _ _ h hP hD hS hl)
-- ===== X1_readYear
noncomputable abbrev W_X1_readYear (E : Env0) (a_t : Nat) (a_bytes : Nat) (a_trial : Nat) (a_trial_ponds : Nat) (a_trial_kinds : Nat) (a_trial_weights : Nat) (a_trial_cells : Nat) (a_trial_faces : Nat) (a_trial_pledges : Nat) (c_t : Nat → Int32) (c_bytes : Nat → Int32) (c_trial : Nat → Int32) : va_W := [(a_t, .inr (1, [.ref a_trial, .ref a_bytes, .int (c_t 2), .int (c_t 3), .int (c_t 4), .int (c_t 5), .int (c_t 6)])), (a_bytes, .inl (eI E, 250, .inl c_bytes)), (a_trial, .inr (0, [.int (c_trial 0), .int (c_trial 1), .int (c_trial 2), .int (c_trial 3), .int (c_trial 4), .int (c_trial 5), .int (c_trial 6), .int (c_trial 7), .ref a_trial_ponds, .ref a_trial_kinds, .ref a_trial_weights, .ref a_trial_cells, .ref a_trial_faces, .ref a_trial_pledges]))]
noncomputable abbrev r_X1_readYear : Room := { frames := 5, cells := 0, slots := 0, locals := 107 }
theorem hd_X1_readYear : yX1_readYear.cls ≠ "java/lang/invoke/MethodHandle" ∧ yX1_readYear.cls ≠ "java/lang/invoke/VarHandle" ∧ (parseMethodDescriptor yX1_readYear.desc).map (fun d => d.parameters.length) = some 0 := by decide +kernel
theorem hV_X1_readYear : yX1_readYear.cls = RX1 ∧ yX1_readYear.cls ≠ "java/lang/invoke/MethodHandle" ∧ yX1_readYear.cls ≠ "java/lang/invoke/VarHandle" ∧ (parseMethodDescriptor yX1_readYear.desc).map (fun d => d.parameters.length) = some 0 := ⟨rfl, hd_X1_readYear⟩
theorem iX1_readYear_X0 : ∀ w ∈ wsX00, w ∈ wsX1_readYear := fun _ h => List.mem_cons_of_mem _ (List.mem_append_right _ (h))
theorem iX1_readYear_X1 : ∀ w ∈ wsX10, w ∈ wsX1_readYear := fun _ h => List.mem_cons_of_mem _ (List.mem_append_left _ (List.mem_append_right _ (h)))
section
variable {p : Program} {l : Launch} {e : Env} {s : State} {m : MethodId} {args : Array Value} {below : List Frame} {meth : Method} {c : Code} {E : Env0} {A : Nat → Prop}
set_option maxRecDepth 100000 in
set_option maxHeartbeats 4000000 in
theorem w_X1_readYear (X : Ctx p m meth c cX1_readYear 1 ((some .boolean)) s args wsX1_readYear RX1 E A) (a_t : Nat) (a_bytes : Nat) (a_trial : Nat) (a_trial_ponds : Nat) (a_trial_kinds : Nat) (a_trial_weights : Nat) (a_trial_cells : Nat) (a_trial_faces : Nat) (a_trial_pledges : Nat) (c_bytes : Nat → Int32) (res : Int32 × (Nat → Int32) × (Nat → Int32)) (c_t : Nat → Int32) (c_trial : Nat → Int32) (ls : Array Slot) (H : Heap) (locs : List Loc) (h : f_X1_readYear c_t c_bytes c_trial = some res) (hP : va_P E.1 vwCl (W_X1_readYear E a_t a_bytes a_trial a_trial_ponds a_trial_kinds a_trial_weights a_trial_cells a_trial_faces a_trial_pledges c_t c_bytes c_trial) H) (hD : va_D A (W_X1_readYear E a_t a_bytes a_trial a_trial_ponds a_trial_kinds a_trial_weights a_trial_cells a_trial_faces a_trial_pledges c_t c_bytes c_trial)) (hS : va_S A s.heap H locs) (hl : lv_has ls 1 [(0, .ref a_t)]) : W p l e r_X1_readYear s m args below meth c H locs 0 0 (MQ below (qI E A (res.1) (W_X1_readYear E a_t a_bytes a_trial a_trial_ponds a_trial_kinds a_trial_weights a_trial_cells a_trial_faces a_trial_pledges (res.2.1) c_bytes (res.2.2))) args s 0 0 A) (F0 m 0 ls []) := by
  obtain ⟨hx, hb, hml, hr, hlk, hown, hts, hG, hA⟩ := id X
  have hK := hG.1
  have hN := hG.2.1
  unfold f_X1_readYear at h
  refine lv_aload_n hx hb dX1_readYear_0 rfl (lv_at hl 0 rfl) ?_
  refine va_ldcS hx hb hown (hG.2.2.2.2.1 _ (List.mem_of_getElem? (i := 5) rfl)) dX1_readYear_1 ?_
  obtain ⟨v1, hv1, h⟩ := bind_of h
  refine after_i X (run_V X (c_X1_isWord l E a_t a_bytes a_trial 5 c_t c_bytes H.size v1 hv1) (cwV 1 hts gX1_readYear_X1_isWord rfl rfl rfl hV_X1_isWord ⟨(Nat.le_of_ble_eq_true rfl), (Nat.le_of_ble_eq_true rfl)⟩) hP hD hS [0, 1] rfl rfl hl.1 (ci := 1) rfl rfl rfl (rest := []) rfl rfl (Nat.le_of_ble_eq_true rfl) dX1_readYear_3) hP hD hS [0, 1] rfl (ws1 := (W_X1_readYear E a_t a_bytes a_trial a_trial_ponds a_trial_kinds a_trial_weights a_trial_cells a_trial_faces a_trial_pledges c_t c_bytes c_trial)) rfl (fun H locs hP hD hS => ?_)
  refine lv_if_eq (tgt := 33) hx hb dX1_readYear_6 (by decide) (fun hc6 => ?_) (fun hc6 => ?_)
  · have h := if_t h hc6
    refine lv_aload_n hx hb dX1_readYear_33 rfl (lv_at hl 0 rfl) ?_
    refine va_ldcS hx hb hown (hG.2.2.2.2.1 _ (List.mem_of_getElem? (i := 6) rfl)) dX1_readYear_34 ?_
    obtain ⟨v2, hv2, h⟩ := bind_of h
    refine after_i X (run_V X (c_X1_isWord l E a_t a_bytes a_trial 6 c_t c_bytes H.size v2 hv2) (cwV 1 hts gX1_readYear_X1_isWord rfl rfl rfl hV_X1_isWord ⟨(Nat.le_of_ble_eq_true rfl), (Nat.le_of_ble_eq_true rfl)⟩) hP hD hS [0, 1] rfl rfl hl.1 (ci := 1) rfl rfl rfl (rest := []) rfl rfl (Nat.le_of_ble_eq_true rfl) dX1_readYear_36) hP hD hS [0, 1] rfl (ws1 := (W_X1_readYear E a_t a_bytes a_trial a_trial_ponds a_trial_kinds a_trial_weights a_trial_cells a_trial_faces a_trial_pledges c_t c_bytes c_trial)) rfl (fun H locs hP hD hS => ?_)
    refine lv_if_eq (tgt := 66) hx hb dX1_readYear_39 (by decide) (fun hc39 => ?_) (fun hc39 => ?_)
    · have h := if_t h hc39
      refine lv_aload_n hx hb dX1_readYear_66 rfl (lv_at hl 0 rfl) ?_
      refine va_ldcS hx hb hown (hG.2.2.2.2.1 _ (List.mem_of_getElem? (i := 7) rfl)) dX1_readYear_67 ?_
      obtain ⟨v3, hv3, h⟩ := bind_of h
      refine after_i X (run_V X (c_X1_isWord l E a_t a_bytes a_trial 7 c_t c_bytes H.size v3 hv3) (cwV 1 hts gX1_readYear_X1_isWord rfl rfl rfl hV_X1_isWord ⟨(Nat.le_of_ble_eq_true rfl), (Nat.le_of_ble_eq_true rfl)⟩) hP hD hS [0, 1] rfl rfl hl.1 (ci := 1) rfl rfl rfl (rest := []) rfl rfl (Nat.le_of_ble_eq_true rfl) dX1_readYear_69) hP hD hS [0, 1] rfl (ws1 := (W_X1_readYear E a_t a_bytes a_trial a_trial_ponds a_trial_kinds a_trial_weights a_trial_cells a_trial_faces a_trial_pledges c_t c_bytes c_trial)) rfl (fun H locs hP hD hS => ?_)
      refine lv_if_eq (tgt := 85) hx hb dX1_readYear_72 (by decide) (fun hc72 => ?_) (fun hc72 => ?_)
      · have h := if_t h hc72
        refine lv_iconst (v := (0 : Int32)) hx hb dX1_readYear_85 (by decide) ?_
        obtain rfl := Option.some.inj h
        exact ret_z X dX1_readYear_86 (by decide) hP hD hS rfl
      · have h := if_f h hc72
        refine lv_aload_n hx hb dX1_readYear_75 rfl (lv_at hl 0 rfl) ?_
        refine lv_iconst (v := (0 : Int32)) hx hb dX1_readYear_76 (by decide) ?_
        refine lv_bipush (v := (12 : Int32)) hx hb dX1_readYear_77 (by decide) ?_
        obtain ⟨v4, hv4, h⟩ := bind_of h
        refine after_i X (run_V X (c_X1_readNumber l E a_t a_bytes a_trial (0 : Int32) (12 : Int32) c_t c_bytes H.size v4 hv4) (cwV 2 hts gX1_readYear_X1_readNumber rfl rfl rfl hV_X1_readNumber ⟨(Nat.le_of_ble_eq_true rfl), (Nat.le_of_ble_eq_true rfl)⟩) hP hD hS [0, 1] rfl rfl hl.1 (ci := 1) rfl rfl rfl (rest := []) rfl rfl (Nat.le_of_ble_eq_true rfl) dX1_readYear_79) hP hD hS [0, 1] rfl (ws1 := (W_X1_readYear E a_t a_bytes a_trial a_trial_ponds a_trial_kinds a_trial_weights a_trial_cells a_trial_faces a_trial_pledges (v4.2) c_bytes c_trial)) rfl (fun H locs hP hD hS => ?_)
        refine lv_if_ne (tgt := 87) hx hb dX1_readYear_82 (by decide) (fun hc82 => ?_) (fun hc82 => ?_)
        · have h := if_f h hc82
          refine lv_aload_n hx hb dX1_readYear_87 rfl (lv_at hl 0 rfl) ?_
          refine va_get (D := E.1) (ci := 1) (v := .ref a_trial) (C := RX1) (T := TX1) (N := 7) hx hb hts iX1_readYear_X1 hown hK hP 0 rfl rfl 0 (by decide) (hts (.fieldLink RX1 31 "LeftIsAgreedOn$Reader" "trial" "LLeftIsAgreedOn$Island;") (List.mem_of_getElem? (i := 1) rfl)) (fun _ h9 => h9) rfl dX1_readYear_88 ?_
          refine lv_aload_n hx hb dX1_readYear_91 rfl (lv_at hl 0 rfl) ?_
          refine va_get (D := E.1) (ci := 1) (v := .int ((v4.2) 6)) (C := RX1) (T := TX1) (N := 7) hx hb hts iX1_readYear_X1 hown hK hP 0 rfl rfl 6 (by decide) (hts (.fieldLink RX1 28 "LeftIsAgreedOn$Reader" "value" "I") (List.mem_of_getElem? (i := 2) rfl)) (fun _ h9 => h9) rfl dX1_readYear_92 ?_
          refine va_putN (D := E.1) (ci := 0) (v := .int ((v4.2) 6)) (ty := .int) (C := RX0) (T := TX0) (N := 14) hx hb hts iX1_readYear_X0 tyX0 tyX0_ok nmX0 hown hK hP hD hS 2 rfl rfl 3 (by decide) (va_Nw.use rfl (nF_23 hN)) (fun _ h9 => h9) rfl (tyX0_ok 3 (by decide)) rfl rfl (Nat.le_of_ble_eq_true rfl) dX1_readYear_95 (fun H locs hP hD hS => ?_)
          have hP : va_P E.1 vwCl (W_X1_readYear E a_t a_bytes a_trial a_trial_ponds a_trial_kinds a_trial_weights a_trial_cells a_trial_faces a_trial_pledges (v4.2) c_bytes (upd c_trial 3 ((v4.2) 6))) H := hP
          have hD : va_D A (W_X1_readYear E a_t a_bytes a_trial a_trial_ponds a_trial_kinds a_trial_weights a_trial_cells a_trial_faces a_trial_pledges (v4.2) c_bytes (upd c_trial 3 ((v4.2) 6))) := hD
          refine lv_iconst (v := (1 : Int32)) hx hb dX1_readYear_98 (by decide) ?_
          obtain rfl := Option.some.inj h
          exact ret_z X dX1_readYear_99 (by decide) hP hD hS rfl
        · have h := if_t h hc82
          refine lv_iconst (v := (0 : Int32)) hx hb dX1_readYear_85 (by decide) ?_
          obtain rfl := Option.some.inj h
          exact ret_z X dX1_readYear_86 (by decide) hP hD hS rfl
    · have h := if_f h hc39
      refine lv_aload_n hx hb dX1_readYear_42 rfl (lv_at hl 0 rfl) ?_
      refine lv_iconst (v := (0 : Int32)) hx hb dX1_readYear_43 (by decide) ?_
      refine lv_iconst (v := (1 : Int32)) hx hb dX1_readYear_44 (by decide) ?_
      obtain ⟨v5, hv5, h⟩ := bind_of h
      refine after_i X (run_V X (c_X1_readNumber l E a_t a_bytes a_trial (0 : Int32) (1 : Int32) c_t c_bytes H.size v5 hv5) (cwV 2 hts gX1_readYear_X1_readNumber rfl rfl rfl hV_X1_readNumber ⟨(Nat.le_of_ble_eq_true rfl), (Nat.le_of_ble_eq_true rfl)⟩) hP hD hS [0, 1] rfl rfl hl.1 (ci := 1) rfl rfl rfl (rest := []) rfl rfl (Nat.le_of_ble_eq_true rfl) dX1_readYear_45) hP hD hS [0, 1] rfl (ws1 := (W_X1_readYear E a_t a_bytes a_trial a_trial_ponds a_trial_kinds a_trial_weights a_trial_cells a_trial_faces a_trial_pledges (v5.2) c_bytes c_trial)) rfl (fun H locs hP hD hS => ?_)
      refine lv_if_ne (tgt := 53) hx hb dX1_readYear_48 (by decide) (fun hc48 => ?_) (fun hc48 => ?_)
      · have h := if_f h hc48
        refine lv_aload_n hx hb dX1_readYear_53 rfl (lv_at hl 0 rfl) ?_
        refine va_get (D := E.1) (ci := 1) (v := .ref a_trial) (C := RX1) (T := TX1) (N := 7) hx hb hts iX1_readYear_X1 hown hK hP 0 rfl rfl 0 (by decide) (hts (.fieldLink RX1 31 "LeftIsAgreedOn$Reader" "trial" "LLeftIsAgreedOn$Island;") (List.mem_of_getElem? (i := 1) rfl)) (fun _ h9 => h9) rfl dX1_readYear_54 ?_
        refine lv_aload_n hx hb dX1_readYear_57 rfl (lv_at hl 0 rfl) ?_
        refine va_get (D := E.1) (ci := 1) (v := .int ((v5.2) 6)) (C := RX1) (T := TX1) (N := 7) hx hb hts iX1_readYear_X1 hown hK hP 0 rfl rfl 6 (by decide) (hts (.fieldLink RX1 28 "LeftIsAgreedOn$Reader" "value" "I") (List.mem_of_getElem? (i := 2) rfl)) (fun _ h9 => h9) rfl dX1_readYear_58 ?_
        refine va_putN (D := E.1) (ci := 0) (v := .int ((v5.2) 6)) (ty := .int) (C := RX0) (T := TX0) (N := 14) hx hb hts iX1_readYear_X0 tyX0 tyX0_ok nmX0 hown hK hP hD hS 2 rfl rfl 2 (by decide) (va_Nw.use rfl (nF_22 hN)) (fun _ h9 => h9) rfl (tyX0_ok 2 (by decide)) rfl rfl (Nat.le_of_ble_eq_true rfl) dX1_readYear_61 (fun H locs hP hD hS => ?_)
        have hP : va_P E.1 vwCl (W_X1_readYear E a_t a_bytes a_trial a_trial_ponds a_trial_kinds a_trial_weights a_trial_cells a_trial_faces a_trial_pledges (v5.2) c_bytes (upd c_trial 2 ((v5.2) 6))) H := hP
        have hD : va_D A (W_X1_readYear E a_t a_bytes a_trial a_trial_ponds a_trial_kinds a_trial_weights a_trial_cells a_trial_faces a_trial_pledges (v5.2) c_bytes (upd c_trial 2 ((v5.2) 6))) := hD
        refine lv_iconst (v := (1 : Int32)) hx hb dX1_readYear_64 (by decide) ?_
        obtain rfl := Option.some.inj h
        exact ret_z X dX1_readYear_65 (by decide) hP hD hS rfl
      · have h := if_t h hc48
        refine lv_iconst (v := (0 : Int32)) hx hb dX1_readYear_51 (by decide) ?_
        obtain rfl := Option.some.inj h
        exact ret_z X dX1_readYear_52 (by decide) hP hD hS rfl
  · have h := if_f h hc6
    refine lv_aload_n hx hb dX1_readYear_9 rfl (lv_at hl 0 rfl) ?_
    refine lv_iconst (v := (0 : Int32)) hx hb dX1_readYear_10 (by decide) ?_
    refine lv_iconst (v := (1 : Int32)) hx hb dX1_readYear_11 (by decide) ?_
    obtain ⟨v6, hv6, h⟩ := bind_of h
    refine after_i X (run_V X (c_X1_readNumber l E a_t a_bytes a_trial (0 : Int32) (1 : Int32) c_t c_bytes H.size v6 hv6) (cwV 2 hts gX1_readYear_X1_readNumber rfl rfl rfl hV_X1_readNumber ⟨(Nat.le_of_ble_eq_true rfl), (Nat.le_of_ble_eq_true rfl)⟩) hP hD hS [0, 1] rfl rfl hl.1 (ci := 1) rfl rfl rfl (rest := []) rfl rfl (Nat.le_of_ble_eq_true rfl) dX1_readYear_12) hP hD hS [0, 1] rfl (ws1 := (W_X1_readYear E a_t a_bytes a_trial a_trial_ponds a_trial_kinds a_trial_weights a_trial_cells a_trial_faces a_trial_pledges (v6.2) c_bytes c_trial)) rfl (fun H locs hP hD hS => ?_)
    refine lv_if_ne (tgt := 20) hx hb dX1_readYear_15 (by decide) (fun hc15 => ?_) (fun hc15 => ?_)
    · have h := if_f h hc15
      refine lv_aload_n hx hb dX1_readYear_20 rfl (lv_at hl 0 rfl) ?_
      refine va_get (D := E.1) (ci := 1) (v := .ref a_trial) (C := RX1) (T := TX1) (N := 7) hx hb hts iX1_readYear_X1 hown hK hP 0 rfl rfl 0 (by decide) (hts (.fieldLink RX1 31 "LeftIsAgreedOn$Reader" "trial" "LLeftIsAgreedOn$Island;") (List.mem_of_getElem? (i := 1) rfl)) (fun _ h9 => h9) rfl dX1_readYear_21 ?_
      refine lv_aload_n hx hb dX1_readYear_24 rfl (lv_at hl 0 rfl) ?_
      refine va_get (D := E.1) (ci := 1) (v := .int ((v6.2) 6)) (C := RX1) (T := TX1) (N := 7) hx hb hts iX1_readYear_X1 hown hK hP 0 rfl rfl 6 (by decide) (hts (.fieldLink RX1 28 "LeftIsAgreedOn$Reader" "value" "I") (List.mem_of_getElem? (i := 2) rfl)) (fun _ h9 => h9) rfl dX1_readYear_25 ?_
      refine va_putN (D := E.1) (ci := 0) (v := .int ((v6.2) 6)) (ty := .int) (C := RX0) (T := TX0) (N := 14) hx hb hts iX1_readYear_X0 tyX0 tyX0_ok nmX0 hown hK hP hD hS 2 rfl rfl 1 (by decide) (va_Nw.use rfl (nF_21 hN)) (fun _ h9 => h9) rfl (tyX0_ok 1 (by decide)) rfl rfl (Nat.le_of_ble_eq_true rfl) dX1_readYear_28 (fun H locs hP hD hS => ?_)
      have hP : va_P E.1 vwCl (W_X1_readYear E a_t a_bytes a_trial a_trial_ponds a_trial_kinds a_trial_weights a_trial_cells a_trial_faces a_trial_pledges (v6.2) c_bytes (upd c_trial 1 ((v6.2) 6))) H := hP
      have hD : va_D A (W_X1_readYear E a_t a_bytes a_trial a_trial_ponds a_trial_kinds a_trial_weights a_trial_cells a_trial_faces a_trial_pledges (v6.2) c_bytes (upd c_trial 1 ((v6.2) 6))) := hD
      refine lv_iconst (v := (1 : Int32)) hx hb dX1_readYear_31 (by decide) ?_
      obtain rfl := Option.some.inj h
      exact ret_z X dX1_readYear_32 (by decide) hP hD hS rfl
    · have h := if_t h hc15
      refine lv_iconst (v := (0 : Int32)) hx hb dX1_readYear_18 (by decide) ?_
      obtain rfl := Option.some.inj h
      exact ret_z X dX1_readYear_19 (by decide) hP hD hS rfl
end
set_option maxRecDepth 100000 in
theorem c_X1_readYear (l : Launch) (E : Env0) (a_t : Nat) (a_bytes : Nat) (a_trial : Nat) (a_trial_ponds : Nat) (a_trial_kinds : Nat) (a_trial_weights : Nat) (a_trial_cells : Nat) (a_trial_faces : Nat) (a_trial_pledges : Nat) (c_t : Nat → Int32) (c_bytes : Nat → Int32) (c_trial : Nat → Int32) (sz : Nat) (res : Int32 × (Nat → Int32) × (Nat → Int32)) (h : f_X1_readYear c_t c_bytes c_trial = some res) : Met l yX1_readYear wsX1_readYear r_X1_readYear (cPre E [.ref a_t] (W_X1_readYear E a_t a_bytes a_trial a_trial_ponds a_trial_kinds a_trial_weights a_trial_cells a_trial_faces a_trial_pledges c_t c_bytes c_trial) sz) (qI E (va_A (W_X1_readYear E a_t a_bytes a_trial a_trial_ponds a_trial_kinds a_trial_weights a_trial_cells a_trial_faces a_trial_pledges c_t c_bytes c_trial) sz) (res.1) (W_X1_readYear E a_t a_bytes a_trial a_trial_ponds a_trial_kinds a_trial_weights a_trial_cells a_trial_faces a_trial_pledges (res.2.1) c_bytes (res.2.2))) 0 0 (va_A (W_X1_readYear E a_t a_bytes a_trial a_trial_ponds a_trial_kinds a_trial_weights a_trial_cells a_trial_faces a_trial_pledges c_t c_bytes c_trial) sz) :=
  met_of (Qc := fun A => qI E A (res.1) (W_X1_readYear E a_t a_bytes a_trial a_trial_ponds a_trial_kinds a_trial_weights a_trial_cells a_trial_faces a_trial_pledges (res.2.1) c_bytes (res.2.2))) (by decide) rfl (Nat.le_of_ble_eq_true rfl) (fun p e s m args below meth c X hP hD hS ls hl => w_X1_readYear X a_t a_bytes a_trial a_trial_ponds a_trial_kinds a_trial_weights a_trial_cells a_trial_faces a_trial_pledges c_bytes res c_t c_trial ls _ _ h hP hD hS hl)
-- ===== X1_readStatement
noncomputable abbrev W_X1_readStatement (E : Env0) (a_t : Nat) (a_bytes : Nat) (a_trial : Nat) (a_trial_cells : Nat) (a_trial_faces : Nat) (a_trial_kinds : Nat) (a_trial_pledges : Nat) (a_trial_ponds : Nat) (a_trial_weights : Nat) (c_t : Nat → Int32) (c_bytes : Nat → Int32) (c_trial : Nat → Int32) (c_trial_cells : Nat → Int32) (c_trial_faces : Nat → Int32) (c_trial_kinds : Nat → Int32) (c_trial_pledges : Nat → Int32) (c_trial_ponds : Nat → Int32) (c_trial_weights : Nat → Int32) : va_W := [(a_t, .inr (1, [.ref a_trial, .ref a_bytes, .int (c_t 2), .int (c_t 3), .int (c_t 4), .int (c_t 5), .int (c_t 6)])), (a_bytes, .inl (eI E, 250, .inl c_bytes)), (a_trial, .inr (0, [.int (c_trial 0), .int (c_trial 1), .int (c_trial 2), .int (c_trial 3), .int (c_trial 4), .int (c_trial 5), .int (c_trial 6), .int (c_trial 7), .ref a_trial_ponds, .ref a_trial_kinds, .ref a_trial_weights, .ref a_trial_cells, .ref a_trial_faces, .ref a_trial_pledges])), (a_trial_cells, .inl (eI E, 8, .inl c_trial_cells)), (a_trial_faces, .inl (eI E, 8, .inl c_trial_faces)), (a_trial_kinds, .inl (eI E, 8, .inl c_trial_kinds)), (a_trial_pledges, .inl (eI E, 8, .inl c_trial_pledges)), (a_trial_ponds, .inl (eZ E, 70, .inl c_trial_ponds)), (a_trial_weights, .inl (eI E, 8, .inl c_trial_weights))]
noncomputable abbrev r_X1_readStatement : Room := { frames := 6, cells := 0, slots := 0, locals := 127 }
theorem hd_X1_readStatement : yX1_readStatement.cls ≠ "java/lang/invoke/MethodHandle" ∧ yX1_readStatement.cls ≠ "java/lang/invoke/VarHandle" ∧ (parseMethodDescriptor yX1_readStatement.desc).map (fun d => d.parameters.length) = some 0 := by decide +kernel
theorem hV_X1_readStatement : yX1_readStatement.cls = RX1 ∧ yX1_readStatement.cls ≠ "java/lang/invoke/MethodHandle" ∧ yX1_readStatement.cls ≠ "java/lang/invoke/VarHandle" ∧ (parseMethodDescriptor yX1_readStatement.desc).map (fun d => d.parameters.length) = some 0 := ⟨rfl, hd_X1_readStatement⟩
theorem iX1_readStatement_X1 : ∀ w ∈ wsX10, w ∈ wsX1_readStatement := fun _ h => List.mem_cons_of_mem _ (List.mem_append_left _ (List.mem_append_right _ (h)))
section
variable {p : Program} {l : Launch} {e : Env} {s : State} {m : MethodId} {args : Array Value} {below : List Frame} {meth : Method} {c : Code} {E : Env0} {A : Nat → Prop}
set_option maxRecDepth 100000 in
set_option maxHeartbeats 4000000 in
theorem w_X1_readStatement (X : Ctx p m meth c cX1_readStatement 1 ((some .boolean)) s args wsX1_readStatement RX1 E A) (a_t : Nat) (a_bytes : Nat) (a_trial : Nat) (a_trial_cells : Nat) (a_trial_faces : Nat) (a_trial_kinds : Nat) (a_trial_pledges : Nat) (a_trial_ponds : Nat) (a_trial_weights : Nat) (c_bytes : Nat → Int32) (res : Int32 × (Nat → Int32) × (Nat → Int32) × (Nat → Int32) × (Nat → Int32) × (Nat → Int32) × (Nat → Int32) × (Nat → Int32) × (Nat → Int32)) (c_t : Nat → Int32) (c_trial : Nat → Int32) (c_trial_cells : Nat → Int32) (c_trial_faces : Nat → Int32) (c_trial_kinds : Nat → Int32) (c_trial_pledges : Nat → Int32) (c_trial_ponds : Nat → Int32) (c_trial_weights : Nat → Int32) (ls : Array Slot) (H : Heap) (locs : List Loc) (h : f_X1_readStatement c_t c_bytes c_trial c_trial_cells c_trial_faces c_trial_kinds c_trial_pledges c_trial_ponds c_trial_weights = some res) (hP : va_P E.1 vwCl (W_X1_readStatement E a_t a_bytes a_trial a_trial_cells a_trial_faces a_trial_kinds a_trial_pledges a_trial_ponds a_trial_weights c_t c_bytes c_trial c_trial_cells c_trial_faces c_trial_kinds c_trial_pledges c_trial_ponds c_trial_weights) H) (hD : va_D A (W_X1_readStatement E a_t a_bytes a_trial a_trial_cells a_trial_faces a_trial_kinds a_trial_pledges a_trial_ponds a_trial_weights c_t c_bytes c_trial c_trial_cells c_trial_faces c_trial_kinds c_trial_pledges c_trial_ponds c_trial_weights)) (hS : va_S A s.heap H locs) (hl : lv_has ls 1 [(0, .ref a_t)]) : W p l e r_X1_readStatement s m args below meth c H locs 0 0 (MQ below (qI E A (res.1) (W_X1_readStatement E a_t a_bytes a_trial a_trial_cells a_trial_faces a_trial_kinds a_trial_pledges a_trial_ponds a_trial_weights (res.2.1) c_bytes (res.2.2.1) (res.2.2.2.1) (res.2.2.2.2.1) (res.2.2.2.2.2.1) (res.2.2.2.2.2.2.1) (res.2.2.2.2.2.2.2.1) (res.2.2.2.2.2.2.2.2))) args s 0 0 A) (F0 m 0 ls []) := by
  obtain ⟨hx, hb, hml, hr, hlk, hown, hts, hG, hA⟩ := id X
  have hK := hG.1
  have hN := hG.2.1
  unfold f_X1_readStatement at h
  refine lv_aload_n hx hb dX1_readStatement_0 rfl (lv_at hl 0 rfl) ?_
  obtain ⟨v1, hv1, h⟩ := bind_of h
  refine after_v X (run_V X (c_X1_nextToken l E a_t a_bytes a_trial c_t c_bytes H.size v1 hv1) (cwV 0 hts gX1_readStatement_X1_nextToken rfl rfl rfl hV_X1_nextToken ⟨(Nat.le_of_ble_eq_true rfl), (Nat.le_of_ble_eq_true rfl)⟩) hP hD hS [0, 1] rfl rfl hl.1 (ci := 1) rfl rfl rfl (rest := []) rfl rfl (Nat.le_of_ble_eq_true rfl) dX1_readStatement_1) hP hD hS [0, 1] rfl (ws1 := (W_X1_readStatement E a_t a_bytes a_trial a_trial_cells a_trial_faces a_trial_kinds a_trial_pledges a_trial_ponds a_trial_weights v1 c_bytes c_trial c_trial_cells c_trial_faces c_trial_kinds c_trial_pledges c_trial_ponds c_trial_weights)) rfl (fun H locs hP hD hS => ?_)
  refine lv_aload_n hx hb dX1_readStatement_4 rfl (lv_at hl 0 rfl) ?_
  refine va_get (D := E.1) (ci := 1) (v := .int (v1 4)) (C := RX1) (T := TX1) (N := 7) hx hb hts iX1_readStatement_X1 hown hK hP 0 rfl rfl 4 (by decide) (hts (.fieldLink RX1 22 "LeftIsAgreedOn$Reader" "token" "I") (List.mem_of_getElem? (i := 1) rfl)) (fun _ h9 => h9) rfl dX1_readStatement_5 ?_
  refine lv_iconst (v := (1 : Int32)) hx hb dX1_readStatement_8 (by decide) ?_
  refine lv_icmp_eq (tgt := 14) hx hb dX1_readStatement_9 (by decide) (fun hc9 => ?_) (fun hc9 => ?_)
  · have h := if_t h hc9
    refine lv_aload_n hx hb dX1_readStatement_14 rfl (lv_at hl 0 rfl) ?_
    refine va_ldcS hx hb hown (hG.2.2.2.2.1 _ (List.mem_of_getElem? (i := 0) rfl)) dX1_readStatement_15 ?_
    obtain ⟨v2, hv2, h⟩ := bind_of h
    refine after_i X (run_V X (c_X1_isWord l E a_t a_bytes a_trial 0 v1 c_bytes H.size v2 hv2) (cwV 1 hts gX1_readStatement_X1_isWord rfl rfl rfl hV_X1_isWord ⟨(Nat.le_of_ble_eq_true rfl), (Nat.le_of_ble_eq_true rfl)⟩) hP hD hS [0, 1] rfl rfl hl.1 (ci := 1) rfl rfl rfl (rest := []) rfl rfl (Nat.le_of_ble_eq_true rfl) dX1_readStatement_17) hP hD hS [0, 1] rfl (ws1 := (W_X1_readStatement E a_t a_bytes a_trial a_trial_cells a_trial_faces a_trial_kinds a_trial_pledges a_trial_ponds a_trial_weights v1 c_bytes c_trial c_trial_cells c_trial_faces c_trial_kinds c_trial_pledges c_trial_ponds c_trial_weights)) rfl (fun H locs hP hD hS => ?_)
    refine lv_if_eq (tgt := 28) hx hb dX1_readStatement_20 (by decide) (fun hc20 => ?_) (fun hc20 => ?_)
    · have h := if_t h hc20
      refine lv_aload_n hx hb dX1_readStatement_28 rfl (lv_at hl 0 rfl) ?_
      refine va_ldcS hx hb hown (hG.2.2.2.2.1 _ (List.mem_of_getElem? (i := 1) rfl)) dX1_readStatement_29 ?_
      obtain ⟨v3, hv3, h⟩ := bind_of h
      refine after_i X (run_V X (c_X1_isWord l E a_t a_bytes a_trial 1 v1 c_bytes H.size v3 hv3) (cwV 1 hts gX1_readStatement_X1_isWord rfl rfl rfl hV_X1_isWord ⟨(Nat.le_of_ble_eq_true rfl), (Nat.le_of_ble_eq_true rfl)⟩) hP hD hS [0, 1] rfl rfl hl.1 (ci := 1) rfl rfl rfl (rest := []) rfl rfl (Nat.le_of_ble_eq_true rfl) dX1_readStatement_31) hP hD hS [0, 1] rfl (ws1 := (W_X1_readStatement E a_t a_bytes a_trial a_trial_cells a_trial_faces a_trial_kinds a_trial_pledges a_trial_ponds a_trial_weights v1 c_bytes c_trial c_trial_cells c_trial_faces c_trial_kinds c_trial_pledges c_trial_ponds c_trial_weights)) rfl (fun H locs hP hD hS => ?_)
      refine lv_if_eq (tgt := 42) hx hb dX1_readStatement_34 (by decide) (fun hc34 => ?_) (fun hc34 => ?_)
      · have h := if_t h hc34
        refine lv_aload_n hx hb dX1_readStatement_42 rfl (lv_at hl 0 rfl) ?_
        refine va_ldcS hx hb hown (hG.2.2.2.2.1 _ (List.mem_of_getElem? (i := 2) rfl)) dX1_readStatement_43 ?_
        obtain ⟨v4, hv4, h⟩ := bind_of h
        refine after_i X (run_V X (c_X1_isWord l E a_t a_bytes a_trial 2 v1 c_bytes H.size v4 hv4) (cwV 1 hts gX1_readStatement_X1_isWord rfl rfl rfl hV_X1_isWord ⟨(Nat.le_of_ble_eq_true rfl), (Nat.le_of_ble_eq_true rfl)⟩) hP hD hS [0, 1] rfl rfl hl.1 (ci := 1) rfl rfl rfl (rest := []) rfl rfl (Nat.le_of_ble_eq_true rfl) dX1_readStatement_45) hP hD hS [0, 1] rfl (ws1 := (W_X1_readStatement E a_t a_bytes a_trial a_trial_cells a_trial_faces a_trial_kinds a_trial_pledges a_trial_ponds a_trial_weights v1 c_bytes c_trial c_trial_cells c_trial_faces c_trial_kinds c_trial_pledges c_trial_ponds c_trial_weights)) rfl (fun H locs hP hD hS => ?_)
        refine lv_if_eq (tgt := 56) hx hb dX1_readStatement_48 (by decide) (fun hc48 => ?_) (fun hc48 => ?_)
        · have h := if_t h hc48
          refine lv_aload_n hx hb dX1_readStatement_56 rfl (lv_at hl 0 rfl) ?_
          refine va_ldcS hx hb hown (hG.2.2.2.2.1 _ (List.mem_of_getElem? (i := 3) rfl)) dX1_readStatement_57 ?_
          obtain ⟨v5, hv5, h⟩ := bind_of h
          refine after_i X (run_V X (c_X1_isWord l E a_t a_bytes a_trial 3 v1 c_bytes H.size v5 hv5) (cwV 1 hts gX1_readStatement_X1_isWord rfl rfl rfl hV_X1_isWord ⟨(Nat.le_of_ble_eq_true rfl), (Nat.le_of_ble_eq_true rfl)⟩) hP hD hS [0, 1] rfl rfl hl.1 (ci := 1) rfl rfl rfl (rest := []) rfl rfl (Nat.le_of_ble_eq_true rfl) dX1_readStatement_59) hP hD hS [0, 1] rfl (ws1 := (W_X1_readStatement E a_t a_bytes a_trial a_trial_cells a_trial_faces a_trial_kinds a_trial_pledges a_trial_ponds a_trial_weights v1 c_bytes c_trial c_trial_cells c_trial_faces c_trial_kinds c_trial_pledges c_trial_ponds c_trial_weights)) rfl (fun H locs hP hD hS => ?_)
          refine lv_if_eq (tgt := 70) hx hb dX1_readStatement_62 (by decide) (fun hc62 => ?_) (fun hc62 => ?_)
          · have h := if_t h hc62
            refine lv_aload_n hx hb dX1_readStatement_70 rfl (lv_at hl 0 rfl) ?_
            refine va_ldcS hx hb hown (hG.2.2.2.2.1 _ (List.mem_of_getElem? (i := 4) rfl)) dX1_readStatement_71 ?_
            obtain ⟨v6, hv6, h⟩ := bind_of h
            refine after_i X (run_V X (c_X1_isWord l E a_t a_bytes a_trial 4 v1 c_bytes H.size v6 hv6) (cwV 1 hts gX1_readStatement_X1_isWord rfl rfl rfl hV_X1_isWord ⟨(Nat.le_of_ble_eq_true rfl), (Nat.le_of_ble_eq_true rfl)⟩) hP hD hS [0, 1] rfl rfl hl.1 (ci := 1) rfl rfl rfl (rest := []) rfl rfl (Nat.le_of_ble_eq_true rfl) dX1_readStatement_73) hP hD hS [0, 1] rfl (ws1 := (W_X1_readStatement E a_t a_bytes a_trial a_trial_cells a_trial_faces a_trial_kinds a_trial_pledges a_trial_ponds a_trial_weights v1 c_bytes c_trial c_trial_cells c_trial_faces c_trial_kinds c_trial_pledges c_trial_ponds c_trial_weights)) rfl (fun H locs hP hD hS => ?_)
            refine lv_if_eq (tgt := 84) hx hb dX1_readStatement_76 (by decide) (fun hc76 => ?_) (fun hc76 => ?_)
            · have h := if_t h hc76
              refine lv_aload_n hx hb dX1_readStatement_84 rfl (lv_at hl 0 rfl) ?_
              obtain ⟨v7, hv7, h⟩ := bind_of h
              refine after_i X (run_V X (c_X1_readYear l E a_t a_bytes a_trial a_trial_ponds a_trial_kinds a_trial_weights a_trial_cells a_trial_faces a_trial_pledges v1 c_bytes c_trial H.size v7 hv7) (cwV 0 hts gX1_readStatement_X1_readYear rfl rfl rfl hV_X1_readYear ⟨(Nat.le_of_ble_eq_true rfl), (Nat.le_of_ble_eq_true rfl)⟩) hP hD hS [0, 1, 2] rfl rfl hl.1 (ci := 1) rfl rfl rfl (rest := []) rfl rfl (Nat.le_of_ble_eq_true rfl) dX1_readStatement_85) hP hD hS [0, 1, 2] rfl (ws1 := (W_X1_readStatement E a_t a_bytes a_trial a_trial_cells a_trial_faces a_trial_kinds a_trial_pledges a_trial_ponds a_trial_weights (v7.2.1) c_bytes (v7.2.2) c_trial_cells c_trial_faces c_trial_kinds c_trial_pledges c_trial_ponds c_trial_weights)) rfl (fun H locs hP hD hS => ?_)
              obtain ⟨hz88, h⟩ := chk_of h
              obtain rfl := Option.some.inj h
              exact ret_z X dX1_readStatement_88 hz88 hP hD hS rfl
            · have h := if_f h hc76
              refine lv_aload_n hx hb dX1_readStatement_79 rfl (lv_at hl 0 rfl) ?_
              obtain ⟨v8, hv8, h⟩ := bind_of h
              refine after_i X (run_V X (c_X1_readIs l E a_t a_bytes a_trial a_trial_pledges a_trial_ponds a_trial_kinds a_trial_weights a_trial_cells a_trial_faces v1 c_bytes c_trial c_trial_pledges H.size v8 hv8) (cwV 0 hts gX1_readStatement_X1_readIs rfl rfl rfl hV_X1_readIs ⟨(Nat.le_of_ble_eq_true rfl), (Nat.le_of_ble_eq_true rfl)⟩) hP hD hS [0, 1, 2, 6] rfl rfl hl.1 (ci := 1) rfl rfl rfl (rest := []) rfl rfl (Nat.le_of_ble_eq_true rfl) dX1_readStatement_80) hP hD hS [0, 1, 2, 6] rfl (ws1 := (W_X1_readStatement E a_t a_bytes a_trial a_trial_cells a_trial_faces a_trial_kinds a_trial_pledges a_trial_ponds a_trial_weights (v8.2.1) c_bytes c_trial c_trial_cells c_trial_faces c_trial_kinds (v8.2.2) c_trial_ponds c_trial_weights)) rfl (fun H locs hP hD hS => ?_)
              obtain ⟨hz83, h⟩ := chk_of h
              obtain rfl := Option.some.inj h
              exact ret_z X dX1_readStatement_83 hz83 hP hD hS rfl
          · have h := if_f h hc62
            refine lv_aload_n hx hb dX1_readStatement_65 rfl (lv_at hl 0 rfl) ?_
            obtain ⟨v9, hv9, h⟩ := bind_of h
            refine after_i X (run_V X (c_X1_readPerson l E a_t a_bytes a_trial a_trial_cells a_trial_faces a_trial_kinds a_trial_pledges a_trial_ponds a_trial_weights v1 c_bytes c_trial c_trial_cells c_trial_faces c_trial_kinds c_trial_pledges c_trial_ponds c_trial_weights H.size v9 hv9) (cwV 0 hts gX1_readStatement_X1_readPerson rfl rfl rfl hV_X1_readPerson ⟨(Nat.le_of_ble_eq_true rfl), (Nat.le_of_ble_eq_true rfl)⟩) hP hD hS [0, 1, 2, 3, 4, 5, 6, 7, 8] rfl rfl hl.1 (ci := 1) rfl rfl rfl (rest := []) rfl rfl (Nat.le_of_ble_eq_true rfl) dX1_readStatement_66) hP hD hS [0, 1, 2, 3, 4, 5, 6, 7, 8] rfl (ws1 := (W_X1_readStatement E a_t a_bytes a_trial a_trial_cells a_trial_faces a_trial_kinds a_trial_pledges a_trial_ponds a_trial_weights (v9.2.1) c_bytes (v9.2.2.1) (v9.2.2.2.1) (v9.2.2.2.2.1) (v9.2.2.2.2.2.1) (v9.2.2.2.2.2.2.1) c_trial_ponds (v9.2.2.2.2.2.2.2))) rfl (fun H locs hP hD hS => ?_)
            obtain ⟨hz69, h⟩ := chk_of h
            obtain rfl := Option.some.inj h
            exact ret_z X dX1_readStatement_69 hz69 hP hD hS rfl
        · have h := if_f h hc48
          refine lv_aload_n hx hb dX1_readStatement_51 rfl (lv_at hl 0 rfl) ?_
          obtain ⟨v10, hv10, h⟩ := bind_of h
          refine after_i X (run_V X (c_X1_readDry l E a_t a_bytes a_trial a_trial_ponds a_trial_kinds a_trial_weights a_trial_cells a_trial_faces a_trial_pledges v1 c_bytes c_trial c_trial_ponds H.size v10 hv10) (cwV 0 hts gX1_readStatement_X1_readDry rfl rfl rfl hV_X1_readDry ⟨(Nat.le_of_ble_eq_true rfl), (Nat.le_of_ble_eq_true rfl)⟩) hP hD hS [0, 1, 2, 7] rfl rfl hl.1 (ci := 1) rfl rfl rfl (rest := []) rfl rfl (Nat.le_of_ble_eq_true rfl) dX1_readStatement_52) hP hD hS [0, 1, 2, 7] rfl (ws1 := (W_X1_readStatement E a_t a_bytes a_trial a_trial_cells a_trial_faces a_trial_kinds a_trial_pledges a_trial_ponds a_trial_weights (v10.2.1) c_bytes c_trial c_trial_cells c_trial_faces c_trial_kinds c_trial_pledges (v10.2.2) c_trial_weights)) rfl (fun H locs hP hD hS => ?_)
          obtain ⟨hz55, h⟩ := chk_of h
          obtain rfl := Option.some.inj h
          exact ret_z X dX1_readStatement_55 hz55 hP hD hS rfl
      · have h := if_f h hc34
        refine lv_aload_n hx hb dX1_readStatement_37 rfl (lv_at hl 0 rfl) ?_
        obtain ⟨v11, hv11, h⟩ := bind_of h
        refine after_i X (run_V X (c_X1_readPond l E a_t a_bytes a_trial a_trial_cells a_trial_ponds a_trial_kinds a_trial_weights a_trial_faces a_trial_pledges v1 c_bytes c_trial c_trial_cells c_trial_ponds H.size v11 hv11) (cwV 0 hts gX1_readStatement_X1_readPond rfl rfl rfl hV_X1_readPond ⟨(Nat.le_of_ble_eq_true rfl), (Nat.le_of_ble_eq_true rfl)⟩) hP hD hS [0, 1, 2, 3, 7] rfl rfl hl.1 (ci := 1) rfl rfl rfl (rest := []) rfl rfl (Nat.le_of_ble_eq_true rfl) dX1_readStatement_38) hP hD hS [0, 1, 2, 3, 7] rfl (ws1 := (W_X1_readStatement E a_t a_bytes a_trial a_trial_cells a_trial_faces a_trial_kinds a_trial_pledges a_trial_ponds a_trial_weights (v11.2.1) c_bytes c_trial c_trial_cells c_trial_faces c_trial_kinds c_trial_pledges (v11.2.2) c_trial_weights)) rfl (fun H locs hP hD hS => ?_)
        obtain ⟨hz41, h⟩ := chk_of h
        obtain rfl := Option.some.inj h
        exact ret_z X dX1_readStatement_41 hz41 hP hD hS rfl
    · have h := if_f h hc20
      refine lv_aload_n hx hb dX1_readStatement_23 rfl (lv_at hl 0 rfl) ?_
      obtain ⟨v12, hv12, h⟩ := bind_of h
      refine after_i X (run_V X (c_X1_readSide l E a_t a_bytes a_trial a_trial_ponds a_trial_kinds a_trial_weights a_trial_cells a_trial_faces a_trial_pledges v1 c_bytes c_trial H.size v12 hv12) (cwV 0 hts gX1_readStatement_X1_readSide rfl rfl rfl hV_X1_readSide ⟨(Nat.le_of_ble_eq_true rfl), (Nat.le_of_ble_eq_true rfl)⟩) hP hD hS [0, 1, 2] rfl rfl hl.1 (ci := 1) rfl rfl rfl (rest := []) rfl rfl (Nat.le_of_ble_eq_true rfl) dX1_readStatement_24) hP hD hS [0, 1, 2] rfl (ws1 := (W_X1_readStatement E a_t a_bytes a_trial a_trial_cells a_trial_faces a_trial_kinds a_trial_pledges a_trial_ponds a_trial_weights (v12.2.1) c_bytes (v12.2.2) c_trial_cells c_trial_faces c_trial_kinds c_trial_pledges c_trial_ponds c_trial_weights)) rfl (fun H locs hP hD hS => ?_)
      obtain ⟨hz27, h⟩ := chk_of h
      obtain rfl := Option.some.inj h
      exact ret_z X dX1_readStatement_27 hz27 hP hD hS rfl
  · have h := if_f h hc9
    refine lv_iconst (v := (0 : Int32)) hx hb dX1_readStatement_12 (by decide) ?_
    obtain rfl := Option.some.inj h
    exact ret_z X dX1_readStatement_13 (by decide) hP hD hS rfl
end
set_option maxRecDepth 100000 in
theorem c_X1_readStatement (l : Launch) (E : Env0) (a_t : Nat) (a_bytes : Nat) (a_trial : Nat) (a_trial_cells : Nat) (a_trial_faces : Nat) (a_trial_kinds : Nat) (a_trial_pledges : Nat) (a_trial_ponds : Nat) (a_trial_weights : Nat) (c_t : Nat → Int32) (c_bytes : Nat → Int32) (c_trial : Nat → Int32) (c_trial_cells : Nat → Int32) (c_trial_faces : Nat → Int32) (c_trial_kinds : Nat → Int32) (c_trial_pledges : Nat → Int32) (c_trial_ponds : Nat → Int32) (c_trial_weights : Nat → Int32) (sz : Nat) (res : Int32 × (Nat → Int32) × (Nat → Int32) × (Nat → Int32) × (Nat → Int32) × (Nat → Int32) × (Nat → Int32) × (Nat → Int32) × (Nat → Int32)) (h : f_X1_readStatement c_t c_bytes c_trial c_trial_cells c_trial_faces c_trial_kinds c_trial_pledges c_trial_ponds c_trial_weights = some res) : Met l yX1_readStatement wsX1_readStatement r_X1_readStatement (cPre E [.ref a_t] (W_X1_readStatement E a_t a_bytes a_trial a_trial_cells a_trial_faces a_trial_kinds a_trial_pledges a_trial_ponds a_trial_weights c_t c_bytes c_trial c_trial_cells c_trial_faces c_trial_kinds c_trial_pledges c_trial_ponds c_trial_weights) sz) (qI E (va_A (W_X1_readStatement E a_t a_bytes a_trial a_trial_cells a_trial_faces a_trial_kinds a_trial_pledges a_trial_ponds a_trial_weights c_t c_bytes c_trial c_trial_cells c_trial_faces c_trial_kinds c_trial_pledges c_trial_ponds c_trial_weights) sz) (res.1) (W_X1_readStatement E a_t a_bytes a_trial a_trial_cells a_trial_faces a_trial_kinds a_trial_pledges a_trial_ponds a_trial_weights (res.2.1) c_bytes (res.2.2.1) (res.2.2.2.1) (res.2.2.2.2.1) (res.2.2.2.2.2.1) (res.2.2.2.2.2.2.1) (res.2.2.2.2.2.2.2.1) (res.2.2.2.2.2.2.2.2))) 0 0 (va_A (W_X1_readStatement E a_t a_bytes a_trial a_trial_cells a_trial_faces a_trial_kinds a_trial_pledges a_trial_ponds a_trial_weights c_t c_bytes c_trial c_trial_cells c_trial_faces c_trial_kinds c_trial_pledges c_trial_ponds c_trial_weights) sz) :=
  met_of (Qc := fun A => qI E A (res.1) (W_X1_readStatement E a_t a_bytes a_trial a_trial_cells a_trial_faces a_trial_kinds a_trial_pledges a_trial_ponds a_trial_weights (res.2.1) c_bytes (res.2.2.1) (res.2.2.2.1) (res.2.2.2.2.1) (res.2.2.2.2.2.1) (res.2.2.2.2.2.2.1) (res.2.2.2.2.2.2.2.1) (res.2.2.2.2.2.2.2.2))) (by decide) rfl (Nat.le_of_ble_eq_true rfl) (fun p e s m args below meth c X hP hD hS ls hl => w_X1_readStatement X a_t a_bytes a_trial a_trial_cells a_trial_faces a_trial_kinds a_trial_pledges a_trial_ponds a_trial_weights c_bytes res c_t c_trial c_trial_cells c_trial_faces c_trial_kinds c_trial_pledges c_trial_ponds c_trial_weights ls _ _ h hP hD hS hl)
-- ===== X1_readAll
noncomputable abbrev W_X1_readAll (E : Env0) (a_t : Nat) (a_bytes : Nat) (a_trial : Nat) (a_trial_cells : Nat) (a_trial_faces : Nat) (a_trial_kinds : Nat) (a_trial_pledges : Nat) (a_trial_ponds : Nat) (a_trial_weights : Nat) (c_t : Nat → Int32) (c_bytes : Nat → Int32) (c_trial : Nat → Int32) (c_trial_cells : Nat → Int32) (c_trial_faces : Nat → Int32) (c_trial_kinds : Nat → Int32) (c_trial_pledges : Nat → Int32) (c_trial_ponds : Nat → Int32) (c_trial_weights : Nat → Int32) : va_W := [(a_t, .inr (1, [.ref a_trial, .ref a_bytes, .int (c_t 2), .int (c_t 3), .int (c_t 4), .int (c_t 5), .int (c_t 6)])), (a_bytes, .inl (eI E, 250, .inl c_bytes)), (a_trial, .inr (0, [.int (c_trial 0), .int (c_trial 1), .int (c_trial 2), .int (c_trial 3), .int (c_trial 4), .int (c_trial 5), .int (c_trial 6), .int (c_trial 7), .ref a_trial_ponds, .ref a_trial_kinds, .ref a_trial_weights, .ref a_trial_cells, .ref a_trial_faces, .ref a_trial_pledges])), (a_trial_cells, .inl (eI E, 8, .inl c_trial_cells)), (a_trial_faces, .inl (eI E, 8, .inl c_trial_faces)), (a_trial_kinds, .inl (eI E, 8, .inl c_trial_kinds)), (a_trial_pledges, .inl (eI E, 8, .inl c_trial_pledges)), (a_trial_ponds, .inl (eZ E, 70, .inl c_trial_ponds)), (a_trial_weights, .inl (eI E, 8, .inl c_trial_weights))]
noncomputable abbrev r_X1_readAll : Room := { frames := 7, cells := 0, slots := 0, locals := 147 }
theorem hd_X1_readAll : yX1_readAll.cls ≠ "java/lang/invoke/MethodHandle" ∧ yX1_readAll.cls ≠ "java/lang/invoke/VarHandle" ∧ (parseMethodDescriptor yX1_readAll.desc).map (fun d => d.parameters.length) = some 0 := by decide +kernel
theorem hV_X1_readAll : yX1_readAll.cls = RX1 ∧ yX1_readAll.cls ≠ "java/lang/invoke/MethodHandle" ∧ yX1_readAll.cls ≠ "java/lang/invoke/VarHandle" ∧ (parseMethodDescriptor yX1_readAll.desc).map (fun d => d.parameters.length) = some 0 := ⟨rfl, hd_X1_readAll⟩
theorem iX1_readAll_X1 : ∀ w ∈ wsX10, w ∈ wsX1_readAll := fun _ h => List.mem_cons_of_mem _ (List.mem_append_left _ (List.mem_append_right _ (h)))
section
variable {p : Program} {l : Launch} {e : Env} {s : State} {m : MethodId} {args : Array Value} {below : List Frame} {meth : Method} {c : Code} {E : Env0} {A : Nat → Prop}
set_option maxRecDepth 100000 in
set_option maxHeartbeats 4000000 in
theorem w_X1_readAll_b54 (X : Ctx p m meth c cX1_readAll 2 ((some .int)) s args wsX1_readAll RX1 E A) (a_t : Nat) (a_bytes : Nat) (a_trial : Nat) (a_trial_cells : Nat) (a_trial_faces : Nat) (a_trial_kinds : Nat) (a_trial_pledges : Nat) (a_trial_ponds : Nat) (a_trial_weights : Nat) (c_bytes : Nat → Int32) (res : Int32 × (Nat → Int32) × (Nat → Int32) × (Nat → Int32) × (Nat → Int32) × (Nat → Int32) × (Nat → Int32) × (Nat → Int32) × (Nat → Int32)) (c_t : Nat → Int32) (c_trial : Nat → Int32) (c_trial_cells : Nat → Int32) (c_trial_faces : Nat → Int32) (c_trial_kinds : Nat → Int32) (c_trial_pledges : Nat → Int32) (c_trial_ponds : Nat → Int32) (c_trial_weights : Nat → Int32) (ls : Array Slot) (H : Heap) (locs : List Loc) (h : f_X1_readAll_b54 c_bytes c_t c_trial c_trial_cells c_trial_faces c_trial_kinds c_trial_pledges c_trial_ponds c_trial_weights = some res) (hP : va_P E.1 vwCl (W_X1_readAll E a_t a_bytes a_trial a_trial_cells a_trial_faces a_trial_kinds a_trial_pledges a_trial_ponds a_trial_weights c_t c_bytes c_trial c_trial_cells c_trial_faces c_trial_kinds c_trial_pledges c_trial_ponds c_trial_weights) H) (hD : va_D A (W_X1_readAll E a_t a_bytes a_trial a_trial_cells a_trial_faces a_trial_kinds a_trial_pledges a_trial_ponds a_trial_weights c_t c_bytes c_trial c_trial_cells c_trial_faces c_trial_kinds c_trial_pledges c_trial_ponds c_trial_weights)) (hS : va_S A s.heap H locs) (hl : lv_has ls 2 [(0, .ref a_t)]) : W p l e r_X1_readAll s m args below meth c H locs 0 0 (MQ below (qI E A (res.1) (W_X1_readAll E a_t a_bytes a_trial a_trial_cells a_trial_faces a_trial_kinds a_trial_pledges a_trial_ponds a_trial_weights (res.2.1) c_bytes (res.2.2.1) (res.2.2.2.1) (res.2.2.2.2.1) (res.2.2.2.2.2.1) (res.2.2.2.2.2.2.1) (res.2.2.2.2.2.2.2.1) (res.2.2.2.2.2.2.2.2))) args s 0 0 A) (F0 m 54 ls []) := by
  obtain ⟨hx, hb, hml, hr, hlk, hown, hts, hG, hA⟩ := id X
  have hK := hG.1
  have hN := hG.2.1
  unfold f_X1_readAll_b54 at h
  refine lv_bipush (v := (-20 : Int32)) hx hb dX1_readAll_54 (by decide) ?_
  refine lv_aload_n hx hb dX1_readAll_56 rfl (lv_at hl 0 rfl) ?_
  refine va_get (D := E.1) (ci := 1) (v := .int (c_t 5)) (C := RX1) (T := TX1) (N := 7) hx hb hts iX1_readAll_X1 hown hK hP 0 rfl rfl 5 (by decide) (hts (.fieldLink RX1 25 "LeftIsAgreedOn$Reader" "tokenAt" "I") (List.mem_of_getElem? (i := 3) rfl)) (fun _ h9 => h9) rfl dX1_readAll_57 ?_
  refine lv_isub hx hb dX1_readAll_60 ?_
  obtain rfl := Option.some.inj h
  exact ret_i X dX1_readAll_61 hP hD hS rfl
set_option maxRecDepth 100000 in
set_option maxHeartbeats 4000000 in
theorem w_X1_readAll_b7 (X : Ctx p m meth c cX1_readAll 2 ((some .int)) s args wsX1_readAll RX1 E A) (a_t : Nat) (a_bytes : Nat) (a_trial : Nat) (a_trial_cells : Nat) (a_trial_faces : Nat) (a_trial_kinds : Nat) (a_trial_pledges : Nat) (a_trial_ponds : Nat) (a_trial_weights : Nat) (c_bytes : Nat → Int32) (res : Int32 × (Nat → Int32) × (Nat → Int32) × (Nat → Int32) × (Nat → Int32) × (Nat → Int32) × (Nat → Int32) × (Nat → Int32) × (Nat → Int32)) : ∀ (n : Nat) (c_t : Nat → Int32) (c_trial : Nat → Int32) (c_trial_cells : Nat → Int32) (c_trial_faces : Nat → Int32) (c_trial_kinds : Nat → Int32) (c_trial_pledges : Nat → Int32) (c_trial_ponds : Nat → Int32) (c_trial_weights : Nat → Int32) (l1 : Int32) (ls : Array Slot) (H : Heap) (locs : List Loc), f_X1_readAll_b7 c_bytes n c_t c_trial c_trial_cells c_trial_faces c_trial_kinds c_trial_pledges c_trial_ponds c_trial_weights l1 = some res → va_P E.1 vwCl (W_X1_readAll E a_t a_bytes a_trial a_trial_cells a_trial_faces a_trial_kinds a_trial_pledges a_trial_ponds a_trial_weights c_t c_bytes c_trial c_trial_cells c_trial_faces c_trial_kinds c_trial_pledges c_trial_ponds c_trial_weights) H → va_D A (W_X1_readAll E a_t a_bytes a_trial a_trial_cells a_trial_faces a_trial_kinds a_trial_pledges a_trial_ponds a_trial_weights c_t c_bytes c_trial c_trial_cells c_trial_faces c_trial_kinds c_trial_pledges c_trial_ponds c_trial_weights) → va_S A s.heap H locs → lv_has ls 2 [(0, .ref a_t), (1, .int l1)] → W p l e r_X1_readAll s m args below meth c H locs 0 0 (MQ below (qI E A (res.1) (W_X1_readAll E a_t a_bytes a_trial a_trial_cells a_trial_faces a_trial_kinds a_trial_pledges a_trial_ponds a_trial_weights (res.2.1) c_bytes (res.2.2.1) (res.2.2.2.1) (res.2.2.2.2.1) (res.2.2.2.2.2.1) (res.2.2.2.2.2.2.1) (res.2.2.2.2.2.2.2.1) (res.2.2.2.2.2.2.2.2))) args s 0 0 A) (F0 m 7 ls []) := by
  obtain ⟨hx, hb, hml, hr, hlk, hown, hts, hG, hA⟩ := id X
  have hK := hG.1
  have hN := hG.2.1
  intro n
  induction n with
  | zero =>
    intro c_t c_trial c_trial_cells c_trial_faces c_trial_kinds c_trial_pledges c_trial_ponds c_trial_weights l1 ls H locs h
    exact absurd (show (none : Option (Int32 × (Nat → Int32) × (Nat → Int32) × (Nat → Int32) × (Nat → Int32) × (Nat → Int32) × (Nat → Int32) × (Nat → Int32) × (Nat → Int32))) = some res from h) (by intro q; cases q)
  | succ n ih =>
    intro c_t c_trial c_trial_cells c_trial_faces c_trial_kinds c_trial_pledges c_trial_ponds c_trial_weights l1 ls H locs h hP hD hS hl
    rw [f_X1_readAll_b7] at h
    refine lv_iload_n hx hb dX1_readAll_7 rfl (lv_at hl 1 rfl) ?_
    refine lv_sipush (v := (250 : Int32)) hx hb dX1_readAll_8 (by decide) ?_
    refine lv_icmp_gt (tgt := 54) hx hb dX1_readAll_11 (by decide) (fun hc11 => ?_) (fun hc11 => ?_)
    · have h := if_t h hc11
      exact w_X1_readAll_b54 X a_t a_bytes a_trial a_trial_cells a_trial_faces a_trial_kinds a_trial_pledges a_trial_ponds a_trial_weights c_bytes res c_t c_trial c_trial_cells c_trial_faces c_trial_kinds c_trial_pledges c_trial_ponds c_trial_weights _ _ _ h hP hD hS (lv_sub hl [0] rfl)
    · have h := if_f h hc11
      refine lv_aload_n hx hb dX1_readAll_14 rfl (lv_at hl 0 rfl) ?_
      obtain ⟨v1, hv1, h⟩ := bind_of h
      refine after_i X (run_V X (c_X1_readStatement l E a_t a_bytes a_trial a_trial_cells a_trial_faces a_trial_kinds a_trial_pledges a_trial_ponds a_trial_weights c_t c_bytes c_trial c_trial_cells c_trial_faces c_trial_kinds c_trial_pledges c_trial_ponds c_trial_weights H.size v1 hv1) (cwV 0 hts gX1_readAll_X1_readStatement rfl rfl rfl hV_X1_readStatement ⟨(Nat.le_of_ble_eq_true rfl), (Nat.le_of_ble_eq_true rfl)⟩) hP hD hS [0, 1, 2, 3, 4, 5, 6, 7, 8] rfl rfl hl.1 (ci := 1) rfl rfl rfl (rest := []) rfl rfl (Nat.le_of_ble_eq_true rfl) dX1_readAll_15) hP hD hS [0, 1, 2, 3, 4, 5, 6, 7, 8] rfl (ws1 := (W_X1_readAll E a_t a_bytes a_trial a_trial_cells a_trial_faces a_trial_kinds a_trial_pledges a_trial_ponds a_trial_weights (v1.2.1) c_bytes (v1.2.2.1) (v1.2.2.2.1) (v1.2.2.2.2.1) (v1.2.2.2.2.2.1) (v1.2.2.2.2.2.2.1) (v1.2.2.2.2.2.2.2.1) (v1.2.2.2.2.2.2.2.2))) rfl (fun H locs hP hD hS => ?_)
      refine lv_if_ne (tgt := 24) hx hb dX1_readAll_18 (by decide) (fun hc18 => ?_) (fun hc18 => ?_)
      · have h := if_f h hc18
        refine lv_aload_n hx hb dX1_readAll_24 rfl (lv_at hl 0 rfl) ?_
        obtain ⟨v2, hv2, h⟩ := bind_of h
        refine after_v X (run_V X (c_X1_nextToken l E a_t a_bytes a_trial (v1.2.1) c_bytes H.size v2 hv2) (cwV 0 hts gX1_readAll_X1_nextToken rfl rfl rfl hV_X1_nextToken ⟨(Nat.le_of_ble_eq_true rfl), (Nat.le_of_ble_eq_true rfl)⟩) hP hD hS [0, 1] rfl rfl hl.1 (ci := 1) rfl rfl rfl (rest := []) rfl rfl (Nat.le_of_ble_eq_true rfl) dX1_readAll_25) hP hD hS [0, 1] rfl (ws1 := (W_X1_readAll E a_t a_bytes a_trial a_trial_cells a_trial_faces a_trial_kinds a_trial_pledges a_trial_ponds a_trial_weights v2 c_bytes (v1.2.2.1) (v1.2.2.2.1) (v1.2.2.2.2.1) (v1.2.2.2.2.2.1) (v1.2.2.2.2.2.2.1) (v1.2.2.2.2.2.2.2.1) (v1.2.2.2.2.2.2.2.2))) rfl (fun H locs hP hD hS => ?_)
        refine lv_aload_n hx hb dX1_readAll_28 rfl (lv_at hl 0 rfl) ?_
        refine va_get (D := E.1) (ci := 1) (v := .int (v2 4)) (C := RX1) (T := TX1) (N := 7) hx hb hts iX1_readAll_X1 hown hK hP 0 rfl rfl 4 (by decide) (hts (.fieldLink RX1 22 "LeftIsAgreedOn$Reader" "token" "I") (List.mem_of_getElem? (i := 2) rfl)) (fun _ h9 => h9) rfl dX1_readAll_29 ?_
        refine lv_if_ne (tgt := 37) hx hb dX1_readAll_32 (by decide) (fun hc32 => ?_) (fun hc32 => ?_)
        · have h := if_f h hc32
          refine lv_aload_n hx hb dX1_readAll_37 rfl (lv_at hl 0 rfl) ?_
          refine va_get (D := E.1) (ci := 1) (v := .int (v2 4)) (C := RX1) (T := TX1) (N := 7) hx hb hts iX1_readAll_X1 hown hK hP 0 rfl rfl 4 (by decide) (hts (.fieldLink RX1 22 "LeftIsAgreedOn$Reader" "token" "I") (List.mem_of_getElem? (i := 2) rfl)) (fun _ h9 => h9) rfl dX1_readAll_38 ?_
          refine lv_iconst (v := (3 : Int32)) hx hb dX1_readAll_41 (by decide) ?_
          refine lv_icmp_eq (tgt := 48) hx hb dX1_readAll_42 (by decide) (fun hc42 => ?_) (fun hc42 => ?_)
          · have h := if_t h hc42
            refine lv_iinc (v := (l1 + (1 : Int32))) (lv' := [(1, .int (l1 + (1 : Int32))), (0, .ref a_t)]) hx hb dX1_readAll_48 hl (k := 1) rfl rfl (by decide) rfl (fun ls hl => ?_)
            refine lv_goto (tgt := 7) hx hb dX1_readAll_51 (by decide) ?_
            exact ih v2 (v1.2.2.1) (v1.2.2.2.1) (v1.2.2.2.2.1) (v1.2.2.2.2.2.1) (v1.2.2.2.2.2.2.1) (v1.2.2.2.2.2.2.2.1) (v1.2.2.2.2.2.2.2.2) (l1 + (1 : Int32)) _ _ _ h hP hD hS (lv_sub hl [1, 0] rfl)
          · have h := if_f h hc42
            refine lv_goto (tgt := 54) hx hb dX1_readAll_45 (by decide) ?_
            exact w_X1_readAll_b54 X a_t a_bytes a_trial a_trial_cells a_trial_faces a_trial_kinds a_trial_pledges a_trial_ponds a_trial_weights c_bytes res v2 (v1.2.2.1) (v1.2.2.2.1) (v1.2.2.2.2.1) (v1.2.2.2.2.2.1) (v1.2.2.2.2.2.2.1) (v1.2.2.2.2.2.2.2.1) (v1.2.2.2.2.2.2.2.2) _ _ _ h hP hD hS (lv_sub hl [0] rfl)
        · have h := if_t h hc32
          refine lv_iload_n hx hb dX1_readAll_35 rfl (lv_at hl 1 rfl) ?_
          obtain rfl := Option.some.inj h
          exact ret_i X dX1_readAll_36 hP hD hS rfl
      · have h := if_t h hc18
        refine lv_goto (tgt := 54) hx hb dX1_readAll_21 (by decide) ?_
        exact w_X1_readAll_b54 X a_t a_bytes a_trial a_trial_cells a_trial_faces a_trial_kinds a_trial_pledges a_trial_ponds a_trial_weights c_bytes res (v1.2.1) (v1.2.2.1) (v1.2.2.2.1) (v1.2.2.2.2.1) (v1.2.2.2.2.2.1) (v1.2.2.2.2.2.2.1) (v1.2.2.2.2.2.2.2.1) (v1.2.2.2.2.2.2.2.2) _ _ _ h hP hD hS (lv_sub hl [0] rfl)
set_option maxRecDepth 100000 in
set_option maxHeartbeats 4000000 in
theorem w_X1_readAll (X : Ctx p m meth c cX1_readAll 2 ((some .int)) s args wsX1_readAll RX1 E A) (a_t : Nat) (a_bytes : Nat) (a_trial : Nat) (a_trial_cells : Nat) (a_trial_faces : Nat) (a_trial_kinds : Nat) (a_trial_pledges : Nat) (a_trial_ponds : Nat) (a_trial_weights : Nat) (c_bytes : Nat → Int32) (res : Int32 × (Nat → Int32) × (Nat → Int32) × (Nat → Int32) × (Nat → Int32) × (Nat → Int32) × (Nat → Int32) × (Nat → Int32) × (Nat → Int32)) (c_t : Nat → Int32) (c_trial : Nat → Int32) (c_trial_cells : Nat → Int32) (c_trial_faces : Nat → Int32) (c_trial_kinds : Nat → Int32) (c_trial_pledges : Nat → Int32) (c_trial_ponds : Nat → Int32) (c_trial_weights : Nat → Int32) (ls : Array Slot) (H : Heap) (locs : List Loc) (h : f_X1_readAll c_t c_bytes c_trial c_trial_cells c_trial_faces c_trial_kinds c_trial_pledges c_trial_ponds c_trial_weights = some res) (hP : va_P E.1 vwCl (W_X1_readAll E a_t a_bytes a_trial a_trial_cells a_trial_faces a_trial_kinds a_trial_pledges a_trial_ponds a_trial_weights c_t c_bytes c_trial c_trial_cells c_trial_faces c_trial_kinds c_trial_pledges c_trial_ponds c_trial_weights) H) (hD : va_D A (W_X1_readAll E a_t a_bytes a_trial a_trial_cells a_trial_faces a_trial_kinds a_trial_pledges a_trial_ponds a_trial_weights c_t c_bytes c_trial c_trial_cells c_trial_faces c_trial_kinds c_trial_pledges c_trial_ponds c_trial_weights)) (hS : va_S A s.heap H locs) (hl : lv_has ls 2 [(0, .ref a_t)]) : W p l e r_X1_readAll s m args below meth c H locs 0 0 (MQ below (qI E A (res.1) (W_X1_readAll E a_t a_bytes a_trial a_trial_cells a_trial_faces a_trial_kinds a_trial_pledges a_trial_ponds a_trial_weights (res.2.1) c_bytes (res.2.2.1) (res.2.2.2.1) (res.2.2.2.2.1) (res.2.2.2.2.2.1) (res.2.2.2.2.2.2.1) (res.2.2.2.2.2.2.2.1) (res.2.2.2.2.2.2.2.2))) args s 0 0 A) (F0 m 0 ls []) := by
  obtain ⟨hx, hb, hml, hr, hlk, hown, hts, hG, hA⟩ := id X
  have hK := hG.1
  have hN := hG.2.1
  unfold f_X1_readAll at h
  refine lv_aload_n hx hb dX1_readAll_0 rfl (lv_at hl 0 rfl) ?_
  refine lv_iconst (v := (0 : Int32)) hx hb dX1_readAll_1 (by decide) ?_
  refine va_put (D := E.1) (ci := 1) (v := .int (0 : Int32)) (ty := .int) (C := RX1) (T := TX1) (N := 7) hx hb hts iX1_readAll_X1 tyX1 tyX1_ok nmX1 hown hK hP hD hS 0 rfl rfl 3 (by decide) (hts (.fieldLink RX1 19 "LeftIsAgreedOn$Reader" "at" "I") (List.mem_of_getElem? (i := 1) rfl)) (fun _ h9 => h9) rfl (tyX1_ok 3 (by decide)) rfl rfl (Nat.le_of_ble_eq_true rfl) dX1_readAll_2 (fun H locs hP hD hS => ?_)
  have hP : va_P E.1 vwCl (W_X1_readAll E a_t a_bytes a_trial a_trial_cells a_trial_faces a_trial_kinds a_trial_pledges a_trial_ponds a_trial_weights (upd c_t 3 (0 : Int32)) c_bytes c_trial c_trial_cells c_trial_faces c_trial_kinds c_trial_pledges c_trial_ponds c_trial_weights) H := hP
  have hD : va_D A (W_X1_readAll E a_t a_bytes a_trial a_trial_cells a_trial_faces a_trial_kinds a_trial_pledges a_trial_ponds a_trial_weights (upd c_t 3 (0 : Int32)) c_bytes c_trial c_trial_cells c_trial_faces c_trial_kinds c_trial_pledges c_trial_ponds c_trial_weights) := hD
  refine lv_iconst (v := (1 : Int32)) hx hb dX1_readAll_5 (by decide) ?_
  refine lv_istore_n (lv' := [(1, .int (1 : Int32)), (0, .ref a_t)]) hx hb dX1_readAll_6 rfl hl (by decide) rfl (fun ls hl => ?_)
  exact w_X1_readAll_b7 X a_t a_bytes a_trial a_trial_cells a_trial_faces a_trial_kinds a_trial_pledges a_trial_ponds a_trial_weights c_bytes res FU (upd c_t 3 (0 : Int32)) c_trial c_trial_cells c_trial_faces c_trial_kinds c_trial_pledges c_trial_ponds c_trial_weights (1 : Int32) _ _ _ h hP hD hS (lv_sub hl [1, 0] rfl)
end
set_option maxRecDepth 100000 in
theorem c_X1_readAll (l : Launch) (E : Env0) (a_t : Nat) (a_bytes : Nat) (a_trial : Nat) (a_trial_cells : Nat) (a_trial_faces : Nat) (a_trial_kinds : Nat) (a_trial_pledges : Nat) (a_trial_ponds : Nat) (a_trial_weights : Nat) (c_t : Nat → Int32) (c_bytes : Nat → Int32) (c_trial : Nat → Int32) (c_trial_cells : Nat → Int32) (c_trial_faces : Nat → Int32) (c_trial_kinds : Nat → Int32) (c_trial_pledges : Nat → Int32) (c_trial_ponds : Nat → Int32) (c_trial_weights : Nat → Int32) (sz : Nat) (res : Int32 × (Nat → Int32) × (Nat → Int32) × (Nat → Int32) × (Nat → Int32) × (Nat → Int32) × (Nat → Int32) × (Nat → Int32) × (Nat → Int32)) (h : f_X1_readAll c_t c_bytes c_trial c_trial_cells c_trial_faces c_trial_kinds c_trial_pledges c_trial_ponds c_trial_weights = some res) : Met l yX1_readAll wsX1_readAll r_X1_readAll (cPre E [.ref a_t] (W_X1_readAll E a_t a_bytes a_trial a_trial_cells a_trial_faces a_trial_kinds a_trial_pledges a_trial_ponds a_trial_weights c_t c_bytes c_trial c_trial_cells c_trial_faces c_trial_kinds c_trial_pledges c_trial_ponds c_trial_weights) sz) (qI E (va_A (W_X1_readAll E a_t a_bytes a_trial a_trial_cells a_trial_faces a_trial_kinds a_trial_pledges a_trial_ponds a_trial_weights c_t c_bytes c_trial c_trial_cells c_trial_faces c_trial_kinds c_trial_pledges c_trial_ponds c_trial_weights) sz) (res.1) (W_X1_readAll E a_t a_bytes a_trial a_trial_cells a_trial_faces a_trial_kinds a_trial_pledges a_trial_ponds a_trial_weights (res.2.1) c_bytes (res.2.2.1) (res.2.2.2.1) (res.2.2.2.2.1) (res.2.2.2.2.2.1) (res.2.2.2.2.2.2.1) (res.2.2.2.2.2.2.2.1) (res.2.2.2.2.2.2.2.2))) 0 0 (va_A (W_X1_readAll E a_t a_bytes a_trial a_trial_cells a_trial_faces a_trial_kinds a_trial_pledges a_trial_ponds a_trial_weights c_t c_bytes c_trial c_trial_cells c_trial_faces c_trial_kinds c_trial_pledges c_trial_ponds c_trial_weights) sz) :=
  met_of (Qc := fun A => qI E A (res.1) (W_X1_readAll E a_t a_bytes a_trial a_trial_cells a_trial_faces a_trial_kinds a_trial_pledges a_trial_ponds a_trial_weights (res.2.1) c_bytes (res.2.2.1) (res.2.2.2.1) (res.2.2.2.2.1) (res.2.2.2.2.2.1) (res.2.2.2.2.2.2.1) (res.2.2.2.2.2.2.2.1) (res.2.2.2.2.2.2.2.2))) (by decide) rfl (Nat.le_of_ble_eq_true rfl) (fun p e s m args below meth c X hP hD hS ls hl => w_X1_readAll X a_t a_bytes a_trial a_trial_cells a_trial_faces a_trial_kinds a_trial_pledges a_trial_ponds a_trial_weights c_bytes res c_t c_trial c_trial_cells c_trial_faces c_trial_kinds c_trial_pledges c_trial_ponds c_trial_weights ls _ _ h hP hD hS hl)
-- ===== X5_island
noncomputable abbrev W_X5_island (E : Env0) (a_t : Nat) (a_now : Nat) (a_now_cells : Nat) (a_now_faces : Nat) (a_now_kinds : Nat) (a_now_pledges : Nat) (a_now_ponds : Nat) (a_now_weights : Nat) (a_reader : Nat) (a_reader_bytes : Nat) (a_refusals : Nat) (a_trial : Nat) (a_trial_cells : Nat) (a_trial_faces : Nat) (a_trial_kinds : Nat) (a_trial_pledges : Nat) (a_trial_ponds : Nat) (a_trial_weights : Nat) (a_kept : Nat) (a_shelves : Nat) (a_one : Nat) (a_two : Nat) (a_search : Nat) (a_outs : Nat) (c_t : Nat → Int32) (c_now : Nat → Int32) (c_now_cells : Nat → Int32) (c_now_faces : Nat → Int32) (c_now_kinds : Nat → Int32) (c_now_pledges : Nat → Int32) (c_now_ponds : Nat → Int32) (c_now_weights : Nat → Int32) (c_reader : Nat → Int32) (c_reader_bytes : Nat → Int32) (c_refusals : Nat → Int32) (c_trial : Nat → Int32) (c_trial_cells : Nat → Int32) (c_trial_faces : Nat → Int32) (c_trial_kinds : Nat → Int32) (c_trial_pledges : Nat → Int32) (c_trial_ponds : Nat → Int32) (c_trial_weights : Nat → Int32) : va_W := [(a_t, .inr (5, [.ref a_now, .ref a_kept, .ref a_trial, .ref a_reader, .ref a_shelves, .ref a_one, .ref a_two, .ref a_search, .ref a_outs, .ref a_refusals, .int (c_t 10)])), (a_now, .inr (0, [.int (c_now 0), .int (c_now 1), .int (c_now 2), .int (c_now 3), .int (c_now 4), .int (c_now 5), .int (c_now 6), .int (c_now 7), .ref a_now_ponds, .ref a_now_kinds, .ref a_now_weights, .ref a_now_cells, .ref a_now_faces, .ref a_now_pledges])), (a_now_cells, .inl (eI E, 8, .inl c_now_cells)), (a_now_faces, .inl (eI E, 8, .inl c_now_faces)), (a_now_kinds, .inl (eI E, 8, .inl c_now_kinds)), (a_now_pledges, .inl (eI E, 8, .inl c_now_pledges)), (a_now_ponds, .inl (eZ E, 70, .inl c_now_ponds)), (a_now_weights, .inl (eI E, 8, .inl c_now_weights)), (a_reader, .inr (1, [.ref a_trial, .ref a_reader_bytes, .int (c_reader 2), .int (c_reader 3), .int (c_reader 4), .int (c_reader 5), .int (c_reader 6)])), (a_reader_bytes, .inl (eI E, 250, .inl c_reader_bytes)), (a_refusals, .inl (eI E, 5, .inl c_refusals)), (a_trial, .inr (0, [.int (c_trial 0), .int (c_trial 1), .int (c_trial 2), .int (c_trial 3), .int (c_trial 4), .int (c_trial 5), .int (c_trial 6), .int (c_trial 7), .ref a_trial_ponds, .ref a_trial_kinds, .ref a_trial_weights, .ref a_trial_cells, .ref a_trial_faces, .ref a_trial_pledges])), (a_trial_cells, .inl (eI E, 8, .inl c_trial_cells)), (a_trial_faces, .inl (eI E, 8, .inl c_trial_faces)), (a_trial_kinds, .inl (eI E, 8, .inl c_trial_kinds)), (a_trial_pledges, .inl (eI E, 8, .inl c_trial_pledges)), (a_trial_ponds, .inl (eZ E, 70, .inl c_trial_ponds)), (a_trial_weights, .inl (eI E, 8, .inl c_trial_weights))]
noncomputable abbrev r_X5_island : Room := { frames := 8, cells := 0, slots := 0, locals := 168 }
theorem hd_X5_island : yX5_island.cls ≠ "java/lang/invoke/MethodHandle" ∧ yX5_island.cls ≠ "java/lang/invoke/VarHandle" ∧ (parseMethodDescriptor yX5_island.desc).map (fun d => d.parameters.length) = some 0 := by decide +kernel
theorem hV_X5_island : yX5_island.cls = RX5 ∧ yX5_island.cls ≠ "java/lang/invoke/MethodHandle" ∧ yX5_island.cls ≠ "java/lang/invoke/VarHandle" ∧ (parseMethodDescriptor yX5_island.desc).map (fun d => d.parameters.length) = some 0 := ⟨rfl, hd_X5_island⟩
theorem iX5_island_X5 : ∀ w ∈ wsX50, w ∈ wsX5_island := fun _ h => List.mem_cons_of_mem _ (List.mem_append_left _ (List.mem_append_left _ (List.mem_append_right _ (h))))
section
variable {p : Program} {l : Launch} {e : Env} {s : State} {m : MethodId} {args : Array Value} {below : List Frame} {meth : Method} {c : Code} {E : Env0} {A : Nat → Prop}
set_option maxRecDepth 100000 in
set_option maxHeartbeats 4000000 in
theorem w_X5_island (X : Ctx p m meth c cX5_island 2 ((some .int)) s args wsX5_island RX5 E A) (a_t : Nat) (a_now : Nat) (a_now_cells : Nat) (a_now_faces : Nat) (a_now_kinds : Nat) (a_now_pledges : Nat) (a_now_ponds : Nat) (a_now_weights : Nat) (a_reader : Nat) (a_reader_bytes : Nat) (a_refusals : Nat) (a_trial : Nat) (a_trial_cells : Nat) (a_trial_faces : Nat) (a_trial_kinds : Nat) (a_trial_pledges : Nat) (a_trial_ponds : Nat) (a_trial_weights : Nat) (a_kept : Nat) (a_shelves : Nat) (a_one : Nat) (a_two : Nat) (a_search : Nat) (a_outs : Nat) (c_t : Nat → Int32) (c_reader_bytes : Nat → Int32) (res : Int32 × (Nat → Int32) × (Nat → Int32) × (Nat → Int32) × (Nat → Int32) × (Nat → Int32) × (Nat → Int32) × (Nat → Int32) × (Nat → Int32) × (Nat → Int32) × (Nat → Int32) × (Nat → Int32) × (Nat → Int32) × (Nat → Int32) × (Nat → Int32) × (Nat → Int32) × (Nat → Int32)) (c_now : Nat → Int32) (c_now_cells : Nat → Int32) (c_now_faces : Nat → Int32) (c_now_kinds : Nat → Int32) (c_now_pledges : Nat → Int32) (c_now_ponds : Nat → Int32) (c_now_weights : Nat → Int32) (c_reader : Nat → Int32) (c_refusals : Nat → Int32) (c_trial : Nat → Int32) (c_trial_cells : Nat → Int32) (c_trial_faces : Nat → Int32) (c_trial_kinds : Nat → Int32) (c_trial_pledges : Nat → Int32) (c_trial_ponds : Nat → Int32) (c_trial_weights : Nat → Int32) (ls : Array Slot) (H : Heap) (locs : List Loc) (h : f_X5_island c_t c_now c_now_cells c_now_faces c_now_kinds c_now_pledges c_now_ponds c_now_weights c_reader c_reader_bytes c_refusals c_trial c_trial_cells c_trial_faces c_trial_kinds c_trial_pledges c_trial_ponds c_trial_weights = some res) (hP : va_P E.1 vwCl (W_X5_island E a_t a_now a_now_cells a_now_faces a_now_kinds a_now_pledges a_now_ponds a_now_weights a_reader a_reader_bytes a_refusals a_trial a_trial_cells a_trial_faces a_trial_kinds a_trial_pledges a_trial_ponds a_trial_weights a_kept a_shelves a_one a_two a_search a_outs c_t c_now c_now_cells c_now_faces c_now_kinds c_now_pledges c_now_ponds c_now_weights c_reader c_reader_bytes c_refusals c_trial c_trial_cells c_trial_faces c_trial_kinds c_trial_pledges c_trial_ponds c_trial_weights) H) (hD : va_D A (W_X5_island E a_t a_now a_now_cells a_now_faces a_now_kinds a_now_pledges a_now_ponds a_now_weights a_reader a_reader_bytes a_refusals a_trial a_trial_cells a_trial_faces a_trial_kinds a_trial_pledges a_trial_ponds a_trial_weights a_kept a_shelves a_one a_two a_search a_outs c_t c_now c_now_cells c_now_faces c_now_kinds c_now_pledges c_now_ponds c_now_weights c_reader c_reader_bytes c_refusals c_trial c_trial_cells c_trial_faces c_trial_kinds c_trial_pledges c_trial_ponds c_trial_weights)) (hS : va_S A s.heap H locs) (hl : lv_has ls 2 [(0, .ref a_t)]) : W p l e r_X5_island s m args below meth c H locs 0 0 (MQ below (qI E A (res.1) (W_X5_island E a_t a_now a_now_cells a_now_faces a_now_kinds a_now_pledges a_now_ponds a_now_weights a_reader a_reader_bytes a_refusals a_trial a_trial_cells a_trial_faces a_trial_kinds a_trial_pledges a_trial_ponds a_trial_weights a_kept a_shelves a_one a_two a_search a_outs c_t (res.2.1) (res.2.2.1) (res.2.2.2.1) (res.2.2.2.2.1) (res.2.2.2.2.2.1) (res.2.2.2.2.2.2.1) (res.2.2.2.2.2.2.2.1) (res.2.2.2.2.2.2.2.2.1) c_reader_bytes (res.2.2.2.2.2.2.2.2.2.1) (res.2.2.2.2.2.2.2.2.2.2.1) (res.2.2.2.2.2.2.2.2.2.2.2.1) (res.2.2.2.2.2.2.2.2.2.2.2.2.1) (res.2.2.2.2.2.2.2.2.2.2.2.2.2.1) (res.2.2.2.2.2.2.2.2.2.2.2.2.2.2.1) (res.2.2.2.2.2.2.2.2.2.2.2.2.2.2.2.1) (res.2.2.2.2.2.2.2.2.2.2.2.2.2.2.2.2))) args s 0 0 A) (F0 m 0 ls []) := by
  obtain ⟨hx, hb, hml, hr, hlk, hown, hts, hG, hA⟩ := id X
  have hK := hG.1
  have hN := hG.2.1
  unfold f_X5_island at h
  refine lv_aload_n hx hb dX5_island_0 rfl (lv_at hl 0 rfl) ?_
  refine va_get (D := E.1) (ci := 5) (v := .ref a_trial) (C := RX5) (T := TX5) (N := 11) hx hb hts iX5_island_X5 hown hK hP 0 rfl rfl 2 (by decide) (hts (.fieldLink RX5 19 "LeftIsAgreedOn" "trial" "LLeftIsAgreedOn$Island;") (List.mem_of_getElem? (i := 1) rfl)) (fun _ h9 => h9) rfl dX5_island_1 ?_
  refine lv_aload_n hx hb dX5_island_4 rfl (lv_at hl 0 rfl) ?_
  refine va_get (D := E.1) (ci := 5) (v := .ref a_now) (C := RX5) (T := TX5) (N := 11) hx hb hts iX5_island_X5 hown hK hP 0 rfl rfl 0 (by decide) (hts (.fieldLink RX5 10 "LeftIsAgreedOn" "now" "LLeftIsAgreedOn$Island;") (List.mem_of_getElem? (i := 2) rfl)) (fun _ h9 => h9) rfl dX5_island_5 ?_
  obtain ⟨v1, hv1, h⟩ := bind_of h
  refine after_v X (run_V X (c_X0_become l E a_trial a_trial_cells a_trial_faces a_trial_kinds a_trial_pledges a_trial_ponds a_trial_weights a_now a_now_cells a_now_faces a_now_kinds a_now_pledges a_now_ponds a_now_weights c_trial c_trial_cells c_trial_faces c_trial_kinds c_trial_pledges c_trial_ponds c_trial_weights c_now c_now_cells c_now_faces c_now_kinds c_now_pledges c_now_ponds c_now_weights H.size v1 hv1) (cwV 1 hts gX5_island_X0_become rfl rfl rfl hV_X0_become ⟨(Nat.le_of_ble_eq_true rfl), (Nat.le_of_ble_eq_true rfl)⟩) hP hD hS [11, 12, 13, 14, 15, 16, 17, 1, 2, 3, 4, 5, 6, 7] rfl rfl hl.1 (ci := 0) rfl rfl rfl (rest := []) rfl rfl (Nat.le_of_ble_eq_true rfl) dX5_island_8) hP hD hS [11, 12, 13, 14, 15, 16, 17, 1, 2, 3, 4, 5, 6, 7] rfl (ws1 := (W_X5_island E a_t a_now a_now_cells a_now_faces a_now_kinds a_now_pledges a_now_ponds a_now_weights a_reader a_reader_bytes a_refusals a_trial a_trial_cells a_trial_faces a_trial_kinds a_trial_pledges a_trial_ponds a_trial_weights a_kept a_shelves a_one a_two a_search a_outs c_t c_now c_now_cells c_now_faces c_now_kinds c_now_pledges c_now_ponds c_now_weights c_reader c_reader_bytes c_refusals (v1.1) (v1.2.1) (v1.2.2.1) (v1.2.2.2.1) (v1.2.2.2.2.1) (v1.2.2.2.2.2.1) (v1.2.2.2.2.2.2))) rfl (fun H locs hP hD hS => ?_)
  refine lv_aload_n hx hb dX5_island_11 rfl (lv_at hl 0 rfl) ?_
  refine va_get (D := E.1) (ci := 5) (v := .ref a_reader) (C := RX5) (T := TX5) (N := 11) hx hb hts iX5_island_X5 hown hK hP 0 rfl rfl 3 (by decide) (hts (.fieldLink RX5 27 "LeftIsAgreedOn" "reader" "LLeftIsAgreedOn$Reader;") (List.mem_of_getElem? (i := 3) rfl)) (fun _ h9 => h9) rfl dX5_island_12 ?_
  obtain ⟨v2, hv2, h⟩ := bind_of h
  refine after_i X (run_V X (c_X1_readAll l E a_reader a_reader_bytes a_trial a_trial_cells a_trial_faces a_trial_kinds a_trial_pledges a_trial_ponds a_trial_weights c_reader c_reader_bytes (v1.1) (v1.2.1) (v1.2.2.1) (v1.2.2.2.1) (v1.2.2.2.2.1) (v1.2.2.2.2.2.1) (v1.2.2.2.2.2.2) H.size v2 hv2) (cwV 0 hts gX5_island_X1_readAll rfl rfl rfl hV_X1_readAll ⟨(Nat.le_of_ble_eq_true rfl), (Nat.le_of_ble_eq_true rfl)⟩) hP hD hS [8, 9, 11, 12, 13, 14, 15, 16, 17] rfl rfl hl.1 (ci := 1) rfl rfl rfl (rest := []) rfl rfl (Nat.le_of_ble_eq_true rfl) dX5_island_15) hP hD hS [8, 9, 11, 12, 13, 14, 15, 16, 17] rfl (ws1 := (W_X5_island E a_t a_now a_now_cells a_now_faces a_now_kinds a_now_pledges a_now_ponds a_now_weights a_reader a_reader_bytes a_refusals a_trial a_trial_cells a_trial_faces a_trial_kinds a_trial_pledges a_trial_ponds a_trial_weights a_kept a_shelves a_one a_two a_search a_outs c_t c_now c_now_cells c_now_faces c_now_kinds c_now_pledges c_now_ponds c_now_weights (v2.2.1) c_reader_bytes c_refusals (v2.2.2.1) (v2.2.2.2.1) (v2.2.2.2.2.1) (v2.2.2.2.2.2.1) (v2.2.2.2.2.2.2.1) (v2.2.2.2.2.2.2.2.1) (v2.2.2.2.2.2.2.2.2))) rfl (fun H locs hP hD hS => ?_)
  refine lv_istore_n (lv' := [(1, .int (v2.1)), (0, .ref a_t)]) hx hb dX5_island_18 rfl hl (by decide) rfl (fun ls hl => ?_)
  refine lv_aload_n hx hb dX5_island_19 rfl (lv_at hl 1 rfl) ?_
  refine va_get (D := E.1) (ci := 5) (v := .ref a_reader) (C := RX5) (T := TX5) (N := 11) hx hb hts iX5_island_X5 hown hK hP 0 rfl rfl 3 (by decide) (hts (.fieldLink RX5 27 "LeftIsAgreedOn" "reader" "LLeftIsAgreedOn$Reader;") (List.mem_of_getElem? (i := 3) rfl)) (fun _ h9 => h9) rfl dX5_island_20 ?_
  obtain ⟨v3, hv3, h⟩ := bind_of h
  refine after_i X (run_V X (c_X1_clear l E a_reader a_trial a_reader_bytes (v2.2.1) H.size v3 hv3) (cwV 0 hts gX5_island_X1_clear rfl rfl rfl hV_X1_clear ⟨(Nat.le_of_ble_eq_true rfl), (Nat.le_of_ble_eq_true rfl)⟩) hP hD hS [8] rfl rfl hl.1 (ci := 1) rfl rfl rfl (rest := []) rfl rfl (Nat.le_of_ble_eq_true rfl) dX5_island_23) hP hD hS [8] rfl (ws1 := (W_X5_island E a_t a_now a_now_cells a_now_faces a_now_kinds a_now_pledges a_now_ponds a_now_weights a_reader a_reader_bytes a_refusals a_trial a_trial_cells a_trial_faces a_trial_kinds a_trial_pledges a_trial_ponds a_trial_weights a_kept a_shelves a_one a_two a_search a_outs c_t c_now c_now_cells c_now_faces c_now_kinds c_now_pledges c_now_ponds c_now_weights (v3.2) c_reader_bytes c_refusals (v2.2.2.1) (v2.2.2.2.1) (v2.2.2.2.2.1) (v2.2.2.2.2.2.1) (v2.2.2.2.2.2.2.1) (v2.2.2.2.2.2.2.2.1) (v2.2.2.2.2.2.2.2.2))) rfl (fun H locs hP hD hS => ?_)
  refine lv_pop hx hb dX5_island_26 rfl ?_
  refine lv_iload_n hx hb dX5_island_27 rfl (lv_at hl 0 rfl) ?_
  refine lv_if_ge (tgt := 41) hx hb dX5_island_28 (by decide) (fun hc28 => ?_) (fun hc28 => ?_)
  · have h := if_t h hc28
    refine lv_aload_n hx hb dX5_island_41 rfl (lv_at hl 1 rfl) ?_
    refine va_get (D := E.1) (ci := 5) (v := .ref a_now) (C := RX5) (T := TX5) (N := 11) hx hb hts iX5_island_X5 hown hK hP 0 rfl rfl 0 (by decide) (hts (.fieldLink RX5 10 "LeftIsAgreedOn" "now" "LLeftIsAgreedOn$Island;") (List.mem_of_getElem? (i := 2) rfl)) (fun _ h9 => h9) rfl dX5_island_42 ?_
    refine lv_aload_n hx hb dX5_island_45 rfl (lv_at hl 1 rfl) ?_
    refine va_get (D := E.1) (ci := 5) (v := .ref a_trial) (C := RX5) (T := TX5) (N := 11) hx hb hts iX5_island_X5 hown hK hP 0 rfl rfl 2 (by decide) (hts (.fieldLink RX5 19 "LeftIsAgreedOn" "trial" "LLeftIsAgreedOn$Island;") (List.mem_of_getElem? (i := 1) rfl)) (fun _ h9 => h9) rfl dX5_island_46 ?_
    obtain ⟨v4, hv4, h⟩ := bind_of h
    refine after_v X (run_V X (c_X0_become l E a_now a_now_cells a_now_faces a_now_kinds a_now_pledges a_now_ponds a_now_weights a_trial a_trial_cells a_trial_faces a_trial_kinds a_trial_pledges a_trial_ponds a_trial_weights c_now c_now_cells c_now_faces c_now_kinds c_now_pledges c_now_ponds c_now_weights (v2.2.2.1) (v2.2.2.2.1) (v2.2.2.2.2.1) (v2.2.2.2.2.2.1) (v2.2.2.2.2.2.2.1) (v2.2.2.2.2.2.2.2.1) (v2.2.2.2.2.2.2.2.2) H.size v4 hv4) (cwV 1 hts gX5_island_X0_become rfl rfl rfl hV_X0_become ⟨(Nat.le_of_ble_eq_true rfl), (Nat.le_of_ble_eq_true rfl)⟩) hP hD hS [1, 2, 3, 4, 5, 6, 7, 11, 12, 13, 14, 15, 16, 17] rfl rfl hl.1 (ci := 0) rfl rfl rfl (rest := []) rfl rfl (Nat.le_of_ble_eq_true rfl) dX5_island_49) hP hD hS [1, 2, 3, 4, 5, 6, 7, 11, 12, 13, 14, 15, 16, 17] rfl (ws1 := (W_X5_island E a_t a_now a_now_cells a_now_faces a_now_kinds a_now_pledges a_now_ponds a_now_weights a_reader a_reader_bytes a_refusals a_trial a_trial_cells a_trial_faces a_trial_kinds a_trial_pledges a_trial_ponds a_trial_weights a_kept a_shelves a_one a_two a_search a_outs c_t (v4.1) (v4.2.1) (v4.2.2.1) (v4.2.2.2.1) (v4.2.2.2.2.1) (v4.2.2.2.2.2.1) (v4.2.2.2.2.2.2) (v3.2) c_reader_bytes c_refusals (v2.2.2.1) (v2.2.2.2.1) (v2.2.2.2.2.1) (v2.2.2.2.2.2.1) (v2.2.2.2.2.2.2.1) (v2.2.2.2.2.2.2.2.1) (v2.2.2.2.2.2.2.2.2))) rfl (fun H locs hP hD hS => ?_)
    refine lv_iload_n hx hb dX5_island_52 rfl (lv_at hl 0 rfl) ?_
    obtain rfl := Option.some.inj h
    exact ret_i X dX5_island_53 hP hD hS rfl
  · have h := if_f h hc28
    refine lv_aload_n hx hb dX5_island_31 rfl (lv_at hl 1 rfl) ?_
    refine lv_bipush (v := (-2 : Int32)) hx hb dX5_island_32 (by decide) ?_
    obtain ⟨v5, hv5, h⟩ := bind_of h
    refine after_i X (run_V X (c_X5_refuse l E a_t a_refusals a_now a_kept a_trial a_reader a_shelves a_one a_two a_search a_outs (-2 : Int32) c_t c_refusals H.size v5 hv5) (cwV 1 hts gX5_island_X5_refuse rfl rfl rfl hV_X5_refuse ⟨(Nat.le_of_ble_eq_true rfl), (Nat.le_of_ble_eq_true rfl)⟩) hP hD hS [0, 10] rfl rfl hl.1 (ci := 5) rfl rfl rfl (rest := []) rfl rfl (Nat.le_of_ble_eq_true rfl) dX5_island_34) hP hD hS [0, 10] rfl (ws1 := (W_X5_island E a_t a_now a_now_cells a_now_faces a_now_kinds a_now_pledges a_now_ponds a_now_weights a_reader a_reader_bytes a_refusals a_trial a_trial_cells a_trial_faces a_trial_kinds a_trial_pledges a_trial_ponds a_trial_weights a_kept a_shelves a_one a_two a_search a_outs c_t c_now c_now_cells c_now_faces c_now_kinds c_now_pledges c_now_ponds c_now_weights (v3.2) c_reader_bytes (v5.2) (v2.2.2.1) (v2.2.2.2.1) (v2.2.2.2.2.1) (v2.2.2.2.2.2.1) (v2.2.2.2.2.2.2.1) (v2.2.2.2.2.2.2.2.1) (v2.2.2.2.2.2.2.2.2))) rfl (fun H locs hP hD hS => ?_)
    refine lv_pop hx hb dX5_island_37 rfl ?_
    refine lv_goto (tgt := 52) hx hb dX5_island_38 (by decide) ?_
    refine lv_iload_n hx hb dX5_island_52 rfl (lv_at hl 0 rfl) ?_
    obtain rfl := Option.some.inj h
    exact ret_i X dX5_island_53 hP hD hS rfl
end
set_option maxRecDepth 100000 in
theorem c_X5_island (l : Launch) (E : Env0) (a_t : Nat) (a_now : Nat) (a_now_cells : Nat) (a_now_faces : Nat) (a_now_kinds : Nat) (a_now_pledges : Nat) (a_now_ponds : Nat) (a_now_weights : Nat) (a_reader : Nat) (a_reader_bytes : Nat) (a_refusals : Nat) (a_trial : Nat) (a_trial_cells : Nat) (a_trial_faces : Nat) (a_trial_kinds : Nat) (a_trial_pledges : Nat) (a_trial_ponds : Nat) (a_trial_weights : Nat) (a_kept : Nat) (a_shelves : Nat) (a_one : Nat) (a_two : Nat) (a_search : Nat) (a_outs : Nat) (c_t : Nat → Int32) (c_now : Nat → Int32) (c_now_cells : Nat → Int32) (c_now_faces : Nat → Int32) (c_now_kinds : Nat → Int32) (c_now_pledges : Nat → Int32) (c_now_ponds : Nat → Int32) (c_now_weights : Nat → Int32) (c_reader : Nat → Int32) (c_reader_bytes : Nat → Int32) (c_refusals : Nat → Int32) (c_trial : Nat → Int32) (c_trial_cells : Nat → Int32) (c_trial_faces : Nat → Int32) (c_trial_kinds : Nat → Int32) (c_trial_pledges : Nat → Int32) (c_trial_ponds : Nat → Int32) (c_trial_weights : Nat → Int32) (sz : Nat) (res : Int32 × (Nat → Int32) × (Nat → Int32) × (Nat → Int32) × (Nat → Int32) × (Nat → Int32) × (Nat → Int32) × (Nat → Int32) × (Nat → Int32) × (Nat → Int32) × (Nat → Int32) × (Nat → Int32) × (Nat → Int32) × (Nat → Int32) × (Nat → Int32) × (Nat → Int32) × (Nat → Int32)) (h : f_X5_island c_t c_now c_now_cells c_now_faces c_now_kinds c_now_pledges c_now_ponds c_now_weights c_reader c_reader_bytes c_refusals c_trial c_trial_cells c_trial_faces c_trial_kinds c_trial_pledges c_trial_ponds c_trial_weights = some res) : Met l yX5_island wsX5_island r_X5_island (cPre E [.ref a_t] (W_X5_island E a_t a_now a_now_cells a_now_faces a_now_kinds a_now_pledges a_now_ponds a_now_weights a_reader a_reader_bytes a_refusals a_trial a_trial_cells a_trial_faces a_trial_kinds a_trial_pledges a_trial_ponds a_trial_weights a_kept a_shelves a_one a_two a_search a_outs c_t c_now c_now_cells c_now_faces c_now_kinds c_now_pledges c_now_ponds c_now_weights c_reader c_reader_bytes c_refusals c_trial c_trial_cells c_trial_faces c_trial_kinds c_trial_pledges c_trial_ponds c_trial_weights) sz) (qI E (va_A (W_X5_island E a_t a_now a_now_cells a_now_faces a_now_kinds a_now_pledges a_now_ponds a_now_weights a_reader a_reader_bytes a_refusals a_trial a_trial_cells a_trial_faces a_trial_kinds a_trial_pledges a_trial_ponds a_trial_weights a_kept a_shelves a_one a_two a_search a_outs c_t c_now c_now_cells c_now_faces c_now_kinds c_now_pledges c_now_ponds c_now_weights c_reader c_reader_bytes c_refusals c_trial c_trial_cells c_trial_faces c_trial_kinds c_trial_pledges c_trial_ponds c_trial_weights) sz) (res.1) (W_X5_island E a_t a_now a_now_cells a_now_faces a_now_kinds a_now_pledges a_now_ponds a_now_weights a_reader a_reader_bytes a_refusals a_trial a_trial_cells a_trial_faces a_trial_kinds a_trial_pledges a_trial_ponds a_trial_weights a_kept a_shelves a_one a_two a_search a_outs c_t (res.2.1) (res.2.2.1) (res.2.2.2.1) (res.2.2.2.2.1) (res.2.2.2.2.2.1) (res.2.2.2.2.2.2.1) (res.2.2.2.2.2.2.2.1) (res.2.2.2.2.2.2.2.2.1) c_reader_bytes (res.2.2.2.2.2.2.2.2.2.1) (res.2.2.2.2.2.2.2.2.2.2.1) (res.2.2.2.2.2.2.2.2.2.2.2.1) (res.2.2.2.2.2.2.2.2.2.2.2.2.1) (res.2.2.2.2.2.2.2.2.2.2.2.2.2.1) (res.2.2.2.2.2.2.2.2.2.2.2.2.2.2.1) (res.2.2.2.2.2.2.2.2.2.2.2.2.2.2.2.1) (res.2.2.2.2.2.2.2.2.2.2.2.2.2.2.2.2))) 0 0 (va_A (W_X5_island E a_t a_now a_now_cells a_now_faces a_now_kinds a_now_pledges a_now_ponds a_now_weights a_reader a_reader_bytes a_refusals a_trial a_trial_cells a_trial_faces a_trial_kinds a_trial_pledges a_trial_ponds a_trial_weights a_kept a_shelves a_one a_two a_search a_outs c_t c_now c_now_cells c_now_faces c_now_kinds c_now_pledges c_now_ponds c_now_weights c_reader c_reader_bytes c_refusals c_trial c_trial_cells c_trial_faces c_trial_kinds c_trial_pledges c_trial_ponds c_trial_weights) sz) :=
  met_of (Qc := fun A => qI E A (res.1) (W_X5_island E a_t a_now a_now_cells a_now_faces a_now_kinds a_now_pledges a_now_ponds a_now_weights a_reader a_reader_bytes a_refusals a_trial a_trial_cells a_trial_faces a_trial_kinds a_trial_pledges a_trial_ponds a_trial_weights a_kept a_shelves a_one a_two a_search a_outs c_t (res.2.1) (res.2.2.1) (res.2.2.2.1) (res.2.2.2.2.1) (res.2.2.2.2.2.1) (res.2.2.2.2.2.2.1) (res.2.2.2.2.2.2.2.1) (res.2.2.2.2.2.2.2.2.1) c_reader_bytes (res.2.2.2.2.2.2.2.2.2.1) (res.2.2.2.2.2.2.2.2.2.2.1) (res.2.2.2.2.2.2.2.2.2.2.2.1) (res.2.2.2.2.2.2.2.2.2.2.2.2.1) (res.2.2.2.2.2.2.2.2.2.2.2.2.2.1) (res.2.2.2.2.2.2.2.2.2.2.2.2.2.2.1) (res.2.2.2.2.2.2.2.2.2.2.2.2.2.2.2.1) (res.2.2.2.2.2.2.2.2.2.2.2.2.2.2.2.2))) (by decide) rfl (Nat.le_of_ble_eq_true rfl) (fun p e s m args below meth c X hP hD hS ls hl => w_X5_island X a_t a_now a_now_cells a_now_faces a_now_kinds a_now_pledges a_now_ponds a_now_weights a_reader a_reader_bytes a_refusals a_trial a_trial_cells a_trial_faces a_trial_kinds a_trial_pledges a_trial_ponds a_trial_weights a_kept a_shelves a_one a_two a_search a_outs c_t c_reader_bytes res c_now c_now_cells c_now_faces c_now_kinds c_now_pledges c_now_ponds c_now_weights c_reader c_refusals c_trial c_trial_cells c_trial_faces c_trial_kinds c_trial_pledges c_trial_ponds c_trial_weights ls _ _ h hP hD hS hl)
