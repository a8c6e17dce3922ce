-- ===== X1_isFull
abbrev W_X1_isFull (E : Env0) (a_t : Nat) (a_trial : Nat) (a_bytes : Nat) (c_t : Nat → Int32) : va_W := [(a_t, .inr (1, [.ref a_trial, .ref a_bytes, .int (c_t 2), .int (c_t 3), .int (c_t 4), .int (c_t 5), .int (c_t 6)]))]
abbrev r_X1_isFull : Room := { frames := 0, cells := 0, slots := 0, locals := 0 }
theorem hd_X1_isFull : yX1_isFull.cls ≠ "java/lang/invoke/MethodHandle" ∧ yX1_isFull.cls ≠ "java/lang/invoke/VarHandle" ∧ (parseMethodDescriptor yX1_isFull.desc).map (fun d => d.parameters.length) = some 0 := by decide +kernel
theorem hV_X1_isFull : yX1_isFull.cls = RX1 ∧ yX1_isFull.cls ≠ "java/lang/invoke/MethodHandle" ∧ yX1_isFull.cls ≠ "java/lang/invoke/VarHandle" ∧ (parseMethodDescriptor yX1_isFull.desc).map (fun d => d.parameters.length) = some 0 := ⟨rfl, hd_X1_isFull⟩
theorem iX1_isFull_X1 : ∀ w ∈ wsX10, w ∈ wsX1_isFull := fun _ h => List.mem_cons_of_mem _ (List.mem_append_right _ (h))
section
variable {p : Program} {l : Launch} {e : Env} {s : State} {m : MethodId} {args : Array Value} {below : List Frame} {meth : Method} {c : Code} {E : Env0} {A : Nat → Prop}
set_option maxRecDepth 100000 in
set_option maxHeartbeats 4000000 in
theorem w_X1_isFull (X : Ctx p m meth c cX1_isFull 1 ((some .boolean)) s args wsX1_isFull RX1 E A) (a_t : Nat) (a_trial : Nat) (a_bytes : Nat) (c_t : Nat → Int32) (res : Int32) (ls : Array Slot) (H : Heap) (locs : List Loc) (h : f_X1_isFull c_t = some res) (hP : va_P E.1 vwCl (W_X1_isFull E a_t a_trial a_bytes c_t) H) (hD : va_D A (W_X1_isFull E a_t a_trial a_bytes c_t)) (hS : va_S A s.heap H locs) (hl : lv_has ls 1 [(0, .ref a_t)]) : W p l e r_X1_isFull s m args below meth c H locs 0 0 (MQ below (qI E A res (W_X1_isFull E a_t a_trial a_bytes c_t)) args s 0 0 A) (F0 m 0 ls []) := by
  obtain ⟨hx, hb, hml, hr, hlk, hown, hts, hG, hA⟩ := id X
  have hK := hG.1
  have hN := hG.2.1
  unfold f_X1_isFull at h
  refine lv_aload_n hx hb dX1_isFull_0 rfl (lv_at hl 0 rfl) ?_
  refine va_get (D := E.1) (ci := 1) (v := .int (c_t 2)) (C := RX1) (T := TX1) (N := 7) hx hb hts iX1_isFull_X1 hown hK hP 0 rfl rfl 2 (by decide) (hts (.fieldLink RX1 15 "LeftIsAgreedOn$Reader" "size" "I") (List.mem_of_getElem? (i := 1) rfl)) (fun _ h9 => h9) rfl dX1_isFull_1 ?_
  refine lv_sipush (v := (250 : Int32)) hx hb dX1_isFull_4 (by decide) ?_
  refine lv_icmp_lt (tgt := 14) hx hb dX1_isFull_7 (by decide) (fun hc7 => ?_) (fun hc7 => ?_)
  · have h := if_t h hc7
    refine lv_iconst (v := (0 : Int32)) hx hb dX1_isFull_14 (by decide) ?_
    obtain rfl := Option.some.inj h
    exact ret_z X dX1_isFull_15 (by decide) hP hD hS rfl
  · have h := if_f h hc7
    refine lv_iconst (v := (1 : Int32)) hx hb dX1_isFull_10 (by decide) ?_
    refine lv_goto (tgt := 15) hx hb dX1_isFull_11 (by decide) ?_
    obtain rfl := Option.some.inj h
    exact ret_z X dX1_isFull_15 (by decide) hP hD hS rfl
end
set_option maxRecDepth 100000 in
theorem c_X1_isFull (l : Launch) (E : Env0) (a_t : Nat) (a_trial : Nat) (a_bytes : Nat) (c_t : Nat → Int32) (sz : Nat) (res : Int32) (h : f_X1_isFull c_t = some res) : Met l yX1_isFull wsX1_isFull r_X1_isFull (cPre E [.ref a_t] (W_X1_isFull E a_t a_trial a_bytes c_t) sz) (qI E (va_A (W_X1_isFull E a_t a_trial a_bytes c_t) sz) res (W_X1_isFull E a_t a_trial a_bytes c_t)) 0 0 (va_A (W_X1_isFull E a_t a_trial a_bytes c_t) sz) :=
  met_of (Qc := fun A => qI E A res (W_X1_isFull E a_t a_trial a_bytes c_t)) (by decide) rfl (Nat.le_of_ble_eq_true rfl) (fun p e s m args below meth c X hP hD hS ls hl => w_X1_isFull X a_t a_trial a_bytes c_t res ls _ _ h hP hD hS hl)
-- ===== X1_append
abbrev W_X1_append (E : Env0) (a_t : Nat) (a_bytes : Nat) (a_trial : Nat) (c_t : Nat → Int32) (c_bytes : Nat → Int32) : va_W := [(a_t, .inr (1, [.ref a_trial, .ref a_bytes, .int (c_t 2), .int (c_t 3), .int (c_t 4), .int (c_t 5), .int (c_t 6)])), (a_bytes, .inl (eI E, 250, .inl c_bytes))]
abbrev r_X1_append : Room := { frames := 1, cells := 0, slots := 0, locals := 20 }
theorem hd_X1_append : yX1_append.cls ≠ "java/lang/invoke/MethodHandle" ∧ yX1_append.cls ≠ "java/lang/invoke/VarHandle" ∧ (parseMethodDescriptor yX1_append.desc).map (fun d => d.parameters.length) = some 1 := by decide +kernel
theorem hV_X1_append : yX1_append.cls = RX1 ∧ yX1_append.cls ≠ "java/lang/invoke/MethodHandle" ∧ yX1_append.cls ≠ "java/lang/invoke/VarHandle" ∧ (parseMethodDescriptor yX1_append.desc).map (fun d => d.parameters.length) = some 1 := ⟨rfl, hd_X1_append⟩
theorem iX1_append_X1 : ∀ w ∈ wsX10, w ∈ wsX1_append := fun _ h => List.mem_cons_of_mem _ (List.mem_append_right _ (h))
section
variable {p : Program} {l : Launch} {e : Env} {s : State} {m : MethodId} {args : Array Value} {below : List Frame} {meth : Method} {c : Code} {E : Env0} {A : Nat → Prop}
set_option maxRecDepth 100000 in
set_option maxHeartbeats 4000000 in
theorem w_X1_append_b27 (X : Ctx p m meth c cX1_append 2 ((some .int)) s args wsX1_append RX1 E A) (a_t : Nat) (a_bytes : Nat) (a_trial : Nat) (res : Int32 × (Nat → Int32) × (Nat → Int32)) (c_t : Nat → Int32) (c_bytes : Nat → Int32) (ls : Array Slot) (H : Heap) (locs : List Loc) (h : f_X1_append_b27 c_t c_bytes = some res) (hP : va_P E.1 vwCl (W_X1_append E a_t a_bytes a_trial c_t c_bytes) H) (hD : va_D A (W_X1_append E a_t a_bytes a_trial c_t c_bytes)) (hS : va_S A s.heap H locs) (hl : lv_has ls 2 [(0, .ref a_t)]) : W p l e r_X1_append s m args below meth c H locs 0 0 (MQ below (qI E A (res.1) (W_X1_append E a_t a_bytes a_trial (res.2.1) (res.2.2))) args s 0 0 A) (F0 m 27 ls []) := by
  obtain ⟨hx, hb, hml, hr, hlk, hown, hts, hG, hA⟩ := id X
  have hK := hG.1
  have hN := hG.2.1
  unfold f_X1_append_b27 at h
  refine lv_aload_n hx hb dX1_append_27 rfl (lv_at hl 0 rfl) ?_
  refine va_get (D := E.1) (ci := 1) (v := .int (c_t 2)) (C := RX1) (T := TX1) (N := 7) hx hb hts iX1_append_X1 hown hK hP 0 rfl rfl 2 (by decide) (hts (.fieldLink RX1 15 "LeftIsAgreedOn$Reader" "size" "I") (List.mem_of_getElem? (i := 2) rfl)) (fun _ h9 => h9) rfl dX1_append_28 ?_
  obtain rfl := Option.some.inj h
  exact ret_i X dX1_append_31 hP hD hS rfl
set_option maxRecDepth 100000 in
set_option maxHeartbeats 4000000 in
theorem w_X1_append (X : Ctx p m meth c cX1_append 2 ((some .int)) s args wsX1_append RX1 E A) (a_t : Nat) (a_bytes : Nat) (a_trial : Nat) (res : Int32 × (Nat → Int32) × (Nat → Int32)) (c_t : Nat → Int32) (c_bytes : Nat → Int32) (l1 : Int32) (ls : Array Slot) (H : Heap) (locs : List Loc) (h : f_X1_append l1 c_t c_bytes = some res) (hP : va_P E.1 vwCl (W_X1_append E a_t a_bytes a_trial c_t c_bytes) H) (hD : va_D A (W_X1_append E a_t a_bytes a_trial c_t c_bytes)) (hS : va_S A s.heap H locs) (hl : lv_has ls 2 [(0, .ref a_t), (1, .int l1)]) : W p l e r_X1_append s m args below meth c H locs 0 0 (MQ below (qI E A (res.1) (W_X1_append E a_t a_bytes a_trial (res.2.1) (res.2.2))) args s 0 0 A) (F0 m 0 ls []) := by
  obtain ⟨hx, hb, hml, hr, hlk, hown, hts, hG, hA⟩ := id X
  have hK := hG.1
  have hN := hG.2.1
  unfold f_X1_append at h
  refine lv_aload_n hx hb dX1_append_0 rfl (lv_at hl 0 rfl) ?_
  obtain ⟨v1, hv1, h⟩ := bind_of h
  refine after_i X (run_V X (c_X1_isFull l E a_t a_trial a_bytes c_t H.size v1 hv1) (cwV 0 hts gX1_append_X1_isFull rfl rfl rfl hV_X1_isFull ⟨(Nat.le_of_ble_eq_true rfl), (Nat.le_of_ble_eq_true rfl)⟩) hP hD hS [0] rfl rfl hl.1 (ci := 1) rfl rfl rfl (rest := []) rfl rfl (Nat.le_of_ble_eq_true rfl) dX1_append_1) hP hD hS [0] [1] [1, 0] rfl rfl rfl (by decide) rfl (ws1 := (W_X1_append E a_t a_bytes a_trial c_t c_bytes)) rfl (fun H locs hP hD hS => ?_)
  refine lv_if_ne (tgt := 27) hx hb dX1_append_4 (by decide) (fun hc4 => ?_) (fun hc4 => ?_)
  · have h := if_f h hc4
    exact w_X1_append_b27 X a_t a_bytes a_trial res c_t c_bytes _ _ _ h hP hD hS (lv_sub hl [0] rfl)
  · have h := if_t h hc4
    refine lv_aload_n hx hb dX1_append_7 rfl (lv_at hl 0 rfl) ?_
    refine va_get (D := E.1) (ci := 1) (v := .ref a_bytes) (C := RX1) (T := TX1) (N := 7) hx hb hts iX1_append_X1 hown hK hP 0 rfl rfl 1 (by decide) (hts (.fieldLink RX1 11 "LeftIsAgreedOn$Reader" "bytes" "[I") (List.mem_of_getElem? (i := 1) rfl)) (fun _ h9 => h9) rfl dX1_append_8 ?_
    refine lv_aload_n hx hb dX1_append_11 rfl (lv_at hl 0 rfl) ?_
    refine va_get (D := E.1) (ci := 1) (v := .int (c_t 2)) (C := RX1) (T := TX1) (N := 7) hx hb hts iX1_append_X1 hown hK hP 0 rfl rfl 2 (by decide) (hts (.fieldLink RX1 15 "LeftIsAgreedOn$Reader" "size" "I") (List.mem_of_getElem? (i := 2) rfl)) (fun _ h9 => h9) rfl dX1_append_12 ?_
    refine lv_iload_n hx hb dX1_append_15 rfl (lv_at hl 1 rfl) ?_
    obtain ⟨hz16, h⟩ := chk_of h
    refine st_i X hP hD hS 1 rfl (inb.vp hz16) (k := ((c_t 2)).toNatClampNeg) rfl (ws1 := (W_X1_append E a_t a_bytes a_trial c_t (upd c_bytes (((c_t 2)).toNatClampNeg) l1))) rfl dX1_append_16 (fun H locs hP hD hS => ?_)
    refine lv_aload_n hx hb dX1_append_17 rfl (lv_at hl 0 rfl) ?_
    refine lv_dup hx hb dX1_append_18 rfl ?_
    refine va_get (D := E.1) (ci := 1) (v := .int (c_t 2)) (C := RX1) (T := TX1) (N := 7) hx hb hts iX1_append_X1 hown hK hP 0 rfl rfl 2 (by decide) (hts (.fieldLink RX1 15 "LeftIsAgreedOn$Reader" "size" "I") (List.mem_of_getElem? (i := 2) rfl)) (fun _ h9 => h9) rfl dX1_append_19 ?_
    refine lv_iconst (v := (1 : Int32)) hx hb dX1_append_22 (by decide) ?_
    refine lv_iadd hx hb dX1_append_23 ?_
    refine va_put (D := E.1) (ci := 1) (v := .int ((c_t 2) + (1 : Int32))) (ty := .int) (C := RX1) (T := TX1) (N := 7) hx hb hts iX1_append_X1 tyX1 tyX1_ok nmX1 hown hK hP hD hS 0 rfl rfl 2 (by decide) (hts (.fieldLink RX1 15 "LeftIsAgreedOn$Reader" "size" "I") (List.mem_of_getElem? (i := 2) rfl)) (fun _ h9 => h9) rfl (tyX1_ok 2 (by decide)) rfl rfl (Nat.le_of_ble_eq_true rfl) dX1_append_24 (fun H locs hP hD hS => ?_)
    have hP : va_P E.1 vwCl (W_X1_append E a_t a_bytes a_trial (upd c_t 2 ((c_t 2) + (1 : Int32))) (upd c_bytes (((c_t 2)).toNatClampNeg) l1)) H := hP
    have hD : va_D A (W_X1_append E a_t a_bytes a_trial (upd c_t 2 ((c_t 2) + (1 : Int32))) (upd c_bytes (((c_t 2)).toNatClampNeg) l1)) := hD
    exact w_X1_append_b27 X a_t a_bytes a_trial res (upd c_t 2 ((c_t 2) + (1 : Int32))) (upd c_bytes (((c_t 2)).toNatClampNeg) l1) _ _ _ h hP hD hS (lv_sub hl [0] rfl)
end
set_option maxRecDepth 100000 in
theorem c_X1_append (l : Launch) (E : Env0) (a_t : Nat) (a_bytes : Nat) (a_trial : Nat) (l1 : Int32) (c_t : Nat → Int32) (c_bytes : Nat → Int32) (sz : Nat) (res : Int32 × (Nat → Int32) × (Nat → Int32)) (h : f_X1_append l1 c_t c_bytes = some res) : Met l yX1_append wsX1_append r_X1_append (cPre E [.ref a_t, .int l1] (W_X1_append E a_t a_bytes a_trial c_t c_bytes) sz) (qI E (va_A (W_X1_append E a_t a_bytes a_trial c_t c_bytes) sz) (res.1) (W_X1_append E a_t a_bytes a_trial (res.2.1) (res.2.2))) 0 0 (va_A (W_X1_append E a_t a_bytes a_trial c_t c_bytes) sz) :=
  met_of (Qc := fun A => qI E A (res.1) (W_X1_append E a_t a_bytes a_trial (res.2.1) (res.2.2))) (by decide) rfl (Nat.le_of_ble_eq_true rfl) (fun p e s m args below meth c X hP hD hS ls hl => w_X1_append X a_t a_bytes a_trial res c_t c_bytes l1 ls _ _ h hP hD hS hl)
-- ===== X1_clear
abbrev W_X1_clear (E : Env0) (a_t : Nat) (a_trial : Nat) (a_bytes : Nat) (c_t : Nat → Int32) : va_W := [(a_t, .inr (1, [.ref a_trial, .ref a_bytes, .int (c_t 2), .int (c_t 3), .int (c_t 4), .int (c_t 5), .int (c_t 6)]))]
abbrev r_X1_clear : Room := { frames := 0, cells := 0, slots := 0, locals := 0 }
theorem hd_X1_clear : yX1_clear.cls ≠ "java/lang/invoke/MethodHandle" ∧ yX1_clear.cls ≠ "java/lang/invoke/VarHandle" ∧ (parseMethodDescriptor yX1_clear.desc).map (fun d => d.parameters.length) = some 0 := by decide +kernel
theorem hV_X1_clear : yX1_clear.cls = RX1 ∧ yX1_clear.cls ≠ "java/lang/invoke/MethodHandle" ∧ yX1_clear.cls ≠ "java/lang/invoke/VarHandle" ∧ (parseMethodDescriptor yX1_clear.desc).map (fun d => d.parameters.length) = some 0 := ⟨rfl, hd_X1_clear⟩
theorem iX1_clear_X1 : ∀ w ∈ wsX10, w ∈ wsX1_clear := fun _ h => List.mem_cons_of_mem _ (List.mem_append_right _ (h))
section
variable {p : Program} {l : Launch} {e : Env} {s : State} {m : MethodId} {args : Array Value} {below : List Frame} {meth : Method} {c : Code} {E : Env0} {A : Nat → Prop}
set_option maxRecDepth 100000 in
set_option maxHeartbeats 4000000 in
theorem w_X1_clear (X : Ctx p m meth c cX1_clear 2 ((some .int)) s args wsX1_clear RX1 E A) (a_t : Nat) (a_trial : Nat) (a_bytes : Nat) (res : Int32 × (Nat → Int32)) (c_t : Nat → Int32) (ls : Array Slot) (H : Heap) (locs : List Loc) (h : f_X1_clear c_t = some res) (hP : va_P E.1 vwCl (W_X1_clear E a_t a_trial a_bytes c_t) H) (hD : va_D A (W_X1_clear E a_t a_trial a_bytes c_t)) (hS : va_S A s.heap H locs) (hl : lv_has ls 2 [(0, .ref a_t)]) : W p l e r_X1_clear s m args below meth c H locs 0 0 (MQ below (qI E A (res.1) (W_X1_clear E a_t a_trial a_bytes (res.2))) args s 0 0 A) (F0 m 0 ls []) := by
  obtain ⟨hx, hb, hml, hr, hlk, hown, hts, hG, hA⟩ := id X
  have hK := hG.1
  have hN := hG.2.1
  unfold f_X1_clear at h
  refine lv_aload_n hx hb dX1_clear_0 rfl (lv_at hl 0 rfl) ?_
  refine va_get (D := E.1) (ci := 1) (v := .int (c_t 2)) (C := RX1) (T := TX1) (N := 7) hx hb hts iX1_clear_X1 hown hK hP 0 rfl rfl 2 (by decide) (hts (.fieldLink RX1 15 "LeftIsAgreedOn$Reader" "size" "I") (List.mem_of_getElem? (i := 1) rfl)) (fun _ h9 => h9) rfl dX1_clear_1 ?_
  refine lv_istore_n (lv' := [(1, .int (c_t 2)), (0, .ref a_t)]) hx hb dX1_clear_4 rfl hl (by decide) rfl (fun ls hl => ?_)
  refine lv_aload_n hx hb dX1_clear_5 rfl (lv_at hl 1 rfl) ?_
  refine lv_iconst (v := (0 : Int32)) hx hb dX1_clear_6 (by decide) ?_
  refine va_put (D := E.1) (ci := 1) (v := .int (0 : Int32)) (ty := .int) (C := RX1) (T := TX1) (N := 7) hx hb hts iX1_clear_X1 tyX1 tyX1_ok nmX1 hown hK hP hD hS 0 rfl rfl 2 (by decide) (hts (.fieldLink RX1 15 "LeftIsAgreedOn$Reader" "size" "I") (List.mem_of_getElem? (i := 1) rfl)) (fun _ h9 => h9) rfl (tyX1_ok 2 (by decide)) rfl rfl (Nat.le_of_ble_eq_true rfl) dX1_clear_7 (fun H locs hP hD hS => ?_)
  have hP : va_P E.1 vwCl (W_X1_clear E a_t a_trial a_bytes (upd c_t 2 (0 : Int32))) H := hP
  have hD : va_D A (W_X1_clear E a_t a_trial a_bytes (upd c_t 2 (0 : Int32))) := hD
  refine lv_iload_n hx hb dX1_clear_10 rfl (lv_at hl 0 rfl) ?_
  obtain rfl := Option.some.inj h
  exact ret_i X dX1_clear_11 hP hD hS rfl
end
set_option maxRecDepth 100000 in
theorem c_X1_clear (l : Launch) (E : Env0) (a_t : Nat) (a_trial : Nat) (a_bytes : Nat) (c_t : Nat → Int32) (sz : Nat) (res : Int32 × (Nat → Int32)) (h : f_X1_clear c_t = some res) : Met l yX1_clear wsX1_clear r_X1_clear (cPre E [.ref a_t] (W_X1_clear E a_t a_trial a_bytes c_t) sz) (qI E (va_A (W_X1_clear E a_t a_trial a_bytes c_t) sz) (res.1) (W_X1_clear E a_t a_trial a_bytes (res.2))) 0 0 (va_A (W_X1_clear E a_t a_trial a_bytes c_t) sz) :=
  met_of (Qc := fun A => qI E A (res.1) (W_X1_clear E a_t a_trial a_bytes (res.2))) (by decide) rfl (Nat.le_of_ble_eq_true rfl) (fun p e s m args below meth c X hP hD hS ls hl => w_X1_clear X a_t a_trial a_bytes res c_t ls _ _ h hP hD hS hl)
-- ===== X1_passAll
abbrev W_X1_passAll (E : Env0) (a_t : Nat) (a_bytes : Nat) (a_trial : Nat) (c_t : Nat → Int32) (c_bytes : Nat → Int32) : va_W := [(a_t, .inr (1, [.ref a_trial, .ref a_bytes, .int (c_t 2), .int (c_t 3), .int (c_t 4), .int (c_t 5), .int (c_t 6)])), (a_bytes, .inl (eI E, 250, .inl c_bytes))]
abbrev r_X1_passAll : Room := { frames := 0, cells := 0, slots := 0, locals := 0 }
theorem hd_X1_passAll : yX1_passAll.cls ≠ "java/lang/invoke/MethodHandle" ∧ yX1_passAll.cls ≠ "java/lang/invoke/VarHandle" ∧ (parseMethodDescriptor yX1_passAll.desc).map (fun d => d.parameters.length) = some 2 := by decide +kernel
theorem hV_X1_passAll : yX1_passAll.cls = RX1 ∧ yX1_passAll.cls ≠ "java/lang/invoke/MethodHandle" ∧ yX1_passAll.cls ≠ "java/lang/invoke/VarHandle" ∧ (parseMethodDescriptor yX1_passAll.desc).map (fun d => d.parameters.length) = some 2 := ⟨rfl, hd_X1_passAll⟩
theorem iX1_passAll_X1 : ∀ w ∈ wsX10, w ∈ wsX1_passAll := fun _ h => List.mem_cons_of_mem _ (List.mem_append_right _ (h))
section
variable {p : Program} {l : Launch} {e : Env} {s : State} {m : MethodId} {args : Array Value} {below : List Frame} {meth : Method} {c : Code} {E : Env0} {A : Nat → Prop}
set_option maxRecDepth 100000 in
set_option maxHeartbeats 4000000 in
theorem w_X1_passAll_b0 (X : Ctx p m meth c cX1_passAll 3 none s args wsX1_passAll RX1 E A) (a_t : Nat) (a_bytes : Nat) (a_trial : Nat) (c_bytes : Nat → Int32) (res : (Nat → Int32)) : ∀ (n : Nat) (c_t : Nat → Int32) (l1 : Int32) (l2 : Int32) (ls : Array Slot) (H : Heap) (locs : List Loc), f_X1_passAll_b0 c_bytes n c_t l1 l2 = some res → va_P E.1 vwCl (W_X1_passAll E a_t a_bytes a_trial c_t c_bytes) H → va_D A (W_X1_passAll E a_t a_bytes a_trial c_t c_bytes) → va_S A s.heap H locs → lv_has ls 3 [(0, .ref a_t), (1, .int l1), (2, .int l2)] → W p l e r_X1_passAll s m args below meth c H locs 0 0 (MQ below (qV E A (W_X1_passAll E a_t a_bytes a_trial res c_bytes)) args s 0 0 A) (F0 m 0 ls []) := by
  obtain ⟨hx, hb, hml, hr, hlk, hown, hts, hG, hA⟩ := id X
  have hK := hG.1
  have hN := hG.2.1
  intro n
  induction n with
  | zero =>
    intro c_t l1 l2 ls H locs h
    exact absurd (show (none : Option ((Nat → Int32))) = some res from h) (by intro q; cases q)
  | succ n ih =>
    intro c_t l1 l2 ls H locs h hP hD hS hl
    rw [f_X1_passAll_b0] at h
    refine lv_aload_n hx hb dX1_passAll_0 rfl (lv_at hl 0 rfl) ?_
    refine va_get (D := E.1) (ci := 1) (v := .int (c_t 3)) (C := RX1) (T := TX1) (N := 7) hx hb hts iX1_passAll_X1 hown hK hP 0 rfl rfl 3 (by decide) (hts (.fieldLink RX1 19 "LeftIsAgreedOn$Reader" "at" "I") (List.mem_of_getElem? (i := 1) rfl)) (fun _ h9 => h9) rfl dX1_passAll_1 ?_
    refine lv_aload_n hx hb dX1_passAll_4 rfl (lv_at hl 0 rfl) ?_
    refine va_get (D := E.1) (ci := 1) (v := .int (c_t 2)) (C := RX1) (T := TX1) (N := 7) hx hb hts iX1_passAll_X1 hown hK hP 0 rfl rfl 2 (by decide) (hts (.fieldLink RX1 15 "LeftIsAgreedOn$Reader" "size" "I") (List.mem_of_getElem? (i := 2) rfl)) (fun _ h9 => h9) rfl dX1_passAll_5 ?_
    refine lv_icmp_ge (tgt := 50) hx hb dX1_passAll_8 (by decide) (fun hc8 => ?_) (fun hc8 => ?_)
    · have h := if_t h hc8
      obtain rfl := Option.some.inj h
      exact ret_v X dX1_passAll_50 hP hD hS
    · have h := if_f h hc8
      refine lv_aload_n hx hb dX1_passAll_11 rfl (lv_at hl 0 rfl) ?_
      refine va_get (D := E.1) (ci := 1) (v := .ref a_bytes) (C := RX1) (T := TX1) (N := 7) hx hb hts iX1_passAll_X1 hown hK hP 0 rfl rfl 1 (by decide) (hts (.fieldLink RX1 11 "LeftIsAgreedOn$Reader" "bytes" "[I") (List.mem_of_getElem? (i := 3) rfl)) (fun _ h9 => h9) rfl dX1_passAll_12 ?_
      refine lv_aload_n hx hb dX1_passAll_15 rfl (lv_at hl 0 rfl) ?_
      refine va_get (D := E.1) (ci := 1) (v := .int (c_t 3)) (C := RX1) (T := TX1) (N := 7) hx hb hts iX1_passAll_X1 hown hK hP 0 rfl rfl 3 (by decide) (hts (.fieldLink RX1 19 "LeftIsAgreedOn$Reader" "at" "I") (List.mem_of_getElem? (i := 1) rfl)) (fun _ h9 => h9) rfl dX1_passAll_16 ?_
      obtain ⟨hz19, h⟩ := chk_of h
      refine ld_i X hP 1 rfl (inb.vp hz19) (v := (c_bytes ((c_t 3)).toNatClampNeg)) rfl dX1_passAll_19 ?_
      refine lv_iload_n hx hb dX1_passAll_20 rfl (lv_at hl 1 rfl) ?_
      refine lv_icmp_lt (tgt := 50) hx hb dX1_passAll_21 (by decide) (fun hc21 => ?_) (fun hc21 => ?_)
      · have h := if_t h hc21
        obtain rfl := Option.some.inj h
        exact ret_v X dX1_passAll_50 hP hD hS
      · have h := if_f h hc21
        refine lv_aload_n hx hb dX1_passAll_24 rfl (lv_at hl 0 rfl) ?_
        refine va_get (D := E.1) (ci := 1) (v := .ref a_bytes) (C := RX1) (T := TX1) (N := 7) hx hb hts iX1_passAll_X1 hown hK hP 0 rfl rfl 1 (by decide) (hts (.fieldLink RX1 11 "LeftIsAgreedOn$Reader" "bytes" "[I") (List.mem_of_getElem? (i := 3) rfl)) (fun _ h9 => h9) rfl dX1_passAll_25 ?_
        refine lv_aload_n hx hb dX1_passAll_28 rfl (lv_at hl 0 rfl) ?_
        refine va_get (D := E.1) (ci := 1) (v := .int (c_t 3)) (C := RX1) (T := TX1) (N := 7) hx hb hts iX1_passAll_X1 hown hK hP 0 rfl rfl 3 (by decide) (hts (.fieldLink RX1 19 "LeftIsAgreedOn$Reader" "at" "I") (List.mem_of_getElem? (i := 1) rfl)) (fun _ h9 => h9) rfl dX1_passAll_29 ?_
        obtain ⟨hz32, h⟩ := chk_of h
        refine ld_i X hP 1 rfl (inb.vp hz32) (v := (c_bytes ((c_t 3)).toNatClampNeg)) rfl dX1_passAll_32 ?_
        refine lv_iload_n hx hb dX1_passAll_33 rfl (lv_at hl 2 rfl) ?_
        refine lv_icmp_gt (tgt := 50) hx hb dX1_passAll_34 (by decide) (fun hc34 => ?_) (fun hc34 => ?_)
        · have h := if_t h hc34
          obtain rfl := Option.some.inj h
          exact ret_v X dX1_passAll_50 hP hD hS
        · have h := if_f h hc34
          refine lv_aload_n hx hb dX1_passAll_37 rfl (lv_at hl 0 rfl) ?_
          refine lv_dup hx hb dX1_passAll_38 rfl ?_
          refine va_get (D := E.1) (ci := 1) (v := .int (c_t 3)) (C := RX1) (T := TX1) (N := 7) hx hb hts iX1_passAll_X1 hown hK hP 0 rfl rfl 3 (by decide) (hts (.fieldLink RX1 19 "LeftIsAgreedOn$Reader" "at" "I") (List.mem_of_getElem? (i := 1) rfl)) (fun _ h9 => h9) rfl dX1_passAll_39 ?_
          refine lv_iconst (v := (1 : Int32)) hx hb dX1_passAll_42 (by decide) ?_
          refine lv_iadd hx hb dX1_passAll_43 ?_
          refine va_put (D := E.1) (ci := 1) (v := .int ((c_t 3) + (1 : Int32))) (ty := .int) (C := RX1) (T := TX1) (N := 7) hx hb hts iX1_passAll_X1 tyX1 tyX1_ok nmX1 hown hK hP hD hS 0 rfl rfl 3 (by decide) (hts (.fieldLink RX1 19 "LeftIsAgreedOn$Reader" "at" "I") (List.mem_of_getElem? (i := 1) rfl)) (fun _ h9 => h9) rfl (tyX1_ok 3 (by decide)) rfl rfl (Nat.le_of_ble_eq_true rfl) dX1_passAll_44 (fun H locs hP hD hS => ?_)
          have hP : va_P E.1 vwCl (W_X1_passAll E a_t a_bytes a_trial (upd c_t 3 ((c_t 3) + (1 : Int32))) c_bytes) H := hP
          have hD : va_D A (W_X1_passAll E a_t a_bytes a_trial (upd c_t 3 ((c_t 3) + (1 : Int32))) c_bytes) := hD
          refine lv_goto (tgt := 0) hx hb dX1_passAll_47 (by decide) ?_
          exact ih (upd c_t 3 ((c_t 3) + (1 : Int32))) l1 l2 _ _ _ h hP hD hS (lv_sub hl [0, 1, 2] rfl)
set_option maxRecDepth 100000 in
set_option maxHeartbeats 4000000 in
theorem w_X1_passAll (X : Ctx p m meth c cX1_passAll 3 none s args wsX1_passAll RX1 E A) (a_t : Nat) (a_bytes : Nat) (a_trial : Nat) (c_bytes : Nat → Int32) (res : (Nat → Int32)) (c_t : Nat → Int32) (l1 : Int32) (l2 : Int32) (ls : Array Slot) (H : Heap) (locs : List Loc) (h : f_X1_passAll l1 l2 c_t c_bytes = some res) (hP : va_P E.1 vwCl (W_X1_passAll E a_t a_bytes a_trial c_t c_bytes) H) (hD : va_D A (W_X1_passAll E a_t a_bytes a_trial c_t c_bytes)) (hS : va_S A s.heap H locs) (hl : lv_has ls 3 [(0, .ref a_t), (1, .int l1), (2, .int l2)]) : W p l e r_X1_passAll s m args below meth c H locs 0 0 (MQ below (qV E A (W_X1_passAll E a_t a_bytes a_trial res c_bytes)) args s 0 0 A) (F0 m 0 ls []) := by
  obtain ⟨hx, hb, hml, hr, hlk, hown, hts, hG, hA⟩ := id X
  have hK := hG.1
  have hN := hG.2.1
  unfold f_X1_passAll at h
  exact w_X1_passAll_b0 X a_t a_bytes a_trial c_bytes res FU c_t l1 l2 _ _ _ h hP hD hS (lv_sub hl [0, 1, 2] rfl)
end
set_option maxRecDepth 100000 in
theorem c_X1_passAll (l : Launch) (E : Env0) (a_t : Nat) (a_bytes : Nat) (a_trial : Nat) (l1 : Int32) (l2 : Int32) (c_t : Nat → Int32) (c_bytes : Nat → Int32) (sz : Nat) (res : (Nat → Int32)) (h : f_X1_passAll l1 l2 c_t c_bytes = some res) : Met l yX1_passAll wsX1_passAll r_X1_passAll (cPre E [.ref a_t, .int l1, .int l2] (W_X1_passAll E a_t a_bytes a_trial c_t c_bytes) sz) (qV E (va_A (W_X1_passAll E a_t a_bytes a_trial c_t c_bytes) sz) (W_X1_passAll E a_t a_bytes a_trial res c_bytes)) 0 0 (va_A (W_X1_passAll E a_t a_bytes a_trial c_t c_bytes) sz) :=
  met_of (Qc := fun A => qV E A (W_X1_passAll E a_t a_bytes a_trial res c_bytes)) (by decide) rfl (Nat.le_of_ble_eq_true rfl) (fun p e s m args below meth c X hP hD hS ls hl => w_X1_passAll X a_t a_bytes a_trial c_bytes res c_t l1 l2 ls _ _ h hP hD hS hl)
-- ===== X1_numberPassed
abbrev W_X1_numberPassed (E : Env0) (a_t : Nat) (a_bytes : Nat) (a_trial : Nat) (c_t : Nat → Int32) (c_bytes : Nat → Int32) : va_W := [(a_t, .inr (1, [.ref a_trial, .ref a_bytes, .int (c_t 2), .int (c_t 3), .int (c_t 4), .int (c_t 5), .int (c_t 6)])), (a_bytes, .inl (eI E, 250, .inl c_bytes))]
abbrev r_X1_numberPassed : Room := { frames := 0, cells := 0, slots := 0, locals := 0 }
theorem hd_X1_numberPassed : yX1_numberPassed.cls ≠ "java/lang/invoke/MethodHandle" ∧ yX1_numberPassed.cls ≠ "java/lang/invoke/VarHandle" ∧ (parseMethodDescriptor yX1_numberPassed.desc).map (fun d => d.parameters.length) = some 0 := by decide +kernel
theorem hV_X1_numberPassed : yX1_numberPassed.cls = RX1 ∧ yX1_numberPassed.cls ≠ "java/lang/invoke/MethodHandle" ∧ yX1_numberPassed.cls ≠ "java/lang/invoke/VarHandle" ∧ (parseMethodDescriptor yX1_numberPassed.desc).map (fun d => d.parameters.length) = some 0 := ⟨rfl, hd_X1_numberPassed⟩
theorem iX1_numberPassed_X1 : ∀ w ∈ wsX10, w ∈ wsX1_numberPassed := fun _ h => List.mem_cons_of_mem _ (List.mem_append_right _ (h))
section
variable {p : Program} {l : Launch} {e : Env} {s : State} {m : MethodId} {args : Array Value} {below : List Frame} {meth : Method} {c : Code} {E : Env0} {A : Nat → Prop}
set_option maxRecDepth 100000 in
set_option maxHeartbeats 4000000 in
theorem w_X1_numberPassed_b23 (X : Ctx p m meth c cX1_numberPassed 3 ((some .int)) s args wsX1_numberPassed RX1 E A) (a_t : Nat) (a_bytes : Nat) (a_trial : Nat) (c_t : Nat → Int32) (c_bytes : Nat → Int32) (res : Int32) : ∀ (n : Nat) (l1 : Int32) (l2 : Int32) (ls : Array Slot) (H : Heap) (locs : List Loc), f_X1_numberPassed_b23 c_t c_bytes n l1 l2 = some res → va_P E.1 vwCl (W_X1_numberPassed E a_t a_bytes a_trial c_t c_bytes) H → va_D A (W_X1_numberPassed E a_t a_bytes a_trial c_t c_bytes) → va_S A s.heap H locs → lv_has ls 3 [(0, .ref a_t), (1, .int l1), (2, .int l2)] → W p l e r_X1_numberPassed s m args below meth c H locs 0 0 (MQ below (qI E A res (W_X1_numberPassed E a_t a_bytes a_trial c_t c_bytes)) args s 0 0 A) (F0 m 23 ls []) := by
  obtain ⟨hx, hb, hml, hr, hlk, hown, hts, hG, hA⟩ := id X
  have hK := hG.1
  have hN := hG.2.1
  intro n
  induction n with
  | zero =>
    intro l1 l2 ls H locs h
    exact absurd (show (none : Option (Int32)) = some res from h) (by intro q; cases q)
  | succ n ih =>
    intro l1 l2 ls H locs h hP hD hS hl
    rw [f_X1_numberPassed_b23] at h
    refine lv_iload_n hx hb dX1_numberPassed_23 rfl (lv_at hl 2 rfl) ?_
    refine lv_aload_n hx hb dX1_numberPassed_24 rfl (lv_at hl 0 rfl) ?_
    refine va_get (D := E.1) (ci := 1) (v := .int (c_t 3)) (C := RX1) (T := TX1) (N := 7) hx hb hts iX1_numberPassed_X1 hown hK hP 0 rfl rfl 3 (by decide) (hts (.fieldLink RX1 19 "LeftIsAgreedOn$Reader" "at" "I") (List.mem_of_getElem? (i := 1) rfl)) (fun _ h9 => h9) rfl dX1_numberPassed_25 ?_
    refine lv_icmp_ge (tgt := 52) hx hb dX1_numberPassed_28 (by decide) (fun hc28 => ?_) (fun hc28 => ?_)
    · have h := if_t h hc28
      refine lv_iload_n hx hb dX1_numberPassed_52 rfl (lv_at hl 1 rfl) ?_
      obtain rfl := Option.some.inj h
      exact ret_i X dX1_numberPassed_53 hP hD hS rfl
    · have h := if_f h hc28
      refine lv_bipush (v := (10 : Int32)) hx hb dX1_numberPassed_31 (by decide) ?_
      refine lv_iload_n hx hb dX1_numberPassed_33 rfl (lv_at hl 1 rfl) ?_
      refine lv_imul hx hb dX1_numberPassed_34 ?_
      refine lv_aload_n hx hb dX1_numberPassed_35 rfl (lv_at hl 0 rfl) ?_
      refine va_get (D := E.1) (ci := 1) (v := .ref a_bytes) (C := RX1) (T := TX1) (N := 7) hx hb hts iX1_numberPassed_X1 hown hK hP 0 rfl rfl 1 (by decide) (hts (.fieldLink RX1 11 "LeftIsAgreedOn$Reader" "bytes" "[I") (List.mem_of_getElem? (i := 3) rfl)) (fun _ h9 => h9) rfl dX1_numberPassed_36 ?_
      refine lv_iload_n hx hb dX1_numberPassed_39 rfl (lv_at hl 2 rfl) ?_
      obtain ⟨hz40, h⟩ := chk_of h
      refine ld_i X hP 1 rfl (inb.vp hz40) (v := (c_bytes (l2).toNatClampNeg)) rfl dX1_numberPassed_40 ?_
      refine lv_iadd hx hb dX1_numberPassed_41 ?_
      refine lv_bipush (v := (48 : Int32)) hx hb dX1_numberPassed_42 (by decide) ?_
      refine lv_isub hx hb dX1_numberPassed_44 ?_
      refine lv_istore_n (lv' := [(1, .int ((((10 : Int32) * l1) + (c_bytes (l2).toNatClampNeg)) - (48 : Int32))), (0, .ref a_t), (2, .int l2)]) hx hb dX1_numberPassed_45 rfl hl (by decide) rfl (fun ls hl => ?_)
      refine lv_iinc (v := (l2 + (1 : Int32))) (lv' := [(2, .int (l2 + (1 : Int32))), (1, .int ((((10 : Int32) * l1) + (c_bytes (l2).toNatClampNeg)) - (48 : Int32))), (0, .ref a_t)]) hx hb dX1_numberPassed_46 hl (k := 2) rfl rfl (by decide) rfl (fun ls hl => ?_)
      refine lv_goto (tgt := 23) hx hb dX1_numberPassed_49 (by decide) ?_
      exact ih ((((10 : Int32) * l1) + (c_bytes (l2).toNatClampNeg)) - (48 : Int32)) (l2 + (1 : Int32)) _ _ _ h hP hD hS (lv_sub hl [2, 1, 0] rfl)
set_option maxRecDepth 100000 in
set_option maxHeartbeats 4000000 in
theorem w_X1_numberPassed (X : Ctx p m meth c cX1_numberPassed 3 ((some .int)) s args wsX1_numberPassed RX1 E A) (a_t : Nat) (a_bytes : Nat) (a_trial : Nat) (c_t : Nat → Int32) (c_bytes : Nat → Int32) (res : Int32) (ls : Array Slot) (H : Heap) (locs : List Loc) (h : f_X1_numberPassed c_t c_bytes = some res) (hP : va_P E.1 vwCl (W_X1_numberPassed E a_t a_bytes a_trial c_t c_bytes) H) (hD : va_D A (W_X1_numberPassed E a_t a_bytes a_trial c_t c_bytes)) (hS : va_S A s.heap H locs) (hl : lv_has ls 3 [(0, .ref a_t)]) : W p l e r_X1_numberPassed s m args below meth c H locs 0 0 (MQ below (qI E A res (W_X1_numberPassed E a_t a_bytes a_trial c_t c_bytes)) args s 0 0 A) (F0 m 0 ls []) := by
  obtain ⟨hx, hb, hml, hr, hlk, hown, hts, hG, hA⟩ := id X
  have hK := hG.1
  have hN := hG.2.1
  unfold f_X1_numberPassed at h
  refine lv_aload_n hx hb dX1_numberPassed_0 rfl (lv_at hl 0 rfl) ?_
  refine va_get (D := E.1) (ci := 1) (v := .int (c_t 3)) (C := RX1) (T := TX1) (N := 7) hx hb hts iX1_numberPassed_X1 hown hK hP 0 rfl rfl 3 (by decide) (hts (.fieldLink RX1 19 "LeftIsAgreedOn$Reader" "at" "I") (List.mem_of_getElem? (i := 1) rfl)) (fun _ h9 => h9) rfl dX1_numberPassed_1 ?_
  refine lv_aload_n hx hb dX1_numberPassed_4 rfl (lv_at hl 0 rfl) ?_
  refine va_get (D := E.1) (ci := 1) (v := .int (c_t 5)) (C := RX1) (T := TX1) (N := 7) hx hb hts iX1_numberPassed_X1 hown hK hP 0 rfl rfl 5 (by decide) (hts (.fieldLink RX1 25 "LeftIsAgreedOn$Reader" "tokenAt" "I") (List.mem_of_getElem? (i := 2) rfl)) (fun _ h9 => h9) rfl dX1_numberPassed_5 ?_
  refine lv_isub hx hb dX1_numberPassed_8 ?_
  refine lv_iconst (v := (2 : Int32)) hx hb dX1_numberPassed_9 (by decide) ?_
  refine lv_icmp_le (tgt := 16) hx hb dX1_numberPassed_10 (by decide) (fun hc10 => ?_) (fun hc10 => ?_)
  · have h := if_t h hc10
    refine lv_iconst (v := (0 : Int32)) hx hb dX1_numberPassed_16 (by decide) ?_
    refine lv_istore_n (lv' := [(1, .int (0 : Int32)), (0, .ref a_t)]) hx hb dX1_numberPassed_17 rfl hl (by decide) rfl (fun ls hl => ?_)
    refine lv_aload_n hx hb dX1_numberPassed_18 rfl (lv_at hl 1 rfl) ?_
    refine va_get (D := E.1) (ci := 1) (v := .int (c_t 5)) (C := RX1) (T := TX1) (N := 7) hx hb hts iX1_numberPassed_X1 hown hK hP 0 rfl rfl 5 (by decide) (hts (.fieldLink RX1 25 "LeftIsAgreedOn$Reader" "tokenAt" "I") (List.mem_of_getElem? (i := 2) rfl)) (fun _ h9 => h9) rfl dX1_numberPassed_19 ?_
    refine lv_istore_n (lv' := [(2, .int (c_t 5)), (1, .int (0 : Int32)), (0, .ref a_t)]) hx hb dX1_numberPassed_22 rfl hl (by decide) rfl (fun ls hl => ?_)
    exact w_X1_numberPassed_b23 X a_t a_bytes a_trial c_t c_bytes res FU (0 : Int32) (c_t 5) _ _ _ h hP hD hS (lv_sub hl [2, 1, 0] rfl)
  · have h := if_f h hc10
    refine lv_bipush (v := (100 : Int32)) hx hb dX1_numberPassed_13 (by decide) ?_
    obtain rfl := Option.some.inj h
    exact ret_i X dX1_numberPassed_15 hP hD hS rfl
end
set_option maxRecDepth 100000 in
theorem c_X1_numberPassed (l : Launch) (E : Env0) (a_t : Nat) (a_bytes : Nat) (a_trial : Nat) (c_t : Nat → Int32) (c_bytes : Nat → Int32) (sz : Nat) (res : Int32) (h : f_X1_numberPassed c_t c_bytes = some res) : Met l yX1_numberPassed wsX1_numberPassed r_X1_numberPassed (cPre E [.ref a_t] (W_X1_numberPassed E a_t a_bytes a_trial c_t c_bytes) sz) (qI E (va_A (W_X1_numberPassed E a_t a_bytes a_trial c_t c_bytes) sz) res (W_X1_numberPassed E a_t a_bytes a_trial c_t c_bytes)) 0 0 (va_A (W_X1_numberPassed E a_t a_bytes a_trial c_t c_bytes) sz) :=
  met_of (Qc := fun A => qI E A res (W_X1_numberPassed E a_t a_bytes a_trial c_t c_bytes)) (by decide) rfl (Nat.le_of_ble_eq_true rfl) (fun p e s m args below meth c X hP hD hS ls hl => w_X1_numberPassed X a_t a_bytes a_trial c_t c_bytes res ls _ _ h hP hD hS hl)
-- ===== X1_nextToken
abbrev W_X1_nextToken (E : Env0) (a_t : Nat) (a_bytes : Nat) (a_trial : Nat) (c_t : Nat → Int32) (c_bytes : Nat → Int32) : va_W := [(a_t, .inr (1, [.ref a_trial, .ref a_bytes, .int (c_t 2), .int (c_t 3), .int (c_t 4), .int (c_t 5), .int (c_t 6)])), (a_bytes, .inl (eI E, 250, .inl c_bytes))]
abbrev r_X1_nextToken : Room := { frames := 1, cells := 0, slots := 0, locals := 22 }
theorem hd_X1_nextToken : yX1_nextToken.cls ≠ "java/lang/invoke/MethodHandle" ∧ yX1_nextToken.cls ≠ "java/lang/invoke/VarHandle" ∧ (parseMethodDescriptor yX1_nextToken.desc).map (fun d => d.parameters.length) = some 0 := by decide +kernel
theorem hV_X1_nextToken : yX1_nextToken.cls = RX1 ∧ yX1_nextToken.cls ≠ "java/lang/invoke/MethodHandle" ∧ yX1_nextToken.cls ≠ "java/lang/invoke/VarHandle" ∧ (parseMethodDescriptor yX1_nextToken.desc).map (fun d => d.parameters.length) = some 0 := ⟨rfl, hd_X1_nextToken⟩
theorem iX1_nextToken_X1 : ∀ w ∈ wsX10, w ∈ wsX1_nextToken := fun _ h => List.mem_cons_of_mem _ (List.mem_append_right _ (h))
section
variable {p : Program} {l : Launch} {e : Env} {s : State} {m : MethodId} {args : Array Value} {below : List Frame} {meth : Method} {c : Code} {E : Env0} {A : Nat → Prop}
set_option maxRecDepth 100000 in
set_option maxHeartbeats 4000000 in
theorem w_X1_nextToken_b163 (X : Ctx p m meth c cX1_nextToken 1 none s args wsX1_nextToken RX1 E A) (a_t : Nat) (a_bytes : Nat) (a_trial : Nat) (c_bytes : Nat → Int32) (res : (Nat → Int32)) (c_t : Nat → Int32) (s0 : Int32) (ls : Array Slot) (H : Heap) (locs : List Loc) (h : f_X1_nextToken_b163 c_bytes c_t s0 = some res) (hP : va_P E.1 vwCl (W_X1_nextToken E a_t a_bytes a_trial c_t c_bytes) H) (hD : va_D A (W_X1_nextToken E a_t a_bytes a_trial c_t c_bytes)) (hS : va_S A s.heap H locs) (hl : lv_has ls 1 [(0, .ref a_t)]) : W p l e r_X1_nextToken s m args below meth c H locs 0 0 (MQ below (qV E A (W_X1_nextToken E a_t a_bytes a_trial res c_bytes)) args s 0 0 A) (F0 m 163 ls [.int s0, .ref a_t]) := by
  obtain ⟨hx, hb, hml, hr, hlk, hown, hts, hG, hA⟩ := id X
  have hK := hG.1
  have hN := hG.2.1
  unfold f_X1_nextToken_b163 at h
  refine va_put (D := E.1) (ci := 1) (v := .int s0) (ty := .int) (C := RX1) (T := TX1) (N := 7) hx hb hts iX1_nextToken_X1 tyX1 tyX1_ok nmX1 hown hK hP hD hS 0 rfl rfl 4 (by decide) (hts (.fieldLink RX1 22 "LeftIsAgreedOn$Reader" "token" "I") (List.mem_of_getElem? (i := 5) rfl)) (fun _ h9 => h9) rfl (tyX1_ok 4 (by decide)) rfl rfl (Nat.le_of_ble_eq_true rfl) dX1_nextToken_163 (fun H locs hP hD hS => ?_)
  have hP : va_P E.1 vwCl (W_X1_nextToken E a_t a_bytes a_trial (upd c_t 4 s0) c_bytes) H := hP
  have hD : va_D A (W_X1_nextToken E a_t a_bytes a_trial (upd c_t 4 s0) c_bytes) := hD
  refine lv_aload_n hx hb dX1_nextToken_166 rfl (lv_at hl 0 rfl) ?_
  refine lv_dup hx hb dX1_nextToken_167 rfl ?_
  refine va_get (D := E.1) (ci := 1) (v := .int ((upd c_t 4 s0) 3)) (C := RX1) (T := TX1) (N := 7) hx hb hts iX1_nextToken_X1 hown hK hP 0 rfl rfl 3 (by decide) (hts (.fieldLink RX1 19 "LeftIsAgreedOn$Reader" "at" "I") (List.mem_of_getElem? (i := 1) rfl)) (fun _ h9 => h9) rfl dX1_nextToken_168 ?_
  refine lv_iconst (v := (1 : Int32)) hx hb dX1_nextToken_171 (by decide) ?_
  refine lv_iadd hx hb dX1_nextToken_172 ?_
  refine va_put (D := E.1) (ci := 1) (v := .int (((upd c_t 4 s0) 3) + (1 : Int32))) (ty := .int) (C := RX1) (T := TX1) (N := 7) hx hb hts iX1_nextToken_X1 tyX1 tyX1_ok nmX1 hown hK hP hD hS 0 rfl rfl 3 (by decide) (hts (.fieldLink RX1 19 "LeftIsAgreedOn$Reader" "at" "I") (List.mem_of_getElem? (i := 1) rfl)) (fun _ h9 => h9) rfl (tyX1_ok 3 (by decide)) rfl rfl (Nat.le_of_ble_eq_true rfl) dX1_nextToken_173 (fun H locs hP hD hS => ?_)
  have hP : va_P E.1 vwCl (W_X1_nextToken E a_t a_bytes a_trial (upd (upd c_t 4 s0) 3 (((upd c_t 4 s0) 3) + (1 : Int32))) c_bytes) H := hP
  have hD : va_D A (W_X1_nextToken E a_t a_bytes a_trial (upd (upd c_t 4 s0) 3 (((upd c_t 4 s0) 3) + (1 : Int32))) c_bytes) := hD
  obtain rfl := Option.some.inj h
  exact ret_v X dX1_nextToken_176 hP hD hS
set_option maxRecDepth 100000 in
set_option maxHeartbeats 4000000 in
theorem w_X1_nextToken_b38 (X : Ctx p m meth c cX1_nextToken 1 none s args wsX1_nextToken RX1 E A) (a_t : Nat) (a_bytes : Nat) (a_trial : Nat) (c_bytes : Nat → Int32) (res : (Nat → Int32)) (c_t : Nat → Int32) (ls : Array Slot) (H : Heap) (locs : List Loc) (h : f_X1_nextToken_b38 c_bytes c_t = some res) (hP : va_P E.1 vwCl (W_X1_nextToken E a_t a_bytes a_trial c_t c_bytes) H) (hD : va_D A (W_X1_nextToken E a_t a_bytes a_trial c_t c_bytes)) (hS : va_S A s.heap H locs) (hl : lv_has ls 1 [(0, .ref a_t)]) : W p l e r_X1_nextToken s m args below meth c H locs 0 0 (MQ below (qV E A (W_X1_nextToken E a_t a_bytes a_trial res c_bytes)) args s 0 0 A) (F0 m 38 ls []) := by
  obtain ⟨hx, hb, hml, hr, hlk, hown, hts, hG, hA⟩ := id X
  have hK := hG.1
  have hN := hG.2.1
  unfold f_X1_nextToken_b38 at h
  refine lv_aload_n hx hb dX1_nextToken_38 rfl (lv_at hl 0 rfl) ?_
  refine lv_aload_n hx hb dX1_nextToken_39 rfl (lv_at hl 0 rfl) ?_
  refine va_get (D := E.1) (ci := 1) (v := .int (c_t 3)) (C := RX1) (T := TX1) (N := 7) hx hb hts iX1_nextToken_X1 hown hK hP 0 rfl rfl 3 (by decide) (hts (.fieldLink RX1 19 "LeftIsAgreedOn$Reader" "at" "I") (List.mem_of_getElem? (i := 1) rfl)) (fun _ h9 => h9) rfl dX1_nextToken_40 ?_
  refine va_put (D := E.1) (ci := 1) (v := .int (c_t 3)) (ty := .int) (C := RX1) (T := TX1) (N := 7) hx hb hts iX1_nextToken_X1 tyX1 tyX1_ok nmX1 hown hK hP hD hS 0 rfl rfl 5 (by decide) (hts (.fieldLink RX1 25 "LeftIsAgreedOn$Reader" "tokenAt" "I") (List.mem_of_getElem? (i := 4) rfl)) (fun _ h9 => h9) rfl (tyX1_ok 5 (by decide)) rfl rfl (Nat.le_of_ble_eq_true rfl) dX1_nextToken_43 (fun H locs hP hD hS => ?_)
  have hP : va_P E.1 vwCl (W_X1_nextToken E a_t a_bytes a_trial (upd c_t 5 (c_t 3)) c_bytes) H := hP
  have hD : va_D A (W_X1_nextToken E a_t a_bytes a_trial (upd c_t 5 (c_t 3)) c_bytes) := hD
  refine lv_aload_n hx hb dX1_nextToken_46 rfl (lv_at hl 0 rfl) ?_
  refine va_get (D := E.1) (ci := 1) (v := .int ((upd c_t 5 (c_t 3)) 3)) (C := RX1) (T := TX1) (N := 7) hx hb hts iX1_nextToken_X1 hown hK hP 0 rfl rfl 3 (by decide) (hts (.fieldLink RX1 19 "LeftIsAgreedOn$Reader" "at" "I") (List.mem_of_getElem? (i := 1) rfl)) (fun _ h9 => h9) rfl dX1_nextToken_47 ?_
  refine lv_aload_n hx hb dX1_nextToken_50 rfl (lv_at hl 0 rfl) ?_
  refine va_get (D := E.1) (ci := 1) (v := .int ((upd c_t 5 (c_t 3)) 2)) (C := RX1) (T := TX1) (N := 7) hx hb hts iX1_nextToken_X1 hown hK hP 0 rfl rfl 2 (by decide) (hts (.fieldLink RX1 15 "LeftIsAgreedOn$Reader" "size" "I") (List.mem_of_getElem? (i := 2) rfl)) (fun _ h9 => h9) rfl dX1_nextToken_51 ?_
  refine lv_icmp_lt (tgt := 65) hx hb dX1_nextToken_54 (by decide) (fun hc54 => ?_) (fun hc54 => ?_)
  · have h := if_t h hc54
    refine lv_aload_n hx hb dX1_nextToken_65 rfl (lv_at hl 0 rfl) ?_
    refine va_get (D := E.1) (ci := 1) (v := .ref a_bytes) (C := RX1) (T := TX1) (N := 7) hx hb hts iX1_nextToken_X1 hown hK hP 0 rfl rfl 1 (by decide) (hts (.fieldLink RX1 11 "LeftIsAgreedOn$Reader" "bytes" "[I") (List.mem_of_getElem? (i := 3) rfl)) (fun _ h9 => h9) rfl dX1_nextToken_66 ?_
    refine lv_aload_n hx hb dX1_nextToken_69 rfl (lv_at hl 0 rfl) ?_
    refine va_get (D := E.1) (ci := 1) (v := .int ((upd c_t 5 (c_t 3)) 3)) (C := RX1) (T := TX1) (N := 7) hx hb hts iX1_nextToken_X1 hown hK hP 0 rfl rfl 3 (by decide) (hts (.fieldLink RX1 19 "LeftIsAgreedOn$Reader" "at" "I") (List.mem_of_getElem? (i := 1) rfl)) (fun _ h9 => h9) rfl dX1_nextToken_70 ?_
    obtain ⟨hz73, h⟩ := chk_of h
    refine ld_i X hP 1 rfl (inb.vp hz73) (v := (c_bytes (((upd c_t 5 (c_t 3)) 3)).toNatClampNeg)) rfl dX1_nextToken_73 ?_
    refine lv_bipush (v := (97 : Int32)) hx hb dX1_nextToken_74 (by decide) ?_
    refine lv_bipush (v := (122 : Int32)) hx hb dX1_nextToken_76 (by decide) ?_
    obtain ⟨v1, hv1, h⟩ := bind_of h
    refine after_i X (run_SN X (c_X5_isWithin l E (c_bytes (((upd c_t 5 (c_t 3)) 3)).toNatClampNeg) (97 : Int32) (122 : Int32) H.size v1 hv1) ⟨va_cnB 3 hts gX1_nextToken_X5_isWithin_n125 rfl rfl rfl (hN.2 _ (List.mem_of_getElem? (i := 4) rfl)) (hts (.initialized RX5) (List.mem_of_getElem? (i := 8) rfl)) hd_X5_isWithin ⟨(Nat.le_of_ble_eq_true rfl), (Nat.le_of_ble_eq_true rfl)⟩, (hts (.static yX5_isWithin) (List.mem_of_getElem? (i := 7) rfl)), trivial⟩ hP hD hS [] rfl rfl hl.1 (rest := []) rfl rfl (Nat.le_of_ble_eq_true rfl) dX1_nextToken_78) hP hD hS [] [0, 1] [0, 1] rfl rfl rfl (by decide) rfl (ws1 := (W_X1_nextToken E a_t a_bytes a_trial (upd c_t 5 (c_t 3)) c_bytes)) rfl (fun H locs hP hD hS => ?_)
    refine lv_if_eq (tgt := 100) hx hb dX1_nextToken_81 (by decide) (fun hc81 => ?_) (fun hc81 => ?_)
    · have h := if_t h hc81
      refine lv_aload_n hx hb dX1_nextToken_100 rfl (lv_at hl 0 rfl) ?_
      refine va_get (D := E.1) (ci := 1) (v := .ref a_bytes) (C := RX1) (T := TX1) (N := 7) hx hb hts iX1_nextToken_X1 hown hK hP 0 rfl rfl 1 (by decide) (hts (.fieldLink RX1 11 "LeftIsAgreedOn$Reader" "bytes" "[I") (List.mem_of_getElem? (i := 3) rfl)) (fun _ h9 => h9) rfl dX1_nextToken_101 ?_
      refine lv_aload_n hx hb dX1_nextToken_104 rfl (lv_at hl 0 rfl) ?_
      refine va_get (D := E.1) (ci := 1) (v := .int ((upd c_t 5 (c_t 3)) 3)) (C := RX1) (T := TX1) (N := 7) hx hb hts iX1_nextToken_X1 hown hK hP 0 rfl rfl 3 (by decide) (hts (.fieldLink RX1 19 "LeftIsAgreedOn$Reader" "at" "I") (List.mem_of_getElem? (i := 1) rfl)) (fun _ h9 => h9) rfl dX1_nextToken_105 ?_
      obtain ⟨hz108, h⟩ := chk_of h
      refine ld_i X hP 1 rfl (inb.vp hz108) (v := (c_bytes (((upd c_t 5 (c_t 3)) 3)).toNatClampNeg)) rfl dX1_nextToken_108 ?_
      refine lv_bipush (v := (48 : Int32)) hx hb dX1_nextToken_109 (by decide) ?_
      refine lv_bipush (v := (57 : Int32)) hx hb dX1_nextToken_111 (by decide) ?_
      obtain ⟨v2, hv2, h⟩ := bind_of h
      refine after_i X (run_SN X (c_X5_isWithin l E (c_bytes (((upd c_t 5 (c_t 3)) 3)).toNatClampNeg) (48 : Int32) (57 : Int32) H.size v2 hv2) ⟨va_cnB 3 hts gX1_nextToken_X5_isWithin_n125 rfl rfl rfl (hN.2 _ (List.mem_of_getElem? (i := 4) rfl)) (hts (.initialized RX5) (List.mem_of_getElem? (i := 8) rfl)) hd_X5_isWithin ⟨(Nat.le_of_ble_eq_true rfl), (Nat.le_of_ble_eq_true rfl)⟩, (hts (.static yX5_isWithin) (List.mem_of_getElem? (i := 7) rfl)), trivial⟩ hP hD hS [] rfl rfl hl.1 (rest := []) rfl rfl (Nat.le_of_ble_eq_true rfl) dX1_nextToken_113) hP hD hS [] [0, 1] [0, 1] rfl rfl rfl (by decide) rfl (ws1 := (W_X1_nextToken E a_t a_bytes a_trial (upd c_t 5 (c_t 3)) c_bytes)) rfl (fun H locs hP hD hS => ?_)
      refine lv_if_eq (tgt := 143) hx hb dX1_nextToken_116 (by decide) (fun hc116 => ?_) (fun hc116 => ?_)
      · have h := if_t h hc116
        refine lv_aload_n hx hb dX1_nextToken_143 rfl (lv_at hl 0 rfl) ?_
        refine lv_aload_n hx hb dX1_nextToken_144 rfl (lv_at hl 0 rfl) ?_
        refine va_get (D := E.1) (ci := 1) (v := .ref a_bytes) (C := RX1) (T := TX1) (N := 7) hx hb hts iX1_nextToken_X1 hown hK hP 0 rfl rfl 1 (by decide) (hts (.fieldLink RX1 11 "LeftIsAgreedOn$Reader" "bytes" "[I") (List.mem_of_getElem? (i := 3) rfl)) (fun _ h9 => h9) rfl dX1_nextToken_145 ?_
        refine lv_aload_n hx hb dX1_nextToken_148 rfl (lv_at hl 0 rfl) ?_
        refine va_get (D := E.1) (ci := 1) (v := .int ((upd c_t 5 (c_t 3)) 3)) (C := RX1) (T := TX1) (N := 7) hx hb hts iX1_nextToken_X1 hown hK hP 0 rfl rfl 3 (by decide) (hts (.fieldLink RX1 19 "LeftIsAgreedOn$Reader" "at" "I") (List.mem_of_getElem? (i := 1) rfl)) (fun _ h9 => h9) rfl dX1_nextToken_149 ?_
        obtain ⟨hz152, h⟩ := chk_of h
        refine ld_i X hP 1 rfl (inb.vp hz152) (v := (c_bytes (((upd c_t 5 (c_t 3)) 3)).toNatClampNeg)) rfl dX1_nextToken_152 ?_
        refine lv_bipush (v := (59 : Int32)) hx hb dX1_nextToken_153 (by decide) ?_
        refine lv_icmp_ne (tgt := 162) hx hb dX1_nextToken_155 (by decide) (fun hc155 => ?_) (fun hc155 => ?_)
        · have h := if_f h hc155
          refine lv_iconst (v := (4 : Int32)) hx hb dX1_nextToken_162 (by decide) ?_
          exact w_X1_nextToken_b163 X a_t a_bytes a_trial c_bytes res (upd c_t 5 (c_t 3)) (4 : Int32) _ _ _ h hP hD hS (lv_sub hl [0] rfl)
        · have h := if_t h hc155
          refine lv_iconst (v := (3 : Int32)) hx hb dX1_nextToken_158 (by decide) ?_
          refine lv_goto (tgt := 163) hx hb dX1_nextToken_159 (by decide) ?_
          exact w_X1_nextToken_b163 X a_t a_bytes a_trial c_bytes res (upd c_t 5 (c_t 3)) (3 : Int32) _ _ _ h hP hD hS (lv_sub hl [0] rfl)
      · have h := if_f h hc116
        refine lv_aload_n hx hb dX1_nextToken_119 rfl (lv_at hl 0 rfl) ?_
        refine lv_iconst (v := (2 : Int32)) hx hb dX1_nextToken_120 (by decide) ?_
        refine va_put (D := E.1) (ci := 1) (v := .int (2 : Int32)) (ty := .int) (C := RX1) (T := TX1) (N := 7) hx hb hts iX1_nextToken_X1 tyX1 tyX1_ok nmX1 hown hK hP hD hS 0 rfl rfl 4 (by decide) (hts (.fieldLink RX1 22 "LeftIsAgreedOn$Reader" "token" "I") (List.mem_of_getElem? (i := 5) rfl)) (fun _ h9 => h9) rfl (tyX1_ok 4 (by decide)) rfl rfl (Nat.le_of_ble_eq_true rfl) dX1_nextToken_121 (fun H locs hP hD hS => ?_)
        have hP : va_P E.1 vwCl (W_X1_nextToken E a_t a_bytes a_trial (upd (upd c_t 5 (c_t 3)) 4 (2 : Int32)) c_bytes) H := hP
        have hD : va_D A (W_X1_nextToken E a_t a_bytes a_trial (upd (upd c_t 5 (c_t 3)) 4 (2 : Int32)) c_bytes) := hD
        refine lv_aload_n hx hb dX1_nextToken_124 rfl (lv_at hl 0 rfl) ?_
        refine lv_bipush (v := (48 : Int32)) hx hb dX1_nextToken_125 (by decide) ?_
        refine lv_bipush (v := (57 : Int32)) hx hb dX1_nextToken_127 (by decide) ?_
        obtain ⟨v3, hv3, h⟩ := bind_of h
        refine after_v X (run_V X (c_X1_passAll l E a_t a_bytes a_trial (48 : Int32) (57 : Int32) (upd (upd c_t 5 (c_t 3)) 4 (2 : Int32)) c_bytes H.size v3 hv3) (cwV 2 hts gX1_nextToken_X1_passAll rfl rfl rfl hV_X1_passAll ⟨(Nat.le_of_ble_eq_true rfl), (Nat.le_of_ble_eq_true rfl)⟩) hP hD hS [0, 1] rfl rfl hl.1 (ci := 1) rfl rfl rfl (rest := []) rfl rfl (Nat.le_of_ble_eq_true rfl) dX1_nextToken_129) hP hD hS [0, 1] [] [0, 1] rfl rfl rfl (by decide) rfl (ws1 := (W_X1_nextToken E a_t a_bytes a_trial v3 c_bytes)) rfl (fun H locs hP hD hS => ?_)
        refine lv_aload_n hx hb dX1_nextToken_132 rfl (lv_at hl 0 rfl) ?_
        refine lv_aload_n hx hb dX1_nextToken_133 rfl (lv_at hl 0 rfl) ?_
        obtain ⟨v4, hv4, h⟩ := bind_of h
        refine after_i X (run_V X (c_X1_numberPassed l E a_t a_bytes a_trial v3 c_bytes H.size v4 hv4) (cwV 0 hts gX1_nextToken_X1_numberPassed rfl rfl rfl hV_X1_numberPassed ⟨(Nat.le_of_ble_eq_true rfl), (Nat.le_of_ble_eq_true rfl)⟩) hP hD hS [0, 1] rfl rfl hl.1 (ci := 1) rfl rfl rfl (rest := [.ref a_t]) rfl rfl (Nat.le_of_ble_eq_true rfl) dX1_nextToken_134) hP hD hS [0, 1] [] [0, 1] rfl rfl rfl (by decide) rfl (ws1 := (W_X1_nextToken E a_t a_bytes a_trial v3 c_bytes)) rfl (fun H locs hP hD hS => ?_)
        refine va_put (D := E.1) (ci := 1) (v := .int v4) (ty := .int) (C := RX1) (T := TX1) (N := 7) hx hb hts iX1_nextToken_X1 tyX1 tyX1_ok nmX1 hown hK hP hD hS 0 rfl rfl 6 (by decide) (hts (.fieldLink RX1 28 "LeftIsAgreedOn$Reader" "value" "I") (List.mem_of_getElem? (i := 6) rfl)) (fun _ h9 => h9) rfl (tyX1_ok 6 (by decide)) rfl rfl (Nat.le_of_ble_eq_true rfl) dX1_nextToken_137 (fun H locs hP hD hS => ?_)
        have hP : va_P E.1 vwCl (W_X1_nextToken E a_t a_bytes a_trial (upd v3 6 v4) c_bytes) H := hP
        have hD : va_D A (W_X1_nextToken E a_t a_bytes a_trial (upd v3 6 v4) c_bytes) := hD
        refine lv_goto (tgt := 176) hx hb dX1_nextToken_140 (by decide) ?_
        obtain rfl := Option.some.inj h
        exact ret_v X dX1_nextToken_176 hP hD hS
    · have h := if_f h hc81
      refine lv_aload_n hx hb dX1_nextToken_84 rfl (lv_at hl 0 rfl) ?_
      refine lv_iconst (v := (1 : Int32)) hx hb dX1_nextToken_85 (by decide) ?_
      refine va_put (D := E.1) (ci := 1) (v := .int (1 : Int32)) (ty := .int) (C := RX1) (T := TX1) (N := 7) hx hb hts iX1_nextToken_X1 tyX1 tyX1_ok nmX1 hown hK hP hD hS 0 rfl rfl 4 (by decide) (hts (.fieldLink RX1 22 "LeftIsAgreedOn$Reader" "token" "I") (List.mem_of_getElem? (i := 5) rfl)) (fun _ h9 => h9) rfl (tyX1_ok 4 (by decide)) rfl rfl (Nat.le_of_ble_eq_true rfl) dX1_nextToken_86 (fun H locs hP hD hS => ?_)
      have hP : va_P E.1 vwCl (W_X1_nextToken E a_t a_bytes a_trial (upd (upd c_t 5 (c_t 3)) 4 (1 : Int32)) c_bytes) H := hP
      have hD : va_D A (W_X1_nextToken E a_t a_bytes a_trial (upd (upd c_t 5 (c_t 3)) 4 (1 : Int32)) c_bytes) := hD
      refine lv_aload_n hx hb dX1_nextToken_89 rfl (lv_at hl 0 rfl) ?_
      refine lv_bipush (v := (97 : Int32)) hx hb dX1_nextToken_90 (by decide) ?_
      refine lv_bipush (v := (122 : Int32)) hx hb dX1_nextToken_92 (by decide) ?_
      obtain ⟨v5, hv5, h⟩ := bind_of h
      refine after_v X (run_V X (c_X1_passAll l E a_t a_bytes a_trial (97 : Int32) (122 : Int32) (upd (upd c_t 5 (c_t 3)) 4 (1 : Int32)) c_bytes H.size v5 hv5) (cwV 2 hts gX1_nextToken_X1_passAll rfl rfl rfl hV_X1_passAll ⟨(Nat.le_of_ble_eq_true rfl), (Nat.le_of_ble_eq_true rfl)⟩) hP hD hS [0, 1] rfl rfl hl.1 (ci := 1) rfl rfl rfl (rest := []) rfl rfl (Nat.le_of_ble_eq_true rfl) dX1_nextToken_94) hP hD hS [0, 1] [] [0, 1] rfl rfl rfl (by decide) rfl (ws1 := (W_X1_nextToken E a_t a_bytes a_trial v5 c_bytes)) rfl (fun H locs hP hD hS => ?_)
      refine lv_goto (tgt := 176) hx hb dX1_nextToken_97 (by decide) ?_
      obtain rfl := Option.some.inj h
      exact ret_v X dX1_nextToken_176 hP hD hS
  · have h := if_f h hc54
    refine lv_aload_n hx hb dX1_nextToken_57 rfl (lv_at hl 0 rfl) ?_
    refine lv_iconst (v := (0 : Int32)) hx hb dX1_nextToken_58 (by decide) ?_
    refine va_put (D := E.1) (ci := 1) (v := .int (0 : Int32)) (ty := .int) (C := RX1) (T := TX1) (N := 7) hx hb hts iX1_nextToken_X1 tyX1 tyX1_ok nmX1 hown hK hP hD hS 0 rfl rfl 4 (by decide) (hts (.fieldLink RX1 22 "LeftIsAgreedOn$Reader" "token" "I") (List.mem_of_getElem? (i := 5) rfl)) (fun _ h9 => h9) rfl (tyX1_ok 4 (by decide)) rfl rfl (Nat.le_of_ble_eq_true rfl) dX1_nextToken_59 (fun H locs hP hD hS => ?_)
    have hP : va_P E.1 vwCl (W_X1_nextToken E a_t a_bytes a_trial (upd (upd c_t 5 (c_t 3)) 4 (0 : Int32)) c_bytes) H := hP
    have hD : va_D A (W_X1_nextToken E a_t a_bytes a_trial (upd (upd c_t 5 (c_t 3)) 4 (0 : Int32)) c_bytes) := hD
    refine lv_goto (tgt := 176) hx hb dX1_nextToken_62 (by decide) ?_
    obtain rfl := Option.some.inj h
    exact ret_v X dX1_nextToken_176 hP hD hS
set_option maxRecDepth 100000 in
set_option maxHeartbeats 4000000 in
theorem w_X1_nextToken_b0 (X : Ctx p m meth c cX1_nextToken 1 none s args wsX1_nextToken RX1 E A) (a_t : Nat) (a_bytes : Nat) (a_trial : Nat) (c_bytes : Nat → Int32) (res : (Nat → Int32)) : ∀ (n : Nat) (c_t : Nat → Int32) (ls : Array Slot) (H : Heap) (locs : List Loc), f_X1_nextToken_b0 c_bytes n c_t = some res → va_P E.1 vwCl (W_X1_nextToken E a_t a_bytes a_trial c_t c_bytes) H → va_D A (W_X1_nextToken E a_t a_bytes a_trial c_t c_bytes) → va_S A s.heap H locs → lv_has ls 1 [(0, .ref a_t)] → W p l e r_X1_nextToken s m args below meth c H locs 0 0 (MQ below (qV E A (W_X1_nextToken E a_t a_bytes a_trial res c_bytes)) args s 0 0 A) (F0 m 0 ls []) := by
  obtain ⟨hx, hb, hml, hr, hlk, hown, hts, hG, hA⟩ := id X
  have hK := hG.1
  have hN := hG.2.1
  intro n
  induction n with
  | zero =>
    intro c_t ls H locs h
    exact absurd (show (none : Option ((Nat → Int32))) = some res from h) (by intro q; cases q)
  | succ n ih =>
    intro c_t ls H locs h hP hD hS hl
    rw [f_X1_nextToken_b0] at h
    refine lv_aload_n hx hb dX1_nextToken_0 rfl (lv_at hl 0 rfl) ?_
    refine va_get (D := E.1) (ci := 1) (v := .int (c_t 3)) (C := RX1) (T := TX1) (N := 7) hx hb hts iX1_nextToken_X1 hown hK hP 0 rfl rfl 3 (by decide) (hts (.fieldLink RX1 19 "LeftIsAgreedOn$Reader" "at" "I") (List.mem_of_getElem? (i := 1) rfl)) (fun _ h9 => h9) rfl dX1_nextToken_1 ?_
    refine lv_aload_n hx hb dX1_nextToken_4 rfl (lv_at hl 0 rfl) ?_
    refine va_get (D := E.1) (ci := 1) (v := .int (c_t 2)) (C := RX1) (T := TX1) (N := 7) hx hb hts iX1_nextToken_X1 hown hK hP 0 rfl rfl 2 (by decide) (hts (.fieldLink RX1 15 "LeftIsAgreedOn$Reader" "size" "I") (List.mem_of_getElem? (i := 2) rfl)) (fun _ h9 => h9) rfl dX1_nextToken_5 ?_
    refine lv_icmp_ge (tgt := 38) hx hb dX1_nextToken_8 (by decide) (fun hc8 => ?_) (fun hc8 => ?_)
    · have h := if_t h hc8
      exact w_X1_nextToken_b38 X a_t a_bytes a_trial c_bytes res c_t _ _ _ h hP hD hS (lv_sub hl [0] rfl)
    · have h := if_f h hc8
      refine lv_aload_n hx hb dX1_nextToken_11 rfl (lv_at hl 0 rfl) ?_
      refine va_get (D := E.1) (ci := 1) (v := .ref a_bytes) (C := RX1) (T := TX1) (N := 7) hx hb hts iX1_nextToken_X1 hown hK hP 0 rfl rfl 1 (by decide) (hts (.fieldLink RX1 11 "LeftIsAgreedOn$Reader" "bytes" "[I") (List.mem_of_getElem? (i := 3) rfl)) (fun _ h9 => h9) rfl dX1_nextToken_12 ?_
      refine lv_aload_n hx hb dX1_nextToken_15 rfl (lv_at hl 0 rfl) ?_
      refine va_get (D := E.1) (ci := 1) (v := .int (c_t 3)) (C := RX1) (T := TX1) (N := 7) hx hb hts iX1_nextToken_X1 hown hK hP 0 rfl rfl 3 (by decide) (hts (.fieldLink RX1 19 "LeftIsAgreedOn$Reader" "at" "I") (List.mem_of_getElem? (i := 1) rfl)) (fun _ h9 => h9) rfl dX1_nextToken_16 ?_
      obtain ⟨hz19, h⟩ := chk_of h
      refine ld_i X hP 1 rfl (inb.vp hz19) (v := (c_bytes ((c_t 3)).toNatClampNeg)) rfl dX1_nextToken_19 ?_
      refine lv_bipush (v := (32 : Int32)) hx hb dX1_nextToken_20 (by decide) ?_
      refine lv_icmp_ne (tgt := 38) hx hb dX1_nextToken_22 (by decide) (fun hc22 => ?_) (fun hc22 => ?_)
      · have h := if_f h hc22
        exact w_X1_nextToken_b38 X a_t a_bytes a_trial c_bytes res c_t _ _ _ h hP hD hS (lv_sub hl [0] rfl)
      · have h := if_t h hc22
        refine lv_aload_n hx hb dX1_nextToken_25 rfl (lv_at hl 0 rfl) ?_
        refine lv_dup hx hb dX1_nextToken_26 rfl ?_
        refine va_get (D := E.1) (ci := 1) (v := .int (c_t 3)) (C := RX1) (T := TX1) (N := 7) hx hb hts iX1_nextToken_X1 hown hK hP 0 rfl rfl 3 (by decide) (hts (.fieldLink RX1 19 "LeftIsAgreedOn$Reader" "at" "I") (List.mem_of_getElem? (i := 1) rfl)) (fun _ h9 => h9) rfl dX1_nextToken_27 ?_
        refine lv_iconst (v := (1 : Int32)) hx hb dX1_nextToken_30 (by decide) ?_
        refine lv_iadd hx hb dX1_nextToken_31 ?_
        refine va_put (D := E.1) (ci := 1) (v := .int ((c_t 3) + (1 : Int32))) (ty := .int) (C := RX1) (T := TX1) (N := 7) hx hb hts iX1_nextToken_X1 tyX1 tyX1_ok nmX1 hown hK hP hD hS 0 rfl rfl 3 (by decide) (hts (.fieldLink RX1 19 "LeftIsAgreedOn$Reader" "at" "I") (List.mem_of_getElem? (i := 1) rfl)) (fun _ h9 => h9) rfl (tyX1_ok 3 (by decide)) rfl rfl (Nat.le_of_ble_eq_true rfl) dX1_nextToken_32 (fun H locs hP hD hS => ?_)
        have hP : va_P E.1 vwCl (W_X1_nextToken E a_t a_bytes a_trial (upd c_t 3 ((c_t 3) + (1 : Int32))) c_bytes) H := hP
        have hD : va_D A (W_X1_nextToken E a_t a_bytes a_trial (upd c_t 3 ((c_t 3) + (1 : Int32))) c_bytes) := hD
        refine lv_goto (tgt := 0) hx hb dX1_nextToken_35 (by decide) ?_
        exact ih (upd c_t 3 ((c_t 3) + (1 : Int32))) _ _ _ h hP hD hS (lv_sub hl [0] rfl)
set_option maxRecDepth 100000 in
set_option maxHeartbeats 4000000 in
theorem w_X1_nextToken (X : Ctx p m meth c cX1_nextToken 1 none s args wsX1_nextToken RX1 E A) (a_t : Nat) (a_bytes : Nat) (a_trial : Nat) (c_bytes : Nat → Int32) (res : (Nat → Int32)) (c_t : Nat → Int32) (ls : Array Slot) (H : Heap) (locs : List Loc) (h : f_X1_nextToken c_t c_bytes = some res) (hP : va_P E.1 vwCl (W_X1_nextToken E a_t a_bytes a_trial c_t c_bytes) H) (hD : va_D A (W_X1_nextToken E a_t a_bytes a_trial c_t c_bytes)) (hS : va_S A s.heap H locs) (hl : lv_has ls 1 [(0, .ref a_t)]) : W p l e r_X1_nextToken s m args below meth c H locs 0 0 (MQ below (qV E A (W_X1_nextToken E a_t a_bytes a_trial res c_bytes)) args s 0 0 A) (F0 m 0 ls []) := by
  obtain ⟨hx, hb, hml, hr, hlk, hown, hts, hG, hA⟩ := id X
  have hK := hG.1
  have hN := hG.2.1
  unfold f_X1_nextToken at h
  exact w_X1_nextToken_b0 X a_t a_bytes a_trial c_bytes res FU c_t _ _ _ h hP hD hS (lv_sub hl [0] rfl)
end
set_option maxRecDepth 100000 in
theorem c_X1_nextToken (l : Launch) (E : Env0) (a_t : Nat) (a_bytes : Nat) (a_trial : Nat) (c_t : Nat → Int32) (c_bytes : Nat → Int32) (sz : Nat) (res : (Nat → Int32)) (h : f_X1_nextToken c_t c_bytes = some res) : Met l yX1_nextToken wsX1_nextToken r_X1_nextToken (cPre E [.ref a_t] (W_X1_nextToken E a_t a_bytes a_trial c_t c_bytes) sz) (qV E (va_A (W_X1_nextToken E a_t a_bytes a_trial c_t c_bytes) sz) (W_X1_nextToken E a_t a_bytes a_trial res c_bytes)) 0 0 (va_A (W_X1_nextToken E a_t a_bytes a_trial c_t c_bytes) sz) :=
  met_of (Qc := fun A => qV E A (W_X1_nextToken E a_t a_bytes a_trial res c_bytes)) (by decide) rfl (Nat.le_of_ble_eq_true rfl) (fun p e s m args below meth c X hP hD hS ls hl => w_X1_nextToken X a_t a_bytes a_trial c_bytes res c_t ls _ _ h hP hD hS hl)
-- ===== X5_refuse
abbrev W_X5_refuse (E : Env0) (a_t : Nat) (a_refusals : Nat) (a_now : Nat) (a_kept : Nat) (a_trial : Nat) (a_reader : Nat) (a_shelves : Nat) (a_one : Nat) (a_two : Nat) (a_search : Nat) (a_outs : Nat) (c_t : Nat → Int32) (c_refusals : Nat → Int32) : va_W := [(a_t, .inr (5, [.ref a_now, .ref a_kept, .ref a_trial, .ref a_reader, .ref a_shelves, .ref a_one, .ref a_two, .ref a_search, .ref a_outs, .ref a_refusals, .int (c_t 10)])), (a_refusals, .inl (eI E, 5, .inl c_refusals))]
abbrev r_X5_refuse : Room := { frames := 1, cells := 0, slots := 0, locals := 22 }
theorem hd_X5_refuse : yX5_refuse.cls ≠ "java/lang/invoke/MethodHandle" ∧ yX5_refuse.cls ≠ "java/lang/invoke/VarHandle" ∧ (parseMethodDescriptor yX5_refuse.desc).map (fun d => d.parameters.length) = some 1 := by decide +kernel
theorem hV_X5_refuse : yX5_refuse.cls = RX5 ∧ yX5_refuse.cls ≠ "java/lang/invoke/MethodHandle" ∧ yX5_refuse.cls ≠ "java/lang/invoke/VarHandle" ∧ (parseMethodDescriptor yX5_refuse.desc).map (fun d => d.parameters.length) = some 1 := ⟨rfl, hd_X5_refuse⟩
theorem iX5_refuse_X5 : ∀ w ∈ wsX50, w ∈ wsX5_refuse := fun _ h => List.mem_cons_of_mem _ (List.mem_append_right _ (h))
section
variable {p : Program} {l : Launch} {e : Env} {s : State} {m : MethodId} {args : Array Value} {below : List Frame} {meth : Method} {c : Code} {E : Env0} {A : Nat → Prop}
set_option maxRecDepth 100000 in
set_option maxHeartbeats 4000000 in
theorem w_X5_refuse (X : Ctx p m meth c cX5_refuse 2 ((some .int)) s args wsX5_refuse RX5 E A) (a_t : Nat) (a_refusals : Nat) (a_now : Nat) (a_kept : Nat) (a_trial : Nat) (a_reader : Nat) (a_shelves : Nat) (a_one : Nat) (a_two : Nat) (a_search : Nat) (a_outs : Nat) (c_t : Nat → Int32) (res : Int32 × (Nat → Int32)) (c_refusals : Nat → Int32) (l1 : Int32) (ls : Array Slot) (H : Heap) (locs : List Loc) (h : f_X5_refuse l1 c_t c_refusals = some res) (hP : va_P E.1 vwCl (W_X5_refuse E a_t a_refusals a_now a_kept a_trial a_reader a_shelves a_one a_two a_search a_outs c_t c_refusals) H) (hD : va_D A (W_X5_refuse E a_t a_refusals a_now a_kept a_trial a_reader a_shelves a_one a_two a_search a_outs c_t c_refusals)) (hS : va_S A s.heap H locs) (hl : lv_has ls 2 [(0, .ref a_t), (1, .int l1)]) : W p l e r_X5_refuse s m args below meth c H locs 0 0 (MQ below (qI E A (res.1) (W_X5_refuse E a_t a_refusals a_now a_kept a_trial a_reader a_shelves a_one a_two a_search a_outs c_t (res.2))) args s 0 0 A) (F0 m 0 ls []) := by
  obtain ⟨hx, hb, hml, hr, hlk, hown, hts, hG, hA⟩ := id X
  have hK := hG.1
  have hN := hG.2.1
  unfold f_X5_refuse at h
  refine lv_iload_n hx hb dX5_refuse_0 rfl (lv_at hl 1 rfl) ?_
  refine lv_bipush (v := (-6 : Int32)) hx hb dX5_refuse_1 (by decide) ?_
  refine lv_bipush (v := (-2 : Int32)) hx hb dX5_refuse_3 (by decide) ?_
  obtain ⟨v1, hv1, h⟩ := bind_of h
  refine after_i X (run_S X (c_X5_isWithin l E l1 (-6 : Int32) (-2 : Int32) H.size v1 hv1) (va_cwS 3 hts gX5_refuse_X5_isWithin rfl rfl rfl hd_X5_isWithin ⟨(Nat.le_of_ble_eq_true rfl), (Nat.le_of_ble_eq_true rfl)⟩) hP hD hS [] rfl rfl hl.1 (rest := []) rfl rfl (Nat.le_of_ble_eq_true rfl) dX5_refuse_5) hP hD hS [] [0, 1] [0, 1] rfl rfl rfl (by decide) rfl (ws1 := (W_X5_refuse E a_t a_refusals a_now a_kept a_trial a_reader a_shelves a_one a_two a_search a_outs c_t c_refusals)) rfl (fun H locs hP hD hS => ?_)
  refine lv_if_eq (tgt := 24) hx hb dX5_refuse_8 (by decide) (fun hc8 => ?_) (fun hc8 => ?_)
  · have h := if_t h hc8
    refine lv_iload_n hx hb dX5_refuse_24 rfl (lv_at hl 1 rfl) ?_
    obtain rfl := Option.some.inj h
    exact ret_i X dX5_refuse_25 hP hD hS rfl
  · have h := if_f h hc8
    refine lv_aload_n hx hb dX5_refuse_11 rfl (lv_at hl 0 rfl) ?_
    refine va_get (D := E.1) (ci := 5) (v := .ref a_refusals) (C := RX5) (T := TX5) (N := 11) hx hb hts iX5_refuse_X5 hown hK hP 0 rfl rfl 9 (by decide) (hts (.fieldLink RX5 61 "LeftIsAgreedOn" "refusals" "[I") (List.mem_of_getElem? (i := 1) rfl)) (fun _ h9 => h9) rfl dX5_refuse_12 ?_
    refine lv_bipush (v := (-2 : Int32)) hx hb dX5_refuse_15 (by decide) ?_
    refine lv_iload_n hx hb dX5_refuse_17 rfl (lv_at hl 1 rfl) ?_
    refine lv_isub hx hb dX5_refuse_18 ?_
    refine lv_dup2_11 hx hb dX5_refuse_19 rfl rfl ?_
    obtain ⟨hz20, h⟩ := chk_of h
    refine ld_i X hP 1 rfl (inb.vp hz20) (v := (c_refusals (((-2 : Int32) - l1)).toNatClampNeg)) rfl dX5_refuse_20 ?_
    refine lv_iconst (v := (1 : Int32)) hx hb dX5_refuse_21 (by decide) ?_
    refine lv_iadd hx hb dX5_refuse_22 ?_
    obtain ⟨hz23, h⟩ := chk_of h
    refine st_i X hP hD hS 1 rfl (inb.vp hz23) (k := (((-2 : Int32) - l1)).toNatClampNeg) rfl (ws1 := (W_X5_refuse E a_t a_refusals a_now a_kept a_trial a_reader a_shelves a_one a_two a_search a_outs c_t (upd c_refusals ((((-2 : Int32) - l1)).toNatClampNeg) ((c_refusals (((-2 : Int32) - l1)).toNatClampNeg) + (1 : Int32))))) rfl dX5_refuse_23 (fun H locs hP hD hS => ?_)
    refine lv_iload_n hx hb dX5_refuse_24 rfl (lv_at hl 1 rfl) ?_
    obtain rfl := Option.some.inj h
    exact ret_i X dX5_refuse_25 hP hD hS rfl
end
set_option maxRecDepth 100000 in
theorem c_X5_refuse (l : Launch) (E : Env0) (a_t : Nat) (a_refusals : Nat) (a_now : Nat) (a_kept : Nat) (a_trial : Nat) (a_reader : Nat) (a_shelves : Nat) (a_one : Nat) (a_two : Nat) (a_search : Nat) (a_outs : Nat) (l1 : Int32) (c_t : Nat → Int32) (c_refusals : Nat → Int32) (sz : Nat) (res : Int32 × (Nat → Int32)) (h : f_X5_refuse l1 c_t c_refusals = some res) : Met l yX5_refuse wsX5_refuse r_X5_refuse (cPre E [.ref a_t, .int l1] (W_X5_refuse E a_t a_refusals a_now a_kept a_trial a_reader a_shelves a_one a_two a_search a_outs c_t c_refusals) sz) (qI E (va_A (W_X5_refuse E a_t a_refusals a_now a_kept a_trial a_reader a_shelves a_one a_two a_search a_outs c_t c_refusals) sz) (res.1) (W_X5_refuse E a_t a_refusals a_now a_kept a_trial a_reader a_shelves a_one a_two a_search a_outs c_t (res.2))) 0 0 (va_A (W_X5_refuse E a_t a_refusals a_now a_kept a_trial a_reader a_shelves a_one a_two a_search a_outs c_t c_refusals) sz) :=
  met_of (Qc := fun A => qI E A (res.1) (W_X5_refuse E a_t a_refusals a_now a_kept a_trial a_reader a_shelves a_one a_two a_search a_outs c_t (res.2))) (by decide) rfl (Nat.le_of_ble_eq_true rfl) (fun p e s m args below meth c X hP hD hS ls hl => w_X5_refuse X a_t a_refusals a_now a_kept a_trial a_reader a_shelves a_one a_two a_search a_outs c_t res c_refusals l1 ls _ _ h hP hD hS hl)
-- ===== X5_row
abbrev W_X5_row (E : Env0) (a_t : Nat) (a_refusals : Nat) (a_shelves : Nat) (a_shelves_contents : Nat) (a_shelves_elements : Nat) (a_shelves_sizes : Nat) (a_now : Nat) (a_kept : Nat) (a_trial : Nat) (a_reader : Nat) (a_one : Nat) (a_two : Nat) (a_search : Nat) (a_outs : Nat) (c_t : Nat → Int32) (c_refusals : Nat → Int32) (c_shelves_contents : Nat → Int32) (c_shelves_elements : Nat → Int64) (c_shelves_sizes : Nat → Int32) : va_W := [(a_t, .inr (5, [.ref a_now, .ref a_kept, .ref a_trial, .ref a_reader, .ref a_shelves, .ref a_one, .ref a_two, .ref a_search, .ref a_outs, .ref a_refusals, .int (c_t 10)])), (a_refusals, .inl (eI E, 5, .inl c_refusals)), (a_shelves, .inr (3, [.ref a_shelves_contents, .ref a_shelves_sizes, .ref a_shelves_elements])), (a_shelves_contents, .inl (eI E, 8, .inl c_shelves_contents)), (a_shelves_elements, .inl (eJ E, 320, .inr (.inl c_shelves_elements))), (a_shelves_sizes, .inl (eI E, 8, .inl c_shelves_sizes))]
abbrev r_X5_row : Room := { frames := 2, cells := 0, slots := 0, locals := 43 }
theorem hd_X5_row : yX5_row.cls ≠ "java/lang/invoke/MethodHandle" ∧ yX5_row.cls ≠ "java/lang/invoke/VarHandle" ∧ (parseMethodDescriptor yX5_row.desc).map (fun d => d.parameters.length) = some 3 := by decide +kernel
theorem hV_X5_row : yX5_row.cls = RX5 ∧ yX5_row.cls ≠ "java/lang/invoke/MethodHandle" ∧ yX5_row.cls ≠ "java/lang/invoke/VarHandle" ∧ (parseMethodDescriptor yX5_row.desc).map (fun d => d.parameters.length) = some 3 := ⟨rfl, hd_X5_row⟩
theorem iX5_row_X5 : ∀ w ∈ wsX50, w ∈ wsX5_row := fun _ h => List.mem_cons_of_mem _ (List.mem_append_left _ (List.mem_append_right _ (h)))
section
variable {p : Program} {l : Launch} {e : Env} {s : State} {m : MethodId} {args : Array Value} {below : List Frame} {meth : Method} {c : Code} {E : Env0} {A : Nat → Prop}
set_option maxRecDepth 100000 in
set_option maxHeartbeats 4000000 in
theorem w_X5_row_b30 (X : Ctx p m meth c cX5_row 4 ((some .int)) s args wsX5_row RX5 E A) (a_t : Nat) (a_refusals : Nat) (a_shelves : Nat) (a_shelves_contents : Nat) (a_shelves_elements : Nat) (a_shelves_sizes : Nat) (a_now : Nat) (a_kept : Nat) (a_trial : Nat) (a_reader : Nat) (a_one : Nat) (a_two : Nat) (a_search : Nat) (a_outs : Nat) (c_t : Nat → Int32) (res : Int32 × (Nat → Int32) × (Nat → Int32) × (Nat → Int64) × (Nat → Int32)) (c_refusals : Nat → Int32) (c_shelves_contents : Nat → Int32) (c_shelves_elements : Nat → Int64) (c_shelves_sizes : Nat → Int32) (ls : Array Slot) (H : Heap) (locs : List Loc) (h : f_X5_row_b30 c_t c_refusals c_shelves_contents c_shelves_elements c_shelves_sizes = some res) (hP : va_P E.1 vwCl (W_X5_row E a_t a_refusals a_shelves a_shelves_contents a_shelves_elements a_shelves_sizes a_now a_kept a_trial a_reader a_one a_two a_search a_outs c_t c_refusals c_shelves_contents c_shelves_elements c_shelves_sizes) H) (hD : va_D A (W_X5_row E a_t a_refusals a_shelves a_shelves_contents a_shelves_elements a_shelves_sizes a_now a_kept a_trial a_reader a_one a_two a_search a_outs c_t c_refusals c_shelves_contents c_shelves_elements c_shelves_sizes)) (hS : va_S A s.heap H locs) (hl : lv_has ls 4 [(0, .ref a_t)]) : W p l e r_X5_row s m args below meth c H locs 0 0 (MQ below (qI E A (res.1) (W_X5_row E a_t a_refusals a_shelves a_shelves_contents a_shelves_elements a_shelves_sizes a_now a_kept a_trial a_reader a_one a_two a_search a_outs c_t (res.2.1) (res.2.2.1) (res.2.2.2.1) (res.2.2.2.2))) args s 0 0 A) (F0 m 30 ls []) := by
  obtain ⟨hx, hb, hml, hr, hlk, hown, hts, hG, hA⟩ := id X
  have hK := hG.1
  have hN := hG.2.1
  unfold f_X5_row_b30 at h
  refine lv_aload_n hx hb dX5_row_30 rfl (lv_at hl 0 rfl) ?_
  refine lv_bipush (v := (-2 : Int32)) hx hb dX5_row_31 (by decide) ?_
  obtain ⟨v1, hv1, h⟩ := bind_of h
  refine after_i X (run_V X (c_X5_refuse l E a_t a_refusals a_now a_kept a_trial a_reader a_shelves a_one a_two a_search a_outs (-2 : Int32) c_t c_refusals H.size v1 hv1) (cwV 1 hts gX5_row_X5_refuse rfl rfl rfl hV_X5_refuse ⟨(Nat.le_of_ble_eq_true rfl), (Nat.le_of_ble_eq_true rfl)⟩) hP hD hS [0, 1] rfl rfl hl.1 (ci := 5) rfl rfl rfl (rest := []) rfl rfl (Nat.le_of_ble_eq_true rfl) dX5_row_33) hP hD hS [0, 1] [2, 3, 4, 5] [4, 5, 0, 1, 2, 3] rfl rfl rfl (by decide) rfl (ws1 := (W_X5_row E a_t a_refusals a_shelves a_shelves_contents a_shelves_elements a_shelves_sizes a_now a_kept a_trial a_reader a_one a_two a_search a_outs c_t (v1.2) c_shelves_contents c_shelves_elements c_shelves_sizes)) rfl (fun H locs hP hD hS => ?_)
  obtain rfl := Option.some.inj h
  exact ret_i X dX5_row_36 hP hD hS rfl
set_option maxRecDepth 100000 in
set_option maxHeartbeats 4000000 in
theorem w_X5_row (X : Ctx p m meth c cX5_row 4 ((some .int)) s args wsX5_row RX5 E A) (a_t : Nat) (a_refusals : Nat) (a_shelves : Nat) (a_shelves_contents : Nat) (a_shelves_elements : Nat) (a_shelves_sizes : Nat) (a_now : Nat) (a_kept : Nat) (a_trial : Nat) (a_reader : Nat) (a_one : Nat) (a_two : Nat) (a_search : Nat) (a_outs : Nat) (c_t : Nat → Int32) (res : Int32 × (Nat → Int32) × (Nat → Int32) × (Nat → Int64) × (Nat → Int32)) (c_refusals : Nat → Int32) (c_shelves_contents : Nat → Int32) (c_shelves_elements : Nat → Int64) (c_shelves_sizes : Nat → Int32) (l1 : Int32) (l2 : Int32) (l3 : Int32) (ls : Array Slot) (H : Heap) (locs : List Loc) (h : f_X5_row l1 l2 l3 c_t c_refusals c_shelves_contents c_shelves_elements c_shelves_sizes = some res) (hP : va_P E.1 vwCl (W_X5_row E a_t a_refusals a_shelves a_shelves_contents a_shelves_elements a_shelves_sizes a_now a_kept a_trial a_reader a_one a_two a_search a_outs c_t c_refusals c_shelves_contents c_shelves_elements c_shelves_sizes) H) (hD : va_D A (W_X5_row E a_t a_refusals a_shelves a_shelves_contents a_shelves_elements a_shelves_sizes a_now a_kept a_trial a_reader a_one a_two a_search a_outs c_t c_refusals c_shelves_contents c_shelves_elements c_shelves_sizes)) (hS : va_S A s.heap H locs) (hl : lv_has ls 4 [(0, .ref a_t), (1, .int l1), (2, .int l2), (3, .int l3)]) : W p l e r_X5_row s m args below meth c H locs 0 0 (MQ below (qI E A (res.1) (W_X5_row E a_t a_refusals a_shelves a_shelves_contents a_shelves_elements a_shelves_sizes a_now a_kept a_trial a_reader a_one a_two a_search a_outs c_t (res.2.1) (res.2.2.1) (res.2.2.2.1) (res.2.2.2.2))) args s 0 0 A) (F0 m 0 ls []) := by
  obtain ⟨hx, hb, hml, hr, hlk, hown, hts, hG, hA⟩ := id X
  have hK := hG.1
  have hN := hG.2.1
  unfold f_X5_row at h
  refine lv_aload_n hx hb dX5_row_0 rfl (lv_at hl 0 rfl) ?_
  refine va_get (D := E.1) (ci := 5) (v := .ref a_shelves) (C := RX5) (T := TX5) (N := 11) hx hb hts iX5_row_X5 hown hK hP 0 rfl rfl 4 (by decide) (hts (.fieldLink RX5 34 "LeftIsAgreedOn" "shelves" "LLeftIsAgreedOn$Shelves;") (List.mem_of_getElem? (i := 1) rfl)) (fun _ h9 => h9) rfl dX5_row_1 ?_
  refine lv_iload_n hx hb dX5_row_4 rfl (lv_at hl 1 rfl) ?_
  obtain ⟨v1, hv1, h⟩ := bind_of h
  refine after_i X (run_V X (c_X3_isShelf l E a_shelves a_shelves_contents a_shelves_sizes a_shelves_elements l1 H.size v1 hv1) (cwV 1 hts gX5_row_X3_isShelf rfl rfl rfl hV_X3_isShelf ⟨(Nat.le_of_ble_eq_true rfl), (Nat.le_of_ble_eq_true rfl)⟩) hP hD hS [2] rfl rfl hl.1 (ci := 3) rfl rfl rfl (rest := []) rfl rfl (Nat.le_of_ble_eq_true rfl) dX5_row_5) hP hD hS [2] [0, 1, 3, 4, 5] [0, 1, 5, 2, 3, 4] rfl rfl rfl (by decide) rfl (ws1 := (W_X5_row E a_t a_refusals a_shelves a_shelves_contents a_shelves_elements a_shelves_sizes a_now a_kept a_trial a_reader a_one a_two a_search a_outs c_t c_refusals c_shelves_contents c_shelves_elements c_shelves_sizes)) rfl (fun H locs hP hD hS => ?_)
  refine lv_if_eq (tgt := 30) hx hb dX5_row_8 (by decide) (fun hc8 => ?_) (fun hc8 => ?_)
  · have h := if_t h hc8
    exact w_X5_row_b30 X a_t a_refusals a_shelves a_shelves_contents a_shelves_elements a_shelves_sizes a_now a_kept a_trial a_reader a_one a_two a_search a_outs c_t res c_refusals c_shelves_contents c_shelves_elements c_shelves_sizes _ _ _ h hP hD hS (lv_sub hl [0] rfl)
  · have h := if_f h hc8
    refine lv_iload_n hx hb dX5_row_11 rfl (lv_at hl 2 rfl) ?_
    refine lv_iconst (v := (0 : Int32)) hx hb dX5_row_12 (by decide) ?_
    refine lv_iconst (v := (4 : Int32)) hx hb dX5_row_13 (by decide) ?_
    obtain ⟨v2, hv2, h⟩ := bind_of h
    refine after_i X (run_S X (c_X5_isWithin l E l2 (0 : Int32) (4 : Int32) H.size v2 hv2) (va_cwS 3 hts gX5_row_X5_isWithin rfl rfl rfl hd_X5_isWithin ⟨(Nat.le_of_ble_eq_true rfl), (Nat.le_of_ble_eq_true rfl)⟩) hP hD hS [] rfl rfl hl.1 (rest := []) rfl rfl (Nat.le_of_ble_eq_true rfl) dX5_row_14) hP hD hS [] [0, 1, 2, 3, 4, 5] [0, 1, 2, 3, 4, 5] rfl rfl rfl (by decide) rfl (ws1 := (W_X5_row E a_t a_refusals a_shelves a_shelves_contents a_shelves_elements a_shelves_sizes a_now a_kept a_trial a_reader a_one a_two a_search a_outs c_t c_refusals c_shelves_contents c_shelves_elements c_shelves_sizes)) rfl (fun H locs hP hD hS => ?_)
    refine lv_if_eq (tgt := 30) hx hb dX5_row_17 (by decide) (fun hc17 => ?_) (fun hc17 => ?_)
    · have h := if_t h hc17
      exact w_X5_row_b30 X a_t a_refusals a_shelves a_shelves_contents a_shelves_elements a_shelves_sizes a_now a_kept a_trial a_reader a_one a_two a_search a_outs c_t res c_refusals c_shelves_contents c_shelves_elements c_shelves_sizes _ _ _ h hP hD hS (lv_sub hl [0] rfl)
    · have h := if_f h hc17
      refine lv_iload_n hx hb dX5_row_20 rfl (lv_at hl 3 rfl) ?_
      refine lv_iconst (v := (0 : Int32)) hx hb dX5_row_21 (by decide) ?_
      refine lv_bipush (v := (40 : Int32)) hx hb dX5_row_22 (by decide) ?_
      obtain ⟨v3, hv3, h⟩ := bind_of h
      refine after_i X (run_S X (c_X5_isWithin l E l3 (0 : Int32) (40 : Int32) H.size v3 hv3) (va_cwS 3 hts gX5_row_X5_isWithin rfl rfl rfl hd_X5_isWithin ⟨(Nat.le_of_ble_eq_true rfl), (Nat.le_of_ble_eq_true rfl)⟩) hP hD hS [] rfl rfl hl.1 (rest := []) rfl rfl (Nat.le_of_ble_eq_true rfl) dX5_row_24) hP hD hS [] [0, 1, 2, 3, 4, 5] [0, 1, 2, 3, 4, 5] rfl rfl rfl (by decide) rfl (ws1 := (W_X5_row E a_t a_refusals a_shelves a_shelves_contents a_shelves_elements a_shelves_sizes a_now a_kept a_trial a_reader a_one a_two a_search a_outs c_t c_refusals c_shelves_contents c_shelves_elements c_shelves_sizes)) rfl (fun H locs hP hD hS => ?_)
      refine lv_if_ne (tgt := 37) hx hb dX5_row_27 (by decide) (fun hc27 => ?_) (fun hc27 => ?_)
      · have h := if_f h hc27
        refine lv_aload_n hx hb dX5_row_37 rfl (lv_at hl 0 rfl) ?_
        refine va_get (D := E.1) (ci := 5) (v := .ref a_shelves) (C := RX5) (T := TX5) (N := 11) hx hb hts iX5_row_X5 hown hK hP 0 rfl rfl 4 (by decide) (hts (.fieldLink RX5 34 "LeftIsAgreedOn" "shelves" "LLeftIsAgreedOn$Shelves;") (List.mem_of_getElem? (i := 1) rfl)) (fun _ h9 => h9) rfl dX5_row_38 ?_
        refine lv_iload_n hx hb dX5_row_41 rfl (lv_at hl 1 rfl) ?_
        refine lv_iload_n hx hb dX5_row_42 rfl (lv_at hl 2 rfl) ?_
        refine lv_iload_n hx hb dX5_row_43 rfl (lv_at hl 3 rfl) ?_
        obtain ⟨v4, hv4, h⟩ := bind_of h
        refine after_v X (run_V X (c_X3_holdRow l E a_shelves a_shelves_contents a_shelves_elements a_shelves_sizes l1 l2 l3 c_shelves_contents c_shelves_elements c_shelves_sizes H.size v4 hv4) (cwV 3 hts gX5_row_X3_holdRow rfl rfl rfl hV_X3_holdRow ⟨(Nat.le_of_ble_eq_true rfl), (Nat.le_of_ble_eq_true rfl)⟩) hP hD hS [2, 3, 4, 5] rfl rfl hl.1 (ci := 3) rfl rfl rfl (rest := []) rfl rfl (Nat.le_of_ble_eq_true rfl) dX5_row_44) hP hD hS [2, 3, 4, 5] [0, 1] [0, 1, 2, 3, 4, 5] rfl rfl rfl (by decide) rfl (ws1 := (W_X5_row E a_t a_refusals a_shelves a_shelves_contents a_shelves_elements a_shelves_sizes a_now a_kept a_trial a_reader a_one a_two a_search a_outs c_t c_refusals (v4.1) (v4.2.1) (v4.2.2))) rfl (fun H locs hP hD hS => ?_)
        refine lv_iconst (v := (1 : Int32)) hx hb dX5_row_47 (by decide) ?_
        obtain rfl := Option.some.inj h
        exact ret_i X dX5_row_48 hP hD hS rfl
      · have h := if_t h hc27
        exact w_X5_row_b30 X a_t a_refusals a_shelves a_shelves_contents a_shelves_elements a_shelves_sizes a_now a_kept a_trial a_reader a_one a_two a_search a_outs c_t res c_refusals c_shelves_contents c_shelves_elements c_shelves_sizes _ _ _ h hP hD hS (lv_sub hl [0] rfl)
end
set_option maxRecDepth 100000 in
theorem c_X5_row (l : Launch) (E : Env0) (a_t : Nat) (a_refusals : Nat) (a_shelves : Nat) (a_shelves_contents : Nat) (a_shelves_elements : Nat) (a_shelves_sizes : Nat) (a_now : Nat) (a_kept : Nat) (a_trial : Nat) (a_reader : Nat) (a_one : Nat) (a_two : Nat) (a_search : Nat) (a_outs : Nat) (l1 : Int32) (l2 : Int32) (l3 : Int32) (c_t : Nat → Int32) (c_refusals : Nat → Int32) (c_shelves_contents : Nat → Int32) (c_shelves_elements : Nat → Int64) (c_shelves_sizes : Nat → Int32) (sz : Nat) (res : Int32 × (Nat → Int32) × (Nat → Int32) × (Nat → Int64) × (Nat → Int32)) (h : f_X5_row l1 l2 l3 c_t c_refusals c_shelves_contents c_shelves_elements c_shelves_sizes = some res) : Met l yX5_row wsX5_row r_X5_row (cPre E [.ref a_t, .int l1, .int l2, .int l3] (W_X5_row E a_t a_refusals a_shelves a_shelves_contents a_shelves_elements a_shelves_sizes a_now a_kept a_trial a_reader a_one a_two a_search a_outs c_t c_refusals c_shelves_contents c_shelves_elements c_shelves_sizes) sz) (qI E (va_A (W_X5_row E a_t a_refusals a_shelves a_shelves_contents a_shelves_elements a_shelves_sizes a_now a_kept a_trial a_reader a_one a_two a_search a_outs c_t c_refusals c_shelves_contents c_shelves_elements c_shelves_sizes) sz) (res.1) (W_X5_row E a_t a_refusals a_shelves a_shelves_contents a_shelves_elements a_shelves_sizes a_now a_kept a_trial a_reader a_one a_two a_search a_outs c_t (res.2.1) (res.2.2.1) (res.2.2.2.1) (res.2.2.2.2))) 0 0 (va_A (W_X5_row E a_t a_refusals a_shelves a_shelves_contents a_shelves_elements a_shelves_sizes a_now a_kept a_trial a_reader a_one a_two a_search a_outs c_t c_refusals c_shelves_contents c_shelves_elements c_shelves_sizes) sz) :=
  met_of (Qc := fun A => qI E A (res.1) (W_X5_row E a_t a_refusals a_shelves a_shelves_contents a_shelves_elements a_shelves_sizes a_now a_kept a_trial a_reader a_one a_two a_search a_outs c_t (res.2.1) (res.2.2.1) (res.2.2.2.1) (res.2.2.2.2))) (by decide) rfl (Nat.le_of_ble_eq_true rfl) (fun p e s m args below meth c X hP hD hS ls hl => w_X5_row X a_t a_refusals a_shelves a_shelves_contents a_shelves_elements a_shelves_sizes a_now a_kept a_trial a_reader a_one a_two a_search a_outs c_t res c_refusals c_shelves_contents c_shelves_elements c_shelves_sizes l1 l2 l3 ls _ _ h hP hD hS hl)
-- ===== X5_rowFault
abbrev W_X5_rowFault (E : Env0) (a_t : Nat) (a_shelves : Nat) (a_shelves_contents : Nat) (a_now : Nat) (a_kept : Nat) (a_trial : Nat) (a_reader : Nat) (a_one : Nat) (a_two : Nat) (a_search : Nat) (a_outs : Nat) (a_refusals : Nat) (a_shelves_sizes : Nat) (a_shelves_elements : Nat) (c_t : Nat → Int32) (c_shelves_contents : Nat → Int32) : va_W := [(a_t, .inr (5, [.ref a_now, .ref a_kept, .ref a_trial, .ref a_reader, .ref a_shelves, .ref a_one, .ref a_two, .ref a_search, .ref a_outs, .ref a_refusals, .int (c_t 10)])), (a_shelves, .inr (3, [.ref a_shelves_contents, .ref a_shelves_sizes, .ref a_shelves_elements])), (a_shelves_contents, .inl (eI E, 8, .inl c_shelves_contents))]
abbrev r_X5_rowFault : Room := { frames := 1, cells := 0, slots := 0, locals := 21 }
theorem hd_X5_rowFault : yX5_rowFault.cls ≠ "java/lang/invoke/MethodHandle" ∧ yX5_rowFault.cls ≠ "java/lang/invoke/VarHandle" ∧ (parseMethodDescriptor yX5_rowFault.desc).map (fun d => d.parameters.length) = some 2 := by decide +kernel
theorem hV_X5_rowFault : yX5_rowFault.cls = RX5 ∧ yX5_rowFault.cls ≠ "java/lang/invoke/MethodHandle" ∧ yX5_rowFault.cls ≠ "java/lang/invoke/VarHandle" ∧ (parseMethodDescriptor yX5_rowFault.desc).map (fun d => d.parameters.length) = some 2 := ⟨rfl, hd_X5_rowFault⟩
theorem iX5_rowFault_X5 : ∀ w ∈ wsX50, w ∈ wsX5_rowFault := fun _ h => List.mem_cons_of_mem _ (List.mem_append_left _ (List.mem_append_right _ (h)))
section
variable {p : Program} {l : Launch} {e : Env} {s : State} {m : MethodId} {args : Array Value} {below : List Frame} {meth : Method} {c : Code} {E : Env0} {A : Nat → Prop}
set_option maxRecDepth 100000 in
set_option maxHeartbeats 4000000 in
theorem w_X5_rowFault (X : Ctx p m meth c cX5_rowFault 3 ((some .int)) s args wsX5_rowFault RX5 E A) (a_t : Nat) (a_shelves : Nat) (a_shelves_contents : Nat) (a_now : Nat) (a_kept : Nat) (a_trial : Nat) (a_reader : Nat) (a_one : Nat) (a_two : Nat) (a_search : Nat) (a_outs : Nat) (a_refusals : Nat) (a_shelves_sizes : Nat) (a_shelves_elements : Nat) (c_t : Nat → Int32) (c_shelves_contents : Nat → Int32) (res : Int32) (l1 : Int32) (l2 : Int32) (ls : Array Slot) (H : Heap) (locs : List Loc) (h : f_X5_rowFault l1 l2 c_t c_shelves_contents = some res) (hP : va_P E.1 vwCl (W_X5_rowFault E a_t a_shelves a_shelves_contents a_now a_kept a_trial a_reader a_one a_two a_search a_outs a_refusals a_shelves_sizes a_shelves_elements c_t c_shelves_contents) H) (hD : va_D A (W_X5_rowFault E a_t a_shelves a_shelves_contents a_now a_kept a_trial a_reader a_one a_two a_search a_outs a_refusals a_shelves_sizes a_shelves_elements c_t c_shelves_contents)) (hS : va_S A s.heap H locs) (hl : lv_has ls 3 [(0, .ref a_t), (1, .int l1), (2, .int l2)]) : W p l e r_X5_rowFault s m args below meth c H locs 0 0 (MQ below (qI E A res (W_X5_rowFault E a_t a_shelves a_shelves_contents a_now a_kept a_trial a_reader a_one a_two a_search a_outs a_refusals a_shelves_sizes a_shelves_elements c_t c_shelves_contents)) args s 0 0 A) (F0 m 0 ls []) := by
  obtain ⟨hx, hb, hml, hr, hlk, hown, hts, hG, hA⟩ := id X
  have hK := hG.1
  have hN := hG.2.1
  unfold f_X5_rowFault at h
  refine lv_aload_n hx hb dX5_rowFault_0 rfl (lv_at hl 0 rfl) ?_
  refine va_get (D := E.1) (ci := 5) (v := .ref a_shelves) (C := RX5) (T := TX5) (N := 11) hx hb hts iX5_rowFault_X5 hown hK hP 0 rfl rfl 4 (by decide) (hts (.fieldLink RX5 34 "LeftIsAgreedOn" "shelves" "LLeftIsAgreedOn$Shelves;") (List.mem_of_getElem? (i := 1) rfl)) (fun _ h9 => h9) rfl dX5_rowFault_1 ?_
  refine lv_iload_n hx hb dX5_rowFault_4 rfl (lv_at hl 1 rfl) ?_
  obtain ⟨v1, hv1, h⟩ := bind_of h
  refine after_i X (run_V X (c_X3_holdsOne l E a_shelves a_shelves_contents a_shelves_sizes a_shelves_elements l1 c_shelves_contents H.size v1 hv1) (cwV 1 hts gX5_rowFault_X3_holdsOne rfl rfl rfl hV_X3_holdsOne ⟨(Nat.le_of_ble_eq_true rfl), (Nat.le_of_ble_eq_true rfl)⟩) hP hD hS [1, 2] rfl rfl hl.1 (ci := 3) rfl rfl rfl (rest := []) rfl rfl (Nat.le_of_ble_eq_true rfl) dX5_rowFault_5) hP hD hS [1, 2] [0] [0, 1, 2] rfl rfl rfl (by decide) rfl (ws1 := (W_X5_rowFault E a_t a_shelves a_shelves_contents a_now a_kept a_trial a_reader a_one a_two a_search a_outs a_refusals a_shelves_sizes a_shelves_elements c_t c_shelves_contents)) rfl (fun H locs hP hD hS => ?_)
  refine lv_if_ne (tgt := 22) hx hb dX5_rowFault_8 (by decide) (fun hc8 => ?_) (fun hc8 => ?_)
  · have h := if_f h hc8
    refine lv_bipush (v := (-3 : Int32)) hx hb dX5_rowFault_22 (by decide) ?_
    obtain rfl := Option.some.inj h
    exact ret_i X dX5_rowFault_24 hP hD hS rfl
  · have h := if_t h hc8
    refine lv_aload_n hx hb dX5_rowFault_11 rfl (lv_at hl 0 rfl) ?_
    refine va_get (D := E.1) (ci := 5) (v := .ref a_shelves) (C := RX5) (T := TX5) (N := 11) hx hb hts iX5_rowFault_X5 hown hK hP 0 rfl rfl 4 (by decide) (hts (.fieldLink RX5 34 "LeftIsAgreedOn" "shelves" "LLeftIsAgreedOn$Shelves;") (List.mem_of_getElem? (i := 1) rfl)) (fun _ h9 => h9) rfl dX5_rowFault_12 ?_
    refine lv_iload_n hx hb dX5_rowFault_15 rfl (lv_at hl 2 rfl) ?_
    obtain ⟨v2, hv2, h⟩ := bind_of h
    refine after_i X (run_V X (c_X3_holdsOne l E a_shelves a_shelves_contents a_shelves_sizes a_shelves_elements l2 c_shelves_contents H.size v2 hv2) (cwV 1 hts gX5_rowFault_X3_holdsOne rfl rfl rfl hV_X3_holdsOne ⟨(Nat.le_of_ble_eq_true rfl), (Nat.le_of_ble_eq_true rfl)⟩) hP hD hS [1, 2] rfl rfl hl.1 (ci := 3) rfl rfl rfl (rest := []) rfl rfl (Nat.le_of_ble_eq_true rfl) dX5_rowFault_16) hP hD hS [1, 2] [0] [0, 1, 2] rfl rfl rfl (by decide) rfl (ws1 := (W_X5_rowFault E a_t a_shelves a_shelves_contents a_now a_kept a_trial a_reader a_one a_two a_search a_outs a_refusals a_shelves_sizes a_shelves_elements c_t c_shelves_contents)) rfl (fun H locs hP hD hS => ?_)
    refine lv_if_eq (tgt := 25) hx hb dX5_rowFault_19 (by decide) (fun hc19 => ?_) (fun hc19 => ?_)
    · have h := if_t h hc19
      refine lv_aload_n hx hb dX5_rowFault_25 rfl (lv_at hl 0 rfl) ?_
      refine va_get (D := E.1) (ci := 5) (v := .ref a_shelves) (C := RX5) (T := TX5) (N := 11) hx hb hts iX5_rowFault_X5 hown hK hP 0 rfl rfl 4 (by decide) (hts (.fieldLink RX5 34 "LeftIsAgreedOn" "shelves" "LLeftIsAgreedOn$Shelves;") (List.mem_of_getElem? (i := 1) rfl)) (fun _ h9 => h9) rfl dX5_rowFault_26 ?_
      refine lv_iload_n hx hb dX5_rowFault_29 rfl (lv_at hl 1 rfl) ?_
      obtain ⟨v3, hv3, h⟩ := bind_of h
      refine after_i X (run_V X (c_X3_held l E a_shelves a_shelves_contents a_shelves_sizes a_shelves_elements l1 c_shelves_contents H.size v3 hv3) (cwV 1 hts gX5_rowFault_X3_held rfl rfl rfl hV_X3_held ⟨(Nat.le_of_ble_eq_true rfl), (Nat.le_of_ble_eq_true rfl)⟩) hP hD hS [1, 2] rfl rfl hl.1 (ci := 3) rfl rfl rfl (rest := []) rfl rfl (Nat.le_of_ble_eq_true rfl) dX5_rowFault_30) hP hD hS [1, 2] [0] [0, 1, 2] rfl rfl rfl (by decide) rfl (ws1 := (W_X5_rowFault E a_t a_shelves a_shelves_contents a_now a_kept a_trial a_reader a_one a_two a_search a_outs a_refusals a_shelves_sizes a_shelves_elements c_t c_shelves_contents)) rfl (fun H locs hP hD hS => ?_)
      refine lv_iconst (v := (-1 : Int32)) hx hb dX5_rowFault_33 (by decide) ?_
      refine lv_icmp_eq (tgt := 49) hx hb dX5_rowFault_34 (by decide) (fun hc34 => ?_) (fun hc34 => ?_)
      · have h := if_t h hc34
        refine lv_bipush (v := (-4 : Int32)) hx hb dX5_rowFault_49 (by decide) ?_
        refine lv_goto (tgt := 55) hx hb dX5_rowFault_51 (by decide) ?_
        obtain rfl := Option.some.inj h
        exact ret_i X dX5_rowFault_55 hP hD hS rfl
      · have h := if_f h hc34
        refine lv_aload_n hx hb dX5_rowFault_37 rfl (lv_at hl 0 rfl) ?_
        refine va_get (D := E.1) (ci := 5) (v := .ref a_shelves) (C := RX5) (T := TX5) (N := 11) hx hb hts iX5_rowFault_X5 hown hK hP 0 rfl rfl 4 (by decide) (hts (.fieldLink RX5 34 "LeftIsAgreedOn" "shelves" "LLeftIsAgreedOn$Shelves;") (List.mem_of_getElem? (i := 1) rfl)) (fun _ h9 => h9) rfl dX5_rowFault_38 ?_
        refine lv_iload_n hx hb dX5_rowFault_41 rfl (lv_at hl 2 rfl) ?_
        obtain ⟨v4, hv4, h⟩ := bind_of h
        refine after_i X (run_V X (c_X3_held l E a_shelves a_shelves_contents a_shelves_sizes a_shelves_elements l2 c_shelves_contents H.size v4 hv4) (cwV 1 hts gX5_rowFault_X3_held rfl rfl rfl hV_X3_held ⟨(Nat.le_of_ble_eq_true rfl), (Nat.le_of_ble_eq_true rfl)⟩) hP hD hS [1, 2] rfl rfl hl.1 (ci := 3) rfl rfl rfl (rest := []) rfl rfl (Nat.le_of_ble_eq_true rfl) dX5_rowFault_42) hP hD hS [1, 2] [0] [0, 1, 2] rfl rfl rfl (by decide) rfl (ws1 := (W_X5_rowFault E a_t a_shelves a_shelves_contents a_now a_kept a_trial a_reader a_one a_two a_search a_outs a_refusals a_shelves_sizes a_shelves_elements c_t c_shelves_contents)) rfl (fun H locs hP hD hS => ?_)
        refine lv_iconst (v := (-1 : Int32)) hx hb dX5_rowFault_45 (by decide) ?_
        refine lv_icmp_ne (tgt := 54) hx hb dX5_rowFault_46 (by decide) (fun hc46 => ?_) (fun hc46 => ?_)
        · have h := if_f h hc46
          refine lv_iconst (v := (0 : Int32)) hx hb dX5_rowFault_54 (by decide) ?_
          obtain rfl := Option.some.inj h
          exact ret_i X dX5_rowFault_55 hP hD hS rfl
        · have h := if_t h hc46
          refine lv_bipush (v := (-4 : Int32)) hx hb dX5_rowFault_49 (by decide) ?_
          refine lv_goto (tgt := 55) hx hb dX5_rowFault_51 (by decide) ?_
          obtain rfl := Option.some.inj h
          exact ret_i X dX5_rowFault_55 hP hD hS rfl
    · have h := if_f h hc19
      refine lv_bipush (v := (-3 : Int32)) hx hb dX5_rowFault_22 (by decide) ?_
      obtain rfl := Option.some.inj h
      exact ret_i X dX5_rowFault_24 hP hD hS rfl
end
set_option maxRecDepth 100000 in
theorem c_X5_rowFault (l : Launch) (E : Env0) (a_t : Nat) (a_shelves : Nat) (a_shelves_contents : Nat) (a_now : Nat) (a_kept : Nat) (a_trial : Nat) (a_reader : Nat) (a_one : Nat) (a_two : Nat) (a_search : Nat) (a_outs : Nat) (a_refusals : Nat) (a_shelves_sizes : Nat) (a_shelves_elements : Nat) (l1 : Int32) (l2 : Int32) (c_t : Nat → Int32) (c_shelves_contents : Nat → Int32) (sz : Nat) (res : Int32) (h : f_X5_rowFault l1 l2 c_t c_shelves_contents = some res) : Met l yX5_rowFault wsX5_rowFault r_X5_rowFault (cPre E [.ref a_t, .int l1, .int l2] (W_X5_rowFault E a_t a_shelves a_shelves_contents a_now a_kept a_trial a_reader a_one a_two a_search a_outs a_refusals a_shelves_sizes a_shelves_elements c_t c_shelves_contents) sz) (qI E (va_A (W_X5_rowFault E a_t a_shelves a_shelves_contents a_now a_kept a_trial a_reader a_one a_two a_search a_outs a_refusals a_shelves_sizes a_shelves_elements c_t c_shelves_contents) sz) res (W_X5_rowFault E a_t a_shelves a_shelves_contents a_now a_kept a_trial a_reader a_one a_two a_search a_outs a_refusals a_shelves_sizes a_shelves_elements c_t c_shelves_contents)) 0 0 (va_A (W_X5_rowFault E a_t a_shelves a_shelves_contents a_now a_kept a_trial a_reader a_one a_two a_search a_outs a_refusals a_shelves_sizes a_shelves_elements c_t c_shelves_contents) sz) :=
  met_of (Qc := fun A => qI E A res (W_X5_rowFault E a_t a_shelves a_shelves_contents a_now a_kept a_trial a_reader a_one a_two a_search a_outs a_refusals a_shelves_sizes a_shelves_elements c_t c_shelves_contents)) (by decide) rfl (Nat.le_of_ble_eq_true rfl) (fun p e s m args below meth c X hP hD hS ls hl => w_X5_rowFault X a_t a_shelves a_shelves_contents a_now a_kept a_trial a_reader a_one a_two a_search a_outs a_refusals a_shelves_sizes a_shelves_elements c_t c_shelves_contents res l1 l2 ls _ _ h hP hD hS hl)
-- ===== X5_set
abbrev W_X5_set (E : Env0) (a_t : Nat) (a_refusals : Nat) (a_shelves : Nat) (a_shelves_contents : Nat) (a_shelves_elements : Nat) (a_shelves_sizes : Nat) (a_now : Nat) (a_kept : Nat) (a_trial : Nat) (a_reader : Nat) (a_one : Nat) (a_two : Nat) (a_search : Nat) (a_outs : Nat) (c_t : Nat → Int32) (c_refusals : Nat → Int32) (c_shelves_contents : Nat → Int32) (c_shelves_elements : Nat → Int64) (c_shelves_sizes : Nat → Int32) : va_W := [(a_t, .inr (5, [.ref a_now, .ref a_kept, .ref a_trial, .ref a_reader, .ref a_shelves, .ref a_one, .ref a_two, .ref a_search, .ref a_outs, .ref a_refusals, .int (c_t 10)])), (a_refusals, .inl (eI E, 5, .inl c_refusals)), (a_shelves, .inr (3, [.ref a_shelves_contents, .ref a_shelves_sizes, .ref a_shelves_elements])), (a_shelves_contents, .inl (eI E, 8, .inl c_shelves_contents)), (a_shelves_elements, .inl (eJ E, 320, .inr (.inl c_shelves_elements))), (a_shelves_sizes, .inl (eI E, 8, .inl c_shelves_sizes))]
abbrev r_X5_set : Room := { frames := 2, cells := 0, slots := 0, locals := 46 }
theorem hd_X5_set : yX5_set.cls ≠ "java/lang/invoke/MethodHandle" ∧ yX5_set.cls ≠ "java/lang/invoke/VarHandle" ∧ (parseMethodDescriptor yX5_set.desc).map (fun d => d.parameters.length) = some 3 := by decide +kernel
theorem hV_X5_set : yX5_set.cls = RX5 ∧ yX5_set.cls ≠ "java/lang/invoke/MethodHandle" ∧ yX5_set.cls ≠ "java/lang/invoke/VarHandle" ∧ (parseMethodDescriptor yX5_set.desc).map (fun d => d.parameters.length) = some 3 := ⟨rfl, hd_X5_set⟩
theorem iX5_set_X5 : ∀ w ∈ wsX50, w ∈ wsX5_set := fun _ h => List.mem_cons_of_mem _ (List.mem_append_left _ (List.mem_append_right _ (h)))
section
variable {p : Program} {l : Launch} {e : Env} {s : State} {m : MethodId} {args : Array Value} {below : List Frame} {meth : Method} {c : Code} {E : Env0} {A : Nat → Prop}
set_option maxRecDepth 100000 in
set_option maxHeartbeats 4000000 in
theorem w_X5_set (X : Ctx p m meth c cX5_set 6 ((some .int)) s args wsX5_set RX5 E A) (a_t : Nat) (a_refusals : Nat) (a_shelves : Nat) (a_shelves_contents : Nat) (a_shelves_elements : Nat) (a_shelves_sizes : Nat) (a_now : Nat) (a_kept : Nat) (a_trial : Nat) (a_reader : Nat) (a_one : Nat) (a_two : Nat) (a_search : Nat) (a_outs : Nat) (c_t : Nat → Int32) (c_shelves_contents : Nat → Int32) (c_shelves_sizes : Nat → Int32) (res : Int32 × (Nat → Int32) × (Nat → Int64)) (c_refusals : Nat → Int32) (c_shelves_elements : Nat → Int64) (l1 : Int32) (l2 : Int32) (l3 : Int64) (ls : Array Slot) (H : Heap) (locs : List Loc) (h : f_X5_set l1 l2 l3 c_t c_refusals c_shelves_contents c_shelves_elements c_shelves_sizes = some res) (hP : va_P E.1 vwCl (W_X5_set E a_t a_refusals a_shelves a_shelves_contents a_shelves_elements a_shelves_sizes a_now a_kept a_trial a_reader a_one a_two a_search a_outs c_t c_refusals c_shelves_contents c_shelves_elements c_shelves_sizes) H) (hD : va_D A (W_X5_set E a_t a_refusals a_shelves a_shelves_contents a_shelves_elements a_shelves_sizes a_now a_kept a_trial a_reader a_one a_two a_search a_outs c_t c_refusals c_shelves_contents c_shelves_elements c_shelves_sizes)) (hS : va_S A s.heap H locs) (hl : lv_has ls 6 [(0, .ref a_t), (1, .int l1), (2, .int l2), (3, .long l3)]) : W p l e r_X5_set s m args below meth c H locs 0 0 (MQ below (qI E A (res.1) (W_X5_set E a_t a_refusals a_shelves a_shelves_contents a_shelves_elements a_shelves_sizes a_now a_kept a_trial a_reader a_one a_two a_search a_outs c_t (res.2.1) c_shelves_contents (res.2.2) c_shelves_sizes)) args s 0 0 A) (F0 m 0 ls []) := by
  obtain ⟨hx, hb, hml, hr, hlk, hown, hts, hG, hA⟩ := id X
  have hK := hG.1
  have hN := hG.2.1
  unfold f_X5_set at h
  refine lv_aload_n hx hb dX5_set_0 rfl (lv_at hl 0 rfl) ?_
  refine va_get (D := E.1) (ci := 5) (v := .ref a_shelves) (C := RX5) (T := TX5) (N := 11) hx hb hts iX5_set_X5 hown hK hP 0 rfl rfl 4 (by decide) (hts (.fieldLink RX5 34 "LeftIsAgreedOn" "shelves" "LLeftIsAgreedOn$Shelves;") (List.mem_of_getElem? (i := 1) rfl)) (fun _ h9 => h9) rfl dX5_set_1 ?_
  refine lv_iload_n hx hb dX5_set_4 rfl (lv_at hl 1 rfl) ?_
  obtain ⟨v1, hv1, h⟩ := bind_of h
  refine after_i X (run_V X (c_X3_isShelf l E a_shelves a_shelves_contents a_shelves_sizes a_shelves_elements l1 H.size v1 hv1) (cwV 1 hts gX5_set_X3_isShelf rfl rfl rfl hV_X3_isShelf ⟨(Nat.le_of_ble_eq_true rfl), (Nat.le_of_ble_eq_true rfl)⟩) hP hD hS [2] rfl rfl hl.1 (ci := 3) rfl rfl rfl (rest := []) rfl rfl (Nat.le_of_ble_eq_true rfl) dX5_set_5) hP hD hS [2] [0, 1, 3, 4, 5] [0, 1, 5, 2, 3, 4] rfl rfl rfl (by decide) rfl (ws1 := (W_X5_set E a_t a_refusals a_shelves a_shelves_contents a_shelves_elements a_shelves_sizes a_now a_kept a_trial a_reader a_one a_two a_search a_outs c_t c_refusals c_shelves_contents c_shelves_elements c_shelves_sizes)) rfl (fun H locs hP hD hS => ?_)
  refine lv_if_ne (tgt := 18) hx hb dX5_set_8 (by decide) (fun hc8 => ?_) (fun hc8 => ?_)
  · have h := if_f h hc8
    refine lv_aload_n hx hb dX5_set_18 rfl (lv_at hl 0 rfl) ?_
    refine lv_iload_n hx hb dX5_set_19 rfl (lv_at hl 1 rfl) ?_
    refine lv_iload_n hx hb dX5_set_20 rfl (lv_at hl 1 rfl) ?_
    obtain ⟨v2, hv2, h⟩ := bind_of h
    refine after_i X (run_V X (c_X5_rowFault l E a_t a_shelves a_shelves_contents a_now a_kept a_trial a_reader a_one a_two a_search a_outs a_refusals a_shelves_sizes a_shelves_elements l1 l1 c_t c_shelves_contents H.size v2 hv2) (cwV 2 hts gX5_set_X5_rowFault rfl rfl rfl hV_X5_rowFault ⟨(Nat.le_of_ble_eq_true rfl), (Nat.le_of_ble_eq_true rfl)⟩) hP hD hS [0, 2, 3] rfl rfl hl.1 (ci := 5) rfl rfl rfl (rest := []) rfl rfl (Nat.le_of_ble_eq_true rfl) dX5_set_21) hP hD hS [0, 2, 3] [1, 4, 5] [3, 0, 4, 5, 1, 2] rfl rfl rfl (by decide) rfl (ws1 := (W_X5_set E a_t a_refusals a_shelves a_shelves_contents a_shelves_elements a_shelves_sizes a_now a_kept a_trial a_reader a_one a_two a_search a_outs c_t c_refusals c_shelves_contents c_shelves_elements c_shelves_sizes)) rfl (fun H locs hP hD hS => ?_)
    refine lv_istore (lv' := [(5, .int v2), (0, .ref a_t), (1, .int l1), (2, .int l2), (3, .long l3)]) hx hb dX5_set_24 hl (by decide) rfl (fun ls hl => ?_)
    refine lv_iload hx hb dX5_set_26 (lv_at hl 0 rfl) ?_
    refine lv_if_eq (tgt := 38) hx hb dX5_set_28 (by decide) (fun hc28 => ?_) (fun hc28 => ?_)
    · have h := if_t h hc28
      refine lv_iload_n hx hb dX5_set_38 rfl (lv_at hl 3 rfl) ?_
      refine lv_iconst (v := (0 : Int32)) hx hb dX5_set_39 (by decide) ?_
      refine lv_aload_n hx hb dX5_set_40 rfl (lv_at hl 1 rfl) ?_
      refine va_get (D := E.1) (ci := 5) (v := .ref a_shelves) (C := RX5) (T := TX5) (N := 11) hx hb hts iX5_set_X5 hown hK hP 0 rfl rfl 4 (by decide) (hts (.fieldLink RX5 34 "LeftIsAgreedOn" "shelves" "LLeftIsAgreedOn$Shelves;") (List.mem_of_getElem? (i := 1) rfl)) (fun _ h9 => h9) rfl dX5_set_41 ?_
      refine lv_iload_n hx hb dX5_set_44 rfl (lv_at hl 2 rfl) ?_
      obtain ⟨v3, hv3, h⟩ := bind_of h
      refine after_i X (run_V X (c_X3_sizeOf l E a_shelves a_shelves_sizes a_shelves_contents a_shelves_elements l1 c_shelves_sizes H.size v3 hv3) (cwV 1 hts gX5_set_X3_sizeOf rfl rfl rfl hV_X3_sizeOf ⟨(Nat.le_of_ble_eq_true rfl), (Nat.le_of_ble_eq_true rfl)⟩) hP hD hS [2, 5] rfl rfl hl.1 (ci := 3) rfl rfl rfl (rest := [.int (0 : Int32), .int l2]) rfl rfl (Nat.le_of_ble_eq_true rfl) dX5_set_45) hP hD hS [2, 5] [0, 1, 3, 4] [0, 1, 4, 2, 3, 5] rfl rfl rfl (by decide) rfl (ws1 := (W_X5_set E a_t a_refusals a_shelves a_shelves_contents a_shelves_elements a_shelves_sizes a_now a_kept a_trial a_reader a_one a_two a_search a_outs c_t c_refusals c_shelves_contents c_shelves_elements c_shelves_sizes)) rfl (fun H locs hP hD hS => ?_)
      refine lv_iconst (v := (1 : Int32)) hx hb dX5_set_48 (by decide) ?_
      refine lv_isub hx hb dX5_set_49 ?_
      obtain ⟨v4, hv4, h⟩ := bind_of h
      refine after_i X (run_S X (c_X5_isWithin l E l2 (0 : Int32) (v3 - (1 : Int32)) H.size v4 hv4) (va_cwS 3 hts gX5_set_X5_isWithin rfl rfl rfl hd_X5_isWithin ⟨(Nat.le_of_ble_eq_true rfl), (Nat.le_of_ble_eq_true rfl)⟩) hP hD hS [] rfl rfl hl.1 (rest := []) rfl rfl (Nat.le_of_ble_eq_true rfl) dX5_set_50) hP hD hS [] [0, 1, 2, 3, 4, 5] [0, 1, 2, 3, 4, 5] rfl rfl rfl (by decide) rfl (ws1 := (W_X5_set E a_t a_refusals a_shelves a_shelves_contents a_shelves_elements a_shelves_sizes a_now a_kept a_trial a_reader a_one a_two a_search a_outs c_t c_refusals c_shelves_contents c_shelves_elements c_shelves_sizes)) rfl (fun H locs hP hD hS => ?_)
      refine lv_if_ne (tgt := 63) hx hb dX5_set_53 (by decide) (fun hc53 => ?_) (fun hc53 => ?_)
      · have h := if_f h hc53
        refine lv_aload_n hx hb dX5_set_63 rfl (lv_at hl 1 rfl) ?_
        refine va_get (D := E.1) (ci := 5) (v := .ref a_shelves) (C := RX5) (T := TX5) (N := 11) hx hb hts iX5_set_X5 hown hK hP 0 rfl rfl 4 (by decide) (hts (.fieldLink RX5 34 "LeftIsAgreedOn" "shelves" "LLeftIsAgreedOn$Shelves;") (List.mem_of_getElem? (i := 1) rfl)) (fun _ h9 => h9) rfl dX5_set_64 ?_
        refine lv_iload_n hx hb dX5_set_67 rfl (lv_at hl 2 rfl) ?_
        refine lv_iload_n hx hb dX5_set_68 rfl (lv_at hl 3 rfl) ?_
        refine lv_lload_n hx hb dX5_set_69 rfl (lv_at hl 4 rfl) ?_
        obtain ⟨v5, hv5, h⟩ := bind_of h
        refine after_v X (run_V X (c_X3_store l E a_shelves a_shelves_contents a_shelves_elements a_shelves_sizes l1 l2 l3 c_shelves_contents c_shelves_elements H.size v5 hv5) (cwV 3 hts gX5_set_X3_store rfl rfl rfl hV_X3_store ⟨(Nat.le_of_ble_eq_true rfl), (Nat.le_of_ble_eq_true rfl)⟩) hP hD hS [2, 3, 4] rfl rfl hl.1 (ci := 3) rfl rfl rfl (rest := []) rfl rfl (Nat.le_of_ble_eq_true rfl) dX5_set_70) hP hD hS [2, 3, 4] [0, 1, 5] [0, 1, 3, 4, 5, 2] rfl rfl rfl (by decide) rfl (ws1 := (W_X5_set E a_t a_refusals a_shelves a_shelves_contents a_shelves_elements a_shelves_sizes a_now a_kept a_trial a_reader a_one a_two a_search a_outs c_t c_refusals c_shelves_contents v5 c_shelves_sizes)) rfl (fun H locs hP hD hS => ?_)
        refine lv_iconst (v := (1 : Int32)) hx hb dX5_set_73 (by decide) ?_
        obtain rfl := Option.some.inj h
        exact ret_i X dX5_set_74 hP hD hS rfl
      · have h := if_t h hc53
        refine lv_aload_n hx hb dX5_set_56 rfl (lv_at hl 1 rfl) ?_
        refine lv_bipush (v := (-2 : Int32)) hx hb dX5_set_57 (by decide) ?_
        obtain ⟨v6, hv6, h⟩ := bind_of h
        refine after_i X (run_V X (c_X5_refuse l E a_t a_refusals a_now a_kept a_trial a_reader a_shelves a_one a_two a_search a_outs (-2 : Int32) c_t c_refusals H.size v6 hv6) (cwV 1 hts gX5_set_X5_refuse rfl rfl rfl hV_X5_refuse ⟨(Nat.le_of_ble_eq_true rfl), (Nat.le_of_ble_eq_true rfl)⟩) hP hD hS [0, 1] rfl rfl hl.1 (ci := 5) rfl rfl rfl (rest := []) rfl rfl (Nat.le_of_ble_eq_true rfl) dX5_set_59) hP hD hS [0, 1] [2, 3, 4, 5] [4, 5, 0, 1, 2, 3] rfl rfl rfl (by decide) rfl (ws1 := (W_X5_set E a_t a_refusals a_shelves a_shelves_contents a_shelves_elements a_shelves_sizes a_now a_kept a_trial a_reader a_one a_two a_search a_outs c_t (v6.2) c_shelves_contents c_shelves_elements c_shelves_sizes)) rfl (fun H locs hP hD hS => ?_)
        obtain rfl := Option.some.inj h
        exact ret_i X dX5_set_62 hP hD hS rfl
    · have h := if_f h hc28
      refine lv_aload_n hx hb dX5_set_31 rfl (lv_at hl 1 rfl) ?_
      refine lv_iload hx hb dX5_set_32 (lv_at hl 0 rfl) ?_
      obtain ⟨v7, hv7, h⟩ := bind_of h
      refine after_i X (run_V X (c_X5_refuse l E a_t a_refusals a_now a_kept a_trial a_reader a_shelves a_one a_two a_search a_outs v2 c_t c_refusals H.size v7 hv7) (cwV 1 hts gX5_set_X5_refuse rfl rfl rfl hV_X5_refuse ⟨(Nat.le_of_ble_eq_true rfl), (Nat.le_of_ble_eq_true rfl)⟩) hP hD hS [0, 1] rfl rfl hl.1 (ci := 5) rfl rfl rfl (rest := []) rfl rfl (Nat.le_of_ble_eq_true rfl) dX5_set_34) hP hD hS [0, 1] [2, 3, 4, 5] [4, 5, 0, 1, 2, 3] rfl rfl rfl (by decide) rfl (ws1 := (W_X5_set E a_t a_refusals a_shelves a_shelves_contents a_shelves_elements a_shelves_sizes a_now a_kept a_trial a_reader a_one a_two a_search a_outs c_t (v7.2) c_shelves_contents c_shelves_elements c_shelves_sizes)) rfl (fun H locs hP hD hS => ?_)
      obtain rfl := Option.some.inj h
      exact ret_i X dX5_set_37 hP hD hS rfl
  · have h := if_t h hc8
    refine lv_aload_n hx hb dX5_set_11 rfl (lv_at hl 0 rfl) ?_
    refine lv_bipush (v := (-2 : Int32)) hx hb dX5_set_12 (by decide) ?_
    obtain ⟨v8, hv8, h⟩ := bind_of h
    refine after_i X (run_V X (c_X5_refuse l E a_t a_refusals a_now a_kept a_trial a_reader a_shelves a_one a_two a_search a_outs (-2 : Int32) c_t c_refusals H.size v8 hv8) (cwV 1 hts gX5_set_X5_refuse rfl rfl rfl hV_X5_refuse ⟨(Nat.le_of_ble_eq_true rfl), (Nat.le_of_ble_eq_true rfl)⟩) hP hD hS [0, 1] rfl rfl hl.1 (ci := 5) rfl rfl rfl (rest := []) rfl rfl (Nat.le_of_ble_eq_true rfl) dX5_set_14) hP hD hS [0, 1] [2, 3, 4, 5] [4, 5, 0, 1, 2, 3] rfl rfl rfl (by decide) rfl (ws1 := (W_X5_set E a_t a_refusals a_shelves a_shelves_contents a_shelves_elements a_shelves_sizes a_now a_kept a_trial a_reader a_one a_two a_search a_outs c_t (v8.2) c_shelves_contents c_shelves_elements c_shelves_sizes)) rfl (fun H locs hP hD hS => ?_)
    obtain rfl := Option.some.inj h
    exact ret_i X dX5_set_17 hP hD hS rfl
end
set_option maxRecDepth 100000 in
theorem c_X5_set (l : Launch) (E : Env0) (a_t : Nat) (a_refusals : Nat) (a_shelves : Nat) (a_shelves_contents : Nat) (a_shelves_elements : Nat) (a_shelves_sizes : Nat) (a_now : Nat) (a_kept : Nat) (a_trial : Nat) (a_reader : Nat) (a_one : Nat) (a_two : Nat) (a_search : Nat) (a_outs : Nat) (l1 : Int32) (l2 : Int32) (l3 : Int64) (c_t : Nat → Int32) (c_refusals : Nat → Int32) (c_shelves_contents : Nat → Int32) (c_shelves_elements : Nat → Int64) (c_shelves_sizes : Nat → Int32) (sz : Nat) (res : Int32 × (Nat → Int32) × (Nat → Int64)) (h : f_X5_set l1 l2 l3 c_t c_refusals c_shelves_contents c_shelves_elements c_shelves_sizes = some res) : Met l yX5_set wsX5_set r_X5_set (cPre E [.ref a_t, .int l1, .int l2, .long l3] (W_X5_set E a_t a_refusals a_shelves a_shelves_contents a_shelves_elements a_shelves_sizes a_now a_kept a_trial a_reader a_one a_two a_search a_outs c_t c_refusals c_shelves_contents c_shelves_elements c_shelves_sizes) sz) (qI E (va_A (W_X5_set E a_t a_refusals a_shelves a_shelves_contents a_shelves_elements a_shelves_sizes a_now a_kept a_trial a_reader a_one a_two a_search a_outs c_t c_refusals c_shelves_contents c_shelves_elements c_shelves_sizes) sz) (res.1) (W_X5_set E a_t a_refusals a_shelves a_shelves_contents a_shelves_elements a_shelves_sizes a_now a_kept a_trial a_reader a_one a_two a_search a_outs c_t (res.2.1) c_shelves_contents (res.2.2) c_shelves_sizes)) 0 0 (va_A (W_X5_set E a_t a_refusals a_shelves a_shelves_contents a_shelves_elements a_shelves_sizes a_now a_kept a_trial a_reader a_one a_two a_search a_outs c_t c_refusals c_shelves_contents c_shelves_elements c_shelves_sizes) sz) :=
  met_of (Qc := fun A => qI E A (res.1) (W_X5_set E a_t a_refusals a_shelves a_shelves_contents a_shelves_elements a_shelves_sizes a_now a_kept a_trial a_reader a_one a_two a_search a_outs c_t (res.2.1) c_shelves_contents (res.2.2) c_shelves_sizes)) (by decide) rfl (Nat.le_of_ble_eq_true rfl) (fun p e s m args below meth c X hP hD hS ls hl => w_X5_set X a_t a_refusals a_shelves a_shelves_contents a_shelves_elements a_shelves_sizes a_now a_kept a_trial a_reader a_one a_two a_search a_outs c_t c_shelves_contents c_shelves_sizes res c_refusals c_shelves_elements l1 l2 l3 ls _ _ h hP hD hS hl)
-- ===== X5_copy
abbrev W_X5_copy (E : Env0) (a_t : Nat) (a_refusals : Nat) (a_shelves : Nat) (a_shelves_contents : Nat) (a_shelves_elements : Nat) (a_shelves_sizes : Nat) (a_now : Nat) (a_kept : Nat) (a_trial : Nat) (a_reader : Nat) (a_one : Nat) (a_two : Nat) (a_search : Nat) (a_outs : Nat) (c_t : Nat → Int32) (c_refusals : Nat → Int32) (c_shelves_contents : Nat → Int32) (c_shelves_elements : Nat → Int64) (c_shelves_sizes : Nat → Int32) : va_W := [(a_t, .inr (5, [.ref a_now, .ref a_kept, .ref a_trial, .ref a_reader, .ref a_shelves, .ref a_one, .ref a_two, .ref a_search, .ref a_outs, .ref a_refusals, .int (c_t 10)])), (a_refusals, .inl (eI E, 5, .inl c_refusals)), (a_shelves, .inr (3, [.ref a_shelves_contents, .ref a_shelves_sizes, .ref a_shelves_elements])), (a_shelves_contents, .inl (eI E, 8, .inl c_shelves_contents)), (a_shelves_elements, .inl (eJ E, 320, .inr (.inl c_shelves_elements))), (a_shelves_sizes, .inl (eI E, 8, .inl c_shelves_sizes))]
abbrev r_X5_copy : Room := { frames := 2, cells := 0, slots := 0, locals := 73 }
theorem hd_X5_copy : yX5_copy.cls ≠ "java/lang/invoke/MethodHandle" ∧ yX5_copy.cls ≠ "java/lang/invoke/VarHandle" ∧ (parseMethodDescriptor yX5_copy.desc).map (fun d => d.parameters.length) = some 5 := by decide +kernel
theorem hV_X5_copy : yX5_copy.cls = RX5 ∧ yX5_copy.cls ≠ "java/lang/invoke/MethodHandle" ∧ yX5_copy.cls ≠ "java/lang/invoke/VarHandle" ∧ (parseMethodDescriptor yX5_copy.desc).map (fun d => d.parameters.length) = some 5 := ⟨rfl, hd_X5_copy⟩
theorem iX5_copy_X5 : ∀ w ∈ wsX50, w ∈ wsX5_copy := fun _ h => List.mem_cons_of_mem _ (List.mem_append_left _ (List.mem_append_right _ (h)))
section
variable {p : Program} {l : Launch} {e : Env} {s : State} {m : MethodId} {args : Array Value} {below : List Frame} {meth : Method} {c : Code} {E : Env0} {A : Nat → Prop}
set_option maxRecDepth 100000 in
set_option maxHeartbeats 4000000 in
theorem w_X5_copy_b22 (X : Ctx p m meth c cX5_copy 8 ((some .int)) s args wsX5_copy RX5 E A) (a_t : Nat) (a_refusals : Nat) (a_shelves : Nat) (a_shelves_contents : Nat) (a_shelves_elements : Nat) (a_shelves_sizes : Nat) (a_now : Nat) (a_kept : Nat) (a_trial : Nat) (a_reader : Nat) (a_one : Nat) (a_two : Nat) (a_search : Nat) (a_outs : Nat) (c_t : Nat → Int32) (c_shelves_contents : Nat → Int32) (c_shelves_sizes : Nat → Int32) (res : Int32 × (Nat → Int32) × (Nat → Int64)) (c_refusals : Nat → Int32) (c_shelves_elements : Nat → Int64) (ls : Array Slot) (H : Heap) (locs : List Loc) (h : f_X5_copy_b22 c_t c_shelves_contents c_shelves_sizes c_refusals c_shelves_elements = some res) (hP : va_P E.1 vwCl (W_X5_copy E a_t a_refusals a_shelves a_shelves_contents a_shelves_elements a_shelves_sizes a_now a_kept a_trial a_reader a_one a_two a_search a_outs c_t c_refusals c_shelves_contents c_shelves_elements c_shelves_sizes) H) (hD : va_D A (W_X5_copy E a_t a_refusals a_shelves a_shelves_contents a_shelves_elements a_shelves_sizes a_now a_kept a_trial a_reader a_one a_two a_search a_outs c_t c_refusals c_shelves_contents c_shelves_elements c_shelves_sizes)) (hS : va_S A s.heap H locs) (hl : lv_has ls 8 [(0, .ref a_t)]) : W p l e r_X5_copy s m args below meth c H locs 0 0 (MQ below (qI E A (res.1) (W_X5_copy E a_t a_refusals a_shelves a_shelves_contents a_shelves_elements a_shelves_sizes a_now a_kept a_trial a_reader a_one a_two a_search a_outs c_t (res.2.1) c_shelves_contents (res.2.2) c_shelves_sizes)) args s 0 0 A) (F0 m 22 ls []) := by
  obtain ⟨hx, hb, hml, hr, hlk, hown, hts, hG, hA⟩ := id X
  have hK := hG.1
  have hN := hG.2.1
  unfold f_X5_copy_b22 at h
  refine lv_aload_n hx hb dX5_copy_22 rfl (lv_at hl 0 rfl) ?_
  refine lv_bipush (v := (-2 : Int32)) hx hb dX5_copy_23 (by decide) ?_
  obtain ⟨v1, hv1, h⟩ := bind_of h
  refine after_i X (run_V X (c_X5_refuse l E a_t a_refusals a_now a_kept a_trial a_reader a_shelves a_one a_two a_search a_outs (-2 : Int32) c_t c_refusals H.size v1 hv1) (cwV 1 hts gX5_copy_X5_refuse rfl rfl rfl hV_X5_refuse ⟨(Nat.le_of_ble_eq_true rfl), (Nat.le_of_ble_eq_true rfl)⟩) hP hD hS [0, 1] rfl rfl hl.1 (ci := 5) rfl rfl rfl (rest := []) rfl rfl (Nat.le_of_ble_eq_true rfl) dX5_copy_25) hP hD hS [0, 1] [2, 3, 4, 5] [4, 5, 0, 1, 2, 3] rfl rfl rfl (by decide) rfl (ws1 := (W_X5_copy E a_t a_refusals a_shelves a_shelves_contents a_shelves_elements a_shelves_sizes a_now a_kept a_trial a_reader a_one a_two a_search a_outs c_t (v1.2) c_shelves_contents c_shelves_elements c_shelves_sizes)) rfl (fun H locs hP hD hS => ?_)
  obtain rfl := Option.some.inj h
  exact ret_i X dX5_copy_28 hP hD hS rfl
set_option maxRecDepth 100000 in
set_option maxHeartbeats 4000000 in
theorem w_X5_copy_b155 (X : Ctx p m meth c cX5_copy 8 ((some .int)) s args wsX5_copy RX5 E A) (a_t : Nat) (a_refusals : Nat) (a_shelves : Nat) (a_shelves_contents : Nat) (a_shelves_elements : Nat) (a_shelves_sizes : Nat) (a_now : Nat) (a_kept : Nat) (a_trial : Nat) (a_reader : Nat) (a_one : Nat) (a_two : Nat) (a_search : Nat) (a_outs : Nat) (c_t : Nat → Int32) (c_shelves_contents : Nat → Int32) (c_shelves_sizes : Nat → Int32) (res : Int32 × (Nat → Int32) × (Nat → Int64)) (c_refusals : Nat → Int32) (c_shelves_elements : Nat → Int64) (ls : Array Slot) (H : Heap) (locs : List Loc) (h : f_X5_copy_b155 c_t c_shelves_contents c_shelves_sizes c_refusals c_shelves_elements = some res) (hP : va_P E.1 vwCl (W_X5_copy E a_t a_refusals a_shelves a_shelves_contents a_shelves_elements a_shelves_sizes a_now a_kept a_trial a_reader a_one a_two a_search a_outs c_t c_refusals c_shelves_contents c_shelves_elements c_shelves_sizes) H) (hD : va_D A (W_X5_copy E a_t a_refusals a_shelves a_shelves_contents a_shelves_elements a_shelves_sizes a_now a_kept a_trial a_reader a_one a_two a_search a_outs c_t c_refusals c_shelves_contents c_shelves_elements c_shelves_sizes)) (hS : va_S A s.heap H locs) (hl : lv_has ls 8 [(0, .ref a_t)]) : W p l e r_X5_copy s m args below meth c H locs 0 0 (MQ below (qI E A (res.1) (W_X5_copy E a_t a_refusals a_shelves a_shelves_contents a_shelves_elements a_shelves_sizes a_now a_kept a_trial a_reader a_one a_two a_search a_outs c_t (res.2.1) c_shelves_contents (res.2.2) c_shelves_sizes)) args s 0 0 A) (F0 m 155 ls []) := by
  obtain ⟨hx, hb, hml, hr, hlk, hown, hts, hG, hA⟩ := id X
  have hK := hG.1
  have hN := hG.2.1
  unfold f_X5_copy_b155 at h
  refine lv_aload_n hx hb dX5_copy_155 rfl (lv_at hl 0 rfl) ?_
  refine lv_bipush (v := (-2 : Int32)) hx hb dX5_copy_156 (by decide) ?_
  obtain ⟨v1, hv1, h⟩ := bind_of h
  refine after_i X (run_V X (c_X5_refuse l E a_t a_refusals a_now a_kept a_trial a_reader a_shelves a_one a_two a_search a_outs (-2 : Int32) c_t c_refusals H.size v1 hv1) (cwV 1 hts gX5_copy_X5_refuse rfl rfl rfl hV_X5_refuse ⟨(Nat.le_of_ble_eq_true rfl), (Nat.le_of_ble_eq_true rfl)⟩) hP hD hS [0, 1] rfl rfl hl.1 (ci := 5) rfl rfl rfl (rest := []) rfl rfl (Nat.le_of_ble_eq_true rfl) dX5_copy_158) hP hD hS [0, 1] [2, 3, 4, 5] [4, 5, 0, 1, 2, 3] rfl rfl rfl (by decide) rfl (ws1 := (W_X5_copy E a_t a_refusals a_shelves a_shelves_contents a_shelves_elements a_shelves_sizes a_now a_kept a_trial a_reader a_one a_two a_search a_outs c_t (v1.2) c_shelves_contents c_shelves_elements c_shelves_sizes)) rfl (fun H locs hP hD hS => ?_)
  obtain rfl := Option.some.inj h
  exact ret_i X dX5_copy_161 hP hD hS rfl
set_option maxRecDepth 100000 in
set_option maxHeartbeats 4000000 in
theorem w_X5_copy_b91 (X : Ctx p m meth c cX5_copy 8 ((some .int)) s args wsX5_copy RX5 E A) (a_t : Nat) (a_refusals : Nat) (a_shelves : Nat) (a_shelves_contents : Nat) (a_shelves_elements : Nat) (a_shelves_sizes : Nat) (a_now : Nat) (a_kept : Nat) (a_trial : Nat) (a_reader : Nat) (a_one : Nat) (a_two : Nat) (a_search : Nat) (a_outs : Nat) (c_t : Nat → Int32) (c_shelves_contents : Nat → Int32) (c_shelves_sizes : Nat → Int32) (res : Int32 × (Nat → Int32) × (Nat → Int64)) (c_refusals : Nat → Int32) (c_shelves_elements : Nat → Int64) (l1 : Int32) (l2 : Int32) (l3 : Int32) (l4 : Int32) (l5 : Int32) (ls : Array Slot) (H : Heap) (locs : List Loc) (h : f_X5_copy_b91 c_t c_shelves_contents c_shelves_sizes c_refusals c_shelves_elements l1 l2 l3 l4 l5 = some res) (hP : va_P E.1 vwCl (W_X5_copy E a_t a_refusals a_shelves a_shelves_contents a_shelves_elements a_shelves_sizes a_now a_kept a_trial a_reader a_one a_two a_search a_outs c_t c_refusals c_shelves_contents c_shelves_elements c_shelves_sizes) H) (hD : va_D A (W_X5_copy E a_t a_refusals a_shelves a_shelves_contents a_shelves_elements a_shelves_sizes a_now a_kept a_trial a_reader a_one a_two a_search a_outs c_t c_refusals c_shelves_contents c_shelves_elements c_shelves_sizes)) (hS : va_S A s.heap H locs) (hl : lv_has ls 8 [(0, .ref a_t), (1, .int l1), (2, .int l2), (3, .int l3), (4, .int l4), (5, .int l5)]) : W p l e r_X5_copy s m args below meth c H locs 0 0 (MQ below (qI E A (res.1) (W_X5_copy E a_t a_refusals a_shelves a_shelves_contents a_shelves_elements a_shelves_sizes a_now a_kept a_trial a_reader a_one a_two a_search a_outs c_t (res.2.1) c_shelves_contents (res.2.2) c_shelves_sizes)) args s 0 0 A) (F0 m 91 ls []) := by
  obtain ⟨hx, hb, hml, hr, hlk, hown, hts, hG, hA⟩ := id X
  have hK := hG.1
  have hN := hG.2.1
  unfold f_X5_copy_b91 at h
  refine lv_aload_n hx hb dX5_copy_91 rfl (lv_at hl 0 rfl) ?_
  refine lv_iload_n hx hb dX5_copy_92 rfl (lv_at hl 1 rfl) ?_
  refine lv_iload_n hx hb dX5_copy_93 rfl (lv_at hl 2 rfl) ?_
  obtain ⟨v1, hv1, h⟩ := bind_of h
  refine after_i X (run_V X (c_X5_rowFault l E a_t a_shelves a_shelves_contents a_now a_kept a_trial a_reader a_one a_two a_search a_outs a_refusals a_shelves_sizes a_shelves_elements l1 l2 c_t c_shelves_contents H.size v1 hv1) (cwV 2 hts gX5_copy_X5_rowFault rfl rfl rfl hV_X5_rowFault ⟨(Nat.le_of_ble_eq_true rfl), (Nat.le_of_ble_eq_true rfl)⟩) hP hD hS [0, 2, 3] rfl rfl hl.1 (ci := 5) rfl rfl rfl (rest := []) rfl rfl (Nat.le_of_ble_eq_true rfl) dX5_copy_94) hP hD hS [0, 2, 3] [1, 4, 5] [3, 0, 4, 5, 1, 2] rfl rfl rfl (by decide) rfl (ws1 := (W_X5_copy E a_t a_refusals a_shelves a_shelves_contents a_shelves_elements a_shelves_sizes a_now a_kept a_trial a_reader a_one a_two a_search a_outs c_t c_refusals c_shelves_contents c_shelves_elements c_shelves_sizes)) rfl (fun H locs hP hD hS => ?_)
  refine lv_istore (lv' := [(7, .int v1), (0, .ref a_t), (1, .int l1), (2, .int l2), (3, .int l3), (4, .int l4), (5, .int l5)]) hx hb dX5_copy_97 hl (by decide) rfl (fun ls hl => ?_)
  refine lv_iload hx hb dX5_copy_99 (lv_at hl 0 rfl) ?_
  refine lv_if_eq (tgt := 111) hx hb dX5_copy_101 (by decide) (fun hc101 => ?_) (fun hc101 => ?_)
  · have h := if_t h hc101
    refine lv_iload hx hb dX5_copy_111 (lv_at hl 6 rfl) ?_
    refine lv_if_lt (tgt := 155) hx hb dX5_copy_113 (by decide) (fun hc113 => ?_) (fun hc113 => ?_)
    · have h := if_t h hc113
      exact w_X5_copy_b155 X a_t a_refusals a_shelves a_shelves_contents a_shelves_elements a_shelves_sizes a_now a_kept a_trial a_reader a_one a_two a_search a_outs c_t c_shelves_contents c_shelves_sizes res c_refusals c_shelves_elements _ _ _ h hP hD hS (lv_sub hl [1] rfl)
    · have h := if_f h hc113
      refine lv_iload_n hx hb dX5_copy_116 rfl (lv_at hl 4 rfl) ?_
      refine lv_iconst (v := (0 : Int32)) hx hb dX5_copy_117 (by decide) ?_
      refine lv_aload_n hx hb dX5_copy_118 rfl (lv_at hl 1 rfl) ?_
      refine va_get (D := E.1) (ci := 5) (v := .ref a_shelves) (C := RX5) (T := TX5) (N := 11) hx hb hts iX5_copy_X5 hown hK hP 0 rfl rfl 4 (by decide) (hts (.fieldLink RX5 34 "LeftIsAgreedOn" "shelves" "LLeftIsAgreedOn$Shelves;") (List.mem_of_getElem? (i := 1) rfl)) (fun _ h9 => h9) rfl dX5_copy_119 ?_
      refine lv_iload_n hx hb dX5_copy_122 rfl (lv_at hl 2 rfl) ?_
      obtain ⟨v2, hv2, h⟩ := bind_of h
      refine after_i X (run_V X (c_X3_sizeOf l E a_shelves a_shelves_sizes a_shelves_contents a_shelves_elements l1 c_shelves_sizes H.size v2 hv2) (cwV 1 hts gX5_copy_X3_sizeOf rfl rfl rfl hV_X3_sizeOf ⟨(Nat.le_of_ble_eq_true rfl), (Nat.le_of_ble_eq_true rfl)⟩) hP hD hS [2, 5] rfl rfl hl.1 (ci := 3) rfl rfl rfl (rest := [.int (0 : Int32), .int l3]) rfl rfl (Nat.le_of_ble_eq_true rfl) dX5_copy_123) hP hD hS [2, 5] [0, 1, 3, 4] [0, 1, 4, 2, 3, 5] rfl rfl rfl (by decide) rfl (ws1 := (W_X5_copy E a_t a_refusals a_shelves a_shelves_contents a_shelves_elements a_shelves_sizes a_now a_kept a_trial a_reader a_one a_two a_search a_outs c_t c_refusals c_shelves_contents c_shelves_elements c_shelves_sizes)) rfl (fun H locs hP hD hS => ?_)
      refine lv_iload hx hb dX5_copy_126 (lv_at hl 6 rfl) ?_
      refine lv_isub hx hb dX5_copy_128 ?_
      obtain ⟨v3, hv3, h⟩ := bind_of h
      refine after_i X (run_S X (c_X5_isWithin l E l3 (0 : Int32) (v2 - l5) H.size v3 hv3) (va_cwS 3 hts gX5_copy_X5_isWithin rfl rfl rfl hd_X5_isWithin ⟨(Nat.le_of_ble_eq_true rfl), (Nat.le_of_ble_eq_true rfl)⟩) hP hD hS [] rfl rfl hl.1 (rest := []) rfl rfl (Nat.le_of_ble_eq_true rfl) dX5_copy_129) hP hD hS [] [0, 1, 2, 3, 4, 5] [0, 1, 2, 3, 4, 5] rfl rfl rfl (by decide) rfl (ws1 := (W_X5_copy E a_t a_refusals a_shelves a_shelves_contents a_shelves_elements a_shelves_sizes a_now a_kept a_trial a_reader a_one a_two a_search a_outs c_t c_refusals c_shelves_contents c_shelves_elements c_shelves_sizes)) rfl (fun H locs hP hD hS => ?_)
      refine lv_if_eq (tgt := 155) hx hb dX5_copy_132 (by decide) (fun hc132 => ?_) (fun hc132 => ?_)
      · have h := if_t h hc132
        exact w_X5_copy_b155 X a_t a_refusals a_shelves a_shelves_contents a_shelves_elements a_shelves_sizes a_now a_kept a_trial a_reader a_one a_two a_search a_outs c_t c_shelves_contents c_shelves_sizes res c_refusals c_shelves_elements _ _ _ h hP hD hS (lv_sub hl [1] rfl)
      · have h := if_f h hc132
        refine lv_iload hx hb dX5_copy_135 (lv_at hl 5 rfl) ?_
        refine lv_iconst (v := (0 : Int32)) hx hb dX5_copy_137 (by decide) ?_
        refine lv_aload_n hx hb dX5_copy_138 rfl (lv_at hl 1 rfl) ?_
        refine va_get (D := E.1) (ci := 5) (v := .ref a_shelves) (C := RX5) (T := TX5) (N := 11) hx hb hts iX5_copy_X5 hown hK hP 0 rfl rfl 4 (by decide) (hts (.fieldLink RX5 34 "LeftIsAgreedOn" "shelves" "LLeftIsAgreedOn$Shelves;") (List.mem_of_getElem? (i := 1) rfl)) (fun _ h9 => h9) rfl dX5_copy_139 ?_
        refine lv_iload_n hx hb dX5_copy_142 rfl (lv_at hl 3 rfl) ?_
        obtain ⟨v4, hv4, h⟩ := bind_of h
        refine after_i X (run_V X (c_X3_sizeOf l E a_shelves a_shelves_sizes a_shelves_contents a_shelves_elements l2 c_shelves_sizes H.size v4 hv4) (cwV 1 hts gX5_copy_X3_sizeOf rfl rfl rfl hV_X3_sizeOf ⟨(Nat.le_of_ble_eq_true rfl), (Nat.le_of_ble_eq_true rfl)⟩) hP hD hS [2, 5] rfl rfl hl.1 (ci := 3) rfl rfl rfl (rest := [.int (0 : Int32), .int l4]) rfl rfl (Nat.le_of_ble_eq_true rfl) dX5_copy_143) hP hD hS [2, 5] [0, 1, 3, 4] [0, 1, 4, 2, 3, 5] rfl rfl rfl (by decide) rfl (ws1 := (W_X5_copy E a_t a_refusals a_shelves a_shelves_contents a_shelves_elements a_shelves_sizes a_now a_kept a_trial a_reader a_one a_two a_search a_outs c_t c_refusals c_shelves_contents c_shelves_elements c_shelves_sizes)) rfl (fun H locs hP hD hS => ?_)
        refine lv_iload hx hb dX5_copy_146 (lv_at hl 6 rfl) ?_
        refine lv_isub hx hb dX5_copy_148 ?_
        obtain ⟨v5, hv5, h⟩ := bind_of h
        refine after_i X (run_S X (c_X5_isWithin l E l4 (0 : Int32) (v4 - l5) H.size v5 hv5) (va_cwS 3 hts gX5_copy_X5_isWithin rfl rfl rfl hd_X5_isWithin ⟨(Nat.le_of_ble_eq_true rfl), (Nat.le_of_ble_eq_true rfl)⟩) hP hD hS [] rfl rfl hl.1 (rest := []) rfl rfl (Nat.le_of_ble_eq_true rfl) dX5_copy_149) hP hD hS [] [0, 1, 2, 3, 4, 5] [0, 1, 2, 3, 4, 5] rfl rfl rfl (by decide) rfl (ws1 := (W_X5_copy E a_t a_refusals a_shelves a_shelves_contents a_shelves_elements a_shelves_sizes a_now a_kept a_trial a_reader a_one a_two a_search a_outs c_t c_refusals c_shelves_contents c_shelves_elements c_shelves_sizes)) rfl (fun H locs hP hD hS => ?_)
        refine lv_if_ne (tgt := 162) hx hb dX5_copy_152 (by decide) (fun hc152 => ?_) (fun hc152 => ?_)
        · have h := if_f h hc152
          refine lv_aload_n hx hb dX5_copy_162 rfl (lv_at hl 1 rfl) ?_
          refine va_get (D := E.1) (ci := 5) (v := .ref a_shelves) (C := RX5) (T := TX5) (N := 11) hx hb hts iX5_copy_X5 hown hK hP 0 rfl rfl 4 (by decide) (hts (.fieldLink RX5 34 "LeftIsAgreedOn" "shelves" "LLeftIsAgreedOn$Shelves;") (List.mem_of_getElem? (i := 1) rfl)) (fun _ h9 => h9) rfl dX5_copy_163 ?_
          refine lv_iload_n hx hb dX5_copy_166 rfl (lv_at hl 2 rfl) ?_
          refine lv_iload_n hx hb dX5_copy_167 rfl (lv_at hl 3 rfl) ?_
          refine lv_iload_n hx hb dX5_copy_168 rfl (lv_at hl 4 rfl) ?_
          refine lv_iload hx hb dX5_copy_169 (lv_at hl 5 rfl) ?_
          refine lv_iload hx hb dX5_copy_171 (lv_at hl 6 rfl) ?_
          obtain ⟨v6, hv6, h⟩ := bind_of h
          refine after_v X (run_V X (c_X3_move l E a_shelves a_shelves_elements a_shelves_contents a_shelves_sizes l1 l2 l3 l4 l5 c_shelves_elements H.size v6 hv6) (cwV 5 hts gX5_copy_X3_move rfl rfl rfl hV_X3_move ⟨(Nat.le_of_ble_eq_true rfl), (Nat.le_of_ble_eq_true rfl)⟩) hP hD hS [2, 4] rfl rfl hl.1 (ci := 3) rfl rfl rfl (rest := []) rfl rfl (Nat.le_of_ble_eq_true rfl) dX5_copy_173) hP hD hS [2, 4] [0, 1, 3, 5] [0, 1, 4, 2, 5, 3] rfl rfl rfl (by decide) rfl (ws1 := (W_X5_copy E a_t a_refusals a_shelves a_shelves_contents a_shelves_elements a_shelves_sizes a_now a_kept a_trial a_reader a_one a_two a_search a_outs c_t c_refusals c_shelves_contents v6 c_shelves_sizes)) rfl (fun H locs hP hD hS => ?_)
          refine lv_iload hx hb dX5_copy_176 (lv_at hl 6 rfl) ?_
          obtain rfl := Option.some.inj h
          exact ret_i X dX5_copy_178 hP hD hS rfl
        · have h := if_t h hc152
          exact w_X5_copy_b155 X a_t a_refusals a_shelves a_shelves_contents a_shelves_elements a_shelves_sizes a_now a_kept a_trial a_reader a_one a_two a_search a_outs c_t c_shelves_contents c_shelves_sizes res c_refusals c_shelves_elements _ _ _ h hP hD hS (lv_sub hl [1] rfl)
  · have h := if_f h hc101
    refine lv_aload_n hx hb dX5_copy_104 rfl (lv_at hl 1 rfl) ?_
    refine lv_iload hx hb dX5_copy_105 (lv_at hl 0 rfl) ?_
    obtain ⟨v7, hv7, h⟩ := bind_of h
    refine after_i X (run_V X (c_X5_refuse l E a_t a_refusals a_now a_kept a_trial a_reader a_shelves a_one a_two a_search a_outs v1 c_t c_refusals H.size v7 hv7) (cwV 1 hts gX5_copy_X5_refuse rfl rfl rfl hV_X5_refuse ⟨(Nat.le_of_ble_eq_true rfl), (Nat.le_of_ble_eq_true rfl)⟩) hP hD hS [0, 1] rfl rfl hl.1 (ci := 5) rfl rfl rfl (rest := []) rfl rfl (Nat.le_of_ble_eq_true rfl) dX5_copy_107) hP hD hS [0, 1] [2, 3, 4, 5] [4, 5, 0, 1, 2, 3] rfl rfl rfl (by decide) rfl (ws1 := (W_X5_copy E a_t a_refusals a_shelves a_shelves_contents a_shelves_elements a_shelves_sizes a_now a_kept a_trial a_reader a_one a_two a_search a_outs c_t (v7.2) c_shelves_contents c_shelves_elements c_shelves_sizes)) rfl (fun H locs hP hD hS => ?_)
    obtain rfl := Option.some.inj h
    exact ret_i X dX5_copy_110 hP hD hS rfl
set_option maxRecDepth 100000 in
set_option maxHeartbeats 4000000 in
theorem w_X5_copy_b58 (X : Ctx p m meth c cX5_copy 8 ((some .int)) s args wsX5_copy RX5 E A) (a_t : Nat) (a_refusals : Nat) (a_shelves : Nat) (a_shelves_contents : Nat) (a_shelves_elements : Nat) (a_shelves_sizes : Nat) (a_now : Nat) (a_kept : Nat) (a_trial : Nat) (a_reader : Nat) (a_one : Nat) (a_two : Nat) (a_search : Nat) (a_outs : Nat) (c_t : Nat → Int32) (c_shelves_contents : Nat → Int32) (c_shelves_sizes : Nat → Int32) (res : Int32 × (Nat → Int32) × (Nat → Int64)) (c_refusals : Nat → Int32) (c_shelves_elements : Nat → Int64) (l1 : Int32) (l2 : Int32) (l3 : Int32) (l4 : Int32) (l5 : Int32) (s0 : Int32) (ls : Array Slot) (H : Heap) (locs : List Loc) (h : f_X5_copy_b58 c_t c_shelves_contents c_shelves_sizes c_refusals c_shelves_elements l1 l2 l3 l4 l5 s0 = some res) (hP : va_P E.1 vwCl (W_X5_copy E a_t a_refusals a_shelves a_shelves_contents a_shelves_elements a_shelves_sizes a_now a_kept a_trial a_reader a_one a_two a_search a_outs c_t c_refusals c_shelves_contents c_shelves_elements c_shelves_sizes) H) (hD : va_D A (W_X5_copy E a_t a_refusals a_shelves a_shelves_contents a_shelves_elements a_shelves_sizes a_now a_kept a_trial a_reader a_one a_two a_search a_outs c_t c_refusals c_shelves_contents c_shelves_elements c_shelves_sizes)) (hS : va_S A s.heap H locs) (hl : lv_has ls 8 [(0, .ref a_t), (1, .int l1), (2, .int l2), (3, .int l3), (4, .int l4), (5, .int l5)]) : W p l e r_X5_copy s m args below meth c H locs 0 0 (MQ below (qI E A (res.1) (W_X5_copy E a_t a_refusals a_shelves a_shelves_contents a_shelves_elements a_shelves_sizes a_now a_kept a_trial a_reader a_one a_two a_search a_outs c_t (res.2.1) c_shelves_contents (res.2.2) c_shelves_sizes)) args s 0 0 A) (F0 m 58 ls [.int s0]) := by
  obtain ⟨hx, hb, hml, hr, hlk, hown, hts, hG, hA⟩ := id X
  have hK := hG.1
  have hN := hG.2.1
  unfold f_X5_copy_b58 at h
  refine lv_istore (lv' := [(6, .int s0), (0, .ref a_t), (1, .int l1), (2, .int l2), (3, .int l3), (4, .int l4), (5, .int l5)]) hx hb dX5_copy_58 hl (by decide) rfl (fun ls hl => ?_)
  refine lv_iload hx hb dX5_copy_60 (lv_at hl 0 rfl) ?_
  refine lv_if_eq (tgt := 91) hx hb dX5_copy_62 (by decide) (fun hc62 => ?_) (fun hc62 => ?_)
  · have h := if_t h hc62
    exact w_X5_copy_b91 X a_t a_refusals a_shelves a_shelves_contents a_shelves_elements a_shelves_sizes a_now a_kept a_trial a_reader a_one a_two a_search a_outs c_t c_shelves_contents c_shelves_sizes res c_refusals c_shelves_elements l1 l2 l3 l4 l5 _ _ _ h hP hD hS (lv_sub hl [1, 2, 3, 4, 5, 6] rfl)
  · have h := if_f h hc62
    refine lv_aload_n hx hb dX5_copy_65 rfl (lv_at hl 1 rfl) ?_
    refine va_get (D := E.1) (ci := 5) (v := .ref a_shelves) (C := RX5) (T := TX5) (N := 11) hx hb hts iX5_copy_X5 hown hK hP 0 rfl rfl 4 (by decide) (hts (.fieldLink RX5 34 "LeftIsAgreedOn" "shelves" "LLeftIsAgreedOn$Shelves;") (List.mem_of_getElem? (i := 1) rfl)) (fun _ h9 => h9) rfl dX5_copy_66 ?_
    refine lv_iload_n hx hb dX5_copy_69 rfl (lv_at hl 2 rfl) ?_
    obtain ⟨v1, hv1, h⟩ := bind_of h
    refine after_i X (run_V X (c_X3_held l E a_shelves a_shelves_contents a_shelves_sizes a_shelves_elements l1 c_shelves_contents H.size v1 hv1) (cwV 1 hts gX5_copy_X3_held rfl rfl rfl hV_X3_held ⟨(Nat.le_of_ble_eq_true rfl), (Nat.le_of_ble_eq_true rfl)⟩) hP hD hS [2, 3] rfl rfl hl.1 (ci := 3) rfl rfl rfl (rest := []) rfl rfl (Nat.le_of_ble_eq_true rfl) dX5_copy_70) hP hD hS [2, 3] [0, 1, 4, 5] [0, 1, 4, 5, 2, 3] rfl rfl rfl (by decide) rfl (ws1 := (W_X5_copy E a_t a_refusals a_shelves a_shelves_contents a_shelves_elements a_shelves_sizes a_now a_kept a_trial a_reader a_one a_two a_search a_outs c_t c_refusals c_shelves_contents c_shelves_elements c_shelves_sizes)) rfl (fun H locs hP hD hS => ?_)
    refine lv_aload_n hx hb dX5_copy_73 rfl (lv_at hl 1 rfl) ?_
    refine va_get (D := E.1) (ci := 5) (v := .ref a_shelves) (C := RX5) (T := TX5) (N := 11) hx hb hts iX5_copy_X5 hown hK hP 0 rfl rfl 4 (by decide) (hts (.fieldLink RX5 34 "LeftIsAgreedOn" "shelves" "LLeftIsAgreedOn$Shelves;") (List.mem_of_getElem? (i := 1) rfl)) (fun _ h9 => h9) rfl dX5_copy_74 ?_
    refine lv_iload_n hx hb dX5_copy_77 rfl (lv_at hl 3 rfl) ?_
    obtain ⟨v2, hv2, h⟩ := bind_of h
    refine after_i X (run_V X (c_X3_held l E a_shelves a_shelves_contents a_shelves_sizes a_shelves_elements l2 c_shelves_contents H.size v2 hv2) (cwV 1 hts gX5_copy_X3_held rfl rfl rfl hV_X3_held ⟨(Nat.le_of_ble_eq_true rfl), (Nat.le_of_ble_eq_true rfl)⟩) hP hD hS [2, 3] rfl rfl hl.1 (ci := 3) rfl rfl rfl (rest := [.int v1]) rfl rfl (Nat.le_of_ble_eq_true rfl) dX5_copy_78) hP hD hS [2, 3] [0, 1, 4, 5] [0, 1, 4, 5, 2, 3] rfl rfl rfl (by decide) rfl (ws1 := (W_X5_copy E a_t a_refusals a_shelves a_shelves_contents a_shelves_elements a_shelves_sizes a_now a_kept a_trial a_reader a_one a_two a_search a_outs c_t c_refusals c_shelves_contents c_shelves_elements c_shelves_sizes)) rfl (fun H locs hP hD hS => ?_)
    refine lv_icmp_eq (tgt := 91) hx hb dX5_copy_81 (by decide) (fun hc81 => ?_) (fun hc81 => ?_)
    · have h := if_t h hc81
      exact w_X5_copy_b91 X a_t a_refusals a_shelves a_shelves_contents a_shelves_elements a_shelves_sizes a_now a_kept a_trial a_reader a_one a_two a_search a_outs c_t c_shelves_contents c_shelves_sizes res c_refusals c_shelves_elements l1 l2 l3 l4 l5 _ _ _ h hP hD hS (lv_sub hl [1, 2, 3, 4, 5, 6] rfl)
    · have h := if_f h hc81
      refine lv_aload_n hx hb dX5_copy_84 rfl (lv_at hl 1 rfl) ?_
      refine lv_bipush (v := (-3 : Int32)) hx hb dX5_copy_85 (by decide) ?_
      obtain ⟨v3, hv3, h⟩ := bind_of h
      refine after_i X (run_V X (c_X5_refuse l E a_t a_refusals a_now a_kept a_trial a_reader a_shelves a_one a_two a_search a_outs (-3 : Int32) c_t c_refusals H.size v3 hv3) (cwV 1 hts gX5_copy_X5_refuse rfl rfl rfl hV_X5_refuse ⟨(Nat.le_of_ble_eq_true rfl), (Nat.le_of_ble_eq_true rfl)⟩) hP hD hS [0, 1] rfl rfl hl.1 (ci := 5) rfl rfl rfl (rest := []) rfl rfl (Nat.le_of_ble_eq_true rfl) dX5_copy_87) hP hD hS [0, 1] [2, 3, 4, 5] [4, 5, 0, 1, 2, 3] rfl rfl rfl (by decide) rfl (ws1 := (W_X5_copy E a_t a_refusals a_shelves a_shelves_contents a_shelves_elements a_shelves_sizes a_now a_kept a_trial a_reader a_one a_two a_search a_outs c_t (v3.2) c_shelves_contents c_shelves_elements c_shelves_sizes)) rfl (fun H locs hP hD hS => ?_)
      obtain rfl := Option.some.inj h
      exact ret_i X dX5_copy_90 hP hD hS rfl
set_option maxRecDepth 100000 in
set_option maxHeartbeats 4000000 in
theorem w_X5_copy_b57 (X : Ctx p m meth c cX5_copy 8 ((some .int)) s args wsX5_copy RX5 E A) (a_t : Nat) (a_refusals : Nat) (a_shelves : Nat) (a_shelves_contents : Nat) (a_shelves_elements : Nat) (a_shelves_sizes : Nat) (a_now : Nat) (a_kept : Nat) (a_trial : Nat) (a_reader : Nat) (a_one : Nat) (a_two : Nat) (a_search : Nat) (a_outs : Nat) (c_t : Nat → Int32) (c_shelves_contents : Nat → Int32) (c_shelves_sizes : Nat → Int32) (res : Int32 × (Nat → Int32) × (Nat → Int64)) (c_refusals : Nat → Int32) (c_shelves_elements : Nat → Int64) (l1 : Int32) (l2 : Int32) (l3 : Int32) (l4 : Int32) (l5 : Int32) (ls : Array Slot) (H : Heap) (locs : List Loc) (h : f_X5_copy_b57 c_t c_shelves_contents c_shelves_sizes c_refusals c_shelves_elements l1 l2 l3 l4 l5 = some res) (hP : va_P E.1 vwCl (W_X5_copy E a_t a_refusals a_shelves a_shelves_contents a_shelves_elements a_shelves_sizes a_now a_kept a_trial a_reader a_one a_two a_search a_outs c_t c_refusals c_shelves_contents c_shelves_elements c_shelves_sizes) H) (hD : va_D A (W_X5_copy E a_t a_refusals a_shelves a_shelves_contents a_shelves_elements a_shelves_sizes a_now a_kept a_trial a_reader a_one a_two a_search a_outs c_t c_refusals c_shelves_contents c_shelves_elements c_shelves_sizes)) (hS : va_S A s.heap H locs) (hl : lv_has ls 8 [(0, .ref a_t), (1, .int l1), (2, .int l2), (3, .int l3), (4, .int l4), (5, .int l5)]) : W p l e r_X5_copy s m args below meth c H locs 0 0 (MQ below (qI E A (res.1) (W_X5_copy E a_t a_refusals a_shelves a_shelves_contents a_shelves_elements a_shelves_sizes a_now a_kept a_trial a_reader a_one a_two a_search a_outs c_t (res.2.1) c_shelves_contents (res.2.2) c_shelves_sizes)) args s 0 0 A) (F0 m 57 ls []) := by
  obtain ⟨hx, hb, hml, hr, hlk, hown, hts, hG, hA⟩ := id X
  have hK := hG.1
  have hN := hG.2.1
  unfold f_X5_copy_b57 at h
  refine lv_iconst (v := (0 : Int32)) hx hb dX5_copy_57 (by decide) ?_
  exact w_X5_copy_b58 X a_t a_refusals a_shelves a_shelves_contents a_shelves_elements a_shelves_sizes a_now a_kept a_trial a_reader a_one a_two a_search a_outs c_t c_shelves_contents c_shelves_sizes res c_refusals c_shelves_elements l1 l2 l3 l4 l5 (0 : Int32) _ _ _ h hP hD hS (lv_sub hl [0, 1, 2, 3, 4, 5] rfl)
set_option maxRecDepth 100000 in
set_option maxHeartbeats 4000000 in
theorem w_X5_copy (X : Ctx p m meth c cX5_copy 8 ((some .int)) s args wsX5_copy RX5 E A) (a_t : Nat) (a_refusals : Nat) (a_shelves : Nat) (a_shelves_contents : Nat) (a_shelves_elements : Nat) (a_shelves_sizes : Nat) (a_now : Nat) (a_kept : Nat) (a_trial : Nat) (a_reader : Nat) (a_one : Nat) (a_two : Nat) (a_search : Nat) (a_outs : Nat) (c_t : Nat → Int32) (c_shelves_contents : Nat → Int32) (c_shelves_sizes : Nat → Int32) (res : Int32 × (Nat → Int32) × (Nat → Int64)) (c_refusals : Nat → Int32) (c_shelves_elements : Nat → Int64) (l1 : Int32) (l2 : Int32) (l3 : Int32) (l4 : Int32) (l5 : Int32) (ls : Array Slot) (H : Heap) (locs : List Loc) (h : f_X5_copy l1 l2 l3 l4 l5 c_t c_refusals c_shelves_contents c_shelves_elements c_shelves_sizes = some res) (hP : va_P E.1 vwCl (W_X5_copy E a_t a_refusals a_shelves a_shelves_contents a_shelves_elements a_shelves_sizes a_now a_kept a_trial a_reader a_one a_two a_search a_outs c_t c_refusals c_shelves_contents c_shelves_elements c_shelves_sizes) H) (hD : va_D A (W_X5_copy E a_t a_refusals a_shelves a_shelves_contents a_shelves_elements a_shelves_sizes a_now a_kept a_trial a_reader a_one a_two a_search a_outs c_t c_refusals c_shelves_contents c_shelves_elements c_shelves_sizes)) (hS : va_S A s.heap H locs) (hl : lv_has ls 8 [(0, .ref a_t), (1, .int l1), (2, .int l2), (3, .int l3), (4, .int l4), (5, .int l5)]) : W p l e r_X5_copy s m args below meth c H locs 0 0 (MQ below (qI E A (res.1) (W_X5_copy E a_t a_refusals a_shelves a_shelves_contents a_shelves_elements a_shelves_sizes a_now a_kept a_trial a_reader a_one a_two a_search a_outs c_t (res.2.1) c_shelves_contents (res.2.2) c_shelves_sizes)) args s 0 0 A) (F0 m 0 ls []) := by
  obtain ⟨hx, hb, hml, hr, hlk, hown, hts, hG, hA⟩ := id X
  have hK := hG.1
  have hN := hG.2.1
  unfold f_X5_copy at h
  refine lv_aload_n hx hb dX5_copy_0 rfl (lv_at hl 0 rfl) ?_
  refine va_get (D := E.1) (ci := 5) (v := .ref a_shelves) (C := RX5) (T := TX5) (N := 11) hx hb hts iX5_copy_X5 hown hK hP 0 rfl rfl 4 (by decide) (hts (.fieldLink RX5 34 "LeftIsAgreedOn" "shelves" "LLeftIsAgreedOn$Shelves;") (List.mem_of_getElem? (i := 1) rfl)) (fun _ h9 => h9) rfl dX5_copy_1 ?_
  refine lv_iload_n hx hb dX5_copy_4 rfl (lv_at hl 1 rfl) ?_
  obtain ⟨v1, hv1, h⟩ := bind_of h
  refine after_i X (run_V X (c_X3_isShelf l E a_shelves a_shelves_contents a_shelves_sizes a_shelves_elements l1 H.size v1 hv1) (cwV 1 hts gX5_copy_X3_isShelf rfl rfl rfl hV_X3_isShelf ⟨(Nat.le_of_ble_eq_true rfl), (Nat.le_of_ble_eq_true rfl)⟩) hP hD hS [2] rfl rfl hl.1 (ci := 3) rfl rfl rfl (rest := []) rfl rfl (Nat.le_of_ble_eq_true rfl) dX5_copy_5) hP hD hS [2] [0, 1, 3, 4, 5] [0, 1, 5, 2, 3, 4] rfl rfl rfl (by decide) rfl (ws1 := (W_X5_copy E a_t a_refusals a_shelves a_shelves_contents a_shelves_elements a_shelves_sizes a_now a_kept a_trial a_reader a_one a_two a_search a_outs c_t c_refusals c_shelves_contents c_shelves_elements c_shelves_sizes)) rfl (fun H locs hP hD hS => ?_)
  refine lv_if_eq (tgt := 22) hx hb dX5_copy_8 (by decide) (fun hc8 => ?_) (fun hc8 => ?_)
  · have h := if_t h hc8
    exact w_X5_copy_b22 X a_t a_refusals a_shelves a_shelves_contents a_shelves_elements a_shelves_sizes a_now a_kept a_trial a_reader a_one a_two a_search a_outs c_t c_shelves_contents c_shelves_sizes res c_refusals c_shelves_elements _ _ _ h hP hD hS (lv_sub hl [0] rfl)
  · have h := if_f h hc8
    refine lv_aload_n hx hb dX5_copy_11 rfl (lv_at hl 0 rfl) ?_
    refine va_get (D := E.1) (ci := 5) (v := .ref a_shelves) (C := RX5) (T := TX5) (N := 11) hx hb hts iX5_copy_X5 hown hK hP 0 rfl rfl 4 (by decide) (hts (.fieldLink RX5 34 "LeftIsAgreedOn" "shelves" "LLeftIsAgreedOn$Shelves;") (List.mem_of_getElem? (i := 1) rfl)) (fun _ h9 => h9) rfl dX5_copy_12 ?_
    refine lv_iload_n hx hb dX5_copy_15 rfl (lv_at hl 2 rfl) ?_
    obtain ⟨v2, hv2, h⟩ := bind_of h
    refine after_i X (run_V X (c_X3_isShelf l E a_shelves a_shelves_contents a_shelves_sizes a_shelves_elements l2 H.size v2 hv2) (cwV 1 hts gX5_copy_X3_isShelf rfl rfl rfl hV_X3_isShelf ⟨(Nat.le_of_ble_eq_true rfl), (Nat.le_of_ble_eq_true rfl)⟩) hP hD hS [2] rfl rfl hl.1 (ci := 3) rfl rfl rfl (rest := []) rfl rfl (Nat.le_of_ble_eq_true rfl) dX5_copy_16) hP hD hS [2] [0, 1, 3, 4, 5] [0, 1, 5, 2, 3, 4] rfl rfl rfl (by decide) rfl (ws1 := (W_X5_copy E a_t a_refusals a_shelves a_shelves_contents a_shelves_elements a_shelves_sizes a_now a_kept a_trial a_reader a_one a_two a_search a_outs c_t c_refusals c_shelves_contents c_shelves_elements c_shelves_sizes)) rfl (fun H locs hP hD hS => ?_)
    refine lv_if_ne (tgt := 29) hx hb dX5_copy_19 (by decide) (fun hc19 => ?_) (fun hc19 => ?_)
    · have h := if_f h hc19
      refine lv_aload_n hx hb dX5_copy_29 rfl (lv_at hl 0 rfl) ?_
      refine va_get (D := E.1) (ci := 5) (v := .ref a_shelves) (C := RX5) (T := TX5) (N := 11) hx hb hts iX5_copy_X5 hown hK hP 0 rfl rfl 4 (by decide) (hts (.fieldLink RX5 34 "LeftIsAgreedOn" "shelves" "LLeftIsAgreedOn$Shelves;") (List.mem_of_getElem? (i := 1) rfl)) (fun _ h9 => h9) rfl dX5_copy_30 ?_
      refine lv_iload_n hx hb dX5_copy_33 rfl (lv_at hl 1 rfl) ?_
      obtain ⟨v3, hv3, h⟩ := bind_of h
      refine after_i X (run_V X (c_X3_held l E a_shelves a_shelves_contents a_shelves_sizes a_shelves_elements l1 c_shelves_contents H.size v3 hv3) (cwV 1 hts gX5_copy_X3_held rfl rfl rfl hV_X3_held ⟨(Nat.le_of_ble_eq_true rfl), (Nat.le_of_ble_eq_true rfl)⟩) hP hD hS [2, 3] rfl rfl hl.1 (ci := 3) rfl rfl rfl (rest := []) rfl rfl (Nat.le_of_ble_eq_true rfl) dX5_copy_34) hP hD hS [2, 3] [0, 1, 4, 5] [0, 1, 4, 5, 2, 3] rfl rfl rfl (by decide) rfl (ws1 := (W_X5_copy E a_t a_refusals a_shelves a_shelves_contents a_shelves_elements a_shelves_sizes a_now a_kept a_trial a_reader a_one a_two a_search a_outs c_t c_refusals c_shelves_contents c_shelves_elements c_shelves_sizes)) rfl (fun H locs hP hD hS => ?_)
      refine lv_iconst (v := (-1 : Int32)) hx hb dX5_copy_37 (by decide) ?_
      refine lv_icmp_eq (tgt := 57) hx hb dX5_copy_38 (by decide) (fun hc38 => ?_) (fun hc38 => ?_)
      · have h := if_t h hc38
        exact w_X5_copy_b57 X a_t a_refusals a_shelves a_shelves_contents a_shelves_elements a_shelves_sizes a_now a_kept a_trial a_reader a_one a_two a_search a_outs c_t c_shelves_contents c_shelves_sizes res c_refusals c_shelves_elements l1 l2 l3 l4 l5 _ _ _ h hP hD hS (lv_sub hl [0, 1, 2, 3, 4, 5] rfl)
      · have h := if_f h hc38
        refine lv_aload_n hx hb dX5_copy_41 rfl (lv_at hl 0 rfl) ?_
        refine va_get (D := E.1) (ci := 5) (v := .ref a_shelves) (C := RX5) (T := TX5) (N := 11) hx hb hts iX5_copy_X5 hown hK hP 0 rfl rfl 4 (by decide) (hts (.fieldLink RX5 34 "LeftIsAgreedOn" "shelves" "LLeftIsAgreedOn$Shelves;") (List.mem_of_getElem? (i := 1) rfl)) (fun _ h9 => h9) rfl dX5_copy_42 ?_
        refine lv_iload_n hx hb dX5_copy_45 rfl (lv_at hl 2 rfl) ?_
        obtain ⟨v4, hv4, h⟩ := bind_of h
        refine after_i X (run_V X (c_X3_held l E a_shelves a_shelves_contents a_shelves_sizes a_shelves_elements l2 c_shelves_contents H.size v4 hv4) (cwV 1 hts gX5_copy_X3_held rfl rfl rfl hV_X3_held ⟨(Nat.le_of_ble_eq_true rfl), (Nat.le_of_ble_eq_true rfl)⟩) hP hD hS [2, 3] rfl rfl hl.1 (ci := 3) rfl rfl rfl (rest := []) rfl rfl (Nat.le_of_ble_eq_true rfl) dX5_copy_46) hP hD hS [2, 3] [0, 1, 4, 5] [0, 1, 4, 5, 2, 3] rfl rfl rfl (by decide) rfl (ws1 := (W_X5_copy E a_t a_refusals a_shelves a_shelves_contents a_shelves_elements a_shelves_sizes a_now a_kept a_trial a_reader a_one a_two a_search a_outs c_t c_refusals c_shelves_contents c_shelves_elements c_shelves_sizes)) rfl (fun H locs hP hD hS => ?_)
        refine lv_iconst (v := (-1 : Int32)) hx hb dX5_copy_49 (by decide) ?_
        refine lv_icmp_eq (tgt := 57) hx hb dX5_copy_50 (by decide) (fun hc50 => ?_) (fun hc50 => ?_)
        · have h := if_t h hc50
          exact w_X5_copy_b57 X a_t a_refusals a_shelves a_shelves_contents a_shelves_elements a_shelves_sizes a_now a_kept a_trial a_reader a_one a_two a_search a_outs c_t c_shelves_contents c_shelves_sizes res c_refusals c_shelves_elements l1 l2 l3 l4 l5 _ _ _ h hP hD hS (lv_sub hl [0, 1, 2, 3, 4, 5] rfl)
        · have h := if_f h hc50
          refine lv_iconst (v := (1 : Int32)) hx hb dX5_copy_53 (by decide) ?_
          refine lv_goto (tgt := 58) hx hb dX5_copy_54 (by decide) ?_
          exact w_X5_copy_b58 X a_t a_refusals a_shelves a_shelves_contents a_shelves_elements a_shelves_sizes a_now a_kept a_trial a_reader a_one a_two a_search a_outs c_t c_shelves_contents c_shelves_sizes res c_refusals c_shelves_elements l1 l2 l3 l4 l5 (1 : Int32) _ _ _ h hP hD hS (lv_sub hl [0, 1, 2, 3, 4, 5] rfl)
    · have h := if_t h hc19
      exact w_X5_copy_b22 X a_t a_refusals a_shelves a_shelves_contents a_shelves_elements a_shelves_sizes a_now a_kept a_trial a_reader a_one a_two a_search a_outs c_t c_shelves_contents c_shelves_sizes res c_refusals c_shelves_elements _ _ _ h hP hD hS (lv_sub hl [0] rfl)
end
set_option maxRecDepth 100000 in
theorem c_X5_copy (l : Launch) (E : Env0) (a_t : Nat) (a_refusals : Nat) (a_shelves : Nat) (a_shelves_contents : Nat) (a_shelves_elements : Nat) (a_shelves_sizes : Nat) (a_now : Nat) (a_kept : Nat) (a_trial : Nat) (a_reader : Nat) (a_one : Nat) (a_two : Nat) (a_search : Nat) (a_outs : Nat) (l1 : Int32) (l2 : Int32) (l3 : Int32) (l4 : Int32) (l5 : Int32) (c_t : Nat → Int32) (c_refusals : Nat → Int32) (c_shelves_contents : Nat → Int32) (c_shelves_elements : Nat → Int64) (c_shelves_sizes : Nat → Int32) (sz : Nat) (res : Int32 × (Nat → Int32) × (Nat → Int64)) (h : f_X5_copy l1 l2 l3 l4 l5 c_t c_refusals c_shelves_contents c_shelves_elements c_shelves_sizes = some res) : Met l yX5_copy wsX5_copy r_X5_copy (cPre E [.ref a_t, .int l1, .int l2, .int l3, .int l4, .int l5] (W_X5_copy E a_t a_refusals a_shelves a_shelves_contents a_shelves_elements a_shelves_sizes a_now a_kept a_trial a_reader a_one a_two a_search a_outs c_t c_refusals c_shelves_contents c_shelves_elements c_shelves_sizes) sz) (qI E (va_A (W_X5_copy E a_t a_refusals a_shelves a_shelves_contents a_shelves_elements a_shelves_sizes a_now a_kept a_trial a_reader a_one a_two a_search a_outs c_t c_refusals c_shelves_contents c_shelves_elements c_shelves_sizes) sz) (res.1) (W_X5_copy E a_t a_refusals a_shelves a_shelves_contents a_shelves_elements a_shelves_sizes a_now a_kept a_trial a_reader a_one a_two a_search a_outs c_t (res.2.1) c_shelves_contents (res.2.2) c_shelves_sizes)) 0 0 (va_A (W_X5_copy E a_t a_refusals a_shelves a_shelves_contents a_shelves_elements a_shelves_sizes a_now a_kept a_trial a_reader a_one a_two a_search a_outs c_t c_refusals c_shelves_contents c_shelves_elements c_shelves_sizes) sz) :=
  met_of (Qc := fun A => qI E A (res.1) (W_X5_copy E a_t a_refusals a_shelves a_shelves_contents a_shelves_elements a_shelves_sizes a_now a_kept a_trial a_reader a_one a_two a_search a_outs c_t (res.2.1) c_shelves_contents (res.2.2) c_shelves_sizes)) (by decide) rfl (Nat.le_of_ble_eq_true rfl) (fun p e s m args below meth c X hP hD hS ls hl => w_X5_copy X a_t a_refusals a_shelves a_shelves_contents a_shelves_elements a_shelves_sizes a_now a_kept a_trial a_reader a_one a_two a_search a_outs c_t c_shelves_contents c_shelves_sizes res c_refusals c_shelves_elements l1 l2 l3 l4 l5 ls _ _ h hP hD hS hl)
-- ===== X5_element
abbrev W_X5_element (E : Env0) (a_t : Nat) (a_shelves : Nat) (a_shelves_contents : Nat) (a_shelves_elements : Nat) (a_shelves_sizes : Nat) (a_now : Nat) (a_kept : Nat) (a_trial : Nat) (a_reader : Nat) (a_one : Nat) (a_two : Nat) (a_search : Nat) (a_outs : Nat) (a_refusals : Nat) (c_t : Nat → Int32) (c_shelves_contents : Nat → Int32) (c_shelves_elements : Nat → Int64) (c_shelves_sizes : Nat → Int32) : va_W := [(a_t, .inr (5, [.ref a_now, .ref a_kept, .ref a_trial, .ref a_reader, .ref a_shelves, .ref a_one, .ref a_two, .ref a_search, .ref a_outs, .ref a_refusals, .int (c_t 10)])), (a_shelves, .inr (3, [.ref a_shelves_contents, .ref a_shelves_sizes, .ref a_shelves_elements])), (a_shelves_contents, .inl (eI E, 8, .inl c_shelves_contents)), (a_shelves_elements, .inl (eJ E, 320, .inr (.inl c_shelves_elements))), (a_shelves_sizes, .inl (eI E, 8, .inl c_shelves_sizes))]
abbrev r_X5_element : Room := { frames := 2, cells := 0, slots := 0, locals := 43 }
theorem hd_X5_element : yX5_element.cls ≠ "java/lang/invoke/MethodHandle" ∧ yX5_element.cls ≠ "java/lang/invoke/VarHandle" ∧ (parseMethodDescriptor yX5_element.desc).map (fun d => d.parameters.length) = some 2 := by decide +kernel
theorem hV_X5_element : yX5_element.cls = RX5 ∧ yX5_element.cls ≠ "java/lang/invoke/MethodHandle" ∧ yX5_element.cls ≠ "java/lang/invoke/VarHandle" ∧ (parseMethodDescriptor yX5_element.desc).map (fun d => d.parameters.length) = some 2 := ⟨rfl, hd_X5_element⟩
theorem iX5_element_X5 : ∀ w ∈ wsX50, w ∈ wsX5_element := fun _ h => List.mem_cons_of_mem _ (List.mem_append_left _ (List.mem_append_right _ (h)))
section
variable {p : Program} {l : Launch} {e : Env} {s : State} {m : MethodId} {args : Array Value} {below : List Frame} {meth : Method} {c : Code} {E : Env0} {A : Nat → Prop}
set_option maxRecDepth 100000 in
set_option maxHeartbeats 4000000 in
theorem w_X5_element_b40 (X : Ctx p m meth c cX5_element 3 ((some .long)) s args wsX5_element RX5 E A) (a_t : Nat) (a_shelves : Nat) (a_shelves_contents : Nat) (a_shelves_elements : Nat) (a_shelves_sizes : Nat) (a_now : Nat) (a_kept : Nat) (a_trial : Nat) (a_reader : Nat) (a_one : Nat) (a_two : Nat) (a_search : Nat) (a_outs : Nat) (a_refusals : Nat) (c_t : Nat → Int32) (c_shelves_contents : Nat → Int32) (c_shelves_elements : Nat → Int64) (c_shelves_sizes : Nat → Int32) (res : Int64) (ls : Array Slot) (H : Heap) (locs : List Loc) (h : f_X5_element_b40 c_t c_shelves_contents c_shelves_elements c_shelves_sizes = some res) (hP : va_P E.1 vwCl (W_X5_element E a_t a_shelves a_shelves_contents a_shelves_elements a_shelves_sizes a_now a_kept a_trial a_reader a_one a_two a_search a_outs a_refusals c_t c_shelves_contents c_shelves_elements c_shelves_sizes) H) (hD : va_D A (W_X5_element E a_t a_shelves a_shelves_contents a_shelves_elements a_shelves_sizes a_now a_kept a_trial a_reader a_one a_two a_search a_outs a_refusals c_t c_shelves_contents c_shelves_elements c_shelves_sizes)) (hS : va_S A s.heap H locs) (hl : lv_has ls 3 []) : W p l e r_X5_element s m args below meth c H locs 0 0 (MQ below (qL E A res (W_X5_element E a_t a_shelves a_shelves_contents a_shelves_elements a_shelves_sizes a_now a_kept a_trial a_reader a_one a_two a_search a_outs a_refusals c_t c_shelves_contents c_shelves_elements c_shelves_sizes)) args s 0 0 A) (F0 m 40 ls []) := by
  obtain ⟨hx, hb, hml, hr, hlk, hown, hts, hG, hA⟩ := id X
  have hK := hG.1
  have hN := hG.2.1
  unfold f_X5_element_b40 at h
  refine lv_lconst (v := (0 : Int64)) hx hb dX5_element_40 (by decide) ?_
  obtain rfl := Option.some.inj h
  exact ret_l X dX5_element_41 hP hD hS rfl
set_option maxRecDepth 100000 in
set_option maxHeartbeats 4000000 in
theorem w_X5_element (X : Ctx p m meth c cX5_element 3 ((some .long)) s args wsX5_element RX5 E A) (a_t : Nat) (a_shelves : Nat) (a_shelves_contents : Nat) (a_shelves_elements : Nat) (a_shelves_sizes : Nat) (a_now : Nat) (a_kept : Nat) (a_trial : Nat) (a_reader : Nat) (a_one : Nat) (a_two : Nat) (a_search : Nat) (a_outs : Nat) (a_refusals : Nat) (c_t : Nat → Int32) (c_shelves_contents : Nat → Int32) (c_shelves_elements : Nat → Int64) (c_shelves_sizes : Nat → Int32) (res : Int64) (l1 : Int32) (l2 : Int32) (ls : Array Slot) (H : Heap) (locs : List Loc) (h : f_X5_element l1 l2 c_t c_shelves_contents c_shelves_elements c_shelves_sizes = some res) (hP : va_P E.1 vwCl (W_X5_element E a_t a_shelves a_shelves_contents a_shelves_elements a_shelves_sizes a_now a_kept a_trial a_reader a_one a_two a_search a_outs a_refusals c_t c_shelves_contents c_shelves_elements c_shelves_sizes) H) (hD : va_D A (W_X5_element E a_t a_shelves a_shelves_contents a_shelves_elements a_shelves_sizes a_now a_kept a_trial a_reader a_one a_two a_search a_outs a_refusals c_t c_shelves_contents c_shelves_elements c_shelves_sizes)) (hS : va_S A s.heap H locs) (hl : lv_has ls 3 [(0, .ref a_t), (1, .int l1), (2, .int l2)]) : W p l e r_X5_element s m args below meth c H locs 0 0 (MQ below (qL E A res (W_X5_element E a_t a_shelves a_shelves_contents a_shelves_elements a_shelves_sizes a_now a_kept a_trial a_reader a_one a_two a_search a_outs a_refusals c_t c_shelves_contents c_shelves_elements c_shelves_sizes)) args s 0 0 A) (F0 m 0 ls []) := by
  obtain ⟨hx, hb, hml, hr, hlk, hown, hts, hG, hA⟩ := id X
  have hK := hG.1
  have hN := hG.2.1
  unfold f_X5_element at h
  refine lv_aload_n hx hb dX5_element_0 rfl (lv_at hl 0 rfl) ?_
  refine va_get (D := E.1) (ci := 5) (v := .ref a_shelves) (C := RX5) (T := TX5) (N := 11) hx hb hts iX5_element_X5 hown hK hP 0 rfl rfl 4 (by decide) (hts (.fieldLink RX5 34 "LeftIsAgreedOn" "shelves" "LLeftIsAgreedOn$Shelves;") (List.mem_of_getElem? (i := 1) rfl)) (fun _ h9 => h9) rfl dX5_element_1 ?_
  refine lv_iload_n hx hb dX5_element_4 rfl (lv_at hl 1 rfl) ?_
  obtain ⟨v1, hv1, h⟩ := bind_of h
  refine after_i X (run_V X (c_X3_isShelf l E a_shelves a_shelves_contents a_shelves_sizes a_shelves_elements l1 H.size v1 hv1) (cwV 1 hts gX5_element_X3_isShelf rfl rfl rfl hV_X3_isShelf ⟨(Nat.le_of_ble_eq_true rfl), (Nat.le_of_ble_eq_true rfl)⟩) hP hD hS [1] rfl rfl hl.1 (ci := 3) rfl rfl rfl (rest := []) rfl rfl (Nat.le_of_ble_eq_true rfl) dX5_element_5) hP hD hS [1] [0, 2, 3, 4] [0, 4, 1, 2, 3] rfl rfl rfl (by decide) rfl (ws1 := (W_X5_element E a_t a_shelves a_shelves_contents a_shelves_elements a_shelves_sizes a_now a_kept a_trial a_reader a_one a_two a_search a_outs a_refusals c_t c_shelves_contents c_shelves_elements c_shelves_sizes)) rfl (fun H locs hP hD hS => ?_)
  refine lv_if_eq (tgt := 40) hx hb dX5_element_8 (by decide) (fun hc8 => ?_) (fun hc8 => ?_)
  · have h := if_t h hc8
    exact w_X5_element_b40 X a_t a_shelves a_shelves_contents a_shelves_elements a_shelves_sizes a_now a_kept a_trial a_reader a_one a_two a_search a_outs a_refusals c_t c_shelves_contents c_shelves_elements c_shelves_sizes res _ _ _ h hP hD hS (lv_sub hl [] rfl)
  · have h := if_f h hc8
    refine lv_aload_n hx hb dX5_element_11 rfl (lv_at hl 0 rfl) ?_
    refine va_get (D := E.1) (ci := 5) (v := .ref a_shelves) (C := RX5) (T := TX5) (N := 11) hx hb hts iX5_element_X5 hown hK hP 0 rfl rfl 4 (by decide) (hts (.fieldLink RX5 34 "LeftIsAgreedOn" "shelves" "LLeftIsAgreedOn$Shelves;") (List.mem_of_getElem? (i := 1) rfl)) (fun _ h9 => h9) rfl dX5_element_12 ?_
    refine lv_iload_n hx hb dX5_element_15 rfl (lv_at hl 1 rfl) ?_
    obtain ⟨v2, hv2, h⟩ := bind_of h
    refine after_i X (run_V X (c_X3_holdsRow l E a_shelves a_shelves_contents a_shelves_sizes a_shelves_elements l1 c_shelves_contents H.size v2 hv2) (cwV 1 hts gX5_element_X3_holdsRow rfl rfl rfl hV_X3_holdsRow ⟨(Nat.le_of_ble_eq_true rfl), (Nat.le_of_ble_eq_true rfl)⟩) hP hD hS [1, 2] rfl rfl hl.1 (ci := 3) rfl rfl rfl (rest := []) rfl rfl (Nat.le_of_ble_eq_true rfl) dX5_element_16) hP hD hS [1, 2] [0, 3, 4] [0, 3, 4, 1, 2] rfl rfl rfl (by decide) rfl (ws1 := (W_X5_element E a_t a_shelves a_shelves_contents a_shelves_elements a_shelves_sizes a_now a_kept a_trial a_reader a_one a_two a_search a_outs a_refusals c_t c_shelves_contents c_shelves_elements c_shelves_sizes)) rfl (fun H locs hP hD hS => ?_)
    refine lv_if_eq (tgt := 40) hx hb dX5_element_19 (by decide) (fun hc19 => ?_) (fun hc19 => ?_)
    · have h := if_t h hc19
      exact w_X5_element_b40 X a_t a_shelves a_shelves_contents a_shelves_elements a_shelves_sizes a_now a_kept a_trial a_reader a_one a_two a_search a_outs a_refusals c_t c_shelves_contents c_shelves_elements c_shelves_sizes res _ _ _ h hP hD hS (lv_sub hl [] rfl)
    · have h := if_f h hc19
      refine lv_iload_n hx hb dX5_element_22 rfl (lv_at hl 2 rfl) ?_
      refine lv_iconst (v := (0 : Int32)) hx hb dX5_element_23 (by decide) ?_
      refine lv_aload_n hx hb dX5_element_24 rfl (lv_at hl 0 rfl) ?_
      refine va_get (D := E.1) (ci := 5) (v := .ref a_shelves) (C := RX5) (T := TX5) (N := 11) hx hb hts iX5_element_X5 hown hK hP 0 rfl rfl 4 (by decide) (hts (.fieldLink RX5 34 "LeftIsAgreedOn" "shelves" "LLeftIsAgreedOn$Shelves;") (List.mem_of_getElem? (i := 1) rfl)) (fun _ h9 => h9) rfl dX5_element_25 ?_
      refine lv_iload_n hx hb dX5_element_28 rfl (lv_at hl 1 rfl) ?_
      obtain ⟨v3, hv3, h⟩ := bind_of h
      refine after_i X (run_V X (c_X3_sizeOf l E a_shelves a_shelves_sizes a_shelves_contents a_shelves_elements l1 c_shelves_sizes H.size v3 hv3) (cwV 1 hts gX5_element_X3_sizeOf rfl rfl rfl hV_X3_sizeOf ⟨(Nat.le_of_ble_eq_true rfl), (Nat.le_of_ble_eq_true rfl)⟩) hP hD hS [1, 4] rfl rfl hl.1 (ci := 3) rfl rfl rfl (rest := [.int (0 : Int32), .int l2]) rfl rfl (Nat.le_of_ble_eq_true rfl) dX5_element_29) hP hD hS [1, 4] [0, 2, 3] [0, 3, 1, 2, 4] rfl rfl rfl (by decide) rfl (ws1 := (W_X5_element E a_t a_shelves a_shelves_contents a_shelves_elements a_shelves_sizes a_now a_kept a_trial a_reader a_one a_two a_search a_outs a_refusals c_t c_shelves_contents c_shelves_elements c_shelves_sizes)) rfl (fun H locs hP hD hS => ?_)
      refine lv_iconst (v := (1 : Int32)) hx hb dX5_element_32 (by decide) ?_
      refine lv_isub hx hb dX5_element_33 ?_
      obtain ⟨v4, hv4, h⟩ := bind_of h
      refine after_i X (run_S X (c_X5_isWithin l E l2 (0 : Int32) (v3 - (1 : Int32)) H.size v4 hv4) (va_cwS 3 hts gX5_element_X5_isWithin rfl rfl rfl hd_X5_isWithin ⟨(Nat.le_of_ble_eq_true rfl), (Nat.le_of_ble_eq_true rfl)⟩) hP hD hS [] rfl rfl hl.1 (rest := []) rfl rfl (Nat.le_of_ble_eq_true rfl) dX5_element_34) hP hD hS [] [0, 1, 2, 3, 4] [0, 1, 2, 3, 4] rfl rfl rfl (by decide) rfl (ws1 := (W_X5_element E a_t a_shelves a_shelves_contents a_shelves_elements a_shelves_sizes a_now a_kept a_trial a_reader a_one a_two a_search a_outs a_refusals c_t c_shelves_contents c_shelves_elements c_shelves_sizes)) rfl (fun H locs hP hD hS => ?_)
      refine lv_if_ne (tgt := 42) hx hb dX5_element_37 (by decide) (fun hc37 => ?_) (fun hc37 => ?_)
      · have h := if_f h hc37
        refine lv_aload_n hx hb dX5_element_42 rfl (lv_at hl 0 rfl) ?_
        refine va_get (D := E.1) (ci := 5) (v := .ref a_shelves) (C := RX5) (T := TX5) (N := 11) hx hb hts iX5_element_X5 hown hK hP 0 rfl rfl 4 (by decide) (hts (.fieldLink RX5 34 "LeftIsAgreedOn" "shelves" "LLeftIsAgreedOn$Shelves;") (List.mem_of_getElem? (i := 1) rfl)) (fun _ h9 => h9) rfl dX5_element_43 ?_
        refine lv_iload_n hx hb dX5_element_46 rfl (lv_at hl 1 rfl) ?_
        refine lv_iload_n hx hb dX5_element_47 rfl (lv_at hl 2 rfl) ?_
        obtain ⟨v5, hv5, h⟩ := bind_of h
        refine after_l X (run_V X (c_X3_elementAt l E a_shelves a_shelves_elements a_shelves_contents a_shelves_sizes l1 l2 c_shelves_elements H.size v5 hv5) (cwV 2 hts gX5_element_X3_elementAt rfl rfl rfl hV_X3_elementAt ⟨(Nat.le_of_ble_eq_true rfl), (Nat.le_of_ble_eq_true rfl)⟩) hP hD hS [1, 3] rfl rfl hl.1 (ci := 3) rfl rfl rfl (rest := []) rfl rfl (Nat.le_of_ble_eq_true rfl) dX5_element_48) hP hD hS [1, 3] [0, 2, 4] [0, 3, 1, 4, 2] rfl rfl rfl (by decide) rfl (ws1 := (W_X5_element E a_t a_shelves a_shelves_contents a_shelves_elements a_shelves_sizes a_now a_kept a_trial a_reader a_one a_two a_search a_outs a_refusals c_t c_shelves_contents c_shelves_elements c_shelves_sizes)) rfl (fun H locs hP hD hS => ?_)
        obtain rfl := Option.some.inj h
        exact ret_l X dX5_element_51 hP hD hS rfl
      · have h := if_t h hc37
        exact w_X5_element_b40 X a_t a_shelves a_shelves_contents a_shelves_elements a_shelves_sizes a_now a_kept a_trial a_reader a_one a_two a_search a_outs a_refusals c_t c_shelves_contents c_shelves_elements c_shelves_sizes res _ _ _ h hP hD hS (lv_sub hl [] rfl)
end
set_option maxRecDepth 100000 in
theorem c_X5_element (l : Launch) (E : Env0) (a_t : Nat) (a_shelves : Nat) (a_shelves_contents : Nat) (a_shelves_elements : Nat) (a_shelves_sizes : Nat) (a_now : Nat) (a_kept : Nat) (a_trial : Nat) (a_reader : Nat) (a_one : Nat) (a_two : Nat) (a_search : Nat) (a_outs : Nat) (a_refusals : Nat) (l1 : Int32) (l2 : Int32) (c_t : Nat → Int32) (c_shelves_contents : Nat → Int32) (c_shelves_elements : Nat → Int64) (c_shelves_sizes : Nat → Int32) (sz : Nat) (res : Int64) (h : f_X5_element l1 l2 c_t c_shelves_contents c_shelves_elements c_shelves_sizes = some res) : Met l yX5_element wsX5_element r_X5_element (cPre E [.ref a_t, .int l1, .int l2] (W_X5_element E a_t a_shelves a_shelves_contents a_shelves_elements a_shelves_sizes a_now a_kept a_trial a_reader a_one a_two a_search a_outs a_refusals c_t c_shelves_contents c_shelves_elements c_shelves_sizes) sz) (qL E (va_A (W_X5_element E a_t a_shelves a_shelves_contents a_shelves_elements a_shelves_sizes a_now a_kept a_trial a_reader a_one a_two a_search a_outs a_refusals c_t c_shelves_contents c_shelves_elements c_shelves_sizes) sz) res (W_X5_element E a_t a_shelves a_shelves_contents a_shelves_elements a_shelves_sizes a_now a_kept a_trial a_reader a_one a_two a_search a_outs a_refusals c_t c_shelves_contents c_shelves_elements c_shelves_sizes)) 0 0 (va_A (W_X5_element E a_t a_shelves a_shelves_contents a_shelves_elements a_shelves_sizes a_now a_kept a_trial a_reader a_one a_two a_search a_outs a_refusals c_t c_shelves_contents c_shelves_elements c_shelves_sizes) sz) :=
  met_of (Qc := fun A => qL E A res (W_X5_element E a_t a_shelves a_shelves_contents a_shelves_elements a_shelves_sizes a_now a_kept a_trial a_reader a_one a_two a_search a_outs a_refusals c_t c_shelves_contents c_shelves_elements c_shelves_sizes)) (by decide) rfl (Nat.le_of_ble_eq_true rfl) (fun p e s m args below meth c X hP hD hS ls hl => w_X5_element X a_t a_shelves a_shelves_contents a_shelves_elements a_shelves_sizes a_now a_kept a_trial a_reader a_one a_two a_search a_outs a_refusals c_t c_shelves_contents c_shelves_elements c_shelves_sizes res l1 l2 ls _ _ h hP hD hS hl)
-- ===== X5_holds
abbrev W_X5_holds (E : Env0) (a_t : Nat) (a_shelves : Nat) (a_shelves_contents : Nat) (a_now : Nat) (a_kept : Nat) (a_trial : Nat) (a_reader : Nat) (a_one : Nat) (a_two : Nat) (a_search : Nat) (a_outs : Nat) (a_refusals : Nat) (a_shelves_sizes : Nat) (a_shelves_elements : Nat) (c_t : Nat → Int32) (c_shelves_contents : Nat → Int32) : va_W := [(a_t, .inr (5, [.ref a_now, .ref a_kept, .ref a_trial, .ref a_reader, .ref a_shelves, .ref a_one, .ref a_two, .ref a_search, .ref a_outs, .ref a_refusals, .int (c_t 10)])), (a_shelves, .inr (3, [.ref a_shelves_contents, .ref a_shelves_sizes, .ref a_shelves_elements])), (a_shelves_contents, .inl (eI E, 8, .inl c_shelves_contents))]
abbrev r_X5_holds : Room := { frames := 2, cells := 0, slots := 0, locals := 43 }
theorem hd_X5_holds : yX5_holds.cls ≠ "java/lang/invoke/MethodHandle" ∧ yX5_holds.cls ≠ "java/lang/invoke/VarHandle" ∧ (parseMethodDescriptor yX5_holds.desc).map (fun d => d.parameters.length) = some 1 := by decide +kernel
theorem hV_X5_holds : yX5_holds.cls = RX5 ∧ yX5_holds.cls ≠ "java/lang/invoke/MethodHandle" ∧ yX5_holds.cls ≠ "java/lang/invoke/VarHandle" ∧ (parseMethodDescriptor yX5_holds.desc).map (fun d => d.parameters.length) = some 1 := ⟨rfl, hd_X5_holds⟩
theorem iX5_holds_X5 : ∀ w ∈ wsX50, w ∈ wsX5_holds := fun _ h => List.mem_cons_of_mem _ (List.mem_append_left _ (List.mem_append_right _ (h)))
section
variable {p : Program} {l : Launch} {e : Env} {s : State} {m : MethodId} {args : Array Value} {below : List Frame} {meth : Method} {c : Code} {E : Env0} {A : Nat → Prop}
set_option maxRecDepth 100000 in
set_option maxHeartbeats 4000000 in
theorem w_X5_holds (X : Ctx p m meth c cX5_holds 2 ((some .int)) s args wsX5_holds RX5 E A) (a_t : Nat) (a_shelves : Nat) (a_shelves_contents : Nat) (a_now : Nat) (a_kept : Nat) (a_trial : Nat) (a_reader : Nat) (a_one : Nat) (a_two : Nat) (a_search : Nat) (a_outs : Nat) (a_refusals : Nat) (a_shelves_sizes : Nat) (a_shelves_elements : Nat) (c_t : Nat → Int32) (c_shelves_contents : Nat → Int32) (res : Int32) (l1 : Int32) (ls : Array Slot) (H : Heap) (locs : List Loc) (h : f_X5_holds l1 c_t c_shelves_contents = some res) (hP : va_P E.1 vwCl (W_X5_holds E a_t a_shelves a_shelves_contents a_now a_kept a_trial a_reader a_one a_two a_search a_outs a_refusals a_shelves_sizes a_shelves_elements c_t c_shelves_contents) H) (hD : va_D A (W_X5_holds E a_t a_shelves a_shelves_contents a_now a_kept a_trial a_reader a_one a_two a_search a_outs a_refusals a_shelves_sizes a_shelves_elements c_t c_shelves_contents)) (hS : va_S A s.heap H locs) (hl : lv_has ls 2 [(0, .ref a_t), (1, .int l1)]) : W p l e r_X5_holds s m args below meth c H locs 0 0 (MQ below (qI E A res (W_X5_holds E a_t a_shelves a_shelves_contents a_now a_kept a_trial a_reader a_one a_two a_search a_outs a_refusals a_shelves_sizes a_shelves_elements c_t c_shelves_contents)) args s 0 0 A) (F0 m 0 ls []) := by
  obtain ⟨hx, hb, hml, hr, hlk, hown, hts, hG, hA⟩ := id X
  have hK := hG.1
  have hN := hG.2.1
  unfold f_X5_holds at h
  refine lv_aload_n hx hb dX5_holds_0 rfl (lv_at hl 0 rfl) ?_
  refine va_get (D := E.1) (ci := 5) (v := .ref a_shelves) (C := RX5) (T := TX5) (N := 11) hx hb hts iX5_holds_X5 hown hK hP 0 rfl rfl 4 (by decide) (hts (.fieldLink RX5 34 "LeftIsAgreedOn" "shelves" "LLeftIsAgreedOn$Shelves;") (List.mem_of_getElem? (i := 1) rfl)) (fun _ h9 => h9) rfl dX5_holds_1 ?_
  refine lv_iload_n hx hb dX5_holds_4 rfl (lv_at hl 1 rfl) ?_
  obtain ⟨v1, hv1, h⟩ := bind_of h
  refine after_i X (run_V X (c_X3_isShelf l E a_shelves a_shelves_contents a_shelves_sizes a_shelves_elements l1 H.size v1 hv1) (cwV 1 hts gX5_holds_X3_isShelf rfl rfl rfl hV_X3_isShelf ⟨(Nat.le_of_ble_eq_true rfl), (Nat.le_of_ble_eq_true rfl)⟩) hP hD hS [1] rfl rfl hl.1 (ci := 3) rfl rfl rfl (rest := []) rfl rfl (Nat.le_of_ble_eq_true rfl) dX5_holds_5) hP hD hS [1] [0, 2] [0, 2, 1] rfl rfl rfl (by decide) rfl (ws1 := (W_X5_holds E a_t a_shelves a_shelves_contents a_now a_kept a_trial a_reader a_one a_two a_search a_outs a_refusals a_shelves_sizes a_shelves_elements c_t c_shelves_contents)) rfl (fun H locs hP hD hS => ?_)
  refine lv_if_eq (tgt := 22) hx hb dX5_holds_8 (by decide) (fun hc8 => ?_) (fun hc8 => ?_)
  · have h := if_t h hc8
    refine lv_iconst (v := (-1 : Int32)) hx hb dX5_holds_22 (by decide) ?_
    obtain rfl := Option.some.inj h
    exact ret_i X dX5_holds_23 hP hD hS rfl
  · have h := if_f h hc8
    refine lv_aload_n hx hb dX5_holds_11 rfl (lv_at hl 0 rfl) ?_
    refine va_get (D := E.1) (ci := 5) (v := .ref a_shelves) (C := RX5) (T := TX5) (N := 11) hx hb hts iX5_holds_X5 hown hK hP 0 rfl rfl 4 (by decide) (hts (.fieldLink RX5 34 "LeftIsAgreedOn" "shelves" "LLeftIsAgreedOn$Shelves;") (List.mem_of_getElem? (i := 1) rfl)) (fun _ h9 => h9) rfl dX5_holds_12 ?_
    refine lv_iload_n hx hb dX5_holds_15 rfl (lv_at hl 1 rfl) ?_
    obtain ⟨v2, hv2, h⟩ := bind_of h
    refine after_i X (run_V X (c_X3_held l E a_shelves a_shelves_contents a_shelves_sizes a_shelves_elements l1 c_shelves_contents H.size v2 hv2) (cwV 1 hts gX5_holds_X3_held rfl rfl rfl hV_X3_held ⟨(Nat.le_of_ble_eq_true rfl), (Nat.le_of_ble_eq_true rfl)⟩) hP hD hS [1, 2] rfl rfl hl.1 (ci := 3) rfl rfl rfl (rest := []) rfl rfl (Nat.le_of_ble_eq_true rfl) dX5_holds_16) hP hD hS [1, 2] [0] [0, 1, 2] rfl rfl rfl (by decide) rfl (ws1 := (W_X5_holds E a_t a_shelves a_shelves_contents a_now a_kept a_trial a_reader a_one a_two a_search a_outs a_refusals a_shelves_sizes a_shelves_elements c_t c_shelves_contents)) rfl (fun H locs hP hD hS => ?_)
    refine lv_goto (tgt := 23) hx hb dX5_holds_19 (by decide) ?_
    obtain rfl := Option.some.inj h
    exact ret_i X dX5_holds_23 hP hD hS rfl
end
set_option maxRecDepth 100000 in
theorem c_X5_holds (l : Launch) (E : Env0) (a_t : Nat) (a_shelves : Nat) (a_shelves_contents : Nat) (a_now : Nat) (a_kept : Nat) (a_trial : Nat) (a_reader : Nat) (a_one : Nat) (a_two : Nat) (a_search : Nat) (a_outs : Nat) (a_refusals : Nat) (a_shelves_sizes : Nat) (a_shelves_elements : Nat) (l1 : Int32) (c_t : Nat → Int32) (c_shelves_contents : Nat → Int32) (sz : Nat) (res : Int32) (h : f_X5_holds l1 c_t c_shelves_contents = some res) : Met l yX5_holds wsX5_holds r_X5_holds (cPre E [.ref a_t, .int l1] (W_X5_holds E a_t a_shelves a_shelves_contents a_now a_kept a_trial a_reader a_one a_two a_search a_outs a_refusals a_shelves_sizes a_shelves_elements c_t c_shelves_contents) sz) (qI E (va_A (W_X5_holds E a_t a_shelves a_shelves_contents a_now a_kept a_trial a_reader a_one a_two a_search a_outs a_refusals a_shelves_sizes a_shelves_elements c_t c_shelves_contents) sz) res (W_X5_holds E a_t a_shelves a_shelves_contents a_now a_kept a_trial a_reader a_one a_two a_search a_outs a_refusals a_shelves_sizes a_shelves_elements c_t c_shelves_contents)) 0 0 (va_A (W_X5_holds E a_t a_shelves a_shelves_contents a_now a_kept a_trial a_reader a_one a_two a_search a_outs a_refusals a_shelves_sizes a_shelves_elements c_t c_shelves_contents) sz) :=
  met_of (Qc := fun A => qI E A res (W_X5_holds E a_t a_shelves a_shelves_contents a_now a_kept a_trial a_reader a_one a_two a_search a_outs a_refusals a_shelves_sizes a_shelves_elements c_t c_shelves_contents)) (by decide) rfl (Nat.le_of_ble_eq_true rfl) (fun p e s m args below meth c X hP hD hS ls hl => w_X5_holds X a_t a_shelves a_shelves_contents a_now a_kept a_trial a_reader a_one a_two a_search a_outs a_refusals a_shelves_sizes a_shelves_elements c_t c_shelves_contents res l1 ls _ _ h hP hD hS hl)
-- ===== X5_show
abbrev W_X5_show (E : Env0) (a_t : Nat) (a_now : Nat) (a_refusals : Nat) (a_shelves : Nat) (a_shelves_contents : Nat) (a_shelves_sizes : Nat) (a_kept : Nat) (a_trial : Nat) (a_reader : Nat) (a_one : Nat) (a_two : Nat) (a_search : Nat) (a_outs : Nat) (a_now_ponds : Nat) (a_now_kinds : Nat) (a_now_weights : Nat) (a_now_cells : Nat) (a_now_faces : Nat) (a_now_pledges : Nat) (a_shelves_elements : Nat) (c_t : Nat → Int32) (c_now : Nat → Int32) (c_refusals : Nat → Int32) (c_shelves_contents : Nat → Int32) (c_shelves_sizes : Nat → Int32) : va_W := [(a_t, .inr (5, [.ref a_now, .ref a_kept, .ref a_trial, .ref a_reader, .ref a_shelves, .ref a_one, .ref a_two, .ref a_search, .ref a_outs, .ref a_refusals, .int (c_t 10)])), (a_now, .inr (0, [.int (c_now 0), .int (c_now 1), .int (c_now 2), .int (c_now 3), .int (c_now 4), .int (c_now 5), .int (c_now 6), .int (c_now 7), .ref a_now_ponds, .ref a_now_kinds, .ref a_now_weights, .ref a_now_cells, .ref a_now_faces, .ref a_now_pledges])), (a_refusals, .inl (eI E, 5, .inl c_refusals)), (a_shelves, .inr (3, [.ref a_shelves_contents, .ref a_shelves_sizes, .ref a_shelves_elements])), (a_shelves_contents, .inl (eI E, 8, .inl c_shelves_contents)), (a_shelves_sizes, .inl (eI E, 8, .inl c_shelves_sizes))]
abbrev r_X5_show : Room := { frames := 2, cells := 0, slots := 0, locals := 43 }
theorem hd_X5_show : yX5_show.cls ≠ "java/lang/invoke/MethodHandle" ∧ yX5_show.cls ≠ "java/lang/invoke/VarHandle" ∧ (parseMethodDescriptor yX5_show.desc).map (fun d => d.parameters.length) = some 2 := by decide +kernel
theorem hV_X5_show : yX5_show.cls = RX5 ∧ yX5_show.cls ≠ "java/lang/invoke/MethodHandle" ∧ yX5_show.cls ≠ "java/lang/invoke/VarHandle" ∧ (parseMethodDescriptor yX5_show.desc).map (fun d => d.parameters.length) = some 2 := ⟨rfl, hd_X5_show⟩
theorem iX5_show_X5 : ∀ w ∈ wsX50, w ∈ wsX5_show := fun _ h => List.mem_cons_of_mem _ (List.mem_append_left _ (List.mem_append_left _ (List.mem_append_right _ (h))))
section
variable {p : Program} {l : Launch} {e : Env} {s : State} {m : MethodId} {args : Array Value} {below : List Frame} {meth : Method} {c : Code} {E : Env0} {A : Nat → Prop}
set_option maxRecDepth 100000 in
set_option maxHeartbeats 4000000 in
theorem w_X5_show_b27 (X : Ctx p m meth c cX5_show 3 ((some .int)) s args wsX5_show RX5 E A) (a_t : Nat) (a_now : Nat) (a_refusals : Nat) (a_shelves : Nat) (a_shelves_contents : Nat) (a_shelves_sizes : Nat) (a_kept : Nat) (a_trial : Nat) (a_reader : Nat) (a_one : Nat) (a_two : Nat) (a_search : Nat) (a_outs : Nat) (a_now_ponds : Nat) (a_now_kinds : Nat) (a_now_weights : Nat) (a_now_cells : Nat) (a_now_faces : Nat) (a_now_pledges : Nat) (a_shelves_elements : Nat) (c_t : Nat → Int32) (c_now : Nat → Int32) (res : Int32 × (Nat → Int32) × (Nat → Int32) × (Nat → Int32)) (c_refusals : Nat → Int32) (c_shelves_contents : Nat → Int32) (c_shelves_sizes : Nat → Int32) (ls : Array Slot) (H : Heap) (locs : List Loc) (h : f_X5_show_b27 c_t c_now c_refusals c_shelves_contents c_shelves_sizes = some res) (hP : va_P E.1 vwCl (W_X5_show E a_t a_now a_refusals a_shelves a_shelves_contents a_shelves_sizes a_kept a_trial a_reader a_one a_two a_search a_outs a_now_ponds a_now_kinds a_now_weights a_now_cells a_now_faces a_now_pledges a_shelves_elements c_t c_now c_refusals c_shelves_contents c_shelves_sizes) H) (hD : va_D A (W_X5_show E a_t a_now a_refusals a_shelves a_shelves_contents a_shelves_sizes a_kept a_trial a_reader a_one a_two a_search a_outs a_now_ponds a_now_kinds a_now_weights a_now_cells a_now_faces a_now_pledges a_shelves_elements c_t c_now c_refusals c_shelves_contents c_shelves_sizes)) (hS : va_S A s.heap H locs) (hl : lv_has ls 3 [(0, .ref a_t)]) : W p l e r_X5_show s m args below meth c H locs 0 0 (MQ below (qI E A (res.1) (W_X5_show E a_t a_now a_refusals a_shelves a_shelves_contents a_shelves_sizes a_kept a_trial a_reader a_one a_two a_search a_outs a_now_ponds a_now_kinds a_now_weights a_now_cells a_now_faces a_now_pledges a_shelves_elements c_t c_now (res.2.1) (res.2.2.1) (res.2.2.2))) args s 0 0 A) (F0 m 27 ls []) := by
  obtain ⟨hx, hb, hml, hr, hlk, hown, hts, hG, hA⟩ := id X
  have hK := hG.1
  have hN := hG.2.1
  unfold f_X5_show_b27 at h
  refine lv_aload_n hx hb dX5_show_27 rfl (lv_at hl 0 rfl) ?_
  refine lv_bipush (v := (-2 : Int32)) hx hb dX5_show_28 (by decide) ?_
  obtain ⟨v1, hv1, h⟩ := bind_of h
  refine after_i X (run_V X (c_X5_refuse l E a_t a_refusals a_now a_kept a_trial a_reader a_shelves a_one a_two a_search a_outs (-2 : Int32) c_t c_refusals H.size v1 hv1) (cwV 1 hts gX5_show_X5_refuse rfl rfl rfl hV_X5_refuse ⟨(Nat.le_of_ble_eq_true rfl), (Nat.le_of_ble_eq_true rfl)⟩) hP hD hS [0, 2] rfl rfl hl.1 (ci := 5) rfl rfl rfl (rest := []) rfl rfl (Nat.le_of_ble_eq_true rfl) dX5_show_30) hP hD hS [0, 2] [1, 3, 4, 5] [4, 0, 5, 1, 2, 3] rfl rfl rfl (by decide) rfl (ws1 := (W_X5_show E a_t a_now a_refusals a_shelves a_shelves_contents a_shelves_sizes a_kept a_trial a_reader a_one a_two a_search a_outs a_now_ponds a_now_kinds a_now_weights a_now_cells a_now_faces a_now_pledges a_shelves_elements c_t c_now (v1.2) c_shelves_contents c_shelves_sizes)) rfl (fun H locs hP hD hS => ?_)
  obtain rfl := Option.some.inj h
  exact ret_i X dX5_show_33 hP hD hS rfl
set_option maxRecDepth 100000 in
set_option maxHeartbeats 4000000 in
theorem w_X5_show_b34 (X : Ctx p m meth c cX5_show 3 ((some .int)) s args wsX5_show RX5 E A) (a_t : Nat) (a_now : Nat) (a_refusals : Nat) (a_shelves : Nat) (a_shelves_contents : Nat) (a_shelves_sizes : Nat) (a_kept : Nat) (a_trial : Nat) (a_reader : Nat) (a_one : Nat) (a_two : Nat) (a_search : Nat) (a_outs : Nat) (a_now_ponds : Nat) (a_now_kinds : Nat) (a_now_weights : Nat) (a_now_cells : Nat) (a_now_faces : Nat) (a_now_pledges : Nat) (a_shelves_elements : Nat) (c_t : Nat → Int32) (c_now : Nat → Int32) (res : Int32 × (Nat → Int32) × (Nat → Int32) × (Nat → Int32)) (c_refusals : Nat → Int32) (c_shelves_contents : Nat → Int32) (c_shelves_sizes : Nat → Int32) (l1 : Int32) (l2 : Int32) (ls : Array Slot) (H : Heap) (locs : List Loc) (h : f_X5_show_b34 c_t c_now c_refusals c_shelves_contents c_shelves_sizes l1 l2 = some res) (hP : va_P E.1 vwCl (W_X5_show E a_t a_now a_refusals a_shelves a_shelves_contents a_shelves_sizes a_kept a_trial a_reader a_one a_two a_search a_outs a_now_ponds a_now_kinds a_now_weights a_now_cells a_now_faces a_now_pledges a_shelves_elements c_t c_now c_refusals c_shelves_contents c_shelves_sizes) H) (hD : va_D A (W_X5_show E a_t a_now a_refusals a_shelves a_shelves_contents a_shelves_sizes a_kept a_trial a_reader a_one a_two a_search a_outs a_now_ponds a_now_kinds a_now_weights a_now_cells a_now_faces a_now_pledges a_shelves_elements c_t c_now c_refusals c_shelves_contents c_shelves_sizes)) (hS : va_S A s.heap H locs) (hl : lv_has ls 3 [(0, .ref a_t), (1, .int l1), (2, .int l2)]) : W p l e r_X5_show s m args below meth c H locs 0 0 (MQ below (qI E A (res.1) (W_X5_show E a_t a_now a_refusals a_shelves a_shelves_contents a_shelves_sizes a_kept a_trial a_reader a_one a_two a_search a_outs a_now_ponds a_now_kinds a_now_weights a_now_cells a_now_faces a_now_pledges a_shelves_elements c_t c_now (res.2.1) (res.2.2.1) (res.2.2.2))) args s 0 0 A) (F0 m 34 ls []) := by
  obtain ⟨hx, hb, hml, hr, hlk, hown, hts, hG, hA⟩ := id X
  have hK := hG.1
  have hN := hG.2.1
  unfold f_X5_show_b34 at h
  refine lv_iload_n hx hb dX5_show_34 rfl (lv_at hl 2 rfl) ?_
  refine lv_iconst (v := (-1 : Int32)) hx hb dX5_show_35 (by decide) ?_
  refine lv_icmp_ne (tgt := 50) hx hb dX5_show_36 (by decide) (fun hc36 => ?_) (fun hc36 => ?_)
  · have h := if_f h hc36
    refine lv_aload_n hx hb dX5_show_50 rfl (lv_at hl 0 rfl) ?_
    refine va_get (D := E.1) (ci := 5) (v := .ref a_shelves) (C := RX5) (T := TX5) (N := 11) hx hb hts iX5_show_X5 hown hK hP 0 rfl rfl 4 (by decide) (hts (.fieldLink RX5 34 "LeftIsAgreedOn" "shelves" "LLeftIsAgreedOn$Shelves;") (List.mem_of_getElem? (i := 1) rfl)) (fun _ h9 => h9) rfl dX5_show_51 ?_
    refine lv_iload_n hx hb dX5_show_54 rfl (lv_at hl 1 rfl) ?_
    refine lv_iload_n hx hb dX5_show_55 rfl (lv_at hl 2 rfl) ?_
    obtain ⟨v1, hv1, h⟩ := bind_of h
    refine after_v X (run_V X (c_X3_holdOne l E a_shelves a_shelves_contents a_shelves_sizes a_shelves_elements l1 l2 c_shelves_contents c_shelves_sizes H.size v1 hv1) (cwV 2 hts gX5_show_X3_holdOne rfl rfl rfl hV_X3_holdOne ⟨(Nat.le_of_ble_eq_true rfl), (Nat.le_of_ble_eq_true rfl)⟩) hP hD hS [3, 4, 5] rfl rfl hl.1 (ci := 3) rfl rfl rfl (rest := []) rfl rfl (Nat.le_of_ble_eq_true rfl) dX5_show_56) hP hD hS [3, 4, 5] [0, 1, 2] [0, 1, 2, 3, 4, 5] rfl rfl rfl (by decide) rfl (ws1 := (W_X5_show E a_t a_now a_refusals a_shelves a_shelves_contents a_shelves_sizes a_kept a_trial a_reader a_one a_two a_search a_outs a_now_ponds a_now_kinds a_now_weights a_now_cells a_now_faces a_now_pledges a_shelves_elements c_t c_now c_refusals (v1.1) (v1.2))) rfl (fun H locs hP hD hS => ?_)
    refine lv_iconst (v := (1 : Int32)) hx hb dX5_show_59 (by decide) ?_
    obtain rfl := Option.some.inj h
    exact ret_i X dX5_show_60 hP hD hS rfl
  · have h := if_t h hc36
    refine lv_aload_n hx hb dX5_show_39 rfl (lv_at hl 0 rfl) ?_
    refine va_get (D := E.1) (ci := 5) (v := .ref a_shelves) (C := RX5) (T := TX5) (N := 11) hx hb hts iX5_show_X5 hown hK hP 0 rfl rfl 4 (by decide) (hts (.fieldLink RX5 34 "LeftIsAgreedOn" "shelves" "LLeftIsAgreedOn$Shelves;") (List.mem_of_getElem? (i := 1) rfl)) (fun _ h9 => h9) rfl dX5_show_40 ?_
    refine lv_iload_n hx hb dX5_show_43 rfl (lv_at hl 1 rfl) ?_
    obtain ⟨v2, hv2, h⟩ := bind_of h
    refine after_v X (run_V X (c_X3_holdNothing l E a_shelves a_shelves_contents a_shelves_sizes a_shelves_elements l1 c_shelves_contents c_shelves_sizes H.size v2 hv2) (cwV 1 hts gX5_show_X3_holdNothing rfl rfl rfl hV_X3_holdNothing ⟨(Nat.le_of_ble_eq_true rfl), (Nat.le_of_ble_eq_true rfl)⟩) hP hD hS [3, 4, 5] rfl rfl hl.1 (ci := 3) rfl rfl rfl (rest := []) rfl rfl (Nat.le_of_ble_eq_true rfl) dX5_show_44) hP hD hS [3, 4, 5] [0, 1, 2] [0, 1, 2, 3, 4, 5] rfl rfl rfl (by decide) rfl (ws1 := (W_X5_show E a_t a_now a_refusals a_shelves a_shelves_contents a_shelves_sizes a_kept a_trial a_reader a_one a_two a_search a_outs a_now_ponds a_now_kinds a_now_weights a_now_cells a_now_faces a_now_pledges a_shelves_elements c_t c_now c_refusals (v2.1) (v2.2))) rfl (fun H locs hP hD hS => ?_)
    refine lv_goto (tgt := 59) hx hb dX5_show_47 (by decide) ?_
    refine lv_iconst (v := (1 : Int32)) hx hb dX5_show_59 (by decide) ?_
    obtain rfl := Option.some.inj h
    exact ret_i X dX5_show_60 hP hD hS rfl
set_option maxRecDepth 100000 in
set_option maxHeartbeats 4000000 in
theorem w_X5_show (X : Ctx p m meth c cX5_show 3 ((some .int)) s args wsX5_show RX5 E A) (a_t : Nat) (a_now : Nat) (a_refusals : Nat) (a_shelves : Nat) (a_shelves_contents : Nat) (a_shelves_sizes : Nat) (a_kept : Nat) (a_trial : Nat) (a_reader : Nat) (a_one : Nat) (a_two : Nat) (a_search : Nat) (a_outs : Nat) (a_now_ponds : Nat) (a_now_kinds : Nat) (a_now_weights : Nat) (a_now_cells : Nat) (a_now_faces : Nat) (a_now_pledges : Nat) (a_shelves_elements : Nat) (c_t : Nat → Int32) (c_now : Nat → Int32) (res : Int32 × (Nat → Int32) × (Nat → Int32) × (Nat → Int32)) (c_refusals : Nat → Int32) (c_shelves_contents : Nat → Int32) (c_shelves_sizes : Nat → Int32) (l1 : Int32) (l2 : Int32) (ls : Array Slot) (H : Heap) (locs : List Loc) (h : f_X5_show l1 l2 c_t c_now c_refusals c_shelves_contents c_shelves_sizes = some res) (hP : va_P E.1 vwCl (W_X5_show E a_t a_now a_refusals a_shelves a_shelves_contents a_shelves_sizes a_kept a_trial a_reader a_one a_two a_search a_outs a_now_ponds a_now_kinds a_now_weights a_now_cells a_now_faces a_now_pledges a_shelves_elements c_t c_now c_refusals c_shelves_contents c_shelves_sizes) H) (hD : va_D A (W_X5_show E a_t a_now a_refusals a_shelves a_shelves_contents a_shelves_sizes a_kept a_trial a_reader a_one a_two a_search a_outs a_now_ponds a_now_kinds a_now_weights a_now_cells a_now_faces a_now_pledges a_shelves_elements c_t c_now c_refusals c_shelves_contents c_shelves_sizes)) (hS : va_S A s.heap H locs) (hl : lv_has ls 3 [(0, .ref a_t), (1, .int l1), (2, .int l2)]) : W p l e r_X5_show s m args below meth c H locs 0 0 (MQ below (qI E A (res.1) (W_X5_show E a_t a_now a_refusals a_shelves a_shelves_contents a_shelves_sizes a_kept a_trial a_reader a_one a_two a_search a_outs a_now_ponds a_now_kinds a_now_weights a_now_cells a_now_faces a_now_pledges a_shelves_elements c_t c_now (res.2.1) (res.2.2.1) (res.2.2.2))) args s 0 0 A) (F0 m 0 ls []) := by
  obtain ⟨hx, hb, hml, hr, hlk, hown, hts, hG, hA⟩ := id X
  have hK := hG.1
  have hN := hG.2.1
  unfold f_X5_show at h
  refine lv_aload_n hx hb dX5_show_0 rfl (lv_at hl 0 rfl) ?_
  refine va_get (D := E.1) (ci := 5) (v := .ref a_shelves) (C := RX5) (T := TX5) (N := 11) hx hb hts iX5_show_X5 hown hK hP 0 rfl rfl 4 (by decide) (hts (.fieldLink RX5 34 "LeftIsAgreedOn" "shelves" "LLeftIsAgreedOn$Shelves;") (List.mem_of_getElem? (i := 1) rfl)) (fun _ h9 => h9) rfl dX5_show_1 ?_
  refine lv_iload_n hx hb dX5_show_4 rfl (lv_at hl 1 rfl) ?_
  obtain ⟨v1, hv1, h⟩ := bind_of h
  refine after_i X (run_V X (c_X3_isShelf l E a_shelves a_shelves_contents a_shelves_sizes a_shelves_elements l1 H.size v1 hv1) (cwV 1 hts gX5_show_X3_isShelf rfl rfl rfl hV_X3_isShelf ⟨(Nat.le_of_ble_eq_true rfl), (Nat.le_of_ble_eq_true rfl)⟩) hP hD hS [3] rfl rfl hl.1 (ci := 3) rfl rfl rfl (rest := []) rfl rfl (Nat.le_of_ble_eq_true rfl) dX5_show_5) hP hD hS [3] [0, 1, 2, 4, 5] [0, 1, 2, 5, 3, 4] rfl rfl rfl (by decide) rfl (ws1 := (W_X5_show E a_t a_now a_refusals a_shelves a_shelves_contents a_shelves_sizes a_kept a_trial a_reader a_one a_two a_search a_outs a_now_ponds a_now_kinds a_now_weights a_now_cells a_now_faces a_now_pledges a_shelves_elements c_t c_now c_refusals c_shelves_contents c_shelves_sizes)) rfl (fun H locs hP hD hS => ?_)
  refine lv_if_eq (tgt := 27) hx hb dX5_show_8 (by decide) (fun hc8 => ?_) (fun hc8 => ?_)
  · have h := if_t h hc8
    exact w_X5_show_b27 X a_t a_now a_refusals a_shelves a_shelves_contents a_shelves_sizes a_kept a_trial a_reader a_one a_two a_search a_outs a_now_ponds a_now_kinds a_now_weights a_now_cells a_now_faces a_now_pledges a_shelves_elements c_t c_now res c_refusals c_shelves_contents c_shelves_sizes _ _ _ h hP hD hS (lv_sub hl [0] rfl)
  · have h := if_f h hc8
    refine lv_iload_n hx hb dX5_show_11 rfl (lv_at hl 2 rfl) ?_
    refine lv_iconst (v := (-1 : Int32)) hx hb dX5_show_12 (by decide) ?_
    refine lv_icmp_eq (tgt := 34) hx hb dX5_show_13 (by decide) (fun hc13 => ?_) (fun hc13 => ?_)
    · have h := if_t h hc13
      exact w_X5_show_b34 X a_t a_now a_refusals a_shelves a_shelves_contents a_shelves_sizes a_kept a_trial a_reader a_one a_two a_search a_outs a_now_ponds a_now_kinds a_now_weights a_now_cells a_now_faces a_now_pledges a_shelves_elements c_t c_now res c_refusals c_shelves_contents c_shelves_sizes l1 l2 _ _ _ h hP hD hS (lv_sub hl [0, 1, 2] rfl)
    · have h := if_f h hc13
      refine lv_aload_n hx hb dX5_show_16 rfl (lv_at hl 0 rfl) ?_
      refine va_get (D := E.1) (ci := 5) (v := .ref a_now) (C := RX5) (T := TX5) (N := 11) hx hb hts iX5_show_X5 hown hK hP 0 rfl rfl 0 (by decide) (hts (.fieldLink RX5 10 "LeftIsAgreedOn" "now" "LLeftIsAgreedOn$Island;") (List.mem_of_getElem? (i := 2) rfl)) (fun _ h9 => h9) rfl dX5_show_17 ?_
      refine lv_iload_n hx hb dX5_show_20 rfl (lv_at hl 2 rfl) ?_
      obtain ⟨v2, hv2, h⟩ := bind_of h
      refine after_i X (run_V X (c_X0_isOne l E a_now a_now_ponds a_now_kinds a_now_weights a_now_cells a_now_faces a_now_pledges l2 c_now H.size v2 hv2) (cwV 1 hts gX5_show_X0_isOne rfl rfl rfl hV_X0_isOne ⟨(Nat.le_of_ble_eq_true rfl), (Nat.le_of_ble_eq_true rfl)⟩) hP hD hS [1] rfl rfl hl.1 (ci := 0) rfl rfl rfl (rest := []) rfl rfl (Nat.le_of_ble_eq_true rfl) dX5_show_21) hP hD hS [1] [0, 2, 3, 4, 5] [0, 5, 1, 2, 3, 4] rfl rfl rfl (by decide) rfl (ws1 := (W_X5_show E a_t a_now a_refusals a_shelves a_shelves_contents a_shelves_sizes a_kept a_trial a_reader a_one a_two a_search a_outs a_now_ponds a_now_kinds a_now_weights a_now_cells a_now_faces a_now_pledges a_shelves_elements c_t c_now c_refusals c_shelves_contents c_shelves_sizes)) rfl (fun H locs hP hD hS => ?_)
      refine lv_if_ne (tgt := 34) hx hb dX5_show_24 (by decide) (fun hc24 => ?_) (fun hc24 => ?_)
      · have h := if_f h hc24
        exact w_X5_show_b34 X a_t a_now a_refusals a_shelves a_shelves_contents a_shelves_sizes a_kept a_trial a_reader a_one a_two a_search a_outs a_now_ponds a_now_kinds a_now_weights a_now_cells a_now_faces a_now_pledges a_shelves_elements c_t c_now res c_refusals c_shelves_contents c_shelves_sizes l1 l2 _ _ _ h hP hD hS (lv_sub hl [0, 1, 2] rfl)
      · have h := if_t h hc24
        exact w_X5_show_b27 X a_t a_now a_refusals a_shelves a_shelves_contents a_shelves_sizes a_kept a_trial a_reader a_one a_two a_search a_outs a_now_ponds a_now_kinds a_now_weights a_now_cells a_now_faces a_now_pledges a_shelves_elements c_t c_now res c_refusals c_shelves_contents c_shelves_sizes _ _ _ h hP hD hS (lv_sub hl [0] rfl)
end
set_option maxRecDepth 100000 in
theorem c_X5_show (l : Launch) (E : Env0) (a_t : Nat) (a_now : Nat) (a_refusals : Nat) (a_shelves : Nat) (a_shelves_contents : Nat) (a_shelves_sizes : Nat) (a_kept : Nat) (a_trial : Nat) (a_reader : Nat) (a_one : Nat) (a_two : Nat) (a_search : Nat) (a_outs : Nat) (a_now_ponds : Nat) (a_now_kinds : Nat) (a_now_weights : Nat) (a_now_cells : Nat) (a_now_faces : Nat) (a_now_pledges : Nat) (a_shelves_elements : Nat) (l1 : Int32) (l2 : Int32) (c_t : Nat → Int32) (c_now : Nat → Int32) (c_refusals : Nat → Int32) (c_shelves_contents : Nat → Int32) (c_shelves_sizes : Nat → Int32) (sz : Nat) (res : Int32 × (Nat → Int32) × (Nat → Int32) × (Nat → Int32)) (h : f_X5_show l1 l2 c_t c_now c_refusals c_shelves_contents c_shelves_sizes = some res) : Met l yX5_show wsX5_show r_X5_show (cPre E [.ref a_t, .int l1, .int l2] (W_X5_show E a_t a_now a_refusals a_shelves a_shelves_contents a_shelves_sizes a_kept a_trial a_reader a_one a_two a_search a_outs a_now_ponds a_now_kinds a_now_weights a_now_cells a_now_faces a_now_pledges a_shelves_elements c_t c_now c_refusals c_shelves_contents c_shelves_sizes) sz) (qI E (va_A (W_X5_show E a_t a_now a_refusals a_shelves a_shelves_contents a_shelves_sizes a_kept a_trial a_reader a_one a_two a_search a_outs a_now_ponds a_now_kinds a_now_weights a_now_cells a_now_faces a_now_pledges a_shelves_elements c_t c_now c_refusals c_shelves_contents c_shelves_sizes) sz) (res.1) (W_X5_show E a_t a_now a_refusals a_shelves a_shelves_contents a_shelves_sizes a_kept a_trial a_reader a_one a_two a_search a_outs a_now_ponds a_now_kinds a_now_weights a_now_cells a_now_faces a_now_pledges a_shelves_elements c_t c_now (res.2.1) (res.2.2.1) (res.2.2.2))) 0 0 (va_A (W_X5_show E a_t a_now a_refusals a_shelves a_shelves_contents a_shelves_sizes a_kept a_trial a_reader a_one a_two a_search a_outs a_now_ponds a_now_kinds a_now_weights a_now_cells a_now_faces a_now_pledges a_shelves_elements c_t c_now c_refusals c_shelves_contents c_shelves_sizes) sz) :=
  met_of (Qc := fun A => qI E A (res.1) (W_X5_show E a_t a_now a_refusals a_shelves a_shelves_contents a_shelves_sizes a_kept a_trial a_reader a_one a_two a_search a_outs a_now_ponds a_now_kinds a_now_weights a_now_cells a_now_faces a_now_pledges a_shelves_elements c_t c_now (res.2.1) (res.2.2.1) (res.2.2.2))) (by decide) rfl (Nat.le_of_ble_eq_true rfl) (fun p e s m args below meth c X hP hD hS ls hl => w_X5_show X a_t a_now a_refusals a_shelves a_shelves_contents a_shelves_sizes a_kept a_trial a_reader a_one a_two a_search a_outs a_now_ponds a_now_kinds a_now_weights a_now_cells a_now_faces a_now_pledges a_shelves_elements c_t c_now res c_refusals c_shelves_contents c_shelves_sizes l1 l2 ls _ _ h hP hD hS hl)
-- ===== X5_says
abbrev W_X5_says (E : Env0) (a_t : Nat) (a_now : Nat) (a_now_cells : Nat) (a_now_faces : Nat) (a_now_kinds : Nat) (a_now_pledges : Nat) (a_now_ponds : Nat) (a_now_weights : Nat) (a_one : Nat) (a_refusals : Nat) (a_shelves : Nat) (a_shelves_contents : Nat) (a_kept : Nat) (a_trial : Nat) (a_reader : Nat) (a_two : Nat) (a_search : Nat) (a_outs : Nat) (a_shelves_sizes : Nat) (a_shelves_elements : Nat) (c_t : Nat → Int32) (c_now : Nat → Int32) (c_now_cells : Nat → Int32) (c_now_faces : Nat → Int32) (c_now_kinds : Nat → Int32) (c_now_pledges : Nat → Int32) (c_now_ponds : Nat → Int32) (c_now_weights : Nat → Int32) (c_one : Nat → Int32) (c_refusals : Nat → Int32) (c_shelves_contents : Nat → Int32) : va_W := [(a_t, .inr (5, [.ref a_now, .ref a_kept, .ref a_trial, .ref a_reader, .ref a_shelves, .ref a_one, .ref a_two, .ref a_search, .ref a_outs, .ref a_refusals, .int (c_t 10)])), (a_now, .inr (0, [.int (c_now 0), .int (c_now 1), .int (c_now 2), .int (c_now 3), .int (c_now 4), .int (c_now 5), .int (c_now 6), .int (c_now 7), .ref a_now_ponds, .ref a_now_kinds, .ref a_now_weights, .ref a_now_cells, .ref a_now_faces, .ref a_now_pledges])), (a_now_cells, .inl (eI E, 8, .inl c_now_cells)), (a_now_faces, .inl (eI E, 8, .inl c_now_faces)), (a_now_kinds, .inl (eI E, 8, .inl c_now_kinds)), (a_now_pledges, .inl (eI E, 8, .inl c_now_pledges)), (a_now_ponds, .inl (eZ E, 70, .inl c_now_ponds)), (a_now_weights, .inl (eI E, 8, .inl c_now_weights)), (a_one, .inr (4, [.ref a_now, .int (c_one 1), .int (c_one 2), .int (c_one 3), .int (c_one 4), .int (c_one 5), .int (c_one 6), .int (c_one 7), .int (c_one 8), .int (c_one 9), .int (c_one 10)])), (a_refusals, .inl (eI E, 5, .inl c_refusals)), (a_shelves, .inr (3, [.ref a_shelves_contents, .ref a_shelves_sizes, .ref a_shelves_elements])), (a_shelves_contents, .inl (eI E, 8, .inl c_shelves_contents))]
abbrev r_X5_says : Room := { frames := 4, cells := 0, slots := 0, locals := 90 }
theorem hd_X5_says : yX5_says.cls ≠ "java/lang/invoke/MethodHandle" ∧ yX5_says.cls ≠ "java/lang/invoke/VarHandle" ∧ (parseMethodDescriptor yX5_says.desc).map (fun d => d.parameters.length) = some 2 := by decide +kernel
theorem hV_X5_says : yX5_says.cls = RX5 ∧ yX5_says.cls ≠ "java/lang/invoke/MethodHandle" ∧ yX5_says.cls ≠ "java/lang/invoke/VarHandle" ∧ (parseMethodDescriptor yX5_says.desc).map (fun d => d.parameters.length) = some 2 := ⟨rfl, hd_X5_says⟩
theorem iX5_says_X0 : ∀ w ∈ wsX00, w ∈ wsX5_says := fun _ h => List.mem_cons_of_mem _ (List.mem_append_left _ (List.mem_append_left _ (List.mem_append_right _ (h))))
theorem iX5_says_X4 : ∀ w ∈ wsX40, w ∈ wsX5_says := fun _ h => List.mem_cons_of_mem _ (List.mem_append_left _ (List.mem_append_right _ (h)))
theorem iX5_says_X5 : ∀ w ∈ wsX50, w ∈ wsX5_says := fun _ h => List.mem_cons_of_mem _ (List.mem_append_left _ (List.mem_append_left _ (List.mem_append_left _ (List.mem_append_right _ (h)))))
section
variable {p : Program} {l : Launch} {e : Env} {s : State} {m : MethodId} {args : Array Value} {below : List Frame} {meth : Method} {c : Code} {E : Env0} {A : Nat → Prop}
set_option maxRecDepth 100000 in
set_option maxHeartbeats 4000000 in
theorem w_X5_says_b18 (X : Ctx p m meth c cX5_says 4 ((some .int)) s args wsX5_says RX5 E A) (a_t : Nat) (a_now : Nat) (a_now_cells : Nat) (a_now_faces : Nat) (a_now_kinds : Nat) (a_now_pledges : Nat) (a_now_ponds : Nat) (a_now_weights : Nat) (a_one : Nat) (a_refusals : Nat) (a_shelves : Nat) (a_shelves_contents : Nat) (a_kept : Nat) (a_trial : Nat) (a_reader : Nat) (a_two : Nat) (a_search : Nat) (a_outs : Nat) (a_shelves_sizes : Nat) (a_shelves_elements : Nat) (c_t : Nat → Int32) (c_now : Nat → Int32) (c_now_cells : Nat → Int32) (c_now_faces : Nat → Int32) (c_now_kinds : Nat → Int32) (c_now_pledges : Nat → Int32) (c_now_ponds : Nat → Int32) (c_now_weights : Nat → Int32) (c_shelves_contents : Nat → Int32) (res : Int32 × (Nat → Int32) × (Nat → Int32)) (c_one : Nat → Int32) (c_refusals : Nat → Int32) (ls : Array Slot) (H : Heap) (locs : List Loc) (h : f_X5_says_b18 c_t c_now c_now_cells c_now_faces c_now_kinds c_now_pledges c_now_ponds c_now_weights c_shelves_contents c_one c_refusals = some res) (hP : va_P E.1 vwCl (W_X5_says E a_t a_now a_now_cells a_now_faces a_now_kinds a_now_pledges a_now_ponds a_now_weights a_one a_refusals a_shelves a_shelves_contents a_kept a_trial a_reader a_two a_search a_outs a_shelves_sizes a_shelves_elements c_t c_now c_now_cells c_now_faces c_now_kinds c_now_pledges c_now_ponds c_now_weights c_one c_refusals c_shelves_contents) H) (hD : va_D A (W_X5_says E a_t a_now a_now_cells a_now_faces a_now_kinds a_now_pledges a_now_ponds a_now_weights a_one a_refusals a_shelves a_shelves_contents a_kept a_trial a_reader a_two a_search a_outs a_shelves_sizes a_shelves_elements c_t c_now c_now_cells c_now_faces c_now_kinds c_now_pledges c_now_ponds c_now_weights c_one c_refusals c_shelves_contents)) (hS : va_S A s.heap H locs) (hl : lv_has ls 4 [(0, .ref a_t)]) : W p l e r_X5_says s m args below meth c H locs 0 0 (MQ below (qI E A (res.1) (W_X5_says E a_t a_now a_now_cells a_now_faces a_now_kinds a_now_pledges a_now_ponds a_now_weights a_one a_refusals a_shelves a_shelves_contents a_kept a_trial a_reader a_two a_search a_outs a_shelves_sizes a_shelves_elements c_t c_now c_now_cells c_now_faces c_now_kinds c_now_pledges c_now_ponds c_now_weights (res.2.1) (res.2.2) c_shelves_contents)) args s 0 0 A) (F0 m 18 ls []) := by
  obtain ⟨hx, hb, hml, hr, hlk, hown, hts, hG, hA⟩ := id X
  have hK := hG.1
  have hN := hG.2.1
  unfold f_X5_says_b18 at h
  refine lv_aload_n hx hb dX5_says_18 rfl (lv_at hl 0 rfl) ?_
  refine lv_bipush (v := (-2 : Int32)) hx hb dX5_says_19 (by decide) ?_
  obtain ⟨v1, hv1, h⟩ := bind_of h
  refine after_i X (run_V X (c_X5_refuse l E a_t a_refusals a_now a_kept a_trial a_reader a_shelves a_one a_two a_search a_outs (-2 : Int32) c_t c_refusals H.size v1 hv1) (cwV 1 hts gX5_says_X5_refuse rfl rfl rfl hV_X5_refuse ⟨(Nat.le_of_ble_eq_true rfl), (Nat.le_of_ble_eq_true rfl)⟩) hP hD hS [0, 9] rfl rfl hl.1 (ci := 5) rfl rfl rfl (rest := []) rfl rfl (Nat.le_of_ble_eq_true rfl) dX5_says_21) hP hD hS [0, 9] [1, 2, 3, 4, 5, 6, 7, 8, 10, 11] [10, 0, 1, 2, 3, 4, 5, 6, 7, 11, 8, 9] rfl rfl rfl (by decide) rfl (ws1 := (W_X5_says E a_t a_now a_now_cells a_now_faces a_now_kinds a_now_pledges a_now_ponds a_now_weights a_one a_refusals a_shelves a_shelves_contents a_kept a_trial a_reader a_two a_search a_outs a_shelves_sizes a_shelves_elements c_t c_now c_now_cells c_now_faces c_now_kinds c_now_pledges c_now_ponds c_now_weights c_one (v1.2) c_shelves_contents)) rfl (fun H locs hP hD hS => ?_)
  obtain rfl := Option.some.inj h
  exact ret_i X dX5_says_24 hP hD hS rfl
set_option maxRecDepth 100000 in
set_option maxHeartbeats 4000000 in
theorem w_X5_says_b80 (X : Ctx p m meth c cX5_says 4 ((some .int)) s args wsX5_says RX5 E A) (a_t : Nat) (a_now : Nat) (a_now_cells : Nat) (a_now_faces : Nat) (a_now_kinds : Nat) (a_now_pledges : Nat) (a_now_ponds : Nat) (a_now_weights : Nat) (a_one : Nat) (a_refusals : Nat) (a_shelves : Nat) (a_shelves_contents : Nat) (a_kept : Nat) (a_trial : Nat) (a_reader : Nat) (a_two : Nat) (a_search : Nat) (a_outs : Nat) (a_shelves_sizes : Nat) (a_shelves_elements : Nat) (c_t : Nat → Int32) (c_now : Nat → Int32) (c_now_cells : Nat → Int32) (c_now_faces : Nat → Int32) (c_now_kinds : Nat → Int32) (c_now_pledges : Nat → Int32) (c_now_ponds : Nat → Int32) (c_now_weights : Nat → Int32) (c_shelves_contents : Nat → Int32) (res : Int32 × (Nat → Int32) × (Nat → Int32)) (c_one : Nat → Int32) (c_refusals : Nat → Int32) (ls : Array Slot) (H : Heap) (locs : List Loc) (h : f_X5_says_b80 c_t c_now c_now_cells c_now_faces c_now_kinds c_now_pledges c_now_ponds c_now_weights c_shelves_contents c_one c_refusals = some res) (hP : va_P E.1 vwCl (W_X5_says E a_t a_now a_now_cells a_now_faces a_now_kinds a_now_pledges a_now_ponds a_now_weights a_one a_refusals a_shelves a_shelves_contents a_kept a_trial a_reader a_two a_search a_outs a_shelves_sizes a_shelves_elements c_t c_now c_now_cells c_now_faces c_now_kinds c_now_pledges c_now_ponds c_now_weights c_one c_refusals c_shelves_contents) H) (hD : va_D A (W_X5_says E a_t a_now a_now_cells a_now_faces a_now_kinds a_now_pledges a_now_ponds a_now_weights a_one a_refusals a_shelves a_shelves_contents a_kept a_trial a_reader a_two a_search a_outs a_shelves_sizes a_shelves_elements c_t c_now c_now_cells c_now_faces c_now_kinds c_now_pledges c_now_ponds c_now_weights c_one c_refusals c_shelves_contents)) (hS : va_S A s.heap H locs) (hl : lv_has ls 4 [(0, .ref a_t)]) : W p l e r_X5_says s m args below meth c H locs 0 0 (MQ below (qI E A (res.1) (W_X5_says E a_t a_now a_now_cells a_now_faces a_now_kinds a_now_pledges a_now_ponds a_now_weights a_one a_refusals a_shelves a_shelves_contents a_kept a_trial a_reader a_two a_search a_outs a_shelves_sizes a_shelves_elements c_t c_now c_now_cells c_now_faces c_now_kinds c_now_pledges c_now_ponds c_now_weights (res.2.1) (res.2.2) c_shelves_contents)) args s 0 0 A) (F0 m 80 ls []) := by
  obtain ⟨hx, hb, hml, hr, hlk, hown, hts, hG, hA⟩ := id X
  have hK := hG.1
  have hN := hG.2.1
  unfold f_X5_says_b80 at h
  refine lv_aload_n hx hb dX5_says_80 rfl (lv_at hl 0 rfl) ?_
  refine lv_bipush (v := (-3 : Int32)) hx hb dX5_says_81 (by decide) ?_
  obtain ⟨v1, hv1, h⟩ := bind_of h
  refine after_i X (run_V X (c_X5_refuse l E a_t a_refusals a_now a_kept a_trial a_reader a_shelves a_one a_two a_search a_outs (-3 : Int32) c_t c_refusals H.size v1 hv1) (cwV 1 hts gX5_says_X5_refuse rfl rfl rfl hV_X5_refuse ⟨(Nat.le_of_ble_eq_true rfl), (Nat.le_of_ble_eq_true rfl)⟩) hP hD hS [0, 9] rfl rfl hl.1 (ci := 5) rfl rfl rfl (rest := []) rfl rfl (Nat.le_of_ble_eq_true rfl) dX5_says_83) hP hD hS [0, 9] [1, 2, 3, 4, 5, 6, 7, 8, 10, 11] [10, 0, 1, 2, 3, 4, 5, 6, 7, 11, 8, 9] rfl rfl rfl (by decide) rfl (ws1 := (W_X5_says E a_t a_now a_now_cells a_now_faces a_now_kinds a_now_pledges a_now_ponds a_now_weights a_one a_refusals a_shelves a_shelves_contents a_kept a_trial a_reader a_two a_search a_outs a_shelves_sizes a_shelves_elements c_t c_now c_now_cells c_now_faces c_now_kinds c_now_pledges c_now_ponds c_now_weights c_one (v1.2) c_shelves_contents)) rfl (fun H locs hP hD hS => ?_)
  obtain rfl := Option.some.inj h
  exact ret_i X dX5_says_86 hP hD hS rfl
set_option maxRecDepth 100000 in
set_option maxHeartbeats 4000000 in
theorem w_X5_says (X : Ctx p m meth c cX5_says 4 ((some .int)) s args wsX5_says RX5 E A) (a_t : Nat) (a_now : Nat) (a_now_cells : Nat) (a_now_faces : Nat) (a_now_kinds : Nat) (a_now_pledges : Nat) (a_now_ponds : Nat) (a_now_weights : Nat) (a_one : Nat) (a_refusals : Nat) (a_shelves : Nat) (a_shelves_contents : Nat) (a_kept : Nat) (a_trial : Nat) (a_reader : Nat) (a_two : Nat) (a_search : Nat) (a_outs : Nat) (a_shelves_sizes : Nat) (a_shelves_elements : Nat) (c_t : Nat → Int32) (c_now : Nat → Int32) (c_now_cells : Nat → Int32) (c_now_faces : Nat → Int32) (c_now_kinds : Nat → Int32) (c_now_pledges : Nat → Int32) (c_now_ponds : Nat → Int32) (c_now_weights : Nat → Int32) (c_shelves_contents : Nat → Int32) (res : Int32 × (Nat → Int32) × (Nat → Int32)) (c_one : Nat → Int32) (c_refusals : Nat → Int32) (l1 : Int32) (l2 : Int32) (ls : Array Slot) (H : Heap) (locs : List Loc) (h : f_X5_says l1 l2 c_t c_now c_now_cells c_now_faces c_now_kinds c_now_pledges c_now_ponds c_now_weights c_one c_refusals c_shelves_contents = some res) (hP : va_P E.1 vwCl (W_X5_says E a_t a_now a_now_cells a_now_faces a_now_kinds a_now_pledges a_now_ponds a_now_weights a_one a_refusals a_shelves a_shelves_contents a_kept a_trial a_reader a_two a_search a_outs a_shelves_sizes a_shelves_elements c_t c_now c_now_cells c_now_faces c_now_kinds c_now_pledges c_now_ponds c_now_weights c_one c_refusals c_shelves_contents) H) (hD : va_D A (W_X5_says E a_t a_now a_now_cells a_now_faces a_now_kinds a_now_pledges a_now_ponds a_now_weights a_one a_refusals a_shelves a_shelves_contents a_kept a_trial a_reader a_two a_search a_outs a_shelves_sizes a_shelves_elements c_t c_now c_now_cells c_now_faces c_now_kinds c_now_pledges c_now_ponds c_now_weights c_one c_refusals c_shelves_contents)) (hS : va_S A s.heap H locs) (hl : lv_has ls 4 [(0, .ref a_t), (1, .int l1), (2, .int l2)]) : W p l e r_X5_says s m args below meth c H locs 0 0 (MQ below (qI E A (res.1) (W_X5_says E a_t a_now a_now_cells a_now_faces a_now_kinds a_now_pledges a_now_ponds a_now_weights a_one a_refusals a_shelves a_shelves_contents a_kept a_trial a_reader a_two a_search a_outs a_shelves_sizes a_shelves_elements c_t c_now c_now_cells c_now_faces c_now_kinds c_now_pledges c_now_ponds c_now_weights (res.2.1) (res.2.2) c_shelves_contents)) args s 0 0 A) (F0 m 0 ls []) := by
  obtain ⟨hx, hb, hml, hr, hlk, hown, hts, hG, hA⟩ := id X
  have hK := hG.1
  have hN := hG.2.1
  unfold f_X5_says at h
  refine lv_aload_n hx hb dX5_says_0 rfl (lv_at hl 0 rfl) ?_
  refine va_get (D := E.1) (ci := 5) (v := .ref a_shelves) (C := RX5) (T := TX5) (N := 11) hx hb hts iX5_says_X5 hown hK hP 0 rfl rfl 4 (by decide) (hts (.fieldLink RX5 34 "LeftIsAgreedOn" "shelves" "LLeftIsAgreedOn$Shelves;") (List.mem_of_getElem? (i := 1) rfl)) (fun _ h9 => h9) rfl dX5_says_1 ?_
  refine lv_iload_n hx hb dX5_says_4 rfl (lv_at hl 1 rfl) ?_
  obtain ⟨v1, hv1, h⟩ := bind_of h
  refine after_i X (run_V X (c_X3_isShelf l E a_shelves a_shelves_contents a_shelves_sizes a_shelves_elements l1 H.size v1 hv1) (cwV 1 hts gX5_says_X3_isShelf rfl rfl rfl hV_X3_isShelf ⟨(Nat.le_of_ble_eq_true rfl), (Nat.le_of_ble_eq_true rfl)⟩) hP hD hS [10] rfl rfl hl.1 (ci := 3) rfl rfl rfl (rest := []) rfl rfl (Nat.le_of_ble_eq_true rfl) dX5_says_5) hP hD hS [10] [0, 1, 2, 3, 4, 5, 6, 7, 8, 9, 11] [0, 1, 2, 3, 4, 5, 6, 7, 8, 9, 11, 10] rfl rfl rfl (by decide) rfl (ws1 := (W_X5_says E a_t a_now a_now_cells a_now_faces a_now_kinds a_now_pledges a_now_ponds a_now_weights a_one a_refusals a_shelves a_shelves_contents a_kept a_trial a_reader a_two a_search a_outs a_shelves_sizes a_shelves_elements c_t c_now c_now_cells c_now_faces c_now_kinds c_now_pledges c_now_ponds c_now_weights c_one c_refusals c_shelves_contents)) rfl (fun H locs hP hD hS => ?_)
  refine lv_if_eq (tgt := 18) hx hb dX5_says_8 (by decide) (fun hc8 => ?_) (fun hc8 => ?_)
  · have h := if_t h hc8
    exact w_X5_says_b18 X a_t a_now a_now_cells a_now_faces a_now_kinds a_now_pledges a_now_ponds a_now_weights a_one a_refusals a_shelves a_shelves_contents a_kept a_trial a_reader a_two a_search a_outs a_shelves_sizes a_shelves_elements c_t c_now c_now_cells c_now_faces c_now_kinds c_now_pledges c_now_ponds c_now_weights c_shelves_contents res c_one c_refusals _ _ _ h hP hD hS (lv_sub hl [0] rfl)
  · have h := if_f h hc8
    refine lv_iload_n hx hb dX5_says_11 rfl (lv_at hl 2 rfl) ?_
    obtain ⟨v2, hv2, h⟩ := bind_of h
    refine after_i X (run_S X (c_X5_isKind l E l2 H.size v2 hv2) (va_cwS 1 hts gX5_says_X5_isKind rfl rfl rfl hd_X5_isKind ⟨(Nat.le_of_ble_eq_true rfl), (Nat.le_of_ble_eq_true rfl)⟩) hP hD hS [] rfl rfl hl.1 (rest := []) rfl rfl (Nat.le_of_ble_eq_true rfl) dX5_says_12) hP hD hS [] [0, 1, 2, 3, 4, 5, 6, 7, 8, 9, 10, 11] [0, 1, 2, 3, 4, 5, 6, 7, 8, 9, 10, 11] rfl rfl rfl (by decide) rfl (ws1 := (W_X5_says E a_t a_now a_now_cells a_now_faces a_now_kinds a_now_pledges a_now_ponds a_now_weights a_one a_refusals a_shelves a_shelves_contents a_kept a_trial a_reader a_two a_search a_outs a_shelves_sizes a_shelves_elements c_t c_now c_now_cells c_now_faces c_now_kinds c_now_pledges c_now_ponds c_now_weights c_one c_refusals c_shelves_contents)) rfl (fun H locs hP hD hS => ?_)
    refine lv_if_ne (tgt := 25) hx hb dX5_says_15 (by decide) (fun hc15 => ?_) (fun hc15 => ?_)
    · have h := if_f h hc15
      refine lv_aload_n hx hb dX5_says_25 rfl (lv_at hl 0 rfl) ?_
      refine va_get (D := E.1) (ci := 5) (v := .ref a_shelves) (C := RX5) (T := TX5) (N := 11) hx hb hts iX5_says_X5 hown hK hP 0 rfl rfl 4 (by decide) (hts (.fieldLink RX5 34 "LeftIsAgreedOn" "shelves" "LLeftIsAgreedOn$Shelves;") (List.mem_of_getElem? (i := 1) rfl)) (fun _ h9 => h9) rfl dX5_says_26 ?_
      refine lv_iload_n hx hb dX5_says_29 rfl (lv_at hl 1 rfl) ?_
      obtain ⟨v3, hv3, h⟩ := bind_of h
      refine after_i X (run_V X (c_X3_held l E a_shelves a_shelves_contents a_shelves_sizes a_shelves_elements l1 c_shelves_contents H.size v3 hv3) (cwV 1 hts gX5_says_X3_held rfl rfl rfl hV_X3_held ⟨(Nat.le_of_ble_eq_true rfl), (Nat.le_of_ble_eq_true rfl)⟩) hP hD hS [10, 11] rfl rfl hl.1 (ci := 3) rfl rfl rfl (rest := []) rfl rfl (Nat.le_of_ble_eq_true rfl) dX5_says_30) hP hD hS [10, 11] [0, 1, 2, 3, 4, 5, 6, 7, 8, 9] [0, 1, 2, 3, 4, 5, 6, 7, 8, 9, 10, 11] rfl rfl rfl (by decide) rfl (ws1 := (W_X5_says E a_t a_now a_now_cells a_now_faces a_now_kinds a_now_pledges a_now_ponds a_now_weights a_one a_refusals a_shelves a_shelves_contents a_kept a_trial a_reader a_two a_search a_outs a_shelves_sizes a_shelves_elements c_t c_now c_now_cells c_now_faces c_now_kinds c_now_pledges c_now_ponds c_now_weights c_one c_refusals c_shelves_contents)) rfl (fun H locs hP hD hS => ?_)
      refine lv_iconst (v := (-1 : Int32)) hx hb dX5_says_33 (by decide) ?_
      refine lv_icmp_ne (tgt := 44) hx hb dX5_says_34 (by decide) (fun hc34 => ?_) (fun hc34 => ?_)
      · have h := if_f h hc34
        refine lv_aload_n hx hb dX5_says_44 rfl (lv_at hl 0 rfl) ?_
        refine va_get (D := E.1) (ci := 5) (v := .ref a_shelves) (C := RX5) (T := TX5) (N := 11) hx hb hts iX5_says_X5 hown hK hP 0 rfl rfl 4 (by decide) (hts (.fieldLink RX5 34 "LeftIsAgreedOn" "shelves" "LLeftIsAgreedOn$Shelves;") (List.mem_of_getElem? (i := 1) rfl)) (fun _ h9 => h9) rfl dX5_says_45 ?_
        refine lv_iload_n hx hb dX5_says_48 rfl (lv_at hl 1 rfl) ?_
        obtain ⟨v4, hv4, h⟩ := bind_of h
        refine after_i X (run_V X (c_X3_oneIn l E a_shelves a_shelves_contents a_shelves_sizes a_shelves_elements l1 c_shelves_contents H.size v4 hv4) (cwV 1 hts gX5_says_X3_oneIn rfl rfl rfl hV_X3_oneIn ⟨(Nat.le_of_ble_eq_true rfl), (Nat.le_of_ble_eq_true rfl)⟩) hP hD hS [10, 11] rfl rfl hl.1 (ci := 3) rfl rfl rfl (rest := []) rfl rfl (Nat.le_of_ble_eq_true rfl) dX5_says_49) hP hD hS [10, 11] [0, 1, 2, 3, 4, 5, 6, 7, 8, 9] [0, 1, 2, 3, 4, 5, 6, 7, 8, 9, 10, 11] rfl rfl rfl (by decide) rfl (ws1 := (W_X5_says E a_t a_now a_now_cells a_now_faces a_now_kinds a_now_pledges a_now_ponds a_now_weights a_one a_refusals a_shelves a_shelves_contents a_kept a_trial a_reader a_two a_search a_outs a_shelves_sizes a_shelves_elements c_t c_now c_now_cells c_now_faces c_now_kinds c_now_pledges c_now_ponds c_now_weights c_one c_refusals c_shelves_contents)) rfl (fun H locs hP hD hS => ?_)
        refine lv_istore_n (lv' := [(3, .int v4), (0, .ref a_t), (1, .int l1), (2, .int l2)]) hx hb dX5_says_52 rfl hl (by decide) rfl (fun ls hl => ?_)
        refine lv_aload_n hx hb dX5_says_53 rfl (lv_at hl 1 rfl) ?_
        refine va_get (D := E.1) (ci := 5) (v := .ref a_now) (C := RX5) (T := TX5) (N := 11) hx hb hts iX5_says_X5 hown hK hP 0 rfl rfl 0 (by decide) (hts (.fieldLink RX5 10 "LeftIsAgreedOn" "now" "LLeftIsAgreedOn$Island;") (List.mem_of_getElem? (i := 2) rfl)) (fun _ h9 => h9) rfl dX5_says_54 ?_
        refine lv_iload_n hx hb dX5_says_57 rfl (lv_at hl 0 rfl) ?_
        obtain ⟨v5, hv5, h⟩ := bind_of h
        refine after_i X (run_V X (c_X0_isOne l E a_now a_now_ponds a_now_kinds a_now_weights a_now_cells a_now_faces a_now_pledges v4 c_now H.size v5 hv5) (cwV 1 hts gX5_says_X0_isOne rfl rfl rfl hV_X0_isOne ⟨(Nat.le_of_ble_eq_true rfl), (Nat.le_of_ble_eq_true rfl)⟩) hP hD hS [1] rfl rfl hl.1 (ci := 0) rfl rfl rfl (rest := []) rfl rfl (Nat.le_of_ble_eq_true rfl) dX5_says_58) hP hD hS [1] [0, 2, 3, 4, 5, 6, 7, 8, 9, 10, 11] [0, 11, 1, 2, 3, 4, 5, 6, 7, 8, 9, 10] rfl rfl rfl (by decide) rfl (ws1 := (W_X5_says E a_t a_now a_now_cells a_now_faces a_now_kinds a_now_pledges a_now_ponds a_now_weights a_one a_refusals a_shelves a_shelves_contents a_kept a_trial a_reader a_two a_search a_outs a_shelves_sizes a_shelves_elements c_t c_now c_now_cells c_now_faces c_now_kinds c_now_pledges c_now_ponds c_now_weights c_one c_refusals c_shelves_contents)) rfl (fun H locs hP hD hS => ?_)
        refine lv_if_eq (tgt := 80) hx hb dX5_says_61 (by decide) (fun hc61 => ?_) (fun hc61 => ?_)
        · have h := if_t h hc61
          exact w_X5_says_b80 X a_t a_now a_now_cells a_now_faces a_now_kinds a_now_pledges a_now_ponds a_now_weights a_one a_refusals a_shelves a_shelves_contents a_kept a_trial a_reader a_two a_search a_outs a_shelves_sizes a_shelves_elements c_t c_now c_now_cells c_now_faces c_now_kinds c_now_pledges c_now_ponds c_now_weights c_shelves_contents res c_one c_refusals _ _ _ h hP hD hS (lv_sub hl [1] rfl)
        · have h := if_f h hc61
          refine lv_aload_n hx hb dX5_says_64 rfl (lv_at hl 1 rfl) ?_
          refine va_get (D := E.1) (ci := 5) (v := .ref a_now) (C := RX5) (T := TX5) (N := 11) hx hb hts iX5_says_X5 hown hK hP 0 rfl rfl 0 (by decide) (hts (.fieldLink RX5 10 "LeftIsAgreedOn" "now" "LLeftIsAgreedOn$Island;") (List.mem_of_getElem? (i := 2) rfl)) (fun _ h9 => h9) rfl dX5_says_65 ?_
          refine va_getN (D := E.1) (ci := 0) (v := .ref a_now_kinds) (C := RX0) (T := TX0) (N := 14) hx hb hts iX5_says_X0 hown hK hP 1 rfl rfl 9 (by decide) (va_Nw.use rfl (hN.1 _ (List.mem_of_getElem? (i := 0) rfl))) (fun _ h9 => h9) rfl dX5_says_68 ?_
          refine lv_iload_n hx hb dX5_says_71 rfl (lv_at hl 0 rfl) ?_
          obtain ⟨hz72, h⟩ := chk_of h
          refine ld_i X hP 4 rfl (inb.vp hz72) (v := (c_now_kinds (v4).toNatClampNeg)) rfl dX5_says_72 ?_
          refine lv_iload_n hx hb dX5_says_73 rfl (lv_at hl 3 rfl) ?_
          obtain ⟨v6, hv6, h⟩ := bind_of h
          refine after_i X (run_S X (c_X5_isUnder l E (c_now_kinds (v4).toNatClampNeg) l2 H.size v6 hv6) (va_cwS 2 hts gX5_says_X5_isUnder rfl rfl rfl hd_X5_isUnder ⟨(Nat.le_of_ble_eq_true rfl), (Nat.le_of_ble_eq_true rfl)⟩) hP hD hS [] rfl rfl hl.1 (rest := []) rfl rfl (Nat.le_of_ble_eq_true rfl) dX5_says_74) hP hD hS [] [0, 1, 2, 3, 4, 5, 6, 7, 8, 9, 10, 11] [0, 1, 2, 3, 4, 5, 6, 7, 8, 9, 10, 11] rfl rfl rfl (by decide) rfl (ws1 := (W_X5_says E a_t a_now a_now_cells a_now_faces a_now_kinds a_now_pledges a_now_ponds a_now_weights a_one a_refusals a_shelves a_shelves_contents a_kept a_trial a_reader a_two a_search a_outs a_shelves_sizes a_shelves_elements c_t c_now c_now_cells c_now_faces c_now_kinds c_now_pledges c_now_ponds c_now_weights c_one c_refusals c_shelves_contents)) rfl (fun H locs hP hD hS => ?_)
          refine lv_if_ne (tgt := 87) hx hb dX5_says_77 (by decide) (fun hc77 => ?_) (fun hc77 => ?_)
          · have h := if_f h hc77
            refine lv_iload_n hx hb dX5_says_87 rfl (lv_at hl 3 rfl) ?_
            refine lv_if_ne (tgt := 101) hx hb dX5_says_88 (by decide) (fun hc88 => ?_) (fun hc88 => ?_)
            · have h := if_f h hc88
              refine lv_aload_n hx hb dX5_says_101 rfl (lv_at hl 1 rfl) ?_
              refine va_get (D := E.1) (ci := 5) (v := .ref a_one) (C := RX5) (T := TX5) (N := 11) hx hb hts iX5_says_X5 hown hK hP 0 rfl rfl 5 (by decide) (hts (.fieldLink RX5 41 "LeftIsAgreedOn" "one" "LLeftIsAgreedOn$Walker;") (List.mem_of_getElem? (i := 3) rfl)) (fun _ h9 => h9) rfl dX5_says_102 ?_
              refine lv_iload_n hx hb dX5_says_105 rfl (lv_at hl 0 rfl) ?_
              obtain ⟨v7, hv7, h⟩ := bind_of h
              refine after_v X (run_V X (c_X4_begin l E a_one a_now a_now_cells a_now_faces a_now_kinds a_now_pledges a_now_ponds a_now_weights v4 c_one c_now c_now_cells c_now_faces c_now_kinds c_now_pledges H.size v7 hv7) (cwV 1 hts gX5_says_X4_begin rfl rfl rfl hV_X4_begin ⟨(Nat.le_of_ble_eq_true rfl), (Nat.le_of_ble_eq_true rfl)⟩) hP hD hS [8, 1, 2, 3, 4, 5] rfl rfl hl.1 (ci := 4) rfl rfl rfl (rest := []) rfl rfl (Nat.le_of_ble_eq_true rfl) dX5_says_106) hP hD hS [8, 1, 2, 3, 4, 5] [0, 6, 7, 9, 10, 11] [0, 7, 8, 9, 10, 11, 1, 2, 6, 3, 4, 5] rfl rfl rfl (by decide) rfl (ws1 := (W_X5_says E a_t a_now a_now_cells a_now_faces a_now_kinds a_now_pledges a_now_ponds a_now_weights a_one a_refusals a_shelves a_shelves_contents a_kept a_trial a_reader a_two a_search a_outs a_shelves_sizes a_shelves_elements c_t c_now c_now_cells c_now_faces c_now_kinds c_now_pledges c_now_ponds c_now_weights v7 c_refusals c_shelves_contents)) rfl (fun H locs hP hD hS => ?_)
              refine lv_aload_n hx hb dX5_says_109 rfl (lv_at hl 1 rfl) ?_
              refine va_get (D := E.1) (ci := 5) (v := .ref a_one) (C := RX5) (T := TX5) (N := 11) hx hb hts iX5_says_X5 hown hK hP 0 rfl rfl 5 (by decide) (hts (.fieldLink RX5 41 "LeftIsAgreedOn" "one" "LLeftIsAgreedOn$Walker;") (List.mem_of_getElem? (i := 3) rfl)) (fun _ h9 => h9) rfl dX5_says_110 ?_
              refine lv_iconst (v := (1 : Int32)) hx hb dX5_says_113 (by decide) ?_
              obtain ⟨v8, hv8, h⟩ := bind_of h
              refine after_v X (run_V X (c_X4_step l E a_one a_now a_now_ponds a_now_kinds a_now_weights a_now_cells a_now_faces a_now_pledges (1 : Int32) v7 c_now c_now_ponds H.size v8 hv8) (cwV 1 hts gX5_says_X4_step rfl rfl rfl hV_X4_step ⟨(Nat.le_of_ble_eq_true rfl), (Nat.le_of_ble_eq_true rfl)⟩) hP hD hS [8, 1, 6] rfl rfl hl.1 (ci := 4) rfl rfl rfl (rest := []) rfl rfl (Nat.le_of_ble_eq_true rfl) dX5_says_114) hP hD hS [8, 1, 6] [0, 2, 3, 4, 5, 7, 9, 10, 11] [0, 10, 1, 2, 3, 4, 11, 5, 9, 6, 7, 8] rfl rfl rfl (by decide) rfl (ws1 := (W_X5_says E a_t a_now a_now_cells a_now_faces a_now_kinds a_now_pledges a_now_ponds a_now_weights a_one a_refusals a_shelves a_shelves_contents a_kept a_trial a_reader a_two a_search a_outs a_shelves_sizes a_shelves_elements c_t c_now c_now_cells c_now_faces c_now_kinds c_now_pledges c_now_ponds c_now_weights v8 c_refusals c_shelves_contents)) rfl (fun H locs hP hD hS => ?_)
              refine lv_aload_n hx hb dX5_says_117 rfl (lv_at hl 1 rfl) ?_
              refine va_get (D := E.1) (ci := 5) (v := .ref a_one) (C := RX5) (T := TX5) (N := 11) hx hb hts iX5_says_X5 hown hK hP 0 rfl rfl 5 (by decide) (hts (.fieldLink RX5 41 "LeftIsAgreedOn" "one" "LLeftIsAgreedOn$Walker;") (List.mem_of_getElem? (i := 3) rfl)) (fun _ h9 => h9) rfl dX5_says_118 ?_
              refine va_getN (D := E.1) (ci := 4) (v := .int (v8 5)) (C := RX4) (T := TX4) (N := 11) hx hb hts iX5_says_X4 hown hK hP 8 rfl rfl 5 (by decide) (va_Nw.use rfl (hN.1 _ (List.mem_of_getElem? (i := 2) rfl))) (fun _ h9 => h9) rfl dX5_says_121 ?_
              obtain rfl := Option.some.inj h
              exact ret_i X dX5_says_124 hP hD hS rfl
            · have h := if_t h hc88
              refine lv_aload_n hx hb dX5_says_91 rfl (lv_at hl 1 rfl) ?_
              refine va_get (D := E.1) (ci := 5) (v := .ref a_now) (C := RX5) (T := TX5) (N := 11) hx hb hts iX5_says_X5 hown hK hP 0 rfl rfl 0 (by decide) (hts (.fieldLink RX5 10 "LeftIsAgreedOn" "now" "LLeftIsAgreedOn$Island;") (List.mem_of_getElem? (i := 2) rfl)) (fun _ h9 => h9) rfl dX5_says_92 ?_
              refine va_getN (D := E.1) (ci := 0) (v := .ref a_now_weights) (C := RX0) (T := TX0) (N := 14) hx hb hts iX5_says_X0 hown hK hP 1 rfl rfl 10 (by decide) (va_Nw.use rfl (hN.1 _ (List.mem_of_getElem? (i := 1) rfl))) (fun _ h9 => h9) rfl dX5_says_95 ?_
              refine lv_iload_n hx hb dX5_says_98 rfl (lv_at hl 0 rfl) ?_
              obtain ⟨hz99, h⟩ := chk_of h
              refine ld_i X hP 7 rfl (inb.vp hz99) (v := (c_now_weights (v4).toNatClampNeg)) rfl dX5_says_99 ?_
              obtain rfl := Option.some.inj h
              exact ret_i X dX5_says_100 hP hD hS rfl
          · have h := if_t h hc77
            exact w_X5_says_b80 X a_t a_now a_now_cells a_now_faces a_now_kinds a_now_pledges a_now_ponds a_now_weights a_one a_refusals a_shelves a_shelves_contents a_kept a_trial a_reader a_two a_search a_outs a_shelves_sizes a_shelves_elements c_t c_now c_now_cells c_now_faces c_now_kinds c_now_pledges c_now_ponds c_now_weights c_shelves_contents res c_one c_refusals _ _ _ h hP hD hS (lv_sub hl [1] rfl)
      · have h := if_t h hc34
        refine lv_aload_n hx hb dX5_says_37 rfl (lv_at hl 0 rfl) ?_
        refine lv_bipush (v := (-4 : Int32)) hx hb dX5_says_38 (by decide) ?_
        obtain ⟨v9, hv9, h⟩ := bind_of h
        refine after_i X (run_V X (c_X5_refuse l E a_t a_refusals a_now a_kept a_trial a_reader a_shelves a_one a_two a_search a_outs (-4 : Int32) c_t c_refusals H.size v9 hv9) (cwV 1 hts gX5_says_X5_refuse rfl rfl rfl hV_X5_refuse ⟨(Nat.le_of_ble_eq_true rfl), (Nat.le_of_ble_eq_true rfl)⟩) hP hD hS [0, 9] rfl rfl hl.1 (ci := 5) rfl rfl rfl (rest := []) rfl rfl (Nat.le_of_ble_eq_true rfl) dX5_says_40) hP hD hS [0, 9] [1, 2, 3, 4, 5, 6, 7, 8, 10, 11] [10, 0, 1, 2, 3, 4, 5, 6, 7, 11, 8, 9] rfl rfl rfl (by decide) rfl (ws1 := (W_X5_says E a_t a_now a_now_cells a_now_faces a_now_kinds a_now_pledges a_now_ponds a_now_weights a_one a_refusals a_shelves a_shelves_contents a_kept a_trial a_reader a_two a_search a_outs a_shelves_sizes a_shelves_elements c_t c_now c_now_cells c_now_faces c_now_kinds c_now_pledges c_now_ponds c_now_weights c_one (v9.2) c_shelves_contents)) rfl (fun H locs hP hD hS => ?_)
        obtain rfl := Option.some.inj h
        exact ret_i X dX5_says_43 hP hD hS rfl
    · have h := if_t h hc15
      exact w_X5_says_b18 X a_t a_now a_now_cells a_now_faces a_now_kinds a_now_pledges a_now_ponds a_now_weights a_one a_refusals a_shelves a_shelves_contents a_kept a_trial a_reader a_two a_search a_outs a_shelves_sizes a_shelves_elements c_t c_now c_now_cells c_now_faces c_now_kinds c_now_pledges c_now_ponds c_now_weights c_shelves_contents res c_one c_refusals _ _ _ h hP hD hS (lv_sub hl [0] rfl)
end
set_option maxRecDepth 100000 in
theorem c_X5_says (l : Launch) (E : Env0) (a_t : Nat) (a_now : Nat) (a_now_cells : Nat) (a_now_faces : Nat) (a_now_kinds : Nat) (a_now_pledges : Nat) (a_now_ponds : Nat) (a_now_weights : Nat) (a_one : Nat) (a_refusals : Nat) (a_shelves : Nat) (a_shelves_contents : Nat) (a_kept : Nat) (a_trial : Nat) (a_reader : Nat) (a_two : Nat) (a_search : Nat) (a_outs : Nat) (a_shelves_sizes : Nat) (a_shelves_elements : Nat) (l1 : Int32) (l2 : Int32) (c_t : Nat → Int32) (c_now : Nat → Int32) (c_now_cells : Nat → Int32) (c_now_faces : Nat → Int32) (c_now_kinds : Nat → Int32) (c_now_pledges : Nat → Int32) (c_now_ponds : Nat → Int32) (c_now_weights : Nat → Int32) (c_one : Nat → Int32) (c_refusals : Nat → Int32) (c_shelves_contents : Nat → Int32) (sz : Nat) (res : Int32 × (Nat → Int32) × (Nat → Int32)) (h : f_X5_says l1 l2 c_t c_now c_now_cells c_now_faces c_now_kinds c_now_pledges c_now_ponds c_now_weights c_one c_refusals c_shelves_contents = some res) : Met l yX5_says wsX5_says r_X5_says (cPre E [.ref a_t, .int l1, .int l2] (W_X5_says E a_t a_now a_now_cells a_now_faces a_now_kinds a_now_pledges a_now_ponds a_now_weights a_one a_refusals a_shelves a_shelves_contents a_kept a_trial a_reader a_two a_search a_outs a_shelves_sizes a_shelves_elements c_t c_now c_now_cells c_now_faces c_now_kinds c_now_pledges c_now_ponds c_now_weights c_one c_refusals c_shelves_contents) sz) (qI E (va_A (W_X5_says E a_t a_now a_now_cells a_now_faces a_now_kinds a_now_pledges a_now_ponds a_now_weights a_one a_refusals a_shelves a_shelves_contents a_kept a_trial a_reader a_two a_search a_outs a_shelves_sizes a_shelves_elements c_t c_now c_now_cells c_now_faces c_now_kinds c_now_pledges c_now_ponds c_now_weights c_one c_refusals c_shelves_contents) sz) (res.1) (W_X5_says E a_t a_now a_now_cells a_now_faces a_now_kinds a_now_pledges a_now_ponds a_now_weights a_one a_refusals a_shelves a_shelves_contents a_kept a_trial a_reader a_two a_search a_outs a_shelves_sizes a_shelves_elements c_t c_now c_now_cells c_now_faces c_now_kinds c_now_pledges c_now_ponds c_now_weights (res.2.1) (res.2.2) c_shelves_contents)) 0 0 (va_A (W_X5_says E a_t a_now a_now_cells a_now_faces a_now_kinds a_now_pledges a_now_ponds a_now_weights a_one a_refusals a_shelves a_shelves_contents a_kept a_trial a_reader a_two a_search a_outs a_shelves_sizes a_shelves_elements c_t c_now c_now_cells c_now_faces c_now_kinds c_now_pledges c_now_ponds c_now_weights c_one c_refusals c_shelves_contents) sz) :=
  met_of (Qc := fun A => qI E A (res.1) (W_X5_says E a_t a_now a_now_cells a_now_faces a_now_kinds a_now_pledges a_now_ponds a_now_weights a_one a_refusals a_shelves a_shelves_contents a_kept a_trial a_reader a_two a_search a_outs a_shelves_sizes a_shelves_elements c_t c_now c_now_cells c_now_faces c_now_kinds c_now_pledges c_now_ponds c_now_weights (res.2.1) (res.2.2) c_shelves_contents)) (by decide) rfl (Nat.le_of_ble_eq_true rfl) (fun p e s m args below meth c X hP hD hS ls hl => w_X5_says X a_t a_now a_now_cells a_now_faces a_now_kinds a_now_pledges a_now_ponds a_now_weights a_one a_refusals a_shelves a_shelves_contents a_kept a_trial a_reader a_two a_search a_outs a_shelves_sizes a_shelves_elements c_t c_now c_now_cells c_now_faces c_now_kinds c_now_pledges c_now_ponds c_now_weights c_shelves_contents res c_one c_refusals l1 l2 ls _ _ h hP hD hS hl)
-- ===== X5_side
abbrev W_X5_side (E : Env0) (a_t : Nat) (a_now : Nat) (a_refusals : Nat) (a_kept : Nat) (a_trial : Nat) (a_reader : Nat) (a_shelves : Nat) (a_one : Nat) (a_two : Nat) (a_search : Nat) (a_outs : Nat) (a_now_ponds : Nat) (a_now_kinds : Nat) (a_now_weights : Nat) (a_now_cells : Nat) (a_now_faces : Nat) (a_now_pledges : Nat) (c_t : Nat → Int32) (c_now : Nat → Int32) (c_refusals : Nat → Int32) : va_W := [(a_t, .inr (5, [.ref a_now, .ref a_kept, .ref a_trial, .ref a_reader, .ref a_shelves, .ref a_one, .ref a_two, .ref a_search, .ref a_outs, .ref a_refusals, .int (c_t 10)])), (a_now, .inr (0, [.int (c_now 0), .int (c_now 1), .int (c_now 2), .int (c_now 3), .int (c_now 4), .int (c_now 5), .int (c_now 6), .int (c_now 7), .ref a_now_ponds, .ref a_now_kinds, .ref a_now_weights, .ref a_now_cells, .ref a_now_faces, .ref a_now_pledges])), (a_refusals, .inl (eI E, 5, .inl c_refusals))]
abbrev r_X5_side : Room := { frames := 2, cells := 0, slots := 0, locals := 43 }
theorem hd_X5_side : yX5_side.cls ≠ "java/lang/invoke/MethodHandle" ∧ yX5_side.cls ≠ "java/lang/invoke/VarHandle" ∧ (parseMethodDescriptor yX5_side.desc).map (fun d => d.parameters.length) = some 1 := by decide +kernel
theorem hV_X5_side : yX5_side.cls = RX5 ∧ yX5_side.cls ≠ "java/lang/invoke/MethodHandle" ∧ yX5_side.cls ≠ "java/lang/invoke/VarHandle" ∧ (parseMethodDescriptor yX5_side.desc).map (fun d => d.parameters.length) = some 1 := ⟨rfl, hd_X5_side⟩
theorem iX5_side_X0 : ∀ w ∈ wsX00, w ∈ wsX5_side := fun _ h => List.mem_cons_of_mem _ (List.mem_append_right _ (h))
theorem iX5_side_X5 : ∀ w ∈ wsX50, w ∈ wsX5_side := fun _ h => List.mem_cons_of_mem _ (List.mem_append_left _ (List.mem_append_right _ (h)))
section
variable {p : Program} {l : Launch} {e : Env} {s : State} {m : MethodId} {args : Array Value} {below : List Frame} {meth : Method} {c : Code} {E : Env0} {A : Nat → Prop}
set_option maxRecDepth 100000 in
set_option maxHeartbeats 4000000 in
theorem w_X5_side (X : Ctx p m meth c cX5_side 3 ((some .int)) s args wsX5_side RX5 E A) (a_t : Nat) (a_now : Nat) (a_refusals : Nat) (a_kept : Nat) (a_trial : Nat) (a_reader : Nat) (a_shelves : Nat) (a_one : Nat) (a_two : Nat) (a_search : Nat) (a_outs : Nat) (a_now_ponds : Nat) (a_now_kinds : Nat) (a_now_weights : Nat) (a_now_cells : Nat) (a_now_faces : Nat) (a_now_pledges : Nat) (c_t : Nat → Int32) (res : Int32 × (Nat → Int32) × (Nat → Int32)) (c_now : Nat → Int32) (c_refusals : Nat → Int32) (l1 : Int32) (ls : Array Slot) (H : Heap) (locs : List Loc) (h : f_X5_side l1 c_t c_now c_refusals = some res) (hP : va_P E.1 vwCl (W_X5_side E a_t a_now a_refusals a_kept a_trial a_reader a_shelves a_one a_two a_search a_outs a_now_ponds a_now_kinds a_now_weights a_now_cells a_now_faces a_now_pledges c_t c_now c_refusals) H) (hD : va_D A (W_X5_side E a_t a_now a_refusals a_kept a_trial a_reader a_shelves a_one a_two a_search a_outs a_now_ponds a_now_kinds a_now_weights a_now_cells a_now_faces a_now_pledges c_t c_now c_refusals)) (hS : va_S A s.heap H locs) (hl : lv_has ls 3 [(0, .ref a_t), (1, .int l1)]) : W p l e r_X5_side s m args below meth c H locs 0 0 (MQ below (qI E A (res.1) (W_X5_side E a_t a_now a_refusals a_kept a_trial a_reader a_shelves a_one a_two a_search a_outs a_now_ponds a_now_kinds a_now_weights a_now_cells a_now_faces a_now_pledges c_t (res.2.1) (res.2.2))) args s 0 0 A) (F0 m 0 ls []) := by
  obtain ⟨hx, hb, hml, hr, hlk, hown, hts, hG, hA⟩ := id X
  have hK := hG.1
  have hN := hG.2.1
  unfold f_X5_side at h
  refine lv_aload_n hx hb dX5_side_0 rfl (lv_at hl 0 rfl) ?_
  refine va_get (D := E.1) (ci := 5) (v := .ref a_now) (C := RX5) (T := TX5) (N := 11) hx hb hts iX5_side_X5 hown hK hP 0 rfl rfl 0 (by decide) (hts (.fieldLink RX5 10 "LeftIsAgreedOn" "now" "LLeftIsAgreedOn$Island;") (List.mem_of_getElem? (i := 1) rfl)) (fun _ h9 => h9) rfl dX5_side_1 ?_
  refine lv_iload_n hx hb dX5_side_4 rfl (lv_at hl 1 rfl) ?_
  obtain ⟨v1, hv1, h⟩ := bind_of h
  refine after_i X (run_V X (c_X0_maySide l E a_now a_now_ponds a_now_kinds a_now_weights a_now_cells a_now_faces a_now_pledges l1 c_now H.size v1 hv1) (cwV 1 hts gX5_side_X0_maySide rfl rfl rfl hV_X0_maySide ⟨(Nat.le_of_ble_eq_true rfl), (Nat.le_of_ble_eq_true rfl)⟩) hP hD hS [1] rfl rfl hl.1 (ci := 0) rfl rfl rfl (rest := []) rfl rfl (Nat.le_of_ble_eq_true rfl) dX5_side_5) hP hD hS [1] [0, 2] [0, 2, 1] rfl rfl rfl (by decide) rfl (ws1 := (W_X5_side E a_t a_now a_refusals a_kept a_trial a_reader a_shelves a_one a_two a_search a_outs a_now_ponds a_now_kinds a_now_weights a_now_cells a_now_faces a_now_pledges c_t c_now c_refusals)) rfl (fun H locs hP hD hS => ?_)
  refine lv_if_ne (tgt := 18) hx hb dX5_side_8 (by decide) (fun hc8 => ?_) (fun hc8 => ?_)
  · have h := if_f h hc8
    refine lv_aload_n hx hb dX5_side_18 rfl (lv_at hl 0 rfl) ?_
    refine va_get (D := E.1) (ci := 5) (v := .ref a_now) (C := RX5) (T := TX5) (N := 11) hx hb hts iX5_side_X5 hown hK hP 0 rfl rfl 0 (by decide) (hts (.fieldLink RX5 10 "LeftIsAgreedOn" "now" "LLeftIsAgreedOn$Island;") (List.mem_of_getElem? (i := 1) rfl)) (fun _ h9 => h9) rfl dX5_side_19 ?_
    refine va_getN (D := E.1) (ci := 0) (v := .int (c_now 0)) (C := RX0) (T := TX0) (N := 14) hx hb hts iX5_side_X0 hown hK hP 1 rfl rfl 0 (by decide) (va_Nw.use rfl (hN.1 _ (List.mem_of_getElem? (i := 3) rfl))) (fun _ h9 => h9) rfl dX5_side_22 ?_
    refine lv_istore_n (lv' := [(2, .int (c_now 0)), (0, .ref a_t), (1, .int l1)]) hx hb dX5_side_25 rfl hl (by decide) rfl (fun ls hl => ?_)
    refine lv_aload_n hx hb dX5_side_26 rfl (lv_at hl 1 rfl) ?_
    refine va_get (D := E.1) (ci := 5) (v := .ref a_now) (C := RX5) (T := TX5) (N := 11) hx hb hts iX5_side_X5 hown hK hP 0 rfl rfl 0 (by decide) (hts (.fieldLink RX5 10 "LeftIsAgreedOn" "now" "LLeftIsAgreedOn$Island;") (List.mem_of_getElem? (i := 1) rfl)) (fun _ h9 => h9) rfl dX5_side_27 ?_
    refine lv_iload_n hx hb dX5_side_30 rfl (lv_at hl 2 rfl) ?_
    refine va_putN (D := E.1) (ci := 0) (v := .int l1) (ty := .int) (C := RX0) (T := TX0) (N := 14) hx hb hts iX5_side_X0 tyX0 tyX0_ok nmX0 hown hK hP hD hS 1 rfl rfl 0 (by decide) (va_Nw.use rfl (hN.1 _ (List.mem_of_getElem? (i := 3) rfl))) (fun _ h9 => h9) rfl (tyX0_ok 0 (by decide)) rfl rfl (Nat.le_of_ble_eq_true rfl) dX5_side_31 (fun H locs hP hD hS => ?_)
    have hP : va_P E.1 vwCl (W_X5_side E a_t a_now a_refusals a_kept a_trial a_reader a_shelves a_one a_two a_search a_outs a_now_ponds a_now_kinds a_now_weights a_now_cells a_now_faces a_now_pledges c_t (upd c_now 0 l1) c_refusals) H := hP
    have hD : va_D A (W_X5_side E a_t a_now a_refusals a_kept a_trial a_reader a_shelves a_one a_two a_search a_outs a_now_ponds a_now_kinds a_now_weights a_now_cells a_now_faces a_now_pledges c_t (upd c_now 0 l1) c_refusals) := hD
    refine lv_iload_n hx hb dX5_side_34 rfl (lv_at hl 0 rfl) ?_
    obtain rfl := Option.some.inj h
    exact ret_i X dX5_side_35 hP hD hS rfl
  · have h := if_t h hc8
    refine lv_aload_n hx hb dX5_side_11 rfl (lv_at hl 0 rfl) ?_
    refine lv_bipush (v := (-2 : Int32)) hx hb dX5_side_12 (by decide) ?_
    obtain ⟨v2, hv2, h⟩ := bind_of h
    refine after_i X (run_V X (c_X5_refuse l E a_t a_refusals a_now a_kept a_trial a_reader a_shelves a_one a_two a_search a_outs (-2 : Int32) c_t c_refusals H.size v2 hv2) (cwV 1 hts gX5_side_X5_refuse rfl rfl rfl hV_X5_refuse ⟨(Nat.le_of_ble_eq_true rfl), (Nat.le_of_ble_eq_true rfl)⟩) hP hD hS [0, 2] rfl rfl hl.1 (ci := 5) rfl rfl rfl (rest := []) rfl rfl (Nat.le_of_ble_eq_true rfl) dX5_side_14) hP hD hS [0, 2] [1] [1, 0, 2] rfl rfl rfl (by decide) rfl (ws1 := (W_X5_side E a_t a_now a_refusals a_kept a_trial a_reader a_shelves a_one a_two a_search a_outs a_now_ponds a_now_kinds a_now_weights a_now_cells a_now_faces a_now_pledges c_t c_now (v2.2))) rfl (fun H locs hP hD hS => ?_)
    obtain rfl := Option.some.inj h
    exact ret_i X dX5_side_17 hP hD hS rfl
end
set_option maxRecDepth 100000 in
theorem c_X5_side (l : Launch) (E : Env0) (a_t : Nat) (a_now : Nat) (a_refusals : Nat) (a_kept : Nat) (a_trial : Nat) (a_reader : Nat) (a_shelves : Nat) (a_one : Nat) (a_two : Nat) (a_search : Nat) (a_outs : Nat) (a_now_ponds : Nat) (a_now_kinds : Nat) (a_now_weights : Nat) (a_now_cells : Nat) (a_now_faces : Nat) (a_now_pledges : Nat) (l1 : Int32) (c_t : Nat → Int32) (c_now : Nat → Int32) (c_refusals : Nat → Int32) (sz : Nat) (res : Int32 × (Nat → Int32) × (Nat → Int32)) (h : f_X5_side l1 c_t c_now c_refusals = some res) : Met l yX5_side wsX5_side r_X5_side (cPre E [.ref a_t, .int l1] (W_X5_side E a_t a_now a_refusals a_kept a_trial a_reader a_shelves a_one a_two a_search a_outs a_now_ponds a_now_kinds a_now_weights a_now_cells a_now_faces a_now_pledges c_t c_now c_refusals) sz) (qI E (va_A (W_X5_side E a_t a_now a_refusals a_kept a_trial a_reader a_shelves a_one a_two a_search a_outs a_now_ponds a_now_kinds a_now_weights a_now_cells a_now_faces a_now_pledges c_t c_now c_refusals) sz) (res.1) (W_X5_side E a_t a_now a_refusals a_kept a_trial a_reader a_shelves a_one a_two a_search a_outs a_now_ponds a_now_kinds a_now_weights a_now_cells a_now_faces a_now_pledges c_t (res.2.1) (res.2.2))) 0 0 (va_A (W_X5_side E a_t a_now a_refusals a_kept a_trial a_reader a_shelves a_one a_two a_search a_outs a_now_ponds a_now_kinds a_now_weights a_now_cells a_now_faces a_now_pledges c_t c_now c_refusals) sz) :=
  met_of (Qc := fun A => qI E A (res.1) (W_X5_side E a_t a_now a_refusals a_kept a_trial a_reader a_shelves a_one a_two a_search a_outs a_now_ponds a_now_kinds a_now_weights a_now_cells a_now_faces a_now_pledges c_t (res.2.1) (res.2.2))) (by decide) rfl (Nat.le_of_ble_eq_true rfl) (fun p e s m args below meth c X hP hD hS ls hl => w_X5_side X a_t a_now a_refusals a_kept a_trial a_reader a_shelves a_one a_two a_search a_outs a_now_ponds a_now_kinds a_now_weights a_now_cells a_now_faces a_now_pledges c_t res c_now c_refusals l1 ls _ _ h hP hD hS hl)
-- ===== X5_pond
abbrev W_X5_pond (E : Env0) (a_t : Nat) (a_now : Nat) (a_now_cells : Nat) (a_now_ponds : Nat) (a_refusals : Nat) (a_kept : Nat) (a_trial : Nat) (a_reader : Nat) (a_shelves : Nat) (a_one : Nat) (a_two : Nat) (a_search : Nat) (a_outs : Nat) (a_now_kinds : Nat) (a_now_weights : Nat) (a_now_faces : Nat) (a_now_pledges : Nat) (c_t : Nat → Int32) (c_now : Nat → Int32) (c_now_cells : Nat → Int32) (c_now_ponds : Nat → Int32) (c_refusals : Nat → Int32) : va_W := [(a_t, .inr (5, [.ref a_now, .ref a_kept, .ref a_trial, .ref a_reader, .ref a_shelves, .ref a_one, .ref a_two, .ref a_search, .ref a_outs, .ref a_refusals, .int (c_t 10)])), (a_now, .inr (0, [.int (c_now 0), .int (c_now 1), .int (c_now 2), .int (c_now 3), .int (c_now 4), .int (c_now 5), .int (c_now 6), .int (c_now 7), .ref a_now_ponds, .ref a_now_kinds, .ref a_now_weights, .ref a_now_cells, .ref a_now_faces, .ref a_now_pledges])), (a_now_cells, .inl (eI E, 8, .inl c_now_cells)), (a_now_ponds, .inl (eZ E, 70, .inl c_now_ponds)), (a_refusals, .inl (eI E, 5, .inl c_refusals))]
abbrev r_X5_pond : Room := { frames := 2, cells := 0, slots := 0, locals := 43 }
theorem hd_X5_pond : yX5_pond.cls ≠ "java/lang/invoke/MethodHandle" ∧ yX5_pond.cls ≠ "java/lang/invoke/VarHandle" ∧ (parseMethodDescriptor yX5_pond.desc).map (fun d => d.parameters.length) = some 2 := by decide +kernel
theorem hV_X5_pond : yX5_pond.cls = RX5 ∧ yX5_pond.cls ≠ "java/lang/invoke/MethodHandle" ∧ yX5_pond.cls ≠ "java/lang/invoke/VarHandle" ∧ (parseMethodDescriptor yX5_pond.desc).map (fun d => d.parameters.length) = some 2 := ⟨rfl, hd_X5_pond⟩
theorem iX5_pond_X0 : ∀ w ∈ wsX00, w ∈ wsX5_pond := fun _ h => List.mem_cons_of_mem _ (List.mem_append_right _ (h))
theorem iX5_pond_X5 : ∀ w ∈ wsX50, w ∈ wsX5_pond := fun _ h => List.mem_cons_of_mem _ (List.mem_append_left _ (List.mem_append_right _ (h)))
section
variable {p : Program} {l : Launch} {e : Env} {s : State} {m : MethodId} {args : Array Value} {below : List Frame} {meth : Method} {c : Code} {E : Env0} {A : Nat → Prop}
set_option maxRecDepth 100000 in
set_option maxHeartbeats 4000000 in
theorem w_X5_pond_b40 (X : Ctx p m meth c cX5_pond 4 ((some .int)) s args wsX5_pond RX5 E A) (a_t : Nat) (a_now : Nat) (a_now_cells : Nat) (a_now_ponds : Nat) (a_refusals : Nat) (a_kept : Nat) (a_trial : Nat) (a_reader : Nat) (a_shelves : Nat) (a_one : Nat) (a_two : Nat) (a_search : Nat) (a_outs : Nat) (a_now_kinds : Nat) (a_now_weights : Nat) (a_now_faces : Nat) (a_now_pledges : Nat) (c_t : Nat → Int32) (c_now : Nat → Int32) (c_now_cells : Nat → Int32) (res : Int32 × (Nat → Int32) × (Nat → Int32)) (c_now_ponds : Nat → Int32) (c_refusals : Nat → Int32) (l1 : Int32) (l2 : Int32) (ls : Array Slot) (H : Heap) (locs : List Loc) (h : f_X5_pond_b40 c_t c_now c_now_cells c_now_ponds c_refusals l1 l2 = some res) (hP : va_P E.1 vwCl (W_X5_pond E a_t a_now a_now_cells a_now_ponds a_refusals a_kept a_trial a_reader a_shelves a_one a_two a_search a_outs a_now_kinds a_now_weights a_now_faces a_now_pledges c_t c_now c_now_cells c_now_ponds c_refusals) H) (hD : va_D A (W_X5_pond E a_t a_now a_now_cells a_now_ponds a_refusals a_kept a_trial a_reader a_shelves a_one a_two a_search a_outs a_now_kinds a_now_weights a_now_faces a_now_pledges c_t c_now c_now_cells c_now_ponds c_refusals)) (hS : va_S A s.heap H locs) (hl : lv_has ls 4 [(0, .ref a_t), (1, .int l1), (2, .int l2)]) : W p l e r_X5_pond s m args below meth c H locs 0 0 (MQ below (qI E A (res.1) (W_X5_pond E a_t a_now a_now_cells a_now_ponds a_refusals a_kept a_trial a_reader a_shelves a_one a_two a_search a_outs a_now_kinds a_now_weights a_now_faces a_now_pledges c_t c_now c_now_cells (res.2.1) (res.2.2))) args s 0 0 A) (F0 m 40 ls []) := by
  obtain ⟨hx, hb, hml, hr, hlk, hown, hts, hG, hA⟩ := id X
  have hK := hG.1
  have hN := hG.2.1
  unfold f_X5_pond_b40 at h
  refine lv_aload_n hx hb dX5_pond_40 rfl (lv_at hl 0 rfl) ?_
  refine va_get (D := E.1) (ci := 5) (v := .ref a_now) (C := RX5) (T := TX5) (N := 11) hx hb hts iX5_pond_X5 hown hK hP 0 rfl rfl 0 (by decide) (hts (.fieldLink RX5 10 "LeftIsAgreedOn" "now" "LLeftIsAgreedOn$Island;") (List.mem_of_getElem? (i := 1) rfl)) (fun _ h9 => h9) rfl dX5_pond_41 ?_
  refine lv_iload_n hx hb dX5_pond_44 rfl (lv_at hl 1 rfl) ?_
  obtain ⟨v1, hv1, h⟩ := bind_of h
  refine after_i X (run_V X (c_X0_hasPond l E a_now a_now_ponds a_now_kinds a_now_weights a_now_cells a_now_faces a_now_pledges l1 c_now c_now_ponds H.size v1 hv1) (cwV 1 hts gX5_pond_X0_hasPond rfl rfl rfl hV_X0_hasPond ⟨(Nat.le_of_ble_eq_true rfl), (Nat.le_of_ble_eq_true rfl)⟩) hP hD hS [1, 3] rfl rfl hl.1 (ci := 0) rfl rfl rfl (rest := []) rfl rfl (Nat.le_of_ble_eq_true rfl) dX5_pond_45) hP hD hS [1, 3] [0, 2, 4] [0, 3, 1, 4, 2] rfl rfl rfl (by decide) rfl (ws1 := (W_X5_pond E a_t a_now a_now_cells a_now_ponds a_refusals a_kept a_trial a_reader a_shelves a_one a_two a_search a_outs a_now_kinds a_now_weights a_now_faces a_now_pledges c_t c_now c_now_cells c_now_ponds c_refusals)) rfl (fun H locs hP hD hS => ?_)
  obtain ⟨v2, hv2, h⟩ := bind_of h
  refine after_i X (run_S X (c_X5_asNumber l E v1 H.size v2 hv2) (va_cwS 1 hts gX5_pond_X5_asNumber rfl rfl rfl hd_X5_asNumber ⟨(Nat.le_of_ble_eq_true rfl), (Nat.le_of_ble_eq_true rfl)⟩) hP hD hS [] rfl rfl hl.1 (rest := []) rfl rfl (Nat.le_of_ble_eq_true rfl) dX5_pond_48) hP hD hS [] [0, 1, 2, 3, 4] [0, 1, 2, 3, 4] rfl rfl rfl (by decide) rfl (ws1 := (W_X5_pond E a_t a_now a_now_cells a_now_ponds a_refusals a_kept a_trial a_reader a_shelves a_one a_two a_search a_outs a_now_kinds a_now_weights a_now_faces a_now_pledges c_t c_now c_now_cells c_now_ponds c_refusals)) rfl (fun H locs hP hD hS => ?_)
  refine lv_istore_n (lv' := [(3, .int v2), (0, .ref a_t), (1, .int l1), (2, .int l2)]) hx hb dX5_pond_51 rfl hl (by decide) rfl (fun ls hl => ?_)
  refine lv_aload_n hx hb dX5_pond_52 rfl (lv_at hl 1 rfl) ?_
  refine va_get (D := E.1) (ci := 5) (v := .ref a_now) (C := RX5) (T := TX5) (N := 11) hx hb hts iX5_pond_X5 hown hK hP 0 rfl rfl 0 (by decide) (hts (.fieldLink RX5 10 "LeftIsAgreedOn" "now" "LLeftIsAgreedOn$Island;") (List.mem_of_getElem? (i := 1) rfl)) (fun _ h9 => h9) rfl dX5_pond_53 ?_
  refine va_getN (D := E.1) (ci := 0) (v := .ref a_now_ponds) (C := RX0) (T := TX0) (N := 14) hx hb hts iX5_pond_X0 hown hK hP 1 rfl rfl 8 (by decide) (va_Nw.use rfl (hN.1 _ (List.mem_of_getElem? (i := 4) rfl))) (fun _ h9 => h9) rfl dX5_pond_56 ?_
  refine lv_iload_n hx hb dX5_pond_59 rfl (lv_at hl 2 rfl) ?_
  refine lv_iload_n hx hb dX5_pond_60 rfl (lv_at hl 3 rfl) ?_
  obtain ⟨hz61, h⟩ := chk_of h
  refine st_z X hP hD hS 3 rfl (inb.vp hz61) (k := (l1).toNatClampNeg) rfl (ws1 := (W_X5_pond E a_t a_now a_now_cells a_now_ponds a_refusals a_kept a_trial a_reader a_shelves a_one a_two a_search a_outs a_now_kinds a_now_weights a_now_faces a_now_pledges c_t c_now c_now_cells (upd c_now_ponds ((l1).toNatClampNeg) (vp_nar .boolean l2)) c_refusals)) rfl dX5_pond_61 (fun H locs hP hD hS => ?_)
  refine lv_iload_n hx hb dX5_pond_62 rfl (lv_at hl 0 rfl) ?_
  obtain rfl := Option.some.inj h
  exact ret_i X dX5_pond_63 hP hD hS rfl
set_option maxRecDepth 100000 in
set_option maxHeartbeats 4000000 in
theorem w_X5_pond (X : Ctx p m meth c cX5_pond 4 ((some .int)) s args wsX5_pond RX5 E A) (a_t : Nat) (a_now : Nat) (a_now_cells : Nat) (a_now_ponds : Nat) (a_refusals : Nat) (a_kept : Nat) (a_trial : Nat) (a_reader : Nat) (a_shelves : Nat) (a_one : Nat) (a_two : Nat) (a_search : Nat) (a_outs : Nat) (a_now_kinds : Nat) (a_now_weights : Nat) (a_now_faces : Nat) (a_now_pledges : Nat) (c_t : Nat → Int32) (c_now : Nat → Int32) (c_now_cells : Nat → Int32) (res : Int32 × (Nat → Int32) × (Nat → Int32)) (c_now_ponds : Nat → Int32) (c_refusals : Nat → Int32) (l1 : Int32) (l2 : Int32) (ls : Array Slot) (H : Heap) (locs : List Loc) (h : f_X5_pond l1 l2 c_t c_now c_now_cells c_now_ponds c_refusals = some res) (hP : va_P E.1 vwCl (W_X5_pond E a_t a_now a_now_cells a_now_ponds a_refusals a_kept a_trial a_reader a_shelves a_one a_two a_search a_outs a_now_kinds a_now_weights a_now_faces a_now_pledges c_t c_now c_now_cells c_now_ponds c_refusals) H) (hD : va_D A (W_X5_pond E a_t a_now a_now_cells a_now_ponds a_refusals a_kept a_trial a_reader a_shelves a_one a_two a_search a_outs a_now_kinds a_now_weights a_now_faces a_now_pledges c_t c_now c_now_cells c_now_ponds c_refusals)) (hS : va_S A s.heap H locs) (hl : lv_has ls 4 [(0, .ref a_t), (1, .int l1), (2, .int l2)]) : W p l e r_X5_pond s m args below meth c H locs 0 0 (MQ below (qI E A (res.1) (W_X5_pond E a_t a_now a_now_cells a_now_ponds a_refusals a_kept a_trial a_reader a_shelves a_one a_two a_search a_outs a_now_kinds a_now_weights a_now_faces a_now_pledges c_t c_now c_now_cells (res.2.1) (res.2.2))) args s 0 0 A) (F0 m 0 ls []) := by
  obtain ⟨hx, hb, hml, hr, hlk, hown, hts, hG, hA⟩ := id X
  have hK := hG.1
  have hN := hG.2.1
  unfold f_X5_pond at h
  refine lv_aload_n hx hb dX5_pond_0 rfl (lv_at hl 0 rfl) ?_
  refine va_get (D := E.1) (ci := 5) (v := .ref a_now) (C := RX5) (T := TX5) (N := 11) hx hb hts iX5_pond_X5 hown hK hP 0 rfl rfl 0 (by decide) (hts (.fieldLink RX5 10 "LeftIsAgreedOn" "now" "LLeftIsAgreedOn$Island;") (List.mem_of_getElem? (i := 1) rfl)) (fun _ h9 => h9) rfl dX5_pond_1 ?_
  refine lv_iload_n hx hb dX5_pond_4 rfl (lv_at hl 1 rfl) ?_
  obtain ⟨v1, hv1, h⟩ := bind_of h
  refine after_i X (run_V X (c_X0_isCell l E a_now a_now_ponds a_now_kinds a_now_weights a_now_cells a_now_faces a_now_pledges l1 c_now H.size v1 hv1) (cwV 1 hts gX5_pond_X0_isCell rfl rfl rfl hV_X0_isCell ⟨(Nat.le_of_ble_eq_true rfl), (Nat.le_of_ble_eq_true rfl)⟩) hP hD hS [1] rfl rfl hl.1 (ci := 0) rfl rfl rfl (rest := []) rfl rfl (Nat.le_of_ble_eq_true rfl) dX5_pond_5) hP hD hS [1] [0, 2, 3, 4] [0, 4, 1, 2, 3] rfl rfl rfl (by decide) rfl (ws1 := (W_X5_pond E a_t a_now a_now_cells a_now_ponds a_refusals a_kept a_trial a_reader a_shelves a_one a_two a_search a_outs a_now_kinds a_now_weights a_now_faces a_now_pledges c_t c_now c_now_cells c_now_ponds c_refusals)) rfl (fun H locs hP hD hS => ?_)
  refine lv_if_ne (tgt := 18) hx hb dX5_pond_8 (by decide) (fun hc8 => ?_) (fun hc8 => ?_)
  · have h := if_f h hc8
    refine lv_iload_n hx hb dX5_pond_18 rfl (lv_at hl 2 rfl) ?_
    refine lv_if_eq (tgt := 40) hx hb dX5_pond_19 (by decide) (fun hc19 => ?_) (fun hc19 => ?_)
    · have h := if_t h hc19
      exact w_X5_pond_b40 X a_t a_now a_now_cells a_now_ponds a_refusals a_kept a_trial a_reader a_shelves a_one a_two a_search a_outs a_now_kinds a_now_weights a_now_faces a_now_pledges c_t c_now c_now_cells res c_now_ponds c_refusals l1 l2 _ _ _ h hP hD hS (lv_sub hl [0, 1, 2] rfl)
    · have h := if_f h hc19
      refine lv_aload_n hx hb dX5_pond_22 rfl (lv_at hl 0 rfl) ?_
      refine va_get (D := E.1) (ci := 5) (v := .ref a_now) (C := RX5) (T := TX5) (N := 11) hx hb hts iX5_pond_X5 hown hK hP 0 rfl rfl 0 (by decide) (hts (.fieldLink RX5 10 "LeftIsAgreedOn" "now" "LLeftIsAgreedOn$Island;") (List.mem_of_getElem? (i := 1) rfl)) (fun _ h9 => h9) rfl dX5_pond_23 ?_
      refine lv_iload_n hx hb dX5_pond_26 rfl (lv_at hl 1 rfl) ?_
      obtain ⟨v2, hv2, h⟩ := bind_of h
      refine after_i X (run_V X (c_X0_hasSomebody l E a_now a_now_cells a_now_ponds a_now_kinds a_now_weights a_now_faces a_now_pledges l1 c_now c_now_cells H.size v2 hv2) (cwV 1 hts gX5_pond_X0_hasSomebody rfl rfl rfl hV_X0_hasSomebody ⟨(Nat.le_of_ble_eq_true rfl), (Nat.le_of_ble_eq_true rfl)⟩) hP hD hS [1, 2] rfl rfl hl.1 (ci := 0) rfl rfl rfl (rest := []) rfl rfl (Nat.le_of_ble_eq_true rfl) dX5_pond_27) hP hD hS [1, 2] [0, 3, 4] [0, 3, 4, 1, 2] rfl rfl rfl (by decide) rfl (ws1 := (W_X5_pond E a_t a_now a_now_cells a_now_ponds a_refusals a_kept a_trial a_reader a_shelves a_one a_two a_search a_outs a_now_kinds a_now_weights a_now_faces a_now_pledges c_t c_now c_now_cells c_now_ponds c_refusals)) rfl (fun H locs hP hD hS => ?_)
      refine lv_if_eq (tgt := 40) hx hb dX5_pond_30 (by decide) (fun hc30 => ?_) (fun hc30 => ?_)
      · have h := if_t h hc30
        exact w_X5_pond_b40 X a_t a_now a_now_cells a_now_ponds a_refusals a_kept a_trial a_reader a_shelves a_one a_two a_search a_outs a_now_kinds a_now_weights a_now_faces a_now_pledges c_t c_now c_now_cells res c_now_ponds c_refusals l1 l2 _ _ _ h hP hD hS (lv_sub hl [0, 1, 2] rfl)
      · have h := if_f h hc30
        refine lv_aload_n hx hb dX5_pond_33 rfl (lv_at hl 0 rfl) ?_
        refine lv_bipush (v := (-5 : Int32)) hx hb dX5_pond_34 (by decide) ?_
        obtain ⟨v3, hv3, h⟩ := bind_of h
        refine after_i X (run_V X (c_X5_refuse l E a_t a_refusals a_now a_kept a_trial a_reader a_shelves a_one a_two a_search a_outs (-5 : Int32) c_t c_refusals H.size v3 hv3) (cwV 1 hts gX5_pond_X5_refuse rfl rfl rfl hV_X5_refuse ⟨(Nat.le_of_ble_eq_true rfl), (Nat.le_of_ble_eq_true rfl)⟩) hP hD hS [0, 4] rfl rfl hl.1 (ci := 5) rfl rfl rfl (rest := []) rfl rfl (Nat.le_of_ble_eq_true rfl) dX5_pond_36) hP hD hS [0, 4] [1, 2, 3] [3, 0, 1, 2, 4] rfl rfl rfl (by decide) rfl (ws1 := (W_X5_pond E a_t a_now a_now_cells a_now_ponds a_refusals a_kept a_trial a_reader a_shelves a_one a_two a_search a_outs a_now_kinds a_now_weights a_now_faces a_now_pledges c_t c_now c_now_cells c_now_ponds (v3.2))) rfl (fun H locs hP hD hS => ?_)
        obtain rfl := Option.some.inj h
        exact ret_i X dX5_pond_39 hP hD hS rfl
  · have h := if_t h hc8
    refine lv_aload_n hx hb dX5_pond_11 rfl (lv_at hl 0 rfl) ?_
    refine lv_bipush (v := (-2 : Int32)) hx hb dX5_pond_12 (by decide) ?_
    obtain ⟨v4, hv4, h⟩ := bind_of h
    refine after_i X (run_V X (c_X5_refuse l E a_t a_refusals a_now a_kept a_trial a_reader a_shelves a_one a_two a_search a_outs (-2 : Int32) c_t c_refusals H.size v4 hv4) (cwV 1 hts gX5_pond_X5_refuse rfl rfl rfl hV_X5_refuse ⟨(Nat.le_of_ble_eq_true rfl), (Nat.le_of_ble_eq_true rfl)⟩) hP hD hS [0, 4] rfl rfl hl.1 (ci := 5) rfl rfl rfl (rest := []) rfl rfl (Nat.le_of_ble_eq_true rfl) dX5_pond_14) hP hD hS [0, 4] [1, 2, 3] [3, 0, 1, 2, 4] rfl rfl rfl (by decide) rfl (ws1 := (W_X5_pond E a_t a_now a_now_cells a_now_ponds a_refusals a_kept a_trial a_reader a_shelves a_one a_two a_search a_outs a_now_kinds a_now_weights a_now_faces a_now_pledges c_t c_now c_now_cells c_now_ponds (v4.2))) rfl (fun H locs hP hD hS => ?_)
    obtain rfl := Option.some.inj h
    exact ret_i X dX5_pond_17 hP hD hS rfl
end
set_option maxRecDepth 100000 in
theorem c_X5_pond (l : Launch) (E : Env0) (a_t : Nat) (a_now : Nat) (a_now_cells : Nat) (a_now_ponds : Nat) (a_refusals : Nat) (a_kept : Nat) (a_trial : Nat) (a_reader : Nat) (a_shelves : Nat) (a_one : Nat) (a_two : Nat) (a_search : Nat) (a_outs : Nat) (a_now_kinds : Nat) (a_now_weights : Nat) (a_now_faces : Nat) (a_now_pledges : Nat) (l1 : Int32) (l2 : Int32) (c_t : Nat → Int32) (c_now : Nat → Int32) (c_now_cells : Nat → Int32) (c_now_ponds : Nat → Int32) (c_refusals : Nat → Int32) (sz : Nat) (res : Int32 × (Nat → Int32) × (Nat → Int32)) (h : f_X5_pond l1 l2 c_t c_now c_now_cells c_now_ponds c_refusals = some res) : Met l yX5_pond wsX5_pond r_X5_pond (cPre E [.ref a_t, .int l1, .int l2] (W_X5_pond E a_t a_now a_now_cells a_now_ponds a_refusals a_kept a_trial a_reader a_shelves a_one a_two a_search a_outs a_now_kinds a_now_weights a_now_faces a_now_pledges c_t c_now c_now_cells c_now_ponds c_refusals) sz) (qI E (va_A (W_X5_pond E a_t a_now a_now_cells a_now_ponds a_refusals a_kept a_trial a_reader a_shelves a_one a_two a_search a_outs a_now_kinds a_now_weights a_now_faces a_now_pledges c_t c_now c_now_cells c_now_ponds c_refusals) sz) (res.1) (W_X5_pond E a_t a_now a_now_cells a_now_ponds a_refusals a_kept a_trial a_reader a_shelves a_one a_two a_search a_outs a_now_kinds a_now_weights a_now_faces a_now_pledges c_t c_now c_now_cells (res.2.1) (res.2.2))) 0 0 (va_A (W_X5_pond E a_t a_now a_now_cells a_now_ponds a_refusals a_kept a_trial a_reader a_shelves a_one a_two a_search a_outs a_now_kinds a_now_weights a_now_faces a_now_pledges c_t c_now c_now_cells c_now_ponds c_refusals) sz) :=
  met_of (Qc := fun A => qI E A (res.1) (W_X5_pond E a_t a_now a_now_cells a_now_ponds a_refusals a_kept a_trial a_reader a_shelves a_one a_two a_search a_outs a_now_kinds a_now_weights a_now_faces a_now_pledges c_t c_now c_now_cells (res.2.1) (res.2.2))) (by decide) rfl (Nat.le_of_ble_eq_true rfl) (fun p e s m args below meth c X hP hD hS ls hl => w_X5_pond X a_t a_now a_now_cells a_now_ponds a_refusals a_kept a_trial a_reader a_shelves a_one a_two a_search a_outs a_now_kinds a_now_weights a_now_faces a_now_pledges c_t c_now c_now_cells res c_now_ponds c_refusals l1 l2 ls _ _ h hP hD hS hl)
-- ===== X5_person
abbrev W_X5_person (E : Env0) (a_t : Nat) (a_now : Nat) (a_now_cells : Nat) (a_now_faces : Nat) (a_now_kinds : Nat) (a_now_pledges : Nat) (a_now_ponds : Nat) (a_now_weights : Nat) (a_refusals : Nat) (a_kept : Nat) (a_trial : Nat) (a_reader : Nat) (a_shelves : Nat) (a_one : Nat) (a_two : Nat) (a_search : Nat) (a_outs : Nat) (c_t : Nat → Int32) (c_now : Nat → Int32) (c_now_cells : Nat → Int32) (c_now_faces : Nat → Int32) (c_now_kinds : Nat → Int32) (c_now_pledges : Nat → Int32) (c_now_ponds : Nat → Int32) (c_now_weights : Nat → Int32) (c_refusals : Nat → Int32) : va_W := [(a_t, .inr (5, [.ref a_now, .ref a_kept, .ref a_trial, .ref a_reader, .ref a_shelves, .ref a_one, .ref a_two, .ref a_search, .ref a_outs, .ref a_refusals, .int (c_t 10)])), (a_now, .inr (0, [.int (c_now 0), .int (c_now 1), .int (c_now 2), .int (c_now 3), .int (c_now 4), .int (c_now 5), .int (c_now 6), .int (c_now 7), .ref a_now_ponds, .ref a_now_kinds, .ref a_now_weights, .ref a_now_cells, .ref a_now_faces, .ref a_now_pledges])), (a_now_cells, .inl (eI E, 8, .inl c_now_cells)), (a_now_faces, .inl (eI E, 8, .inl c_now_faces)), (a_now_kinds, .inl (eI E, 8, .inl c_now_kinds)), (a_now_pledges, .inl (eI E, 8, .inl c_now_pledges)), (a_now_ponds, .inl (eZ E, 70, .inl c_now_ponds)), (a_now_weights, .inl (eI E, 8, .inl c_now_weights)), (a_refusals, .inl (eI E, 5, .inl c_refusals))]
abbrev r_X5_person : Room := { frames := 2, cells := 0, slots := 0, locals := 45 }
theorem hd_X5_person : yX5_person.cls ≠ "java/lang/invoke/MethodHandle" ∧ yX5_person.cls ≠ "java/lang/invoke/VarHandle" ∧ (parseMethodDescriptor yX5_person.desc).map (fun d => d.parameters.length) = some 4 := by decide +kernel
theorem hV_X5_person : yX5_person.cls = RX5 ∧ yX5_person.cls ≠ "java/lang/invoke/MethodHandle" ∧ yX5_person.cls ≠ "java/lang/invoke/VarHandle" ∧ (parseMethodDescriptor yX5_person.desc).map (fun d => d.parameters.length) = some 4 := ⟨rfl, hd_X5_person⟩
theorem iX5_person_X5 : ∀ w ∈ wsX50, w ∈ wsX5_person := fun _ h => List.mem_cons_of_mem _ (List.mem_append_left _ (List.mem_append_right _ (h)))
section
variable {p : Program} {l : Launch} {e : Env} {s : State} {m : MethodId} {args : Array Value} {below : List Frame} {meth : Method} {c : Code} {E : Env0} {A : Nat → Prop}
set_option maxRecDepth 100000 in
set_option maxHeartbeats 4000000 in
theorem w_X5_person_b36 (X : Ctx p m meth c cX5_person 5 ((some .int)) s args wsX5_person RX5 E A) (a_t : Nat) (a_now : Nat) (a_now_cells : Nat) (a_now_faces : Nat) (a_now_kinds : Nat) (a_now_pledges : Nat) (a_now_ponds : Nat) (a_now_weights : Nat) (a_refusals : Nat) (a_kept : Nat) (a_trial : Nat) (a_reader : Nat) (a_shelves : Nat) (a_one : Nat) (a_two : Nat) (a_search : Nat) (a_outs : Nat) (c_t : Nat → Int32) (c_now_ponds : Nat → Int32) (res : Int32 × (Nat → Int32) × (Nat → Int32) × (Nat → Int32) × (Nat → Int32) × (Nat → Int32) × (Nat → Int32) × (Nat → Int32)) (c_now : Nat → Int32) (c_now_cells : Nat → Int32) (c_now_faces : Nat → Int32) (c_now_kinds : Nat → Int32) (c_now_pledges : Nat → Int32) (c_now_weights : Nat → Int32) (c_refusals : Nat → Int32) (ls : Array Slot) (H : Heap) (locs : List Loc) (h : f_X5_person_b36 c_t c_now_ponds c_now c_now_cells c_now_faces c_now_kinds c_now_pledges c_now_weights c_refusals = some res) (hP : va_P E.1 vwCl (W_X5_person E a_t a_now a_now_cells a_now_faces a_now_kinds a_now_pledges a_now_ponds a_now_weights a_refusals a_kept a_trial a_reader a_shelves a_one a_two a_search a_outs c_t c_now c_now_cells c_now_faces c_now_kinds c_now_pledges c_now_ponds c_now_weights c_refusals) H) (hD : va_D A (W_X5_person E a_t a_now a_now_cells a_now_faces a_now_kinds a_now_pledges a_now_ponds a_now_weights a_refusals a_kept a_trial a_reader a_shelves a_one a_two a_search a_outs c_t c_now c_now_cells c_now_faces c_now_kinds c_now_pledges c_now_ponds c_now_weights c_refusals)) (hS : va_S A s.heap H locs) (hl : lv_has ls 5 [(0, .ref a_t)]) : W p l e r_X5_person s m args below meth c H locs 0 0 (MQ below (qI E A (res.1) (W_X5_person E a_t a_now a_now_cells a_now_faces a_now_kinds a_now_pledges a_now_ponds a_now_weights a_refusals a_kept a_trial a_reader a_shelves a_one a_two a_search a_outs c_t (res.2.1) (res.2.2.1) (res.2.2.2.1) (res.2.2.2.2.1) (res.2.2.2.2.2.1) c_now_ponds (res.2.2.2.2.2.2.1) (res.2.2.2.2.2.2.2))) args s 0 0 A) (F0 m 36 ls []) := by
  obtain ⟨hx, hb, hml, hr, hlk, hown, hts, hG, hA⟩ := id X
  have hK := hG.1
  have hN := hG.2.1
  unfold f_X5_person_b36 at h
  refine lv_aload_n hx hb dX5_person_36 rfl (lv_at hl 0 rfl) ?_
  refine lv_bipush (v := (-2 : Int32)) hx hb dX5_person_37 (by decide) ?_
  obtain ⟨v1, hv1, h⟩ := bind_of h
  refine after_i X (run_V X (c_X5_refuse l E a_t a_refusals a_now a_kept a_trial a_reader a_shelves a_one a_two a_search a_outs (-2 : Int32) c_t c_refusals H.size v1 hv1) (cwV 1 hts gX5_person_X5_refuse rfl rfl rfl hV_X5_refuse ⟨(Nat.le_of_ble_eq_true rfl), (Nat.le_of_ble_eq_true rfl)⟩) hP hD hS [0, 8] rfl rfl hl.1 (ci := 5) rfl rfl rfl (rest := []) rfl rfl (Nat.le_of_ble_eq_true rfl) dX5_person_39) hP hD hS [0, 8] [1, 2, 3, 4, 5, 6, 7] [7, 0, 1, 2, 3, 4, 5, 6, 8] rfl rfl rfl (by decide) rfl (ws1 := (W_X5_person E a_t a_now a_now_cells a_now_faces a_now_kinds a_now_pledges a_now_ponds a_now_weights a_refusals a_kept a_trial a_reader a_shelves a_one a_two a_search a_outs c_t c_now c_now_cells c_now_faces c_now_kinds c_now_pledges c_now_ponds c_now_weights (v1.2))) rfl (fun H locs hP hD hS => ?_)
  obtain rfl := Option.some.inj h
  exact ret_i X dX5_person_42 hP hD hS rfl
set_option maxRecDepth 100000 in
set_option maxHeartbeats 4000000 in
theorem w_X5_person (X : Ctx p m meth c cX5_person 5 ((some .int)) s args wsX5_person RX5 E A) (a_t : Nat) (a_now : Nat) (a_now_cells : Nat) (a_now_faces : Nat) (a_now_kinds : Nat) (a_now_pledges : Nat) (a_now_ponds : Nat) (a_now_weights : Nat) (a_refusals : Nat) (a_kept : Nat) (a_trial : Nat) (a_reader : Nat) (a_shelves : Nat) (a_one : Nat) (a_two : Nat) (a_search : Nat) (a_outs : Nat) (c_t : Nat → Int32) (c_now_ponds : Nat → Int32) (res : Int32 × (Nat → Int32) × (Nat → Int32) × (Nat → Int32) × (Nat → Int32) × (Nat → Int32) × (Nat → Int32) × (Nat → Int32)) (c_now : Nat → Int32) (c_now_cells : Nat → Int32) (c_now_faces : Nat → Int32) (c_now_kinds : Nat → Int32) (c_now_pledges : Nat → Int32) (c_now_weights : Nat → Int32) (c_refusals : Nat → Int32) (l1 : Int32) (l2 : Int32) (l3 : Int32) (l4 : Int32) (ls : Array Slot) (H : Heap) (locs : List Loc) (h : f_X5_person l1 l2 l3 l4 c_t c_now c_now_cells c_now_faces c_now_kinds c_now_pledges c_now_ponds c_now_weights c_refusals = some res) (hP : va_P E.1 vwCl (W_X5_person E a_t a_now a_now_cells a_now_faces a_now_kinds a_now_pledges a_now_ponds a_now_weights a_refusals a_kept a_trial a_reader a_shelves a_one a_two a_search a_outs c_t c_now c_now_cells c_now_faces c_now_kinds c_now_pledges c_now_ponds c_now_weights c_refusals) H) (hD : va_D A (W_X5_person E a_t a_now a_now_cells a_now_faces a_now_kinds a_now_pledges a_now_ponds a_now_weights a_refusals a_kept a_trial a_reader a_shelves a_one a_two a_search a_outs c_t c_now c_now_cells c_now_faces c_now_kinds c_now_pledges c_now_ponds c_now_weights c_refusals)) (hS : va_S A s.heap H locs) (hl : lv_has ls 5 [(0, .ref a_t), (1, .int l1), (2, .int l2), (3, .int l3), (4, .int l4)]) : W p l e r_X5_person s m args below meth c H locs 0 0 (MQ below (qI E A (res.1) (W_X5_person E a_t a_now a_now_cells a_now_faces a_now_kinds a_now_pledges a_now_ponds a_now_weights a_refusals a_kept a_trial a_reader a_shelves a_one a_two a_search a_outs c_t (res.2.1) (res.2.2.1) (res.2.2.2.1) (res.2.2.2.2.1) (res.2.2.2.2.2.1) c_now_ponds (res.2.2.2.2.2.2.1) (res.2.2.2.2.2.2.2))) args s 0 0 A) (F0 m 0 ls []) := by
  obtain ⟨hx, hb, hml, hr, hlk, hown, hts, hG, hA⟩ := id X
  have hK := hG.1
  have hN := hG.2.1
  unfold f_X5_person at h
  refine lv_iload_n hx hb dX5_person_0 rfl (lv_at hl 1 rfl) ?_
  obtain ⟨v1, hv1, h⟩ := bind_of h
  refine after_i X (run_S X (c_X5_isKind l E l1 H.size v1 hv1) (va_cwS 1 hts gX5_person_X5_isKind rfl rfl rfl hd_X5_isKind ⟨(Nat.le_of_ble_eq_true rfl), (Nat.le_of_ble_eq_true rfl)⟩) hP hD hS [] rfl rfl hl.1 (rest := []) rfl rfl (Nat.le_of_ble_eq_true rfl) dX5_person_1) hP hD hS [] [0, 1, 2, 3, 4, 5, 6, 7, 8] [0, 1, 2, 3, 4, 5, 6, 7, 8] rfl rfl rfl (by decide) rfl (ws1 := (W_X5_person E a_t a_now a_now_cells a_now_faces a_now_kinds a_now_pledges a_now_ponds a_now_weights a_refusals a_kept a_trial a_reader a_shelves a_one a_two a_search a_outs c_t c_now c_now_cells c_now_faces c_now_kinds c_now_pledges c_now_ponds c_now_weights c_refusals)) rfl (fun H locs hP hD hS => ?_)
  refine lv_if_eq (tgt := 36) hx hb dX5_person_4 (by decide) (fun hc4 => ?_) (fun hc4 => ?_)
  · have h := if_t h hc4
    exact w_X5_person_b36 X a_t a_now a_now_cells a_now_faces a_now_kinds a_now_pledges a_now_ponds a_now_weights a_refusals a_kept a_trial a_reader a_shelves a_one a_two a_search a_outs c_t c_now_ponds res c_now c_now_cells c_now_faces c_now_kinds c_now_pledges c_now_weights c_refusals _ _ _ h hP hD hS (lv_sub hl [0] rfl)
  · have h := if_f h hc4
    refine lv_iload_n hx hb dX5_person_7 rfl (lv_at hl 2 rfl) ?_
    refine lv_iconst (v := (0 : Int32)) hx hb dX5_person_8 (by decide) ?_
    refine lv_bipush (v := (9 : Int32)) hx hb dX5_person_9 (by decide) ?_
    obtain ⟨v2, hv2, h⟩ := bind_of h
    refine after_i X (run_S X (c_X5_isWithin l E l2 (0 : Int32) (9 : Int32) H.size v2 hv2) (va_cwS 3 hts gX5_person_X5_isWithin rfl rfl rfl hd_X5_isWithin ⟨(Nat.le_of_ble_eq_true rfl), (Nat.le_of_ble_eq_true rfl)⟩) hP hD hS [] rfl rfl hl.1 (rest := []) rfl rfl (Nat.le_of_ble_eq_true rfl) dX5_person_11) hP hD hS [] [0, 1, 2, 3, 4, 5, 6, 7, 8] [0, 1, 2, 3, 4, 5, 6, 7, 8] rfl rfl rfl (by decide) rfl (ws1 := (W_X5_person E a_t a_now a_now_cells a_now_faces a_now_kinds a_now_pledges a_now_ponds a_now_weights a_refusals a_kept a_trial a_reader a_shelves a_one a_two a_search a_outs c_t c_now c_now_cells c_now_faces c_now_kinds c_now_pledges c_now_ponds c_now_weights c_refusals)) rfl (fun H locs hP hD hS => ?_)
    refine lv_if_eq (tgt := 36) hx hb dX5_person_14 (by decide) (fun hc14 => ?_) (fun hc14 => ?_)
    · have h := if_t h hc14
      exact w_X5_person_b36 X a_t a_now a_now_cells a_now_faces a_now_kinds a_now_pledges a_now_ponds a_now_weights a_refusals a_kept a_trial a_reader a_shelves a_one a_two a_search a_outs c_t c_now_ponds res c_now c_now_cells c_now_faces c_now_kinds c_now_pledges c_now_weights c_refusals _ _ _ h hP hD hS (lv_sub hl [0] rfl)
    · have h := if_f h hc14
      refine lv_aload_n hx hb dX5_person_17 rfl (lv_at hl 0 rfl) ?_
      refine va_get (D := E.1) (ci := 5) (v := .ref a_now) (C := RX5) (T := TX5) (N := 11) hx hb hts iX5_person_X5 hown hK hP 0 rfl rfl 0 (by decide) (hts (.fieldLink RX5 10 "LeftIsAgreedOn" "now" "LLeftIsAgreedOn$Island;") (List.mem_of_getElem? (i := 1) rfl)) (fun _ h9 => h9) rfl dX5_person_18 ?_
      refine lv_iload_n hx hb dX5_person_21 rfl (lv_at hl 3 rfl) ?_
      obtain ⟨v3, hv3, h⟩ := bind_of h
      refine after_i X (run_V X (c_X0_isCell l E a_now a_now_ponds a_now_kinds a_now_weights a_now_cells a_now_faces a_now_pledges l3 c_now H.size v3 hv3) (cwV 1 hts gX5_person_X0_isCell rfl rfl rfl hV_X0_isCell ⟨(Nat.le_of_ble_eq_true rfl), (Nat.le_of_ble_eq_true rfl)⟩) hP hD hS [1] rfl rfl hl.1 (ci := 0) rfl rfl rfl (rest := []) rfl rfl (Nat.le_of_ble_eq_true rfl) dX5_person_22) hP hD hS [1] [0, 2, 3, 4, 5, 6, 7, 8] [0, 8, 1, 2, 3, 4, 5, 6, 7] rfl rfl rfl (by decide) rfl (ws1 := (W_X5_person E a_t a_now a_now_cells a_now_faces a_now_kinds a_now_pledges a_now_ponds a_now_weights a_refusals a_kept a_trial a_reader a_shelves a_one a_two a_search a_outs c_t c_now c_now_cells c_now_faces c_now_kinds c_now_pledges c_now_ponds c_now_weights c_refusals)) rfl (fun H locs hP hD hS => ?_)
      refine lv_if_eq (tgt := 36) hx hb dX5_person_25 (by decide) (fun hc25 => ?_) (fun hc25 => ?_)
      · have h := if_t h hc25
        exact w_X5_person_b36 X a_t a_now a_now_cells a_now_faces a_now_kinds a_now_pledges a_now_ponds a_now_weights a_refusals a_kept a_trial a_reader a_shelves a_one a_two a_search a_outs c_t c_now_ponds res c_now c_now_cells c_now_faces c_now_kinds c_now_pledges c_now_weights c_refusals _ _ _ h hP hD hS (lv_sub hl [0] rfl)
      · have h := if_f h hc25
        refine lv_iload hx hb dX5_person_28 (lv_at hl 4 rfl) ?_
        obtain ⟨v4, hv4, h⟩ := bind_of h
        refine after_i X (run_S X (c_X5_isFaces l E l4 H.size v4 hv4) (va_cwS 1 hts gX5_person_X5_isFaces rfl rfl rfl hd_X5_isFaces ⟨(Nat.le_of_ble_eq_true rfl), (Nat.le_of_ble_eq_true rfl)⟩) hP hD hS [] rfl rfl hl.1 (rest := []) rfl rfl (Nat.le_of_ble_eq_true rfl) dX5_person_30) hP hD hS [] [0, 1, 2, 3, 4, 5, 6, 7, 8] [0, 1, 2, 3, 4, 5, 6, 7, 8] rfl rfl rfl (by decide) rfl (ws1 := (W_X5_person E a_t a_now a_now_cells a_now_faces a_now_kinds a_now_pledges a_now_ponds a_now_weights a_refusals a_kept a_trial a_reader a_shelves a_one a_two a_search a_outs c_t c_now c_now_cells c_now_faces c_now_kinds c_now_pledges c_now_ponds c_now_weights c_refusals)) rfl (fun H locs hP hD hS => ?_)
        refine lv_if_ne (tgt := 43) hx hb dX5_person_33 (by decide) (fun hc33 => ?_) (fun hc33 => ?_)
        · have h := if_f h hc33
          refine lv_aload_n hx hb dX5_person_43 rfl (lv_at hl 0 rfl) ?_
          refine va_get (D := E.1) (ci := 5) (v := .ref a_now) (C := RX5) (T := TX5) (N := 11) hx hb hts iX5_person_X5 hown hK hP 0 rfl rfl 0 (by decide) (hts (.fieldLink RX5 10 "LeftIsAgreedOn" "now" "LLeftIsAgreedOn$Island;") (List.mem_of_getElem? (i := 1) rfl)) (fun _ h9 => h9) rfl dX5_person_44 ?_
          refine lv_iload_n hx hb dX5_person_47 rfl (lv_at hl 3 rfl) ?_
          obtain ⟨v5, hv5, h⟩ := bind_of h
          refine after_i X (run_V X (c_X0_hasPond l E a_now a_now_ponds a_now_kinds a_now_weights a_now_cells a_now_faces a_now_pledges l3 c_now c_now_ponds H.size v5 hv5) (cwV 1 hts gX5_person_X0_hasPond rfl rfl rfl hV_X0_hasPond ⟨(Nat.le_of_ble_eq_true rfl), (Nat.le_of_ble_eq_true rfl)⟩) hP hD hS [1, 6] rfl rfl hl.1 (ci := 0) rfl rfl rfl (rest := []) rfl rfl (Nat.le_of_ble_eq_true rfl) dX5_person_48) hP hD hS [1, 6] [0, 2, 3, 4, 5, 7, 8] [0, 7, 1, 2, 3, 4, 8, 5, 6] rfl rfl rfl (by decide) rfl (ws1 := (W_X5_person E a_t a_now a_now_cells a_now_faces a_now_kinds a_now_pledges a_now_ponds a_now_weights a_refusals a_kept a_trial a_reader a_shelves a_one a_two a_search a_outs c_t c_now c_now_cells c_now_faces c_now_kinds c_now_pledges c_now_ponds c_now_weights c_refusals)) rfl (fun H locs hP hD hS => ?_)
          refine lv_if_eq (tgt := 61) hx hb dX5_person_51 (by decide) (fun hc51 => ?_) (fun hc51 => ?_)
          · have h := if_t h hc51
            refine lv_aload_n hx hb dX5_person_61 rfl (lv_at hl 0 rfl) ?_
            refine va_get (D := E.1) (ci := 5) (v := .ref a_now) (C := RX5) (T := TX5) (N := 11) hx hb hts iX5_person_X5 hown hK hP 0 rfl rfl 0 (by decide) (hts (.fieldLink RX5 10 "LeftIsAgreedOn" "now" "LLeftIsAgreedOn$Island;") (List.mem_of_getElem? (i := 1) rfl)) (fun _ h9 => h9) rfl dX5_person_62 ?_
            obtain ⟨v6, hv6, h⟩ := bind_of h
            refine after_i X (run_V X (c_X0_isFull l E a_now a_now_ponds a_now_kinds a_now_weights a_now_cells a_now_faces a_now_pledges c_now H.size v6 hv6) (cwV 0 hts gX5_person_X0_isFull rfl rfl rfl hV_X0_isFull ⟨(Nat.le_of_ble_eq_true rfl), (Nat.le_of_ble_eq_true rfl)⟩) hP hD hS [1] rfl rfl hl.1 (ci := 0) rfl rfl rfl (rest := []) rfl rfl (Nat.le_of_ble_eq_true rfl) dX5_person_65) hP hD hS [1] [0, 2, 3, 4, 5, 6, 7, 8] [0, 8, 1, 2, 3, 4, 5, 6, 7] rfl rfl rfl (by decide) rfl (ws1 := (W_X5_person E a_t a_now a_now_cells a_now_faces a_now_kinds a_now_pledges a_now_ponds a_now_weights a_refusals a_kept a_trial a_reader a_shelves a_one a_two a_search a_outs c_t c_now c_now_cells c_now_faces c_now_kinds c_now_pledges c_now_ponds c_now_weights c_refusals)) rfl (fun H locs hP hD hS => ?_)
            refine lv_if_eq (tgt := 78) hx hb dX5_person_68 (by decide) (fun hc68 => ?_) (fun hc68 => ?_)
            · have h := if_t h hc68
              refine lv_aload_n hx hb dX5_person_78 rfl (lv_at hl 0 rfl) ?_
              refine va_get (D := E.1) (ci := 5) (v := .ref a_now) (C := RX5) (T := TX5) (N := 11) hx hb hts iX5_person_X5 hown hK hP 0 rfl rfl 0 (by decide) (hts (.fieldLink RX5 10 "LeftIsAgreedOn" "now" "LLeftIsAgreedOn$Island;") (List.mem_of_getElem? (i := 1) rfl)) (fun _ h9 => h9) rfl dX5_person_79 ?_
              refine lv_iload_n hx hb dX5_person_82 rfl (lv_at hl 1 rfl) ?_
              refine lv_iload_n hx hb dX5_person_83 rfl (lv_at hl 2 rfl) ?_
              refine lv_iload_n hx hb dX5_person_84 rfl (lv_at hl 3 rfl) ?_
              refine lv_iload hx hb dX5_person_85 (lv_at hl 4 rfl) ?_
              obtain ⟨v7, hv7, h⟩ := bind_of h
              refine after_i X (run_V X (c_X0_add l E a_now a_now_cells a_now_faces a_now_kinds a_now_pledges a_now_weights a_now_ponds l1 l2 l3 l4 c_now c_now_cells c_now_faces c_now_kinds c_now_pledges c_now_weights H.size v7 hv7) (cwV 4 hts gX5_person_X0_add rfl rfl rfl hV_X0_add ⟨(Nat.le_of_ble_eq_true rfl), (Nat.le_of_ble_eq_true rfl)⟩) hP hD hS [1, 2, 3, 4, 5, 7] rfl rfl hl.1 (ci := 0) rfl rfl rfl (rest := []) rfl rfl (Nat.le_of_ble_eq_true rfl) dX5_person_87) hP hD hS [1, 2, 3, 4, 5, 7] [0, 6, 8] [0, 3, 4, 5, 6, 7, 1, 8, 2] rfl rfl rfl (by decide) rfl (ws1 := (W_X5_person E a_t a_now a_now_cells a_now_faces a_now_kinds a_now_pledges a_now_ponds a_now_weights a_refusals a_kept a_trial a_reader a_shelves a_one a_two a_search a_outs c_t (v7.2.1) (v7.2.2.1) (v7.2.2.2.1) (v7.2.2.2.2.1) (v7.2.2.2.2.2.1) c_now_ponds (v7.2.2.2.2.2.2) c_refusals)) rfl (fun H locs hP hD hS => ?_)
              obtain rfl := Option.some.inj h
              exact ret_i X dX5_person_90 hP hD hS rfl
            · have h := if_f h hc68
              refine lv_aload_n hx hb dX5_person_71 rfl (lv_at hl 0 rfl) ?_
              refine lv_bipush (v := (-6 : Int32)) hx hb dX5_person_72 (by decide) ?_
              obtain ⟨v8, hv8, h⟩ := bind_of h
              refine after_i X (run_V X (c_X5_refuse l E a_t a_refusals a_now a_kept a_trial a_reader a_shelves a_one a_two a_search a_outs (-6 : Int32) c_t c_refusals H.size v8 hv8) (cwV 1 hts gX5_person_X5_refuse rfl rfl rfl hV_X5_refuse ⟨(Nat.le_of_ble_eq_true rfl), (Nat.le_of_ble_eq_true rfl)⟩) hP hD hS [0, 8] rfl rfl hl.1 (ci := 5) rfl rfl rfl (rest := []) rfl rfl (Nat.le_of_ble_eq_true rfl) dX5_person_74) hP hD hS [0, 8] [1, 2, 3, 4, 5, 6, 7] [7, 0, 1, 2, 3, 4, 5, 6, 8] rfl rfl rfl (by decide) rfl (ws1 := (W_X5_person E a_t a_now a_now_cells a_now_faces a_now_kinds a_now_pledges a_now_ponds a_now_weights a_refusals a_kept a_trial a_reader a_shelves a_one a_two a_search a_outs c_t c_now c_now_cells c_now_faces c_now_kinds c_now_pledges c_now_ponds c_now_weights (v8.2))) rfl (fun H locs hP hD hS => ?_)
              obtain rfl := Option.some.inj h
              exact ret_i X dX5_person_77 hP hD hS rfl
          · have h := if_f h hc51
            refine lv_aload_n hx hb dX5_person_54 rfl (lv_at hl 0 rfl) ?_
            refine lv_bipush (v := (-5 : Int32)) hx hb dX5_person_55 (by decide) ?_
            obtain ⟨v9, hv9, h⟩ := bind_of h
            refine after_i X (run_V X (c_X5_refuse l E a_t a_refusals a_now a_kept a_trial a_reader a_shelves a_one a_two a_search a_outs (-5 : Int32) c_t c_refusals H.size v9 hv9) (cwV 1 hts gX5_person_X5_refuse rfl rfl rfl hV_X5_refuse ⟨(Nat.le_of_ble_eq_true rfl), (Nat.le_of_ble_eq_true rfl)⟩) hP hD hS [0, 8] rfl rfl hl.1 (ci := 5) rfl rfl rfl (rest := []) rfl rfl (Nat.le_of_ble_eq_true rfl) dX5_person_57) hP hD hS [0, 8] [1, 2, 3, 4, 5, 6, 7] [7, 0, 1, 2, 3, 4, 5, 6, 8] rfl rfl rfl (by decide) rfl (ws1 := (W_X5_person E a_t a_now a_now_cells a_now_faces a_now_kinds a_now_pledges a_now_ponds a_now_weights a_refusals a_kept a_trial a_reader a_shelves a_one a_two a_search a_outs c_t c_now c_now_cells c_now_faces c_now_kinds c_now_pledges c_now_ponds c_now_weights (v9.2))) rfl (fun H locs hP hD hS => ?_)
            obtain rfl := Option.some.inj h
            exact ret_i X dX5_person_60 hP hD hS rfl
        · have h := if_t h hc33
          exact w_X5_person_b36 X a_t a_now a_now_cells a_now_faces a_now_kinds a_now_pledges a_now_ponds a_now_weights a_refusals a_kept a_trial a_reader a_shelves a_one a_two a_search a_outs c_t c_now_ponds res c_now c_now_cells c_now_faces c_now_kinds c_now_pledges c_now_weights c_refusals _ _ _ h hP hD hS (lv_sub hl [0] rfl)
end
set_option maxRecDepth 100000 in
theorem c_X5_person (l : Launch) (E : Env0) (a_t : Nat) (a_now : Nat) (a_now_cells : Nat) (a_now_faces : Nat) (a_now_kinds : Nat) (a_now_pledges : Nat) (a_now_ponds : Nat) (a_now_weights : Nat) (a_refusals : Nat) (a_kept : Nat) (a_trial : Nat) (a_reader : Nat) (a_shelves : Nat) (a_one : Nat) (a_two : Nat) (a_search : Nat) (a_outs : Nat) (l1 : Int32) (l2 : Int32) (l3 : Int32) (l4 : Int32) (c_t : Nat → Int32) (c_now : Nat → Int32) (c_now_cells : Nat → Int32) (c_now_faces : Nat → Int32) (c_now_kinds : Nat → Int32) (c_now_pledges : Nat → Int32) (c_now_ponds : Nat → Int32) (c_now_weights : Nat → Int32) (c_refusals : Nat → Int32) (sz : Nat) (res : Int32 × (Nat → Int32) × (Nat → Int32) × (Nat → Int32) × (Nat → Int32) × (Nat → Int32) × (Nat → Int32) × (Nat → Int32)) (h : f_X5_person l1 l2 l3 l4 c_t c_now c_now_cells c_now_faces c_now_kinds c_now_pledges c_now_ponds c_now_weights c_refusals = some res) : Met l yX5_person wsX5_person r_X5_person (cPre E [.ref a_t, .int l1, .int l2, .int l3, .int l4] (W_X5_person E a_t a_now a_now_cells a_now_faces a_now_kinds a_now_pledges a_now_ponds a_now_weights a_refusals a_kept a_trial a_reader a_shelves a_one a_two a_search a_outs c_t c_now c_now_cells c_now_faces c_now_kinds c_now_pledges c_now_ponds c_now_weights c_refusals) sz) (qI E (va_A (W_X5_person E a_t a_now a_now_cells a_now_faces a_now_kinds a_now_pledges a_now_ponds a_now_weights a_refusals a_kept a_trial a_reader a_shelves a_one a_two a_search a_outs c_t c_now c_now_cells c_now_faces c_now_kinds c_now_pledges c_now_ponds c_now_weights c_refusals) sz) (res.1) (W_X5_person E a_t a_now a_now_cells a_now_faces a_now_kinds a_now_pledges a_now_ponds a_now_weights a_refusals a_kept a_trial a_reader a_shelves a_one a_two a_search a_outs c_t (res.2.1) (res.2.2.1) (res.2.2.2.1) (res.2.2.2.2.1) (res.2.2.2.2.2.1) c_now_ponds (res.2.2.2.2.2.2.1) (res.2.2.2.2.2.2.2))) 0 0 (va_A (W_X5_person E a_t a_now a_now_cells a_now_faces a_now_kinds a_now_pledges a_now_ponds a_now_weights a_refusals a_kept a_trial a_reader a_shelves a_one a_two a_search a_outs c_t c_now c_now_cells c_now_faces c_now_kinds c_now_pledges c_now_ponds c_now_weights c_refusals) sz) :=
  met_of (Qc := fun A => qI E A (res.1) (W_X5_person E a_t a_now a_now_cells a_now_faces a_now_kinds a_now_pledges a_now_ponds a_now_weights a_refusals a_kept a_trial a_reader a_shelves a_one a_two a_search a_outs c_t (res.2.1) (res.2.2.1) (res.2.2.2.1) (res.2.2.2.2.1) (res.2.2.2.2.2.1) c_now_ponds (res.2.2.2.2.2.2.1) (res.2.2.2.2.2.2.2))) (by decide) rfl (Nat.le_of_ble_eq_true rfl) (fun p e s m args below meth c X hP hD hS ls hl => w_X5_person X a_t a_now a_now_cells a_now_faces a_now_kinds a_now_pledges a_now_ponds a_now_weights a_refusals a_kept a_trial a_reader a_shelves a_one a_two a_search a_outs c_t c_now_ponds res c_now c_now_cells c_now_faces c_now_kinds c_now_pledges c_now_weights c_refusals l1 l2 l3 l4 ls _ _ h hP hD hS hl)
-- ===== X5_tell
abbrev W_X5_tell (E : Env0) (a_t : Nat) (a_now : Nat) (a_refusals : Nat) (a_kept : Nat) (a_trial : Nat) (a_reader : Nat) (a_shelves : Nat) (a_one : Nat) (a_two : Nat) (a_search : Nat) (a_outs : Nat) (a_now_ponds : Nat) (a_now_kinds : Nat) (a_now_weights : Nat) (a_now_cells : Nat) (a_now_faces : Nat) (a_now_pledges : Nat) (c_t : Nat → Int32) (c_now : Nat → Int32) (c_refusals : Nat → Int32) : va_W := [(a_t, .inr (5, [.ref a_now, .ref a_kept, .ref a_trial, .ref a_reader, .ref a_shelves, .ref a_one, .ref a_two, .ref a_search, .ref a_outs, .ref a_refusals, .int (c_t 10)])), (a_now, .inr (0, [.int (c_now 0), .int (c_now 1), .int (c_now 2), .int (c_now 3), .int (c_now 4), .int (c_now 5), .int (c_now 6), .int (c_now 7), .ref a_now_ponds, .ref a_now_kinds, .ref a_now_weights, .ref a_now_cells, .ref a_now_faces, .ref a_now_pledges])), (a_refusals, .inl (eI E, 5, .inl c_refusals))]
abbrev r_X5_tell : Room := { frames := 2, cells := 0, slots := 0, locals := 43 }
theorem hd_X5_tell : yX5_tell.cls ≠ "java/lang/invoke/MethodHandle" ∧ yX5_tell.cls ≠ "java/lang/invoke/VarHandle" ∧ (parseMethodDescriptor yX5_tell.desc).map (fun d => d.parameters.length) = some 2 := by decide +kernel
theorem hV_X5_tell : yX5_tell.cls = RX5 ∧ yX5_tell.cls ≠ "java/lang/invoke/MethodHandle" ∧ yX5_tell.cls ≠ "java/lang/invoke/VarHandle" ∧ (parseMethodDescriptor yX5_tell.desc).map (fun d => d.parameters.length) = some 2 := ⟨rfl, hd_X5_tell⟩
theorem iX5_tell_X0 : ∀ w ∈ wsX00, w ∈ wsX5_tell := fun _ h => List.mem_cons_of_mem _ (List.mem_append_right _ (h))
theorem iX5_tell_X5 : ∀ w ∈ wsX50, w ∈ wsX5_tell := fun _ h => List.mem_cons_of_mem _ (List.mem_append_left _ (List.mem_append_right _ (h)))
section
variable {p : Program} {l : Launch} {e : Env} {s : State} {m : MethodId} {args : Array Value} {below : List Frame} {meth : Method} {c : Code} {E : Env0} {A : Nat → Prop}
set_option maxRecDepth 100000 in
set_option maxHeartbeats 4000000 in
theorem w_X5_tell_b28 (X : Ctx p m meth c cX5_tell 4 ((some .int)) s args wsX5_tell RX5 E A) (a_t : Nat) (a_now : Nat) (a_refusals : Nat) (a_kept : Nat) (a_trial : Nat) (a_reader : Nat) (a_shelves : Nat) (a_one : Nat) (a_two : Nat) (a_search : Nat) (a_outs : Nat) (a_now_ponds : Nat) (a_now_kinds : Nat) (a_now_weights : Nat) (a_now_cells : Nat) (a_now_faces : Nat) (a_now_pledges : Nat) (c_t : Nat → Int32) (res : Int32 × (Nat → Int32) × (Nat → Int32)) (c_now : Nat → Int32) (c_refusals : Nat → Int32) (ls : Array Slot) (H : Heap) (locs : List Loc) (h : f_X5_tell_b28 c_t c_now c_refusals = some res) (hP : va_P E.1 vwCl (W_X5_tell E a_t a_now a_refusals a_kept a_trial a_reader a_shelves a_one a_two a_search a_outs a_now_ponds a_now_kinds a_now_weights a_now_cells a_now_faces a_now_pledges c_t c_now c_refusals) H) (hD : va_D A (W_X5_tell E a_t a_now a_refusals a_kept a_trial a_reader a_shelves a_one a_two a_search a_outs a_now_ponds a_now_kinds a_now_weights a_now_cells a_now_faces a_now_pledges c_t c_now c_refusals)) (hS : va_S A s.heap H locs) (hl : lv_has ls 4 [(0, .ref a_t)]) : W p l e r_X5_tell s m args below meth c H locs 0 0 (MQ below (qI E A (res.1) (W_X5_tell E a_t a_now a_refusals a_kept a_trial a_reader a_shelves a_one a_two a_search a_outs a_now_ponds a_now_kinds a_now_weights a_now_cells a_now_faces a_now_pledges c_t (res.2.1) (res.2.2))) args s 0 0 A) (F0 m 28 ls []) := by
  obtain ⟨hx, hb, hml, hr, hlk, hown, hts, hG, hA⟩ := id X
  have hK := hG.1
  have hN := hG.2.1
  unfold f_X5_tell_b28 at h
  refine lv_aload_n hx hb dX5_tell_28 rfl (lv_at hl 0 rfl) ?_
  refine lv_bipush (v := (-2 : Int32)) hx hb dX5_tell_29 (by decide) ?_
  obtain ⟨v1, hv1, h⟩ := bind_of h
  refine after_i X (run_V X (c_X5_refuse l E a_t a_refusals a_now a_kept a_trial a_reader a_shelves a_one a_two a_search a_outs (-2 : Int32) c_t c_refusals H.size v1 hv1) (cwV 1 hts gX5_tell_X5_refuse rfl rfl rfl hV_X5_refuse ⟨(Nat.le_of_ble_eq_true rfl), (Nat.le_of_ble_eq_true rfl)⟩) hP hD hS [0, 2] rfl rfl hl.1 (ci := 5) rfl rfl rfl (rest := []) rfl rfl (Nat.le_of_ble_eq_true rfl) dX5_tell_31) hP hD hS [0, 2] [1] [1, 0, 2] rfl rfl rfl (by decide) rfl (ws1 := (W_X5_tell E a_t a_now a_refusals a_kept a_trial a_reader a_shelves a_one a_two a_search a_outs a_now_ponds a_now_kinds a_now_weights a_now_cells a_now_faces a_now_pledges c_t c_now (v1.2))) rfl (fun H locs hP hD hS => ?_)
  obtain rfl := Option.some.inj h
  exact ret_i X dX5_tell_34 hP hD hS rfl
set_option maxRecDepth 100000 in
set_option maxHeartbeats 4000000 in
theorem w_X5_tell_b22 (X : Ctx p m meth c cX5_tell 4 ((some .int)) s args wsX5_tell RX5 E A) (a_t : Nat) (a_now : Nat) (a_refusals : Nat) (a_kept : Nat) (a_trial : Nat) (a_reader : Nat) (a_shelves : Nat) (a_one : Nat) (a_two : Nat) (a_search : Nat) (a_outs : Nat) (a_now_ponds : Nat) (a_now_kinds : Nat) (a_now_weights : Nat) (a_now_cells : Nat) (a_now_faces : Nat) (a_now_pledges : Nat) (c_t : Nat → Int32) (res : Int32 × (Nat → Int32) × (Nat → Int32)) (c_now : Nat → Int32) (c_refusals : Nat → Int32) (l1 : Int32) (l2 : Int32) (s0 : Int32) (s1 : Int32) (s2 : Int32) (ls : Array Slot) (H : Heap) (locs : List Loc) (h : f_X5_tell_b22 c_t c_now c_refusals l1 l2 s0 s1 s2 = some res) (hP : va_P E.1 vwCl (W_X5_tell E a_t a_now a_refusals a_kept a_trial a_reader a_shelves a_one a_two a_search a_outs a_now_ponds a_now_kinds a_now_weights a_now_cells a_now_faces a_now_pledges c_t c_now c_refusals) H) (hD : va_D A (W_X5_tell E a_t a_now a_refusals a_kept a_trial a_reader a_shelves a_one a_two a_search a_outs a_now_ponds a_now_kinds a_now_weights a_now_cells a_now_faces a_now_pledges c_t c_now c_refusals)) (hS : va_S A s.heap H locs) (hl : lv_has ls 4 [(0, .ref a_t), (1, .int l1), (2, .int l2)]) : W p l e r_X5_tell s m args below meth c H locs 0 0 (MQ below (qI E A (res.1) (W_X5_tell E a_t a_now a_refusals a_kept a_trial a_reader a_shelves a_one a_two a_search a_outs a_now_ponds a_now_kinds a_now_weights a_now_cells a_now_faces a_now_pledges c_t (res.2.1) (res.2.2))) args s 0 0 A) (F0 m 22 ls [.int s0, .int s1, .int s2]) := by
  obtain ⟨hx, hb, hml, hr, hlk, hown, hts, hG, hA⟩ := id X
  have hK := hG.1
  have hN := hG.2.1
  unfold f_X5_tell_b22 at h
  obtain ⟨v1, hv1, h⟩ := bind_of h
  refine after_i X (run_S X (c_X5_isWithin l E s2 s1 s0 H.size v1 hv1) (va_cwS 3 hts gX5_tell_X5_isWithin rfl rfl rfl hd_X5_isWithin ⟨(Nat.le_of_ble_eq_true rfl), (Nat.le_of_ble_eq_true rfl)⟩) hP hD hS [] rfl rfl hl.1 (rest := []) rfl rfl (Nat.le_of_ble_eq_true rfl) dX5_tell_22) hP hD hS [] [0, 1, 2] [0, 1, 2] rfl rfl rfl (by decide) rfl (ws1 := (W_X5_tell E a_t a_now a_refusals a_kept a_trial a_reader a_shelves a_one a_two a_search a_outs a_now_ponds a_now_kinds a_now_weights a_now_cells a_now_faces a_now_pledges c_t c_now c_refusals)) rfl (fun H locs hP hD hS => ?_)
  refine lv_if_ne (tgt := 35) hx hb dX5_tell_25 (by decide) (fun hc25 => ?_) (fun hc25 => ?_)
  · have h := if_f h hc25
    refine lv_iload_n hx hb dX5_tell_35 rfl (lv_at hl 1 rfl) ?_
    refine lv_if_ne (tgt := 58) hx hb dX5_tell_36 (by decide) (fun hc36 => ?_) (fun hc36 => ?_)
    · have h := if_f h hc36
      refine lv_iload_n hx hb dX5_tell_58 rfl (lv_at hl 1 rfl) ?_
      refine lv_iconst (v := (1 : Int32)) hx hb dX5_tell_59 (by decide) ?_
      refine lv_icmp_ne (tgt := 82) hx hb dX5_tell_60 (by decide) (fun hc60 => ?_) (fun hc60 => ?_)
      · have h := if_f h hc60
        refine lv_aload_n hx hb dX5_tell_82 rfl (lv_at hl 0 rfl) ?_
        refine va_get (D := E.1) (ci := 5) (v := .ref a_now) (C := RX5) (T := TX5) (N := 11) hx hb hts iX5_tell_X5 hown hK hP 0 rfl rfl 0 (by decide) (hts (.fieldLink RX5 10 "LeftIsAgreedOn" "now" "LLeftIsAgreedOn$Island;") (List.mem_of_getElem? (i := 1) rfl)) (fun _ h9 => h9) rfl dX5_tell_83 ?_
        refine va_getN (D := E.1) (ci := 0) (v := .int (c_now 3)) (C := RX0) (T := TX0) (N := 14) hx hb hts iX5_tell_X0 hown hK hP 1 rfl rfl 3 (by decide) (va_Nw.use rfl (hN.1 _ (List.mem_of_getElem? (i := 7) rfl))) (fun _ h9 => h9) rfl dX5_tell_86 ?_
        refine lv_istore_n (lv' := [(3, .int (c_now 3)), (0, .ref a_t), (1, .int l1), (2, .int l2)]) hx hb dX5_tell_89 rfl hl (by decide) rfl (fun ls hl => ?_)
        refine lv_aload_n hx hb dX5_tell_90 rfl (lv_at hl 1 rfl) ?_
        refine va_get (D := E.1) (ci := 5) (v := .ref a_now) (C := RX5) (T := TX5) (N := 11) hx hb hts iX5_tell_X5 hown hK hP 0 rfl rfl 0 (by decide) (hts (.fieldLink RX5 10 "LeftIsAgreedOn" "now" "LLeftIsAgreedOn$Island;") (List.mem_of_getElem? (i := 1) rfl)) (fun _ h9 => h9) rfl dX5_tell_91 ?_
        refine lv_iload_n hx hb dX5_tell_94 rfl (lv_at hl 3 rfl) ?_
        refine va_putN (D := E.1) (ci := 0) (v := .int l2) (ty := .int) (C := RX0) (T := TX0) (N := 14) hx hb hts iX5_tell_X0 tyX0 tyX0_ok nmX0 hown hK hP hD hS 1 rfl rfl 3 (by decide) (va_Nw.use rfl (hN.1 _ (List.mem_of_getElem? (i := 7) rfl))) (fun _ h9 => h9) rfl (tyX0_ok 3 (by decide)) rfl rfl (Nat.le_of_ble_eq_true rfl) dX5_tell_95 (fun H locs hP hD hS => ?_)
        have hP : va_P E.1 vwCl (W_X5_tell E a_t a_now a_refusals a_kept a_trial a_reader a_shelves a_one a_two a_search a_outs a_now_ponds a_now_kinds a_now_weights a_now_cells a_now_faces a_now_pledges c_t (upd c_now 3 l2) c_refusals) H := hP
        have hD : va_D A (W_X5_tell E a_t a_now a_refusals a_kept a_trial a_reader a_shelves a_one a_two a_search a_outs a_now_ponds a_now_kinds a_now_weights a_now_cells a_now_faces a_now_pledges c_t (upd c_now 3 l2) c_refusals) := hD
        refine lv_iload_n hx hb dX5_tell_98 rfl (lv_at hl 0 rfl) ?_
        obtain rfl := Option.some.inj h
        exact ret_i X dX5_tell_99 hP hD hS rfl
      · have h := if_t h hc60
        refine lv_aload_n hx hb dX5_tell_63 rfl (lv_at hl 0 rfl) ?_
        refine va_get (D := E.1) (ci := 5) (v := .ref a_now) (C := RX5) (T := TX5) (N := 11) hx hb hts iX5_tell_X5 hown hK hP 0 rfl rfl 0 (by decide) (hts (.fieldLink RX5 10 "LeftIsAgreedOn" "now" "LLeftIsAgreedOn$Island;") (List.mem_of_getElem? (i := 1) rfl)) (fun _ h9 => h9) rfl dX5_tell_64 ?_
        refine va_getN (D := E.1) (ci := 0) (v := .int (c_now 2)) (C := RX0) (T := TX0) (N := 14) hx hb hts iX5_tell_X0 hown hK hP 1 rfl rfl 2 (by decide) (va_Nw.use rfl (hN.1 _ (List.mem_of_getElem? (i := 6) rfl))) (fun _ h9 => h9) rfl dX5_tell_67 ?_
        refine lv_istore_n (lv' := [(3, .int (c_now 2)), (0, .ref a_t), (1, .int l1), (2, .int l2)]) hx hb dX5_tell_70 rfl hl (by decide) rfl (fun ls hl => ?_)
        refine lv_aload_n hx hb dX5_tell_71 rfl (lv_at hl 1 rfl) ?_
        refine va_get (D := E.1) (ci := 5) (v := .ref a_now) (C := RX5) (T := TX5) (N := 11) hx hb hts iX5_tell_X5 hown hK hP 0 rfl rfl 0 (by decide) (hts (.fieldLink RX5 10 "LeftIsAgreedOn" "now" "LLeftIsAgreedOn$Island;") (List.mem_of_getElem? (i := 1) rfl)) (fun _ h9 => h9) rfl dX5_tell_72 ?_
        refine lv_iload_n hx hb dX5_tell_75 rfl (lv_at hl 3 rfl) ?_
        refine va_putN (D := E.1) (ci := 0) (v := .int l2) (ty := .int) (C := RX0) (T := TX0) (N := 14) hx hb hts iX5_tell_X0 tyX0 tyX0_ok nmX0 hown hK hP hD hS 1 rfl rfl 2 (by decide) (va_Nw.use rfl (hN.1 _ (List.mem_of_getElem? (i := 6) rfl))) (fun _ h9 => h9) rfl (tyX0_ok 2 (by decide)) rfl rfl (Nat.le_of_ble_eq_true rfl) dX5_tell_76 (fun H locs hP hD hS => ?_)
        have hP : va_P E.1 vwCl (W_X5_tell E a_t a_now a_refusals a_kept a_trial a_reader a_shelves a_one a_two a_search a_outs a_now_ponds a_now_kinds a_now_weights a_now_cells a_now_faces a_now_pledges c_t (upd c_now 2 l2) c_refusals) H := hP
        have hD : va_D A (W_X5_tell E a_t a_now a_refusals a_kept a_trial a_reader a_shelves a_one a_two a_search a_outs a_now_ponds a_now_kinds a_now_weights a_now_cells a_now_faces a_now_pledges c_t (upd c_now 2 l2) c_refusals) := hD
        refine lv_goto (tgt := 98) hx hb dX5_tell_79 (by decide) ?_
        refine lv_iload_n hx hb dX5_tell_98 rfl (lv_at hl 0 rfl) ?_
        obtain rfl := Option.some.inj h
        exact ret_i X dX5_tell_99 hP hD hS rfl
    · have h := if_t h hc36
      refine lv_aload_n hx hb dX5_tell_39 rfl (lv_at hl 0 rfl) ?_
      refine va_get (D := E.1) (ci := 5) (v := .ref a_now) (C := RX5) (T := TX5) (N := 11) hx hb hts iX5_tell_X5 hown hK hP 0 rfl rfl 0 (by decide) (hts (.fieldLink RX5 10 "LeftIsAgreedOn" "now" "LLeftIsAgreedOn$Island;") (List.mem_of_getElem? (i := 1) rfl)) (fun _ h9 => h9) rfl dX5_tell_40 ?_
      refine va_getN (D := E.1) (ci := 0) (v := .int (c_now 1)) (C := RX0) (T := TX0) (N := 14) hx hb hts iX5_tell_X0 hown hK hP 1 rfl rfl 1 (by decide) (va_Nw.use rfl (hN.1 _ (List.mem_of_getElem? (i := 5) rfl))) (fun _ h9 => h9) rfl dX5_tell_43 ?_
      refine lv_istore_n (lv' := [(3, .int (c_now 1)), (0, .ref a_t), (1, .int l1), (2, .int l2)]) hx hb dX5_tell_46 rfl hl (by decide) rfl (fun ls hl => ?_)
      refine lv_aload_n hx hb dX5_tell_47 rfl (lv_at hl 1 rfl) ?_
      refine va_get (D := E.1) (ci := 5) (v := .ref a_now) (C := RX5) (T := TX5) (N := 11) hx hb hts iX5_tell_X5 hown hK hP 0 rfl rfl 0 (by decide) (hts (.fieldLink RX5 10 "LeftIsAgreedOn" "now" "LLeftIsAgreedOn$Island;") (List.mem_of_getElem? (i := 1) rfl)) (fun _ h9 => h9) rfl dX5_tell_48 ?_
      refine lv_iload_n hx hb dX5_tell_51 rfl (lv_at hl 3 rfl) ?_
      refine va_putN (D := E.1) (ci := 0) (v := .int l2) (ty := .int) (C := RX0) (T := TX0) (N := 14) hx hb hts iX5_tell_X0 tyX0 tyX0_ok nmX0 hown hK hP hD hS 1 rfl rfl 1 (by decide) (va_Nw.use rfl (hN.1 _ (List.mem_of_getElem? (i := 5) rfl))) (fun _ h9 => h9) rfl (tyX0_ok 1 (by decide)) rfl rfl (Nat.le_of_ble_eq_true rfl) dX5_tell_52 (fun H locs hP hD hS => ?_)
      have hP : va_P E.1 vwCl (W_X5_tell E a_t a_now a_refusals a_kept a_trial a_reader a_shelves a_one a_two a_search a_outs a_now_ponds a_now_kinds a_now_weights a_now_cells a_now_faces a_now_pledges c_t (upd c_now 1 l2) c_refusals) H := hP
      have hD : va_D A (W_X5_tell E a_t a_now a_refusals a_kept a_trial a_reader a_shelves a_one a_two a_search a_outs a_now_ponds a_now_kinds a_now_weights a_now_cells a_now_faces a_now_pledges c_t (upd c_now 1 l2) c_refusals) := hD
      refine lv_goto (tgt := 98) hx hb dX5_tell_55 (by decide) ?_
      refine lv_iload_n hx hb dX5_tell_98 rfl (lv_at hl 0 rfl) ?_
      obtain rfl := Option.some.inj h
      exact ret_i X dX5_tell_99 hP hD hS rfl
  · have h := if_t h hc25
    exact w_X5_tell_b28 X a_t a_now a_refusals a_kept a_trial a_reader a_shelves a_one a_two a_search a_outs a_now_ponds a_now_kinds a_now_weights a_now_cells a_now_faces a_now_pledges c_t res c_now c_refusals _ _ _ h hP hD hS (lv_sub hl [0] rfl)
set_option maxRecDepth 100000 in
set_option maxHeartbeats 4000000 in
theorem w_X5_tell (X : Ctx p m meth c cX5_tell 4 ((some .int)) s args wsX5_tell RX5 E A) (a_t : Nat) (a_now : Nat) (a_refusals : Nat) (a_kept : Nat) (a_trial : Nat) (a_reader : Nat) (a_shelves : Nat) (a_one : Nat) (a_two : Nat) (a_search : Nat) (a_outs : Nat) (a_now_ponds : Nat) (a_now_kinds : Nat) (a_now_weights : Nat) (a_now_cells : Nat) (a_now_faces : Nat) (a_now_pledges : Nat) (c_t : Nat → Int32) (res : Int32 × (Nat → Int32) × (Nat → Int32)) (c_now : Nat → Int32) (c_refusals : Nat → Int32) (l1 : Int32) (l2 : Int32) (ls : Array Slot) (H : Heap) (locs : List Loc) (h : f_X5_tell l1 l2 c_t c_now c_refusals = some res) (hP : va_P E.1 vwCl (W_X5_tell E a_t a_now a_refusals a_kept a_trial a_reader a_shelves a_one a_two a_search a_outs a_now_ponds a_now_kinds a_now_weights a_now_cells a_now_faces a_now_pledges c_t c_now c_refusals) H) (hD : va_D A (W_X5_tell E a_t a_now a_refusals a_kept a_trial a_reader a_shelves a_one a_two a_search a_outs a_now_ponds a_now_kinds a_now_weights a_now_cells a_now_faces a_now_pledges c_t c_now c_refusals)) (hS : va_S A s.heap H locs) (hl : lv_has ls 4 [(0, .ref a_t), (1, .int l1), (2, .int l2)]) : W p l e r_X5_tell s m args below meth c H locs 0 0 (MQ below (qI E A (res.1) (W_X5_tell E a_t a_now a_refusals a_kept a_trial a_reader a_shelves a_one a_two a_search a_outs a_now_ponds a_now_kinds a_now_weights a_now_cells a_now_faces a_now_pledges c_t (res.2.1) (res.2.2))) args s 0 0 A) (F0 m 0 ls []) := by
  obtain ⟨hx, hb, hml, hr, hlk, hown, hts, hG, hA⟩ := id X
  have hK := hG.1
  have hN := hG.2.1
  unfold f_X5_tell at h
  refine lv_iload_n hx hb dX5_tell_0 rfl (lv_at hl 1 rfl) ?_
  refine lv_iconst (v := (0 : Int32)) hx hb dX5_tell_1 (by decide) ?_
  refine lv_iconst (v := (2 : Int32)) hx hb dX5_tell_2 (by decide) ?_
  obtain ⟨v1, hv1, h⟩ := bind_of h
  refine after_i X (run_S X (c_X5_isWithin l E l1 (0 : Int32) (2 : Int32) H.size v1 hv1) (va_cwS 3 hts gX5_tell_X5_isWithin rfl rfl rfl hd_X5_isWithin ⟨(Nat.le_of_ble_eq_true rfl), (Nat.le_of_ble_eq_true rfl)⟩) hP hD hS [] rfl rfl hl.1 (rest := []) rfl rfl (Nat.le_of_ble_eq_true rfl) dX5_tell_3) hP hD hS [] [0, 1, 2] [0, 1, 2] rfl rfl rfl (by decide) rfl (ws1 := (W_X5_tell E a_t a_now a_refusals a_kept a_trial a_reader a_shelves a_one a_two a_search a_outs a_now_ponds a_now_kinds a_now_weights a_now_cells a_now_faces a_now_pledges c_t c_now c_refusals)) rfl (fun H locs hP hD hS => ?_)
  refine lv_if_eq (tgt := 28) hx hb dX5_tell_6 (by decide) (fun hc6 => ?_) (fun hc6 => ?_)
  · have h := if_t h hc6
    exact w_X5_tell_b28 X a_t a_now a_refusals a_kept a_trial a_reader a_shelves a_one a_two a_search a_outs a_now_ponds a_now_kinds a_now_weights a_now_cells a_now_faces a_now_pledges c_t res c_now c_refusals _ _ _ h hP hD hS (lv_sub hl [0] rfl)
  · have h := if_f h hc6
    refine lv_iload_n hx hb dX5_tell_9 rfl (lv_at hl 2 rfl) ?_
    refine lv_iconst (v := (0 : Int32)) hx hb dX5_tell_10 (by decide) ?_
    refine lv_iload_n hx hb dX5_tell_11 rfl (lv_at hl 1 rfl) ?_
    refine lv_iconst (v := (2 : Int32)) hx hb dX5_tell_12 (by decide) ?_
    refine lv_icmp_ne (tgt := 21) hx hb dX5_tell_13 (by decide) (fun hc13 => ?_) (fun hc13 => ?_)
    · have h := if_f h hc13
      refine lv_iconst (v := (1 : Int32)) hx hb dX5_tell_21 (by decide) ?_
      exact w_X5_tell_b22 X a_t a_now a_refusals a_kept a_trial a_reader a_shelves a_one a_two a_search a_outs a_now_ponds a_now_kinds a_now_weights a_now_cells a_now_faces a_now_pledges c_t res c_now c_refusals l1 l2 (1 : Int32) (0 : Int32) l2 _ _ _ h hP hD hS (lv_sub hl [0, 1, 2] rfl)
    · have h := if_t h hc13
      refine lv_bipush (v := (12 : Int32)) hx hb dX5_tell_16 (by decide) ?_
      refine lv_goto (tgt := 22) hx hb dX5_tell_18 (by decide) ?_
      exact w_X5_tell_b22 X a_t a_now a_refusals a_kept a_trial a_reader a_shelves a_one a_two a_search a_outs a_now_ponds a_now_kinds a_now_weights a_now_cells a_now_faces a_now_pledges c_t res c_now c_refusals l1 l2 (12 : Int32) (0 : Int32) l2 _ _ _ h hP hD hS (lv_sub hl [0, 1, 2] rfl)
end
set_option maxRecDepth 100000 in
theorem c_X5_tell (l : Launch) (E : Env0) (a_t : Nat) (a_now : Nat) (a_refusals : Nat) (a_kept : Nat) (a_trial : Nat) (a_reader : Nat) (a_shelves : Nat) (a_one : Nat) (a_two : Nat) (a_search : Nat) (a_outs : Nat) (a_now_ponds : Nat) (a_now_kinds : Nat) (a_now_weights : Nat) (a_now_cells : Nat) (a_now_faces : Nat) (a_now_pledges : Nat) (l1 : Int32) (l2 : Int32) (c_t : Nat → Int32) (c_now : Nat → Int32) (c_refusals : Nat → Int32) (sz : Nat) (res : Int32 × (Nat → Int32) × (Nat → Int32)) (h : f_X5_tell l1 l2 c_t c_now c_refusals = some res) : Met l yX5_tell wsX5_tell r_X5_tell (cPre E [.ref a_t, .int l1, .int l2] (W_X5_tell E a_t a_now a_refusals a_kept a_trial a_reader a_shelves a_one a_two a_search a_outs a_now_ponds a_now_kinds a_now_weights a_now_cells a_now_faces a_now_pledges c_t c_now c_refusals) sz) (qI E (va_A (W_X5_tell E a_t a_now a_refusals a_kept a_trial a_reader a_shelves a_one a_two a_search a_outs a_now_ponds a_now_kinds a_now_weights a_now_cells a_now_faces a_now_pledges c_t c_now c_refusals) sz) (res.1) (W_X5_tell E a_t a_now a_refusals a_kept a_trial a_reader a_shelves a_one a_two a_search a_outs a_now_ponds a_now_kinds a_now_weights a_now_cells a_now_faces a_now_pledges c_t (res.2.1) (res.2.2))) 0 0 (va_A (W_X5_tell E a_t a_now a_refusals a_kept a_trial a_reader a_shelves a_one a_two a_search a_outs a_now_ponds a_now_kinds a_now_weights a_now_cells a_now_faces a_now_pledges c_t c_now c_refusals) sz) :=
  met_of (Qc := fun A => qI E A (res.1) (W_X5_tell E a_t a_now a_refusals a_kept a_trial a_reader a_shelves a_one a_two a_search a_outs a_now_ponds a_now_kinds a_now_weights a_now_cells a_now_faces a_now_pledges c_t (res.2.1) (res.2.2))) (by decide) rfl (Nat.le_of_ble_eq_true rfl) (fun p e s m args below meth c X hP hD hS ls hl => w_X5_tell X a_t a_now a_refusals a_kept a_trial a_reader a_shelves a_one a_two a_search a_outs a_now_ponds a_now_kinds a_now_weights a_now_cells a_now_faces a_now_pledges c_t res c_now c_refusals l1 l2 ls _ _ h hP hD hS hl)
-- ===== X5_isFor
abbrev W_X5_isFor (E : Env0) (a_t : Nat) (a_now : Nat) (a_now_pledges : Nat) (a_refusals : Nat) (a_kept : Nat) (a_trial : Nat) (a_reader : Nat) (a_shelves : Nat) (a_one : Nat) (a_two : Nat) (a_search : Nat) (a_outs : Nat) (a_now_ponds : Nat) (a_now_kinds : Nat) (a_now_weights : Nat) (a_now_cells : Nat) (a_now_faces : Nat) (c_t : Nat → Int32) (c_now : Nat → Int32) (c_now_pledges : Nat → Int32) (c_refusals : Nat → Int32) : va_W := [(a_t, .inr (5, [.ref a_now, .ref a_kept, .ref a_trial, .ref a_reader, .ref a_shelves, .ref a_one, .ref a_two, .ref a_search, .ref a_outs, .ref a_refusals, .int (c_t 10)])), (a_now, .inr (0, [.int (c_now 0), .int (c_now 1), .int (c_now 2), .int (c_now 3), .int (c_now 4), .int (c_now 5), .int (c_now 6), .int (c_now 7), .ref a_now_ponds, .ref a_now_kinds, .ref a_now_weights, .ref a_now_cells, .ref a_now_faces, .ref a_now_pledges])), (a_now_pledges, .inl (eI E, 8, .inl c_now_pledges)), (a_refusals, .inl (eI E, 5, .inl c_refusals))]
abbrev r_X5_isFor : Room := { frames := 2, cells := 0, slots := 0, locals := 43 }
theorem hd_X5_isFor : yX5_isFor.cls ≠ "java/lang/invoke/MethodHandle" ∧ yX5_isFor.cls ≠ "java/lang/invoke/VarHandle" ∧ (parseMethodDescriptor yX5_isFor.desc).map (fun d => d.parameters.length) = some 2 := by decide +kernel
theorem hV_X5_isFor : yX5_isFor.cls = RX5 ∧ yX5_isFor.cls ≠ "java/lang/invoke/MethodHandle" ∧ yX5_isFor.cls ≠ "java/lang/invoke/VarHandle" ∧ (parseMethodDescriptor yX5_isFor.desc).map (fun d => d.parameters.length) = some 2 := ⟨rfl, hd_X5_isFor⟩
theorem iX5_isFor_X0 : ∀ w ∈ wsX00, w ∈ wsX5_isFor := fun _ h => List.mem_cons_of_mem _ (List.mem_append_right _ (h))
theorem iX5_isFor_X5 : ∀ w ∈ wsX50, w ∈ wsX5_isFor := fun _ h => List.mem_cons_of_mem _ (List.mem_append_left _ (List.mem_append_right _ (h)))
section
variable {p : Program} {l : Launch} {e : Env} {s : State} {m : MethodId} {args : Array Value} {below : List Frame} {meth : Method} {c : Code} {E : Env0} {A : Nat → Prop}
set_option maxRecDepth 100000 in
set_option maxHeartbeats 4000000 in
theorem w_X5_isFor_b20 (X : Ctx p m meth c cX5_isFor 4 ((some .int)) s args wsX5_isFor RX5 E A) (a_t : Nat) (a_now : Nat) (a_now_pledges : Nat) (a_refusals : Nat) (a_kept : Nat) (a_trial : Nat) (a_reader : Nat) (a_shelves : Nat) (a_one : Nat) (a_two : Nat) (a_search : Nat) (a_outs : Nat) (a_now_ponds : Nat) (a_now_kinds : Nat) (a_now_weights : Nat) (a_now_cells : Nat) (a_now_faces : Nat) (c_t : Nat → Int32) (c_now : Nat → Int32) (res : Int32 × (Nat → Int32) × (Nat → Int32)) (c_now_pledges : Nat → Int32) (c_refusals : Nat → Int32) (ls : Array Slot) (H : Heap) (locs : List Loc) (h : f_X5_isFor_b20 c_t c_now c_now_pledges c_refusals = some res) (hP : va_P E.1 vwCl (W_X5_isFor E a_t a_now a_now_pledges a_refusals a_kept a_trial a_reader a_shelves a_one a_two a_search a_outs a_now_ponds a_now_kinds a_now_weights a_now_cells a_now_faces c_t c_now c_now_pledges c_refusals) H) (hD : va_D A (W_X5_isFor E a_t a_now a_now_pledges a_refusals a_kept a_trial a_reader a_shelves a_one a_two a_search a_outs a_now_ponds a_now_kinds a_now_weights a_now_cells a_now_faces c_t c_now c_now_pledges c_refusals)) (hS : va_S A s.heap H locs) (hl : lv_has ls 4 [(0, .ref a_t)]) : W p l e r_X5_isFor s m args below meth c H locs 0 0 (MQ below (qI E A (res.1) (W_X5_isFor E a_t a_now a_now_pledges a_refusals a_kept a_trial a_reader a_shelves a_one a_two a_search a_outs a_now_ponds a_now_kinds a_now_weights a_now_cells a_now_faces c_t c_now (res.2.1) (res.2.2))) args s 0 0 A) (F0 m 20 ls []) := by
  obtain ⟨hx, hb, hml, hr, hlk, hown, hts, hG, hA⟩ := id X
  have hK := hG.1
  have hN := hG.2.1
  unfold f_X5_isFor_b20 at h
  refine lv_aload_n hx hb dX5_isFor_20 rfl (lv_at hl 0 rfl) ?_
  refine lv_bipush (v := (-2 : Int32)) hx hb dX5_isFor_21 (by decide) ?_
  obtain ⟨v1, hv1, h⟩ := bind_of h
  refine after_i X (run_V X (c_X5_refuse l E a_t a_refusals a_now a_kept a_trial a_reader a_shelves a_one a_two a_search a_outs (-2 : Int32) c_t c_refusals H.size v1 hv1) (cwV 1 hts gX5_isFor_X5_refuse rfl rfl rfl hV_X5_refuse ⟨(Nat.le_of_ble_eq_true rfl), (Nat.le_of_ble_eq_true rfl)⟩) hP hD hS [0, 3] rfl rfl hl.1 (ci := 5) rfl rfl rfl (rest := []) rfl rfl (Nat.le_of_ble_eq_true rfl) dX5_isFor_23) hP hD hS [0, 3] [1, 2] [2, 0, 1, 3] rfl rfl rfl (by decide) rfl (ws1 := (W_X5_isFor E a_t a_now a_now_pledges a_refusals a_kept a_trial a_reader a_shelves a_one a_two a_search a_outs a_now_ponds a_now_kinds a_now_weights a_now_cells a_now_faces c_t c_now c_now_pledges (v1.2))) rfl (fun H locs hP hD hS => ?_)
  obtain rfl := Option.some.inj h
  exact ret_i X dX5_isFor_26 hP hD hS rfl
set_option maxRecDepth 100000 in
set_option maxHeartbeats 4000000 in
theorem w_X5_isFor (X : Ctx p m meth c cX5_isFor 4 ((some .int)) s args wsX5_isFor RX5 E A) (a_t : Nat) (a_now : Nat) (a_now_pledges : Nat) (a_refusals : Nat) (a_kept : Nat) (a_trial : Nat) (a_reader : Nat) (a_shelves : Nat) (a_one : Nat) (a_two : Nat) (a_search : Nat) (a_outs : Nat) (a_now_ponds : Nat) (a_now_kinds : Nat) (a_now_weights : Nat) (a_now_cells : Nat) (a_now_faces : Nat) (c_t : Nat → Int32) (c_now : Nat → Int32) (res : Int32 × (Nat → Int32) × (Nat → Int32)) (c_now_pledges : Nat → Int32) (c_refusals : Nat → Int32) (l1 : Int32) (l2 : Int32) (ls : Array Slot) (H : Heap) (locs : List Loc) (h : f_X5_isFor l1 l2 c_t c_now c_now_pledges c_refusals = some res) (hP : va_P E.1 vwCl (W_X5_isFor E a_t a_now a_now_pledges a_refusals a_kept a_trial a_reader a_shelves a_one a_two a_search a_outs a_now_ponds a_now_kinds a_now_weights a_now_cells a_now_faces c_t c_now c_now_pledges c_refusals) H) (hD : va_D A (W_X5_isFor E a_t a_now a_now_pledges a_refusals a_kept a_trial a_reader a_shelves a_one a_two a_search a_outs a_now_ponds a_now_kinds a_now_weights a_now_cells a_now_faces c_t c_now c_now_pledges c_refusals)) (hS : va_S A s.heap H locs) (hl : lv_has ls 4 [(0, .ref a_t), (1, .int l1), (2, .int l2)]) : W p l e r_X5_isFor s m args below meth c H locs 0 0 (MQ below (qI E A (res.1) (W_X5_isFor E a_t a_now a_now_pledges a_refusals a_kept a_trial a_reader a_shelves a_one a_two a_search a_outs a_now_ponds a_now_kinds a_now_weights a_now_cells a_now_faces c_t c_now (res.2.1) (res.2.2))) args s 0 0 A) (F0 m 0 ls []) := by
  obtain ⟨hx, hb, hml, hr, hlk, hown, hts, hG, hA⟩ := id X
  have hK := hG.1
  have hN := hG.2.1
  unfold f_X5_isFor at h
  refine lv_aload_n hx hb dX5_isFor_0 rfl (lv_at hl 0 rfl) ?_
  refine va_get (D := E.1) (ci := 5) (v := .ref a_now) (C := RX5) (T := TX5) (N := 11) hx hb hts iX5_isFor_X5 hown hK hP 0 rfl rfl 0 (by decide) (hts (.fieldLink RX5 10 "LeftIsAgreedOn" "now" "LLeftIsAgreedOn$Island;") (List.mem_of_getElem? (i := 1) rfl)) (fun _ h9 => h9) rfl dX5_isFor_1 ?_
  refine lv_iload_n hx hb dX5_isFor_4 rfl (lv_at hl 1 rfl) ?_
  obtain ⟨v1, hv1, h⟩ := bind_of h
  refine after_i X (run_V X (c_X0_isOne l E a_now a_now_ponds a_now_kinds a_now_weights a_now_cells a_now_faces a_now_pledges l1 c_now H.size v1 hv1) (cwV 1 hts gX5_isFor_X0_isOne rfl rfl rfl hV_X0_isOne ⟨(Nat.le_of_ble_eq_true rfl), (Nat.le_of_ble_eq_true rfl)⟩) hP hD hS [1] rfl rfl hl.1 (ci := 0) rfl rfl rfl (rest := []) rfl rfl (Nat.le_of_ble_eq_true rfl) dX5_isFor_5) hP hD hS [1] [0, 2, 3] [0, 3, 1, 2] rfl rfl rfl (by decide) rfl (ws1 := (W_X5_isFor E a_t a_now a_now_pledges a_refusals a_kept a_trial a_reader a_shelves a_one a_two a_search a_outs a_now_ponds a_now_kinds a_now_weights a_now_cells a_now_faces c_t c_now c_now_pledges c_refusals)) rfl (fun H locs hP hD hS => ?_)
  refine lv_if_eq (tgt := 20) hx hb dX5_isFor_8 (by decide) (fun hc8 => ?_) (fun hc8 => ?_)
  · have h := if_t h hc8
    exact w_X5_isFor_b20 X a_t a_now a_now_pledges a_refusals a_kept a_trial a_reader a_shelves a_one a_two a_search a_outs a_now_ponds a_now_kinds a_now_weights a_now_cells a_now_faces c_t c_now res c_now_pledges c_refusals _ _ _ h hP hD hS (lv_sub hl [0] rfl)
  · have h := if_f h hc8
    refine lv_iload_n hx hb dX5_isFor_11 rfl (lv_at hl 2 rfl) ?_
    refine lv_iconst (v := (0 : Int32)) hx hb dX5_isFor_12 (by decide) ?_
    refine lv_iconst (v := (1 : Int32)) hx hb dX5_isFor_13 (by decide) ?_
    obtain ⟨v2, hv2, h⟩ := bind_of h
    refine after_i X (run_S X (c_X5_isWithin l E l2 (0 : Int32) (1 : Int32) H.size v2 hv2) (va_cwS 3 hts gX5_isFor_X5_isWithin rfl rfl rfl hd_X5_isWithin ⟨(Nat.le_of_ble_eq_true rfl), (Nat.le_of_ble_eq_true rfl)⟩) hP hD hS [] rfl rfl hl.1 (rest := []) rfl rfl (Nat.le_of_ble_eq_true rfl) dX5_isFor_14) hP hD hS [] [0, 1, 2, 3] [0, 1, 2, 3] rfl rfl rfl (by decide) rfl (ws1 := (W_X5_isFor E a_t a_now a_now_pledges a_refusals a_kept a_trial a_reader a_shelves a_one a_two a_search a_outs a_now_ponds a_now_kinds a_now_weights a_now_cells a_now_faces c_t c_now c_now_pledges c_refusals)) rfl (fun H locs hP hD hS => ?_)
    refine lv_if_ne (tgt := 27) hx hb dX5_isFor_17 (by decide) (fun hc17 => ?_) (fun hc17 => ?_)
    · have h := if_f h hc17
      refine lv_aload_n hx hb dX5_isFor_27 rfl (lv_at hl 0 rfl) ?_
      refine va_get (D := E.1) (ci := 5) (v := .ref a_now) (C := RX5) (T := TX5) (N := 11) hx hb hts iX5_isFor_X5 hown hK hP 0 rfl rfl 0 (by decide) (hts (.fieldLink RX5 10 "LeftIsAgreedOn" "now" "LLeftIsAgreedOn$Island;") (List.mem_of_getElem? (i := 1) rfl)) (fun _ h9 => h9) rfl dX5_isFor_28 ?_
      refine va_getN (D := E.1) (ci := 0) (v := .ref a_now_pledges) (C := RX0) (T := TX0) (N := 14) hx hb hts iX5_isFor_X0 hown hK hP 1 rfl rfl 13 (by decide) (va_Nw.use rfl (hN.1 _ (List.mem_of_getElem? (i := 8) rfl))) (fun _ h9 => h9) rfl dX5_isFor_31 ?_
      refine lv_iload_n hx hb dX5_isFor_34 rfl (lv_at hl 1 rfl) ?_
      obtain ⟨hz35, h⟩ := chk_of h
      refine ld_i X hP 2 rfl (inb.vp hz35) (v := (c_now_pledges (l1).toNatClampNeg)) rfl dX5_isFor_35 ?_
      refine lv_istore_n (lv' := [(3, .int (c_now_pledges (l1).toNatClampNeg)), (0, .ref a_t), (1, .int l1), (2, .int l2)]) hx hb dX5_isFor_36 rfl hl (by decide) rfl (fun ls hl => ?_)
      refine lv_aload_n hx hb dX5_isFor_37 rfl (lv_at hl 1 rfl) ?_
      refine va_get (D := E.1) (ci := 5) (v := .ref a_now) (C := RX5) (T := TX5) (N := 11) hx hb hts iX5_isFor_X5 hown hK hP 0 rfl rfl 0 (by decide) (hts (.fieldLink RX5 10 "LeftIsAgreedOn" "now" "LLeftIsAgreedOn$Island;") (List.mem_of_getElem? (i := 1) rfl)) (fun _ h9 => h9) rfl dX5_isFor_38 ?_
      refine va_getN (D := E.1) (ci := 0) (v := .ref a_now_pledges) (C := RX0) (T := TX0) (N := 14) hx hb hts iX5_isFor_X0 hown hK hP 1 rfl rfl 13 (by decide) (va_Nw.use rfl (hN.1 _ (List.mem_of_getElem? (i := 8) rfl))) (fun _ h9 => h9) rfl dX5_isFor_41 ?_
      refine lv_iload_n hx hb dX5_isFor_44 rfl (lv_at hl 2 rfl) ?_
      refine lv_iload_n hx hb dX5_isFor_45 rfl (lv_at hl 3 rfl) ?_
      obtain ⟨hz46, h⟩ := chk_of h
      refine st_i X hP hD hS 2 rfl (inb.vp hz46) (k := (l1).toNatClampNeg) rfl (ws1 := (W_X5_isFor E a_t a_now a_now_pledges a_refusals a_kept a_trial a_reader a_shelves a_one a_two a_search a_outs a_now_ponds a_now_kinds a_now_weights a_now_cells a_now_faces c_t c_now (upd c_now_pledges ((l1).toNatClampNeg) l2) c_refusals)) rfl dX5_isFor_46 (fun H locs hP hD hS => ?_)
      refine lv_iload_n hx hb dX5_isFor_47 rfl (lv_at hl 0 rfl) ?_
      obtain rfl := Option.some.inj h
      exact ret_i X dX5_isFor_48 hP hD hS rfl
    · have h := if_t h hc17
      exact w_X5_isFor_b20 X a_t a_now a_now_pledges a_refusals a_kept a_trial a_reader a_shelves a_one a_two a_search a_outs a_now_ponds a_now_kinds a_now_weights a_now_cells a_now_faces c_t c_now res c_now_pledges c_refusals _ _ _ h hP hD hS (lv_sub hl [0] rfl)
end
set_option maxRecDepth 100000 in
theorem c_X5_isFor (l : Launch) (E : Env0) (a_t : Nat) (a_now : Nat) (a_now_pledges : Nat) (a_refusals : Nat) (a_kept : Nat) (a_trial : Nat) (a_reader : Nat) (a_shelves : Nat) (a_one : Nat) (a_two : Nat) (a_search : Nat) (a_outs : Nat) (a_now_ponds : Nat) (a_now_kinds : Nat) (a_now_weights : Nat) (a_now_cells : Nat) (a_now_faces : Nat) (l1 : Int32) (l2 : Int32) (c_t : Nat → Int32) (c_now : Nat → Int32) (c_now_pledges : Nat → Int32) (c_refusals : Nat → Int32) (sz : Nat) (res : Int32 × (Nat → Int32) × (Nat → Int32)) (h : f_X5_isFor l1 l2 c_t c_now c_now_pledges c_refusals = some res) : Met l yX5_isFor wsX5_isFor r_X5_isFor (cPre E [.ref a_t, .int l1, .int l2] (W_X5_isFor E a_t a_now a_now_pledges a_refusals a_kept a_trial a_reader a_shelves a_one a_two a_search a_outs a_now_ponds a_now_kinds a_now_weights a_now_cells a_now_faces c_t c_now c_now_pledges c_refusals) sz) (qI E (va_A (W_X5_isFor E a_t a_now a_now_pledges a_refusals a_kept a_trial a_reader a_shelves a_one a_two a_search a_outs a_now_ponds a_now_kinds a_now_weights a_now_cells a_now_faces c_t c_now c_now_pledges c_refusals) sz) (res.1) (W_X5_isFor E a_t a_now a_now_pledges a_refusals a_kept a_trial a_reader a_shelves a_one a_two a_search a_outs a_now_ponds a_now_kinds a_now_weights a_now_cells a_now_faces c_t c_now (res.2.1) (res.2.2))) 0 0 (va_A (W_X5_isFor E a_t a_now a_now_pledges a_refusals a_kept a_trial a_reader a_shelves a_one a_two a_search a_outs a_now_ponds a_now_kinds a_now_weights a_now_cells a_now_faces c_t c_now c_now_pledges c_refusals) sz) :=
  met_of (Qc := fun A => qI E A (res.1) (W_X5_isFor E a_t a_now a_now_pledges a_refusals a_kept a_trial a_reader a_shelves a_one a_two a_search a_outs a_now_ponds a_now_kinds a_now_weights a_now_cells a_now_faces c_t c_now (res.2.1) (res.2.2))) (by decide) rfl (Nat.le_of_ble_eq_true rfl) (fun p e s m args below meth c X hP hD hS ls hl => w_X5_isFor X a_t a_now a_now_pledges a_refusals a_kept a_trial a_reader a_shelves a_one a_two a_search a_outs a_now_ponds a_now_kinds a_now_weights a_now_cells a_now_faces c_t c_now res c_now_pledges c_refusals l1 l2 ls _ _ h hP hD hS hl)
-- ===== X5_put
abbrev W_X5_put (E : Env0) (a_t : Nat) (a_now : Nat) (a_now_cells : Nat) (a_now_faces : Nat) (a_now_ponds : Nat) (a_refusals : Nat) (a_kept : Nat) (a_trial : Nat) (a_reader : Nat) (a_shelves : Nat) (a_one : Nat) (a_two : Nat) (a_search : Nat) (a_outs : Nat) (a_now_kinds : Nat) (a_now_weights : Nat) (a_now_pledges : Nat) (c_t : Nat → Int32) (c_now : Nat → Int32) (c_now_cells : Nat → Int32) (c_now_faces : Nat → Int32) (c_now_ponds : Nat → Int32) (c_refusals : Nat → Int32) : va_W := [(a_t, .inr (5, [.ref a_now, .ref a_kept, .ref a_trial, .ref a_reader, .ref a_shelves, .ref a_one, .ref a_two, .ref a_search, .ref a_outs, .ref a_refusals, .int (c_t 10)])), (a_now, .inr (0, [.int (c_now 0), .int (c_now 1), .int (c_now 2), .int (c_now 3), .int (c_now 4), .int (c_now 5), .int (c_now 6), .int (c_now 7), .ref a_now_ponds, .ref a_now_kinds, .ref a_now_weights, .ref a_now_cells, .ref a_now_faces, .ref a_now_pledges])), (a_now_cells, .inl (eI E, 8, .inl c_now_cells)), (a_now_faces, .inl (eI E, 8, .inl c_now_faces)), (a_now_ponds, .inl (eZ E, 70, .inl c_now_ponds)), (a_refusals, .inl (eI E, 5, .inl c_refusals))]
abbrev r_X5_put : Room := { frames := 2, cells := 0, slots := 0, locals := 43 }
theorem hd_X5_put : yX5_put.cls ≠ "java/lang/invoke/MethodHandle" ∧ yX5_put.cls ≠ "java/lang/invoke/VarHandle" ∧ (parseMethodDescriptor yX5_put.desc).map (fun d => d.parameters.length) = some 3 := by decide +kernel
theorem hV_X5_put : yX5_put.cls = RX5 ∧ yX5_put.cls ≠ "java/lang/invoke/MethodHandle" ∧ yX5_put.cls ≠ "java/lang/invoke/VarHandle" ∧ (parseMethodDescriptor yX5_put.desc).map (fun d => d.parameters.length) = some 3 := ⟨rfl, hd_X5_put⟩
theorem iX5_put_X0 : ∀ w ∈ wsX00, w ∈ wsX5_put := fun _ h => List.mem_cons_of_mem _ (List.mem_append_right _ (h))
theorem iX5_put_X5 : ∀ w ∈ wsX50, w ∈ wsX5_put := fun _ h => List.mem_cons_of_mem _ (List.mem_append_left _ (List.mem_append_right _ (h)))
section
variable {p : Program} {l : Launch} {e : Env} {s : State} {m : MethodId} {args : Array Value} {below : List Frame} {meth : Method} {c : Code} {E : Env0} {A : Nat → Prop}
set_option maxRecDepth 100000 in
set_option maxHeartbeats 4000000 in
theorem w_X5_put_b29 (X : Ctx p m meth c cX5_put 5 ((some .int)) s args wsX5_put RX5 E A) (a_t : Nat) (a_now : Nat) (a_now_cells : Nat) (a_now_faces : Nat) (a_now_ponds : Nat) (a_refusals : Nat) (a_kept : Nat) (a_trial : Nat) (a_reader : Nat) (a_shelves : Nat) (a_one : Nat) (a_two : Nat) (a_search : Nat) (a_outs : Nat) (a_now_kinds : Nat) (a_now_weights : Nat) (a_now_pledges : Nat) (c_t : Nat → Int32) (c_now : Nat → Int32) (c_now_ponds : Nat → Int32) (res : Int32 × (Nat → Int32) × (Nat → Int32) × (Nat → Int32)) (c_now_cells : Nat → Int32) (c_now_faces : Nat → Int32) (c_refusals : Nat → Int32) (ls : Array Slot) (H : Heap) (locs : List Loc) (h : f_X5_put_b29 c_t c_now c_now_ponds c_now_cells c_now_faces c_refusals = some res) (hP : va_P E.1 vwCl (W_X5_put E a_t a_now a_now_cells a_now_faces a_now_ponds a_refusals a_kept a_trial a_reader a_shelves a_one a_two a_search a_outs a_now_kinds a_now_weights a_now_pledges c_t c_now c_now_cells c_now_faces c_now_ponds c_refusals) H) (hD : va_D A (W_X5_put E a_t a_now a_now_cells a_now_faces a_now_ponds a_refusals a_kept a_trial a_reader a_shelves a_one a_two a_search a_outs a_now_kinds a_now_weights a_now_pledges c_t c_now c_now_cells c_now_faces c_now_ponds c_refusals)) (hS : va_S A s.heap H locs) (hl : lv_has ls 5 [(0, .ref a_t)]) : W p l e r_X5_put s m args below meth c H locs 0 0 (MQ below (qI E A (res.1) (W_X5_put E a_t a_now a_now_cells a_now_faces a_now_ponds a_refusals a_kept a_trial a_reader a_shelves a_one a_two a_search a_outs a_now_kinds a_now_weights a_now_pledges c_t c_now (res.2.1) (res.2.2.1) c_now_ponds (res.2.2.2))) args s 0 0 A) (F0 m 29 ls []) := by
  obtain ⟨hx, hb, hml, hr, hlk, hown, hts, hG, hA⟩ := id X
  have hK := hG.1
  have hN := hG.2.1
  unfold f_X5_put_b29 at h
  refine lv_aload_n hx hb dX5_put_29 rfl (lv_at hl 0 rfl) ?_
  refine lv_bipush (v := (-2 : Int32)) hx hb dX5_put_30 (by decide) ?_
  obtain ⟨v1, hv1, h⟩ := bind_of h
  refine after_i X (run_V X (c_X5_refuse l E a_t a_refusals a_now a_kept a_trial a_reader a_shelves a_one a_two a_search a_outs (-2 : Int32) c_t c_refusals H.size v1 hv1) (cwV 1 hts gX5_put_X5_refuse rfl rfl rfl hV_X5_refuse ⟨(Nat.le_of_ble_eq_true rfl), (Nat.le_of_ble_eq_true rfl)⟩) hP hD hS [0, 5] rfl rfl hl.1 (ci := 5) rfl rfl rfl (rest := []) rfl rfl (Nat.le_of_ble_eq_true rfl) dX5_put_32) hP hD hS [0, 5] [1, 2, 3, 4] [4, 0, 1, 2, 3, 5] rfl rfl rfl (by decide) rfl (ws1 := (W_X5_put E a_t a_now a_now_cells a_now_faces a_now_ponds a_refusals a_kept a_trial a_reader a_shelves a_one a_two a_search a_outs a_now_kinds a_now_weights a_now_pledges c_t c_now c_now_cells c_now_faces c_now_ponds (v1.2))) rfl (fun H locs hP hD hS => ?_)
  obtain rfl := Option.some.inj h
  exact ret_i X dX5_put_35 hP hD hS rfl
set_option maxRecDepth 100000 in
set_option maxHeartbeats 4000000 in
theorem w_X5_put (X : Ctx p m meth c cX5_put 5 ((some .int)) s args wsX5_put RX5 E A) (a_t : Nat) (a_now : Nat) (a_now_cells : Nat) (a_now_faces : Nat) (a_now_ponds : Nat) (a_refusals : Nat) (a_kept : Nat) (a_trial : Nat) (a_reader : Nat) (a_shelves : Nat) (a_one : Nat) (a_two : Nat) (a_search : Nat) (a_outs : Nat) (a_now_kinds : Nat) (a_now_weights : Nat) (a_now_pledges : Nat) (c_t : Nat → Int32) (c_now : Nat → Int32) (c_now_ponds : Nat → Int32) (res : Int32 × (Nat → Int32) × (Nat → Int32) × (Nat → Int32)) (c_now_cells : Nat → Int32) (c_now_faces : Nat → Int32) (c_refusals : Nat → Int32) (l1 : Int32) (l2 : Int32) (l3 : Int32) (ls : Array Slot) (H : Heap) (locs : List Loc) (h : f_X5_put l1 l2 l3 c_t c_now c_now_cells c_now_faces c_now_ponds c_refusals = some res) (hP : va_P E.1 vwCl (W_X5_put E a_t a_now a_now_cells a_now_faces a_now_ponds a_refusals a_kept a_trial a_reader a_shelves a_one a_two a_search a_outs a_now_kinds a_now_weights a_now_pledges c_t c_now c_now_cells c_now_faces c_now_ponds c_refusals) H) (hD : va_D A (W_X5_put E a_t a_now a_now_cells a_now_faces a_now_ponds a_refusals a_kept a_trial a_reader a_shelves a_one a_two a_search a_outs a_now_kinds a_now_weights a_now_pledges c_t c_now c_now_cells c_now_faces c_now_ponds c_refusals)) (hS : va_S A s.heap H locs) (hl : lv_has ls 5 [(0, .ref a_t), (1, .int l1), (2, .int l2), (3, .int l3)]) : W p l e r_X5_put s m args below meth c H locs 0 0 (MQ below (qI E A (res.1) (W_X5_put E a_t a_now a_now_cells a_now_faces a_now_ponds a_refusals a_kept a_trial a_reader a_shelves a_one a_two a_search a_outs a_now_kinds a_now_weights a_now_pledges c_t c_now (res.2.1) (res.2.2.1) c_now_ponds (res.2.2.2))) args s 0 0 A) (F0 m 0 ls []) := by
  obtain ⟨hx, hb, hml, hr, hlk, hown, hts, hG, hA⟩ := id X
  have hK := hG.1
  have hN := hG.2.1
  unfold f_X5_put at h
  refine lv_aload_n hx hb dX5_put_0 rfl (lv_at hl 0 rfl) ?_
  refine va_get (D := E.1) (ci := 5) (v := .ref a_now) (C := RX5) (T := TX5) (N := 11) hx hb hts iX5_put_X5 hown hK hP 0 rfl rfl 0 (by decide) (hts (.fieldLink RX5 10 "LeftIsAgreedOn" "now" "LLeftIsAgreedOn$Island;") (List.mem_of_getElem? (i := 1) rfl)) (fun _ h9 => h9) rfl dX5_put_1 ?_
  refine lv_iload_n hx hb dX5_put_4 rfl (lv_at hl 1 rfl) ?_
  obtain ⟨v1, hv1, h⟩ := bind_of h
  refine after_i X (run_V X (c_X0_isOne l E a_now a_now_ponds a_now_kinds a_now_weights a_now_cells a_now_faces a_now_pledges l1 c_now H.size v1 hv1) (cwV 1 hts gX5_put_X0_isOne rfl rfl rfl hV_X0_isOne ⟨(Nat.le_of_ble_eq_true rfl), (Nat.le_of_ble_eq_true rfl)⟩) hP hD hS [1] rfl rfl hl.1 (ci := 0) rfl rfl rfl (rest := []) rfl rfl (Nat.le_of_ble_eq_true rfl) dX5_put_5) hP hD hS [1] [0, 2, 3, 4, 5] [0, 5, 1, 2, 3, 4] rfl rfl rfl (by decide) rfl (ws1 := (W_X5_put E a_t a_now a_now_cells a_now_faces a_now_ponds a_refusals a_kept a_trial a_reader a_shelves a_one a_two a_search a_outs a_now_kinds a_now_weights a_now_pledges c_t c_now c_now_cells c_now_faces c_now_ponds c_refusals)) rfl (fun H locs hP hD hS => ?_)
  refine lv_if_eq (tgt := 29) hx hb dX5_put_8 (by decide) (fun hc8 => ?_) (fun hc8 => ?_)
  · have h := if_t h hc8
    exact w_X5_put_b29 X a_t a_now a_now_cells a_now_faces a_now_ponds a_refusals a_kept a_trial a_reader a_shelves a_one a_two a_search a_outs a_now_kinds a_now_weights a_now_pledges c_t c_now c_now_ponds res c_now_cells c_now_faces c_refusals _ _ _ h hP hD hS (lv_sub hl [0] rfl)
  · have h := if_f h hc8
    refine lv_aload_n hx hb dX5_put_11 rfl (lv_at hl 0 rfl) ?_
    refine va_get (D := E.1) (ci := 5) (v := .ref a_now) (C := RX5) (T := TX5) (N := 11) hx hb hts iX5_put_X5 hown hK hP 0 rfl rfl 0 (by decide) (hts (.fieldLink RX5 10 "LeftIsAgreedOn" "now" "LLeftIsAgreedOn$Island;") (List.mem_of_getElem? (i := 1) rfl)) (fun _ h9 => h9) rfl dX5_put_12 ?_
    refine lv_iload_n hx hb dX5_put_15 rfl (lv_at hl 2 rfl) ?_
    obtain ⟨v2, hv2, h⟩ := bind_of h
    refine after_i X (run_V X (c_X0_isCell l E a_now a_now_ponds a_now_kinds a_now_weights a_now_cells a_now_faces a_now_pledges l2 c_now H.size v2 hv2) (cwV 1 hts gX5_put_X0_isCell rfl rfl rfl hV_X0_isCell ⟨(Nat.le_of_ble_eq_true rfl), (Nat.le_of_ble_eq_true rfl)⟩) hP hD hS [1] rfl rfl hl.1 (ci := 0) rfl rfl rfl (rest := []) rfl rfl (Nat.le_of_ble_eq_true rfl) dX5_put_16) hP hD hS [1] [0, 2, 3, 4, 5] [0, 5, 1, 2, 3, 4] rfl rfl rfl (by decide) rfl (ws1 := (W_X5_put E a_t a_now a_now_cells a_now_faces a_now_ponds a_refusals a_kept a_trial a_reader a_shelves a_one a_two a_search a_outs a_now_kinds a_now_weights a_now_pledges c_t c_now c_now_cells c_now_faces c_now_ponds c_refusals)) rfl (fun H locs hP hD hS => ?_)
    refine lv_if_eq (tgt := 29) hx hb dX5_put_19 (by decide) (fun hc19 => ?_) (fun hc19 => ?_)
    · have h := if_t h hc19
      exact w_X5_put_b29 X a_t a_now a_now_cells a_now_faces a_now_ponds a_refusals a_kept a_trial a_reader a_shelves a_one a_two a_search a_outs a_now_kinds a_now_weights a_now_pledges c_t c_now c_now_ponds res c_now_cells c_now_faces c_refusals _ _ _ h hP hD hS (lv_sub hl [0] rfl)
    · have h := if_f h hc19
      refine lv_iload_n hx hb dX5_put_22 rfl (lv_at hl 3 rfl) ?_
      obtain ⟨v3, hv3, h⟩ := bind_of h
      refine after_i X (run_S X (c_X5_isFaces l E l3 H.size v3 hv3) (va_cwS 1 hts gX5_put_X5_isFaces rfl rfl rfl hd_X5_isFaces ⟨(Nat.le_of_ble_eq_true rfl), (Nat.le_of_ble_eq_true rfl)⟩) hP hD hS [] rfl rfl hl.1 (rest := []) rfl rfl (Nat.le_of_ble_eq_true rfl) dX5_put_23) hP hD hS [] [0, 1, 2, 3, 4, 5] [0, 1, 2, 3, 4, 5] rfl rfl rfl (by decide) rfl (ws1 := (W_X5_put E a_t a_now a_now_cells a_now_faces a_now_ponds a_refusals a_kept a_trial a_reader a_shelves a_one a_two a_search a_outs a_now_kinds a_now_weights a_now_pledges c_t c_now c_now_cells c_now_faces c_now_ponds c_refusals)) rfl (fun H locs hP hD hS => ?_)
      refine lv_if_ne (tgt := 36) hx hb dX5_put_26 (by decide) (fun hc26 => ?_) (fun hc26 => ?_)
      · have h := if_f h hc26
        refine lv_aload_n hx hb dX5_put_36 rfl (lv_at hl 0 rfl) ?_
        refine va_get (D := E.1) (ci := 5) (v := .ref a_now) (C := RX5) (T := TX5) (N := 11) hx hb hts iX5_put_X5 hown hK hP 0 rfl rfl 0 (by decide) (hts (.fieldLink RX5 10 "LeftIsAgreedOn" "now" "LLeftIsAgreedOn$Island;") (List.mem_of_getElem? (i := 1) rfl)) (fun _ h9 => h9) rfl dX5_put_37 ?_
        refine lv_iload_n hx hb dX5_put_40 rfl (lv_at hl 2 rfl) ?_
        obtain ⟨v4, hv4, h⟩ := bind_of h
        refine after_i X (run_V X (c_X0_hasPond l E a_now a_now_ponds a_now_kinds a_now_weights a_now_cells a_now_faces a_now_pledges l2 c_now c_now_ponds H.size v4 hv4) (cwV 1 hts gX5_put_X0_hasPond rfl rfl rfl hV_X0_hasPond ⟨(Nat.le_of_ble_eq_true rfl), (Nat.le_of_ble_eq_true rfl)⟩) hP hD hS [1, 4] rfl rfl hl.1 (ci := 0) rfl rfl rfl (rest := []) rfl rfl (Nat.le_of_ble_eq_true rfl) dX5_put_41) hP hD hS [1, 4] [0, 2, 3, 5] [0, 4, 1, 2, 5, 3] rfl rfl rfl (by decide) rfl (ws1 := (W_X5_put E a_t a_now a_now_cells a_now_faces a_now_ponds a_refusals a_kept a_trial a_reader a_shelves a_one a_two a_search a_outs a_now_kinds a_now_weights a_now_pledges c_t c_now c_now_cells c_now_faces c_now_ponds c_refusals)) rfl (fun H locs hP hD hS => ?_)
        refine lv_if_eq (tgt := 54) hx hb dX5_put_44 (by decide) (fun hc44 => ?_) (fun hc44 => ?_)
        · have h := if_t h hc44
          refine lv_aload_n hx hb dX5_put_54 rfl (lv_at hl 0 rfl) ?_
          refine va_get (D := E.1) (ci := 5) (v := .ref a_now) (C := RX5) (T := TX5) (N := 11) hx hb hts iX5_put_X5 hown hK hP 0 rfl rfl 0 (by decide) (hts (.fieldLink RX5 10 "LeftIsAgreedOn" "now" "LLeftIsAgreedOn$Island;") (List.mem_of_getElem? (i := 1) rfl)) (fun _ h9 => h9) rfl dX5_put_55 ?_
          refine va_getN (D := E.1) (ci := 0) (v := .ref a_now_cells) (C := RX0) (T := TX0) (N := 14) hx hb hts iX5_put_X0 hown hK hP 1 rfl rfl 11 (by decide) (va_Nw.use rfl (hN.1 _ (List.mem_of_getElem? (i := 9) rfl))) (fun _ h9 => h9) rfl dX5_put_58 ?_
          refine lv_iload_n hx hb dX5_put_61 rfl (lv_at hl 1 rfl) ?_
          obtain ⟨hz62, h⟩ := chk_of h
          refine ld_i X hP 2 rfl (inb.vp hz62) (v := (c_now_cells (l1).toNatClampNeg)) rfl dX5_put_62 ?_
          refine lv_istore (lv' := [(4, .int (c_now_cells (l1).toNatClampNeg)), (0, .ref a_t), (1, .int l1), (2, .int l2), (3, .int l3)]) hx hb dX5_put_63 hl (by decide) rfl (fun ls hl => ?_)
          refine lv_aload_n hx hb dX5_put_65 rfl (lv_at hl 1 rfl) ?_
          refine va_get (D := E.1) (ci := 5) (v := .ref a_now) (C := RX5) (T := TX5) (N := 11) hx hb hts iX5_put_X5 hown hK hP 0 rfl rfl 0 (by decide) (hts (.fieldLink RX5 10 "LeftIsAgreedOn" "now" "LLeftIsAgreedOn$Island;") (List.mem_of_getElem? (i := 1) rfl)) (fun _ h9 => h9) rfl dX5_put_66 ?_
          refine va_getN (D := E.1) (ci := 0) (v := .ref a_now_cells) (C := RX0) (T := TX0) (N := 14) hx hb hts iX5_put_X0 hown hK hP 1 rfl rfl 11 (by decide) (va_Nw.use rfl (hN.1 _ (List.mem_of_getElem? (i := 9) rfl))) (fun _ h9 => h9) rfl dX5_put_69 ?_
          refine lv_iload_n hx hb dX5_put_72 rfl (lv_at hl 2 rfl) ?_
          refine lv_iload_n hx hb dX5_put_73 rfl (lv_at hl 3 rfl) ?_
          obtain ⟨hz74, h⟩ := chk_of h
          refine st_i X hP hD hS 2 rfl (inb.vp hz74) (k := (l1).toNatClampNeg) rfl (ws1 := (W_X5_put E a_t a_now a_now_cells a_now_faces a_now_ponds a_refusals a_kept a_trial a_reader a_shelves a_one a_two a_search a_outs a_now_kinds a_now_weights a_now_pledges c_t c_now (upd c_now_cells ((l1).toNatClampNeg) l2) c_now_faces c_now_ponds c_refusals)) rfl dX5_put_74 (fun H locs hP hD hS => ?_)
          refine lv_aload_n hx hb dX5_put_75 rfl (lv_at hl 1 rfl) ?_
          refine va_get (D := E.1) (ci := 5) (v := .ref a_now) (C := RX5) (T := TX5) (N := 11) hx hb hts iX5_put_X5 hown hK hP 0 rfl rfl 0 (by decide) (hts (.fieldLink RX5 10 "LeftIsAgreedOn" "now" "LLeftIsAgreedOn$Island;") (List.mem_of_getElem? (i := 1) rfl)) (fun _ h9 => h9) rfl dX5_put_76 ?_
          refine va_getN (D := E.1) (ci := 0) (v := .ref a_now_faces) (C := RX0) (T := TX0) (N := 14) hx hb hts iX5_put_X0 hown hK hP 1 rfl rfl 12 (by decide) (va_Nw.use rfl (hN.1 _ (List.mem_of_getElem? (i := 10) rfl))) (fun _ h9 => h9) rfl dX5_put_79 ?_
          refine lv_iload_n hx hb dX5_put_82 rfl (lv_at hl 2 rfl) ?_
          refine lv_iload_n hx hb dX5_put_83 rfl (lv_at hl 4 rfl) ?_
          obtain ⟨hz84, h⟩ := chk_of h
          refine st_i X hP hD hS 3 rfl (inb.vp hz84) (k := (l1).toNatClampNeg) rfl (ws1 := (W_X5_put E a_t a_now a_now_cells a_now_faces a_now_ponds a_refusals a_kept a_trial a_reader a_shelves a_one a_two a_search a_outs a_now_kinds a_now_weights a_now_pledges c_t c_now (upd c_now_cells ((l1).toNatClampNeg) l2) (upd c_now_faces ((l1).toNatClampNeg) l3) c_now_ponds c_refusals)) rfl dX5_put_84 (fun H locs hP hD hS => ?_)
          refine lv_iload hx hb dX5_put_85 (lv_at hl 0 rfl) ?_
          obtain rfl := Option.some.inj h
          exact ret_i X dX5_put_87 hP hD hS rfl
        · have h := if_f h hc44
          refine lv_aload_n hx hb dX5_put_47 rfl (lv_at hl 0 rfl) ?_
          refine lv_bipush (v := (-5 : Int32)) hx hb dX5_put_48 (by decide) ?_
          obtain ⟨v5, hv5, h⟩ := bind_of h
          refine after_i X (run_V X (c_X5_refuse l E a_t a_refusals a_now a_kept a_trial a_reader a_shelves a_one a_two a_search a_outs (-5 : Int32) c_t c_refusals H.size v5 hv5) (cwV 1 hts gX5_put_X5_refuse rfl rfl rfl hV_X5_refuse ⟨(Nat.le_of_ble_eq_true rfl), (Nat.le_of_ble_eq_true rfl)⟩) hP hD hS [0, 5] rfl rfl hl.1 (ci := 5) rfl rfl rfl (rest := []) rfl rfl (Nat.le_of_ble_eq_true rfl) dX5_put_50) hP hD hS [0, 5] [1, 2, 3, 4] [4, 0, 1, 2, 3, 5] rfl rfl rfl (by decide) rfl (ws1 := (W_X5_put E a_t a_now a_now_cells a_now_faces a_now_ponds a_refusals a_kept a_trial a_reader a_shelves a_one a_two a_search a_outs a_now_kinds a_now_weights a_now_pledges c_t c_now c_now_cells c_now_faces c_now_ponds (v5.2))) rfl (fun H locs hP hD hS => ?_)
          obtain rfl := Option.some.inj h
          exact ret_i X dX5_put_53 hP hD hS rfl
      · have h := if_t h hc26
        exact w_X5_put_b29 X a_t a_now a_now_cells a_now_faces a_now_ponds a_refusals a_kept a_trial a_reader a_shelves a_one a_two a_search a_outs a_now_kinds a_now_weights a_now_pledges c_t c_now c_now_ponds res c_now_cells c_now_faces c_refusals _ _ _ h hP hD hS (lv_sub hl [0] rfl)
end
set_option maxRecDepth 100000 in
theorem c_X5_put (l : Launch) (E : Env0) (a_t : Nat) (a_now : Nat) (a_now_cells : Nat) (a_now_faces : Nat) (a_now_ponds : Nat) (a_refusals : Nat) (a_kept : Nat) (a_trial : Nat) (a_reader : Nat) (a_shelves : Nat) (a_one : Nat) (a_two : Nat) (a_search : Nat) (a_outs : Nat) (a_now_kinds : Nat) (a_now_weights : Nat) (a_now_pledges : Nat) (l1 : Int32) (l2 : Int32) (l3 : Int32) (c_t : Nat → Int32) (c_now : Nat → Int32) (c_now_cells : Nat → Int32) (c_now_faces : Nat → Int32) (c_now_ponds : Nat → Int32) (c_refusals : Nat → Int32) (sz : Nat) (res : Int32 × (Nat → Int32) × (Nat → Int32) × (Nat → Int32)) (h : f_X5_put l1 l2 l3 c_t c_now c_now_cells c_now_faces c_now_ponds c_refusals = some res) : Met l yX5_put wsX5_put r_X5_put (cPre E [.ref a_t, .int l1, .int l2, .int l3] (W_X5_put E a_t a_now a_now_cells a_now_faces a_now_ponds a_refusals a_kept a_trial a_reader a_shelves a_one a_two a_search a_outs a_now_kinds a_now_weights a_now_pledges c_t c_now c_now_cells c_now_faces c_now_ponds c_refusals) sz) (qI E (va_A (W_X5_put E a_t a_now a_now_cells a_now_faces a_now_ponds a_refusals a_kept a_trial a_reader a_shelves a_one a_two a_search a_outs a_now_kinds a_now_weights a_now_pledges c_t c_now c_now_cells c_now_faces c_now_ponds c_refusals) sz) (res.1) (W_X5_put E a_t a_now a_now_cells a_now_faces a_now_ponds a_refusals a_kept a_trial a_reader a_shelves a_one a_two a_search a_outs a_now_kinds a_now_weights a_now_pledges c_t c_now (res.2.1) (res.2.2.1) c_now_ponds (res.2.2.2))) 0 0 (va_A (W_X5_put E a_t a_now a_now_cells a_now_faces a_now_ponds a_refusals a_kept a_trial a_reader a_shelves a_one a_two a_search a_outs a_now_kinds a_now_weights a_now_pledges c_t c_now c_now_cells c_now_faces c_now_ponds c_refusals) sz) :=
  met_of (Qc := fun A => qI E A (res.1) (W_X5_put E a_t a_now a_now_cells a_now_faces a_now_ponds a_refusals a_kept a_trial a_reader a_shelves a_one a_two a_search a_outs a_now_kinds a_now_weights a_now_pledges c_t c_now (res.2.1) (res.2.2.1) c_now_ponds (res.2.2.2))) (by decide) rfl (Nat.le_of_ble_eq_true rfl) (fun p e s m args below meth c X hP hD hS ls hl => w_X5_put X a_t a_now a_now_cells a_now_faces a_now_ponds a_refusals a_kept a_trial a_reader a_shelves a_one a_two a_search a_outs a_now_kinds a_now_weights a_now_pledges c_t c_now c_now_ponds res c_now_cells c_now_faces c_refusals l1 l2 l3 ls _ _ h hP hD hS hl)
-- ===== X5_personOf
abbrev W_X5_personOf (E : Env0) (a_t : Nat) (a_now : Nat) (a_now_cells : Nat) (a_now_faces : Nat) (a_now_kinds : Nat) (a_now_pledges : Nat) (a_now_weights : Nat) (a_refusals : Nat) (a_kept : Nat) (a_trial : Nat) (a_reader : Nat) (a_shelves : Nat) (a_one : Nat) (a_two : Nat) (a_search : Nat) (a_outs : Nat) (a_now_ponds : Nat) (c_t : Nat → Int32) (c_now : Nat → Int32) (c_now_cells : Nat → Int32) (c_now_faces : Nat → Int32) (c_now_kinds : Nat → Int32) (c_now_pledges : Nat → Int32) (c_now_weights : Nat → Int32) (c_refusals : Nat → Int32) : va_W := [(a_t, .inr (5, [.ref a_now, .ref a_kept, .ref a_trial, .ref a_reader, .ref a_shelves, .ref a_one, .ref a_two, .ref a_search, .ref a_outs, .ref a_refusals, .int (c_t 10)])), (a_now, .inr (0, [.int (c_now 0), .int (c_now 1), .int (c_now 2), .int (c_now 3), .int (c_now 4), .int (c_now 5), .int (c_now 6), .int (c_now 7), .ref a_now_ponds, .ref a_now_kinds, .ref a_now_weights, .ref a_now_cells, .ref a_now_faces, .ref a_now_pledges])), (a_now_cells, .inl (eI E, 8, .inl c_now_cells)), (a_now_faces, .inl (eI E, 8, .inl c_now_faces)), (a_now_kinds, .inl (eI E, 8, .inl c_now_kinds)), (a_now_pledges, .inl (eI E, 8, .inl c_now_pledges)), (a_now_weights, .inl (eI E, 8, .inl c_now_weights)), (a_refusals, .inl (eI E, 5, .inl c_refusals))]
abbrev r_X5_personOf : Room := { frames := 2, cells := 0, slots := 0, locals := 50 }
theorem hd_X5_personOf : yX5_personOf.cls ≠ "java/lang/invoke/MethodHandle" ∧ yX5_personOf.cls ≠ "java/lang/invoke/VarHandle" ∧ (parseMethodDescriptor yX5_personOf.desc).map (fun d => d.parameters.length) = some 2 := by decide +kernel
theorem hV_X5_personOf : yX5_personOf.cls = RX5 ∧ yX5_personOf.cls ≠ "java/lang/invoke/MethodHandle" ∧ yX5_personOf.cls ≠ "java/lang/invoke/VarHandle" ∧ (parseMethodDescriptor yX5_personOf.desc).map (fun d => d.parameters.length) = some 2 := ⟨rfl, hd_X5_personOf⟩
theorem iX5_personOf_X0 : ∀ w ∈ wsX00, w ∈ wsX5_personOf := fun _ h => List.mem_cons_of_mem _ (List.mem_append_right _ (h))
theorem iX5_personOf_X5 : ∀ w ∈ wsX50, w ∈ wsX5_personOf := fun _ h => List.mem_cons_of_mem _ (List.mem_append_left _ (List.mem_append_right _ (h)))
section
variable {p : Program} {l : Launch} {e : Env} {s : State} {m : MethodId} {args : Array Value} {below : List Frame} {meth : Method} {c : Code} {E : Env0} {A : Nat → Prop}
set_option maxRecDepth 100000 in
set_option maxHeartbeats 4000000 in
theorem w_X5_personOf (X : Ctx p m meth c cX5_personOf 3 ((some .int)) s args wsX5_personOf RX5 E A) (a_t : Nat) (a_now : Nat) (a_now_cells : Nat) (a_now_faces : Nat) (a_now_kinds : Nat) (a_now_pledges : Nat) (a_now_weights : Nat) (a_refusals : Nat) (a_kept : Nat) (a_trial : Nat) (a_reader : Nat) (a_shelves : Nat) (a_one : Nat) (a_two : Nat) (a_search : Nat) (a_outs : Nat) (a_now_ponds : Nat) (c_t : Nat → Int32) (c_now : Nat → Int32) (c_now_cells : Nat → Int32) (c_now_faces : Nat → Int32) (c_now_kinds : Nat → Int32) (c_now_pledges : Nat → Int32) (c_now_weights : Nat → Int32) (res : Int32 × (Nat → Int32)) (c_refusals : Nat → Int32) (l1 : Int32) (l2 : Int32) (ls : Array Slot) (H : Heap) (locs : List Loc) (h : f_X5_personOf l1 l2 c_t c_now c_now_cells c_now_faces c_now_kinds c_now_pledges c_now_weights c_refusals = some res) (hP : va_P E.1 vwCl (W_X5_personOf E a_t a_now a_now_cells a_now_faces a_now_kinds a_now_pledges a_now_weights a_refusals a_kept a_trial a_reader a_shelves a_one a_two a_search a_outs a_now_ponds c_t c_now c_now_cells c_now_faces c_now_kinds c_now_pledges c_now_weights c_refusals) H) (hD : va_D A (W_X5_personOf E a_t a_now a_now_cells a_now_faces a_now_kinds a_now_pledges a_now_weights a_refusals a_kept a_trial a_reader a_shelves a_one a_two a_search a_outs a_now_ponds c_t c_now c_now_cells c_now_faces c_now_kinds c_now_pledges c_now_weights c_refusals)) (hS : va_S A s.heap H locs) (hl : lv_has ls 3 [(0, .ref a_t), (1, .int l1), (2, .int l2)]) : W p l e r_X5_personOf s m args below meth c H locs 0 0 (MQ below (qI E A (res.1) (W_X5_personOf E a_t a_now a_now_cells a_now_faces a_now_kinds a_now_pledges a_now_weights a_refusals a_kept a_trial a_reader a_shelves a_one a_two a_search a_outs a_now_ponds c_t c_now c_now_cells c_now_faces c_now_kinds c_now_pledges c_now_weights (res.2))) args s 0 0 A) (F0 m 0 ls []) := by
  obtain ⟨hx, hb, hml, hr, hlk, hown, hts, hG, hA⟩ := id X
  have hK := hG.1
  have hN := hG.2.1
  unfold f_X5_personOf at h
  refine lv_aload_n hx hb dX5_personOf_0 rfl (lv_at hl 0 rfl) ?_
  refine va_get (D := E.1) (ci := 5) (v := .ref a_now) (C := RX5) (T := TX5) (N := 11) hx hb hts iX5_personOf_X5 hown hK hP 0 rfl rfl 0 (by decide) (hts (.fieldLink RX5 10 "LeftIsAgreedOn" "now" "LLeftIsAgreedOn$Island;") (List.mem_of_getElem? (i := 1) rfl)) (fun _ h9 => h9) rfl dX5_personOf_1 ?_
  refine lv_iload_n hx hb dX5_personOf_4 rfl (lv_at hl 1 rfl) ?_
  obtain ⟨v1, hv1, h⟩ := bind_of h
  refine after_i X (run_V X (c_X0_isOne l E a_now a_now_ponds a_now_kinds a_now_weights a_now_cells a_now_faces a_now_pledges l1 c_now H.size v1 hv1) (cwV 1 hts gX5_personOf_X0_isOne rfl rfl rfl hV_X0_isOne ⟨(Nat.le_of_ble_eq_true rfl), (Nat.le_of_ble_eq_true rfl)⟩) hP hD hS [1] rfl rfl hl.1 (ci := 0) rfl rfl rfl (rest := []) rfl rfl (Nat.le_of_ble_eq_true rfl) dX5_personOf_5) hP hD hS [1] [0, 2, 3, 4, 5, 6, 7] [0, 7, 1, 2, 3, 4, 5, 6] rfl rfl rfl (by decide) rfl (ws1 := (W_X5_personOf E a_t a_now a_now_cells a_now_faces a_now_kinds a_now_pledges a_now_weights a_refusals a_kept a_trial a_reader a_shelves a_one a_two a_search a_outs a_now_ponds c_t c_now c_now_cells c_now_faces c_now_kinds c_now_pledges c_now_weights c_refusals)) rfl (fun H locs hP hD hS => ?_)
  refine lv_if_ne (tgt := 18) hx hb dX5_personOf_8 (by decide) (fun hc8 => ?_) (fun hc8 => ?_)
  · have h := if_f h hc8
    refine lv_iload_n hx hb dX5_personOf_18 rfl (lv_at hl 2 rfl) ?_
    by_cases hs19_0 : l2 = (0 : Int32)
    · have h := if_t h hs19_0
      refine lv_tableIn (off := (37)) (tgt := 56) hx hb dX5_personOf_19 (by rw [hs19_0]; decide) (by rw [hs19_0]; decide) (by rw [hs19_0]; rfl) (by decide) ?_
      refine lv_aload_n hx hb dX5_personOf_56 rfl (lv_at hl 0 rfl) ?_
      refine va_get (D := E.1) (ci := 5) (v := .ref a_now) (C := RX5) (T := TX5) (N := 11) hx hb hts iX5_personOf_X5 hown hK hP 0 rfl rfl 0 (by decide) (hts (.fieldLink RX5 10 "LeftIsAgreedOn" "now" "LLeftIsAgreedOn$Island;") (List.mem_of_getElem? (i := 1) rfl)) (fun _ h9 => h9) rfl dX5_personOf_57 ?_
      refine va_getN (D := E.1) (ci := 0) (v := .ref a_now_kinds) (C := RX0) (T := TX0) (N := 14) hx hb hts iX5_personOf_X0 hown hK hP 1 rfl rfl 9 (by decide) (va_Nw.use rfl (hN.1 _ (List.mem_of_getElem? (i := 0) rfl))) (fun _ h9 => h9) rfl dX5_personOf_60 ?_
      refine lv_iload_n hx hb dX5_personOf_63 rfl (lv_at hl 1 rfl) ?_
      obtain ⟨hz64, h⟩ := chk_of h
      refine ld_i X hP 4 rfl (inb.vp hz64) (v := (c_now_kinds (l1).toNatClampNeg)) rfl dX5_personOf_64 ?_
      obtain rfl := Option.some.inj h
      exact ret_i X dX5_personOf_65 hP hD hS rfl
    · have h := if_f h hs19_0
      by_cases hs19_1 : l2 = (1 : Int32)
      · have h := if_t h hs19_1
        refine lv_tableIn (off := (47)) (tgt := 66) hx hb dX5_personOf_19 (by rw [hs19_1]; decide) (by rw [hs19_1]; decide) (by rw [hs19_1]; rfl) (by decide) ?_
        refine lv_aload_n hx hb dX5_personOf_66 rfl (lv_at hl 0 rfl) ?_
        refine va_get (D := E.1) (ci := 5) (v := .ref a_now) (C := RX5) (T := TX5) (N := 11) hx hb hts iX5_personOf_X5 hown hK hP 0 rfl rfl 0 (by decide) (hts (.fieldLink RX5 10 "LeftIsAgreedOn" "now" "LLeftIsAgreedOn$Island;") (List.mem_of_getElem? (i := 1) rfl)) (fun _ h9 => h9) rfl dX5_personOf_67 ?_
        refine va_getN (D := E.1) (ci := 0) (v := .ref a_now_weights) (C := RX0) (T := TX0) (N := 14) hx hb hts iX5_personOf_X0 hown hK hP 1 rfl rfl 10 (by decide) (va_Nw.use rfl (hN.1 _ (List.mem_of_getElem? (i := 1) rfl))) (fun _ h9 => h9) rfl dX5_personOf_70 ?_
        refine lv_iload_n hx hb dX5_personOf_73 rfl (lv_at hl 1 rfl) ?_
        obtain ⟨hz74, h⟩ := chk_of h
        refine ld_i X hP 6 rfl (inb.vp hz74) (v := (c_now_weights (l1).toNatClampNeg)) rfl dX5_personOf_74 ?_
        obtain rfl := Option.some.inj h
        exact ret_i X dX5_personOf_75 hP hD hS rfl
      · have h := if_f h hs19_1
        by_cases hs19_2 : l2 = (2 : Int32)
        · have h := if_t h hs19_2
          refine lv_tableIn (off := (57)) (tgt := 76) hx hb dX5_personOf_19 (by rw [hs19_2]; decide) (by rw [hs19_2]; decide) (by rw [hs19_2]; rfl) (by decide) ?_
          refine lv_aload_n hx hb dX5_personOf_76 rfl (lv_at hl 0 rfl) ?_
          refine va_get (D := E.1) (ci := 5) (v := .ref a_now) (C := RX5) (T := TX5) (N := 11) hx hb hts iX5_personOf_X5 hown hK hP 0 rfl rfl 0 (by decide) (hts (.fieldLink RX5 10 "LeftIsAgreedOn" "now" "LLeftIsAgreedOn$Island;") (List.mem_of_getElem? (i := 1) rfl)) (fun _ h9 => h9) rfl dX5_personOf_77 ?_
          refine va_getN (D := E.1) (ci := 0) (v := .ref a_now_cells) (C := RX0) (T := TX0) (N := 14) hx hb hts iX5_personOf_X0 hown hK hP 1 rfl rfl 11 (by decide) (va_Nw.use rfl (hN.1 _ (List.mem_of_getElem? (i := 9) rfl))) (fun _ h9 => h9) rfl dX5_personOf_80 ?_
          refine lv_iload_n hx hb dX5_personOf_83 rfl (lv_at hl 1 rfl) ?_
          obtain ⟨hz84, h⟩ := chk_of h
          refine ld_i X hP 2 rfl (inb.vp hz84) (v := (c_now_cells (l1).toNatClampNeg)) rfl dX5_personOf_84 ?_
          obtain rfl := Option.some.inj h
          exact ret_i X dX5_personOf_85 hP hD hS rfl
        · have h := if_f h hs19_2
          by_cases hs19_3 : l2 = (3 : Int32)
          · have h := if_t h hs19_3
            refine lv_tableIn (off := (67)) (tgt := 86) hx hb dX5_personOf_19 (by rw [hs19_3]; decide) (by rw [hs19_3]; decide) (by rw [hs19_3]; rfl) (by decide) ?_
            refine lv_aload_n hx hb dX5_personOf_86 rfl (lv_at hl 0 rfl) ?_
            refine va_get (D := E.1) (ci := 5) (v := .ref a_now) (C := RX5) (T := TX5) (N := 11) hx hb hts iX5_personOf_X5 hown hK hP 0 rfl rfl 0 (by decide) (hts (.fieldLink RX5 10 "LeftIsAgreedOn" "now" "LLeftIsAgreedOn$Island;") (List.mem_of_getElem? (i := 1) rfl)) (fun _ h9 => h9) rfl dX5_personOf_87 ?_
            refine va_getN (D := E.1) (ci := 0) (v := .ref a_now_faces) (C := RX0) (T := TX0) (N := 14) hx hb hts iX5_personOf_X0 hown hK hP 1 rfl rfl 12 (by decide) (va_Nw.use rfl (hN.1 _ (List.mem_of_getElem? (i := 10) rfl))) (fun _ h9 => h9) rfl dX5_personOf_90 ?_
            refine lv_iload_n hx hb dX5_personOf_93 rfl (lv_at hl 1 rfl) ?_
            obtain ⟨hz94, h⟩ := chk_of h
            refine ld_i X hP 3 rfl (inb.vp hz94) (v := (c_now_faces (l1).toNatClampNeg)) rfl dX5_personOf_94 ?_
            obtain rfl := Option.some.inj h
            exact ret_i X dX5_personOf_95 hP hD hS rfl
          · have h := if_f h hs19_3
            by_cases hs19_4 : l2 = (4 : Int32)
            · have h := if_t h hs19_4
              refine lv_tableIn (off := (77)) (tgt := 96) hx hb dX5_personOf_19 (by rw [hs19_4]; decide) (by rw [hs19_4]; decide) (by rw [hs19_4]; rfl) (by decide) ?_
              refine lv_aload_n hx hb dX5_personOf_96 rfl (lv_at hl 0 rfl) ?_
              refine va_get (D := E.1) (ci := 5) (v := .ref a_now) (C := RX5) (T := TX5) (N := 11) hx hb hts iX5_personOf_X5 hown hK hP 0 rfl rfl 0 (by decide) (hts (.fieldLink RX5 10 "LeftIsAgreedOn" "now" "LLeftIsAgreedOn$Island;") (List.mem_of_getElem? (i := 1) rfl)) (fun _ h9 => h9) rfl dX5_personOf_97 ?_
              refine va_getN (D := E.1) (ci := 0) (v := .ref a_now_pledges) (C := RX0) (T := TX0) (N := 14) hx hb hts iX5_personOf_X0 hown hK hP 1 rfl rfl 13 (by decide) (va_Nw.use rfl (hN.1 _ (List.mem_of_getElem? (i := 8) rfl))) (fun _ h9 => h9) rfl dX5_personOf_100 ?_
              refine lv_iload_n hx hb dX5_personOf_103 rfl (lv_at hl 1 rfl) ?_
              obtain ⟨hz104, h⟩ := chk_of h
              refine ld_i X hP 5 rfl (inb.vp hz104) (v := (c_now_pledges (l1).toNatClampNeg)) rfl dX5_personOf_104 ?_
              obtain rfl := Option.some.inj h
              exact ret_i X dX5_personOf_105 hP hD hS rfl
            · have h := if_f h hs19_4
              by_cases hs19_5 : l2 = (5 : Int32)
              · have h := if_t h hs19_5
                refine lv_tableIn (off := (87)) (tgt := 106) hx hb dX5_personOf_19 (by rw [hs19_5]; decide) (by rw [hs19_5]; decide) (by rw [hs19_5]; rfl) (by decide) ?_
                refine lv_aload_n hx hb dX5_personOf_106 rfl (lv_at hl 0 rfl) ?_
                refine va_get (D := E.1) (ci := 5) (v := .ref a_now) (C := RX5) (T := TX5) (N := 11) hx hb hts iX5_personOf_X5 hown hK hP 0 rfl rfl 0 (by decide) (hts (.fieldLink RX5 10 "LeftIsAgreedOn" "now" "LLeftIsAgreedOn$Island;") (List.mem_of_getElem? (i := 1) rfl)) (fun _ h9 => h9) rfl dX5_personOf_107 ?_
                refine lv_iload_n hx hb dX5_personOf_110 rfl (lv_at hl 1 rfl) ?_
                obtain ⟨v2, hv2, h⟩ := bind_of h
                refine after_i X (run_V X (c_X0_powerOf l E a_now a_now_weights a_now_ponds a_now_kinds a_now_cells a_now_faces a_now_pledges l1 c_now c_now_weights H.size v2 hv2) (cwV 1 hts gX5_personOf_X0_powerOf rfl rfl rfl hV_X0_powerOf ⟨(Nat.le_of_ble_eq_true rfl), (Nat.le_of_ble_eq_true rfl)⟩) hP hD hS [1, 6] rfl rfl hl.1 (ci := 0) rfl rfl rfl (rest := []) rfl rfl (Nat.le_of_ble_eq_true rfl) dX5_personOf_111) hP hD hS [1, 6] [0, 2, 3, 4, 5, 7] [0, 6, 1, 2, 3, 4, 7, 5] rfl rfl rfl (by decide) rfl (ws1 := (W_X5_personOf E a_t a_now a_now_cells a_now_faces a_now_kinds a_now_pledges a_now_weights a_refusals a_kept a_trial a_reader a_shelves a_one a_two a_search a_outs a_now_ponds c_t c_now c_now_cells c_now_faces c_now_kinds c_now_pledges c_now_weights c_refusals)) rfl (fun H locs hP hD hS => ?_)
                obtain rfl := Option.some.inj h
                exact ret_i X dX5_personOf_114 hP hD hS rfl
              · have h := if_f h hs19_5
                refine lv_tableOut (tgt := 115) hx hb dX5_personOf_19 (tsw_0_5 hs19_0 hs19_1 hs19_2 hs19_3 hs19_4 hs19_5) (by decide) ?_
                refine lv_aload_n hx hb dX5_personOf_115 rfl (lv_at hl 0 rfl) ?_
                refine lv_bipush (v := (-2 : Int32)) hx hb dX5_personOf_116 (by decide) ?_
                obtain ⟨v3, hv3, h⟩ := bind_of h
                refine after_i X (run_V X (c_X5_refuse l E a_t a_refusals a_now a_kept a_trial a_reader a_shelves a_one a_two a_search a_outs (-2 : Int32) c_t c_refusals H.size v3 hv3) (cwV 1 hts gX5_personOf_X5_refuse rfl rfl rfl hV_X5_refuse ⟨(Nat.le_of_ble_eq_true rfl), (Nat.le_of_ble_eq_true rfl)⟩) hP hD hS [0, 7] rfl rfl hl.1 (ci := 5) rfl rfl rfl (rest := []) rfl rfl (Nat.le_of_ble_eq_true rfl) dX5_personOf_118) hP hD hS [0, 7] [1, 2, 3, 4, 5, 6] [6, 0, 1, 2, 3, 4, 5, 7] rfl rfl rfl (by decide) rfl (ws1 := (W_X5_personOf E a_t a_now a_now_cells a_now_faces a_now_kinds a_now_pledges a_now_weights a_refusals a_kept a_trial a_reader a_shelves a_one a_two a_search a_outs a_now_ponds c_t c_now c_now_cells c_now_faces c_now_kinds c_now_pledges c_now_weights (v3.2))) rfl (fun H locs hP hD hS => ?_)
                obtain rfl := Option.some.inj h
                exact ret_i X dX5_personOf_121 hP hD hS rfl
  · have h := if_t h hc8
    refine lv_aload_n hx hb dX5_personOf_11 rfl (lv_at hl 0 rfl) ?_
    refine lv_bipush (v := (-2 : Int32)) hx hb dX5_personOf_12 (by decide) ?_
    obtain ⟨v4, hv4, h⟩ := bind_of h
    refine after_i X (run_V X (c_X5_refuse l E a_t a_refusals a_now a_kept a_trial a_reader a_shelves a_one a_two a_search a_outs (-2 : Int32) c_t c_refusals H.size v4 hv4) (cwV 1 hts gX5_personOf_X5_refuse rfl rfl rfl hV_X5_refuse ⟨(Nat.le_of_ble_eq_true rfl), (Nat.le_of_ble_eq_true rfl)⟩) hP hD hS [0, 7] rfl rfl hl.1 (ci := 5) rfl rfl rfl (rest := []) rfl rfl (Nat.le_of_ble_eq_true rfl) dX5_personOf_14) hP hD hS [0, 7] [1, 2, 3, 4, 5, 6] [6, 0, 1, 2, 3, 4, 5, 7] rfl rfl rfl (by decide) rfl (ws1 := (W_X5_personOf E a_t a_now a_now_cells a_now_faces a_now_kinds a_now_pledges a_now_weights a_refusals a_kept a_trial a_reader a_shelves a_one a_two a_search a_outs a_now_ponds c_t c_now c_now_cells c_now_faces c_now_kinds c_now_pledges c_now_weights (v4.2))) rfl (fun H locs hP hD hS => ?_)
    obtain rfl := Option.some.inj h
    exact ret_i X dX5_personOf_17 hP hD hS rfl
end
set_option maxRecDepth 100000 in
theorem c_X5_personOf (l : Launch) (E : Env0) (a_t : Nat) (a_now : Nat) (a_now_cells : Nat) (a_now_faces : Nat) (a_now_kinds : Nat) (a_now_pledges : Nat) (a_now_weights : Nat) (a_refusals : Nat) (a_kept : Nat) (a_trial : Nat) (a_reader : Nat) (a_shelves : Nat) (a_one : Nat) (a_two : Nat) (a_search : Nat) (a_outs : Nat) (a_now_ponds : Nat) (l1 : Int32) (l2 : Int32) (c_t : Nat → Int32) (c_now : Nat → Int32) (c_now_cells : Nat → Int32) (c_now_faces : Nat → Int32) (c_now_kinds : Nat → Int32) (c_now_pledges : Nat → Int32) (c_now_weights : Nat → Int32) (c_refusals : Nat → Int32) (sz : Nat) (res : Int32 × (Nat → Int32)) (h : f_X5_personOf l1 l2 c_t c_now c_now_cells c_now_faces c_now_kinds c_now_pledges c_now_weights c_refusals = some res) : Met l yX5_personOf wsX5_personOf r_X5_personOf (cPre E [.ref a_t, .int l1, .int l2] (W_X5_personOf E a_t a_now a_now_cells a_now_faces a_now_kinds a_now_pledges a_now_weights a_refusals a_kept a_trial a_reader a_shelves a_one a_two a_search a_outs a_now_ponds c_t c_now c_now_cells c_now_faces c_now_kinds c_now_pledges c_now_weights c_refusals) sz) (qI E (va_A (W_X5_personOf E a_t a_now a_now_cells a_now_faces a_now_kinds a_now_pledges a_now_weights a_refusals a_kept a_trial a_reader a_shelves a_one a_two a_search a_outs a_now_ponds c_t c_now c_now_cells c_now_faces c_now_kinds c_now_pledges c_now_weights c_refusals) sz) (res.1) (W_X5_personOf E a_t a_now a_now_cells a_now_faces a_now_kinds a_now_pledges a_now_weights a_refusals a_kept a_trial a_reader a_shelves a_one a_two a_search a_outs a_now_ponds c_t c_now c_now_cells c_now_faces c_now_kinds c_now_pledges c_now_weights (res.2))) 0 0 (va_A (W_X5_personOf E a_t a_now a_now_cells a_now_faces a_now_kinds a_now_pledges a_now_weights a_refusals a_kept a_trial a_reader a_shelves a_one a_two a_search a_outs a_now_ponds c_t c_now c_now_cells c_now_faces c_now_kinds c_now_pledges c_now_weights c_refusals) sz) :=
  met_of (Qc := fun A => qI E A (res.1) (W_X5_personOf E a_t a_now a_now_cells a_now_faces a_now_kinds a_now_pledges a_now_weights a_refusals a_kept a_trial a_reader a_shelves a_one a_two a_search a_outs a_now_ponds c_t c_now c_now_cells c_now_faces c_now_kinds c_now_pledges c_now_weights (res.2))) (by decide) rfl (Nat.le_of_ble_eq_true rfl) (fun p e s m args below meth c X hP hD hS ls hl => w_X5_personOf X a_t a_now a_now_cells a_now_faces a_now_kinds a_now_pledges a_now_weights a_refusals a_kept a_trial a_reader a_shelves a_one a_two a_search a_outs a_now_ponds c_t c_now c_now_cells c_now_faces c_now_kinds c_now_pledges c_now_weights res c_refusals l1 l2 ls _ _ h hP hD hS hl)
-- ===== X5_isPond
abbrev W_X5_isPond (E : Env0) (a_t : Nat) (a_now : Nat) (a_now_ponds : Nat) (a_refusals : Nat) (a_kept : Nat) (a_trial : Nat) (a_reader : Nat) (a_shelves : Nat) (a_one : Nat) (a_two : Nat) (a_search : Nat) (a_outs : Nat) (a_now_kinds : Nat) (a_now_weights : Nat) (a_now_cells : Nat) (a_now_faces : Nat) (a_now_pledges : Nat) (c_t : Nat → Int32) (c_now : Nat → Int32) (c_now_ponds : Nat → Int32) (c_refusals : Nat → Int32) : va_W := [(a_t, .inr (5, [.ref a_now, .ref a_kept, .ref a_trial, .ref a_reader, .ref a_shelves, .ref a_one, .ref a_two, .ref a_search, .ref a_outs, .ref a_refusals, .int (c_t 10)])), (a_now, .inr (0, [.int (c_now 0), .int (c_now 1), .int (c_now 2), .int (c_now 3), .int (c_now 4), .int (c_now 5), .int (c_now 6), .int (c_now 7), .ref a_now_ponds, .ref a_now_kinds, .ref a_now_weights, .ref a_now_cells, .ref a_now_faces, .ref a_now_pledges])), (a_now_ponds, .inl (eZ E, 70, .inl c_now_ponds)), (a_refusals, .inl (eI E, 5, .inl c_refusals))]
abbrev r_X5_isPond : Room := { frames := 2, cells := 0, slots := 0, locals := 43 }
theorem hd_X5_isPond : yX5_isPond.cls ≠ "java/lang/invoke/MethodHandle" ∧ yX5_isPond.cls ≠ "java/lang/invoke/VarHandle" ∧ (parseMethodDescriptor yX5_isPond.desc).map (fun d => d.parameters.length) = some 1 := by decide +kernel
theorem hV_X5_isPond : yX5_isPond.cls = RX5 ∧ yX5_isPond.cls ≠ "java/lang/invoke/MethodHandle" ∧ yX5_isPond.cls ≠ "java/lang/invoke/VarHandle" ∧ (parseMethodDescriptor yX5_isPond.desc).map (fun d => d.parameters.length) = some 1 := ⟨rfl, hd_X5_isPond⟩
theorem iX5_isPond_X5 : ∀ w ∈ wsX50, w ∈ wsX5_isPond := fun _ h => List.mem_cons_of_mem _ (List.mem_append_left _ (List.mem_append_right _ (h)))
section
variable {p : Program} {l : Launch} {e : Env} {s : State} {m : MethodId} {args : Array Value} {below : List Frame} {meth : Method} {c : Code} {E : Env0} {A : Nat → Prop}
set_option maxRecDepth 100000 in
set_option maxHeartbeats 4000000 in
theorem w_X5_isPond (X : Ctx p m meth c cX5_isPond 2 ((some .int)) s args wsX5_isPond RX5 E A) (a_t : Nat) (a_now : Nat) (a_now_ponds : Nat) (a_refusals : Nat) (a_kept : Nat) (a_trial : Nat) (a_reader : Nat) (a_shelves : Nat) (a_one : Nat) (a_two : Nat) (a_search : Nat) (a_outs : Nat) (a_now_kinds : Nat) (a_now_weights : Nat) (a_now_cells : Nat) (a_now_faces : Nat) (a_now_pledges : Nat) (c_t : Nat → Int32) (c_now : Nat → Int32) (c_now_ponds : Nat → Int32) (res : Int32 × (Nat → Int32)) (c_refusals : Nat → Int32) (l1 : Int32) (ls : Array Slot) (H : Heap) (locs : List Loc) (h : f_X5_isPond l1 c_t c_now c_now_ponds c_refusals = some res) (hP : va_P E.1 vwCl (W_X5_isPond E a_t a_now a_now_ponds a_refusals a_kept a_trial a_reader a_shelves a_one a_two a_search a_outs a_now_kinds a_now_weights a_now_cells a_now_faces a_now_pledges c_t c_now c_now_ponds c_refusals) H) (hD : va_D A (W_X5_isPond E a_t a_now a_now_ponds a_refusals a_kept a_trial a_reader a_shelves a_one a_two a_search a_outs a_now_kinds a_now_weights a_now_cells a_now_faces a_now_pledges c_t c_now c_now_ponds c_refusals)) (hS : va_S A s.heap H locs) (hl : lv_has ls 2 [(0, .ref a_t), (1, .int l1)]) : W p l e r_X5_isPond s m args below meth c H locs 0 0 (MQ below (qI E A (res.1) (W_X5_isPond E a_t a_now a_now_ponds a_refusals a_kept a_trial a_reader a_shelves a_one a_two a_search a_outs a_now_kinds a_now_weights a_now_cells a_now_faces a_now_pledges c_t c_now c_now_ponds (res.2))) args s 0 0 A) (F0 m 0 ls []) := by
  obtain ⟨hx, hb, hml, hr, hlk, hown, hts, hG, hA⟩ := id X
  have hK := hG.1
  have hN := hG.2.1
  unfold f_X5_isPond at h
  refine lv_aload_n hx hb dX5_isPond_0 rfl (lv_at hl 0 rfl) ?_
  refine va_get (D := E.1) (ci := 5) (v := .ref a_now) (C := RX5) (T := TX5) (N := 11) hx hb hts iX5_isPond_X5 hown hK hP 0 rfl rfl 0 (by decide) (hts (.fieldLink RX5 10 "LeftIsAgreedOn" "now" "LLeftIsAgreedOn$Island;") (List.mem_of_getElem? (i := 1) rfl)) (fun _ h9 => h9) rfl dX5_isPond_1 ?_
  refine lv_iload_n hx hb dX5_isPond_4 rfl (lv_at hl 1 rfl) ?_
  obtain ⟨v1, hv1, h⟩ := bind_of h
  refine after_i X (run_V X (c_X0_isCell l E a_now a_now_ponds a_now_kinds a_now_weights a_now_cells a_now_faces a_now_pledges l1 c_now H.size v1 hv1) (cwV 1 hts gX5_isPond_X0_isCell rfl rfl rfl hV_X0_isCell ⟨(Nat.le_of_ble_eq_true rfl), (Nat.le_of_ble_eq_true rfl)⟩) hP hD hS [1] rfl rfl hl.1 (ci := 0) rfl rfl rfl (rest := []) rfl rfl (Nat.le_of_ble_eq_true rfl) dX5_isPond_5) hP hD hS [1] [0, 2, 3] [0, 3, 1, 2] rfl rfl rfl (by decide) rfl (ws1 := (W_X5_isPond E a_t a_now a_now_ponds a_refusals a_kept a_trial a_reader a_shelves a_one a_two a_search a_outs a_now_kinds a_now_weights a_now_cells a_now_faces a_now_pledges c_t c_now c_now_ponds c_refusals)) rfl (fun H locs hP hD hS => ?_)
  refine lv_if_ne (tgt := 18) hx hb dX5_isPond_8 (by decide) (fun hc8 => ?_) (fun hc8 => ?_)
  · have h := if_f h hc8
    refine lv_aload_n hx hb dX5_isPond_18 rfl (lv_at hl 0 rfl) ?_
    refine va_get (D := E.1) (ci := 5) (v := .ref a_now) (C := RX5) (T := TX5) (N := 11) hx hb hts iX5_isPond_X5 hown hK hP 0 rfl rfl 0 (by decide) (hts (.fieldLink RX5 10 "LeftIsAgreedOn" "now" "LLeftIsAgreedOn$Island;") (List.mem_of_getElem? (i := 1) rfl)) (fun _ h9 => h9) rfl dX5_isPond_19 ?_
    refine lv_iload_n hx hb dX5_isPond_22 rfl (lv_at hl 1 rfl) ?_
    obtain ⟨v2, hv2, h⟩ := bind_of h
    refine after_i X (run_V X (c_X0_hasPond l E a_now a_now_ponds a_now_kinds a_now_weights a_now_cells a_now_faces a_now_pledges l1 c_now c_now_ponds H.size v2 hv2) (cwV 1 hts gX5_isPond_X0_hasPond rfl rfl rfl hV_X0_hasPond ⟨(Nat.le_of_ble_eq_true rfl), (Nat.le_of_ble_eq_true rfl)⟩) hP hD hS [1, 2] rfl rfl hl.1 (ci := 0) rfl rfl rfl (rest := []) rfl rfl (Nat.le_of_ble_eq_true rfl) dX5_isPond_23) hP hD hS [1, 2] [0, 3] [0, 2, 3, 1] rfl rfl rfl (by decide) rfl (ws1 := (W_X5_isPond E a_t a_now a_now_ponds a_refusals a_kept a_trial a_reader a_shelves a_one a_two a_search a_outs a_now_kinds a_now_weights a_now_cells a_now_faces a_now_pledges c_t c_now c_now_ponds c_refusals)) rfl (fun H locs hP hD hS => ?_)
    obtain ⟨v3, hv3, h⟩ := bind_of h
    refine after_i X (run_S X (c_X5_asNumber l E v2 H.size v3 hv3) (va_cwS 1 hts gX5_isPond_X5_asNumber rfl rfl rfl hd_X5_asNumber ⟨(Nat.le_of_ble_eq_true rfl), (Nat.le_of_ble_eq_true rfl)⟩) hP hD hS [] rfl rfl hl.1 (rest := []) rfl rfl (Nat.le_of_ble_eq_true rfl) dX5_isPond_26) hP hD hS [] [0, 1, 2, 3] [0, 1, 2, 3] rfl rfl rfl (by decide) rfl (ws1 := (W_X5_isPond E a_t a_now a_now_ponds a_refusals a_kept a_trial a_reader a_shelves a_one a_two a_search a_outs a_now_kinds a_now_weights a_now_cells a_now_faces a_now_pledges c_t c_now c_now_ponds c_refusals)) rfl (fun H locs hP hD hS => ?_)
    obtain rfl := Option.some.inj h
    exact ret_i X dX5_isPond_29 hP hD hS rfl
  · have h := if_t h hc8
    refine lv_aload_n hx hb dX5_isPond_11 rfl (lv_at hl 0 rfl) ?_
    refine lv_bipush (v := (-2 : Int32)) hx hb dX5_isPond_12 (by decide) ?_
    obtain ⟨v4, hv4, h⟩ := bind_of h
    refine after_i X (run_V X (c_X5_refuse l E a_t a_refusals a_now a_kept a_trial a_reader a_shelves a_one a_two a_search a_outs (-2 : Int32) c_t c_refusals H.size v4 hv4) (cwV 1 hts gX5_isPond_X5_refuse rfl rfl rfl hV_X5_refuse ⟨(Nat.le_of_ble_eq_true rfl), (Nat.le_of_ble_eq_true rfl)⟩) hP hD hS [0, 3] rfl rfl hl.1 (ci := 5) rfl rfl rfl (rest := []) rfl rfl (Nat.le_of_ble_eq_true rfl) dX5_isPond_14) hP hD hS [0, 3] [1, 2] [2, 0, 1, 3] rfl rfl rfl (by decide) rfl (ws1 := (W_X5_isPond E a_t a_now a_now_ponds a_refusals a_kept a_trial a_reader a_shelves a_one a_two a_search a_outs a_now_kinds a_now_weights a_now_cells a_now_faces a_now_pledges c_t c_now c_now_ponds (v4.2))) rfl (fun H locs hP hD hS => ?_)
    obtain rfl := Option.some.inj h
    exact ret_i X dX5_isPond_17 hP hD hS rfl
end
set_option maxRecDepth 100000 in
theorem c_X5_isPond (l : Launch) (E : Env0) (a_t : Nat) (a_now : Nat) (a_now_ponds : Nat) (a_refusals : Nat) (a_kept : Nat) (a_trial : Nat) (a_reader : Nat) (a_shelves : Nat) (a_one : Nat) (a_two : Nat) (a_search : Nat) (a_outs : Nat) (a_now_kinds : Nat) (a_now_weights : Nat) (a_now_cells : Nat) (a_now_faces : Nat) (a_now_pledges : Nat) (l1 : Int32) (c_t : Nat → Int32) (c_now : Nat → Int32) (c_now_ponds : Nat → Int32) (c_refusals : Nat → Int32) (sz : Nat) (res : Int32 × (Nat → Int32)) (h : f_X5_isPond l1 c_t c_now c_now_ponds c_refusals = some res) : Met l yX5_isPond wsX5_isPond r_X5_isPond (cPre E [.ref a_t, .int l1] (W_X5_isPond E a_t a_now a_now_ponds a_refusals a_kept a_trial a_reader a_shelves a_one a_two a_search a_outs a_now_kinds a_now_weights a_now_cells a_now_faces a_now_pledges c_t c_now c_now_ponds c_refusals) sz) (qI E (va_A (W_X5_isPond E a_t a_now a_now_ponds a_refusals a_kept a_trial a_reader a_shelves a_one a_two a_search a_outs a_now_kinds a_now_weights a_now_cells a_now_faces a_now_pledges c_t c_now c_now_ponds c_refusals) sz) (res.1) (W_X5_isPond E a_t a_now a_now_ponds a_refusals a_kept a_trial a_reader a_shelves a_one a_two a_search a_outs a_now_kinds a_now_weights a_now_cells a_now_faces a_now_pledges c_t c_now c_now_ponds (res.2))) 0 0 (va_A (W_X5_isPond E a_t a_now a_now_ponds a_refusals a_kept a_trial a_reader a_shelves a_one a_two a_search a_outs a_now_kinds a_now_weights a_now_cells a_now_faces a_now_pledges c_t c_now c_now_ponds c_refusals) sz) :=
  met_of (Qc := fun A => qI E A (res.1) (W_X5_isPond E a_t a_now a_now_ponds a_refusals a_kept a_trial a_reader a_shelves a_one a_two a_search a_outs a_now_kinds a_now_weights a_now_cells a_now_faces a_now_pledges c_t c_now c_now_ponds (res.2))) (by decide) rfl (Nat.le_of_ble_eq_true rfl) (fun p e s m args below meth c X hP hD hS ls hl => w_X5_isPond X a_t a_now a_now_ponds a_refusals a_kept a_trial a_reader a_shelves a_one a_two a_search a_outs a_now_kinds a_now_weights a_now_cells a_now_faces a_now_pledges c_t c_now c_now_ponds res c_refusals l1 ls _ _ h hP hD hS hl)
-- ===== X5_open
abbrev W_X5_open (E : Env0) (a_t : Nat) (a_now : Nat) (a_now_ponds : Nat) (a_refusals : Nat) (a_kept : Nat) (a_trial : Nat) (a_reader : Nat) (a_shelves : Nat) (a_one : Nat) (a_two : Nat) (a_search : Nat) (a_outs : Nat) (a_now_kinds : Nat) (a_now_weights : Nat) (a_now_cells : Nat) (a_now_faces : Nat) (a_now_pledges : Nat) (c_t : Nat → Int32) (c_now : Nat → Int32) (c_now_ponds : Nat → Int32) (c_refusals : Nat → Int32) : va_W := [(a_t, .inr (5, [.ref a_now, .ref a_kept, .ref a_trial, .ref a_reader, .ref a_shelves, .ref a_one, .ref a_two, .ref a_search, .ref a_outs, .ref a_refusals, .int (c_t 10)])), (a_now, .inr (0, [.int (c_now 0), .int (c_now 1), .int (c_now 2), .int (c_now 3), .int (c_now 4), .int (c_now 5), .int (c_now 6), .int (c_now 7), .ref a_now_ponds, .ref a_now_kinds, .ref a_now_weights, .ref a_now_cells, .ref a_now_faces, .ref a_now_pledges])), (a_now_ponds, .inl (eZ E, 70, .inl c_now_ponds)), (a_refusals, .inl (eI E, 5, .inl c_refusals))]
abbrev r_X5_open : Room := { frames := 2, cells := 0, slots := 0, locals := 43 }
theorem hd_X5_open : yX5_open.cls ≠ "java/lang/invoke/MethodHandle" ∧ yX5_open.cls ≠ "java/lang/invoke/VarHandle" ∧ (parseMethodDescriptor yX5_open.desc).map (fun d => d.parameters.length) = some 2 := by decide +kernel
theorem hV_X5_open : yX5_open.cls = RX5 ∧ yX5_open.cls ≠ "java/lang/invoke/MethodHandle" ∧ yX5_open.cls ≠ "java/lang/invoke/VarHandle" ∧ (parseMethodDescriptor yX5_open.desc).map (fun d => d.parameters.length) = some 2 := ⟨rfl, hd_X5_open⟩
theorem iX5_open_X5 : ∀ w ∈ wsX50, w ∈ wsX5_open := fun _ h => List.mem_cons_of_mem _ (List.mem_append_left _ (List.mem_append_right _ (h)))
section
variable {p : Program} {l : Launch} {e : Env} {s : State} {m : MethodId} {args : Array Value} {below : List Frame} {meth : Method} {c : Code} {E : Env0} {A : Nat → Prop}
set_option maxRecDepth 100000 in
set_option maxHeartbeats 4000000 in
theorem w_X5_open_b18 (X : Ctx p m meth c cX5_open 5 ((some .int)) s args wsX5_open RX5 E A) (a_t : Nat) (a_now : Nat) (a_now_ponds : Nat) (a_refusals : Nat) (a_kept : Nat) (a_trial : Nat) (a_reader : Nat) (a_shelves : Nat) (a_one : Nat) (a_two : Nat) (a_search : Nat) (a_outs : Nat) (a_now_kinds : Nat) (a_now_weights : Nat) (a_now_cells : Nat) (a_now_faces : Nat) (a_now_pledges : Nat) (c_t : Nat → Int32) (c_now : Nat → Int32) (c_now_ponds : Nat → Int32) (res : Int32 × (Nat → Int32)) (c_refusals : Nat → Int32) (ls : Array Slot) (H : Heap) (locs : List Loc) (h : f_X5_open_b18 c_t c_now c_now_ponds c_refusals = some res) (hP : va_P E.1 vwCl (W_X5_open E a_t a_now a_now_ponds a_refusals a_kept a_trial a_reader a_shelves a_one a_two a_search a_outs a_now_kinds a_now_weights a_now_cells a_now_faces a_now_pledges c_t c_now c_now_ponds c_refusals) H) (hD : va_D A (W_X5_open E a_t a_now a_now_ponds a_refusals a_kept a_trial a_reader a_shelves a_one a_two a_search a_outs a_now_kinds a_now_weights a_now_cells a_now_faces a_now_pledges c_t c_now c_now_ponds c_refusals)) (hS : va_S A s.heap H locs) (hl : lv_has ls 5 [(0, .ref a_t)]) : W p l e r_X5_open s m args below meth c H locs 0 0 (MQ below (qI E A (res.1) (W_X5_open E a_t a_now a_now_ponds a_refusals a_kept a_trial a_reader a_shelves a_one a_two a_search a_outs a_now_kinds a_now_weights a_now_cells a_now_faces a_now_pledges c_t c_now c_now_ponds (res.2))) args s 0 0 A) (F0 m 18 ls []) := by
  obtain ⟨hx, hb, hml, hr, hlk, hown, hts, hG, hA⟩ := id X
  have hK := hG.1
  have hN := hG.2.1
  unfold f_X5_open_b18 at h
  refine lv_aload_n hx hb dX5_open_18 rfl (lv_at hl 0 rfl) ?_
  refine lv_bipush (v := (-2 : Int32)) hx hb dX5_open_19 (by decide) ?_
  obtain ⟨v1, hv1, h⟩ := bind_of h
  refine after_i X (run_V X (c_X5_refuse l E a_t a_refusals a_now a_kept a_trial a_reader a_shelves a_one a_two a_search a_outs (-2 : Int32) c_t c_refusals H.size v1 hv1) (cwV 1 hts gX5_open_X5_refuse rfl rfl rfl hV_X5_refuse ⟨(Nat.le_of_ble_eq_true rfl), (Nat.le_of_ble_eq_true rfl)⟩) hP hD hS [0, 3] rfl rfl hl.1 (ci := 5) rfl rfl rfl (rest := []) rfl rfl (Nat.le_of_ble_eq_true rfl) dX5_open_21) hP hD hS [0, 3] [1, 2] [2, 0, 1, 3] rfl rfl rfl (by decide) rfl (ws1 := (W_X5_open E a_t a_now a_now_ponds a_refusals a_kept a_trial a_reader a_shelves a_one a_two a_search a_outs a_now_kinds a_now_weights a_now_cells a_now_faces a_now_pledges c_t c_now c_now_ponds (v1.2))) rfl (fun H locs hP hD hS => ?_)
  obtain rfl := Option.some.inj h
  exact ret_i X dX5_open_24 hP hD hS rfl
set_option maxRecDepth 100000 in
set_option maxHeartbeats 4000000 in
theorem w_X5_open_b38 (X : Ctx p m meth c cX5_open 5 ((some .int)) s args wsX5_open RX5 E A) (a_t : Nat) (a_now : Nat) (a_now_ponds : Nat) (a_refusals : Nat) (a_kept : Nat) (a_trial : Nat) (a_reader : Nat) (a_shelves : Nat) (a_one : Nat) (a_two : Nat) (a_search : Nat) (a_outs : Nat) (a_now_kinds : Nat) (a_now_weights : Nat) (a_now_cells : Nat) (a_now_faces : Nat) (a_now_pledges : Nat) (c_t : Nat → Int32) (c_now : Nat → Int32) (c_now_ponds : Nat → Int32) (res : Int32 × (Nat → Int32)) : ∀ (n : Nat) (c_refusals : Nat → Int32) (l2 : Int32) (l3 : Int32) (l4 : Int32) (ls : Array Slot) (H : Heap) (locs : List Loc), f_X5_open_b38 c_t c_now c_now_ponds n c_refusals l2 l3 l4 = some res → va_P E.1 vwCl (W_X5_open E a_t a_now a_now_ponds a_refusals a_kept a_trial a_reader a_shelves a_one a_two a_search a_outs a_now_kinds a_now_weights a_now_cells a_now_faces a_now_pledges c_t c_now c_now_ponds c_refusals) H → va_D A (W_X5_open E a_t a_now a_now_ponds a_refusals a_kept a_trial a_reader a_shelves a_one a_two a_search a_outs a_now_kinds a_now_weights a_now_cells a_now_faces a_now_pledges c_t c_now c_now_ponds c_refusals) → va_S A s.heap H locs → lv_has ls 5 [(0, .ref a_t), (2, .int l2), (3, .int l3), (4, .int l4)] → W p l e r_X5_open s m args below meth c H locs 0 0 (MQ below (qI E A (res.1) (W_X5_open E a_t a_now a_now_ponds a_refusals a_kept a_trial a_reader a_shelves a_one a_two a_search a_outs a_now_kinds a_now_weights a_now_cells a_now_faces a_now_pledges c_t c_now c_now_ponds (res.2))) args s 0 0 A) (F0 m 38 ls []) := by
  obtain ⟨hx, hb, hml, hr, hlk, hown, hts, hG, hA⟩ := id X
  have hK := hG.1
  have hN := hG.2.1
  intro n
  induction n with
  | zero =>
    intro c_refusals l2 l3 l4 ls H locs h
    exact absurd (show (none : Option (Int32 × (Nat → Int32))) = some res from h) (by intro q; cases q)
  | succ n ih =>
    intro c_refusals l2 l3 l4 ls H locs h hP hD hS hl
    rw [f_X5_open_b38] at h
    refine lv_iload hx hb dX5_open_38 (lv_at hl 3 rfl) ?_
    refine lv_bipush (v := (7 : Int32)) hx hb dX5_open_40 (by decide) ?_
    refine lv_icmp_ge (tgt := 77) hx hb dX5_open_42 (by decide) (fun hc42 => ?_) (fun hc42 => ?_)
    · have h := if_t h hc42
      refine lv_iload hx hb dX5_open_77 (lv_at hl 3 rfl) ?_
      obtain rfl := Option.some.inj h
      exact ret_i X dX5_open_79 hP hD hS rfl
    · have h := if_f h hc42
      refine lv_iload_n hx hb dX5_open_45 rfl (lv_at hl 2 rfl) ?_
      refine lv_iconst (v := (-1 : Int32)) hx hb dX5_open_46 (by decide) ?_
      refine lv_icmp_eq (tgt := 77) hx hb dX5_open_47 (by decide) (fun hc47 => ?_) (fun hc47 => ?_)
      · have h := if_t h hc47
        refine lv_iload hx hb dX5_open_77 (lv_at hl 3 rfl) ?_
        obtain rfl := Option.some.inj h
        exact ret_i X dX5_open_79 hP hD hS rfl
      · have h := if_f h hc47
        refine lv_aload_n hx hb dX5_open_50 rfl (lv_at hl 0 rfl) ?_
        refine va_get (D := E.1) (ci := 5) (v := .ref a_now) (C := RX5) (T := TX5) (N := 11) hx hb hts iX5_open_X5 hown hK hP 0 rfl rfl 0 (by decide) (hts (.fieldLink RX5 10 "LeftIsAgreedOn" "now" "LLeftIsAgreedOn$Island;") (List.mem_of_getElem? (i := 1) rfl)) (fun _ h9 => h9) rfl dX5_open_51 ?_
        refine lv_iload_n hx hb dX5_open_54 rfl (lv_at hl 2 rfl) ?_
        obtain ⟨v1, hv1, h⟩ := bind_of h
        refine after_i X (run_V X (c_X0_hasPond l E a_now a_now_ponds a_now_kinds a_now_weights a_now_cells a_now_faces a_now_pledges l3 c_now c_now_ponds H.size v1 hv1) (cwV 1 hts gX5_open_X0_hasPond rfl rfl rfl hV_X0_hasPond ⟨(Nat.le_of_ble_eq_true rfl), (Nat.le_of_ble_eq_true rfl)⟩) hP hD hS [1, 2] rfl rfl hl.1 (ci := 0) rfl rfl rfl (rest := []) rfl rfl (Nat.le_of_ble_eq_true rfl) dX5_open_55) hP hD hS [1, 2] [0, 3] [0, 2, 3, 1] rfl rfl rfl (by decide) rfl (ws1 := (W_X5_open E a_t a_now a_now_ponds a_refusals a_kept a_trial a_reader a_shelves a_one a_two a_search a_outs a_now_kinds a_now_weights a_now_cells a_now_faces a_now_pledges c_t c_now c_now_ponds c_refusals)) rfl (fun H locs hP hD hS => ?_)
        refine lv_if_ne (tgt := 77) hx hb dX5_open_58 (by decide) (fun hc58 => ?_) (fun hc58 => ?_)
        · have h := if_f h hc58
          refine lv_iload hx hb dX5_open_77 (lv_at hl 3 rfl) ?_
          obtain rfl := Option.some.inj h
          exact ret_i X dX5_open_79 hP hD hS rfl
        · have h := if_t h hc58
          refine lv_iinc (v := (l4 + (1 : Int32))) (lv' := [(4, .int (l4 + (1 : Int32))), (0, .ref a_t), (2, .int l2), (3, .int l3)]) hx hb dX5_open_61 hl (k := 3) rfl rfl (by decide) rfl (fun ls hl => ?_)
          refine lv_aload_n hx hb dX5_open_64 rfl (lv_at hl 1 rfl) ?_
          refine va_get (D := E.1) (ci := 5) (v := .ref a_now) (C := RX5) (T := TX5) (N := 11) hx hb hts iX5_open_X5 hown hK hP 0 rfl rfl 0 (by decide) (hts (.fieldLink RX5 10 "LeftIsAgreedOn" "now" "LLeftIsAgreedOn$Island;") (List.mem_of_getElem? (i := 1) rfl)) (fun _ h9 => h9) rfl dX5_open_65 ?_
          refine lv_iload_n hx hb dX5_open_68 rfl (lv_at hl 3 rfl) ?_
          refine lv_iload_n hx hb dX5_open_69 rfl (lv_at hl 2 rfl) ?_
          obtain ⟨v2, hv2, h⟩ := bind_of h
          refine after_i X (run_V X (c_X0_cellAhead l E a_now a_now_ponds a_now_kinds a_now_weights a_now_cells a_now_faces a_now_pledges l3 l2 c_now H.size v2 hv2) (cwV 2 hts gX5_open_X0_cellAhead rfl rfl rfl hV_X0_cellAhead ⟨(Nat.le_of_ble_eq_true rfl), (Nat.le_of_ble_eq_true rfl)⟩) hP hD hS [1] rfl rfl hl.1 (ci := 0) rfl rfl rfl (rest := []) rfl rfl (Nat.le_of_ble_eq_true rfl) dX5_open_70) hP hD hS [1] [0, 2, 3] [0, 3, 1, 2] rfl rfl rfl (by decide) rfl (ws1 := (W_X5_open E a_t a_now a_now_ponds a_refusals a_kept a_trial a_reader a_shelves a_one a_two a_search a_outs a_now_kinds a_now_weights a_now_cells a_now_faces a_now_pledges c_t c_now c_now_ponds c_refusals)) rfl (fun H locs hP hD hS => ?_)
          refine lv_istore_n (lv' := [(3, .int v2), (4, .int (l4 + (1 : Int32))), (0, .ref a_t), (2, .int l2)]) hx hb dX5_open_73 rfl hl (by decide) rfl (fun ls hl => ?_)
          refine lv_goto (tgt := 38) hx hb dX5_open_74 (by decide) ?_
          exact ih c_refusals l2 v2 (l4 + (1 : Int32)) _ _ _ h hP hD hS (lv_sub hl [2, 3, 0, 1] rfl)
set_option maxRecDepth 100000 in
set_option maxHeartbeats 4000000 in
theorem w_X5_open (X : Ctx p m meth c cX5_open 5 ((some .int)) s args wsX5_open RX5 E A) (a_t : Nat) (a_now : Nat) (a_now_ponds : Nat) (a_refusals : Nat) (a_kept : Nat) (a_trial : Nat) (a_reader : Nat) (a_shelves : Nat) (a_one : Nat) (a_two : Nat) (a_search : Nat) (a_outs : Nat) (a_now_kinds : Nat) (a_now_weights : Nat) (a_now_cells : Nat) (a_now_faces : Nat) (a_now_pledges : Nat) (c_t : Nat → Int32) (c_now : Nat → Int32) (c_now_ponds : Nat → Int32) (res : Int32 × (Nat → Int32)) (c_refusals : Nat → Int32) (l1 : Int32) (l2 : Int32) (ls : Array Slot) (H : Heap) (locs : List Loc) (h : f_X5_open l1 l2 c_t c_now c_now_ponds c_refusals = some res) (hP : va_P E.1 vwCl (W_X5_open E a_t a_now a_now_ponds a_refusals a_kept a_trial a_reader a_shelves a_one a_two a_search a_outs a_now_kinds a_now_weights a_now_cells a_now_faces a_now_pledges c_t c_now c_now_ponds c_refusals) H) (hD : va_D A (W_X5_open E a_t a_now a_now_ponds a_refusals a_kept a_trial a_reader a_shelves a_one a_two a_search a_outs a_now_kinds a_now_weights a_now_cells a_now_faces a_now_pledges c_t c_now c_now_ponds c_refusals)) (hS : va_S A s.heap H locs) (hl : lv_has ls 5 [(0, .ref a_t), (1, .int l1), (2, .int l2)]) : W p l e r_X5_open s m args below meth c H locs 0 0 (MQ below (qI E A (res.1) (W_X5_open E a_t a_now a_now_ponds a_refusals a_kept a_trial a_reader a_shelves a_one a_two a_search a_outs a_now_kinds a_now_weights a_now_cells a_now_faces a_now_pledges c_t c_now c_now_ponds (res.2))) args s 0 0 A) (F0 m 0 ls []) := by
  obtain ⟨hx, hb, hml, hr, hlk, hown, hts, hG, hA⟩ := id X
  have hK := hG.1
  have hN := hG.2.1
  unfold f_X5_open at h
  refine lv_aload_n hx hb dX5_open_0 rfl (lv_at hl 0 rfl) ?_
  refine va_get (D := E.1) (ci := 5) (v := .ref a_now) (C := RX5) (T := TX5) (N := 11) hx hb hts iX5_open_X5 hown hK hP 0 rfl rfl 0 (by decide) (hts (.fieldLink RX5 10 "LeftIsAgreedOn" "now" "LLeftIsAgreedOn$Island;") (List.mem_of_getElem? (i := 1) rfl)) (fun _ h9 => h9) rfl dX5_open_1 ?_
  refine lv_iload_n hx hb dX5_open_4 rfl (lv_at hl 1 rfl) ?_
  obtain ⟨v1, hv1, h⟩ := bind_of h
  refine after_i X (run_V X (c_X0_isCell l E a_now a_now_ponds a_now_kinds a_now_weights a_now_cells a_now_faces a_now_pledges l1 c_now H.size v1 hv1) (cwV 1 hts gX5_open_X0_isCell rfl rfl rfl hV_X0_isCell ⟨(Nat.le_of_ble_eq_true rfl), (Nat.le_of_ble_eq_true rfl)⟩) hP hD hS [1] rfl rfl hl.1 (ci := 0) rfl rfl rfl (rest := []) rfl rfl (Nat.le_of_ble_eq_true rfl) dX5_open_5) hP hD hS [1] [0, 2, 3] [0, 3, 1, 2] rfl rfl rfl (by decide) rfl (ws1 := (W_X5_open E a_t a_now a_now_ponds a_refusals a_kept a_trial a_reader a_shelves a_one a_two a_search a_outs a_now_kinds a_now_weights a_now_cells a_now_faces a_now_pledges c_t c_now c_now_ponds c_refusals)) rfl (fun H locs hP hD hS => ?_)
  refine lv_if_eq (tgt := 18) hx hb dX5_open_8 (by decide) (fun hc8 => ?_) (fun hc8 => ?_)
  · have h := if_t h hc8
    exact w_X5_open_b18 X a_t a_now a_now_ponds a_refusals a_kept a_trial a_reader a_shelves a_one a_two a_search a_outs a_now_kinds a_now_weights a_now_cells a_now_faces a_now_pledges c_t c_now c_now_ponds res c_refusals _ _ _ h hP hD hS (lv_sub hl [0] rfl)
  · have h := if_f h hc8
    refine lv_iload_n hx hb dX5_open_11 rfl (lv_at hl 2 rfl) ?_
    obtain ⟨v2, hv2, h⟩ := bind_of h
    refine after_i X (run_S X (c_X5_isFaces l E l2 H.size v2 hv2) (va_cwS 1 hts gX5_open_X5_isFaces rfl rfl rfl hd_X5_isFaces ⟨(Nat.le_of_ble_eq_true rfl), (Nat.le_of_ble_eq_true rfl)⟩) hP hD hS [] rfl rfl hl.1 (rest := []) rfl rfl (Nat.le_of_ble_eq_true rfl) dX5_open_12) hP hD hS [] [0, 1, 2, 3] [0, 1, 2, 3] rfl rfl rfl (by decide) rfl (ws1 := (W_X5_open E a_t a_now a_now_ponds a_refusals a_kept a_trial a_reader a_shelves a_one a_two a_search a_outs a_now_kinds a_now_weights a_now_cells a_now_faces a_now_pledges c_t c_now c_now_ponds c_refusals)) rfl (fun H locs hP hD hS => ?_)
    refine lv_if_ne (tgt := 25) hx hb dX5_open_15 (by decide) (fun hc15 => ?_) (fun hc15 => ?_)
    · have h := if_f h hc15
      refine lv_aload_n hx hb dX5_open_25 rfl (lv_at hl 0 rfl) ?_
      refine va_get (D := E.1) (ci := 5) (v := .ref a_now) (C := RX5) (T := TX5) (N := 11) hx hb hts iX5_open_X5 hown hK hP 0 rfl rfl 0 (by decide) (hts (.fieldLink RX5 10 "LeftIsAgreedOn" "now" "LLeftIsAgreedOn$Island;") (List.mem_of_getElem? (i := 1) rfl)) (fun _ h9 => h9) rfl dX5_open_26 ?_
      refine lv_iload_n hx hb dX5_open_29 rfl (lv_at hl 1 rfl) ?_
      refine lv_iload_n hx hb dX5_open_30 rfl (lv_at hl 2 rfl) ?_
      obtain ⟨v3, hv3, h⟩ := bind_of h
      refine after_i X (run_V X (c_X0_cellAhead l E a_now a_now_ponds a_now_kinds a_now_weights a_now_cells a_now_faces a_now_pledges l1 l2 c_now H.size v3 hv3) (cwV 2 hts gX5_open_X0_cellAhead rfl rfl rfl hV_X0_cellAhead ⟨(Nat.le_of_ble_eq_true rfl), (Nat.le_of_ble_eq_true rfl)⟩) hP hD hS [1] rfl rfl hl.1 (ci := 0) rfl rfl rfl (rest := []) rfl rfl (Nat.le_of_ble_eq_true rfl) dX5_open_31) hP hD hS [1] [0, 2, 3] [0, 3, 1, 2] rfl rfl rfl (by decide) rfl (ws1 := (W_X5_open E a_t a_now a_now_ponds a_refusals a_kept a_trial a_reader a_shelves a_one a_two a_search a_outs a_now_kinds a_now_weights a_now_cells a_now_faces a_now_pledges c_t c_now c_now_ponds c_refusals)) rfl (fun H locs hP hD hS => ?_)
      refine lv_istore_n (lv' := [(3, .int v3), (0, .ref a_t), (1, .int l1), (2, .int l2)]) hx hb dX5_open_34 rfl hl (by decide) rfl (fun ls hl => ?_)
      refine lv_iconst (v := (0 : Int32)) hx hb dX5_open_35 (by decide) ?_
      refine lv_istore (lv' := [(4, .int (0 : Int32)), (3, .int v3), (0, .ref a_t), (1, .int l1), (2, .int l2)]) hx hb dX5_open_36 hl (by decide) rfl (fun ls hl => ?_)
      exact w_X5_open_b38 X a_t a_now a_now_ponds a_refusals a_kept a_trial a_reader a_shelves a_one a_two a_search a_outs a_now_kinds a_now_weights a_now_cells a_now_faces a_now_pledges c_t c_now c_now_ponds res FU c_refusals l2 v3 (0 : Int32) _ _ _ h hP hD hS (lv_sub hl [2, 4, 1, 0] rfl)
    · have h := if_t h hc15
      exact w_X5_open_b18 X a_t a_now a_now_ponds a_refusals a_kept a_trial a_reader a_shelves a_one a_two a_search a_outs a_now_kinds a_now_weights a_now_cells a_now_faces a_now_pledges c_t c_now c_now_ponds res c_refusals _ _ _ h hP hD hS (lv_sub hl [0] rfl)
end
set_option maxRecDepth 100000 in
theorem c_X5_open (l : Launch) (E : Env0) (a_t : Nat) (a_now : Nat) (a_now_ponds : Nat) (a_refusals : Nat) (a_kept : Nat) (a_trial : Nat) (a_reader : Nat) (a_shelves : Nat) (a_one : Nat) (a_two : Nat) (a_search : Nat) (a_outs : Nat) (a_now_kinds : Nat) (a_now_weights : Nat) (a_now_cells : Nat) (a_now_faces : Nat) (a_now_pledges : Nat) (l1 : Int32) (l2 : Int32) (c_t : Nat → Int32) (c_now : Nat → Int32) (c_now_ponds : Nat → Int32) (c_refusals : Nat → Int32) (sz : Nat) (res : Int32 × (Nat → Int32)) (h : f_X5_open l1 l2 c_t c_now c_now_ponds c_refusals = some res) : Met l yX5_open wsX5_open r_X5_open (cPre E [.ref a_t, .int l1, .int l2] (W_X5_open E a_t a_now a_now_ponds a_refusals a_kept a_trial a_reader a_shelves a_one a_two a_search a_outs a_now_kinds a_now_weights a_now_cells a_now_faces a_now_pledges c_t c_now c_now_ponds c_refusals) sz) (qI E (va_A (W_X5_open E a_t a_now a_now_ponds a_refusals a_kept a_trial a_reader a_shelves a_one a_two a_search a_outs a_now_kinds a_now_weights a_now_cells a_now_faces a_now_pledges c_t c_now c_now_ponds c_refusals) sz) (res.1) (W_X5_open E a_t a_now a_now_ponds a_refusals a_kept a_trial a_reader a_shelves a_one a_two a_search a_outs a_now_kinds a_now_weights a_now_cells a_now_faces a_now_pledges c_t c_now c_now_ponds (res.2))) 0 0 (va_A (W_X5_open E a_t a_now a_now_ponds a_refusals a_kept a_trial a_reader a_shelves a_one a_two a_search a_outs a_now_kinds a_now_weights a_now_cells a_now_faces a_now_pledges c_t c_now c_now_ponds c_refusals) sz) :=
  met_of (Qc := fun A => qI E A (res.1) (W_X5_open E a_t a_now a_now_ponds a_refusals a_kept a_trial a_reader a_shelves a_one a_two a_search a_outs a_now_kinds a_now_weights a_now_cells a_now_faces a_now_pledges c_t c_now c_now_ponds (res.2))) (by decide) rfl (Nat.le_of_ble_eq_true rfl) (fun p e s m args below meth c X hP hD hS ls hl => w_X5_open X a_t a_now a_now_ponds a_refusals a_kept a_trial a_reader a_shelves a_one a_two a_search a_outs a_now_kinds a_now_weights a_now_cells a_now_faces a_now_pledges c_t c_now c_now_ponds res c_refusals l1 l2 ls _ _ h hP hD hS hl)
-- ===== X5_shore
abbrev W_X5_shore (E : Env0) (a_t : Nat) (a_now : Nat) (a_now_ponds : Nat) (a_kept : Nat) (a_trial : Nat) (a_reader : Nat) (a_shelves : Nat) (a_one : Nat) (a_two : Nat) (a_search : Nat) (a_outs : Nat) (a_refusals : Nat) (a_now_kinds : Nat) (a_now_weights : Nat) (a_now_cells : Nat) (a_now_faces : Nat) (a_now_pledges : Nat) (c_t : Nat → Int32) (c_now : Nat → Int32) (c_now_ponds : Nat → Int32) : va_W := [(a_t, .inr (5, [.ref a_now, .ref a_kept, .ref a_trial, .ref a_reader, .ref a_shelves, .ref a_one, .ref a_two, .ref a_search, .ref a_outs, .ref a_refusals, .int (c_t 10)])), (a_now, .inr (0, [.int (c_now 0), .int (c_now 1), .int (c_now 2), .int (c_now 3), .int (c_now 4), .int (c_now 5), .int (c_now 6), .int (c_now 7), .ref a_now_ponds, .ref a_now_kinds, .ref a_now_weights, .ref a_now_cells, .ref a_now_faces, .ref a_now_pledges])), (a_now_ponds, .inl (eZ E, 70, .inl c_now_ponds))]
abbrev r_X5_shore : Room := { frames := 2, cells := 0, slots := 0, locals := 48 }
theorem hd_X5_shore : yX5_shore.cls ≠ "java/lang/invoke/MethodHandle" ∧ yX5_shore.cls ≠ "java/lang/invoke/VarHandle" ∧ (parseMethodDescriptor yX5_shore.desc).map (fun d => d.parameters.length) = some 0 := by decide +kernel
theorem hV_X5_shore : yX5_shore.cls = RX5 ∧ yX5_shore.cls ≠ "java/lang/invoke/MethodHandle" ∧ yX5_shore.cls ≠ "java/lang/invoke/VarHandle" ∧ (parseMethodDescriptor yX5_shore.desc).map (fun d => d.parameters.length) = some 0 := ⟨rfl, hd_X5_shore⟩
theorem iX5_shore_X5 : ∀ w ∈ wsX50, w ∈ wsX5_shore := fun _ h => List.mem_cons_of_mem _ (List.mem_append_left _ (List.mem_append_right _ (h)))
section
variable {p : Program} {l : Launch} {e : Env} {s : State} {m : MethodId} {args : Array Value} {below : List Frame} {meth : Method} {c : Code} {E : Env0} {A : Nat → Prop}
set_option maxRecDepth 100000 in
set_option maxHeartbeats 4000000 in
theorem w_X5_shore_b35 (X : Ctx p m meth c cX5_shore 3 ((some .int)) s args wsX5_shore RX5 E A) (a_t : Nat) (a_now : Nat) (a_now_ponds : Nat) (a_kept : Nat) (a_trial : Nat) (a_reader : Nat) (a_shelves : Nat) (a_one : Nat) (a_two : Nat) (a_search : Nat) (a_outs : Nat) (a_refusals : Nat) (a_now_kinds : Nat) (a_now_weights : Nat) (a_now_cells : Nat) (a_now_faces : Nat) (a_now_pledges : Nat) (c_t : Nat → Int32) (c_now : Nat → Int32) (c_now_ponds : Nat → Int32) (res : Int32) (k4 : Int32 → Int32 → Option (Int32)) (hk4 : ∀ (l1 : Int32) (l2 : Int32) (ls : Array Slot) (H : Heap) (locs : List Loc), k4 l1 l2 = some res → va_P E.1 vwCl (W_X5_shore E a_t a_now a_now_ponds a_kept a_trial a_reader a_shelves a_one a_two a_search a_outs a_refusals a_now_kinds a_now_weights a_now_cells a_now_faces a_now_pledges c_t c_now c_now_ponds) H → va_D A (W_X5_shore E a_t a_now a_now_ponds a_kept a_trial a_reader a_shelves a_one a_two a_search a_outs a_refusals a_now_kinds a_now_weights a_now_cells a_now_faces a_now_pledges c_t c_now c_now_ponds) → va_S A s.heap H locs → lv_has ls 3 [(0, .ref a_t), (1, .int l1), (2, .int l2)] → W p l e r_X5_shore s m args below meth c H locs 0 0 (MQ below (qI E A res (W_X5_shore E a_t a_now a_now_ponds a_kept a_trial a_reader a_shelves a_one a_two a_search a_outs a_refusals a_now_kinds a_now_weights a_now_cells a_now_faces a_now_pledges c_t c_now c_now_ponds)) args s 0 0 A) (F0 m 4 ls [])) (l1 : Int32) (l2 : Int32) (ls : Array Slot) (H : Heap) (locs : List Loc) (h : f_X5_shore_b35 c_t c_now c_now_ponds k4 l1 l2 = some res) (hP : va_P E.1 vwCl (W_X5_shore E a_t a_now a_now_ponds a_kept a_trial a_reader a_shelves a_one a_two a_search a_outs a_refusals a_now_kinds a_now_weights a_now_cells a_now_faces a_now_pledges c_t c_now c_now_ponds) H) (hD : va_D A (W_X5_shore E a_t a_now a_now_ponds a_kept a_trial a_reader a_shelves a_one a_two a_search a_outs a_refusals a_now_kinds a_now_weights a_now_cells a_now_faces a_now_pledges c_t c_now c_now_ponds)) (hS : va_S A s.heap H locs) (hl : lv_has ls 3 [(0, .ref a_t), (1, .int l1), (2, .int l2)]) : W p l e r_X5_shore s m args below meth c H locs 0 0 (MQ below (qI E A res (W_X5_shore E a_t a_now a_now_ponds a_kept a_trial a_reader a_shelves a_one a_two a_search a_outs a_refusals a_now_kinds a_now_weights a_now_cells a_now_faces a_now_pledges c_t c_now c_now_ponds)) args s 0 0 A) (F0 m 35 ls []) := by
  obtain ⟨hx, hb, hml, hr, hlk, hown, hts, hG, hA⟩ := id X
  have hK := hG.1
  have hN := hG.2.1
  unfold f_X5_shore_b35 at h
  refine lv_iinc (v := (l2 + (1 : Int32))) (lv' := [(2, .int (l2 + (1 : Int32))), (0, .ref a_t), (1, .int l1)]) hx hb dX5_shore_35 hl (k := 2) rfl rfl (by decide) rfl (fun ls hl => ?_)
  refine lv_goto (tgt := 4) hx hb dX5_shore_38 (by decide) ?_
  exact hk4 l1 (l2 + (1 : Int32)) _ _ _ h hP hD hS (lv_sub hl [1, 2, 0] rfl)
set_option maxRecDepth 100000 in
set_option maxHeartbeats 4000000 in
theorem w_X5_shore_b4 (X : Ctx p m meth c cX5_shore 3 ((some .int)) s args wsX5_shore RX5 E A) (a_t : Nat) (a_now : Nat) (a_now_ponds : Nat) (a_kept : Nat) (a_trial : Nat) (a_reader : Nat) (a_shelves : Nat) (a_one : Nat) (a_two : Nat) (a_search : Nat) (a_outs : Nat) (a_refusals : Nat) (a_now_kinds : Nat) (a_now_weights : Nat) (a_now_cells : Nat) (a_now_faces : Nat) (a_now_pledges : Nat) (c_t : Nat → Int32) (c_now : Nat → Int32) (c_now_ponds : Nat → Int32) (res : Int32) : ∀ (n : Nat) (l1 : Int32) (l2 : Int32) (ls : Array Slot) (H : Heap) (locs : List Loc), f_X5_shore_b4 c_t c_now c_now_ponds n l1 l2 = some res → va_P E.1 vwCl (W_X5_shore E a_t a_now a_now_ponds a_kept a_trial a_reader a_shelves a_one a_two a_search a_outs a_refusals a_now_kinds a_now_weights a_now_cells a_now_faces a_now_pledges c_t c_now c_now_ponds) H → va_D A (W_X5_shore E a_t a_now a_now_ponds a_kept a_trial a_reader a_shelves a_one a_two a_search a_outs a_refusals a_now_kinds a_now_weights a_now_cells a_now_faces a_now_pledges c_t c_now c_now_ponds) → va_S A s.heap H locs → lv_has ls 3 [(0, .ref a_t), (1, .int l1), (2, .int l2)] → W p l e r_X5_shore s m args below meth c H locs 0 0 (MQ below (qI E A res (W_X5_shore E a_t a_now a_now_ponds a_kept a_trial a_reader a_shelves a_one a_two a_search a_outs a_refusals a_now_kinds a_now_weights a_now_cells a_now_faces a_now_pledges c_t c_now c_now_ponds)) args s 0 0 A) (F0 m 4 ls []) := by
  obtain ⟨hx, hb, hml, hr, hlk, hown, hts, hG, hA⟩ := id X
  have hK := hG.1
  have hN := hG.2.1
  intro n
  induction n with
  | zero =>
    intro l1 l2 ls H locs h
    exact absurd (show (none : Option (Int32)) = some res from h) (by intro q; cases q)
  | succ n ih =>
    intro l1 l2 ls H locs h hP hD hS hl
    rw [f_X5_shore_b4] at h
    refine lv_iload_n hx hb dX5_shore_4 rfl (lv_at hl 2 rfl) ?_
    refine lv_bipush (v := (70 : Int32)) hx hb dX5_shore_5 (by decide) ?_
    refine lv_icmp_ge (tgt := 41) hx hb dX5_shore_7 (by decide) (fun hc7 => ?_) (fun hc7 => ?_)
    · have h := if_t h hc7
      refine lv_iload_n hx hb dX5_shore_41 rfl (lv_at hl 1 rfl) ?_
      obtain rfl := Option.some.inj h
      exact ret_i X dX5_shore_42 hP hD hS rfl
    · have h := if_f h hc7
      refine lv_aload_n hx hb dX5_shore_10 rfl (lv_at hl 0 rfl) ?_
      refine va_get (D := E.1) (ci := 5) (v := .ref a_now) (C := RX5) (T := TX5) (N := 11) hx hb hts iX5_shore_X5 hown hK hP 0 rfl rfl 0 (by decide) (hts (.fieldLink RX5 10 "LeftIsAgreedOn" "now" "LLeftIsAgreedOn$Island;") (List.mem_of_getElem? (i := 1) rfl)) (fun _ h9 => h9) rfl dX5_shore_11 ?_
      refine lv_iload_n hx hb dX5_shore_14 rfl (lv_at hl 2 rfl) ?_
      obtain ⟨v1, hv1, h⟩ := bind_of h
      refine after_i X (run_V X (c_X0_isDry l E a_now a_now_ponds a_now_kinds a_now_weights a_now_cells a_now_faces a_now_pledges l2 c_now c_now_ponds H.size v1 hv1) (cwV 1 hts gX5_shore_X0_isDry rfl rfl rfl hV_X0_isDry ⟨(Nat.le_of_ble_eq_true rfl), (Nat.le_of_ble_eq_true rfl)⟩) hP hD hS [1, 2] rfl rfl hl.1 (ci := 0) rfl rfl rfl (rest := []) rfl rfl (Nat.le_of_ble_eq_true rfl) dX5_shore_15) hP hD hS [1, 2] [0] [0, 1, 2] rfl rfl rfl (by decide) rfl (ws1 := (W_X5_shore E a_t a_now a_now_ponds a_kept a_trial a_reader a_shelves a_one a_two a_search a_outs a_refusals a_now_kinds a_now_weights a_now_cells a_now_faces a_now_pledges c_t c_now c_now_ponds)) rfl (fun H locs hP hD hS => ?_)
      refine lv_if_eq (tgt := 35) hx hb dX5_shore_18 (by decide) (fun hc18 => ?_) (fun hc18 => ?_)
      · have h := if_t h hc18
        exact w_X5_shore_b35 X a_t a_now a_now_ponds a_kept a_trial a_reader a_shelves a_one a_two a_search a_outs a_refusals a_now_kinds a_now_weights a_now_cells a_now_faces a_now_pledges c_t c_now c_now_ponds res (f_X5_shore_b4 c_t c_now c_now_ponds n) ih l1 l2 _ _ _ h hP hD hS (lv_sub hl [0, 1, 2] rfl)
      · have h := if_f h hc18
        refine lv_aload_n hx hb dX5_shore_21 rfl (lv_at hl 0 rfl) ?_
        refine va_get (D := E.1) (ci := 5) (v := .ref a_now) (C := RX5) (T := TX5) (N := 11) hx hb hts iX5_shore_X5 hown hK hP 0 rfl rfl 0 (by decide) (hts (.fieldLink RX5 10 "LeftIsAgreedOn" "now" "LLeftIsAgreedOn$Island;") (List.mem_of_getElem? (i := 1) rfl)) (fun _ h9 => h9) rfl dX5_shore_22 ?_
        refine lv_iload_n hx hb dX5_shore_25 rfl (lv_at hl 2 rfl) ?_
        obtain ⟨v2, hv2, h⟩ := bind_of h
        refine after_i X (run_V X (c_X0_hasPondBeside l E a_now a_now_ponds a_now_kinds a_now_weights a_now_cells a_now_faces a_now_pledges l2 c_now c_now_ponds H.size v2 hv2) (cwV 1 hts gX5_shore_X0_hasPondBeside rfl rfl rfl hV_X0_hasPondBeside ⟨(Nat.le_of_ble_eq_true rfl), (Nat.le_of_ble_eq_true rfl)⟩) hP hD hS [1, 2] rfl rfl hl.1 (ci := 0) rfl rfl rfl (rest := []) rfl rfl (Nat.le_of_ble_eq_true rfl) dX5_shore_26) hP hD hS [1, 2] [0] [0, 1, 2] rfl rfl rfl (by decide) rfl (ws1 := (W_X5_shore E a_t a_now a_now_ponds a_kept a_trial a_reader a_shelves a_one a_two a_search a_outs a_refusals a_now_kinds a_now_weights a_now_cells a_now_faces a_now_pledges c_t c_now c_now_ponds)) rfl (fun H locs hP hD hS => ?_)
        refine lv_if_eq (tgt := 35) hx hb dX5_shore_29 (by decide) (fun hc29 => ?_) (fun hc29 => ?_)
        · have h := if_t h hc29
          exact w_X5_shore_b35 X a_t a_now a_now_ponds a_kept a_trial a_reader a_shelves a_one a_two a_search a_outs a_refusals a_now_kinds a_now_weights a_now_cells a_now_faces a_now_pledges c_t c_now c_now_ponds res (f_X5_shore_b4 c_t c_now c_now_ponds n) ih l1 l2 _ _ _ h hP hD hS (lv_sub hl [0, 1, 2] rfl)
        · have h := if_f h hc29
          refine lv_iinc (v := (l1 + (1 : Int32))) (lv' := [(1, .int (l1 + (1 : Int32))), (0, .ref a_t), (2, .int l2)]) hx hb dX5_shore_32 hl (k := 1) rfl rfl (by decide) rfl (fun ls hl => ?_)
          exact w_X5_shore_b35 X a_t a_now a_now_ponds a_kept a_trial a_reader a_shelves a_one a_two a_search a_outs a_refusals a_now_kinds a_now_weights a_now_cells a_now_faces a_now_pledges c_t c_now c_now_ponds res (f_X5_shore_b4 c_t c_now c_now_ponds n) ih (l1 + (1 : Int32)) l2 _ _ _ h hP hD hS (lv_sub hl [1, 0, 2] rfl)
set_option maxRecDepth 100000 in
set_option maxHeartbeats 4000000 in
theorem w_X5_shore (X : Ctx p m meth c cX5_shore 3 ((some .int)) s args wsX5_shore RX5 E A) (a_t : Nat) (a_now : Nat) (a_now_ponds : Nat) (a_kept : Nat) (a_trial : Nat) (a_reader : Nat) (a_shelves : Nat) (a_one : Nat) (a_two : Nat) (a_search : Nat) (a_outs : Nat) (a_refusals : Nat) (a_now_kinds : Nat) (a_now_weights : Nat) (a_now_cells : Nat) (a_now_faces : Nat) (a_now_pledges : Nat) (c_t : Nat → Int32) (c_now : Nat → Int32) (c_now_ponds : Nat → Int32) (res : Int32) (ls : Array Slot) (H : Heap) (locs : List Loc) (h : f_X5_shore c_t c_now c_now_ponds = some res) (hP : va_P E.1 vwCl (W_X5_shore E a_t a_now a_now_ponds a_kept a_trial a_reader a_shelves a_one a_two a_search a_outs a_refusals a_now_kinds a_now_weights a_now_cells a_now_faces a_now_pledges c_t c_now c_now_ponds) H) (hD : va_D A (W_X5_shore E a_t a_now a_now_ponds a_kept a_trial a_reader a_shelves a_one a_two a_search a_outs a_refusals a_now_kinds a_now_weights a_now_cells a_now_faces a_now_pledges c_t c_now c_now_ponds)) (hS : va_S A s.heap H locs) (hl : lv_has ls 3 [(0, .ref a_t)]) : W p l e r_X5_shore s m args below meth c H locs 0 0 (MQ below (qI E A res (W_X5_shore E a_t a_now a_now_ponds a_kept a_trial a_reader a_shelves a_one a_two a_search a_outs a_refusals a_now_kinds a_now_weights a_now_cells a_now_faces a_now_pledges c_t c_now c_now_ponds)) args s 0 0 A) (F0 m 0 ls []) := by
  obtain ⟨hx, hb, hml, hr, hlk, hown, hts, hG, hA⟩ := id X
  have hK := hG.1
  have hN := hG.2.1
  unfold f_X5_shore at h
  refine lv_iconst (v := (0 : Int32)) hx hb dX5_shore_0 (by decide) ?_
  refine lv_istore_n (lv' := [(1, .int (0 : Int32)), (0, .ref a_t)]) hx hb dX5_shore_1 rfl hl (by decide) rfl (fun ls hl => ?_)
  refine lv_iconst (v := (0 : Int32)) hx hb dX5_shore_2 (by decide) ?_
  refine lv_istore_n (lv' := [(2, .int (0 : Int32)), (1, .int (0 : Int32)), (0, .ref a_t)]) hx hb dX5_shore_3 rfl hl (by decide) rfl (fun ls hl => ?_)
  exact w_X5_shore_b4 X a_t a_now a_now_ponds a_kept a_trial a_reader a_shelves a_one a_two a_search a_outs a_refusals a_now_kinds a_now_weights a_now_cells a_now_faces a_now_pledges c_t c_now c_now_ponds res FU (0 : Int32) (0 : Int32) _ _ _ h hP hD hS (lv_sub hl [2, 1, 0] rfl)
end
set_option maxRecDepth 100000 in
theorem c_X5_shore (l : Launch) (E : Env0) (a_t : Nat) (a_now : Nat) (a_now_ponds : Nat) (a_kept : Nat) (a_trial : Nat) (a_reader : Nat) (a_shelves : Nat) (a_one : Nat) (a_two : Nat) (a_search : Nat) (a_outs : Nat) (a_refusals : Nat) (a_now_kinds : Nat) (a_now_weights : Nat) (a_now_cells : Nat) (a_now_faces : Nat) (a_now_pledges : Nat) (c_t : Nat → Int32) (c_now : Nat → Int32) (c_now_ponds : Nat → Int32) (sz : Nat) (res : Int32) (h : f_X5_shore c_t c_now c_now_ponds = some res) : Met l yX5_shore wsX5_shore r_X5_shore (cPre E [.ref a_t] (W_X5_shore E a_t a_now a_now_ponds a_kept a_trial a_reader a_shelves a_one a_two a_search a_outs a_refusals a_now_kinds a_now_weights a_now_cells a_now_faces a_now_pledges c_t c_now c_now_ponds) sz) (qI E (va_A (W_X5_shore E a_t a_now a_now_ponds a_kept a_trial a_reader a_shelves a_one a_two a_search a_outs a_refusals a_now_kinds a_now_weights a_now_cells a_now_faces a_now_pledges c_t c_now c_now_ponds) sz) res (W_X5_shore E a_t a_now a_now_ponds a_kept a_trial a_reader a_shelves a_one a_two a_search a_outs a_refusals a_now_kinds a_now_weights a_now_cells a_now_faces a_now_pledges c_t c_now c_now_ponds)) 0 0 (va_A (W_X5_shore E a_t a_now a_now_ponds a_kept a_trial a_reader a_shelves a_one a_two a_search a_outs a_refusals a_now_kinds a_now_weights a_now_cells a_now_faces a_now_pledges c_t c_now c_now_ponds) sz) :=
  met_of (Qc := fun A => qI E A res (W_X5_shore E a_t a_now a_now_ponds a_kept a_trial a_reader a_shelves a_one a_two a_search a_outs a_refusals a_now_kinds a_now_weights a_now_cells a_now_faces a_now_pledges c_t c_now c_now_ponds)) (by decide) rfl (Nat.le_of_ble_eq_true rfl) (fun p e s m args below meth c X hP hD hS ls hl => w_X5_shore X a_t a_now a_now_ponds a_kept a_trial a_reader a_shelves a_one a_two a_search a_outs a_refusals a_now_kinds a_now_weights a_now_cells a_now_faces a_now_pledges c_t c_now c_now_ponds res ls _ _ h hP hD hS hl)
-- ===== X5_feed
abbrev W_X5_feed (E : Env0) (a_t : Nat) (a_reader : Nat) (a_reader_bytes : Nat) (a_refusals : Nat) (a_now : Nat) (a_kept : Nat) (a_trial : Nat) (a_shelves : Nat) (a_one : Nat) (a_two : Nat) (a_search : Nat) (a_outs : Nat) (c_t : Nat → Int32) (c_reader : Nat → Int32) (c_reader_bytes : Nat → Int32) (c_refusals : Nat → Int32) : va_W := [(a_t, .inr (5, [.ref a_now, .ref a_kept, .ref a_trial, .ref a_reader, .ref a_shelves, .ref a_one, .ref a_two, .ref a_search, .ref a_outs, .ref a_refusals, .int (c_t 10)])), (a_reader, .inr (1, [.ref a_trial, .ref a_reader_bytes, .int (c_reader 2), .int (c_reader 3), .int (c_reader 4), .int (c_reader 5), .int (c_reader 6)])), (a_reader_bytes, .inl (eI E, 250, .inl c_reader_bytes)), (a_refusals, .inl (eI E, 5, .inl c_refusals))]
abbrev r_X5_feed : Room := { frames := 2, cells := 0, slots := 0, locals := 43 }
theorem hd_X5_feed : yX5_feed.cls ≠ "java/lang/invoke/MethodHandle" ∧ yX5_feed.cls ≠ "java/lang/invoke/VarHandle" ∧ (parseMethodDescriptor yX5_feed.desc).map (fun d => d.parameters.length) = some 1 := by decide +kernel
theorem hV_X5_feed : yX5_feed.cls = RX5 ∧ yX5_feed.cls ≠ "java/lang/invoke/MethodHandle" ∧ yX5_feed.cls ≠ "java/lang/invoke/VarHandle" ∧ (parseMethodDescriptor yX5_feed.desc).map (fun d => d.parameters.length) = some 1 := ⟨rfl, hd_X5_feed⟩
theorem iX5_feed_X5 : ∀ w ∈ wsX50, w ∈ wsX5_feed := fun _ h => List.mem_cons_of_mem _ (List.mem_append_left _ (List.mem_append_right _ (h)))
section
variable {p : Program} {l : Launch} {e : Env} {s : State} {m : MethodId} {args : Array Value} {below : List Frame} {meth : Method} {c : Code} {E : Env0} {A : Nat → Prop}
set_option maxRecDepth 100000 in
set_option maxHeartbeats 4000000 in
theorem w_X5_feed (X : Ctx p m meth c cX5_feed 2 ((some .int)) s args wsX5_feed RX5 E A) (a_t : Nat) (a_reader : Nat) (a_reader_bytes : Nat) (a_refusals : Nat) (a_now : Nat) (a_kept : Nat) (a_trial : Nat) (a_shelves : Nat) (a_one : Nat) (a_two : Nat) (a_search : Nat) (a_outs : Nat) (c_t : Nat → Int32) (res : Int32 × (Nat → Int32) × (Nat → Int32) × (Nat → Int32)) (c_reader : Nat → Int32) (c_reader_bytes : Nat → Int32) (c_refusals : Nat → Int32) (l1 : Int32) (ls : Array Slot) (H : Heap) (locs : List Loc) (h : f_X5_feed l1 c_t c_reader c_reader_bytes c_refusals = some res) (hP : va_P E.1 vwCl (W_X5_feed E a_t a_reader a_reader_bytes a_refusals a_now a_kept a_trial a_shelves a_one a_two a_search a_outs c_t c_reader c_reader_bytes c_refusals) H) (hD : va_D A (W_X5_feed E a_t a_reader a_reader_bytes a_refusals a_now a_kept a_trial a_shelves a_one a_two a_search a_outs c_t c_reader c_reader_bytes c_refusals)) (hS : va_S A s.heap H locs) (hl : lv_has ls 2 [(0, .ref a_t), (1, .int l1)]) : W p l e r_X5_feed s m args below meth c H locs 0 0 (MQ below (qI E A (res.1) (W_X5_feed E a_t a_reader a_reader_bytes a_refusals a_now a_kept a_trial a_shelves a_one a_two a_search a_outs c_t (res.2.1) (res.2.2.1) (res.2.2.2))) args s 0 0 A) (F0 m 0 ls []) := by
  obtain ⟨hx, hb, hml, hr, hlk, hown, hts, hG, hA⟩ := id X
  have hK := hG.1
  have hN := hG.2.1
  unfold f_X5_feed at h
  refine lv_iload_n hx hb dX5_feed_0 rfl (lv_at hl 1 rfl) ?_
  refine lv_iconst (v := (0 : Int32)) hx hb dX5_feed_1 (by decide) ?_
  refine lv_sipush (v := (255 : Int32)) hx hb dX5_feed_2 (by decide) ?_
  obtain ⟨v1, hv1, h⟩ := bind_of h
  refine after_i X (run_S X (c_X5_isWithin l E l1 (0 : Int32) (255 : Int32) H.size v1 hv1) (va_cwS 3 hts gX5_feed_X5_isWithin rfl rfl rfl hd_X5_isWithin ⟨(Nat.le_of_ble_eq_true rfl), (Nat.le_of_ble_eq_true rfl)⟩) hP hD hS [] rfl rfl hl.1 (rest := []) rfl rfl (Nat.le_of_ble_eq_true rfl) dX5_feed_5) hP hD hS [] [0, 1, 2, 3] [0, 1, 2, 3] rfl rfl rfl (by decide) rfl (ws1 := (W_X5_feed E a_t a_reader a_reader_bytes a_refusals a_now a_kept a_trial a_shelves a_one a_two a_search a_outs c_t c_reader c_reader_bytes c_refusals)) rfl (fun H locs hP hD hS => ?_)
  refine lv_if_ne (tgt := 18) hx hb dX5_feed_8 (by decide) (fun hc8 => ?_) (fun hc8 => ?_)
  · have h := if_f h hc8
    refine lv_aload_n hx hb dX5_feed_18 rfl (lv_at hl 0 rfl) ?_
    refine va_get (D := E.1) (ci := 5) (v := .ref a_reader) (C := RX5) (T := TX5) (N := 11) hx hb hts iX5_feed_X5 hown hK hP 0 rfl rfl 3 (by decide) (hts (.fieldLink RX5 27 "LeftIsAgreedOn" "reader" "LLeftIsAgreedOn$Reader;") (List.mem_of_getElem? (i := 1) rfl)) (fun _ h9 => h9) rfl dX5_feed_19 ?_
    obtain ⟨v2, hv2, h⟩ := bind_of h
    refine after_i X (run_V X (c_X1_isFull l E a_reader a_trial a_reader_bytes c_reader H.size v2 hv2) (cwV 0 hts gX5_feed_X1_isFull rfl rfl rfl hV_X1_isFull ⟨(Nat.le_of_ble_eq_true rfl), (Nat.le_of_ble_eq_true rfl)⟩) hP hD hS [1] rfl rfl hl.1 (ci := 1) rfl rfl rfl (rest := []) rfl rfl (Nat.le_of_ble_eq_true rfl) dX5_feed_22) hP hD hS [1] [0, 2, 3] [0, 3, 1, 2] rfl rfl rfl (by decide) rfl (ws1 := (W_X5_feed E a_t a_reader a_reader_bytes a_refusals a_now a_kept a_trial a_shelves a_one a_two a_search a_outs c_t c_reader c_reader_bytes c_refusals)) rfl (fun H locs hP hD hS => ?_)
    refine lv_if_eq (tgt := 35) hx hb dX5_feed_25 (by decide) (fun hc25 => ?_) (fun hc25 => ?_)
    · have h := if_t h hc25
      refine lv_aload_n hx hb dX5_feed_35 rfl (lv_at hl 0 rfl) ?_
      refine va_get (D := E.1) (ci := 5) (v := .ref a_reader) (C := RX5) (T := TX5) (N := 11) hx hb hts iX5_feed_X5 hown hK hP 0 rfl rfl 3 (by decide) (hts (.fieldLink RX5 27 "LeftIsAgreedOn" "reader" "LLeftIsAgreedOn$Reader;") (List.mem_of_getElem? (i := 1) rfl)) (fun _ h9 => h9) rfl dX5_feed_36 ?_
      refine lv_iload_n hx hb dX5_feed_39 rfl (lv_at hl 1 rfl) ?_
      obtain ⟨v3, hv3, h⟩ := bind_of h
      refine after_i X (run_V X (c_X1_append l E a_reader a_reader_bytes a_trial l1 c_reader c_reader_bytes H.size v3 hv3) (cwV 1 hts gX5_feed_X1_append rfl rfl rfl hV_X1_append ⟨(Nat.le_of_ble_eq_true rfl), (Nat.le_of_ble_eq_true rfl)⟩) hP hD hS [1, 2] rfl rfl hl.1 (ci := 1) rfl rfl rfl (rest := []) rfl rfl (Nat.le_of_ble_eq_true rfl) dX5_feed_40) hP hD hS [1, 2] [0, 3] [0, 2, 3, 1] rfl rfl rfl (by decide) rfl (ws1 := (W_X5_feed E a_t a_reader a_reader_bytes a_refusals a_now a_kept a_trial a_shelves a_one a_two a_search a_outs c_t (v3.2.1) (v3.2.2) c_refusals)) rfl (fun H locs hP hD hS => ?_)
      obtain rfl := Option.some.inj h
      exact ret_i X dX5_feed_43 hP hD hS rfl
    · have h := if_f h hc25
      refine lv_aload_n hx hb dX5_feed_28 rfl (lv_at hl 0 rfl) ?_
      refine lv_bipush (v := (-6 : Int32)) hx hb dX5_feed_29 (by decide) ?_
      obtain ⟨v4, hv4, h⟩ := bind_of h
      refine after_i X (run_V X (c_X5_refuse l E a_t a_refusals a_now a_kept a_trial a_reader a_shelves a_one a_two a_search a_outs (-6 : Int32) c_t c_refusals H.size v4 hv4) (cwV 1 hts gX5_feed_X5_refuse rfl rfl rfl hV_X5_refuse ⟨(Nat.le_of_ble_eq_true rfl), (Nat.le_of_ble_eq_true rfl)⟩) hP hD hS [0, 3] rfl rfl hl.1 (ci := 5) rfl rfl rfl (rest := []) rfl rfl (Nat.le_of_ble_eq_true rfl) dX5_feed_31) hP hD hS [0, 3] [1, 2] [2, 0, 1, 3] rfl rfl rfl (by decide) rfl (ws1 := (W_X5_feed E a_t a_reader a_reader_bytes a_refusals a_now a_kept a_trial a_shelves a_one a_two a_search a_outs c_t c_reader c_reader_bytes (v4.2))) rfl (fun H locs hP hD hS => ?_)
      obtain rfl := Option.some.inj h
      exact ret_i X dX5_feed_34 hP hD hS rfl
  · have h := if_t h hc8
    refine lv_aload_n hx hb dX5_feed_11 rfl (lv_at hl 0 rfl) ?_
    refine lv_bipush (v := (-2 : Int32)) hx hb dX5_feed_12 (by decide) ?_
    obtain ⟨v5, hv5, h⟩ := bind_of h
    refine after_i X (run_V X (c_X5_refuse l E a_t a_refusals a_now a_kept a_trial a_reader a_shelves a_one a_two a_search a_outs (-2 : Int32) c_t c_refusals H.size v5 hv5) (cwV 1 hts gX5_feed_X5_refuse rfl rfl rfl hV_X5_refuse ⟨(Nat.le_of_ble_eq_true rfl), (Nat.le_of_ble_eq_true rfl)⟩) hP hD hS [0, 3] rfl rfl hl.1 (ci := 5) rfl rfl rfl (rest := []) rfl rfl (Nat.le_of_ble_eq_true rfl) dX5_feed_14) hP hD hS [0, 3] [1, 2] [2, 0, 1, 3] rfl rfl rfl (by decide) rfl (ws1 := (W_X5_feed E a_t a_reader a_reader_bytes a_refusals a_now a_kept a_trial a_shelves a_one a_two a_search a_outs c_t c_reader c_reader_bytes (v5.2))) rfl (fun H locs hP hD hS => ?_)
    obtain rfl := Option.some.inj h
    exact ret_i X dX5_feed_17 hP hD hS rfl
end
set_option maxRecDepth 100000 in
theorem c_X5_feed (l : Launch) (E : Env0) (a_t : Nat) (a_reader : Nat) (a_reader_bytes : Nat) (a_refusals : Nat) (a_now : Nat) (a_kept : Nat) (a_trial : Nat) (a_shelves : Nat) (a_one : Nat) (a_two : Nat) (a_search : Nat) (a_outs : Nat) (l1 : Int32) (c_t : Nat → Int32) (c_reader : Nat → Int32) (c_reader_bytes : Nat → Int32) (c_refusals : Nat → Int32) (sz : Nat) (res : Int32 × (Nat → Int32) × (Nat → Int32) × (Nat → Int32)) (h : f_X5_feed l1 c_t c_reader c_reader_bytes c_refusals = some res) : Met l yX5_feed wsX5_feed r_X5_feed (cPre E [.ref a_t, .int l1] (W_X5_feed E a_t a_reader a_reader_bytes a_refusals a_now a_kept a_trial a_shelves a_one a_two a_search a_outs c_t c_reader c_reader_bytes c_refusals) sz) (qI E (va_A (W_X5_feed E a_t a_reader a_reader_bytes a_refusals a_now a_kept a_trial a_shelves a_one a_two a_search a_outs c_t c_reader c_reader_bytes c_refusals) sz) (res.1) (W_X5_feed E a_t a_reader a_reader_bytes a_refusals a_now a_kept a_trial a_shelves a_one a_two a_search a_outs c_t (res.2.1) (res.2.2.1) (res.2.2.2))) 0 0 (va_A (W_X5_feed E a_t a_reader a_reader_bytes a_refusals a_now a_kept a_trial a_shelves a_one a_two a_search a_outs c_t c_reader c_reader_bytes c_refusals) sz) :=
  met_of (Qc := fun A => qI E A (res.1) (W_X5_feed E a_t a_reader a_reader_bytes a_refusals a_now a_kept a_trial a_shelves a_one a_two a_search a_outs c_t (res.2.1) (res.2.2.1) (res.2.2.2))) (by decide) rfl (Nat.le_of_ble_eq_true rfl) (fun p e s m args below meth c X hP hD hS ls hl => w_X5_feed X a_t a_reader a_reader_bytes a_refusals a_now a_kept a_trial a_shelves a_one a_two a_search a_outs c_t res c_reader c_reader_bytes c_refusals l1 ls _ _ h hP hD hS hl)
-- ===== X5_wipe
abbrev W_X5_wipe (E : Env0) (a_t : Nat) (a_reader : Nat) (a_now : Nat) (a_kept : Nat) (a_trial : Nat) (a_shelves : Nat) (a_one : Nat) (a_two : Nat) (a_search : Nat) (a_outs : Nat) (a_refusals : Nat) (a_reader_bytes : Nat) (c_t : Nat → Int32) (c_reader : Nat → Int32) : va_W := [(a_t, .inr (5, [.ref a_now, .ref a_kept, .ref a_trial, .ref a_reader, .ref a_shelves, .ref a_one, .ref a_two, .ref a_search, .ref a_outs, .ref a_refusals, .int (c_t 10)])), (a_reader, .inr (1, [.ref a_trial, .ref a_reader_bytes, .int (c_reader 2), .int (c_reader 3), .int (c_reader 4), .int (c_reader 5), .int (c_reader 6)]))]
abbrev r_X5_wipe : Room := { frames := 1, cells := 0, slots := 0, locals := 21 }
theorem hd_X5_wipe : yX5_wipe.cls ≠ "java/lang/invoke/MethodHandle" ∧ yX5_wipe.cls ≠ "java/lang/invoke/VarHandle" ∧ (parseMethodDescriptor yX5_wipe.desc).map (fun d => d.parameters.length) = some 0 := by decide +kernel
theorem hV_X5_wipe : yX5_wipe.cls = RX5 ∧ yX5_wipe.cls ≠ "java/lang/invoke/MethodHandle" ∧ yX5_wipe.cls ≠ "java/lang/invoke/VarHandle" ∧ (parseMethodDescriptor yX5_wipe.desc).map (fun d => d.parameters.length) = some 0 := ⟨rfl, hd_X5_wipe⟩
theorem iX5_wipe_X5 : ∀ w ∈ wsX50, w ∈ wsX5_wipe := fun _ h => List.mem_cons_of_mem _ (List.mem_append_left _ (List.mem_append_right _ (h)))
section
variable {p : Program} {l : Launch} {e : Env} {s : State} {m : MethodId} {args : Array Value} {below : List Frame} {meth : Method} {c : Code} {E : Env0} {A : Nat → Prop}
set_option maxRecDepth 100000 in
set_option maxHeartbeats 4000000 in
theorem w_X5_wipe (X : Ctx p m meth c cX5_wipe 1 ((some .int)) s args wsX5_wipe RX5 E A) (a_t : Nat) (a_reader : Nat) (a_now : Nat) (a_kept : Nat) (a_trial : Nat) (a_shelves : Nat) (a_one : Nat) (a_two : Nat) (a_search : Nat) (a_outs : Nat) (a_refusals : Nat) (a_reader_bytes : Nat) (c_t : Nat → Int32) (res : Int32 × (Nat → Int32)) (c_reader : Nat → Int32) (ls : Array Slot) (H : Heap) (locs : List Loc) (h : f_X5_wipe c_t c_reader = some res) (hP : va_P E.1 vwCl (W_X5_wipe E a_t a_reader a_now a_kept a_trial a_shelves a_one a_two a_search a_outs a_refusals a_reader_bytes c_t c_reader) H) (hD : va_D A (W_X5_wipe E a_t a_reader a_now a_kept a_trial a_shelves a_one a_two a_search a_outs a_refusals a_reader_bytes c_t c_reader)) (hS : va_S A s.heap H locs) (hl : lv_has ls 1 [(0, .ref a_t)]) : W p l e r_X5_wipe s m args below meth c H locs 0 0 (MQ below (qI E A (res.1) (W_X5_wipe E a_t a_reader a_now a_kept a_trial a_shelves a_one a_two a_search a_outs a_refusals a_reader_bytes c_t (res.2))) args s 0 0 A) (F0 m 0 ls []) := by
  obtain ⟨hx, hb, hml, hr, hlk, hown, hts, hG, hA⟩ := id X
  have hK := hG.1
  have hN := hG.2.1
  unfold f_X5_wipe at h
  refine lv_aload_n hx hb dX5_wipe_0 rfl (lv_at hl 0 rfl) ?_
  refine va_get (D := E.1) (ci := 5) (v := .ref a_reader) (C := RX5) (T := TX5) (N := 11) hx hb hts iX5_wipe_X5 hown hK hP 0 rfl rfl 3 (by decide) (hts (.fieldLink RX5 27 "LeftIsAgreedOn" "reader" "LLeftIsAgreedOn$Reader;") (List.mem_of_getElem? (i := 1) rfl)) (fun _ h9 => h9) rfl dX5_wipe_1 ?_
  obtain ⟨v1, hv1, h⟩ := bind_of h
  refine after_i X (run_V X (c_X1_clear l E a_reader a_trial a_reader_bytes c_reader H.size v1 hv1) (cwV 0 hts gX5_wipe_X1_clear rfl rfl rfl hV_X1_clear ⟨(Nat.le_of_ble_eq_true rfl), (Nat.le_of_ble_eq_true rfl)⟩) hP hD hS [1] rfl rfl hl.1 (ci := 1) rfl rfl rfl (rest := []) rfl rfl (Nat.le_of_ble_eq_true rfl) dX5_wipe_4) hP hD hS [1] [0] [0, 1] rfl rfl rfl (by decide) rfl (ws1 := (W_X5_wipe E a_t a_reader a_now a_kept a_trial a_shelves a_one a_two a_search a_outs a_refusals a_reader_bytes c_t (v1.2))) rfl (fun H locs hP hD hS => ?_)
  obtain rfl := Option.some.inj h
  exact ret_i X dX5_wipe_7 hP hD hS rfl
end
set_option maxRecDepth 100000 in
theorem c_X5_wipe (l : Launch) (E : Env0) (a_t : Nat) (a_reader : Nat) (a_now : Nat) (a_kept : Nat) (a_trial : Nat) (a_shelves : Nat) (a_one : Nat) (a_two : Nat) (a_search : Nat) (a_outs : Nat) (a_refusals : Nat) (a_reader_bytes : Nat) (c_t : Nat → Int32) (c_reader : Nat → Int32) (sz : Nat) (res : Int32 × (Nat → Int32)) (h : f_X5_wipe c_t c_reader = some res) : Met l yX5_wipe wsX5_wipe r_X5_wipe (cPre E [.ref a_t] (W_X5_wipe E a_t a_reader a_now a_kept a_trial a_shelves a_one a_two a_search a_outs a_refusals a_reader_bytes c_t c_reader) sz) (qI E (va_A (W_X5_wipe E a_t a_reader a_now a_kept a_trial a_shelves a_one a_two a_search a_outs a_refusals a_reader_bytes c_t c_reader) sz) (res.1) (W_X5_wipe E a_t a_reader a_now a_kept a_trial a_shelves a_one a_two a_search a_outs a_refusals a_reader_bytes c_t (res.2))) 0 0 (va_A (W_X5_wipe E a_t a_reader a_now a_kept a_trial a_shelves a_one a_two a_search a_outs a_refusals a_reader_bytes c_t c_reader) sz) :=
  met_of (Qc := fun A => qI E A (res.1) (W_X5_wipe E a_t a_reader a_now a_kept a_trial a_shelves a_one a_two a_search a_outs a_refusals a_reader_bytes c_t (res.2))) (by decide) rfl (Nat.le_of_ble_eq_true rfl) (fun p e s m args below meth c X hP hD hS ls hl => w_X5_wipe X a_t a_reader a_now a_kept a_trial a_shelves a_one a_two a_search a_outs a_refusals a_reader_bytes c_t res c_reader ls _ _ h hP hD hS hl)
-- ===== X5_isTold
abbrev W_X5_isTold (E : Env0) (a_t : Nat) (a_shelves : Nat) (a_now : Nat) (a_kept : Nat) (a_trial : Nat) (a_reader : Nat) (a_one : Nat) (a_two : Nat) (a_search : Nat) (a_outs : Nat) (a_refusals : Nat) (a_shelves_contents : Nat) (a_shelves_sizes : Nat) (a_shelves_elements : Nat) (c_t : Nat → Int32) : va_W := [(a_t, .inr (5, [.ref a_now, .ref a_kept, .ref a_trial, .ref a_reader, .ref a_shelves, .ref a_one, .ref a_two, .ref a_search, .ref a_outs, .ref a_refusals, .int (c_t 10)])), (a_shelves, .inr (3, [.ref a_shelves_contents, .ref a_shelves_sizes, .ref a_shelves_elements]))]
abbrev r_X5_isTold : Room := { frames := 2, cells := 0, slots := 0, locals := 43 }
theorem hd_X5_isTold : yX5_isTold.cls ≠ "java/lang/invoke/MethodHandle" ∧ yX5_isTold.cls ≠ "java/lang/invoke/VarHandle" ∧ (parseMethodDescriptor yX5_isTold.desc).map (fun d => d.parameters.length) = some 2 := by decide +kernel
theorem hV_X5_isTold : yX5_isTold.cls = RX5 ∧ yX5_isTold.cls ≠ "java/lang/invoke/MethodHandle" ∧ yX5_isTold.cls ≠ "java/lang/invoke/VarHandle" ∧ (parseMethodDescriptor yX5_isTold.desc).map (fun d => d.parameters.length) = some 2 := ⟨rfl, hd_X5_isTold⟩
theorem iX5_isTold_X5 : ∀ w ∈ wsX50, w ∈ wsX5_isTold := fun _ h => List.mem_cons_of_mem _ (List.mem_append_right _ (h))
section
variable {p : Program} {l : Launch} {e : Env} {s : State} {m : MethodId} {args : Array Value} {below : List Frame} {meth : Method} {c : Code} {E : Env0} {A : Nat → Prop}
set_option maxRecDepth 100000 in
set_option maxHeartbeats 4000000 in
theorem w_X5_isTold (X : Ctx p m meth c cX5_isTold 3 ((some .boolean)) s args wsX5_isTold RX5 E A) (a_t : Nat) (a_shelves : Nat) (a_now : Nat) (a_kept : Nat) (a_trial : Nat) (a_reader : Nat) (a_one : Nat) (a_two : Nat) (a_search : Nat) (a_outs : Nat) (a_refusals : Nat) (a_shelves_contents : Nat) (a_shelves_sizes : Nat) (a_shelves_elements : Nat) (c_t : Nat → Int32) (res : Int32) (l1 : Int32) (l2 : Int32) (ls : Array Slot) (H : Heap) (locs : List Loc) (h : f_X5_isTold l1 l2 c_t = some res) (hP : va_P E.1 vwCl (W_X5_isTold E a_t a_shelves a_now a_kept a_trial a_reader a_one a_two a_search a_outs a_refusals a_shelves_contents a_shelves_sizes a_shelves_elements c_t) H) (hD : va_D A (W_X5_isTold E a_t a_shelves a_now a_kept a_trial a_reader a_one a_two a_search a_outs a_refusals a_shelves_contents a_shelves_sizes a_shelves_elements c_t)) (hS : va_S A s.heap H locs) (hl : lv_has ls 3 [(0, .ref a_t), (1, .int l1), (2, .int l2)]) : W p l e r_X5_isTold s m args below meth c H locs 0 0 (MQ below (qI E A res (W_X5_isTold E a_t a_shelves a_now a_kept a_trial a_reader a_one a_two a_search a_outs a_refusals a_shelves_contents a_shelves_sizes a_shelves_elements c_t)) args s 0 0 A) (F0 m 0 ls []) := by
  obtain ⟨hx, hb, hml, hr, hlk, hown, hts, hG, hA⟩ := id X
  have hK := hG.1
  have hN := hG.2.1
  unfold f_X5_isTold at h
  refine lv_aload_n hx hb dX5_isTold_0 rfl (lv_at hl 0 rfl) ?_
  refine va_get (D := E.1) (ci := 5) (v := .ref a_shelves) (C := RX5) (T := TX5) (N := 11) hx hb hts iX5_isTold_X5 hown hK hP 0 rfl rfl 4 (by decide) (hts (.fieldLink RX5 34 "LeftIsAgreedOn" "shelves" "LLeftIsAgreedOn$Shelves;") (List.mem_of_getElem? (i := 1) rfl)) (fun _ h9 => h9) rfl dX5_isTold_1 ?_
  refine lv_iload_n hx hb dX5_isTold_4 rfl (lv_at hl 1 rfl) ?_
  obtain ⟨v1, hv1, h⟩ := bind_of h
  refine after_i X (run_V X (c_X3_isShelf l E a_shelves a_shelves_contents a_shelves_sizes a_shelves_elements l1 H.size v1 hv1) (cwV 1 hts gX5_isTold_X3_isShelf rfl rfl rfl hV_X3_isShelf ⟨(Nat.le_of_ble_eq_true rfl), (Nat.le_of_ble_eq_true rfl)⟩) hP hD hS [1] rfl rfl hl.1 (ci := 3) rfl rfl rfl (rest := []) rfl rfl (Nat.le_of_ble_eq_true rfl) dX5_isTold_5) hP hD hS [1] [0] [0, 1] rfl rfl rfl (by decide) rfl (ws1 := (W_X5_isTold E a_t a_shelves a_now a_kept a_trial a_reader a_one a_two a_search a_outs a_refusals a_shelves_contents a_shelves_sizes a_shelves_elements c_t)) rfl (fun H locs hP hD hS => ?_)
  refine lv_if_eq (tgt := 25) hx hb dX5_isTold_8 (by decide) (fun hc8 => ?_) (fun hc8 => ?_)
  · have h := if_t h hc8
    refine lv_iconst (v := (0 : Int32)) hx hb dX5_isTold_25 (by decide) ?_
    obtain rfl := Option.some.inj h
    exact ret_z X dX5_isTold_26 (by decide) hP hD hS rfl
  · have h := if_f h hc8
    refine lv_iload_n hx hb dX5_isTold_11 rfl (lv_at hl 2 rfl) ?_
    refine lv_iconst (v := (0 : Int32)) hx hb dX5_isTold_12 (by decide) ?_
    refine lv_bipush (v := (40 : Int32)) hx hb dX5_isTold_13 (by decide) ?_
    obtain ⟨v2, hv2, h⟩ := bind_of h
    refine after_i X (run_S X (c_X5_isWithin l E l2 (0 : Int32) (40 : Int32) H.size v2 hv2) (va_cwS 3 hts gX5_isTold_X5_isWithin rfl rfl rfl hd_X5_isWithin ⟨(Nat.le_of_ble_eq_true rfl), (Nat.le_of_ble_eq_true rfl)⟩) hP hD hS [] rfl rfl hl.1 (rest := []) rfl rfl (Nat.le_of_ble_eq_true rfl) dX5_isTold_15) hP hD hS [] [0, 1] [0, 1] rfl rfl rfl (by decide) rfl (ws1 := (W_X5_isTold E a_t a_shelves a_now a_kept a_trial a_reader a_one a_two a_search a_outs a_refusals a_shelves_contents a_shelves_sizes a_shelves_elements c_t)) rfl (fun H locs hP hD hS => ?_)
    refine lv_if_eq (tgt := 25) hx hb dX5_isTold_18 (by decide) (fun hc18 => ?_) (fun hc18 => ?_)
    · have h := if_t h hc18
      refine lv_iconst (v := (0 : Int32)) hx hb dX5_isTold_25 (by decide) ?_
      obtain rfl := Option.some.inj h
      exact ret_z X dX5_isTold_26 (by decide) hP hD hS rfl
    · have h := if_f h hc18
      refine lv_iconst (v := (1 : Int32)) hx hb dX5_isTold_21 (by decide) ?_
      refine lv_goto (tgt := 26) hx hb dX5_isTold_22 (by decide) ?_
      obtain rfl := Option.some.inj h
      exact ret_z X dX5_isTold_26 (by decide) hP hD hS rfl
end
set_option maxRecDepth 100000 in
theorem c_X5_isTold (l : Launch) (E : Env0) (a_t : Nat) (a_shelves : Nat) (a_now : Nat) (a_kept : Nat) (a_trial : Nat) (a_reader : Nat) (a_one : Nat) (a_two : Nat) (a_search : Nat) (a_outs : Nat) (a_refusals : Nat) (a_shelves_contents : Nat) (a_shelves_sizes : Nat) (a_shelves_elements : Nat) (l1 : Int32) (l2 : Int32) (c_t : Nat → Int32) (sz : Nat) (res : Int32) (h : f_X5_isTold l1 l2 c_t = some res) : Met l yX5_isTold wsX5_isTold r_X5_isTold (cPre E [.ref a_t, .int l1, .int l2] (W_X5_isTold E a_t a_shelves a_now a_kept a_trial a_reader a_one a_two a_search a_outs a_refusals a_shelves_contents a_shelves_sizes a_shelves_elements c_t) sz) (qI E (va_A (W_X5_isTold E a_t a_shelves a_now a_kept a_trial a_reader a_one a_two a_search a_outs a_refusals a_shelves_contents a_shelves_sizes a_shelves_elements c_t) sz) res (W_X5_isTold E a_t a_shelves a_now a_kept a_trial a_reader a_one a_two a_search a_outs a_refusals a_shelves_contents a_shelves_sizes a_shelves_elements c_t)) 0 0 (va_A (W_X5_isTold E a_t a_shelves a_now a_kept a_trial a_reader a_one a_two a_search a_outs a_refusals a_shelves_contents a_shelves_sizes a_shelves_elements c_t) sz) :=
  met_of (Qc := fun A => qI E A res (W_X5_isTold E a_t a_shelves a_now a_kept a_trial a_reader a_one a_two a_search a_outs a_refusals a_shelves_contents a_shelves_sizes a_shelves_elements c_t)) (by decide) rfl (Nat.le_of_ble_eq_true rfl) (fun p e s m args below meth c X hP hD hS ls hl => w_X5_isTold X a_t a_shelves a_now a_kept a_trial a_reader a_one a_two a_search a_outs a_refusals a_shelves_contents a_shelves_sizes a_shelves_elements c_t res l1 l2 ls _ _ h hP hD hS hl)
-- ===== X5_tellingsFault
abbrev W_X5_tellingsFault (E : Env0) (a_t : Nat) (a_shelves : Nat) (a_shelves_contents : Nat) (a_shelves_elements : Nat) (a_shelves_sizes : Nat) (a_now : Nat) (a_kept : Nat) (a_trial : Nat) (a_reader : Nat) (a_one : Nat) (a_two : Nat) (a_search : Nat) (a_outs : Nat) (a_refusals : Nat) (c_t : Nat → Int32) (c_shelves_contents : Nat → Int32) (c_shelves_elements : Nat → Int64) (c_shelves_sizes : Nat → Int32) : va_W := [(a_t, .inr (5, [.ref a_now, .ref a_kept, .ref a_trial, .ref a_reader, .ref a_shelves, .ref a_one, .ref a_two, .ref a_search, .ref a_outs, .ref a_refusals, .int (c_t 10)])), (a_shelves, .inr (3, [.ref a_shelves_contents, .ref a_shelves_sizes, .ref a_shelves_elements])), (a_shelves_contents, .inl (eI E, 8, .inl c_shelves_contents)), (a_shelves_elements, .inl (eJ E, 320, .inr (.inl c_shelves_elements))), (a_shelves_sizes, .inl (eI E, 8, .inl c_shelves_sizes))]
abbrev r_X5_tellingsFault : Room := { frames := 2, cells := 0, slots := 0, locals := 47 }
theorem hd_X5_tellingsFault : yX5_tellingsFault.cls ≠ "java/lang/invoke/MethodHandle" ∧ yX5_tellingsFault.cls ≠ "java/lang/invoke/VarHandle" ∧ (parseMethodDescriptor yX5_tellingsFault.desc).map (fun d => d.parameters.length) = some 4 := by decide +kernel
theorem hV_X5_tellingsFault : yX5_tellingsFault.cls = RX5 ∧ yX5_tellingsFault.cls ≠ "java/lang/invoke/MethodHandle" ∧ yX5_tellingsFault.cls ≠ "java/lang/invoke/VarHandle" ∧ (parseMethodDescriptor yX5_tellingsFault.desc).map (fun d => d.parameters.length) = some 4 := ⟨rfl, hd_X5_tellingsFault⟩
theorem iX5_tellingsFault_X5 : ∀ w ∈ wsX50, w ∈ wsX5_tellingsFault := fun _ h => List.mem_cons_of_mem _ (List.mem_append_left _ (List.mem_append_right _ (h)))
section
variable {p : Program} {l : Launch} {e : Env} {s : State} {m : MethodId} {args : Array Value} {below : List Frame} {meth : Method} {c : Code} {E : Env0} {A : Nat → Prop}
set_option maxRecDepth 100000 in
set_option maxHeartbeats 4000000 in
theorem w_X5_tellingsFault_b76 (X : Ctx p m meth c cX5_tellingsFault 7 ((some .int)) s args wsX5_tellingsFault RX5 E A) (a_t : Nat) (a_shelves : Nat) (a_shelves_contents : Nat) (a_shelves_elements : Nat) (a_shelves_sizes : Nat) (a_now : Nat) (a_kept : Nat) (a_trial : Nat) (a_reader : Nat) (a_one : Nat) (a_two : Nat) (a_search : Nat) (a_outs : Nat) (a_refusals : Nat) (c_t : Nat → Int32) (c_shelves_contents : Nat → Int32) (c_shelves_elements : Nat → Int64) (c_shelves_sizes : Nat → Int32) (res : Int32) (s0 : Int32) (ls : Array Slot) (H : Heap) (locs : List Loc) (h : f_X5_tellingsFault_b76 c_t c_shelves_contents c_shelves_elements c_shelves_sizes s0 = some res) (hP : va_P E.1 vwCl (W_X5_tellingsFault E a_t a_shelves a_shelves_contents a_shelves_elements a_shelves_sizes a_now a_kept a_trial a_reader a_one a_two a_search a_outs a_refusals c_t c_shelves_contents c_shelves_elements c_shelves_sizes) H) (hD : va_D A (W_X5_tellingsFault E a_t a_shelves a_shelves_contents a_shelves_elements a_shelves_sizes a_now a_kept a_trial a_reader a_one a_two a_search a_outs a_refusals c_t c_shelves_contents c_shelves_elements c_shelves_sizes)) (hS : va_S A s.heap H locs) (hl : lv_has ls 7 []) : W p l e r_X5_tellingsFault s m args below meth c H locs 0 0 (MQ below (qI E A res (W_X5_tellingsFault E a_t a_shelves a_shelves_contents a_shelves_elements a_shelves_sizes a_now a_kept a_trial a_reader a_one a_two a_search a_outs a_refusals c_t c_shelves_contents c_shelves_elements c_shelves_sizes)) args s 0 0 A) (F0 m 76 ls [.int s0]) := by
  obtain ⟨hx, hb, hml, hr, hlk, hown, hts, hG, hA⟩ := id X
  have hK := hG.1
  have hN := hG.2.1
  unfold f_X5_tellingsFault_b76 at h
  refine lv_istore (lv' := [(6, .int s0)]) hx hb dX5_tellingsFault_76 hl (by decide) rfl (fun ls hl => ?_)
  refine lv_iload hx hb dX5_tellingsFault_78 (lv_at hl 0 rfl) ?_
  refine lv_if_eq (tgt := 87) hx hb dX5_tellingsFault_80 (by decide) (fun hc80 => ?_) (fun hc80 => ?_)
  · have h := if_t h hc80
    refine lv_bipush (v := (-5 : Int32)) hx hb dX5_tellingsFault_87 (by decide) ?_
    obtain rfl := Option.some.inj h
    exact ret_i X dX5_tellingsFault_89 hP hD hS rfl
  · have h := if_f h hc80
    refine lv_iconst (v := (0 : Int32)) hx hb dX5_tellingsFault_83 (by decide) ?_
    refine lv_goto (tgt := 89) hx hb dX5_tellingsFault_84 (by decide) ?_
    obtain rfl := Option.some.inj h
    exact ret_i X dX5_tellingsFault_89 hP hD hS rfl
set_option maxRecDepth 100000 in
set_option maxHeartbeats 4000000 in
theorem w_X5_tellingsFault_b75 (X : Ctx p m meth c cX5_tellingsFault 7 ((some .int)) s args wsX5_tellingsFault RX5 E A) (a_t : Nat) (a_shelves : Nat) (a_shelves_contents : Nat) (a_shelves_elements : Nat) (a_shelves_sizes : Nat) (a_now : Nat) (a_kept : Nat) (a_trial : Nat) (a_reader : Nat) (a_one : Nat) (a_two : Nat) (a_search : Nat) (a_outs : Nat) (a_refusals : Nat) (c_t : Nat → Int32) (c_shelves_contents : Nat → Int32) (c_shelves_elements : Nat → Int64) (c_shelves_sizes : Nat → Int32) (res : Int32) (ls : Array Slot) (H : Heap) (locs : List Loc) (h : f_X5_tellingsFault_b75 c_t c_shelves_contents c_shelves_elements c_shelves_sizes = some res) (hP : va_P E.1 vwCl (W_X5_tellingsFault E a_t a_shelves a_shelves_contents a_shelves_elements a_shelves_sizes a_now a_kept a_trial a_reader a_one a_two a_search a_outs a_refusals c_t c_shelves_contents c_shelves_elements c_shelves_sizes) H) (hD : va_D A (W_X5_tellingsFault E a_t a_shelves a_shelves_contents a_shelves_elements a_shelves_sizes a_now a_kept a_trial a_reader a_one a_two a_search a_outs a_refusals c_t c_shelves_contents c_shelves_elements c_shelves_sizes)) (hS : va_S A s.heap H locs) (hl : lv_has ls 7 []) : W p l e r_X5_tellingsFault s m args below meth c H locs 0 0 (MQ below (qI E A res (W_X5_tellingsFault E a_t a_shelves a_shelves_contents a_shelves_elements a_shelves_sizes a_now a_kept a_trial a_reader a_one a_two a_search a_outs a_refusals c_t c_shelves_contents c_shelves_elements c_shelves_sizes)) args s 0 0 A) (F0 m 75 ls []) := by
  obtain ⟨hx, hb, hml, hr, hlk, hown, hts, hG, hA⟩ := id X
  have hK := hG.1
  have hN := hG.2.1
  unfold f_X5_tellingsFault_b75 at h
  refine lv_iconst (v := (0 : Int32)) hx hb dX5_tellingsFault_75 (by decide) ?_
  exact w_X5_tellingsFault_b76 X a_t a_shelves a_shelves_contents a_shelves_elements a_shelves_sizes a_now a_kept a_trial a_reader a_one a_two a_search a_outs a_refusals c_t c_shelves_contents c_shelves_elements c_shelves_sizes res (0 : Int32) _ _ _ h hP hD hS (lv_sub hl [] rfl)
set_option maxRecDepth 100000 in
set_option maxHeartbeats 4000000 in
theorem w_X5_tellingsFault (X : Ctx p m meth c cX5_tellingsFault 7 ((some .int)) s args wsX5_tellingsFault RX5 E A) (a_t : Nat) (a_shelves : Nat) (a_shelves_contents : Nat) (a_shelves_elements : Nat) (a_shelves_sizes : Nat) (a_now : Nat) (a_kept : Nat) (a_trial : Nat) (a_reader : Nat) (a_one : Nat) (a_two : Nat) (a_search : Nat) (a_outs : Nat) (a_refusals : Nat) (c_t : Nat → Int32) (c_shelves_contents : Nat → Int32) (c_shelves_elements : Nat → Int64) (c_shelves_sizes : Nat → Int32) (res : Int32) (l1 : Int32) (l2 : Int32) (l3 : Int32) (l4 : Int32) (ls : Array Slot) (H : Heap) (locs : List Loc) (h : f_X5_tellingsFault l1 l2 l3 l4 c_t c_shelves_contents c_shelves_elements c_shelves_sizes = some res) (hP : va_P E.1 vwCl (W_X5_tellingsFault E a_t a_shelves a_shelves_contents a_shelves_elements a_shelves_sizes a_now a_kept a_trial a_reader a_one a_two a_search a_outs a_refusals c_t c_shelves_contents c_shelves_elements c_shelves_sizes) H) (hD : va_D A (W_X5_tellingsFault E a_t a_shelves a_shelves_contents a_shelves_elements a_shelves_sizes a_now a_kept a_trial a_reader a_one a_two a_search a_outs a_refusals c_t c_shelves_contents c_shelves_elements c_shelves_sizes)) (hS : va_S A s.heap H locs) (hl : lv_has ls 7 [(0, .ref a_t), (1, .int l1), (2, .int l2), (3, .int l3), (4, .int l4)]) : W p l e r_X5_tellingsFault s m args below meth c H locs 0 0 (MQ below (qI E A res (W_X5_tellingsFault E a_t a_shelves a_shelves_contents a_shelves_elements a_shelves_sizes a_now a_kept a_trial a_reader a_one a_two a_search a_outs a_refusals c_t c_shelves_contents c_shelves_elements c_shelves_sizes)) args s 0 0 A) (F0 m 0 ls []) := by
  obtain ⟨hx, hb, hml, hr, hlk, hown, hts, hG, hA⟩ := id X
  have hK := hG.1
  have hN := hG.2.1
  unfold f_X5_tellingsFault at h
  refine lv_aload_n hx hb dX5_tellingsFault_0 rfl (lv_at hl 0 rfl) ?_
  refine lv_iload_n hx hb dX5_tellingsFault_1 rfl (lv_at hl 1 rfl) ?_
  refine lv_iload_n hx hb dX5_tellingsFault_2 rfl (lv_at hl 3 rfl) ?_
  obtain ⟨v1, hv1, h⟩ := bind_of h
  refine after_i X (run_V X (c_X5_rowFault l E a_t a_shelves a_shelves_contents a_now a_kept a_trial a_reader a_one a_two a_search a_outs a_refusals a_shelves_sizes a_shelves_elements l1 l3 c_t c_shelves_contents H.size v1 hv1) (cwV 2 hts gX5_tellingsFault_X5_rowFault rfl rfl rfl hV_X5_rowFault ⟨(Nat.le_of_ble_eq_true rfl), (Nat.le_of_ble_eq_true rfl)⟩) hP hD hS [0, 1, 2] rfl rfl hl.1 (ci := 5) rfl rfl rfl (rest := []) rfl rfl (Nat.le_of_ble_eq_true rfl) dX5_tellingsFault_3) hP hD hS [0, 1, 2] [3, 4] [2, 3, 4, 0, 1] rfl rfl rfl (by decide) rfl (ws1 := (W_X5_tellingsFault E a_t a_shelves a_shelves_contents a_shelves_elements a_shelves_sizes a_now a_kept a_trial a_reader a_one a_two a_search a_outs a_refusals c_t c_shelves_contents c_shelves_elements c_shelves_sizes)) rfl (fun H locs hP hD hS => ?_)
  refine lv_istore (lv' := [(5, .int v1), (0, .ref a_t), (1, .int l1), (2, .int l2), (3, .int l3), (4, .int l4)]) hx hb dX5_tellingsFault_6 hl (by decide) rfl (fun ls hl => ?_)
  refine lv_iload hx hb dX5_tellingsFault_8 (lv_at hl 0 rfl) ?_
  refine lv_if_eq (tgt := 16) hx hb dX5_tellingsFault_10 (by decide) (fun hc10 => ?_) (fun hc10 => ?_)
  · have h := if_t h hc10
    refine lv_iload_n hx hb dX5_tellingsFault_16 rfl (lv_at hl 3 rfl) ?_
    refine lv_aload_n hx hb dX5_tellingsFault_17 rfl (lv_at hl 1 rfl) ?_
    refine va_get (D := E.1) (ci := 5) (v := .ref a_shelves) (C := RX5) (T := TX5) (N := 11) hx hb hts iX5_tellingsFault_X5 hown hK hP 0 rfl rfl 4 (by decide) (hts (.fieldLink RX5 34 "LeftIsAgreedOn" "shelves" "LLeftIsAgreedOn$Shelves;") (List.mem_of_getElem? (i := 1) rfl)) (fun _ h9 => h9) rfl dX5_tellingsFault_18 ?_
    refine lv_iload_n hx hb dX5_tellingsFault_21 rfl (lv_at hl 2 rfl) ?_
    obtain ⟨v2, hv2, h⟩ := bind_of h
    refine after_i X (run_V X (c_X3_sizeOf l E a_shelves a_shelves_sizes a_shelves_contents a_shelves_elements l1 c_shelves_sizes H.size v2 hv2) (cwV 1 hts gX5_tellingsFault_X3_sizeOf rfl rfl rfl hV_X3_sizeOf ⟨(Nat.le_of_ble_eq_true rfl), (Nat.le_of_ble_eq_true rfl)⟩) hP hD hS [1, 4] rfl rfl hl.1 (ci := 3) rfl rfl rfl (rest := [.int l2]) rfl rfl (Nat.le_of_ble_eq_true rfl) dX5_tellingsFault_22) hP hD hS [1, 4] [0, 2, 3] [0, 3, 1, 2, 4] rfl rfl rfl (by decide) rfl (ws1 := (W_X5_tellingsFault E a_t a_shelves a_shelves_contents a_shelves_elements a_shelves_sizes a_now a_kept a_trial a_reader a_one a_two a_search a_outs a_refusals c_t c_shelves_contents c_shelves_elements c_shelves_sizes)) rfl (fun H locs hP hD hS => ?_)
    refine lv_icmp_gt (tgt := 41) hx hb dX5_tellingsFault_25 (by decide) (fun hc25 => ?_) (fun hc25 => ?_)
    · have h := if_t h hc25
      refine lv_bipush (v := (-2 : Int32)) hx hb dX5_tellingsFault_41 (by decide) ?_
      obtain rfl := Option.some.inj h
      exact ret_i X dX5_tellingsFault_43 hP hD hS rfl
    · have h := if_f h hc25
      refine lv_iload hx hb dX5_tellingsFault_28 (lv_at hl 5 rfl) ?_
      refine lv_aload_n hx hb dX5_tellingsFault_30 rfl (lv_at hl 1 rfl) ?_
      refine va_get (D := E.1) (ci := 5) (v := .ref a_shelves) (C := RX5) (T := TX5) (N := 11) hx hb hts iX5_tellingsFault_X5 hown hK hP 0 rfl rfl 4 (by decide) (hts (.fieldLink RX5 34 "LeftIsAgreedOn" "shelves" "LLeftIsAgreedOn$Shelves;") (List.mem_of_getElem? (i := 1) rfl)) (fun _ h9 => h9) rfl dX5_tellingsFault_31 ?_
      refine lv_iload_n hx hb dX5_tellingsFault_34 rfl (lv_at hl 4 rfl) ?_
      obtain ⟨v3, hv3, h⟩ := bind_of h
      refine after_i X (run_V X (c_X3_sizeOf l E a_shelves a_shelves_sizes a_shelves_contents a_shelves_elements l3 c_shelves_sizes H.size v3 hv3) (cwV 1 hts gX5_tellingsFault_X3_sizeOf rfl rfl rfl hV_X3_sizeOf ⟨(Nat.le_of_ble_eq_true rfl), (Nat.le_of_ble_eq_true rfl)⟩) hP hD hS [1, 4] rfl rfl hl.1 (ci := 3) rfl rfl rfl (rest := [.int l4]) rfl rfl (Nat.le_of_ble_eq_true rfl) dX5_tellingsFault_35) hP hD hS [1, 4] [0, 2, 3] [0, 3, 1, 2, 4] rfl rfl rfl (by decide) rfl (ws1 := (W_X5_tellingsFault E a_t a_shelves a_shelves_contents a_shelves_elements a_shelves_sizes a_now a_kept a_trial a_reader a_one a_two a_search a_outs a_refusals c_t c_shelves_contents c_shelves_elements c_shelves_sizes)) rfl (fun H locs hP hD hS => ?_)
      refine lv_icmp_le (tgt := 44) hx hb dX5_tellingsFault_38 (by decide) (fun hc38 => ?_) (fun hc38 => ?_)
      · have h := if_t h hc38
        refine lv_aload_n hx hb dX5_tellingsFault_44 rfl (lv_at hl 1 rfl) ?_
        refine va_get (D := E.1) (ci := 5) (v := .ref a_shelves) (C := RX5) (T := TX5) (N := 11) hx hb hts iX5_tellingsFault_X5 hown hK hP 0 rfl rfl 4 (by decide) (hts (.fieldLink RX5 34 "LeftIsAgreedOn" "shelves" "LLeftIsAgreedOn$Shelves;") (List.mem_of_getElem? (i := 1) rfl)) (fun _ h9 => h9) rfl dX5_tellingsFault_45 ?_
        refine lv_iload_n hx hb dX5_tellingsFault_48 rfl (lv_at hl 2 rfl) ?_
        refine lv_iload_n hx hb dX5_tellingsFault_49 rfl (lv_at hl 3 rfl) ?_
        obtain ⟨v4, hv4, h⟩ := bind_of h
        refine after_i X (run_V X (c_X3_firstWrong l E a_shelves a_shelves_elements a_shelves_contents a_shelves_sizes l1 l2 c_shelves_elements H.size v4 hv4) (cwV 2 hts gX5_tellingsFault_X3_firstWrong rfl rfl rfl hV_X3_firstWrong ⟨(Nat.le_of_ble_eq_true rfl), (Nat.le_of_ble_eq_true rfl)⟩) hP hD hS [1, 3] rfl rfl hl.1 (ci := 3) rfl rfl rfl (rest := []) rfl rfl (Nat.le_of_ble_eq_true rfl) dX5_tellingsFault_50) hP hD hS [1, 3] [0, 2, 4] [0, 3, 1, 4, 2] rfl rfl rfl (by decide) rfl (ws1 := (W_X5_tellingsFault E a_t a_shelves a_shelves_contents a_shelves_elements a_shelves_sizes a_now a_kept a_trial a_reader a_one a_two a_search a_outs a_refusals c_t c_shelves_contents c_shelves_elements c_shelves_sizes)) rfl (fun H locs hP hD hS => ?_)
        refine lv_iconst (v := (-1 : Int32)) hx hb dX5_tellingsFault_53 (by decide) ?_
        refine lv_icmp_ne (tgt := 75) hx hb dX5_tellingsFault_54 (by decide) (fun hc54 => ?_) (fun hc54 => ?_)
        · have h := if_f h hc54
          exact w_X5_tellingsFault_b75 X a_t a_shelves a_shelves_contents a_shelves_elements a_shelves_sizes a_now a_kept a_trial a_reader a_one a_two a_search a_outs a_refusals c_t c_shelves_contents c_shelves_elements c_shelves_sizes res _ _ _ h hP hD hS (lv_sub hl [] rfl)
        · have h := if_t h hc54
          refine lv_aload_n hx hb dX5_tellingsFault_57 rfl (lv_at hl 1 rfl) ?_
          refine va_get (D := E.1) (ci := 5) (v := .ref a_shelves) (C := RX5) (T := TX5) (N := 11) hx hb hts iX5_tellingsFault_X5 hown hK hP 0 rfl rfl 4 (by decide) (hts (.fieldLink RX5 34 "LeftIsAgreedOn" "shelves" "LLeftIsAgreedOn$Shelves;") (List.mem_of_getElem? (i := 1) rfl)) (fun _ h9 => h9) rfl dX5_tellingsFault_58 ?_
          refine lv_iload_n hx hb dX5_tellingsFault_61 rfl (lv_at hl 4 rfl) ?_
          refine lv_iload hx hb dX5_tellingsFault_62 (lv_at hl 5 rfl) ?_
          obtain ⟨v5, hv5, h⟩ := bind_of h
          refine after_i X (run_V X (c_X3_firstWrong l E a_shelves a_shelves_elements a_shelves_contents a_shelves_sizes l3 l4 c_shelves_elements H.size v5 hv5) (cwV 2 hts gX5_tellingsFault_X3_firstWrong rfl rfl rfl hV_X3_firstWrong ⟨(Nat.le_of_ble_eq_true rfl), (Nat.le_of_ble_eq_true rfl)⟩) hP hD hS [1, 3] rfl rfl hl.1 (ci := 3) rfl rfl rfl (rest := []) rfl rfl (Nat.le_of_ble_eq_true rfl) dX5_tellingsFault_64) hP hD hS [1, 3] [0, 2, 4] [0, 3, 1, 4, 2] rfl rfl rfl (by decide) rfl (ws1 := (W_X5_tellingsFault E a_t a_shelves a_shelves_contents a_shelves_elements a_shelves_sizes a_now a_kept a_trial a_reader a_one a_two a_search a_outs a_refusals c_t c_shelves_contents c_shelves_elements c_shelves_sizes)) rfl (fun H locs hP hD hS => ?_)
          refine lv_iconst (v := (-1 : Int32)) hx hb dX5_tellingsFault_67 (by decide) ?_
          refine lv_icmp_ne (tgt := 75) hx hb dX5_tellingsFault_68 (by decide) (fun hc68 => ?_) (fun hc68 => ?_)
          · have h := if_f h hc68
            exact w_X5_tellingsFault_b75 X a_t a_shelves a_shelves_contents a_shelves_elements a_shelves_sizes a_now a_kept a_trial a_reader a_one a_two a_search a_outs a_refusals c_t c_shelves_contents c_shelves_elements c_shelves_sizes res _ _ _ h hP hD hS (lv_sub hl [] rfl)
          · have h := if_t h hc68
            refine lv_iconst (v := (1 : Int32)) hx hb dX5_tellingsFault_71 (by decide) ?_
            refine lv_goto (tgt := 76) hx hb dX5_tellingsFault_72 (by decide) ?_
            exact w_X5_tellingsFault_b76 X a_t a_shelves a_shelves_contents a_shelves_elements a_shelves_sizes a_now a_kept a_trial a_reader a_one a_two a_search a_outs a_refusals c_t c_shelves_contents c_shelves_elements c_shelves_sizes res (1 : Int32) _ _ _ h hP hD hS (lv_sub hl [] rfl)
      · have h := if_f h hc38
        refine lv_bipush (v := (-2 : Int32)) hx hb dX5_tellingsFault_41 (by decide) ?_
        obtain rfl := Option.some.inj h
        exact ret_i X dX5_tellingsFault_43 hP hD hS rfl
  · have h := if_f h hc10
    refine lv_iload hx hb dX5_tellingsFault_13 (lv_at hl 0 rfl) ?_
    obtain rfl := Option.some.inj h
    exact ret_i X dX5_tellingsFault_15 hP hD hS rfl
end
set_option maxRecDepth 100000 in
theorem c_X5_tellingsFault (l : Launch) (E : Env0) (a_t : Nat) (a_shelves : Nat) (a_shelves_contents : Nat) (a_shelves_elements : Nat) (a_shelves_sizes : Nat) (a_now : Nat) (a_kept : Nat) (a_trial : Nat) (a_reader : Nat) (a_one : Nat) (a_two : Nat) (a_search : Nat) (a_outs : Nat) (a_refusals : Nat) (l1 : Int32) (l2 : Int32) (l3 : Int32) (l4 : Int32) (c_t : Nat → Int32) (c_shelves_contents : Nat → Int32) (c_shelves_elements : Nat → Int64) (c_shelves_sizes : Nat → Int32) (sz : Nat) (res : Int32) (h : f_X5_tellingsFault l1 l2 l3 l4 c_t c_shelves_contents c_shelves_elements c_shelves_sizes = some res) : Met l yX5_tellingsFault wsX5_tellingsFault r_X5_tellingsFault (cPre E [.ref a_t, .int l1, .int l2, .int l3, .int l4] (W_X5_tellingsFault E a_t a_shelves a_shelves_contents a_shelves_elements a_shelves_sizes a_now a_kept a_trial a_reader a_one a_two a_search a_outs a_refusals c_t c_shelves_contents c_shelves_elements c_shelves_sizes) sz) (qI E (va_A (W_X5_tellingsFault E a_t a_shelves a_shelves_contents a_shelves_elements a_shelves_sizes a_now a_kept a_trial a_reader a_one a_two a_search a_outs a_refusals c_t c_shelves_contents c_shelves_elements c_shelves_sizes) sz) res (W_X5_tellingsFault E a_t a_shelves a_shelves_contents a_shelves_elements a_shelves_sizes a_now a_kept a_trial a_reader a_one a_two a_search a_outs a_refusals c_t c_shelves_contents c_shelves_elements c_shelves_sizes)) 0 0 (va_A (W_X5_tellingsFault E a_t a_shelves a_shelves_contents a_shelves_elements a_shelves_sizes a_now a_kept a_trial a_reader a_one a_two a_search a_outs a_refusals c_t c_shelves_contents c_shelves_elements c_shelves_sizes) sz) :=
  met_of (Qc := fun A => qI E A res (W_X5_tellingsFault E a_t a_shelves a_shelves_contents a_shelves_elements a_shelves_sizes a_now a_kept a_trial a_reader a_one a_two a_search a_outs a_refusals c_t c_shelves_contents c_shelves_elements c_shelves_sizes)) (by decide) rfl (Nat.le_of_ble_eq_true rfl) (fun p e s m args below meth c X hP hD hS ls hl => w_X5_tellingsFault X a_t a_shelves a_shelves_contents a_shelves_elements a_shelves_sizes a_now a_kept a_trial a_reader a_one a_two a_search a_outs a_refusals c_t c_shelves_contents c_shelves_elements c_shelves_sizes res l1 l2 l3 l4 ls _ _ h hP hD hS hl)
-- ===== X5_tellingFault
abbrev W_X5_tellingFault (E : Env0) (a_t : Nat) (a_shelves : Nat) (a_shelves_contents : Nat) (a_shelves_elements : Nat) (a_shelves_sizes : Nat) (a_now : Nat) (a_kept : Nat) (a_trial : Nat) (a_reader : Nat) (a_one : Nat) (a_two : Nat) (a_search : Nat) (a_outs : Nat) (a_refusals : Nat) (c_t : Nat → Int32) (c_shelves_contents : Nat → Int32) (c_shelves_elements : Nat → Int64) (c_shelves_sizes : Nat → Int32) : va_W := [(a_t, .inr (5, [.ref a_now, .ref a_kept, .ref a_trial, .ref a_reader, .ref a_shelves, .ref a_one, .ref a_two, .ref a_search, .ref a_outs, .ref a_refusals, .int (c_t 10)])), (a_shelves, .inr (3, [.ref a_shelves_contents, .ref a_shelves_sizes, .ref a_shelves_elements])), (a_shelves_contents, .inl (eI E, 8, .inl c_shelves_contents)), (a_shelves_elements, .inl (eJ E, 320, .inr (.inl c_shelves_elements))), (a_shelves_sizes, .inl (eI E, 8, .inl c_shelves_sizes))]
abbrev r_X5_tellingFault : Room := { frames := 3, cells := 0, slots := 0, locals := 73 }
theorem hd_X5_tellingFault : yX5_tellingFault.cls ≠ "java/lang/invoke/MethodHandle" ∧ yX5_tellingFault.cls ≠ "java/lang/invoke/VarHandle" ∧ (parseMethodDescriptor yX5_tellingFault.desc).map (fun d => d.parameters.length) = some 3 := by decide +kernel
theorem hV_X5_tellingFault : yX5_tellingFault.cls = RX5 ∧ yX5_tellingFault.cls ≠ "java/lang/invoke/MethodHandle" ∧ yX5_tellingFault.cls ≠ "java/lang/invoke/VarHandle" ∧ (parseMethodDescriptor yX5_tellingFault.desc).map (fun d => d.parameters.length) = some 3 := ⟨rfl, hd_X5_tellingFault⟩
section
variable {p : Program} {l : Launch} {e : Env} {s : State} {m : MethodId} {args : Array Value} {below : List Frame} {meth : Method} {c : Code} {E : Env0} {A : Nat → Prop}
set_option maxRecDepth 100000 in
set_option maxHeartbeats 4000000 in
theorem w_X5_tellingFault (X : Ctx p m meth c cX5_tellingFault 4 ((some .int)) s args wsX5_tellingFault RX5 E A) (a_t : Nat) (a_shelves : Nat) (a_shelves_contents : Nat) (a_shelves_elements : Nat) (a_shelves_sizes : Nat) (a_now : Nat) (a_kept : Nat) (a_trial : Nat) (a_reader : Nat) (a_one : Nat) (a_two : Nat) (a_search : Nat) (a_outs : Nat) (a_refusals : Nat) (c_t : Nat → Int32) (c_shelves_contents : Nat → Int32) (c_shelves_elements : Nat → Int64) (c_shelves_sizes : Nat → Int32) (res : Int32) (l1 : Int32) (l2 : Int32) (l3 : Int32) (ls : Array Slot) (H : Heap) (locs : List Loc) (h : f_X5_tellingFault l1 l2 l3 c_t c_shelves_contents c_shelves_elements c_shelves_sizes = some res) (hP : va_P E.1 vwCl (W_X5_tellingFault E a_t a_shelves a_shelves_contents a_shelves_elements a_shelves_sizes a_now a_kept a_trial a_reader a_one a_two a_search a_outs a_refusals c_t c_shelves_contents c_shelves_elements c_shelves_sizes) H) (hD : va_D A (W_X5_tellingFault E a_t a_shelves a_shelves_contents a_shelves_elements a_shelves_sizes a_now a_kept a_trial a_reader a_one a_two a_search a_outs a_refusals c_t c_shelves_contents c_shelves_elements c_shelves_sizes)) (hS : va_S A s.heap H locs) (hl : lv_has ls 4 [(0, .ref a_t), (1, .int l1), (2, .int l2), (3, .int l3)]) : W p l e r_X5_tellingFault s m args below meth c H locs 0 0 (MQ below (qI E A res (W_X5_tellingFault E a_t a_shelves a_shelves_contents a_shelves_elements a_shelves_sizes a_now a_kept a_trial a_reader a_one a_two a_search a_outs a_refusals c_t c_shelves_contents c_shelves_elements c_shelves_sizes)) args s 0 0 A) (F0 m 0 ls []) := by
  obtain ⟨hx, hb, hml, hr, hlk, hown, hts, hG, hA⟩ := id X
  have hK := hG.1
  have hN := hG.2.1
  unfold f_X5_tellingFault at h
  refine lv_aload_n hx hb dX5_tellingFault_0 rfl (lv_at hl 0 rfl) ?_
  refine lv_iload_n hx hb dX5_tellingFault_1 rfl (lv_at hl 1 rfl) ?_
  refine lv_iload_n hx hb dX5_tellingFault_2 rfl (lv_at hl 2 rfl) ?_
  obtain ⟨v1, hv1, h⟩ := bind_of h
  refine after_i X (run_V X (c_X5_isTold l E a_t a_shelves a_now a_kept a_trial a_reader a_one a_two a_search a_outs a_refusals a_shelves_contents a_shelves_sizes a_shelves_elements l1 l2 c_t H.size v1 hv1) (cwV 2 hts gX5_tellingFault_X5_isTold rfl rfl rfl hV_X5_isTold ⟨(Nat.le_of_ble_eq_true rfl), (Nat.le_of_ble_eq_true rfl)⟩) hP hD hS [0, 1] rfl rfl hl.1 (ci := 5) rfl rfl rfl (rest := []) rfl rfl (Nat.le_of_ble_eq_true rfl) dX5_tellingFault_3) hP hD hS [0, 1] [2, 3, 4] [3, 4, 0, 1, 2] rfl rfl rfl (by decide) rfl (ws1 := (W_X5_tellingFault E a_t a_shelves a_shelves_contents a_shelves_elements a_shelves_sizes a_now a_kept a_trial a_reader a_one a_two a_search a_outs a_refusals c_t c_shelves_contents c_shelves_elements c_shelves_sizes)) rfl (fun H locs hP hD hS => ?_)
  refine lv_if_eq (tgt := 24) hx hb dX5_tellingFault_6 (by decide) (fun hc6 => ?_) (fun hc6 => ?_)
  · have h := if_t h hc6
    refine lv_bipush (v := (-2 : Int32)) hx hb dX5_tellingFault_24 (by decide) ?_
    obtain rfl := Option.some.inj h
    exact ret_i X dX5_tellingFault_26 hP hD hS rfl
  · have h := if_f h hc6
    refine lv_iload_n hx hb dX5_tellingFault_9 rfl (lv_at hl 3 rfl) ?_
    refine lv_if_eq (tgt := 24) hx hb dX5_tellingFault_10 (by decide) (fun hc10 => ?_) (fun hc10 => ?_)
    · have h := if_t h hc10
      refine lv_bipush (v := (-2 : Int32)) hx hb dX5_tellingFault_24 (by decide) ?_
      obtain rfl := Option.some.inj h
      exact ret_i X dX5_tellingFault_26 hP hD hS rfl
    · have h := if_f h hc10
      refine lv_aload_n hx hb dX5_tellingFault_13 rfl (lv_at hl 0 rfl) ?_
      refine lv_iload_n hx hb dX5_tellingFault_14 rfl (lv_at hl 1 rfl) ?_
      refine lv_iload_n hx hb dX5_tellingFault_15 rfl (lv_at hl 2 rfl) ?_
      refine lv_iload_n hx hb dX5_tellingFault_16 rfl (lv_at hl 1 rfl) ?_
      refine lv_iconst (v := (0 : Int32)) hx hb dX5_tellingFault_17 (by decide) ?_
      obtain ⟨v2, hv2, h⟩ := bind_of h
      refine after_i X (run_V X (c_X5_tellingsFault l E a_t a_shelves a_shelves_contents a_shelves_elements a_shelves_sizes a_now a_kept a_trial a_reader a_one a_two a_search a_outs a_refusals l1 l2 l1 (0 : Int32) c_t c_shelves_contents c_shelves_elements c_shelves_sizes H.size v2 hv2) (cwV 4 hts gX5_tellingFault_X5_tellingsFault rfl rfl rfl hV_X5_tellingsFault ⟨(Nat.le_of_ble_eq_true rfl), (Nat.le_of_ble_eq_true rfl)⟩) hP hD hS [0, 1, 2, 3, 4] rfl rfl hl.1 (ci := 5) rfl rfl rfl (rest := []) rfl rfl (Nat.le_of_ble_eq_true rfl) dX5_tellingFault_18) hP hD hS [0, 1, 2, 3, 4] [] [0, 1, 2, 3, 4] rfl rfl rfl (by decide) rfl (ws1 := (W_X5_tellingFault E a_t a_shelves a_shelves_contents a_shelves_elements a_shelves_sizes a_now a_kept a_trial a_reader a_one a_two a_search a_outs a_refusals c_t c_shelves_contents c_shelves_elements c_shelves_sizes)) rfl (fun H locs hP hD hS => ?_)
      refine lv_goto (tgt := 26) hx hb dX5_tellingFault_21 (by decide) ?_
      obtain rfl := Option.some.inj h
      exact ret_i X dX5_tellingFault_26 hP hD hS rfl
end
set_option maxRecDepth 100000 in
theorem c_X5_tellingFault (l : Launch) (E : Env0) (a_t : Nat) (a_shelves : Nat) (a_shelves_contents : Nat) (a_shelves_elements : Nat) (a_shelves_sizes : Nat) (a_now : Nat) (a_kept : Nat) (a_trial : Nat) (a_reader : Nat) (a_one : Nat) (a_two : Nat) (a_search : Nat) (a_outs : Nat) (a_refusals : Nat) (l1 : Int32) (l2 : Int32) (l3 : Int32) (c_t : Nat → Int32) (c_shelves_contents : Nat → Int32) (c_shelves_elements : Nat → Int64) (c_shelves_sizes : Nat → Int32) (sz : Nat) (res : Int32) (h : f_X5_tellingFault l1 l2 l3 c_t c_shelves_contents c_shelves_elements c_shelves_sizes = some res) : Met l yX5_tellingFault wsX5_tellingFault r_X5_tellingFault (cPre E [.ref a_t, .int l1, .int l2, .int l3] (W_X5_tellingFault E a_t a_shelves a_shelves_contents a_shelves_elements a_shelves_sizes a_now a_kept a_trial a_reader a_one a_two a_search a_outs a_refusals c_t c_shelves_contents c_shelves_elements c_shelves_sizes) sz) (qI E (va_A (W_X5_tellingFault E a_t a_shelves a_shelves_contents a_shelves_elements a_shelves_sizes a_now a_kept a_trial a_reader a_one a_two a_search a_outs a_refusals c_t c_shelves_contents c_shelves_elements c_shelves_sizes) sz) res (W_X5_tellingFault E a_t a_shelves a_shelves_contents a_shelves_elements a_shelves_sizes a_now a_kept a_trial a_reader a_one a_two a_search a_outs a_refusals c_t c_shelves_contents c_shelves_elements c_shelves_sizes)) 0 0 (va_A (W_X5_tellingFault E a_t a_shelves a_shelves_contents a_shelves_elements a_shelves_sizes a_now a_kept a_trial a_reader a_one a_two a_search a_outs a_refusals c_t c_shelves_contents c_shelves_elements c_shelves_sizes) sz) :=
  met_of (Qc := fun A => qI E A res (W_X5_tellingFault E a_t a_shelves a_shelves_contents a_shelves_elements a_shelves_sizes a_now a_kept a_trial a_reader a_one a_two a_search a_outs a_refusals c_t c_shelves_contents c_shelves_elements c_shelves_sizes)) (by decide) rfl (Nat.le_of_ble_eq_true rfl) (fun p e s m args below meth c X hP hD hS ls hl => w_X5_tellingFault X a_t a_shelves a_shelves_contents a_shelves_elements a_shelves_sizes a_now a_kept a_trial a_reader a_one a_two a_search a_outs a_refusals c_t c_shelves_contents c_shelves_elements c_shelves_sizes res l1 l2 l3 ls _ _ h hP hD hS hl)
-- ===== X5_follow
abbrev W_X5_follow (E : Env0) (a_t : Nat) (a_shelves : Nat) (a_shelves_elements : Nat) (a_p1 : Nat) (a_p1_island : Nat) (a_p1_island_ponds : Nat) (a_now : Nat) (a_kept : Nat) (a_trial : Nat) (a_reader : Nat) (a_one : Nat) (a_two : Nat) (a_search : Nat) (a_outs : Nat) (a_refusals : Nat) (a_shelves_contents : Nat) (a_shelves_sizes : Nat) (a_p1_island_kinds : Nat) (a_p1_island_weights : Nat) (a_p1_island_cells : Nat) (a_p1_island_faces : Nat) (a_p1_island_pledges : Nat) (c_t : Nat → Int32) (c_shelves_elements : Nat → Int64) (c_p1 : Nat → Int32) (c_p1_island : Nat → Int32) (c_p1_island_ponds : Nat → Int32) : va_W := [(a_t, .inr (5, [.ref a_now, .ref a_kept, .ref a_trial, .ref a_reader, .ref a_shelves, .ref a_one, .ref a_two, .ref a_search, .ref a_outs, .ref a_refusals, .int (c_t 10)])), (a_shelves, .inr (3, [.ref a_shelves_contents, .ref a_shelves_sizes, .ref a_shelves_elements])), (a_shelves_elements, .inl (eJ E, 320, .inr (.inl c_shelves_elements))), (a_p1, .inr (4, [.ref a_p1_island, .int (c_p1 1), .int (c_p1 2), .int (c_p1 3), .int (c_p1 4), .int (c_p1 5), .int (c_p1 6), .int (c_p1 7), .int (c_p1 8), .int (c_p1 9), .int (c_p1 10)])), (a_p1_island, .inr (0, [.int (c_p1_island 0), .int (c_p1_island 1), .int (c_p1_island 2), .int (c_p1_island 3), .int (c_p1_island 4), .int (c_p1_island 5), .int (c_p1_island 6), .int (c_p1_island 7), .ref a_p1_island_ponds, .ref a_p1_island_kinds, .ref a_p1_island_weights, .ref a_p1_island_cells, .ref a_p1_island_faces, .ref a_p1_island_pledges])), (a_p1_island_ponds, .inl (eZ E, 70, .inl c_p1_island_ponds))]
abbrev r_X5_follow : Room := { frames := 4, cells := 0, slots := 0, locals := 90 }
theorem hd_X5_follow : yX5_follow.cls ≠ "java/lang/invoke/MethodHandle" ∧ yX5_follow.cls ≠ "java/lang/invoke/VarHandle" ∧ (parseMethodDescriptor yX5_follow.desc).map (fun d => d.parameters.length) = some 3 := by decide +kernel
theorem hV_X5_follow : yX5_follow.cls = RX5 ∧ yX5_follow.cls ≠ "java/lang/invoke/MethodHandle" ∧ yX5_follow.cls ≠ "java/lang/invoke/VarHandle" ∧ (parseMethodDescriptor yX5_follow.desc).map (fun d => d.parameters.length) = some 3 := ⟨rfl, hd_X5_follow⟩
theorem iX5_follow_X5 : ∀ w ∈ wsX50, w ∈ wsX5_follow := fun _ h => List.mem_cons_of_mem _ (List.mem_append_left _ (List.mem_append_left _ (List.mem_append_left _ (List.mem_append_right _ (h)))))
section
variable {p : Program} {l : Launch} {e : Env} {s : State} {m : MethodId} {args : Array Value} {below : List Frame} {meth : Method} {c : Code} {E : Env0} {A : Nat → Prop}
set_option maxRecDepth 100000 in
set_option maxHeartbeats 4000000 in
theorem w_X5_follow_b3 (X : Ctx p m meth c cX5_follow 5 none s args wsX5_follow RX5 E A) (a_t : Nat) (a_shelves : Nat) (a_shelves_elements : Nat) (a_p1 : Nat) (a_p1_island : Nat) (a_p1_island_ponds : Nat) (a_now : Nat) (a_kept : Nat) (a_trial : Nat) (a_reader : Nat) (a_one : Nat) (a_two : Nat) (a_search : Nat) (a_outs : Nat) (a_refusals : Nat) (a_shelves_contents : Nat) (a_shelves_sizes : Nat) (a_p1_island_kinds : Nat) (a_p1_island_weights : Nat) (a_p1_island_cells : Nat) (a_p1_island_faces : Nat) (a_p1_island_pledges : Nat) (c_t : Nat → Int32) (c_shelves_elements : Nat → Int64) (c_p1_island : Nat → Int32) (c_p1_island_ponds : Nat → Int32) (res : (Nat → Int32)) : ∀ (n : Nat) (c_p1 : Nat → Int32) (l2 : Int32) (l3 : Int32) (l4 : Int32) (ls : Array Slot) (H : Heap) (locs : List Loc), f_X5_follow_b3 c_t c_shelves_elements c_p1_island c_p1_island_ponds n c_p1 l2 l3 l4 = some res → va_P E.1 vwCl (W_X5_follow E a_t a_shelves a_shelves_elements a_p1 a_p1_island a_p1_island_ponds a_now a_kept a_trial a_reader a_one a_two a_search a_outs a_refusals a_shelves_contents a_shelves_sizes a_p1_island_kinds a_p1_island_weights a_p1_island_cells a_p1_island_faces a_p1_island_pledges c_t c_shelves_elements c_p1 c_p1_island c_p1_island_ponds) H → va_D A (W_X5_follow E a_t a_shelves a_shelves_elements a_p1 a_p1_island a_p1_island_ponds a_now a_kept a_trial a_reader a_one a_two a_search a_outs a_refusals a_shelves_contents a_shelves_sizes a_p1_island_kinds a_p1_island_weights a_p1_island_cells a_p1_island_faces a_p1_island_pledges c_t c_shelves_elements c_p1 c_p1_island c_p1_island_ponds) → va_S A s.heap H locs → lv_has ls 5 [(0, .ref a_t), (1, .ref a_p1), (2, .int l2), (3, .int l3), (4, .int l4)] → W p l e r_X5_follow s m args below meth c H locs 0 0 (MQ below (qV E A (W_X5_follow E a_t a_shelves a_shelves_elements a_p1 a_p1_island a_p1_island_ponds a_now a_kept a_trial a_reader a_one a_two a_search a_outs a_refusals a_shelves_contents a_shelves_sizes a_p1_island_kinds a_p1_island_weights a_p1_island_cells a_p1_island_faces a_p1_island_pledges c_t c_shelves_elements res c_p1_island c_p1_island_ponds)) args s 0 0 A) (F0 m 3 ls []) := by
  obtain ⟨hx, hb, hml, hr, hlk, hown, hts, hG, hA⟩ := id X
  have hK := hG.1
  have hN := hG.2.1
  intro n
  induction n with
  | zero =>
    intro c_p1 l2 l3 l4 ls H locs h
    exact absurd (show (none : Option ((Nat → Int32))) = some res from h) (by intro q; cases q)
  | succ n ih =>
    intro c_p1 l2 l3 l4 ls H locs h hP hD hS hl
    rw [f_X5_follow_b3] at h
    refine lv_iload hx hb dX5_follow_3 (lv_at hl 4 rfl) ?_
    refine lv_iload_n hx hb dX5_follow_5 rfl (lv_at hl 3 rfl) ?_
    refine lv_icmp_ge (tgt := 29) hx hb dX5_follow_6 (by decide) (fun hc6 => ?_) (fun hc6 => ?_)
    · have h := if_t h hc6
      obtain rfl := Option.some.inj h
      exact ret_v X dX5_follow_29 hP hD hS
    · have h := if_f h hc6
      refine lv_aload_n hx hb dX5_follow_9 rfl (lv_at hl 1 rfl) ?_
      refine lv_aload_n hx hb dX5_follow_10 rfl (lv_at hl 0 rfl) ?_
      refine va_get (D := E.1) (ci := 5) (v := .ref a_shelves) (C := RX5) (T := TX5) (N := 11) hx hb hts iX5_follow_X5 hown hK hP 0 rfl rfl 4 (by decide) (hts (.fieldLink RX5 34 "LeftIsAgreedOn" "shelves" "LLeftIsAgreedOn$Shelves;") (List.mem_of_getElem? (i := 1) rfl)) (fun _ h9 => h9) rfl dX5_follow_11 ?_
      refine lv_iload_n hx hb dX5_follow_14 rfl (lv_at hl 2 rfl) ?_
      refine lv_iload hx hb dX5_follow_15 (lv_at hl 4 rfl) ?_
      obtain ⟨v1, hv1, h⟩ := bind_of h
      refine after_i X (run_V X (c_X3_signAt l E a_shelves a_shelves_elements a_shelves_contents a_shelves_sizes l2 l4 c_shelves_elements H.size v1 hv1) (cwV 2 hts gX5_follow_X3_signAt rfl rfl rfl hV_X3_signAt ⟨(Nat.le_of_ble_eq_true rfl), (Nat.le_of_ble_eq_true rfl)⟩) hP hD hS [1, 2] rfl rfl hl.1 (ci := 3) rfl rfl rfl (rest := [.ref a_p1]) rfl rfl (Nat.le_of_ble_eq_true rfl) dX5_follow_17) hP hD hS [1, 2] [0, 3, 4, 5] [0, 4, 5, 1, 2, 3] rfl rfl rfl (by decide) rfl (ws1 := (W_X5_follow E a_t a_shelves a_shelves_elements a_p1 a_p1_island a_p1_island_ponds a_now a_kept a_trial a_reader a_one a_two a_search a_outs a_refusals a_shelves_contents a_shelves_sizes a_p1_island_kinds a_p1_island_weights a_p1_island_cells a_p1_island_faces a_p1_island_pledges c_t c_shelves_elements c_p1 c_p1_island c_p1_island_ponds)) rfl (fun H locs hP hD hS => ?_)
      obtain ⟨v2, hv2, h⟩ := bind_of h
      refine after_v X (run_V X (c_X4_step l E a_p1 a_p1_island a_p1_island_ponds a_p1_island_kinds a_p1_island_weights a_p1_island_cells a_p1_island_faces a_p1_island_pledges v1 c_p1 c_p1_island c_p1_island_ponds H.size v2 hv2) (cwV 1 hts gX5_follow_X4_step rfl rfl rfl hV_X4_step ⟨(Nat.le_of_ble_eq_true rfl), (Nat.le_of_ble_eq_true rfl)⟩) hP hD hS [3, 4, 5] rfl rfl hl.1 (ci := 4) rfl rfl rfl (rest := []) rfl rfl (Nat.le_of_ble_eq_true rfl) dX5_follow_20) hP hD hS [3, 4, 5] [0, 1, 2] [0, 1, 2, 3, 4, 5] rfl rfl rfl (by decide) rfl (ws1 := (W_X5_follow E a_t a_shelves a_shelves_elements a_p1 a_p1_island a_p1_island_ponds a_now a_kept a_trial a_reader a_one a_two a_search a_outs a_refusals a_shelves_contents a_shelves_sizes a_p1_island_kinds a_p1_island_weights a_p1_island_cells a_p1_island_faces a_p1_island_pledges c_t c_shelves_elements v2 c_p1_island c_p1_island_ponds)) rfl (fun H locs hP hD hS => ?_)
      refine lv_iinc (v := (l4 + (1 : Int32))) (lv' := [(4, .int (l4 + (1 : Int32))), (0, .ref a_t), (1, .ref a_p1), (2, .int l2), (3, .int l3)]) hx hb dX5_follow_23 hl (k := 4) rfl rfl (by decide) rfl (fun ls hl => ?_)
      refine lv_goto (tgt := 3) hx hb dX5_follow_26 (by decide) ?_
      exact ih v2 l2 l3 (l4 + (1 : Int32)) _ _ _ h hP hD hS (lv_sub hl [1, 2, 3, 4, 0] rfl)
set_option maxRecDepth 100000 in
set_option maxHeartbeats 4000000 in
theorem w_X5_follow (X : Ctx p m meth c cX5_follow 5 none s args wsX5_follow RX5 E A) (a_t : Nat) (a_shelves : Nat) (a_shelves_elements : Nat) (a_p1 : Nat) (a_p1_island : Nat) (a_p1_island_ponds : Nat) (a_now : Nat) (a_kept : Nat) (a_trial : Nat) (a_reader : Nat) (a_one : Nat) (a_two : Nat) (a_search : Nat) (a_outs : Nat) (a_refusals : Nat) (a_shelves_contents : Nat) (a_shelves_sizes : Nat) (a_p1_island_kinds : Nat) (a_p1_island_weights : Nat) (a_p1_island_cells : Nat) (a_p1_island_faces : Nat) (a_p1_island_pledges : Nat) (c_t : Nat → Int32) (c_shelves_elements : Nat → Int64) (c_p1_island : Nat → Int32) (c_p1_island_ponds : Nat → Int32) (res : (Nat → Int32)) (c_p1 : Nat → Int32) (l2 : Int32) (l3 : Int32) (ls : Array Slot) (H : Heap) (locs : List Loc) (h : f_X5_follow l2 l3 c_t c_shelves_elements c_p1 c_p1_island c_p1_island_ponds = some res) (hP : va_P E.1 vwCl (W_X5_follow E a_t a_shelves a_shelves_elements a_p1 a_p1_island a_p1_island_ponds a_now a_kept a_trial a_reader a_one a_two a_search a_outs a_refusals a_shelves_contents a_shelves_sizes a_p1_island_kinds a_p1_island_weights a_p1_island_cells a_p1_island_faces a_p1_island_pledges c_t c_shelves_elements c_p1 c_p1_island c_p1_island_ponds) H) (hD : va_D A (W_X5_follow E a_t a_shelves a_shelves_elements a_p1 a_p1_island a_p1_island_ponds a_now a_kept a_trial a_reader a_one a_two a_search a_outs a_refusals a_shelves_contents a_shelves_sizes a_p1_island_kinds a_p1_island_weights a_p1_island_cells a_p1_island_faces a_p1_island_pledges c_t c_shelves_elements c_p1 c_p1_island c_p1_island_ponds)) (hS : va_S A s.heap H locs) (hl : lv_has ls 5 [(0, .ref a_t), (1, .ref a_p1), (2, .int l2), (3, .int l3)]) : W p l e r_X5_follow s m args below meth c H locs 0 0 (MQ below (qV E A (W_X5_follow E a_t a_shelves a_shelves_elements a_p1 a_p1_island a_p1_island_ponds a_now a_kept a_trial a_reader a_one a_two a_search a_outs a_refusals a_shelves_contents a_shelves_sizes a_p1_island_kinds a_p1_island_weights a_p1_island_cells a_p1_island_faces a_p1_island_pledges c_t c_shelves_elements res c_p1_island c_p1_island_ponds)) args s 0 0 A) (F0 m 0 ls []) := by
  obtain ⟨hx, hb, hml, hr, hlk, hown, hts, hG, hA⟩ := id X
  have hK := hG.1
  have hN := hG.2.1
  unfold f_X5_follow at h
  refine lv_iconst (v := (0 : Int32)) hx hb dX5_follow_0 (by decide) ?_
  refine lv_istore (lv' := [(4, .int (0 : Int32)), (0, .ref a_t), (1, .ref a_p1), (2, .int l2), (3, .int l3)]) hx hb dX5_follow_1 hl (by decide) rfl (fun ls hl => ?_)
  exact w_X5_follow_b3 X a_t a_shelves a_shelves_elements a_p1 a_p1_island a_p1_island_ponds a_now a_kept a_trial a_reader a_one a_two a_search a_outs a_refusals a_shelves_contents a_shelves_sizes a_p1_island_kinds a_p1_island_weights a_p1_island_cells a_p1_island_faces a_p1_island_pledges c_t c_shelves_elements c_p1_island c_p1_island_ponds res FU c_p1 l2 l3 (0 : Int32) _ _ _ h hP hD hS (lv_sub hl [1, 2, 3, 4, 0] rfl)
end
set_option maxRecDepth 100000 in
theorem c_X5_follow (l : Launch) (E : Env0) (a_t : Nat) (a_shelves : Nat) (a_shelves_elements : Nat) (a_p1 : Nat) (a_p1_island : Nat) (a_p1_island_ponds : Nat) (a_now : Nat) (a_kept : Nat) (a_trial : Nat) (a_reader : Nat) (a_one : Nat) (a_two : Nat) (a_search : Nat) (a_outs : Nat) (a_refusals : Nat) (a_shelves_contents : Nat) (a_shelves_sizes : Nat) (a_p1_island_kinds : Nat) (a_p1_island_weights : Nat) (a_p1_island_cells : Nat) (a_p1_island_faces : Nat) (a_p1_island_pledges : Nat) (l2 : Int32) (l3 : Int32) (c_t : Nat → Int32) (c_shelves_elements : Nat → Int64) (c_p1 : Nat → Int32) (c_p1_island : Nat → Int32) (c_p1_island_ponds : Nat → Int32) (sz : Nat) (res : (Nat → Int32)) (h : f_X5_follow l2 l3 c_t c_shelves_elements c_p1 c_p1_island c_p1_island_ponds = some res) : Met l yX5_follow wsX5_follow r_X5_follow (cPre E [.ref a_t, .ref a_p1, .int l2, .int l3] (W_X5_follow E a_t a_shelves a_shelves_elements a_p1 a_p1_island a_p1_island_ponds a_now a_kept a_trial a_reader a_one a_two a_search a_outs a_refusals a_shelves_contents a_shelves_sizes a_p1_island_kinds a_p1_island_weights a_p1_island_cells a_p1_island_faces a_p1_island_pledges c_t c_shelves_elements c_p1 c_p1_island c_p1_island_ponds) sz) (qV E (va_A (W_X5_follow E a_t a_shelves a_shelves_elements a_p1 a_p1_island a_p1_island_ponds a_now a_kept a_trial a_reader a_one a_two a_search a_outs a_refusals a_shelves_contents a_shelves_sizes a_p1_island_kinds a_p1_island_weights a_p1_island_cells a_p1_island_faces a_p1_island_pledges c_t c_shelves_elements c_p1 c_p1_island c_p1_island_ponds) sz) (W_X5_follow E a_t a_shelves a_shelves_elements a_p1 a_p1_island a_p1_island_ponds a_now a_kept a_trial a_reader a_one a_two a_search a_outs a_refusals a_shelves_contents a_shelves_sizes a_p1_island_kinds a_p1_island_weights a_p1_island_cells a_p1_island_faces a_p1_island_pledges c_t c_shelves_elements res c_p1_island c_p1_island_ponds)) 0 0 (va_A (W_X5_follow E a_t a_shelves a_shelves_elements a_p1 a_p1_island a_p1_island_ponds a_now a_kept a_trial a_reader a_one a_two a_search a_outs a_refusals a_shelves_contents a_shelves_sizes a_p1_island_kinds a_p1_island_weights a_p1_island_cells a_p1_island_faces a_p1_island_pledges c_t c_shelves_elements c_p1 c_p1_island c_p1_island_ponds) sz) :=
  met_of (Qc := fun A => qV E A (W_X5_follow E a_t a_shelves a_shelves_elements a_p1 a_p1_island a_p1_island_ponds a_now a_kept a_trial a_reader a_one a_two a_search a_outs a_refusals a_shelves_contents a_shelves_sizes a_p1_island_kinds a_p1_island_weights a_p1_island_cells a_p1_island_faces a_p1_island_pledges c_t c_shelves_elements res c_p1_island c_p1_island_ponds)) (by decide) rfl (Nat.le_of_ble_eq_true rfl) (fun p e s m args below meth c X hP hD hS ls hl => w_X5_follow X a_t a_shelves a_shelves_elements a_p1 a_p1_island a_p1_island_ponds a_now a_kept a_trial a_reader a_one a_two a_search a_outs a_refusals a_shelves_contents a_shelves_sizes a_p1_island_kinds a_p1_island_weights a_p1_island_cells a_p1_island_faces a_p1_island_pledges c_t c_shelves_elements c_p1_island c_p1_island_ponds res c_p1 l2 l3 ls _ _ h hP hD hS hl)
-- ===== X5_comes
abbrev W_X5_comes (E : Env0) (a_t : Nat) (a_now : Nat) (a_now_cells : Nat) (a_now_faces : Nat) (a_now_kinds : Nat) (a_now_pledges : Nat) (a_now_ponds : Nat) (a_one : Nat) (a_refusals : Nat) (a_shelves : Nat) (a_shelves_contents : Nat) (a_shelves_elements : Nat) (a_shelves_sizes : Nat) (a_kept : Nat) (a_trial : Nat) (a_reader : Nat) (a_two : Nat) (a_search : Nat) (a_outs : Nat) (a_now_weights : Nat) (c_t : Nat → Int32) (c_now : Nat → Int32) (c_now_cells : Nat → Int32) (c_now_faces : Nat → Int32) (c_now_kinds : Nat → Int32) (c_now_pledges : Nat → Int32) (c_now_ponds : Nat → Int32) (c_one : Nat → Int32) (c_refusals : Nat → Int32) (c_shelves_contents : Nat → Int32) (c_shelves_elements : Nat → Int64) (c_shelves_sizes : Nat → Int32) : va_W := [(a_t, .inr (5, [.ref a_now, .ref a_kept, .ref a_trial, .ref a_reader, .ref a_shelves, .ref a_one, .ref a_two, .ref a_search, .ref a_outs, .ref a_refusals, .int (c_t 10)])), (a_now, .inr (0, [.int (c_now 0), .int (c_now 1), .int (c_now 2), .int (c_now 3), .int (c_now 4), .int (c_now 5), .int (c_now 6), .int (c_now 7), .ref a_now_ponds, .ref a_now_kinds, .ref a_now_weights, .ref a_now_cells, .ref a_now_faces, .ref a_now_pledges])), (a_now_cells, .inl (eI E, 8, .inl c_now_cells)), (a_now_faces, .inl (eI E, 8, .inl c_now_faces)), (a_now_kinds, .inl (eI E, 8, .inl c_now_kinds)), (a_now_pledges, .inl (eI E, 8, .inl c_now_pledges)), (a_now_ponds, .inl (eZ E, 70, .inl c_now_ponds)), (a_one, .inr (4, [.ref a_now, .int (c_one 1), .int (c_one 2), .int (c_one 3), .int (c_one 4), .int (c_one 5), .int (c_one 6), .int (c_one 7), .int (c_one 8), .int (c_one 9), .int (c_one 10)])), (a_refusals, .inl (eI E, 5, .inl c_refusals)), (a_shelves, .inr (3, [.ref a_shelves_contents, .ref a_shelves_sizes, .ref a_shelves_elements])), (a_shelves_contents, .inl (eI E, 8, .inl c_shelves_contents)), (a_shelves_elements, .inl (eJ E, 320, .inr (.inl c_shelves_elements))), (a_shelves_sizes, .inl (eI E, 8, .inl c_shelves_sizes))]
abbrev r_X5_comes : Room := { frames := 5, cells := 0, slots := 0, locals := 114 }
theorem hd_X5_comes : yX5_comes.cls ≠ "java/lang/invoke/MethodHandle" ∧ yX5_comes.cls ≠ "java/lang/invoke/VarHandle" ∧ (parseMethodDescriptor yX5_comes.desc).map (fun d => d.parameters.length) = some 4 := by decide +kernel
theorem hV_X5_comes : yX5_comes.cls = RX5 ∧ yX5_comes.cls ≠ "java/lang/invoke/MethodHandle" ∧ yX5_comes.cls ≠ "java/lang/invoke/VarHandle" ∧ (parseMethodDescriptor yX5_comes.desc).map (fun d => d.parameters.length) = some 4 := ⟨rfl, hd_X5_comes⟩
theorem iX5_comes_X4 : ∀ w ∈ wsX40, w ∈ wsX5_comes := fun _ h => List.mem_cons_of_mem _ (List.mem_append_left _ (List.mem_append_left _ (List.mem_append_right _ (h))))
theorem iX5_comes_X5 : ∀ w ∈ wsX50, w ∈ wsX5_comes := fun _ h => List.mem_cons_of_mem _ (List.mem_append_left _ (List.mem_append_left _ (List.mem_append_left _ (List.mem_append_right _ (h)))))
section
variable {p : Program} {l : Launch} {e : Env} {s : State} {m : MethodId} {args : Array Value} {below : List Frame} {meth : Method} {c : Code} {E : Env0} {A : Nat → Prop}
set_option maxRecDepth 100000 in
set_option maxHeartbeats 4000000 in
theorem w_X5_comes_b29 (X : Ctx p m meth c cX5_comes 6 ((some .int)) s args wsX5_comes RX5 E A) (a_t : Nat) (a_now : Nat) (a_now_cells : Nat) (a_now_faces : Nat) (a_now_kinds : Nat) (a_now_pledges : Nat) (a_now_ponds : Nat) (a_one : Nat) (a_refusals : Nat) (a_shelves : Nat) (a_shelves_contents : Nat) (a_shelves_elements : Nat) (a_shelves_sizes : Nat) (a_kept : Nat) (a_trial : Nat) (a_reader : Nat) (a_two : Nat) (a_search : Nat) (a_outs : Nat) (a_now_weights : Nat) (c_t : Nat → Int32) (c_now : Nat → Int32) (c_now_cells : Nat → Int32) (c_now_faces : Nat → Int32) (c_now_kinds : Nat → Int32) (c_now_pledges : Nat → Int32) (c_now_ponds : Nat → Int32) (c_shelves_contents : Nat → Int32) (c_shelves_elements : Nat → Int64) (c_shelves_sizes : Nat → Int32) (res : Int32 × (Nat → Int32) × (Nat → Int32)) (c_one : Nat → Int32) (c_refusals : Nat → Int32) (l1 : Int32) (l2 : Int32) (l3 : Int32) (l4 : Int32) (s0 : Int32) (s1 : Int32) (s2 : Int32) (ls : Array Slot) (H : Heap) (locs : List Loc) (h : f_X5_comes_b29 c_t c_now c_now_cells c_now_faces c_now_kinds c_now_pledges c_now_ponds c_shelves_contents c_shelves_elements c_shelves_sizes c_one c_refusals l1 l2 l3 l4 s0 s1 s2 = some res) (hP : va_P E.1 vwCl (W_X5_comes E a_t a_now a_now_cells a_now_faces a_now_kinds a_now_pledges a_now_ponds a_one a_refusals a_shelves a_shelves_contents a_shelves_elements a_shelves_sizes a_kept a_trial a_reader a_two a_search a_outs a_now_weights c_t c_now c_now_cells c_now_faces c_now_kinds c_now_pledges c_now_ponds c_one c_refusals c_shelves_contents c_shelves_elements c_shelves_sizes) H) (hD : va_D A (W_X5_comes E a_t a_now a_now_cells a_now_faces a_now_kinds a_now_pledges a_now_ponds a_one a_refusals a_shelves a_shelves_contents a_shelves_elements a_shelves_sizes a_kept a_trial a_reader a_two a_search a_outs a_now_weights c_t c_now c_now_cells c_now_faces c_now_kinds c_now_pledges c_now_ponds c_one c_refusals c_shelves_contents c_shelves_elements c_shelves_sizes)) (hS : va_S A s.heap H locs) (hl : lv_has ls 6 [(0, .ref a_t), (1, .int l1), (2, .int l2), (3, .int l3), (4, .int l4)]) : W p l e r_X5_comes s m args below meth c H locs 0 0 (MQ below (qI E A (res.1) (W_X5_comes E a_t a_now a_now_cells a_now_faces a_now_kinds a_now_pledges a_now_ponds a_one a_refusals a_shelves a_shelves_contents a_shelves_elements a_shelves_sizes a_kept a_trial a_reader a_two a_search a_outs a_now_weights c_t c_now c_now_cells c_now_faces c_now_kinds c_now_pledges c_now_ponds (res.2.1) (res.2.2) c_shelves_contents c_shelves_elements c_shelves_sizes)) args s 0 0 A) (F0 m 29 ls [.int s0, .int s1, .int s2, .ref a_t]) := by
  obtain ⟨hx, hb, hml, hr, hlk, hown, hts, hG, hA⟩ := id X
  have hK := hG.1
  have hN := hG.2.1
  unfold f_X5_comes_b29 at h
  obtain ⟨v1, hv1, h⟩ := bind_of h
  refine after_i X (run_V X (c_X5_tellingFault l E a_t a_shelves a_shelves_contents a_shelves_elements a_shelves_sizes a_now a_kept a_trial a_reader a_one a_two a_search a_outs a_refusals s2 s1 s0 c_t c_shelves_contents c_shelves_elements c_shelves_sizes H.size v1 hv1) (cwV 3 hts gX5_comes_X5_tellingFault rfl rfl rfl hV_X5_tellingFault ⟨(Nat.le_of_ble_eq_true rfl), (Nat.le_of_ble_eq_true rfl)⟩) hP hD hS [0, 9, 10, 11, 12] rfl rfl hl.1 (ci := 5) rfl rfl rfl (rest := []) rfl rfl (Nat.le_of_ble_eq_true rfl) dX5_comes_29) hP hD hS [0, 9, 10, 11, 12] [1, 2, 3, 4, 5, 6, 7, 8] [8, 0, 1, 2, 3, 4, 5, 6, 7, 9, 10, 11, 12] rfl rfl rfl (by decide) rfl (ws1 := (W_X5_comes E a_t a_now a_now_cells a_now_faces a_now_kinds a_now_pledges a_now_ponds a_one a_refusals a_shelves a_shelves_contents a_shelves_elements a_shelves_sizes a_kept a_trial a_reader a_two a_search a_outs a_now_weights c_t c_now c_now_cells c_now_faces c_now_kinds c_now_pledges c_now_ponds c_one c_refusals c_shelves_contents c_shelves_elements c_shelves_sizes)) rfl (fun H locs hP hD hS => ?_)
  refine lv_istore (lv' := [(5, .int v1), (0, .ref a_t), (1, .int l1), (2, .int l2), (3, .int l3), (4, .int l4)]) hx hb dX5_comes_32 hl (by decide) rfl (fun ls hl => ?_)
  refine lv_iload hx hb dX5_comes_34 (lv_at hl 0 rfl) ?_
  refine lv_if_eq (tgt := 46) hx hb dX5_comes_36 (by decide) (fun hc36 => ?_) (fun hc36 => ?_)
  · have h := if_t h hc36
    refine lv_aload_n hx hb dX5_comes_46 rfl (lv_at hl 1 rfl) ?_
    refine va_get (D := E.1) (ci := 5) (v := .ref a_one) (C := RX5) (T := TX5) (N := 11) hx hb hts iX5_comes_X5 hown hK hP 0 rfl rfl 5 (by decide) (hts (.fieldLink RX5 41 "LeftIsAgreedOn" "one" "LLeftIsAgreedOn$Walker;") (List.mem_of_getElem? (i := 2) rfl)) (fun _ h9 => h9) rfl dX5_comes_47 ?_
    refine lv_iload_n hx hb dX5_comes_50 rfl (lv_at hl 4 rfl) ?_
    obtain ⟨v2, hv2, h⟩ := bind_of h
    refine after_v X (run_V X (c_X4_begin l E a_one a_now a_now_cells a_now_faces a_now_kinds a_now_pledges a_now_ponds a_now_weights l3 c_one c_now c_now_cells c_now_faces c_now_kinds c_now_pledges H.size v2 hv2) (cwV 1 hts gX5_comes_X4_begin rfl rfl rfl hV_X4_begin ⟨(Nat.le_of_ble_eq_true rfl), (Nat.le_of_ble_eq_true rfl)⟩) hP hD hS [7, 1, 2, 3, 4, 5] rfl rfl hl.1 (ci := 4) rfl rfl rfl (rest := []) rfl rfl (Nat.le_of_ble_eq_true rfl) dX5_comes_51) hP hD hS [7, 1, 2, 3, 4, 5] [0, 6, 8, 9, 10, 11, 12] [0, 8, 9, 10, 11, 12, 1, 7, 2, 3, 4, 5, 6] rfl rfl rfl (by decide) rfl (ws1 := (W_X5_comes E a_t a_now a_now_cells a_now_faces a_now_kinds a_now_pledges a_now_ponds a_one a_refusals a_shelves a_shelves_contents a_shelves_elements a_shelves_sizes a_kept a_trial a_reader a_two a_search a_outs a_now_weights c_t c_now c_now_cells c_now_faces c_now_kinds c_now_pledges c_now_ponds v2 c_refusals c_shelves_contents c_shelves_elements c_shelves_sizes)) rfl (fun H locs hP hD hS => ?_)
    refine lv_aload_n hx hb dX5_comes_54 rfl (lv_at hl 1 rfl) ?_
    refine lv_aload_n hx hb dX5_comes_55 rfl (lv_at hl 1 rfl) ?_
    refine va_get (D := E.1) (ci := 5) (v := .ref a_one) (C := RX5) (T := TX5) (N := 11) hx hb hts iX5_comes_X5 hown hK hP 0 rfl rfl 5 (by decide) (hts (.fieldLink RX5 41 "LeftIsAgreedOn" "one" "LLeftIsAgreedOn$Walker;") (List.mem_of_getElem? (i := 2) rfl)) (fun _ h9 => h9) rfl dX5_comes_56 ?_
    refine lv_iload_n hx hb dX5_comes_59 rfl (lv_at hl 2 rfl) ?_
    refine lv_iload_n hx hb dX5_comes_60 rfl (lv_at hl 3 rfl) ?_
    obtain ⟨v3, hv3, h⟩ := bind_of h
    refine after_v X (run_V X (c_X5_follow l E a_t a_shelves a_shelves_elements a_one a_now a_now_ponds a_now a_kept a_trial a_reader a_one a_two a_search a_outs a_refusals a_shelves_contents a_shelves_sizes a_now_kinds a_now_weights a_now_cells a_now_faces a_now_pledges l1 l2 c_t c_shelves_elements v2 c_now c_now_ponds H.size v3 hv3) (cwV 3 hts gX5_comes_X5_follow rfl rfl rfl hV_X5_follow ⟨(Nat.le_of_ble_eq_true rfl), (Nat.le_of_ble_eq_true rfl)⟩) hP hD hS [0, 9, 11, 7, 1, 6] rfl rfl hl.1 (ci := 5) rfl rfl rfl (rest := []) rfl rfl (Nat.le_of_ble_eq_true rfl) dX5_comes_61) hP hD hS [0, 9, 11, 7, 1, 6] [2, 3, 4, 5, 8, 10, 12] [7, 11, 0, 1, 2, 3, 12, 10, 4, 8, 5, 9, 6] rfl rfl rfl (by decide) rfl (ws1 := (W_X5_comes E a_t a_now a_now_cells a_now_faces a_now_kinds a_now_pledges a_now_ponds a_one a_refusals a_shelves a_shelves_contents a_shelves_elements a_shelves_sizes a_kept a_trial a_reader a_two a_search a_outs a_now_weights c_t c_now c_now_cells c_now_faces c_now_kinds c_now_pledges c_now_ponds v3 c_refusals c_shelves_contents c_shelves_elements c_shelves_sizes)) rfl (fun H locs hP hD hS => ?_)
    refine lv_iload hx hb dX5_comes_64 (lv_at hl 5 rfl) ?_
    refine lv_if_ne (tgt := 77) hx hb dX5_comes_66 (by decide) (fun hc66 => ?_) (fun hc66 => ?_)
    · have h := if_f h hc66
      refine lv_iload hx hb dX5_comes_77 (lv_at hl 5 rfl) ?_
      refine lv_iconst (v := (1 : Int32)) hx hb dX5_comes_79 (by decide) ?_
      refine lv_icmp_ne (tgt := 93) hx hb dX5_comes_80 (by decide) (fun hc80 => ?_) (fun hc80 => ?_)
      · have h := if_f h hc80
        refine lv_aload_n hx hb dX5_comes_93 rfl (lv_at hl 1 rfl) ?_
        refine va_get (D := E.1) (ci := 5) (v := .ref a_one) (C := RX5) (T := TX5) (N := 11) hx hb hts iX5_comes_X5 hown hK hP 0 rfl rfl 5 (by decide) (hts (.fieldLink RX5 41 "LeftIsAgreedOn" "one" "LLeftIsAgreedOn$Walker;") (List.mem_of_getElem? (i := 2) rfl)) (fun _ h9 => h9) rfl dX5_comes_94 ?_
        refine va_getN (D := E.1) (ci := 4) (v := .int (v3 7)) (C := RX4) (T := TX4) (N := 11) hx hb hts iX5_comes_X4 hown hK hP 7 rfl rfl 7 (by decide) (va_Nw.use rfl (hN.1 _ (List.mem_of_getElem? (i := 12) rfl))) (fun _ h9 => h9) rfl dX5_comes_97 ?_
        obtain rfl := Option.some.inj h
        exact ret_i X dX5_comes_100 hP hD hS rfl
      · have h := if_t h hc80
        refine lv_aload_n hx hb dX5_comes_83 rfl (lv_at hl 1 rfl) ?_
        refine va_get (D := E.1) (ci := 5) (v := .ref a_one) (C := RX5) (T := TX5) (N := 11) hx hb hts iX5_comes_X5 hown hK hP 0 rfl rfl 5 (by decide) (hts (.fieldLink RX5 41 "LeftIsAgreedOn" "one" "LLeftIsAgreedOn$Walker;") (List.mem_of_getElem? (i := 2) rfl)) (fun _ h9 => h9) rfl dX5_comes_84 ?_
        refine va_getN (D := E.1) (ci := 4) (v := .int (v3 5)) (C := RX4) (T := TX4) (N := 11) hx hb hts iX5_comes_X4 hown hK hP 7 rfl rfl 5 (by decide) (va_Nw.use rfl (hN.1 _ (List.mem_of_getElem? (i := 2) rfl))) (fun _ h9 => h9) rfl dX5_comes_87 ?_
        refine lv_goto (tgt := 100) hx hb dX5_comes_90 (by decide) ?_
        obtain rfl := Option.some.inj h
        exact ret_i X dX5_comes_100 hP hD hS rfl
    · have h := if_t h hc66
      refine lv_aload_n hx hb dX5_comes_69 rfl (lv_at hl 1 rfl) ?_
      refine va_get (D := E.1) (ci := 5) (v := .ref a_one) (C := RX5) (T := TX5) (N := 11) hx hb hts iX5_comes_X5 hown hK hP 0 rfl rfl 5 (by decide) (hts (.fieldLink RX5 41 "LeftIsAgreedOn" "one" "LLeftIsAgreedOn$Walker;") (List.mem_of_getElem? (i := 2) rfl)) (fun _ h9 => h9) rfl dX5_comes_70 ?_
      refine va_getN (D := E.1) (ci := 4) (v := .int (v3 4)) (C := RX4) (T := TX4) (N := 11) hx hb hts iX5_comes_X4 hown hK hP 7 rfl rfl 4 (by decide) (va_Nw.use rfl (hN.1 _ (List.mem_of_getElem? (i := 11) rfl))) (fun _ h9 => h9) rfl dX5_comes_73 ?_
      obtain rfl := Option.some.inj h
      exact ret_i X dX5_comes_76 hP hD hS rfl
  · have h := if_f h hc36
    refine lv_aload_n hx hb dX5_comes_39 rfl (lv_at hl 1 rfl) ?_
    refine lv_iload hx hb dX5_comes_40 (lv_at hl 0 rfl) ?_
    obtain ⟨v4, hv4, h⟩ := bind_of h
    refine after_i X (run_V X (c_X5_refuse l E a_t a_refusals a_now a_kept a_trial a_reader a_shelves a_one a_two a_search a_outs v1 c_t c_refusals H.size v4 hv4) (cwV 1 hts gX5_comes_X5_refuse rfl rfl rfl hV_X5_refuse ⟨(Nat.le_of_ble_eq_true rfl), (Nat.le_of_ble_eq_true rfl)⟩) hP hD hS [0, 8] rfl rfl hl.1 (ci := 5) rfl rfl rfl (rest := []) rfl rfl (Nat.le_of_ble_eq_true rfl) dX5_comes_42) hP hD hS [0, 8] [1, 2, 3, 4, 5, 6, 7, 9, 10, 11, 12] [11, 0, 1, 2, 3, 4, 5, 6, 12, 7, 8, 9, 10] rfl rfl rfl (by decide) rfl (ws1 := (W_X5_comes E a_t a_now a_now_cells a_now_faces a_now_kinds a_now_pledges a_now_ponds a_one a_refusals a_shelves a_shelves_contents a_shelves_elements a_shelves_sizes a_kept a_trial a_reader a_two a_search a_outs a_now_weights c_t c_now c_now_cells c_now_faces c_now_kinds c_now_pledges c_now_ponds c_one (v4.2) c_shelves_contents c_shelves_elements c_shelves_sizes)) rfl (fun H locs hP hD hS => ?_)
    obtain rfl := Option.some.inj h
    exact ret_i X dX5_comes_45 hP hD hS rfl
set_option maxRecDepth 100000 in
set_option maxHeartbeats 4000000 in
theorem w_X5_comes_b28 (X : Ctx p m meth c cX5_comes 6 ((some .int)) s args wsX5_comes RX5 E A) (a_t : Nat) (a_now : Nat) (a_now_cells : Nat) (a_now_faces : Nat) (a_now_kinds : Nat) (a_now_pledges : Nat) (a_now_ponds : Nat) (a_one : Nat) (a_refusals : Nat) (a_shelves : Nat) (a_shelves_contents : Nat) (a_shelves_elements : Nat) (a_shelves_sizes : Nat) (a_kept : Nat) (a_trial : Nat) (a_reader : Nat) (a_two : Nat) (a_search : Nat) (a_outs : Nat) (a_now_weights : Nat) (c_t : Nat → Int32) (c_now : Nat → Int32) (c_now_cells : Nat → Int32) (c_now_faces : Nat → Int32) (c_now_kinds : Nat → Int32) (c_now_pledges : Nat → Int32) (c_now_ponds : Nat → Int32) (c_shelves_contents : Nat → Int32) (c_shelves_elements : Nat → Int64) (c_shelves_sizes : Nat → Int32) (res : Int32 × (Nat → Int32) × (Nat → Int32)) (c_one : Nat → Int32) (c_refusals : Nat → Int32) (l1 : Int32) (l2 : Int32) (l3 : Int32) (l4 : Int32) (s0 : Int32) (s1 : Int32) (ls : Array Slot) (H : Heap) (locs : List Loc) (h : f_X5_comes_b28 c_t c_now c_now_cells c_now_faces c_now_kinds c_now_pledges c_now_ponds c_shelves_contents c_shelves_elements c_shelves_sizes c_one c_refusals l1 l2 l3 l4 s0 s1 = some res) (hP : va_P E.1 vwCl (W_X5_comes E a_t a_now a_now_cells a_now_faces a_now_kinds a_now_pledges a_now_ponds a_one a_refusals a_shelves a_shelves_contents a_shelves_elements a_shelves_sizes a_kept a_trial a_reader a_two a_search a_outs a_now_weights c_t c_now c_now_cells c_now_faces c_now_kinds c_now_pledges c_now_ponds c_one c_refusals c_shelves_contents c_shelves_elements c_shelves_sizes) H) (hD : va_D A (W_X5_comes E a_t a_now a_now_cells a_now_faces a_now_kinds a_now_pledges a_now_ponds a_one a_refusals a_shelves a_shelves_contents a_shelves_elements a_shelves_sizes a_kept a_trial a_reader a_two a_search a_outs a_now_weights c_t c_now c_now_cells c_now_faces c_now_kinds c_now_pledges c_now_ponds c_one c_refusals c_shelves_contents c_shelves_elements c_shelves_sizes)) (hS : va_S A s.heap H locs) (hl : lv_has ls 6 [(0, .ref a_t), (1, .int l1), (2, .int l2), (3, .int l3), (4, .int l4)]) : W p l e r_X5_comes s m args below meth c H locs 0 0 (MQ below (qI E A (res.1) (W_X5_comes E a_t a_now a_now_cells a_now_faces a_now_kinds a_now_pledges a_now_ponds a_one a_refusals a_shelves a_shelves_contents a_shelves_elements a_shelves_sizes a_kept a_trial a_reader a_two a_search a_outs a_now_weights c_t c_now c_now_cells c_now_faces c_now_kinds c_now_pledges c_now_ponds (res.2.1) (res.2.2) c_shelves_contents c_shelves_elements c_shelves_sizes)) args s 0 0 A) (F0 m 28 ls [.int s0, .int s1, .ref a_t]) := by
  obtain ⟨hx, hb, hml, hr, hlk, hown, hts, hG, hA⟩ := id X
  have hK := hG.1
  have hN := hG.2.1
  unfold f_X5_comes_b28 at h
  refine lv_iconst (v := (0 : Int32)) hx hb dX5_comes_28 (by decide) ?_
  exact w_X5_comes_b29 X a_t a_now a_now_cells a_now_faces a_now_kinds a_now_pledges a_now_ponds a_one a_refusals a_shelves a_shelves_contents a_shelves_elements a_shelves_sizes a_kept a_trial a_reader a_two a_search a_outs a_now_weights c_t c_now c_now_cells c_now_faces c_now_kinds c_now_pledges c_now_ponds c_shelves_contents c_shelves_elements c_shelves_sizes res c_one c_refusals l1 l2 l3 l4 (0 : Int32) s0 s1 _ _ _ h hP hD hS (lv_sub hl [0, 1, 2, 3, 4] rfl)
set_option maxRecDepth 100000 in
set_option maxHeartbeats 4000000 in
theorem w_X5_comes (X : Ctx p m meth c cX5_comes 6 ((some .int)) s args wsX5_comes RX5 E A) (a_t : Nat) (a_now : Nat) (a_now_cells : Nat) (a_now_faces : Nat) (a_now_kinds : Nat) (a_now_pledges : Nat) (a_now_ponds : Nat) (a_one : Nat) (a_refusals : Nat) (a_shelves : Nat) (a_shelves_contents : Nat) (a_shelves_elements : Nat) (a_shelves_sizes : Nat) (a_kept : Nat) (a_trial : Nat) (a_reader : Nat) (a_two : Nat) (a_search : Nat) (a_outs : Nat) (a_now_weights : Nat) (c_t : Nat → Int32) (c_now : Nat → Int32) (c_now_cells : Nat → Int32) (c_now_faces : Nat → Int32) (c_now_kinds : Nat → Int32) (c_now_pledges : Nat → Int32) (c_now_ponds : Nat → Int32) (c_shelves_contents : Nat → Int32) (c_shelves_elements : Nat → Int64) (c_shelves_sizes : Nat → Int32) (res : Int32 × (Nat → Int32) × (Nat → Int32)) (c_one : Nat → Int32) (c_refusals : Nat → Int32) (l1 : Int32) (l2 : Int32) (l3 : Int32) (l4 : Int32) (ls : Array Slot) (H : Heap) (locs : List Loc) (h : f_X5_comes l1 l2 l3 l4 c_t c_now c_now_cells c_now_faces c_now_kinds c_now_pledges c_now_ponds c_one c_refusals c_shelves_contents c_shelves_elements c_shelves_sizes = some res) (hP : va_P E.1 vwCl (W_X5_comes E a_t a_now a_now_cells a_now_faces a_now_kinds a_now_pledges a_now_ponds a_one a_refusals a_shelves a_shelves_contents a_shelves_elements a_shelves_sizes a_kept a_trial a_reader a_two a_search a_outs a_now_weights c_t c_now c_now_cells c_now_faces c_now_kinds c_now_pledges c_now_ponds c_one c_refusals c_shelves_contents c_shelves_elements c_shelves_sizes) H) (hD : va_D A (W_X5_comes E a_t a_now a_now_cells a_now_faces a_now_kinds a_now_pledges a_now_ponds a_one a_refusals a_shelves a_shelves_contents a_shelves_elements a_shelves_sizes a_kept a_trial a_reader a_two a_search a_outs a_now_weights c_t c_now c_now_cells c_now_faces c_now_kinds c_now_pledges c_now_ponds c_one c_refusals c_shelves_contents c_shelves_elements c_shelves_sizes)) (hS : va_S A s.heap H locs) (hl : lv_has ls 6 [(0, .ref a_t), (1, .int l1), (2, .int l2), (3, .int l3), (4, .int l4)]) : W p l e r_X5_comes s m args below meth c H locs 0 0 (MQ below (qI E A (res.1) (W_X5_comes E a_t a_now a_now_cells a_now_faces a_now_kinds a_now_pledges a_now_ponds a_one a_refusals a_shelves a_shelves_contents a_shelves_elements a_shelves_sizes a_kept a_trial a_reader a_two a_search a_outs a_now_weights c_t c_now c_now_cells c_now_faces c_now_kinds c_now_pledges c_now_ponds (res.2.1) (res.2.2) c_shelves_contents c_shelves_elements c_shelves_sizes)) args s 0 0 A) (F0 m 0 ls []) := by
  obtain ⟨hx, hb, hml, hr, hlk, hown, hts, hG, hA⟩ := id X
  have hK := hG.1
  have hN := hG.2.1
  unfold f_X5_comes at h
  refine lv_aload_n hx hb dX5_comes_0 rfl (lv_at hl 0 rfl) ?_
  refine lv_iload_n hx hb dX5_comes_1 rfl (lv_at hl 1 rfl) ?_
  refine lv_iload_n hx hb dX5_comes_2 rfl (lv_at hl 2 rfl) ?_
  refine lv_aload_n hx hb dX5_comes_3 rfl (lv_at hl 0 rfl) ?_
  refine va_get (D := E.1) (ci := 5) (v := .ref a_now) (C := RX5) (T := TX5) (N := 11) hx hb hts iX5_comes_X5 hown hK hP 0 rfl rfl 0 (by decide) (hts (.fieldLink RX5 10 "LeftIsAgreedOn" "now" "LLeftIsAgreedOn$Island;") (List.mem_of_getElem? (i := 1) rfl)) (fun _ h9 => h9) rfl dX5_comes_4 ?_
  refine lv_iload_n hx hb dX5_comes_7 rfl (lv_at hl 3 rfl) ?_
  obtain ⟨v1, hv1, h⟩ := bind_of h
  refine after_i X (run_V X (c_X0_isOne l E a_now a_now_ponds a_now_kinds a_now_weights a_now_cells a_now_faces a_now_pledges l3 c_now H.size v1 hv1) (cwV 1 hts gX5_comes_X0_isOne rfl rfl rfl hV_X0_isOne ⟨(Nat.le_of_ble_eq_true rfl), (Nat.le_of_ble_eq_true rfl)⟩) hP hD hS [1] rfl rfl hl.1 (ci := 0) rfl rfl rfl (rest := [.int l2, .int l1, .ref a_t]) rfl rfl (Nat.le_of_ble_eq_true rfl) dX5_comes_8) hP hD hS [1] [0, 2, 3, 4, 5, 6, 7, 8, 9, 10, 11, 12] [0, 12, 1, 2, 3, 4, 5, 6, 7, 8, 9, 10, 11] rfl rfl rfl (by decide) rfl (ws1 := (W_X5_comes E a_t a_now a_now_cells a_now_faces a_now_kinds a_now_pledges a_now_ponds a_one a_refusals a_shelves a_shelves_contents a_shelves_elements a_shelves_sizes a_kept a_trial a_reader a_two a_search a_outs a_now_weights c_t c_now c_now_cells c_now_faces c_now_kinds c_now_pledges c_now_ponds c_one c_refusals c_shelves_contents c_shelves_elements c_shelves_sizes)) rfl (fun H locs hP hD hS => ?_)
  refine lv_if_eq (tgt := 28) hx hb dX5_comes_11 (by decide) (fun hc11 => ?_) (fun hc11 => ?_)
  · have h := if_t h hc11
    exact w_X5_comes_b28 X a_t a_now a_now_cells a_now_faces a_now_kinds a_now_pledges a_now_ponds a_one a_refusals a_shelves a_shelves_contents a_shelves_elements a_shelves_sizes a_kept a_trial a_reader a_two a_search a_outs a_now_weights c_t c_now c_now_cells c_now_faces c_now_kinds c_now_pledges c_now_ponds c_shelves_contents c_shelves_elements c_shelves_sizes res c_one c_refusals l1 l2 l3 l4 l2 l1 _ _ _ h hP hD hS (lv_sub hl [0, 1, 2, 3, 4] rfl)
  · have h := if_f h hc11
    refine lv_iload hx hb dX5_comes_14 (lv_at hl 4 rfl) ?_
    refine lv_iconst (v := (0 : Int32)) hx hb dX5_comes_16 (by decide) ?_
    refine lv_iconst (v := (2 : Int32)) hx hb dX5_comes_17 (by decide) ?_
    obtain ⟨v2, hv2, h⟩ := bind_of h
    refine after_i X (run_S X (c_X5_isWithin l E l4 (0 : Int32) (2 : Int32) H.size v2 hv2) (va_cwS 3 hts gX5_comes_X5_isWithin rfl rfl rfl hd_X5_isWithin ⟨(Nat.le_of_ble_eq_true rfl), (Nat.le_of_ble_eq_true rfl)⟩) hP hD hS [] rfl rfl hl.1 (rest := [.int l2, .int l1, .ref a_t]) rfl rfl (Nat.le_of_ble_eq_true rfl) dX5_comes_18) hP hD hS [] [0, 1, 2, 3, 4, 5, 6, 7, 8, 9, 10, 11, 12] [0, 1, 2, 3, 4, 5, 6, 7, 8, 9, 10, 11, 12] rfl rfl rfl (by decide) rfl (ws1 := (W_X5_comes E a_t a_now a_now_cells a_now_faces a_now_kinds a_now_pledges a_now_ponds a_one a_refusals a_shelves a_shelves_contents a_shelves_elements a_shelves_sizes a_kept a_trial a_reader a_two a_search a_outs a_now_weights c_t c_now c_now_cells c_now_faces c_now_kinds c_now_pledges c_now_ponds c_one c_refusals c_shelves_contents c_shelves_elements c_shelves_sizes)) rfl (fun H locs hP hD hS => ?_)
    refine lv_if_eq (tgt := 28) hx hb dX5_comes_21 (by decide) (fun hc21 => ?_) (fun hc21 => ?_)
    · have h := if_t h hc21
      exact w_X5_comes_b28 X a_t a_now a_now_cells a_now_faces a_now_kinds a_now_pledges a_now_ponds a_one a_refusals a_shelves a_shelves_contents a_shelves_elements a_shelves_sizes a_kept a_trial a_reader a_two a_search a_outs a_now_weights c_t c_now c_now_cells c_now_faces c_now_kinds c_now_pledges c_now_ponds c_shelves_contents c_shelves_elements c_shelves_sizes res c_one c_refusals l1 l2 l3 l4 l2 l1 _ _ _ h hP hD hS (lv_sub hl [0, 1, 2, 3, 4] rfl)
    · have h := if_f h hc21
      refine lv_iconst (v := (1 : Int32)) hx hb dX5_comes_24 (by decide) ?_
      refine lv_goto (tgt := 29) hx hb dX5_comes_25 (by decide) ?_
      exact w_X5_comes_b29 X a_t a_now a_now_cells a_now_faces a_now_kinds a_now_pledges a_now_ponds a_one a_refusals a_shelves a_shelves_contents a_shelves_elements a_shelves_sizes a_kept a_trial a_reader a_two a_search a_outs a_now_weights c_t c_now c_now_cells c_now_faces c_now_kinds c_now_pledges c_now_ponds c_shelves_contents c_shelves_elements c_shelves_sizes res c_one c_refusals l1 l2 l3 l4 (1 : Int32) l2 l1 _ _ _ h hP hD hS (lv_sub hl [0, 1, 2, 3, 4] rfl)
end
set_option maxRecDepth 100000 in
theorem c_X5_comes (l : Launch) (E : Env0) (a_t : Nat) (a_now : Nat) (a_now_cells : Nat) (a_now_faces : Nat) (a_now_kinds : Nat) (a_now_pledges : Nat) (a_now_ponds : Nat) (a_one : Nat) (a_refusals : Nat) (a_shelves : Nat) (a_shelves_contents : Nat) (a_shelves_elements : Nat) (a_shelves_sizes : Nat) (a_kept : Nat) (a_trial : Nat) (a_reader : Nat) (a_two : Nat) (a_search : Nat) (a_outs : Nat) (a_now_weights : Nat) (l1 : Int32) (l2 : Int32) (l3 : Int32) (l4 : Int32) (c_t : Nat → Int32) (c_now : Nat → Int32) (c_now_cells : Nat → Int32) (c_now_faces : Nat → Int32) (c_now_kinds : Nat → Int32) (c_now_pledges : Nat → Int32) (c_now_ponds : Nat → Int32) (c_one : Nat → Int32) (c_refusals : Nat → Int32) (c_shelves_contents : Nat → Int32) (c_shelves_elements : Nat → Int64) (c_shelves_sizes : Nat → Int32) (sz : Nat) (res : Int32 × (Nat → Int32) × (Nat → Int32)) (h : f_X5_comes l1 l2 l3 l4 c_t c_now c_now_cells c_now_faces c_now_kinds c_now_pledges c_now_ponds c_one c_refusals c_shelves_contents c_shelves_elements c_shelves_sizes = some res) : Met l yX5_comes wsX5_comes r_X5_comes (cPre E [.ref a_t, .int l1, .int l2, .int l3, .int l4] (W_X5_comes E a_t a_now a_now_cells a_now_faces a_now_kinds a_now_pledges a_now_ponds a_one a_refusals a_shelves a_shelves_contents a_shelves_elements a_shelves_sizes a_kept a_trial a_reader a_two a_search a_outs a_now_weights c_t c_now c_now_cells c_now_faces c_now_kinds c_now_pledges c_now_ponds c_one c_refusals c_shelves_contents c_shelves_elements c_shelves_sizes) sz) (qI E (va_A (W_X5_comes E a_t a_now a_now_cells a_now_faces a_now_kinds a_now_pledges a_now_ponds a_one a_refusals a_shelves a_shelves_contents a_shelves_elements a_shelves_sizes a_kept a_trial a_reader a_two a_search a_outs a_now_weights c_t c_now c_now_cells c_now_faces c_now_kinds c_now_pledges c_now_ponds c_one c_refusals c_shelves_contents c_shelves_elements c_shelves_sizes) sz) (res.1) (W_X5_comes E a_t a_now a_now_cells a_now_faces a_now_kinds a_now_pledges a_now_ponds a_one a_refusals a_shelves a_shelves_contents a_shelves_elements a_shelves_sizes a_kept a_trial a_reader a_two a_search a_outs a_now_weights c_t c_now c_now_cells c_now_faces c_now_kinds c_now_pledges c_now_ponds (res.2.1) (res.2.2) c_shelves_contents c_shelves_elements c_shelves_sizes)) 0 0 (va_A (W_X5_comes E a_t a_now a_now_cells a_now_faces a_now_kinds a_now_pledges a_now_ponds a_one a_refusals a_shelves a_shelves_contents a_shelves_elements a_shelves_sizes a_kept a_trial a_reader a_two a_search a_outs a_now_weights c_t c_now c_now_cells c_now_faces c_now_kinds c_now_pledges c_now_ponds c_one c_refusals c_shelves_contents c_shelves_elements c_shelves_sizes) sz) :=
  met_of (Qc := fun A => qI E A (res.1) (W_X5_comes E a_t a_now a_now_cells a_now_faces a_now_kinds a_now_pledges a_now_ponds a_one a_refusals a_shelves a_shelves_contents a_shelves_elements a_shelves_sizes a_kept a_trial a_reader a_two a_search a_outs a_now_weights c_t c_now c_now_cells c_now_faces c_now_kinds c_now_pledges c_now_ponds (res.2.1) (res.2.2) c_shelves_contents c_shelves_elements c_shelves_sizes)) (by decide) rfl (Nat.le_of_ble_eq_true rfl) (fun p e s m args below meth c X hP hD hS ls hl => w_X5_comes X a_t a_now a_now_cells a_now_faces a_now_kinds a_now_pledges a_now_ponds a_one a_refusals a_shelves a_shelves_contents a_shelves_elements a_shelves_sizes a_kept a_trial a_reader a_two a_search a_outs a_now_weights c_t c_now c_now_cells c_now_faces c_now_kinds c_now_pledges c_now_ponds c_shelves_contents c_shelves_elements c_shelves_sizes res c_one c_refusals l1 l2 l3 l4 ls _ _ h hP hD hS hl)
-- ===== X5_fell
abbrev W_X5_fell (E : Env0) (a_t : Nat) (a_now : Nat) (a_now_cells : Nat) (a_now_faces : Nat) (a_now_kinds : Nat) (a_now_pledges : Nat) (a_now_ponds : Nat) (a_one : Nat) (a_refusals : Nat) (a_shelves : Nat) (a_shelves_contents : Nat) (a_shelves_elements : Nat) (a_shelves_sizes : Nat) (a_kept : Nat) (a_trial : Nat) (a_reader : Nat) (a_two : Nat) (a_search : Nat) (a_outs : Nat) (a_now_weights : Nat) (c_t : Nat → Int32) (c_now : Nat → Int32) (c_now_cells : Nat → Int32) (c_now_faces : Nat → Int32) (c_now_kinds : Nat → Int32) (c_now_pledges : Nat → Int32) (c_now_ponds : Nat → Int32) (c_one : Nat → Int32) (c_refusals : Nat → Int32) (c_shelves_contents : Nat → Int32) (c_shelves_elements : Nat → Int64) (c_shelves_sizes : Nat → Int32) : va_W := [(a_t, .inr (5, [.ref a_now, .ref a_kept, .ref a_trial, .ref a_reader, .ref a_shelves, .ref a_one, .ref a_two, .ref a_search, .ref a_outs, .ref a_refusals, .int (c_t 10)])), (a_now, .inr (0, [.int (c_now 0), .int (c_now 1), .int (c_now 2), .int (c_now 3), .int (c_now 4), .int (c_now 5), .int (c_now 6), .int (c_now 7), .ref a_now_ponds, .ref a_now_kinds, .ref a_now_weights, .ref a_now_cells, .ref a_now_faces, .ref a_now_pledges])), (a_now_cells, .inl (eI E, 8, .inl c_now_cells)), (a_now_faces, .inl (eI E, 8, .inl c_now_faces)), (a_now_kinds, .inl (eI E, 8, .inl c_now_kinds)), (a_now_pledges, .inl (eI E, 8, .inl c_now_pledges)), (a_now_ponds, .inl (eZ E, 70, .inl c_now_ponds)), (a_one, .inr (4, [.ref a_now, .int (c_one 1), .int (c_one 2), .int (c_one 3), .int (c_one 4), .int (c_one 5), .int (c_one 6), .int (c_one 7), .int (c_one 8), .int (c_one 9), .int (c_one 10)])), (a_refusals, .inl (eI E, 5, .inl c_refusals)), (a_shelves, .inr (3, [.ref a_shelves_contents, .ref a_shelves_sizes, .ref a_shelves_elements])), (a_shelves_contents, .inl (eI E, 8, .inl c_shelves_contents)), (a_shelves_elements, .inl (eJ E, 320, .inr (.inl c_shelves_elements))), (a_shelves_sizes, .inl (eI E, 8, .inl c_shelves_sizes))]
abbrev r_X5_fell : Room := { frames := 5, cells := 0, slots := 0, locals := 114 }
theorem hd_X5_fell : yX5_fell.cls ≠ "java/lang/invoke/MethodHandle" ∧ yX5_fell.cls ≠ "java/lang/invoke/VarHandle" ∧ (parseMethodDescriptor yX5_fell.desc).map (fun d => d.parameters.length) = some 2 := by decide +kernel
theorem hV_X5_fell : yX5_fell.cls = RX5 ∧ yX5_fell.cls ≠ "java/lang/invoke/MethodHandle" ∧ yX5_fell.cls ≠ "java/lang/invoke/VarHandle" ∧ (parseMethodDescriptor yX5_fell.desc).map (fun d => d.parameters.length) = some 2 := ⟨rfl, hd_X5_fell⟩
theorem iX5_fell_X0 : ∀ w ∈ wsX00, w ∈ wsX5_fell := fun _ h => List.mem_cons_of_mem _ (List.mem_append_left _ (List.mem_append_left _ (List.mem_append_right _ (h))))
theorem iX5_fell_X5 : ∀ w ∈ wsX50, w ∈ wsX5_fell := fun _ h => List.mem_cons_of_mem _ (List.mem_append_left _ (List.mem_append_left _ (List.mem_append_left _ (List.mem_append_right _ (h)))))
section
variable {p : Program} {l : Launch} {e : Env} {s : State} {m : MethodId} {args : Array Value} {below : List Frame} {meth : Method} {c : Code} {E : Env0} {A : Nat → Prop}
set_option maxRecDepth 100000 in
set_option maxHeartbeats 4000000 in
theorem w_X5_fell_b24 (X : Ctx p m meth c cX5_fell 6 ((some .int)) s args wsX5_fell RX5 E A) (a_t : Nat) (a_now : Nat) (a_now_cells : Nat) (a_now_faces : Nat) (a_now_kinds : Nat) (a_now_pledges : Nat) (a_now_ponds : Nat) (a_one : Nat) (a_refusals : Nat) (a_shelves : Nat) (a_shelves_contents : Nat) (a_shelves_elements : Nat) (a_shelves_sizes : Nat) (a_kept : Nat) (a_trial : Nat) (a_reader : Nat) (a_two : Nat) (a_search : Nat) (a_outs : Nat) (a_now_weights : Nat) (c_t : Nat → Int32) (c_now : Nat → Int32) (c_now_cells : Nat → Int32) (c_now_faces : Nat → Int32) (c_now_kinds : Nat → Int32) (c_now_pledges : Nat → Int32) (c_now_ponds : Nat → Int32) (c_shelves_contents : Nat → Int32) (c_shelves_elements : Nat → Int64) (c_shelves_sizes : Nat → Int32) (res : Int32 × (Nat → Int32) × (Nat → Int32)) : ∀ (n : Nat) (c_one : Nat → Int32) (c_refusals : Nat → Int32) (l1 : Int32) (l2 : Int32) (l4 : Int32) (l5 : Int32) (ls : Array Slot) (H : Heap) (locs : List Loc), f_X5_fell_b24 c_t c_now c_now_cells c_now_faces c_now_kinds c_now_pledges c_now_ponds c_shelves_contents c_shelves_elements c_shelves_sizes n c_one c_refusals l1 l2 l4 l5 = some res → va_P E.1 vwCl (W_X5_fell E a_t a_now a_now_cells a_now_faces a_now_kinds a_now_pledges a_now_ponds a_one a_refusals a_shelves a_shelves_contents a_shelves_elements a_shelves_sizes a_kept a_trial a_reader a_two a_search a_outs a_now_weights c_t c_now c_now_cells c_now_faces c_now_kinds c_now_pledges c_now_ponds c_one c_refusals c_shelves_contents c_shelves_elements c_shelves_sizes) H → va_D A (W_X5_fell E a_t a_now a_now_cells a_now_faces a_now_kinds a_now_pledges a_now_ponds a_one a_refusals a_shelves a_shelves_contents a_shelves_elements a_shelves_sizes a_kept a_trial a_reader a_two a_search a_outs a_now_weights c_t c_now c_now_cells c_now_faces c_now_kinds c_now_pledges c_now_ponds c_one c_refusals c_shelves_contents c_shelves_elements c_shelves_sizes) → va_S A s.heap H locs → lv_has ls 6 [(0, .ref a_t), (1, .int l1), (2, .int l2), (4, .int l4), (5, .int l5)] → W p l e r_X5_fell s m args below meth c H locs 0 0 (MQ below (qI E A (res.1) (W_X5_fell E a_t a_now a_now_cells a_now_faces a_now_kinds a_now_pledges a_now_ponds a_one a_refusals a_shelves a_shelves_contents a_shelves_elements a_shelves_sizes a_kept a_trial a_reader a_two a_search a_outs a_now_weights c_t c_now c_now_cells c_now_faces c_now_kinds c_now_pledges c_now_ponds (res.2.1) (res.2.2) c_shelves_contents c_shelves_elements c_shelves_sizes)) args s 0 0 A) (F0 m 24 ls []) := by
  obtain ⟨hx, hb, hml, hr, hlk, hown, hts, hG, hA⟩ := id X
  have hK := hG.1
  have hN := hG.2.1
  intro n
  induction n with
  | zero =>
    intro c_one c_refusals l1 l2 l4 l5 ls H locs h
    exact absurd (show (none : Option (Int32 × (Nat → Int32) × (Nat → Int32))) = some res from h) (by intro q; cases q)
  | succ n ih =>
    intro c_one c_refusals l1 l2 l4 l5 ls H locs h hP hD hS hl
    rw [f_X5_fell_b24] at h
    refine lv_iload hx hb dX5_fell_24 (lv_at hl 4 rfl) ?_
    refine lv_aload_n hx hb dX5_fell_26 rfl (lv_at hl 0 rfl) ?_
    refine va_get (D := E.1) (ci := 5) (v := .ref a_now) (C := RX5) (T := TX5) (N := 11) hx hb hts iX5_fell_X5 hown hK hP 0 rfl rfl 0 (by decide) (hts (.fieldLink RX5 10 "LeftIsAgreedOn" "now" "LLeftIsAgreedOn$Island;") (List.mem_of_getElem? (i := 1) rfl)) (fun _ h9 => h9) rfl dX5_fell_27 ?_
    refine va_getN (D := E.1) (ci := 0) (v := .int (c_now 7)) (C := RX0) (T := TX0) (N := 14) hx hb hts iX5_fell_X0 hown hK hP 1 rfl rfl 7 (by decide) (va_Nw.use rfl (hN.1 _ (List.mem_of_getElem? (i := 13) rfl))) (fun _ h9 => h9) rfl dX5_fell_30 ?_
    refine lv_icmp_ge (tgt := 76) hx hb dX5_fell_33 (by decide) (fun hc33 => ?_) (fun hc33 => ?_)
    · have h := if_t h hc33
      refine lv_iload hx hb dX5_fell_76 (lv_at hl 3 rfl) ?_
      obtain rfl := Option.some.inj h
      exact ret_i X dX5_fell_78 hP hD hS rfl
    · have h := if_f h hc33
      refine lv_aload_n hx hb dX5_fell_36 rfl (lv_at hl 0 rfl) ?_
      refine va_get (D := E.1) (ci := 5) (v := .ref a_one) (C := RX5) (T := TX5) (N := 11) hx hb hts iX5_fell_X5 hown hK hP 0 rfl rfl 5 (by decide) (hts (.fieldLink RX5 41 "LeftIsAgreedOn" "one" "LLeftIsAgreedOn$Walker;") (List.mem_of_getElem? (i := 2) rfl)) (fun _ h9 => h9) rfl dX5_fell_37 ?_
      refine lv_iload hx hb dX5_fell_40 (lv_at hl 4 rfl) ?_
      obtain ⟨v1, hv1, h⟩ := bind_of h
      refine after_v X (run_V X (c_X4_begin l E a_one a_now a_now_cells a_now_faces a_now_kinds a_now_pledges a_now_ponds a_now_weights l5 c_one c_now c_now_cells c_now_faces c_now_kinds c_now_pledges H.size v1 hv1) (cwV 1 hts gX5_fell_X4_begin rfl rfl rfl hV_X4_begin ⟨(Nat.le_of_ble_eq_true rfl), (Nat.le_of_ble_eq_true rfl)⟩) hP hD hS [7, 1, 2, 3, 4, 5] rfl rfl hl.1 (ci := 4) rfl rfl rfl (rest := []) rfl rfl (Nat.le_of_ble_eq_true rfl) dX5_fell_42) hP hD hS [7, 1, 2, 3, 4, 5] [0, 6, 8, 9, 10, 11, 12] [0, 8, 9, 10, 11, 12, 1, 7, 2, 3, 4, 5, 6] rfl rfl rfl (by decide) rfl (ws1 := (W_X5_fell E a_t a_now a_now_cells a_now_faces a_now_kinds a_now_pledges a_now_ponds a_one a_refusals a_shelves a_shelves_contents a_shelves_elements a_shelves_sizes a_kept a_trial a_reader a_two a_search a_outs a_now_weights c_t c_now c_now_cells c_now_faces c_now_kinds c_now_pledges c_now_ponds v1 c_refusals c_shelves_contents c_shelves_elements c_shelves_sizes)) rfl (fun H locs hP hD hS => ?_)
      refine lv_aload_n hx hb dX5_fell_45 rfl (lv_at hl 0 rfl) ?_
      refine lv_aload_n hx hb dX5_fell_46 rfl (lv_at hl 0 rfl) ?_
      refine va_get (D := E.1) (ci := 5) (v := .ref a_one) (C := RX5) (T := TX5) (N := 11) hx hb hts iX5_fell_X5 hown hK hP 0 rfl rfl 5 (by decide) (hts (.fieldLink RX5 41 "LeftIsAgreedOn" "one" "LLeftIsAgreedOn$Walker;") (List.mem_of_getElem? (i := 2) rfl)) (fun _ h9 => h9) rfl dX5_fell_47 ?_
      refine lv_iload_n hx hb dX5_fell_50 rfl (lv_at hl 1 rfl) ?_
      refine lv_iload_n hx hb dX5_fell_51 rfl (lv_at hl 2 rfl) ?_
      obtain ⟨v2, hv2, h⟩ := bind_of h
      refine after_v X (run_V X (c_X5_follow l E a_t a_shelves a_shelves_elements a_one a_now a_now_ponds a_now a_kept a_trial a_reader a_one a_two a_search a_outs a_refusals a_shelves_contents a_shelves_sizes a_now_kinds a_now_weights a_now_cells a_now_faces a_now_pledges l1 l2 c_t c_shelves_elements v1 c_now c_now_ponds H.size v2 hv2) (cwV 3 hts gX5_fell_X5_follow rfl rfl rfl hV_X5_follow ⟨(Nat.le_of_ble_eq_true rfl), (Nat.le_of_ble_eq_true rfl)⟩) hP hD hS [0, 9, 11, 7, 1, 6] rfl rfl hl.1 (ci := 5) rfl rfl rfl (rest := []) rfl rfl (Nat.le_of_ble_eq_true rfl) dX5_fell_52) hP hD hS [0, 9, 11, 7, 1, 6] [2, 3, 4, 5, 8, 10, 12] [7, 11, 0, 1, 2, 3, 12, 10, 4, 8, 5, 9, 6] rfl rfl rfl (by decide) rfl (ws1 := (W_X5_fell E a_t a_now a_now_cells a_now_faces a_now_kinds a_now_pledges a_now_ponds a_one a_refusals a_shelves a_shelves_contents a_shelves_elements a_shelves_sizes a_kept a_trial a_reader a_two a_search a_outs a_now_weights c_t c_now c_now_cells c_now_faces c_now_kinds c_now_pledges c_now_ponds v2 c_refusals c_shelves_contents c_shelves_elements c_shelves_sizes)) rfl (fun H locs hP hD hS => ?_)
      refine lv_iload hx hb dX5_fell_55 (lv_at hl 3 rfl) ?_
      refine lv_aload_n hx hb dX5_fell_57 rfl (lv_at hl 0 rfl) ?_
      refine va_get (D := E.1) (ci := 5) (v := .ref a_one) (C := RX5) (T := TX5) (N := 11) hx hb hts iX5_fell_X5 hown hK hP 0 rfl rfl 5 (by decide) (hts (.fieldLink RX5 41 "LeftIsAgreedOn" "one" "LLeftIsAgreedOn$Walker;") (List.mem_of_getElem? (i := 2) rfl)) (fun _ h9 => h9) rfl dX5_fell_58 ?_
      obtain ⟨v3, hv3, h⟩ := bind_of h
      refine after_i X (run_V X (c_X4_isFallen l E a_one a_now v2 H.size v3 hv3) (cwV 0 hts gX5_fell_X4_isFallen rfl rfl rfl hV_X4_isFallen ⟨(Nat.le_of_ble_eq_true rfl), (Nat.le_of_ble_eq_true rfl)⟩) hP hD hS [7] rfl rfl hl.1 (ci := 4) rfl rfl rfl (rest := [.int l4]) rfl rfl (Nat.le_of_ble_eq_true rfl) dX5_fell_61) hP hD hS [7] [0, 1, 2, 3, 4, 5, 6, 8, 9, 10, 11, 12] [0, 1, 2, 3, 4, 5, 6, 12, 7, 8, 9, 10, 11] rfl rfl rfl (by decide) rfl (ws1 := (W_X5_fell E a_t a_now a_now_cells a_now_faces a_now_kinds a_now_pledges a_now_ponds a_one a_refusals a_shelves a_shelves_contents a_shelves_elements a_shelves_sizes a_kept a_trial a_reader a_two a_search a_outs a_now_weights c_t c_now c_now_cells c_now_faces c_now_kinds c_now_pledges c_now_ponds v2 c_refusals c_shelves_contents c_shelves_elements c_shelves_sizes)) rfl (fun H locs hP hD hS => ?_)
      obtain ⟨v4, hv4, h⟩ := bind_of h
      refine after_i X (run_S X (c_X5_asNumber l E v3 H.size v4 hv4) (va_cwS 1 hts gX5_fell_X5_asNumber rfl rfl rfl hd_X5_asNumber ⟨(Nat.le_of_ble_eq_true rfl), (Nat.le_of_ble_eq_true rfl)⟩) hP hD hS [] rfl rfl hl.1 (rest := [.int l4]) rfl rfl (Nat.le_of_ble_eq_true rfl) dX5_fell_64) hP hD hS [] [0, 1, 2, 3, 4, 5, 6, 7, 8, 9, 10, 11, 12] [0, 1, 2, 3, 4, 5, 6, 7, 8, 9, 10, 11, 12] rfl rfl rfl (by decide) rfl (ws1 := (W_X5_fell E a_t a_now a_now_cells a_now_faces a_now_kinds a_now_pledges a_now_ponds a_one a_refusals a_shelves a_shelves_contents a_shelves_elements a_shelves_sizes a_kept a_trial a_reader a_two a_search a_outs a_now_weights c_t c_now c_now_cells c_now_faces c_now_kinds c_now_pledges c_now_ponds v2 c_refusals c_shelves_contents c_shelves_elements c_shelves_sizes)) rfl (fun H locs hP hD hS => ?_)
      refine lv_iadd hx hb dX5_fell_67 ?_
      refine lv_istore (lv' := [(4, .int (l4 + v4)), (0, .ref a_t), (1, .int l1), (2, .int l2), (5, .int l5)]) hx hb dX5_fell_68 hl (by decide) rfl (fun ls hl => ?_)
      refine lv_iinc (v := (l5 + (1 : Int32))) (lv' := [(5, .int (l5 + (1 : Int32))), (4, .int (l4 + v4)), (0, .ref a_t), (1, .int l1), (2, .int l2)]) hx hb dX5_fell_70 hl (k := 4) rfl rfl (by decide) rfl (fun ls hl => ?_)
      refine lv_goto (tgt := 24) hx hb dX5_fell_73 (by decide) ?_
      exact ih v2 c_refusals l1 l2 (l4 + v4) (l5 + (1 : Int32)) _ _ _ h hP hD hS (lv_sub hl [2, 3, 4, 1, 0] rfl)
set_option maxRecDepth 100000 in
set_option maxHeartbeats 4000000 in
theorem w_X5_fell (X : Ctx p m meth c cX5_fell 6 ((some .int)) s args wsX5_fell RX5 E A) (a_t : Nat) (a_now : Nat) (a_now_cells : Nat) (a_now_faces : Nat) (a_now_kinds : Nat) (a_now_pledges : Nat) (a_now_ponds : Nat) (a_one : Nat) (a_refusals : Nat) (a_shelves : Nat) (a_shelves_contents : Nat) (a_shelves_elements : Nat) (a_shelves_sizes : Nat) (a_kept : Nat) (a_trial : Nat) (a_reader : Nat) (a_two : Nat) (a_search : Nat) (a_outs : Nat) (a_now_weights : Nat) (c_t : Nat → Int32) (c_now : Nat → Int32) (c_now_cells : Nat → Int32) (c_now_faces : Nat → Int32) (c_now_kinds : Nat → Int32) (c_now_pledges : Nat → Int32) (c_now_ponds : Nat → Int32) (c_shelves_contents : Nat → Int32) (c_shelves_elements : Nat → Int64) (c_shelves_sizes : Nat → Int32) (res : Int32 × (Nat → Int32) × (Nat → Int32)) (c_one : Nat → Int32) (c_refusals : Nat → Int32) (l1 : Int32) (l2 : Int32) (ls : Array Slot) (H : Heap) (locs : List Loc) (h : f_X5_fell l1 l2 c_t c_now c_now_cells c_now_faces c_now_kinds c_now_pledges c_now_ponds c_one c_refusals c_shelves_contents c_shelves_elements c_shelves_sizes = some res) (hP : va_P E.1 vwCl (W_X5_fell E a_t a_now a_now_cells a_now_faces a_now_kinds a_now_pledges a_now_ponds a_one a_refusals a_shelves a_shelves_contents a_shelves_elements a_shelves_sizes a_kept a_trial a_reader a_two a_search a_outs a_now_weights c_t c_now c_now_cells c_now_faces c_now_kinds c_now_pledges c_now_ponds c_one c_refusals c_shelves_contents c_shelves_elements c_shelves_sizes) H) (hD : va_D A (W_X5_fell E a_t a_now a_now_cells a_now_faces a_now_kinds a_now_pledges a_now_ponds a_one a_refusals a_shelves a_shelves_contents a_shelves_elements a_shelves_sizes a_kept a_trial a_reader a_two a_search a_outs a_now_weights c_t c_now c_now_cells c_now_faces c_now_kinds c_now_pledges c_now_ponds c_one c_refusals c_shelves_contents c_shelves_elements c_shelves_sizes)) (hS : va_S A s.heap H locs) (hl : lv_has ls 6 [(0, .ref a_t), (1, .int l1), (2, .int l2)]) : W p l e r_X5_fell s m args below meth c H locs 0 0 (MQ below (qI E A (res.1) (W_X5_fell E a_t a_now a_now_cells a_now_faces a_now_kinds a_now_pledges a_now_ponds a_one a_refusals a_shelves a_shelves_contents a_shelves_elements a_shelves_sizes a_kept a_trial a_reader a_two a_search a_outs a_now_weights c_t c_now c_now_cells c_now_faces c_now_kinds c_now_pledges c_now_ponds (res.2.1) (res.2.2) c_shelves_contents c_shelves_elements c_shelves_sizes)) args s 0 0 A) (F0 m 0 ls []) := by
  obtain ⟨hx, hb, hml, hr, hlk, hown, hts, hG, hA⟩ := id X
  have hK := hG.1
  have hN := hG.2.1
  unfold f_X5_fell at h
  refine lv_aload_n hx hb dX5_fell_0 rfl (lv_at hl 0 rfl) ?_
  refine lv_iload_n hx hb dX5_fell_1 rfl (lv_at hl 1 rfl) ?_
  refine lv_iload_n hx hb dX5_fell_2 rfl (lv_at hl 2 rfl) ?_
  refine lv_iconst (v := (1 : Int32)) hx hb dX5_fell_3 (by decide) ?_
  obtain ⟨v1, hv1, h⟩ := bind_of h
  refine after_i X (run_V X (c_X5_tellingFault l E a_t a_shelves a_shelves_contents a_shelves_elements a_shelves_sizes a_now a_kept a_trial a_reader a_one a_two a_search a_outs a_refusals l1 l2 (1 : Int32) c_t c_shelves_contents c_shelves_elements c_shelves_sizes H.size v1 hv1) (cwV 3 hts gX5_fell_X5_tellingFault rfl rfl rfl hV_X5_tellingFault ⟨(Nat.le_of_ble_eq_true rfl), (Nat.le_of_ble_eq_true rfl)⟩) hP hD hS [0, 9, 10, 11, 12] rfl rfl hl.1 (ci := 5) rfl rfl rfl (rest := []) rfl rfl (Nat.le_of_ble_eq_true rfl) dX5_fell_4) hP hD hS [0, 9, 10, 11, 12] [1, 2, 3, 4, 5, 6, 7, 8] [8, 0, 1, 2, 3, 4, 5, 6, 7, 9, 10, 11, 12] rfl rfl rfl (by decide) rfl (ws1 := (W_X5_fell E a_t a_now a_now_cells a_now_faces a_now_kinds a_now_pledges a_now_ponds a_one a_refusals a_shelves a_shelves_contents a_shelves_elements a_shelves_sizes a_kept a_trial a_reader a_two a_search a_outs a_now_weights c_t c_now c_now_cells c_now_faces c_now_kinds c_now_pledges c_now_ponds c_one c_refusals c_shelves_contents c_shelves_elements c_shelves_sizes)) rfl (fun H locs hP hD hS => ?_)
  refine lv_istore_n (lv' := [(3, .int v1), (0, .ref a_t), (1, .int l1), (2, .int l2)]) hx hb dX5_fell_7 rfl hl (by decide) rfl (fun ls hl => ?_)
  refine lv_iload_n hx hb dX5_fell_8 rfl (lv_at hl 0 rfl) ?_
  refine lv_if_eq (tgt := 18) hx hb dX5_fell_9 (by decide) (fun hc9 => ?_) (fun hc9 => ?_)
  · have h := if_t h hc9
    refine lv_iconst (v := (0 : Int32)) hx hb dX5_fell_18 (by decide) ?_
    refine lv_istore (lv' := [(4, .int (0 : Int32)), (3, .int v1), (0, .ref a_t), (1, .int l1), (2, .int l2)]) hx hb dX5_fell_19 hl (by decide) rfl (fun ls hl => ?_)
    refine lv_iconst (v := (0 : Int32)) hx hb dX5_fell_21 (by decide) ?_
    refine lv_istore (lv' := [(5, .int (0 : Int32)), (4, .int (0 : Int32)), (3, .int v1), (0, .ref a_t), (1, .int l1), (2, .int l2)]) hx hb dX5_fell_22 hl (by decide) rfl (fun ls hl => ?_)
    exact w_X5_fell_b24 X a_t a_now a_now_cells a_now_faces a_now_kinds a_now_pledges a_now_ponds a_one a_refusals a_shelves a_shelves_contents a_shelves_elements a_shelves_sizes a_kept a_trial a_reader a_two a_search a_outs a_now_weights c_t c_now c_now_cells c_now_faces c_now_kinds c_now_pledges c_now_ponds c_shelves_contents c_shelves_elements c_shelves_sizes res FU c_one c_refusals l1 l2 (0 : Int32) (0 : Int32) _ _ _ h hP hD hS (lv_sub hl [3, 4, 5, 1, 0] rfl)
  · have h := if_f h hc9
    refine lv_aload_n hx hb dX5_fell_12 rfl (lv_at hl 1 rfl) ?_
    refine lv_iload_n hx hb dX5_fell_13 rfl (lv_at hl 0 rfl) ?_
    obtain ⟨v2, hv2, h⟩ := bind_of h
    refine after_i X (run_V X (c_X5_refuse l E a_t a_refusals a_now a_kept a_trial a_reader a_shelves a_one a_two a_search a_outs v1 c_t c_refusals H.size v2 hv2) (cwV 1 hts gX5_fell_X5_refuse rfl rfl rfl hV_X5_refuse ⟨(Nat.le_of_ble_eq_true rfl), (Nat.le_of_ble_eq_true rfl)⟩) hP hD hS [0, 8] rfl rfl hl.1 (ci := 5) rfl rfl rfl (rest := []) rfl rfl (Nat.le_of_ble_eq_true rfl) dX5_fell_14) hP hD hS [0, 8] [1, 2, 3, 4, 5, 6, 7, 9, 10, 11, 12] [11, 0, 1, 2, 3, 4, 5, 6, 12, 7, 8, 9, 10] rfl rfl rfl (by decide) rfl (ws1 := (W_X5_fell E a_t a_now a_now_cells a_now_faces a_now_kinds a_now_pledges a_now_ponds a_one a_refusals a_shelves a_shelves_contents a_shelves_elements a_shelves_sizes a_kept a_trial a_reader a_two a_search a_outs a_now_weights c_t c_now c_now_cells c_now_faces c_now_kinds c_now_pledges c_now_ponds c_one (v2.2) c_shelves_contents c_shelves_elements c_shelves_sizes)) rfl (fun H locs hP hD hS => ?_)
    obtain rfl := Option.some.inj h
    exact ret_i X dX5_fell_17 hP hD hS rfl
end
set_option maxRecDepth 100000 in
theorem c_X5_fell (l : Launch) (E : Env0) (a_t : Nat) (a_now : Nat) (a_now_cells : Nat) (a_now_faces : Nat) (a_now_kinds : Nat) (a_now_pledges : Nat) (a_now_ponds : Nat) (a_one : Nat) (a_refusals : Nat) (a_shelves : Nat) (a_shelves_contents : Nat) (a_shelves_elements : Nat) (a_shelves_sizes : Nat) (a_kept : Nat) (a_trial : Nat) (a_reader : Nat) (a_two : Nat) (a_search : Nat) (a_outs : Nat) (a_now_weights : Nat) (l1 : Int32) (l2 : Int32) (c_t : Nat → Int32) (c_now : Nat → Int32) (c_now_cells : Nat → Int32) (c_now_faces : Nat → Int32) (c_now_kinds : Nat → Int32) (c_now_pledges : Nat → Int32) (c_now_ponds : Nat → Int32) (c_one : Nat → Int32) (c_refusals : Nat → Int32) (c_shelves_contents : Nat → Int32) (c_shelves_elements : Nat → Int64) (c_shelves_sizes : Nat → Int32) (sz : Nat) (res : Int32 × (Nat → Int32) × (Nat → Int32)) (h : f_X5_fell l1 l2 c_t c_now c_now_cells c_now_faces c_now_kinds c_now_pledges c_now_ponds c_one c_refusals c_shelves_contents c_shelves_elements c_shelves_sizes = some res) : Met l yX5_fell wsX5_fell r_X5_fell (cPre E [.ref a_t, .int l1, .int l2] (W_X5_fell E a_t a_now a_now_cells a_now_faces a_now_kinds a_now_pledges a_now_ponds a_one a_refusals a_shelves a_shelves_contents a_shelves_elements a_shelves_sizes a_kept a_trial a_reader a_two a_search a_outs a_now_weights c_t c_now c_now_cells c_now_faces c_now_kinds c_now_pledges c_now_ponds c_one c_refusals c_shelves_contents c_shelves_elements c_shelves_sizes) sz) (qI E (va_A (W_X5_fell E a_t a_now a_now_cells a_now_faces a_now_kinds a_now_pledges a_now_ponds a_one a_refusals a_shelves a_shelves_contents a_shelves_elements a_shelves_sizes a_kept a_trial a_reader a_two a_search a_outs a_now_weights c_t c_now c_now_cells c_now_faces c_now_kinds c_now_pledges c_now_ponds c_one c_refusals c_shelves_contents c_shelves_elements c_shelves_sizes) sz) (res.1) (W_X5_fell E a_t a_now a_now_cells a_now_faces a_now_kinds a_now_pledges a_now_ponds a_one a_refusals a_shelves a_shelves_contents a_shelves_elements a_shelves_sizes a_kept a_trial a_reader a_two a_search a_outs a_now_weights c_t c_now c_now_cells c_now_faces c_now_kinds c_now_pledges c_now_ponds (res.2.1) (res.2.2) c_shelves_contents c_shelves_elements c_shelves_sizes)) 0 0 (va_A (W_X5_fell E a_t a_now a_now_cells a_now_faces a_now_kinds a_now_pledges a_now_ponds a_one a_refusals a_shelves a_shelves_contents a_shelves_elements a_shelves_sizes a_kept a_trial a_reader a_two a_search a_outs a_now_weights c_t c_now c_now_cells c_now_faces c_now_kinds c_now_pledges c_now_ponds c_one c_refusals c_shelves_contents c_shelves_elements c_shelves_sizes) sz) :=
  met_of (Qc := fun A => qI E A (res.1) (W_X5_fell E a_t a_now a_now_cells a_now_faces a_now_kinds a_now_pledges a_now_ponds a_one a_refusals a_shelves a_shelves_contents a_shelves_elements a_shelves_sizes a_kept a_trial a_reader a_two a_search a_outs a_now_weights c_t c_now c_now_cells c_now_faces c_now_kinds c_now_pledges c_now_ponds (res.2.1) (res.2.2) c_shelves_contents c_shelves_elements c_shelves_sizes)) (by decide) rfl (Nat.le_of_ble_eq_true rfl) (fun p e s m args below meth c X hP hD hS ls hl => w_X5_fell X a_t a_now a_now_cells a_now_faces a_now_kinds a_now_pledges a_now_ponds a_one a_refusals a_shelves a_shelves_contents a_shelves_elements a_shelves_sizes a_kept a_trial a_reader a_two a_search a_outs a_now_weights c_t c_now c_now_cells c_now_faces c_now_kinds c_now_pledges c_now_ponds c_shelves_contents c_shelves_elements c_shelves_sizes res c_one c_refusals l1 l2 ls _ _ h hP hD hS hl)
-- ===== X5_ponds
abbrev W_X5_ponds (E : Env0) (a_t : Nat) (a_now : Nat) (a_now_cells : Nat) (a_now_faces : Nat) (a_now_kinds : Nat) (a_now_pledges : Nat) (a_now_ponds : Nat) (a_one : Nat) (a_refusals : Nat) (a_shelves : Nat) (a_shelves_contents : Nat) (a_shelves_elements : Nat) (a_shelves_sizes : Nat) (a_kept : Nat) (a_trial : Nat) (a_reader : Nat) (a_two : Nat) (a_search : Nat) (a_outs : Nat) (a_now_weights : Nat) (c_t : Nat → Int32) (c_now : Nat → Int32) (c_now_cells : Nat → Int32) (c_now_faces : Nat → Int32) (c_now_kinds : Nat → Int32) (c_now_pledges : Nat → Int32) (c_now_ponds : Nat → Int32) (c_one : Nat → Int32) (c_refusals : Nat → Int32) (c_shelves_contents : Nat → Int32) (c_shelves_elements : Nat → Int64) (c_shelves_sizes : Nat → Int32) : va_W := [(a_t, .inr (5, [.ref a_now, .ref a_kept, .ref a_trial, .ref a_reader, .ref a_shelves, .ref a_one, .ref a_two, .ref a_search, .ref a_outs, .ref a_refusals, .int (c_t 10)])), (a_now, .inr (0, [.int (c_now 0), .int (c_now 1), .int (c_now 2), .int (c_now 3), .int (c_now 4), .int (c_now 5), .int (c_now 6), .int (c_now 7), .ref a_now_ponds, .ref a_now_kinds, .ref a_now_weights, .ref a_now_cells, .ref a_now_faces, .ref a_now_pledges])), (a_now_cells, .inl (eI E, 8, .inl c_now_cells)), (a_now_faces, .inl (eI E, 8, .inl c_now_faces)), (a_now_kinds, .inl (eI E, 8, .inl c_now_kinds)), (a_now_pledges, .inl (eI E, 8, .inl c_now_pledges)), (a_now_ponds, .inl (eZ E, 70, .inl c_now_ponds)), (a_one, .inr (4, [.ref a_now, .int (c_one 1), .int (c_one 2), .int (c_one 3), .int (c_one 4), .int (c_one 5), .int (c_one 6), .int (c_one 7), .int (c_one 8), .int (c_one 9), .int (c_one 10)])), (a_refusals, .inl (eI E, 5, .inl c_refusals)), (a_shelves, .inr (3, [.ref a_shelves_contents, .ref a_shelves_sizes, .ref a_shelves_elements])), (a_shelves_contents, .inl (eI E, 8, .inl c_shelves_contents)), (a_shelves_elements, .inl (eJ E, 320, .inr (.inl c_shelves_elements))), (a_shelves_sizes, .inl (eI E, 8, .inl c_shelves_sizes))]
abbrev r_X5_ponds : Room := { frames := 5, cells := 0, slots := 0, locals := 114 }
theorem hd_X5_ponds : yX5_ponds.cls ≠ "java/lang/invoke/MethodHandle" ∧ yX5_ponds.cls ≠ "java/lang/invoke/VarHandle" ∧ (parseMethodDescriptor yX5_ponds.desc).map (fun d => d.parameters.length) = some 3 := by decide +kernel
theorem hV_X5_ponds : yX5_ponds.cls = RX5 ∧ yX5_ponds.cls ≠ "java/lang/invoke/MethodHandle" ∧ yX5_ponds.cls ≠ "java/lang/invoke/VarHandle" ∧ (parseMethodDescriptor yX5_ponds.desc).map (fun d => d.parameters.length) = some 3 := ⟨rfl, hd_X5_ponds⟩
theorem iX5_ponds_X4 : ∀ w ∈ wsX40, w ∈ wsX5_ponds := fun _ h => List.mem_cons_of_mem _ (List.mem_append_left _ (List.mem_append_left _ (List.mem_append_right _ (h))))
theorem iX5_ponds_X5 : ∀ w ∈ wsX50, w ∈ wsX5_ponds := fun _ h => List.mem_cons_of_mem _ (List.mem_append_left _ (List.mem_append_left _ (List.mem_append_left _ (List.mem_append_right _ (h)))))
section
variable {p : Program} {l : Launch} {e : Env} {s : State} {m : MethodId} {args : Array Value} {below : List Frame} {meth : Method} {c : Code} {E : Env0} {A : Nat → Prop}
set_option maxRecDepth 100000 in
set_option maxHeartbeats 4000000 in
theorem w_X5_ponds_b95 (X : Ctx p m meth c cX5_ponds 7 ((some .int)) s args wsX5_ponds RX5 E A) (a_t : Nat) (a_now : Nat) (a_now_cells : Nat) (a_now_faces : Nat) (a_now_kinds : Nat) (a_now_pledges : Nat) (a_now_ponds : Nat) (a_one : Nat) (a_refusals : Nat) (a_shelves : Nat) (a_shelves_contents : Nat) (a_shelves_elements : Nat) (a_shelves_sizes : Nat) (a_kept : Nat) (a_trial : Nat) (a_reader : Nat) (a_two : Nat) (a_search : Nat) (a_outs : Nat) (a_now_weights : Nat) (c_t : Nat → Int32) (c_now : Nat → Int32) (c_now_cells : Nat → Int32) (c_now_faces : Nat → Int32) (c_now_kinds : Nat → Int32) (c_now_pledges : Nat → Int32) (c_now_ponds : Nat → Int32) (c_shelves_contents : Nat → Int32) (c_shelves_elements : Nat → Int64) (c_shelves_sizes : Nat → Int32) (res : Int32 × (Nat → Int32) × (Nat → Int32)) (k34 : (Nat → Int32) → (Nat → Int32) → Int32 → Int32 → Int32 → Int32 → Int32 → Option (Int32 × (Nat → Int32) × (Nat → Int32))) (hk34 : ∀ (c_one : Nat → Int32) (c_refusals : Nat → Int32) (l1 : Int32) (l2 : Int32) (l3 : Int32) (l5 : Int32) (l6 : Int32) (ls : Array Slot) (H : Heap) (locs : List Loc), k34 c_one c_refusals l1 l2 l3 l5 l6 = some res → va_P E.1 vwCl (W_X5_ponds E a_t a_now a_now_cells a_now_faces a_now_kinds a_now_pledges a_now_ponds a_one a_refusals a_shelves a_shelves_contents a_shelves_elements a_shelves_sizes a_kept a_trial a_reader a_two a_search a_outs a_now_weights c_t c_now c_now_cells c_now_faces c_now_kinds c_now_pledges c_now_ponds c_one c_refusals c_shelves_contents c_shelves_elements c_shelves_sizes) H → va_D A (W_X5_ponds E a_t a_now a_now_cells a_now_faces a_now_kinds a_now_pledges a_now_ponds a_one a_refusals a_shelves a_shelves_contents a_shelves_elements a_shelves_sizes a_kept a_trial a_reader a_two a_search a_outs a_now_weights c_t c_now c_now_cells c_now_faces c_now_kinds c_now_pledges c_now_ponds c_one c_refusals c_shelves_contents c_shelves_elements c_shelves_sizes) → va_S A s.heap H locs → lv_has ls 7 [(0, .ref a_t), (1, .int l1), (2, .int l2), (3, .int l3), (5, .int l5), (6, .int l6)] → W p l e r_X5_ponds s m args below meth c H locs 0 0 (MQ below (qI E A (res.1) (W_X5_ponds E a_t a_now a_now_cells a_now_faces a_now_kinds a_now_pledges a_now_ponds a_one a_refusals a_shelves a_shelves_contents a_shelves_elements a_shelves_sizes a_kept a_trial a_reader a_two a_search a_outs a_now_weights c_t c_now c_now_cells c_now_faces c_now_kinds c_now_pledges c_now_ponds (res.2.1) (res.2.2) c_shelves_contents c_shelves_elements c_shelves_sizes)) args s 0 0 A) (F0 m 34 ls [])) (c_one : Nat → Int32) (c_refusals : Nat → Int32) (l1 : Int32) (l2 : Int32) (l3 : Int32) (l5 : Int32) (l6 : Int32) (ls : Array Slot) (H : Heap) (locs : List Loc) (h : f_X5_ponds_b95 c_t c_now c_now_cells c_now_faces c_now_kinds c_now_pledges c_now_ponds c_shelves_contents c_shelves_elements c_shelves_sizes k34 c_one c_refusals l1 l2 l3 l5 l6 = some res) (hP : va_P E.1 vwCl (W_X5_ponds E a_t a_now a_now_cells a_now_faces a_now_kinds a_now_pledges a_now_ponds a_one a_refusals a_shelves a_shelves_contents a_shelves_elements a_shelves_sizes a_kept a_trial a_reader a_two a_search a_outs a_now_weights c_t c_now c_now_cells c_now_faces c_now_kinds c_now_pledges c_now_ponds c_one c_refusals c_shelves_contents c_shelves_elements c_shelves_sizes) H) (hD : va_D A (W_X5_ponds E a_t a_now a_now_cells a_now_faces a_now_kinds a_now_pledges a_now_ponds a_one a_refusals a_shelves a_shelves_contents a_shelves_elements a_shelves_sizes a_kept a_trial a_reader a_two a_search a_outs a_now_weights c_t c_now c_now_cells c_now_faces c_now_kinds c_now_pledges c_now_ponds c_one c_refusals c_shelves_contents c_shelves_elements c_shelves_sizes)) (hS : va_S A s.heap H locs) (hl : lv_has ls 7 [(0, .ref a_t), (1, .int l1), (2, .int l2), (3, .int l3), (5, .int l5), (6, .int l6)]) : W p l e r_X5_ponds s m args below meth c H locs 0 0 (MQ below (qI E A (res.1) (W_X5_ponds E a_t a_now a_now_cells a_now_faces a_now_kinds a_now_pledges a_now_ponds a_one a_refusals a_shelves a_shelves_contents a_shelves_elements a_shelves_sizes a_kept a_trial a_reader a_two a_search a_outs a_now_weights c_t c_now c_now_cells c_now_faces c_now_kinds c_now_pledges c_now_ponds (res.2.1) (res.2.2) c_shelves_contents c_shelves_elements c_shelves_sizes)) args s 0 0 A) (F0 m 95 ls []) := by
  obtain ⟨hx, hb, hml, hr, hlk, hown, hts, hG, hA⟩ := id X
  have hK := hG.1
  have hN := hG.2.1
  unfold f_X5_ponds_b95 at h
  refine lv_iinc (v := (l6 + (1 : Int32))) (lv' := [(6, .int (l6 + (1 : Int32))), (0, .ref a_t), (1, .int l1), (2, .int l2), (3, .int l3), (5, .int l5)]) hx hb dX5_ponds_95 hl (k := 5) rfl rfl (by decide) rfl (fun ls hl => ?_)
  refine lv_goto (tgt := 34) hx hb dX5_ponds_98 (by decide) ?_
  exact hk34 c_one c_refusals l1 l2 l3 l5 (l6 + (1 : Int32)) _ _ _ h hP hD hS (lv_sub hl [1, 2, 3, 4, 5, 0] rfl)
set_option maxRecDepth 100000 in
set_option maxHeartbeats 4000000 in
theorem w_X5_ponds_b34 (X : Ctx p m meth c cX5_ponds 7 ((some .int)) s args wsX5_ponds RX5 E A) (a_t : Nat) (a_now : Nat) (a_now_cells : Nat) (a_now_faces : Nat) (a_now_kinds : Nat) (a_now_pledges : Nat) (a_now_ponds : Nat) (a_one : Nat) (a_refusals : Nat) (a_shelves : Nat) (a_shelves_contents : Nat) (a_shelves_elements : Nat) (a_shelves_sizes : Nat) (a_kept : Nat) (a_trial : Nat) (a_reader : Nat) (a_two : Nat) (a_search : Nat) (a_outs : Nat) (a_now_weights : Nat) (c_t : Nat → Int32) (c_now : Nat → Int32) (c_now_cells : Nat → Int32) (c_now_faces : Nat → Int32) (c_now_kinds : Nat → Int32) (c_now_pledges : Nat → Int32) (c_now_ponds : Nat → Int32) (c_shelves_contents : Nat → Int32) (c_shelves_elements : Nat → Int64) (c_shelves_sizes : Nat → Int32) (res : Int32 × (Nat → Int32) × (Nat → Int32)) : ∀ (n : Nat) (c_one : Nat → Int32) (c_refusals : Nat → Int32) (l1 : Int32) (l2 : Int32) (l3 : Int32) (l5 : Int32) (l6 : Int32) (ls : Array Slot) (H : Heap) (locs : List Loc), f_X5_ponds_b34 c_t c_now c_now_cells c_now_faces c_now_kinds c_now_pledges c_now_ponds c_shelves_contents c_shelves_elements c_shelves_sizes n c_one c_refusals l1 l2 l3 l5 l6 = some res → va_P E.1 vwCl (W_X5_ponds E a_t a_now a_now_cells a_now_faces a_now_kinds a_now_pledges a_now_ponds a_one a_refusals a_shelves a_shelves_contents a_shelves_elements a_shelves_sizes a_kept a_trial a_reader a_two a_search a_outs a_now_weights c_t c_now c_now_cells c_now_faces c_now_kinds c_now_pledges c_now_ponds c_one c_refusals c_shelves_contents c_shelves_elements c_shelves_sizes) H → va_D A (W_X5_ponds E a_t a_now a_now_cells a_now_faces a_now_kinds a_now_pledges a_now_ponds a_one a_refusals a_shelves a_shelves_contents a_shelves_elements a_shelves_sizes a_kept a_trial a_reader a_two a_search a_outs a_now_weights c_t c_now c_now_cells c_now_faces c_now_kinds c_now_pledges c_now_ponds c_one c_refusals c_shelves_contents c_shelves_elements c_shelves_sizes) → va_S A s.heap H locs → lv_has ls 7 [(0, .ref a_t), (1, .int l1), (2, .int l2), (3, .int l3), (5, .int l5), (6, .int l6)] → W p l e r_X5_ponds s m args below meth c H locs 0 0 (MQ below (qI E A (res.1) (W_X5_ponds E a_t a_now a_now_cells a_now_faces a_now_kinds a_now_pledges a_now_ponds a_one a_refusals a_shelves a_shelves_contents a_shelves_elements a_shelves_sizes a_kept a_trial a_reader a_two a_search a_outs a_now_weights c_t c_now c_now_cells c_now_faces c_now_kinds c_now_pledges c_now_ponds (res.2.1) (res.2.2) c_shelves_contents c_shelves_elements c_shelves_sizes)) args s 0 0 A) (F0 m 34 ls []) := by
  obtain ⟨hx, hb, hml, hr, hlk, hown, hts, hG, hA⟩ := id X
  have hK := hG.1
  have hN := hG.2.1
  intro n
  induction n with
  | zero =>
    intro c_one c_refusals l1 l2 l3 l5 l6 ls H locs h
    exact absurd (show (none : Option (Int32 × (Nat → Int32) × (Nat → Int32))) = some res from h) (by intro q; cases q)
  | succ n ih =>
    intro c_one c_refusals l1 l2 l3 l5 l6 ls H locs h hP hD hS hl
    rw [f_X5_ponds_b34] at h
    refine lv_iload hx hb dX5_ponds_34 (lv_at hl 5 rfl) ?_
    refine lv_bipush (v := (70 : Int32)) hx hb dX5_ponds_36 (by decide) ?_
    refine lv_icmp_ge (tgt := 101) hx hb dX5_ponds_38 (by decide) (fun hc38 => ?_) (fun hc38 => ?_)
    · have h := if_t h hc38
      refine lv_iload hx hb dX5_ponds_101 (lv_at hl 4 rfl) ?_
      obtain rfl := Option.some.inj h
      exact ret_i X dX5_ponds_103 hP hD hS rfl
    · have h := if_f h hc38
      refine lv_aload_n hx hb dX5_ponds_41 rfl (lv_at hl 0 rfl) ?_
      refine va_get (D := E.1) (ci := 5) (v := .ref a_now) (C := RX5) (T := TX5) (N := 11) hx hb hts iX5_ponds_X5 hown hK hP 0 rfl rfl 0 (by decide) (hts (.fieldLink RX5 10 "LeftIsAgreedOn" "now" "LLeftIsAgreedOn$Island;") (List.mem_of_getElem? (i := 1) rfl)) (fun _ h9 => h9) rfl dX5_ponds_42 ?_
      refine lv_iload hx hb dX5_ponds_45 (lv_at hl 5 rfl) ?_
      obtain ⟨v1, hv1, h⟩ := bind_of h
      refine after_i X (run_V X (c_X0_isDry l E a_now a_now_ponds a_now_kinds a_now_weights a_now_cells a_now_faces a_now_pledges l6 c_now c_now_ponds H.size v1 hv1) (cwV 1 hts gX5_ponds_X0_isDry rfl rfl rfl hV_X0_isDry ⟨(Nat.le_of_ble_eq_true rfl), (Nat.le_of_ble_eq_true rfl)⟩) hP hD hS [1, 6] rfl rfl hl.1 (ci := 0) rfl rfl rfl (rest := []) rfl rfl (Nat.le_of_ble_eq_true rfl) dX5_ponds_47) hP hD hS [1, 6] [0, 2, 3, 4, 5, 7, 8, 9, 10, 11, 12] [0, 11, 1, 2, 3, 4, 12, 5, 6, 7, 8, 9, 10] rfl rfl rfl (by decide) rfl (ws1 := (W_X5_ponds E a_t a_now a_now_cells a_now_faces a_now_kinds a_now_pledges a_now_ponds a_one a_refusals a_shelves a_shelves_contents a_shelves_elements a_shelves_sizes a_kept a_trial a_reader a_two a_search a_outs a_now_weights c_t c_now c_now_cells c_now_faces c_now_kinds c_now_pledges c_now_ponds c_one c_refusals c_shelves_contents c_shelves_elements c_shelves_sizes)) rfl (fun H locs hP hD hS => ?_)
      refine lv_if_eq (tgt := 95) hx hb dX5_ponds_50 (by decide) (fun hc50 => ?_) (fun hc50 => ?_)
      · have h := if_t h hc50
        exact w_X5_ponds_b95 X a_t a_now a_now_cells a_now_faces a_now_kinds a_now_pledges a_now_ponds a_one a_refusals a_shelves a_shelves_contents a_shelves_elements a_shelves_sizes a_kept a_trial a_reader a_two a_search a_outs a_now_weights c_t c_now c_now_cells c_now_faces c_now_kinds c_now_pledges c_now_ponds c_shelves_contents c_shelves_elements c_shelves_sizes res (f_X5_ponds_b34 c_t c_now c_now_cells c_now_faces c_now_kinds c_now_pledges c_now_ponds c_shelves_contents c_shelves_elements c_shelves_sizes n) ih c_one c_refusals l1 l2 l3 l5 l6 _ _ _ h hP hD hS (lv_sub hl [0, 1, 2, 3, 4, 5] rfl)
      · have h := if_f h hc50
        refine lv_aload_n hx hb dX5_ponds_53 rfl (lv_at hl 0 rfl) ?_
        refine va_get (D := E.1) (ci := 5) (v := .ref a_one) (C := RX5) (T := TX5) (N := 11) hx hb hts iX5_ponds_X5 hown hK hP 0 rfl rfl 5 (by decide) (hts (.fieldLink RX5 41 "LeftIsAgreedOn" "one" "LLeftIsAgreedOn$Walker;") (List.mem_of_getElem? (i := 2) rfl)) (fun _ h9 => h9) rfl dX5_ponds_54 ?_
        refine lv_iload_n hx hb dX5_ponds_57 rfl (lv_at hl 3 rfl) ?_
        obtain ⟨v2, hv2, h⟩ := bind_of h
        refine after_v X (run_V X (c_X4_begin l E a_one a_now a_now_cells a_now_faces a_now_kinds a_now_pledges a_now_ponds a_now_weights l3 c_one c_now c_now_cells c_now_faces c_now_kinds c_now_pledges H.size v2 hv2) (cwV 1 hts gX5_ponds_X4_begin rfl rfl rfl hV_X4_begin ⟨(Nat.le_of_ble_eq_true rfl), (Nat.le_of_ble_eq_true rfl)⟩) hP hD hS [7, 1, 2, 3, 4, 5] rfl rfl hl.1 (ci := 4) rfl rfl rfl (rest := []) rfl rfl (Nat.le_of_ble_eq_true rfl) dX5_ponds_58) hP hD hS [7, 1, 2, 3, 4, 5] [0, 6, 8, 9, 10, 11, 12] [0, 8, 9, 10, 11, 12, 1, 7, 2, 3, 4, 5, 6] rfl rfl rfl (by decide) rfl (ws1 := (W_X5_ponds E a_t a_now a_now_cells a_now_faces a_now_kinds a_now_pledges a_now_ponds a_one a_refusals a_shelves a_shelves_contents a_shelves_elements a_shelves_sizes a_kept a_trial a_reader a_two a_search a_outs a_now_weights c_t c_now c_now_cells c_now_faces c_now_kinds c_now_pledges c_now_ponds v2 c_refusals c_shelves_contents c_shelves_elements c_shelves_sizes)) rfl (fun H locs hP hD hS => ?_)
        refine lv_aload_n hx hb dX5_ponds_61 rfl (lv_at hl 0 rfl) ?_
        refine va_get (D := E.1) (ci := 5) (v := .ref a_one) (C := RX5) (T := TX5) (N := 11) hx hb hts iX5_ponds_X5 hown hK hP 0 rfl rfl 5 (by decide) (hts (.fieldLink RX5 41 "LeftIsAgreedOn" "one" "LLeftIsAgreedOn$Walker;") (List.mem_of_getElem? (i := 2) rfl)) (fun _ h9 => h9) rfl dX5_ponds_62 ?_
        refine lv_iload hx hb dX5_ponds_65 (lv_at hl 5 rfl) ?_
        refine va_putN (D := E.1) (ci := 4) (v := .int l6) (ty := .int) (C := RX4) (T := TX4) (N := 11) hx hb hts iX5_ponds_X4 tyX4 tyX4_ok nmX4 hown hK hP hD hS 7 rfl rfl 4 (by decide) (va_Nw.use rfl (hN.1 _ (List.mem_of_getElem? (i := 11) rfl))) (fun _ h9 => h9) rfl (tyX4_ok 4 (by decide)) rfl rfl (Nat.le_of_ble_eq_true rfl) dX5_ponds_67 (fun H locs hP hD hS => ?_)
        have hP : va_P E.1 vwCl (W_X5_ponds E a_t a_now a_now_cells a_now_faces a_now_kinds a_now_pledges a_now_ponds a_one a_refusals a_shelves a_shelves_contents a_shelves_elements a_shelves_sizes a_kept a_trial a_reader a_two a_search a_outs a_now_weights c_t c_now c_now_cells c_now_faces c_now_kinds c_now_pledges c_now_ponds (upd v2 4 l6) c_refusals c_shelves_contents c_shelves_elements c_shelves_sizes) H := hP
        have hD : va_D A (W_X5_ponds E a_t a_now a_now_cells a_now_faces a_now_kinds a_now_pledges a_now_ponds a_one a_refusals a_shelves a_shelves_contents a_shelves_elements a_shelves_sizes a_kept a_trial a_reader a_two a_search a_outs a_now_weights c_t c_now c_now_cells c_now_faces c_now_kinds c_now_pledges c_now_ponds (upd v2 4 l6) c_refusals c_shelves_contents c_shelves_elements c_shelves_sizes) := hD
        refine lv_aload_n hx hb dX5_ponds_70 rfl (lv_at hl 0 rfl) ?_
        refine lv_aload_n hx hb dX5_ponds_71 rfl (lv_at hl 0 rfl) ?_
        refine va_get (D := E.1) (ci := 5) (v := .ref a_one) (C := RX5) (T := TX5) (N := 11) hx hb hts iX5_ponds_X5 hown hK hP 0 rfl rfl 5 (by decide) (hts (.fieldLink RX5 41 "LeftIsAgreedOn" "one" "LLeftIsAgreedOn$Walker;") (List.mem_of_getElem? (i := 2) rfl)) (fun _ h9 => h9) rfl dX5_ponds_72 ?_
        refine lv_iload_n hx hb dX5_ponds_75 rfl (lv_at hl 1 rfl) ?_
        refine lv_iload_n hx hb dX5_ponds_76 rfl (lv_at hl 2 rfl) ?_
        obtain ⟨v3, hv3, h⟩ := bind_of h
        refine after_v X (run_V X (c_X5_follow l E a_t a_shelves a_shelves_elements a_one a_now a_now_ponds a_now a_kept a_trial a_reader a_one a_two a_search a_outs a_refusals a_shelves_contents a_shelves_sizes a_now_kinds a_now_weights a_now_cells a_now_faces a_now_pledges l1 l2 c_t c_shelves_elements (upd v2 4 l6) c_now c_now_ponds H.size v3 hv3) (cwV 3 hts gX5_ponds_X5_follow rfl rfl rfl hV_X5_follow ⟨(Nat.le_of_ble_eq_true rfl), (Nat.le_of_ble_eq_true rfl)⟩) hP hD hS [0, 9, 11, 7, 1, 6] rfl rfl hl.1 (ci := 5) rfl rfl rfl (rest := []) rfl rfl (Nat.le_of_ble_eq_true rfl) dX5_ponds_77) hP hD hS [0, 9, 11, 7, 1, 6] [2, 3, 4, 5, 8, 10, 12] [7, 11, 0, 1, 2, 3, 12, 10, 4, 8, 5, 9, 6] rfl rfl rfl (by decide) rfl (ws1 := (W_X5_ponds E a_t a_now a_now_cells a_now_faces a_now_kinds a_now_pledges a_now_ponds a_one a_refusals a_shelves a_shelves_contents a_shelves_elements a_shelves_sizes a_kept a_trial a_reader a_two a_search a_outs a_now_weights c_t c_now c_now_cells c_now_faces c_now_kinds c_now_pledges c_now_ponds v3 c_refusals c_shelves_contents c_shelves_elements c_shelves_sizes)) rfl (fun H locs hP hD hS => ?_)
        refine lv_iload hx hb dX5_ponds_80 (lv_at hl 4 rfl) ?_
        refine lv_aload_n hx hb dX5_ponds_82 rfl (lv_at hl 0 rfl) ?_
        refine va_get (D := E.1) (ci := 5) (v := .ref a_one) (C := RX5) (T := TX5) (N := 11) hx hb hts iX5_ponds_X5 hown hK hP 0 rfl rfl 5 (by decide) (hts (.fieldLink RX5 41 "LeftIsAgreedOn" "one" "LLeftIsAgreedOn$Walker;") (List.mem_of_getElem? (i := 2) rfl)) (fun _ h9 => h9) rfl dX5_ponds_83 ?_
        obtain ⟨v4, hv4, h⟩ := bind_of h
        refine after_i X (run_V X (c_X4_isFallen l E a_one a_now v3 H.size v4 hv4) (cwV 0 hts gX5_ponds_X4_isFallen rfl rfl rfl hV_X4_isFallen ⟨(Nat.le_of_ble_eq_true rfl), (Nat.le_of_ble_eq_true rfl)⟩) hP hD hS [7] rfl rfl hl.1 (ci := 4) rfl rfl rfl (rest := [.int l5]) rfl rfl (Nat.le_of_ble_eq_true rfl) dX5_ponds_86) hP hD hS [7] [0, 1, 2, 3, 4, 5, 6, 8, 9, 10, 11, 12] [0, 1, 2, 3, 4, 5, 6, 12, 7, 8, 9, 10, 11] rfl rfl rfl (by decide) rfl (ws1 := (W_X5_ponds E a_t a_now a_now_cells a_now_faces a_now_kinds a_now_pledges a_now_ponds a_one a_refusals a_shelves a_shelves_contents a_shelves_elements a_shelves_sizes a_kept a_trial a_reader a_two a_search a_outs a_now_weights c_t c_now c_now_cells c_now_faces c_now_kinds c_now_pledges c_now_ponds v3 c_refusals c_shelves_contents c_shelves_elements c_shelves_sizes)) rfl (fun H locs hP hD hS => ?_)
        obtain ⟨v5, hv5, h⟩ := bind_of h
        refine after_i X (run_S X (c_X5_asNumber l E v4 H.size v5 hv5) (va_cwS 1 hts gX5_ponds_X5_asNumber rfl rfl rfl hd_X5_asNumber ⟨(Nat.le_of_ble_eq_true rfl), (Nat.le_of_ble_eq_true rfl)⟩) hP hD hS [] rfl rfl hl.1 (rest := [.int l5]) rfl rfl (Nat.le_of_ble_eq_true rfl) dX5_ponds_89) hP hD hS [] [0, 1, 2, 3, 4, 5, 6, 7, 8, 9, 10, 11, 12] [0, 1, 2, 3, 4, 5, 6, 7, 8, 9, 10, 11, 12] rfl rfl rfl (by decide) rfl (ws1 := (W_X5_ponds E a_t a_now a_now_cells a_now_faces a_now_kinds a_now_pledges a_now_ponds a_one a_refusals a_shelves a_shelves_contents a_shelves_elements a_shelves_sizes a_kept a_trial a_reader a_two a_search a_outs a_now_weights c_t c_now c_now_cells c_now_faces c_now_kinds c_now_pledges c_now_ponds v3 c_refusals c_shelves_contents c_shelves_elements c_shelves_sizes)) rfl (fun H locs hP hD hS => ?_)
        refine lv_iadd hx hb dX5_ponds_92 ?_
        refine lv_istore (lv' := [(5, .int (l5 + v5)), (0, .ref a_t), (1, .int l1), (2, .int l2), (3, .int l3), (6, .int l6)]) hx hb dX5_ponds_93 hl (by decide) rfl (fun ls hl => ?_)
        exact w_X5_ponds_b95 X a_t a_now a_now_cells a_now_faces a_now_kinds a_now_pledges a_now_ponds a_one a_refusals a_shelves a_shelves_contents a_shelves_elements a_shelves_sizes a_kept a_trial a_reader a_two a_search a_outs a_now_weights c_t c_now c_now_cells c_now_faces c_now_kinds c_now_pledges c_now_ponds c_shelves_contents c_shelves_elements c_shelves_sizes res (f_X5_ponds_b34 c_t c_now c_now_cells c_now_faces c_now_kinds c_now_pledges c_now_ponds c_shelves_contents c_shelves_elements c_shelves_sizes n) ih v3 c_refusals l1 l2 l3 (l5 + v5) l6 _ _ _ h hP hD hS (lv_sub hl [1, 2, 3, 4, 0, 5] rfl)
set_option maxRecDepth 100000 in
set_option maxHeartbeats 4000000 in
theorem w_X5_ponds (X : Ctx p m meth c cX5_ponds 7 ((some .int)) s args wsX5_ponds RX5 E A) (a_t : Nat) (a_now : Nat) (a_now_cells : Nat) (a_now_faces : Nat) (a_now_kinds : Nat) (a_now_pledges : Nat) (a_now_ponds : Nat) (a_one : Nat) (a_refusals : Nat) (a_shelves : Nat) (a_shelves_contents : Nat) (a_shelves_elements : Nat) (a_shelves_sizes : Nat) (a_kept : Nat) (a_trial : Nat) (a_reader : Nat) (a_two : Nat) (a_search : Nat) (a_outs : Nat) (a_now_weights : Nat) (c_t : Nat → Int32) (c_now : Nat → Int32) (c_now_cells : Nat → Int32) (c_now_faces : Nat → Int32) (c_now_kinds : Nat → Int32) (c_now_pledges : Nat → Int32) (c_now_ponds : Nat → Int32) (c_shelves_contents : Nat → Int32) (c_shelves_elements : Nat → Int64) (c_shelves_sizes : Nat → Int32) (res : Int32 × (Nat → Int32) × (Nat → Int32)) (c_one : Nat → Int32) (c_refusals : Nat → Int32) (l1 : Int32) (l2 : Int32) (l3 : Int32) (ls : Array Slot) (H : Heap) (locs : List Loc) (h : f_X5_ponds l1 l2 l3 c_t c_now c_now_cells c_now_faces c_now_kinds c_now_pledges c_now_ponds c_one c_refusals c_shelves_contents c_shelves_elements c_shelves_sizes = some res) (hP : va_P E.1 vwCl (W_X5_ponds E a_t a_now a_now_cells a_now_faces a_now_kinds a_now_pledges a_now_ponds a_one a_refusals a_shelves a_shelves_contents a_shelves_elements a_shelves_sizes a_kept a_trial a_reader a_two a_search a_outs a_now_weights c_t c_now c_now_cells c_now_faces c_now_kinds c_now_pledges c_now_ponds c_one c_refusals c_shelves_contents c_shelves_elements c_shelves_sizes) H) (hD : va_D A (W_X5_ponds E a_t a_now a_now_cells a_now_faces a_now_kinds a_now_pledges a_now_ponds a_one a_refusals a_shelves a_shelves_contents a_shelves_elements a_shelves_sizes a_kept a_trial a_reader a_two a_search a_outs a_now_weights c_t c_now c_now_cells c_now_faces c_now_kinds c_now_pledges c_now_ponds c_one c_refusals c_shelves_contents c_shelves_elements c_shelves_sizes)) (hS : va_S A s.heap H locs) (hl : lv_has ls 7 [(0, .ref a_t), (1, .int l1), (2, .int l2), (3, .int l3)]) : W p l e r_X5_ponds s m args below meth c H locs 0 0 (MQ below (qI E A (res.1) (W_X5_ponds E a_t a_now a_now_cells a_now_faces a_now_kinds a_now_pledges a_now_ponds a_one a_refusals a_shelves a_shelves_contents a_shelves_elements a_shelves_sizes a_kept a_trial a_reader a_two a_search a_outs a_now_weights c_t c_now c_now_cells c_now_faces c_now_kinds c_now_pledges c_now_ponds (res.2.1) (res.2.2) c_shelves_contents c_shelves_elements c_shelves_sizes)) args s 0 0 A) (F0 m 0 ls []) := by
  obtain ⟨hx, hb, hml, hr, hlk, hown, hts, hG, hA⟩ := id X
  have hK := hG.1
  have hN := hG.2.1
  unfold f_X5_ponds at h
  refine lv_aload_n hx hb dX5_ponds_0 rfl (lv_at hl 0 rfl) ?_
  refine lv_iload_n hx hb dX5_ponds_1 rfl (lv_at hl 1 rfl) ?_
  refine lv_iload_n hx hb dX5_ponds_2 rfl (lv_at hl 2 rfl) ?_
  refine lv_aload_n hx hb dX5_ponds_3 rfl (lv_at hl 0 rfl) ?_
  refine va_get (D := E.1) (ci := 5) (v := .ref a_now) (C := RX5) (T := TX5) (N := 11) hx hb hts iX5_ponds_X5 hown hK hP 0 rfl rfl 0 (by decide) (hts (.fieldLink RX5 10 "LeftIsAgreedOn" "now" "LLeftIsAgreedOn$Island;") (List.mem_of_getElem? (i := 1) rfl)) (fun _ h9 => h9) rfl dX5_ponds_4 ?_
  refine lv_iload_n hx hb dX5_ponds_7 rfl (lv_at hl 3 rfl) ?_
  obtain ⟨v1, hv1, h⟩ := bind_of h
  refine after_i X (run_V X (c_X0_isOne l E a_now a_now_ponds a_now_kinds a_now_weights a_now_cells a_now_faces a_now_pledges l3 c_now H.size v1 hv1) (cwV 1 hts gX5_ponds_X0_isOne rfl rfl rfl hV_X0_isOne ⟨(Nat.le_of_ble_eq_true rfl), (Nat.le_of_ble_eq_true rfl)⟩) hP hD hS [1] rfl rfl hl.1 (ci := 0) rfl rfl rfl (rest := [.int l2, .int l1, .ref a_t]) rfl rfl (Nat.le_of_ble_eq_true rfl) dX5_ponds_8) hP hD hS [1] [0, 2, 3, 4, 5, 6, 7, 8, 9, 10, 11, 12] [0, 12, 1, 2, 3, 4, 5, 6, 7, 8, 9, 10, 11] rfl rfl rfl (by decide) rfl (ws1 := (W_X5_ponds E a_t a_now a_now_cells a_now_faces a_now_kinds a_now_pledges a_now_ponds a_one a_refusals a_shelves a_shelves_contents a_shelves_elements a_shelves_sizes a_kept a_trial a_reader a_two a_search a_outs a_now_weights c_t c_now c_now_cells c_now_faces c_now_kinds c_now_pledges c_now_ponds c_one c_refusals c_shelves_contents c_shelves_elements c_shelves_sizes)) rfl (fun H locs hP hD hS => ?_)
  obtain ⟨v2, hv2, h⟩ := bind_of h
  refine after_i X (run_V X (c_X5_tellingFault l E a_t a_shelves a_shelves_contents a_shelves_elements a_shelves_sizes a_now a_kept a_trial a_reader a_one a_two a_search a_outs a_refusals l1 l2 v1 c_t c_shelves_contents c_shelves_elements c_shelves_sizes H.size v2 hv2) (cwV 3 hts gX5_ponds_X5_tellingFault rfl rfl rfl hV_X5_tellingFault ⟨(Nat.le_of_ble_eq_true rfl), (Nat.le_of_ble_eq_true rfl)⟩) hP hD hS [0, 9, 10, 11, 12] rfl rfl hl.1 (ci := 5) rfl rfl rfl (rest := []) rfl rfl (Nat.le_of_ble_eq_true rfl) dX5_ponds_11) hP hD hS [0, 9, 10, 11, 12] [1, 2, 3, 4, 5, 6, 7, 8] [8, 0, 1, 2, 3, 4, 5, 6, 7, 9, 10, 11, 12] rfl rfl rfl (by decide) rfl (ws1 := (W_X5_ponds E a_t a_now a_now_cells a_now_faces a_now_kinds a_now_pledges a_now_ponds a_one a_refusals a_shelves a_shelves_contents a_shelves_elements a_shelves_sizes a_kept a_trial a_reader a_two a_search a_outs a_now_weights c_t c_now c_now_cells c_now_faces c_now_kinds c_now_pledges c_now_ponds c_one c_refusals c_shelves_contents c_shelves_elements c_shelves_sizes)) rfl (fun H locs hP hD hS => ?_)
  refine lv_istore (lv' := [(4, .int v2), (0, .ref a_t), (1, .int l1), (2, .int l2), (3, .int l3)]) hx hb dX5_ponds_14 hl (by decide) rfl (fun ls hl => ?_)
  refine lv_iload hx hb dX5_ponds_16 (lv_at hl 0 rfl) ?_
  refine lv_if_eq (tgt := 28) hx hb dX5_ponds_18 (by decide) (fun hc18 => ?_) (fun hc18 => ?_)
  · have h := if_t h hc18
    refine lv_iconst (v := (0 : Int32)) hx hb dX5_ponds_28 (by decide) ?_
    refine lv_istore (lv' := [(5, .int (0 : Int32)), (4, .int v2), (0, .ref a_t), (1, .int l1), (2, .int l2), (3, .int l3)]) hx hb dX5_ponds_29 hl (by decide) rfl (fun ls hl => ?_)
    refine lv_iconst (v := (0 : Int32)) hx hb dX5_ponds_31 (by decide) ?_
    refine lv_istore (lv' := [(6, .int (0 : Int32)), (5, .int (0 : Int32)), (4, .int v2), (0, .ref a_t), (1, .int l1), (2, .int l2), (3, .int l3)]) hx hb dX5_ponds_32 hl (by decide) rfl (fun ls hl => ?_)
    exact w_X5_ponds_b34 X a_t a_now a_now_cells a_now_faces a_now_kinds a_now_pledges a_now_ponds a_one a_refusals a_shelves a_shelves_contents a_shelves_elements a_shelves_sizes a_kept a_trial a_reader a_two a_search a_outs a_now_weights c_t c_now c_now_cells c_now_faces c_now_kinds c_now_pledges c_now_ponds c_shelves_contents c_shelves_elements c_shelves_sizes res FU c_one c_refusals l1 l2 l3 (0 : Int32) (0 : Int32) _ _ _ h hP hD hS (lv_sub hl [3, 4, 5, 6, 1, 0] rfl)
  · have h := if_f h hc18
    refine lv_aload_n hx hb dX5_ponds_21 rfl (lv_at hl 1 rfl) ?_
    refine lv_iload hx hb dX5_ponds_22 (lv_at hl 0 rfl) ?_
    obtain ⟨v3, hv3, h⟩ := bind_of h
    refine after_i X (run_V X (c_X5_refuse l E a_t a_refusals a_now a_kept a_trial a_reader a_shelves a_one a_two a_search a_outs v2 c_t c_refusals H.size v3 hv3) (cwV 1 hts gX5_ponds_X5_refuse rfl rfl rfl hV_X5_refuse ⟨(Nat.le_of_ble_eq_true rfl), (Nat.le_of_ble_eq_true rfl)⟩) hP hD hS [0, 8] rfl rfl hl.1 (ci := 5) rfl rfl rfl (rest := []) rfl rfl (Nat.le_of_ble_eq_true rfl) dX5_ponds_24) hP hD hS [0, 8] [1, 2, 3, 4, 5, 6, 7, 9, 10, 11, 12] [11, 0, 1, 2, 3, 4, 5, 6, 12, 7, 8, 9, 10] rfl rfl rfl (by decide) rfl (ws1 := (W_X5_ponds E a_t a_now a_now_cells a_now_faces a_now_kinds a_now_pledges a_now_ponds a_one a_refusals a_shelves a_shelves_contents a_shelves_elements a_shelves_sizes a_kept a_trial a_reader a_two a_search a_outs a_now_weights c_t c_now c_now_cells c_now_faces c_now_kinds c_now_pledges c_now_ponds c_one (v3.2) c_shelves_contents c_shelves_elements c_shelves_sizes)) rfl (fun H locs hP hD hS => ?_)
    obtain rfl := Option.some.inj h
    exact ret_i X dX5_ponds_27 hP hD hS rfl
end
set_option maxRecDepth 100000 in
theorem c_X5_ponds (l : Launch) (E : Env0) (a_t : Nat) (a_now : Nat) (a_now_cells : Nat) (a_now_faces : Nat) (a_now_kinds : Nat) (a_now_pledges : Nat) (a_now_ponds : Nat) (a_one : Nat) (a_refusals : Nat) (a_shelves : Nat) (a_shelves_contents : Nat) (a_shelves_elements : Nat) (a_shelves_sizes : Nat) (a_kept : Nat) (a_trial : Nat) (a_reader : Nat) (a_two : Nat) (a_search : Nat) (a_outs : Nat) (a_now_weights : Nat) (l1 : Int32) (l2 : Int32) (l3 : Int32) (c_t : Nat → Int32) (c_now : Nat → Int32) (c_now_cells : Nat → Int32) (c_now_faces : Nat → Int32) (c_now_kinds : Nat → Int32) (c_now_pledges : Nat → Int32) (c_now_ponds : Nat → Int32) (c_one : Nat → Int32) (c_refusals : Nat → Int32) (c_shelves_contents : Nat → Int32) (c_shelves_elements : Nat → Int64) (c_shelves_sizes : Nat → Int32) (sz : Nat) (res : Int32 × (Nat → Int32) × (Nat → Int32)) (h : f_X5_ponds l1 l2 l3 c_t c_now c_now_cells c_now_faces c_now_kinds c_now_pledges c_now_ponds c_one c_refusals c_shelves_contents c_shelves_elements c_shelves_sizes = some res) : Met l yX5_ponds wsX5_ponds r_X5_ponds (cPre E [.ref a_t, .int l1, .int l2, .int l3] (W_X5_ponds E a_t a_now a_now_cells a_now_faces a_now_kinds a_now_pledges a_now_ponds a_one a_refusals a_shelves a_shelves_contents a_shelves_elements a_shelves_sizes a_kept a_trial a_reader a_two a_search a_outs a_now_weights c_t c_now c_now_cells c_now_faces c_now_kinds c_now_pledges c_now_ponds c_one c_refusals c_shelves_contents c_shelves_elements c_shelves_sizes) sz) (qI E (va_A (W_X5_ponds E a_t a_now a_now_cells a_now_faces a_now_kinds a_now_pledges a_now_ponds a_one a_refusals a_shelves a_shelves_contents a_shelves_elements a_shelves_sizes a_kept a_trial a_reader a_two a_search a_outs a_now_weights c_t c_now c_now_cells c_now_faces c_now_kinds c_now_pledges c_now_ponds c_one c_refusals c_shelves_contents c_shelves_elements c_shelves_sizes) sz) (res.1) (W_X5_ponds E a_t a_now a_now_cells a_now_faces a_now_kinds a_now_pledges a_now_ponds a_one a_refusals a_shelves a_shelves_contents a_shelves_elements a_shelves_sizes a_kept a_trial a_reader a_two a_search a_outs a_now_weights c_t c_now c_now_cells c_now_faces c_now_kinds c_now_pledges c_now_ponds (res.2.1) (res.2.2) c_shelves_contents c_shelves_elements c_shelves_sizes)) 0 0 (va_A (W_X5_ponds E a_t a_now a_now_cells a_now_faces a_now_kinds a_now_pledges a_now_ponds a_one a_refusals a_shelves a_shelves_contents a_shelves_elements a_shelves_sizes a_kept a_trial a_reader a_two a_search a_outs a_now_weights c_t c_now c_now_cells c_now_faces c_now_kinds c_now_pledges c_now_ponds c_one c_refusals c_shelves_contents c_shelves_elements c_shelves_sizes) sz) :=
  met_of (Qc := fun A => qI E A (res.1) (W_X5_ponds E a_t a_now a_now_cells a_now_faces a_now_kinds a_now_pledges a_now_ponds a_one a_refusals a_shelves a_shelves_contents a_shelves_elements a_shelves_sizes a_kept a_trial a_reader a_two a_search a_outs a_now_weights c_t c_now c_now_cells c_now_faces c_now_kinds c_now_pledges c_now_ponds (res.2.1) (res.2.2) c_shelves_contents c_shelves_elements c_shelves_sizes)) (by decide) rfl (Nat.le_of_ble_eq_true rfl) (fun p e s m args below meth c X hP hD hS ls hl => w_X5_ponds X a_t a_now a_now_cells a_now_faces a_now_kinds a_now_pledges a_now_ponds a_one a_refusals a_shelves a_shelves_contents a_shelves_elements a_shelves_sizes a_kept a_trial a_reader a_two a_search a_outs a_now_weights c_t c_now c_now_cells c_now_faces c_now_kinds c_now_pledges c_now_ponds c_shelves_contents c_shelves_elements c_shelves_sizes res c_one c_refusals l1 l2 l3 ls _ _ h hP hD hS hl)
