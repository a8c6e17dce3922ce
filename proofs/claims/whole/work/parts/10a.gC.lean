-- ===== X1_isFull
noncomputable abbrev W_X1_isFull (E : Env0) (a_t : Nat) (a_trial : Nat) (a_bytes : Nat) (c_t : Nat → Int32) : va_W := [(a_t, .inr (1, [.ref a_trial, .ref a_bytes, .int (c_t 2), .int (c_t 3), .int (c_t 4), .int (c_t 5), .int (c_t 6)]))]
noncomputable abbrev r_X1_isFull : Room := { frames := 0, cells := 0, slots := 0, locals := 0 }
theorem hd_X1_isFull : yX1_isFull.cls ≠ "java/lang/invoke/MethodHandle" ∧ yX1_isFull.cls ≠ "java/lang/invoke/VarHandle" ∧ (parseMethodDescriptor yX1_isFull.desc).map (fun d => d.parameters.length) = some 0 := by decide +kernel
theorem hV_X1_isFull : yX1_isFull.cls = RX1 ∧ yX1_isFull.cls ≠ "java/lang/invoke/MethodHandle" ∧ yX1_isFull.cls ≠ "java/lang/invoke/VarHandle" ∧ (parseMethodDescriptor yX1_isFull.desc).map (fun d => d.parameters.length) = some 0 := ⟨rfl, hd_X1_isFull⟩
theorem iX1_isFull_X1 : ∀ w ∈ wsX10, w ∈ wsX1_isFull := fun _ h => List.mem_cons_of_mem _ (List.mem_append_right _ (h))
section
variable {p : Program} {l : Launch} {e : Env} {s : State} {m : MethodId} {args : Array Value} {below : List Frame} {meth : Method} {c : Code} {E : Env0} {A : Nat → Prop}
set_option maxRecDepth 100000 in
set_option maxHeartbeats 4000000 in
theorem w_X1_isFull (X : Ctx p m meth c cX1_isFull 1 ((some .boolean)) s args wsX1_isFull RX1 E A) (a_t : Nat) (a_trial : Nat) (a_bytes : Nat) (c_t : Nat → Int32) (res : Int32) (ls : Array Slot) (H : Heap) (locs : List Loc) (h : f_X1_isFull c_t = some res) (hP : va_P E.1 vwCl (W_X1_isFull E a_t a_trial a_bytes c_t) H) (hD : va_D A (W_X1_isFull E a_t a_trial a_bytes c_t)) (hS : va_S A s.heap H locs) (hl : lv_has ls 1 [(0, .ref a_t)]) : W p l e r_X1_isFull s m args below meth c H locs 0 0 (MQ below (qI E A res (W_X1_isFull E a_t a_trial a_bytes c_t)) args s 0 0 A) (F0 m 0 ls []) := by
  obtain ⟨hx, hb, hml, hr, hlk, hown, hts, hG, hA⟩ := id X
  have hK := hG.1
  have hN := hG.2.1
  unfold f_X1_isFull at h
  refine lv_aload_n hx hb dX1_isFull_0 rfl (lv_at hl 0 rfl) ?_
  refine va_get (D := E.1) (ci := 1) (v := .int (c_t 2)) (C := RX1) (T := TX1) (N := 7) hx hb hts iX1_isFull_X1 hown hK hP 0 rfl rfl 2 (by decide) (hts (.fieldLink RX1 15 "LeftIsAgreedOn$Reader" "size" "I") (List.mem_of_getElem? (i := 1) rfl)) (fun _ h9 => h9) rfl dX1_isFull_1 ?_
  refine lv_sipush (v := (250 : Int32)) hx hb dX1_isFull_4 (by decide) ?_
  refine lv_icmp_lt (tgt := 14) hx hb dX1_isFull_7 (by decide) (fun hc7 => ?_) (fun hc7 => ?_)
  · have h := if_t h hc7
    refine lv_iconst (v := (0 : Int32)) hx hb dX1_isFull_14 (by decide) ?_
    obtain rfl := Option.some.inj h
    exact ret_z X dX1_isFull_15 (by decide) hP hD hS rfl
  · have h := if_f h hc7
    refine lv_iconst (v := (1 : Int32)) hx hb dX1_isFull_10 (by decide) ?_
    refine lv_goto (tgt := 15) hx hb dX1_isFull_11 (by decide) ?_
    obtain rfl := Option.some.inj h
    exact ret_z X dX1_isFull_15 (by decide) hP hD hS rfl
end
set_option maxRecDepth 100000 in
theorem c_X1_isFull (l : Launch) (E : Env0) (a_t : Nat) (a_trial : Nat) (a_bytes : Nat) (c_t : Nat → Int32) (sz : Nat) (res : Int32) (h : f_X1_isFull c_t = some res) : Met l yX1_isFull wsX1_isFull r_X1_isFull (cPre E [.ref a_t] (W_X1_isFull E a_t a_trial a_bytes c_t) sz) (qI E (va_A (W_X1_isFull E a_t a_trial a_bytes c_t) sz) res (W_X1_isFull E a_t a_trial a_bytes c_t)) 0 0 (va_A (W_X1_isFull E a_t a_trial a_bytes c_t) sz) :=
  met_of (Qc := fun A => qI E A res (W_X1_isFull E a_t a_trial a_bytes c_t)) (by decide) rfl (Nat.le_of_ble_eq_true rfl) (fun p e s m args below meth c X hP hD hS ls hl => w_X1_isFull X a_t a_trial a_bytes c_t res ls _ _ h hP hD hS hl)
-- ===== X1_append
noncomputable abbrev W_X1_append (E : Env0) (a_t : Nat) (a_bytes : Nat) (a_trial : Nat) (c_t : Nat → Int32) (c_bytes : Nat → Int32) : va_W := [(a_t, .inr (1, [.ref a_trial, .ref a_bytes, .int (c_t 2), .int (c_t 3), .int (c_t 4), .int (c_t 5), .int (c_t 6)])), (a_bytes, .inl (eI E, 250, .inl c_bytes))]
noncomputable abbrev r_X1_append : Room := { frames := 1, cells := 0, slots := 0, locals := 20 }
theorem hd_X1_append : yX1_append.cls ≠ "java/lang/invoke/MethodHandle" ∧ yX1_append.cls ≠ "java/lang/invoke/VarHandle" ∧ (parseMethodDescriptor yX1_append.desc).map (fun d => d.parameters.length) = some 1 := by decide +kernel
theorem hV_X1_append : yX1_append.cls = RX1 ∧ yX1_append.cls ≠ "java/lang/invoke/MethodHandle" ∧ yX1_append.cls ≠ "java/lang/invoke/VarHandle" ∧ (parseMethodDescriptor yX1_append.desc).map (fun d => d.parameters.length) = some 1 := ⟨rfl, hd_X1_append⟩
theorem iX1_append_X1 : ∀ w ∈ wsX10, w ∈ wsX1_append := fun _ h => List.mem_cons_of_mem _ (List.mem_append_right _ (h))
section
variable {p : Program} {l : Launch} {e : Env} {s : State} {m : MethodId} {args : Array Value} {below : List Frame} {meth : Method} {c : Code} {E : Env0} {A : Nat → Prop}
set_option maxRecDepth 100000 in
set_option maxHeartbeats 4000000 in
theorem w_X1_append_b27 (X : Ctx p m meth c cX1_append 2 ((some .int)) s args wsX1_append RX1 E A) (a_t : Nat) (a_bytes : Nat) (a_trial : Nat) (res : Int32 × (Nat → Int32) × (Nat → Int32)) (c_t : Nat → Int32) (c_bytes : Nat → Int32) (ls : Array Slot) (H : Heap) (locs : List Loc) (h : f_X1_append_b27 c_t c_bytes = some res) (hP : va_P E.1 vwCl (W_X1_append E a_t a_bytes a_trial c_t c_bytes) H) (hD : va_D A (W_X1_append E a_t a_bytes a_trial c_t c_bytes)) (hS : va_S A s.heap H locs) (hl : lv_has ls 2 [(0, .ref a_t)]) : W p l e r_X1_append s m args below meth c H locs 0 0 (MQ below (qI E A (res.1) (W_X1_append E a_t a_bytes a_trial (res.2.1) (res.2.2))) args s 0 0 A) (F0 m 27 ls []) := by
  obtain ⟨hx, hb, hml, hr, hlk, hown, hts, hG, hA⟩ := id X
  have hK := hG.1
  have hN := hG.2.1
  unfold f_X1_append_b27 at h
  refine lv_aload_n hx hb dX1_append_27 rfl (lv_at hl 0 rfl) ?_
  refine va_get (D := E.1) (ci := 1) (v := .int (c_t 2)) (C := RX1) (T := TX1) (N := 7) hx hb hts iX1_append_X1 hown hK hP 0 rfl rfl 2 (by decide) (hts (.fieldLink RX1 15 "LeftIsAgreedOn$Reader" "size" "I") (List.mem_of_getElem? (i := 2) rfl)) (fun _ h9 => h9) rfl dX1_append_28 ?_
  obtain rfl := Option.some.inj h
  exact ret_i X dX1_append_31 hP hD hS rfl
set_option maxRecDepth 100000 in
set_option maxHeartbeats 4000000 in
theorem w_X1_append (X : Ctx p m meth c cX1_append 2 ((some .int)) s args wsX1_append RX1 E A) (a_t : Nat) (a_bytes : Nat) (a_trial : Nat) (res : Int32 × (Nat → Int32) × (Nat → Int32)) (c_t : Nat → Int32) (c_bytes : Nat → Int32) (l1 : Int32) (ls : Array Slot) (H : Heap) (locs : List Loc) (h : f_X1_append l1 c_t c_bytes = some res) (hP : va_P E.1 vwCl (W_X1_append E a_t a_bytes a_trial c_t c_bytes) H) (hD : va_D A (W_X1_append E a_t a_bytes a_trial c_t c_bytes)) (hS : va_S A s.heap H locs) (hl : lv_has ls 2 [(0, .ref a_t), (1, .int l1)]) : W p l e r_X1_append s m args below meth c H locs 0 0 (MQ below (qI E A (res.1) (W_X1_append E a_t a_bytes a_trial (res.2.1) (res.2.2))) args s 0 0 A) (F0 m 0 ls []) := by
  obtain ⟨hx, hb, hml, hr, hlk, hown, hts, hG, hA⟩ := id X
  have hK := hG.1
  have hN := hG.2.1
  unfold f_X1_append at h
  refine lv_aload_n hx hb dX1_append_0 rfl (lv_at hl 0 rfl) ?_
  obtain ⟨v1, hv1, h⟩ := bind_of h
  refine after_i X (run_V X (c_X1_isFull l E a_t a_trial a_bytes c_t H.size v1 hv1) (cwV 0 hts gX1_append_X1_isFull rfl rfl rfl hV_X1_isFull ⟨(Nat.le_of_ble_eq_true rfl), (Nat.le_of_ble_eq_true rfl)⟩) hP hD hS [0] rfl rfl hl.1 (ci := 1) rfl rfl rfl (rest := []) rfl rfl (Nat.le_of_ble_eq_true rfl) dX1_append_1) hP hD hS [0] rfl (ws1 := (W_X1_append E a_t a_bytes a_trial c_t c_bytes)) rfl (fun H locs hP hD hS => ?_)
  refine lv_if_ne (tgt := 27) hx hb dX1_append_4 (by decide) (fun hc4 => ?_) (fun hc4 => ?_)
  · have h := if_f h hc4
    exact w_X1_append_b27 X a_t a_bytes a_trial res c_t c_bytes _ _ _ h hP hD hS (lv_sub hl [0] rfl)
  · have h := if_t h hc4
    refine lv_aload_n hx hb dX1_append_7 rfl (lv_at hl 0 rfl) ?_
    refine va_get (D := E.1) (ci := 1) (v := .ref a_bytes) (C := RX1) (T := TX1) (N := 7) hx hb hts iX1_append_X1 hown hK hP 0 rfl rfl 1 (by decide) (hts (.fieldLink RX1 11 "LeftIsAgreedOn$Reader" "bytes" "[I") (List.mem_of_getElem? (i := 1) rfl)) (fun _ h9 => h9) rfl dX1_append_8 ?_
    refine lv_aload_n hx hb dX1_append_11 rfl (lv_at hl 0 rfl) ?_
    refine va_get (D := E.1) (ci := 1) (v := .int (c_t 2)) (C := RX1) (T := TX1) (N := 7) hx hb hts iX1_append_X1 hown hK hP 0 rfl rfl 2 (by decide) (hts (.fieldLink RX1 15 "LeftIsAgreedOn$Reader" "size" "I") (List.mem_of_getElem? (i := 2) rfl)) (fun _ h9 => h9) rfl dX1_append_12 ?_
    refine lv_iload_n hx hb dX1_append_15 rfl (lv_at hl 1 rfl) ?_
    obtain ⟨hz16, h⟩ := chk_of h
    refine st_i X hP hD hS 1 rfl (inb.vp hz16) (k := ((c_t 2)).toNatClampNeg) rfl (ws1 := (W_X1_append E a_t a_bytes a_trial c_t (upd c_bytes (((c_t 2)).toNatClampNeg) l1))) rfl dX1_append_16 (fun H locs hP hD hS => ?_)
    refine lv_aload_n hx hb dX1_append_17 rfl (lv_at hl 0 rfl) ?_
    refine lv_dup hx hb dX1_append_18 rfl ?_
    refine va_get (D := E.1) (ci := 1) (v := .int (c_t 2)) (C := RX1) (T := TX1) (N := 7) hx hb hts iX1_append_X1 hown hK hP 0 rfl rfl 2 (by decide) (hts (.fieldLink RX1 15 "LeftIsAgreedOn$Reader" "size" "I") (List.mem_of_getElem? (i := 2) rfl)) (fun _ h9 => h9) rfl dX1_append_19 ?_
    refine lv_iconst (v := (1 : Int32)) hx hb dX1_append_22 (by decide) ?_
    refine lv_iadd hx hb dX1_append_23 ?_
    refine va_put (D := E.1) (ci := 1) (v := .int ((c_t 2) + (1 : Int32))) (ty := .int) (C := RX1) (T := TX1) (N := 7) hx hb hts iX1_append_X1 tyX1 tyX1_ok nmX1 hown hK hP hD hS 0 rfl rfl 2 (by decide) (hts (.fieldLink RX1 15 "LeftIsAgreedOn$Reader" "size" "I") (List.mem_of_getElem? (i := 2) rfl)) (fun _ h9 => h9) rfl (tyX1_ok 2 (by decide)) rfl rfl (Nat.le_of_ble_eq_true rfl) dX1_append_24 (fun H locs hP hD hS => ?_)
    have hP : va_P E.1 vwCl (W_X1_append E a_t a_bytes a_trial (upd c_t 2 ((c_t 2) + (1 : Int32))) (upd c_bytes (((c_t 2)).toNatClampNeg) l1)) H := hP
    have hD : va_D A (W_X1_append E a_t a_bytes a_trial (upd c_t 2 ((c_t 2) + (1 : Int32))) (upd c_bytes (((c_t 2)).toNatClampNeg) l1)) := hD
    exact w_X1_append_b27 X a_t a_bytes a_trial res (upd c_t 2 ((c_t 2) + (1 : Int32))) (upd c_bytes (((c_t 2)).toNatClampNeg) l1) _ _ _ h hP hD hS (lv_sub hl [0] rfl)
end
set_option maxRecDepth 100000 in
theorem c_X1_append (l : Launch) (E : Env0) (a_t : Nat) (a_bytes : Nat) (a_trial : Nat) (l1 : Int32) (c_t : Nat → Int32) (c_bytes : Nat → Int32) (sz : Nat) (res : Int32 × (Nat → Int32) × (Nat → Int32)) (h : f_X1_append l1 c_t c_bytes = some res) : Met l yX1_append wsX1_append r_X1_append (cPre E [.ref a_t, .int l1] (W_X1_append E a_t a_bytes a_trial c_t c_bytes) sz) (qI E (va_A (W_X1_append E a_t a_bytes a_trial c_t c_bytes) sz) (res.1) (W_X1_append E a_t a_bytes a_trial (res.2.1) (res.2.2))) 0 0 (va_A (W_X1_append E a_t a_bytes a_trial c_t c_bytes) sz) :=
  met_of (Qc := fun A => qI E A (res.1) (W_X1_append E a_t a_bytes a_trial (res.2.1) (res.2.2))) (by decide) rfl (Nat.le_of_ble_eq_true rfl) (fun p e s m args below meth c X hP hD hS ls hl => w_X1_append X a_t a_bytes a_trial res c_t c_bytes l1 ls _ _ h hP hD hS hl)
-- ===== X1_clear
noncomputable abbrev W_X1_clear (E : Env0) (a_t : Nat) (a_trial : Nat) (a_bytes : Nat) (c_t : Nat → Int32) : va_W := [(a_t, .inr (1, [.ref a_trial, .ref a_bytes, .int (c_t 2), .int (c_t 3), .int (c_t 4), .int (c_t 5), .int (c_t 6)]))]
noncomputable abbrev r_X1_clear : Room := { frames := 0, cells := 0, slots := 0, locals := 0 }
theorem hd_X1_clear : yX1_clear.cls ≠ "java/lang/invoke/MethodHandle" ∧ yX1_clear.cls ≠ "java/lang/invoke/VarHandle" ∧ (parseMethodDescriptor yX1_clear.desc).map (fun d => d.parameters.length) = some 0 := by decide +kernel
theorem hV_X1_clear : yX1_clear.cls = RX1 ∧ yX1_clear.cls ≠ "java/lang/invoke/MethodHandle" ∧ yX1_clear.cls ≠ "java/lang/invoke/VarHandle" ∧ (parseMethodDescriptor yX1_clear.desc).map (fun d => d.parameters.length) = some 0 := ⟨rfl, hd_X1_clear⟩
theorem iX1_clear_X1 : ∀ w ∈ wsX10, w ∈ wsX1_clear := fun _ h => List.mem_cons_of_mem _ (List.mem_append_right _ (h))
section
variable {p : Program} {l : Launch} {e : Env} {s : State} {m : MethodId} {args : Array Value} {below : List Frame} {meth : Method} {c : Code} {E : Env0} {A : Nat → Prop}
set_option maxRecDepth 100000 in
set_option maxHeartbeats 4000000 in
theorem w_X1_clear (X : Ctx p m meth c cX1_clear 2 ((some .int)) s args wsX1_clear RX1 E A) (a_t : Nat) (a_trial : Nat) (a_bytes : Nat) (res : Int32 × (Nat → Int32)) (c_t : Nat → Int32) (ls : Array Slot) (H : Heap) (locs : List Loc) (h : f_X1_clear c_t = some res) (hP : va_P E.1 vwCl (W_X1_clear E a_t a_trial a_bytes c_t) H) (hD : va_D A (W_X1_clear E a_t a_trial a_bytes c_t)) (hS : va_S A s.heap H locs) (hl : lv_has ls 2 [(0, .ref a_t)]) : W p l e r_X1_clear s m args below meth c H locs 0 0 (MQ below (qI E A (res.1) (W_X1_clear E a_t a_trial a_bytes (res.2))) args s 0 0 A) (F0 m 0 ls []) := by
  obtain ⟨hx, hb, hml, hr, hlk, hown, hts, hG, hA⟩ := id X
  have hK := hG.1
  have hN := hG.2.1
  unfold f_X1_clear at h
  refine lv_aload_n hx hb dX1_clear_0 rfl (lv_at hl 0 rfl) ?_
  refine va_get (D := E.1) (ci := 1) (v := .int (c_t 2)) (C := RX1) (T := TX1) (N := 7) hx hb hts iX1_clear_X1 hown hK hP 0 rfl rfl 2 (by decide) (hts (.fieldLink RX1 15 "LeftIsAgreedOn$Reader" "size" "I") (List.mem_of_getElem? (i := 1) rfl)) (fun _ h9 => h9) rfl dX1_clear_1 ?_
  refine lv_istore_n (lv' := [(1, .int (c_t 2)), (0, .ref a_t)]) hx hb dX1_clear_4 rfl hl (by decide) rfl (fun ls hl => ?_)
  refine lv_aload_n hx hb dX1_clear_5 rfl (lv_at hl 1 rfl) ?_
  refine lv_iconst (v := (0 : Int32)) hx hb dX1_clear_6 (by decide) ?_
  refine va_put (D := E.1) (ci := 1) (v := .int (0 : Int32)) (ty := .int) (C := RX1) (T := TX1) (N := 7) hx hb hts iX1_clear_X1 tyX1 tyX1_ok nmX1 hown hK hP hD hS 0 rfl rfl 2 (by decide) (hts (.fieldLink RX1 15 "LeftIsAgreedOn$Reader" "size" "I") (List.mem_of_getElem? (i := 1) rfl)) (fun _ h9 => h9) rfl (tyX1_ok 2 (by decide)) rfl rfl (Nat.le_of_ble_eq_true rfl) dX1_clear_7 (fun H locs hP hD hS => ?_)
  have hP : va_P E.1 vwCl (W_X1_clear E a_t a_trial a_bytes (upd c_t 2 (0 : Int32))) H := hP
  have hD : va_D A (W_X1_clear E a_t a_trial a_bytes (upd c_t 2 (0 : Int32))) := hD
  refine lv_iload_n hx hb dX1_clear_10 rfl (lv_at hl 0 rfl) ?_
  obtain rfl := Option.some.inj h
  exact ret_i X dX1_clear_11 hP hD hS rfl
end
set_option maxRecDepth 100000 in
theorem c_X1_clear (l : Launch) (E : Env0) (a_t : Nat) (a_trial : Nat) (a_bytes : Nat) (c_t : Nat → Int32) (sz : Nat) (res : Int32 × (Nat → Int32)) (h : f_X1_clear c_t = some res) : Met l yX1_clear wsX1_clear r_X1_clear (cPre E [.ref a_t] (W_X1_clear E a_t a_trial a_bytes c_t) sz) (qI E (va_A (W_X1_clear E a_t a_trial a_bytes c_t) sz) (res.1) (W_X1_clear E a_t a_trial a_bytes (res.2))) 0 0 (va_A (W_X1_clear E a_t a_trial a_bytes c_t) sz) :=
  met_of (Qc := fun A => qI E A (res.1) (W_X1_clear E a_t a_trial a_bytes (res.2))) (by decide) rfl (Nat.le_of_ble_eq_true rfl) (fun p e s m args below meth c X hP hD hS ls hl => w_X1_clear X a_t a_trial a_bytes res c_t ls _ _ h hP hD hS hl)
-- ===== X1_passAll
noncomputable abbrev W_X1_passAll (E : Env0) (a_t : Nat) (a_bytes : Nat) (a_trial : Nat) (c_t : Nat → Int32) (c_bytes : Nat → Int32) : va_W := [(a_t, .inr (1, [.ref a_trial, .ref a_bytes, .int (c_t 2), .int (c_t 3), .int (c_t 4), .int (c_t 5), .int (c_t 6)])), (a_bytes, .inl (eI E, 250, .inl c_bytes))]
noncomputable abbrev r_X1_passAll : Room := { frames := 0, cells := 0, slots := 0, locals := 0 }
theorem hd_X1_passAll : yX1_passAll.cls ≠ "java/lang/invoke/MethodHandle" ∧ yX1_passAll.cls ≠ "java/lang/invoke/VarHandle" ∧ (parseMethodDescriptor yX1_passAll.desc).map (fun d => d.parameters.length) = some 2 := by decide +kernel
theorem hV_X1_passAll : yX1_passAll.cls = RX1 ∧ yX1_passAll.cls ≠ "java/lang/invoke/MethodHandle" ∧ yX1_passAll.cls ≠ "java/lang/invoke/VarHandle" ∧ (parseMethodDescriptor yX1_passAll.desc).map (fun d => d.parameters.length) = some 2 := ⟨rfl, hd_X1_passAll⟩
theorem iX1_passAll_X1 : ∀ w ∈ wsX10, w ∈ wsX1_passAll := fun _ h => List.mem_cons_of_mem _ (List.mem_append_right _ (h))
section
variable {p : Program} {l : Launch} {e : Env} {s : State} {m : MethodId} {args : Array Value} {below : List Frame} {meth : Method} {c : Code} {E : Env0} {A : Nat → Prop}
set_option maxRecDepth 100000 in
set_option maxHeartbeats 4000000 in
theorem w_X1_passAll_b0 (X : Ctx p m meth c cX1_passAll 3 none s args wsX1_passAll RX1 E A) (a_t : Nat) (a_bytes : Nat) (a_trial : Nat) (c_bytes : Nat → Int32) (res : (Nat → Int32)) : ∀ (n : Nat) (c_t : Nat → Int32) (l1 : Int32) (l2 : Int32) (ls : Array Slot) (H : Heap) (locs : List Loc), f_X1_passAll_b0 c_bytes n c_t l1 l2 = some res → va_P E.1 vwCl (W_X1_passAll E a_t a_bytes a_trial c_t c_bytes) H → va_D A (W_X1_passAll E a_t a_bytes a_trial c_t c_bytes) → va_S A s.heap H locs → lv_has ls 3 [(0, .ref a_t), (1, .int l1), (2, .int l2)] → W p l e r_X1_passAll s m args below meth c H locs 0 0 (MQ below (qV E A (W_X1_passAll E a_t a_bytes a_trial res c_bytes)) args s 0 0 A) (F0 m 0 ls []) := by
  obtain ⟨hx, hb, hml, hr, hlk, hown, hts, hG, hA⟩ := id X
  have hK := hG.1
  have hN := hG.2.1
  intro n
  induction n with
  | zero =>
    intro c_t l1 l2 ls H locs h
    exact absurd (show (none : Option ((Nat → Int32))) = some res from h) (by intro q; cases q)
  | succ n ih =>
    intro c_t l1 l2 ls H locs h hP hD hS hl
    rw [f_X1_passAll_b0] at h
    refine lv_aload_n hx hb dX1_passAll_0 rfl (lv_at hl 0 rfl) ?_
    refine va_get (D := E.1) (ci := 1) (v := .int (c_t 3)) (C := RX1) (T := TX1) (N := 7) hx hb hts iX1_passAll_X1 hown hK hP 0 rfl rfl 3 (by decide) (hts (.fieldLink RX1 19 "LeftIsAgreedOn$Reader" "at" "I") (List.mem_of_getElem? (i := 1) rfl)) (fun _ h9 => h9) rfl dX1_passAll_1 ?_
    refine lv_aload_n hx hb dX1_passAll_4 rfl (lv_at hl 0 rfl) ?_
    refine va_get (D := E.1) (ci := 1) (v := .int (c_t 2)) (C := RX1) (T := TX1) (N := 7) hx hb hts iX1_passAll_X1 hown hK hP 0 rfl rfl 2 (by decide) (hts (.fieldLink RX1 15 "LeftIsAgreedOn$Reader" "size" "I") (List.mem_of_getElem? (i := 2) rfl)) (fun _ h9 => h9) rfl dX1_passAll_5 ?_
    refine lv_icmp_ge (tgt := 50) hx hb dX1_passAll_8 (by decide) (fun hc8 => ?_) (fun hc8 => ?_)
    · have h := if_t h hc8
      obtain rfl := Option.some.inj h
      exact ret_v X dX1_passAll_50 hP hD hS
    · have h := if_f h hc8
      refine lv_aload_n hx hb dX1_passAll_11 rfl (lv_at hl 0 rfl) ?_
      refine va_get (D := E.1) (ci := 1) (v := .ref a_bytes) (C := RX1) (T := TX1) (N := 7) hx hb hts iX1_passAll_X1 hown hK hP 0 rfl rfl 1 (by decide) (hts (.fieldLink RX1 11 "LeftIsAgreedOn$Reader" "bytes" "[I") (List.mem_of_getElem? (i := 3) rfl)) (fun _ h9 => h9) rfl dX1_passAll_12 ?_
      refine lv_aload_n hx hb dX1_passAll_15 rfl (lv_at hl 0 rfl) ?_
      refine va_get (D := E.1) (ci := 1) (v := .int (c_t 3)) (C := RX1) (T := TX1) (N := 7) hx hb hts iX1_passAll_X1 hown hK hP 0 rfl rfl 3 (by decide) (hts (.fieldLink RX1 19 "LeftIsAgreedOn$Reader" "at" "I") (List.mem_of_getElem? (i := 1) rfl)) (fun _ h9 => h9) rfl dX1_passAll_16 ?_
      obtain ⟨hz19, h⟩ := chk_of h
      refine ld_i X hP 1 rfl (inb.vp hz19) (v := (c_bytes ((c_t 3)).toNatClampNeg)) rfl dX1_passAll_19 ?_
      refine lv_iload_n hx hb dX1_passAll_20 rfl (lv_at hl 1 rfl) ?_
      refine lv_icmp_lt (tgt := 50) hx hb dX1_passAll_21 (by decide) (fun hc21 => ?_) (fun hc21 => ?_)
      · have h := if_t h hc21
        obtain rfl := Option.some.inj h
        exact ret_v X dX1_passAll_50 hP hD hS
      · have h := if_f h hc21
        refine lv_aload_n hx hb dX1_passAll_24 rfl (lv_at hl 0 rfl) ?_
        refine va_get (D := E.1) (ci := 1) (v := .ref a_bytes) (C := RX1) (T := TX1) (N := 7) hx hb hts iX1_passAll_X1 hown hK hP 0 rfl rfl 1 (by decide) (hts (.fieldLink RX1 11 "LeftIsAgreedOn$Reader" "bytes" "[I") (List.mem_of_getElem? (i := 3) rfl)) (fun _ h9 => h9) rfl dX1_passAll_25 ?_
        refine lv_aload_n hx hb dX1_passAll_28 rfl (lv_at hl 0 rfl) ?_
        refine va_get (D := E.1) (ci := 1) (v := .int (c_t 3)) (C := RX1) (T := TX1) (N := 7) hx hb hts iX1_passAll_X1 hown hK hP 0 rfl rfl 3 (by decide) (hts (.fieldLink RX1 19 "LeftIsAgreedOn$Reader" "at" "I") (List.mem_of_getElem? (i := 1) rfl)) (fun _ h9 => h9) rfl dX1_passAll_29 ?_
        obtain ⟨hz32, h⟩ := chk_of h
        refine ld_i X hP 1 rfl (inb.vp hz32) (v := (c_bytes ((c_t 3)).toNatClampNeg)) rfl dX1_passAll_32 ?_
        refine lv_iload_n hx hb dX1_passAll_33 rfl (lv_at hl 2 rfl) ?_
        refine lv_icmp_gt (tgt := 50) hx hb dX1_passAll_34 (by decide) (fun hc34 => ?_) (fun hc34 => ?_)
        · have h := if_t h hc34
          obtain rfl := Option.some.inj h
          exact ret_v X dX1_passAll_50 hP hD hS
        · have h := if_f h hc34
          refine lv_aload_n hx hb dX1_passAll_37 rfl (lv_at hl 0 rfl) ?_
          refine lv_dup hx hb dX1_passAll_38 rfl ?_
          refine va_get (D := E.1) (ci := 1) (v := .int (c_t 3)) (C := RX1) (T := TX1) (N := 7) hx hb hts iX1_passAll_X1 hown hK hP 0 rfl rfl 3 (by decide) (hts (.fieldLink RX1 19 "LeftIsAgreedOn$Reader" "at" "I") (List.mem_of_getElem? (i := 1) rfl)) (fun _ h9 => h9) rfl dX1_passAll_39 ?_
          refine lv_iconst (v := (1 : Int32)) hx hb dX1_passAll_42 (by decide) ?_
          refine lv_iadd hx hb dX1_passAll_43 ?_
          refine va_put (D := E.1) (ci := 1) (v := .int ((c_t 3) + (1 : Int32))) (ty := .int) (C := RX1) (T := TX1) (N := 7) hx hb hts iX1_passAll_X1 tyX1 tyX1_ok nmX1 hown hK hP hD hS 0 rfl rfl 3 (by decide) (hts (.fieldLink RX1 19 "LeftIsAgreedOn$Reader" "at" "I") (List.mem_of_getElem? (i := 1) rfl)) (fun _ h9 => h9) rfl (tyX1_ok 3 (by decide)) rfl rfl (Nat.le_of_ble_eq_true rfl) dX1_passAll_44 (fun H locs hP hD hS => ?_)
          have hP : va_P E.1 vwCl (W_X1_passAll E a_t a_bytes a_trial (upd c_t 3 ((c_t 3) + (1 : Int32))) c_bytes) H := hP
          have hD : va_D A (W_X1_passAll E a_t a_bytes a_trial (upd c_t 3 ((c_t 3) + (1 : Int32))) c_bytes) := hD
          refine lv_goto (tgt := 0) hx hb dX1_passAll_47 (by decide) ?_
          exact ih (upd c_t 3 ((c_t 3) + (1 : Int32))) l1 l2 _ _ _ h hP hD hS (lv_sub hl [0, 1, 2] rfl)
set_option maxRecDepth 100000 in
set_option maxHeartbeats 4000000 in
theorem w_X1_passAll (X : Ctx p m meth c cX1_passAll 3 none s args wsX1_passAll RX1 E A) (a_t : Nat) (a_bytes : Nat) (a_trial : Nat) (c_bytes : Nat → Int32) (res : (Nat → Int32)) (c_t : Nat → Int32) (l1 : Int32) (l2 : Int32) (ls : Array Slot) (H : Heap) (locs : List Loc) (h : f_X1_passAll l1 l2 c_t c_bytes = some res) (hP : va_P E.1 vwCl (W_X1_passAll E a_t a_bytes a_trial c_t c_bytes) H) (hD : va_D A (W_X1_passAll E a_t a_bytes a_trial c_t c_bytes)) (hS : va_S A s.heap H locs) (hl : lv_has ls 3 [(0, .ref a_t), (1, .int l1), (2, .int l2)]) : W p l e r_X1_passAll s m args below meth c H locs 0 0 (MQ below (qV E A (W_X1_passAll E a_t a_bytes a_trial res c_bytes)) args s 0 0 A) (F0 m 0 ls []) := by
  obtain ⟨hx, hb, hml, hr, hlk, hown, hts, hG, hA⟩ := id X
  have hK := hG.1
  have hN := hG.2.1
  unfold f_X1_passAll at h
  exact w_X1_passAll_b0 X a_t a_bytes a_trial c_bytes res FU c_t l1 l2 _ _ _ h hP hD hS (lv_sub hl [0, 1, 2] rfl)
end
set_option maxRecDepth 100000 in
theorem c_X1_passAll (l : Launch) (E : Env0) (a_t : Nat) (a_bytes : Nat) (a_trial : Nat) (l1 : Int32) (l2 : Int32) (c_t : Nat → Int32) (c_bytes : Nat → Int32) (sz : Nat) (res : (Nat → Int32)) (h : f_X1_passAll l1 l2 c_t c_bytes = some res) : Met l yX1_passAll wsX1_passAll r_X1_passAll (cPre E [.ref a_t, .int l1, .int l2] (W_X1_passAll E a_t a_bytes a_trial c_t c_bytes) sz) (qV E (va_A (W_X1_passAll E a_t a_bytes a_trial c_t c_bytes) sz) (W_X1_passAll E a_t a_bytes a_trial res c_bytes)) 0 0 (va_A (W_X1_passAll E a_t a_bytes a_trial c_t c_bytes) sz) :=
  met_of (Qc := fun A => qV E A (W_X1_passAll E a_t a_bytes a_trial res c_bytes)) (by decide) rfl (Nat.le_of_ble_eq_true rfl) (fun p e s m args below meth c X hP hD hS ls hl => w_X1_passAll X a_t a_bytes a_trial c_bytes res c_t l1 l2 ls _ _ h hP hD hS hl)
-- ===== X1_numberPassed
noncomputable abbrev W_X1_numberPassed (E : Env0) (a_t : Nat) (a_bytes : Nat) (a_trial : Nat) (c_t : Nat → Int32) (c_bytes : Nat → Int32) : va_W := [(a_t, .inr (1, [.ref a_trial, .ref a_bytes, .int (c_t 2), .int (c_t 3), .int (c_t 4), .int (c_t 5), .int (c_t 6)])), (a_bytes, .inl (eI E, 250, .inl c_bytes))]
noncomputable abbrev r_X1_numberPassed : Room := { frames := 0, cells := 0, slots := 0, locals := 0 }
theorem hd_X1_numberPassed : yX1_numberPassed.cls ≠ "java/lang/invoke/MethodHandle" ∧ yX1_numberPassed.cls ≠ "java/lang/invoke/VarHandle" ∧ (parseMethodDescriptor yX1_numberPassed.desc).map (fun d => d.parameters.length) = some 0 := by decide +kernel
theorem hV_X1_numberPassed : yX1_numberPassed.cls = RX1 ∧ yX1_numberPassed.cls ≠ "java/lang/invoke/MethodHandle" ∧ yX1_numberPassed.cls ≠ "java/lang/invoke/VarHandle" ∧ (parseMethodDescriptor yX1_numberPassed.desc).map (fun d => d.parameters.length) = some 0 := ⟨rfl, hd_X1_numberPassed⟩
theorem iX1_numberPassed_X1 : ∀ w ∈ wsX10, w ∈ wsX1_numberPassed := fun _ h => List.mem_cons_of_mem _ (List.mem_append_right _ (h))
section
variable {p : Program} {l : Launch} {e : Env} {s : State} {m : MethodId} {args : Array Value} {below : List Frame} {meth : Method} {c : Code} {E : Env0} {A : Nat → Prop}
set_option maxRecDepth 100000 in
set_option maxHeartbeats 4000000 in
theorem w_X1_numberPassed_b23 (X : Ctx p m meth c cX1_numberPassed 3 ((some .int)) s args wsX1_numberPassed RX1 E A) (a_t : Nat) (a_bytes : Nat) (a_trial : Nat) (c_t : Nat → Int32) (c_bytes : Nat → Int32) (res : Int32) : ∀ (n : Nat) (l1 : Int32) (l2 : Int32) (ls : Array Slot) (H : Heap) (locs : List Loc), f_X1_numberPassed_b23 c_t c_bytes n l1 l2 = some res → va_P E.1 vwCl (W_X1_numberPassed E a_t a_bytes a_trial c_t c_bytes) H → va_D A (W_X1_numberPassed E a_t a_bytes a_trial c_t c_bytes) → va_S A s.heap H locs → lv_has ls 3 [(0, .ref a_t), (1, .int l1), (2, .int l2)] → W p l e r_X1_numberPassed s m args below meth c H locs 0 0 (MQ below (qI E A res (W_X1_numberPassed E a_t a_bytes a_trial c_t c_bytes)) args s 0 0 A) (F0 m 23 ls []) := by
  obtain ⟨hx, hb, hml, hr, hlk, hown, hts, hG, hA⟩ := id X
  have hK := hG.1
  have hN := hG.2.1
  intro n
  induction n with
  | zero =>
    intro l1 l2 ls H locs h
    exact absurd (show (none : Option (Int32)) = some res from h) (by intro q; cases q)
  | succ n ih =>
    intro l1 l2 ls H locs h hP hD hS hl
    rw [f_X1_numberPassed_b23] at h
    refine lv_iload_n hx hb dX1_numberPassed_23 rfl (lv_at hl 2 rfl) ?_
    refine lv_aload_n hx hb dX1_numberPassed_24 rfl (lv_at hl 0 rfl) ?_
    refine va_get (D := E.1) (ci := 1) (v := .int (c_t 3)) (C := RX1) (T := TX1) (N := 7) hx hb hts iX1_numberPassed_X1 hown hK hP 0 rfl rfl 3 (by decide) (hts (.fieldLink RX1 19 "LeftIsAgreedOn$Reader" "at" "I") (List.mem_of_getElem? (i := 1) rfl)) (fun _ h9 => h9) rfl dX1_numberPassed_25 ?_
    refine lv_icmp_ge (tgt := 52) hx hb dX1_numberPassed_28 (by decide) (fun hc28 => ?_) (fun hc28 => ?_)
    · have h := if_t h hc28
      refine lv_iload_n hx hb dX1_numberPassed_52 rfl (lv_at hl 1 rfl) ?_
      obtain rfl := Option.some.inj h
      exact ret_i X dX1_numberPassed_53 hP hD hS rfl
    · have h := if_f h hc28
      refine lv_bipush (v := (10 : Int32)) hx hb dX1_numberPassed_31 (by decide) ?_
      refine lv_iload_n hx hb dX1_numberPassed_33 rfl (lv_at hl 1 rfl) ?_
      refine lv_imul hx hb dX1_numberPassed_34 ?_
      refine lv_aload_n hx hb dX1_numberPassed_35 rfl (lv_at hl 0 rfl) ?_
      refine va_get (D := E.1) (ci := 1) (v := .ref a_bytes) (C := RX1) (T := TX1) (N := 7) hx hb hts iX1_numberPassed_X1 hown hK hP 0 rfl rfl 1 (by decide) (hts (.fieldLink RX1 11 "LeftIsAgreedOn$Reader" "bytes" "[I") (List.mem_of_getElem? (i := 3) rfl)) (fun _ h9 => h9) rfl dX1_numberPassed_36 ?_
      refine lv_iload_n hx hb dX1_numberPassed_39 rfl (lv_at hl 2 rfl) ?_
      obtain ⟨hz40, h⟩ := chk_of h
      refine ld_i X hP 1 rfl (inb.vp hz40) (v := (c_bytes (l2).toNatClampNeg)) rfl dX1_numberPassed_40 ?_
      refine lv_iadd hx hb dX1_numberPassed_41 ?_
      refine lv_bipush (v := (48 : Int32)) hx hb dX1_numberPassed_42 (by decide) ?_
      refine lv_isub hx hb dX1_numberPassed_44 ?_
      refine lv_istore_n (lv' := [(1, .int ((((10 : Int32) * l1) + (c_bytes (l2).toNatClampNeg)) - (48 : Int32))), (0, .ref a_t), (2, .int l2)]) hx hb dX1_numberPassed_45 rfl hl (by decide) rfl (fun ls hl => ?_)
      refine lv_iinc (v := (l2 + (1 : Int32))) (lv' := [(2, .int (l2 + (1 : Int32))), (1, .int ((((10 : Int32) * l1) + (c_bytes (l2).toNatClampNeg)) - (48 : Int32))), (0, .ref a_t)]) hx hb dX1_numberPassed_46 hl (k := 2) rfl rfl (by decide) rfl (fun ls hl => ?_)
      refine lv_goto (tgt := 23) hx hb dX1_numberPassed_49 (by decide) ?_
      exact ih ((((10 : Int32) * l1) + (c_bytes (l2).toNatClampNeg)) - (48 : Int32)) (l2 + (1 : Int32)) _ _ _ h hP hD hS (lv_sub hl [2, 1, 0] rfl)
set_option maxRecDepth 100000 in
set_option maxHeartbeats 4000000 in
theorem w_X1_numberPassed (X : Ctx p m meth c cX1_numberPassed 3 ((some .int)) s args wsX1_numberPassed RX1 E A) (a_t : Nat) (a_bytes : Nat) (a_trial : Nat) (c_t : Nat → Int32) (c_bytes : Nat → Int32) (res : Int32) (ls : Array Slot) (H : Heap) (locs : List Loc) (h : f_X1_numberPassed c_t c_bytes = some res) (hP : va_P E.1 vwCl (W_X1_numberPassed E a_t a_bytes a_trial c_t c_bytes) H) (hD : va_D A (W_X1_numberPassed E a_t a_bytes a_trial c_t c_bytes)) (hS : va_S A s.heap H locs) (hl : lv_has ls 3 [(0, .ref a_t)]) : W p l e r_X1_numberPassed s m args below meth c H locs 0 0 (MQ below (qI E A res (W_X1_numberPassed E a_t a_bytes a_trial c_t c_bytes)) args s 0 0 A) (F0 m 0 ls []) := by
  obtain ⟨hx, hb, hml, hr, hlk, hown, hts, hG, hA⟩ := id X
  have hK := hG.1
  have hN := hG.2.1
  unfold f_X1_numberPassed at h
  refine lv_aload_n hx hb dX1_numberPassed_0 rfl (lv_at hl 0 rfl) ?_
  refine va_get (D := E.1) (ci := 1) (v := .int (c_t 3)) (C := RX1) (T := TX1) (N := 7) hx hb hts iX1_numberPassed_X1 hown hK hP 0 rfl rfl 3 (by decide) (hts (.fieldLink RX1 19 "LeftIsAgreedOn$Reader" "at" "I") (List.mem_of_getElem? (i := 1) rfl)) (fun _ h9 => h9) rfl dX1_numberPassed_1 ?_
  refine lv_aload_n hx hb dX1_numberPassed_4 rfl (lv_at hl 0 rfl) ?_
  refine va_get (D := E.1) (ci := 1) (v := .int (c_t 5)) (C := RX1) (T := TX1) (N := 7) hx hb hts iX1_numberPassed_X1 hown hK hP 0 rfl rfl 5 (by decide) (hts (.fieldLink RX1 25 "LeftIsAgreedOn$Reader" "tokenAt" "I") (List.mem_of_getElem? (i := 2) rfl)) (fun _ h9 => h9) rfl dX1_numberPassed_5 ?_
  refine lv_isub hx hb dX1_numberPassed_8 ?_
  refine lv_iconst (v := (2 : Int32)) hx hb dX1_numberPassed_9 (by decide) ?_
  refine lv_icmp_le (tgt := 16) hx hb dX1_numberPassed_10 (by decide) (fun hc10 => ?_) (fun hc10 => ?_)
  · have h := if_t h hc10
    refine lv_iconst (v := (0 : Int32)) hx hb dX1_numberPassed_16 (by decide) ?_
    refine lv_istore_n (lv' := [(1, .int (0 : Int32)), (0, .ref a_t)]) hx hb dX1_numberPassed_17 rfl hl (by decide) rfl (fun ls hl => ?_)
    refine lv_aload_n hx hb dX1_numberPassed_18 rfl (lv_at hl 1 rfl) ?_
    refine va_get (D := E.1) (ci := 1) (v := .int (c_t 5)) (C := RX1) (T := TX1) (N := 7) hx hb hts iX1_numberPassed_X1 hown hK hP 0 rfl rfl 5 (by decide) (hts (.fieldLink RX1 25 "LeftIsAgreedOn$Reader" "tokenAt" "I") (List.mem_of_getElem? (i := 2) rfl)) (fun _ h9 => h9) rfl dX1_numberPassed_19 ?_
    refine lv_istore_n (lv' := [(2, .int (c_t 5)), (1, .int (0 : Int32)), (0, .ref a_t)]) hx hb dX1_numberPassed_22 rfl hl (by decide) rfl (fun ls hl => ?_)
    exact w_X1_numberPassed_b23 X a_t a_bytes a_trial c_t c_bytes res FU (0 : Int32) (c_t 5) _ _ _ h hP hD hS (lv_sub hl [2, 1, 0] rfl)
  · have h := if_f h hc10
    refine lv_bipush (v := (100 : Int32)) hx hb dX1_numberPassed_13 (by decide) ?_
    obtain rfl := Option.some.inj h
    exact ret_i X dX1_numberPassed_15 hP hD hS rfl
end
set_option maxRecDepth 100000 in
theorem c_X1_numberPassed (l : Launch) (E : Env0) (a_t : Nat) (a_bytes : Nat) (a_trial : Nat) (c_t : Nat → Int32) (c_bytes : Nat → Int32) (sz : Nat) (res : Int32) (h : f_X1_numberPassed c_t c_bytes = some res) : Met l yX1_numberPassed wsX1_numberPassed r_X1_numberPassed (cPre E [.ref a_t] (W_X1_numberPassed E a_t a_bytes a_trial c_t c_bytes) sz) (qI E (va_A (W_X1_numberPassed E a_t a_bytes a_trial c_t c_bytes) sz) res (W_X1_numberPassed E a_t a_bytes a_trial c_t c_bytes)) 0 0 (va_A (W_X1_numberPassed E a_t a_bytes a_trial c_t c_bytes) sz) :=
  met_of (Qc := fun A => qI E A res (W_X1_numberPassed E a_t a_bytes a_trial c_t c_bytes)) (by decide) rfl (Nat.le_of_ble_eq_true rfl) (fun p e s m args below meth c X hP hD hS ls hl => w_X1_numberPassed X a_t a_bytes a_trial c_t c_bytes res ls _ _ h hP hD hS hl)
-- ===== X1_nextToken
noncomputable abbrev W_X1_nextToken (E : Env0) (a_t : Nat) (a_bytes : Nat) (a_trial : Nat) (c_t : Nat → Int32) (c_bytes : Nat → Int32) : va_W := [(a_t, .inr (1, [.ref a_trial, .ref a_bytes, .int (c_t 2), .int (c_t 3), .int (c_t 4), .int (c_t 5), .int (c_t 6)])), (a_bytes, .inl (eI E, 250, .inl c_bytes))]
noncomputable abbrev r_X1_nextToken : Room := { frames := 1, cells := 0, slots := 0, locals := 22 }
theorem hd_X1_nextToken : yX1_nextToken.cls ≠ "java/lang/invoke/MethodHandle" ∧ yX1_nextToken.cls ≠ "java/lang/invoke/VarHandle" ∧ (parseMethodDescriptor yX1_nextToken.desc).map (fun d => d.parameters.length) = some 0 := by decide +kernel
theorem hV_X1_nextToken : yX1_nextToken.cls = RX1 ∧ yX1_nextToken.cls ≠ "java/lang/invoke/MethodHandle" ∧ yX1_nextToken.cls ≠ "java/lang/invoke/VarHandle" ∧ (parseMethodDescriptor yX1_nextToken.desc).map (fun d => d.parameters.length) = some 0 := ⟨rfl, hd_X1_nextToken⟩
theorem iX1_nextToken_X1 : ∀ w ∈ wsX10, w ∈ wsX1_nextToken := fun _ h => List.mem_cons_of_mem _ (List.mem_append_right _ (h))
section
variable {p : Program} {l : Launch} {e : Env} {s : State} {m : MethodId} {args : Array Value} {below : List Frame} {meth : Method} {c : Code} {E : Env0} {A : Nat → Prop}
set_option maxRecDepth 100000 in
set_option maxHeartbeats 4000000 in
theorem w_X1_nextToken_b163 (X : Ctx p m meth c cX1_nextToken 1 none s args wsX1_nextToken RX1 E A) (a_t : Nat) (a_bytes : Nat) (a_trial : Nat) (c_bytes : Nat → Int32) (res : (Nat → Int32)) (c_t : Nat → Int32) (s0 : Int32) (ls : Array Slot) (H : Heap) (locs : List Loc) (h : f_X1_nextToken_b163 c_bytes c_t s0 = some res) (hP : va_P E.1 vwCl (W_X1_nextToken E a_t a_bytes a_trial c_t c_bytes) H) (hD : va_D A (W_X1_nextToken E a_t a_bytes a_trial c_t c_bytes)) (hS : va_S A s.heap H locs) (hl : lv_has ls 1 [(0, .ref a_t)]) : W p l e r_X1_nextToken s m args below meth c H locs 0 0 (MQ below (qV E A (W_X1_nextToken E a_t a_bytes a_trial res c_bytes)) args s 0 0 A) (F0 m 163 ls [.int s0, .ref a_t]) := by
  obtain ⟨hx, hb, hml, hr, hlk, hown, hts, hG, hA⟩ := id X
  have hK := hG.1
  have hN := hG.2.1
  unfold f_X1_nextToken_b163 at h
  refine va_put (D := E.1) (ci := 1) (v := .int s0) (ty := .int) (C := RX1) (T := TX1) (N := 7) hx hb hts iX1_nextToken_X1 tyX1 tyX1_ok nmX1 hown hK hP hD hS 0 rfl rfl 4 (by decide) (hts (.fieldLink RX1 22 "LeftIsAgreedOn$Reader" "token" "I") (List.mem_of_getElem? (i := 5) rfl)) (fun _ h9 => h9) rfl (tyX1_ok 4 (by decide)) rfl rfl (Nat.le_of_ble_eq_true rfl) dX1_nextToken_163 (fun H locs hP hD hS => ?_)
  have hP : va_P E.1 vwCl (W_X1_nextToken E a_t a_bytes a_trial (upd c_t 4 s0) c_bytes) H := hP
  have hD : va_D A (W_X1_nextToken E a_t a_bytes a_trial (upd c_t 4 s0) c_bytes) := hD
  refine lv_aload_n hx hb dX1_nextToken_166 rfl (lv_at hl 0 rfl) ?_
  refine lv_dup hx hb dX1_nextToken_167 rfl ?_
  refine va_get (D := E.1) (ci := 1) (v := .int ((upd c_t 4 s0) 3)) (C := RX1) (T := TX1) (N := 7) hx hb hts iX1_nextToken_X1 hown hK hP 0 rfl rfl 3 (by decide) (hts (.fieldLink RX1 19 "LeftIsAgreedOn$Reader" "at" "I") (List.mem_of_getElem? (i := 1) rfl)) (fun _ h9 => h9) rfl dX1_nextToken_168 ?_
  refine lv_iconst (v := (1 : Int32)) hx hb dX1_nextToken_171 (by decide) ?_
  refine lv_iadd hx hb dX1_nextToken_172 ?_
  refine va_put (D := E.1) (ci := 1) (v := .int (((upd c_t 4 s0) 3) + (1 : Int32))) (ty := .int) (C := RX1) (T := TX1) (N := 7) hx hb hts iX1_nextToken_X1 tyX1 tyX1_ok nmX1 hown hK hP hD hS 0 rfl rfl 3 (by decide) (hts (.fieldLink RX1 19 "LeftIsAgreedOn$Reader" "at" "I") (List.mem_of_getElem? (i := 1) rfl)) (fun _ h9 => h9) rfl (tyX1_ok 3 (by decide)) rfl rfl (Nat.le_of_ble_eq_true rfl) dX1_nextToken_173 (fun H locs hP hD hS => ?_)
  have hP : va_P E.1 vwCl (W_X1_nextToken E a_t a_bytes a_trial (upd (upd c_t 4 s0) 3 (((upd c_t 4 s0) 3) + (1 : Int32))) c_bytes) H := hP
  have hD : va_D A (W_X1_nextToken E a_t a_bytes a_trial (upd (upd c_t 4 s0) 3 (((upd c_t 4 s0) 3) + (1 : Int32))) c_bytes) := hD
  obtain rfl := Option.some.inj h
  exact ret_v X dX1_nextToken_176 hP hD hS
set_option maxRecDepth 100000 in
set_option maxHeartbeats 4000000 in
theorem w_X1_nextToken_b38 (X : Ctx p m meth c cX1_nextToken 1 none s args wsX1_nextToken RX1 E A) (a_t : Nat) (a_bytes : Nat) (a_trial : Nat) (c_bytes : Nat → Int32) (res : (Nat → Int32)) (c_t : Nat → Int32) (ls : Array Slot) (H : Heap) (locs : List Loc) (h : f_X1_nextToken_b38 c_bytes c_t = some res) (hP : va_P E.1 vwCl (W_X1_nextToken E a_t a_bytes a_trial c_t c_bytes) H) (hD : va_D A (W_X1_nextToken E a_t a_bytes a_trial c_t c_bytes)) (hS : va_S A s.heap H locs) (hl : lv_has ls 1 [(0, .ref a_t)]) : W p l e r_X1_nextToken s m args below meth c H locs 0 0 (MQ below (qV E A (W_X1_nextToken E a_t a_bytes a_trial res c_bytes)) args s 0 0 A) (F0 m 38 ls []) := by
  obtain ⟨hx, hb, hml, hr, hlk, hown, hts, hG, hA⟩ := id X
  have hK := hG.1
  have hN := hG.2.1
  unfold f_X1_nextToken_b38 at h
  refine lv_aload_n hx hb dX1_nextToken_38 rfl (lv_at hl 0 rfl) ?_
  refine lv_aload_n hx hb dX1_nextToken_39 rfl (lv_at hl 0 rfl) ?_
  refine va_get (D := E.1) (ci := 1) (v := .int (c_t 3)) (C := RX1) (T := TX1) (N := 7) hx hb hts iX1_nextToken_X1 hown hK hP 0 rfl rfl 3 (by decide) (hts (.fieldLink RX1 19 "LeftIsAgreedOn$Reader" "at" "I") (List.mem_of_getElem? (i := 1) rfl)) (fun _ h9 => h9) rfl dX1_nextToken_40 ?_
  refine va_put (D := E.1) (ci := 1) (v := .int (c_t 3)) (ty := .int) (C := RX1) (T := TX1) (N := 7) hx hb hts iX1_nextToken_X1 tyX1 tyX1_ok nmX1 hown hK hP hD hS 0 rfl rfl 5 (by decide) (hts (.fieldLink RX1 25 "LeftIsAgreedOn$Reader" "tokenAt" "I") (List.mem_of_getElem? (i := 4) rfl)) (fun _ h9 => h9) rfl (tyX1_ok 5 (by decide)) rfl rfl (Nat.le_of_ble_eq_true rfl) dX1_nextToken_43 (fun H locs hP hD hS => ?_)
  have hP : va_P E.1 vwCl (W_X1_nextToken E a_t a_bytes a_trial (upd c_t 5 (c_t 3)) c_bytes) H := hP
  have hD : va_D A (W_X1_nextToken E a_t a_bytes a_trial (upd c_t 5 (c_t 3)) c_bytes) := hD
  refine lv_aload_n hx hb dX1_nextToken_46 rfl (lv_at hl 0 rfl) ?_
  refine va_get (D := E.1) (ci := 1) (v := .int ((upd c_t 5 (c_t 3)) 3)) (C := RX1) (T := TX1) (N := 7) hx hb hts iX1_nextToken_X1 hown hK hP 0 rfl rfl 3 (by decide) (hts (.fieldLink RX1 19 "LeftIsAgreedOn$Reader" "at" "I") (List.mem_of_getElem? (i := 1) rfl)) (fun _ h9 => h9) rfl dX1_nextToken_47 ?_
  refine lv_aload_n hx hb dX1_nextToken_50 rfl (lv_at hl 0 rfl) ?_
  refine va_get (D := E.1) (ci := 1) (v := .int ((upd c_t 5 (c_t 3)) 2)) (C := RX1) (T := TX1) (N := 7) hx hb hts iX1_nextToken_X1 hown hK hP 0 rfl rfl 2 (by decide) (hts (.fieldLink RX1 15 "LeftIsAgreedOn$Reader" "size" "I") (List.mem_of_getElem? (i := 2) rfl)) (fun _ h9 => h9) rfl dX1_nextToken_51 ?_
  refine lv_icmp_lt (tgt := 65) hx hb dX1_nextToken_54 (by decide) (fun hc54 => ?_) (fun hc54 => ?_)
  · have h := if_t h hc54
    refine lv_aload_n hx hb dX1_nextToken_65 rfl (lv_at hl 0 rfl) ?_
    refine va_get (D := E.1) (ci := 1) (v := .ref a_bytes) (C := RX1) (T := TX1) (N := 7) hx hb hts iX1_nextToken_X1 hown hK hP 0 rfl rfl 1 (by decide) (hts (.fieldLink RX1 11 "LeftIsAgreedOn$Reader" "bytes" "[I") (List.mem_of_getElem? (i := 3) rfl)) (fun _ h9 => h9) rfl dX1_nextToken_66 ?_
    refine lv_aload_n hx hb dX1_nextToken_69 rfl (lv_at hl 0 rfl) ?_
    refine va_get (D := E.1) (ci := 1) (v := .int ((upd c_t 5 (c_t 3)) 3)) (C := RX1) (T := TX1) (N := 7) hx hb hts iX1_nextToken_X1 hown hK hP 0 rfl rfl 3 (by decide) (hts (.fieldLink RX1 19 "LeftIsAgreedOn$Reader" "at" "I") (List.mem_of_getElem? (i := 1) rfl)) (fun _ h9 => h9) rfl dX1_nextToken_70 ?_
    obtain ⟨hz73, h⟩ := chk_of h
    refine ld_i X hP 1 rfl (inb.vp hz73) (v := (c_bytes (((upd c_t 5 (c_t 3)) 3)).toNatClampNeg)) rfl dX1_nextToken_73 ?_
    refine lv_bipush (v := (97 : Int32)) hx hb dX1_nextToken_74 (by decide) ?_
    refine lv_bipush (v := (122 : Int32)) hx hb dX1_nextToken_76 (by decide) ?_
    obtain ⟨v1, hv1, h⟩ := bind_of h
    refine after_i X (run_SN X (c_X5_isWithin l E (c_bytes (((upd c_t 5 (c_t 3)) 3)).toNatClampNeg) (97 : Int32) (122 : Int32) H.size v1 hv1) ⟨va_cnB 3 hts gX1_nextToken_X5_isWithin_n125 rfl rfl rfl (nM_4 hN) (hts (.initialized RX5) (List.mem_of_getElem? (i := 8) rfl)) hd_X5_isWithin ⟨(Nat.le_of_ble_eq_true rfl), (Nat.le_of_ble_eq_true rfl)⟩, (hts (.static yX5_isWithin) (List.mem_of_getElem? (i := 7) rfl)), trivial⟩ hP hD hS [] rfl rfl hl.1 (rest := []) rfl rfl (Nat.le_of_ble_eq_true rfl) dX1_nextToken_78) hP hD hS [] rfl (ws1 := (W_X1_nextToken E a_t a_bytes a_trial (upd c_t 5 (c_t 3)) c_bytes)) rfl (fun H locs hP hD hS => ?_)
    refine lv_if_eq (tgt := 100) hx hb dX1_nextToken_81 (by decide) (fun hc81 => ?_) (fun hc81 => ?_)
    · have h := if_t h hc81
      refine lv_aload_n hx hb dX1_nextToken_100 rfl (lv_at hl 0 rfl) ?_
      refine va_get (D := E.1) (ci := 1) (v := .ref a_bytes) (C := RX1) (T := TX1) (N := 7) hx hb hts iX1_nextToken_X1 hown hK hP 0 rfl rfl 1 (by decide) (hts (.fieldLink RX1 11 "LeftIsAgreedOn$Reader" "bytes" "[I") (List.mem_of_getElem? (i := 3) rfl)) (fun _ h9 => h9) rfl dX1_nextToken_101 ?_
      refine lv_aload_n hx hb dX1_nextToken_104 rfl (lv_at hl 0 rfl) ?_
      refine va_get (D := E.1) (ci := 1) (v := .int ((upd c_t 5 (c_t 3)) 3)) (C := RX1) (T := TX1) (N := 7) hx hb hts iX1_nextToken_X1 hown hK hP 0 rfl rfl 3 (by decide) (hts (.fieldLink RX1 19 "LeftIsAgreedOn$Reader" "at" "I") (List.mem_of_getElem? (i := 1) rfl)) (fun _ h9 => h9) rfl dX1_nextToken_105 ?_
      obtain ⟨hz108, h⟩ := chk_of h
      refine ld_i X hP 1 rfl (inb.vp hz108) (v := (c_bytes (((upd c_t 5 (c_t 3)) 3)).toNatClampNeg)) rfl dX1_nextToken_108 ?_
      refine lv_bipush (v := (48 : Int32)) hx hb dX1_nextToken_109 (by decide) ?_
      refine lv_bipush (v := (57 : Int32)) hx hb dX1_nextToken_111 (by decide) ?_
      obtain ⟨v2, hv2, h⟩ := bind_of h
      refine after_i X (run_SN X (c_X5_isWithin l E (c_bytes (((upd c_t 5 (c_t 3)) 3)).toNatClampNeg) (48 : Int32) (57 : Int32) H.size v2 hv2) ⟨va_cnB 3 hts gX1_nextToken_X5_isWithin_n125 rfl rfl rfl (nM_4 hN) (hts (.initialized RX5) (List.mem_of_getElem? (i := 8) rfl)) hd_X5_isWithin ⟨(Nat.le_of_ble_eq_true rfl), (Nat.le_of_ble_eq_true rfl)⟩, (hts (.static yX5_isWithin) (List.mem_of_getElem? (i := 7) rfl)), trivial⟩ hP hD hS [] rfl rfl hl.1 (rest := []) rfl rfl (Nat.le_of_ble_eq_true rfl) dX1_nextToken_113) hP hD hS [] rfl (ws1 := (W_X1_nextToken E a_t a_bytes a_trial (upd c_t 5 (c_t 3)) c_bytes)) rfl (fun H locs hP hD hS => ?_)
      refine lv_if_eq (tgt := 143) hx hb dX1_nextToken_116 (by decide) (fun hc116 => ?_) (fun hc116 => ?_)
      · have h := if_t h hc116
        refine lv_aload_n hx hb dX1_nextToken_143 rfl (lv_at hl 0 rfl) ?_
        refine lv_aload_n hx hb dX1_nextToken_144 rfl (lv_at hl 0 rfl) ?_
        refine va_get (D := E.1) (ci := 1) (v := .ref a_bytes) (C := RX1) (T := TX1) (N := 7) hx hb hts iX1_nextToken_X1 hown hK hP 0 rfl rfl 1 (by decide) (hts (.fieldLink RX1 11 "LeftIsAgreedOn$Reader" "bytes" "[I") (List.mem_of_getElem? (i := 3) rfl)) (fun _ h9 => h9) rfl dX1_nextToken_145 ?_
        refine lv_aload_n hx hb dX1_nextToken_148 rfl (lv_at hl 0 rfl) ?_
        refine va_get (D := E.1) (ci := 1) (v := .int ((upd c_t 5 (c_t 3)) 3)) (C := RX1) (T := TX1) (N := 7) hx hb hts iX1_nextToken_X1 hown hK hP 0 rfl rfl 3 (by decide) (hts (.fieldLink RX1 19 "LeftIsAgreedOn$Reader" "at" "I") (List.mem_of_getElem? (i := 1) rfl)) (fun _ h9 => h9) rfl dX1_nextToken_149 ?_
        obtain ⟨hz152, h⟩ := chk_of h
        refine ld_i X hP 1 rfl (inb.vp hz152) (v := (c_bytes (((upd c_t 5 (c_t 3)) 3)).toNatClampNeg)) rfl dX1_nextToken_152 ?_
        refine lv_bipush (v := (59 : Int32)) hx hb dX1_nextToken_153 (by decide) ?_
        refine lv_icmp_ne (tgt := 162) hx hb dX1_nextToken_155 (by decide) (fun hc155 => ?_) (fun hc155 => ?_)
        · have h := if_f h hc155
          refine lv_iconst (v := (4 : Int32)) hx hb dX1_nextToken_162 (by decide) ?_
          exact w_X1_nextToken_b163 X a_t a_bytes a_trial c_bytes res (upd c_t 5 (c_t 3)) (4 : Int32) _ _ _ h hP hD hS (lv_sub hl [0] rfl)
        · have h := if_t h hc155
          refine lv_iconst (v := (3 : Int32)) hx hb dX1_nextToken_158 (by decide) ?_
          refine lv_goto (tgt := 163) hx hb dX1_nextToken_159 (by decide) ?_
          exact w_X1_nextToken_b163 X a_t a_bytes a_trial c_bytes res (upd c_t 5 (c_t 3)) (3 : Int32) _ _ _ h hP hD hS (lv_sub hl [0] rfl)
      · have h := if_f h hc116
        refine lv_aload_n hx hb dX1_nextToken_119 rfl (lv_at hl 0 rfl) ?_
        refine lv_iconst (v := (2 : Int32)) hx hb dX1_nextToken_120 (by decide) ?_
        refine va_put (D := E.1) (ci := 1) (v := .int (2 : Int32)) (ty := .int) (C := RX1) (T := TX1) (N := 7) hx hb hts iX1_nextToken_X1 tyX1 tyX1_ok nmX1 hown hK hP hD hS 0 rfl rfl 4 (by decide) (hts (.fieldLink RX1 22 "LeftIsAgreedOn$Reader" "token" "I") (List.mem_of_getElem? (i := 5) rfl)) (fun _ h9 => h9) rfl (tyX1_ok 4 (by decide)) rfl rfl (Nat.le_of_ble_eq_true rfl) dX1_nextToken_121 (fun H locs hP hD hS => ?_)
        have hP : va_P E.1 vwCl (W_X1_nextToken E a_t a_bytes a_trial (upd (upd c_t 5 (c_t 3)) 4 (2 : Int32)) c_bytes) H := hP
        have hD : va_D A (W_X1_nextToken E a_t a_bytes a_trial (upd (upd c_t 5 (c_t 3)) 4 (2 : Int32)) c_bytes) := hD
        refine lv_aload_n hx hb dX1_nextToken_124 rfl (lv_at hl 0 rfl) ?_
        refine lv_bipush (v := (48 : Int32)) hx hb dX1_nextToken_125 (by decide) ?_
        refine lv_bipush (v := (57 : Int32)) hx hb dX1_nextToken_127 (by decide) ?_
        obtain ⟨v3, hv3, h⟩ := bind_of h
        refine after_v X (run_V X (c_X1_passAll l E a_t a_bytes a_trial (48 : Int32) (57 : Int32) (upd (upd c_t 5 (c_t 3)) 4 (2 : Int32)) c_bytes H.size v3 hv3) (cwV 2 hts gX1_nextToken_X1_passAll rfl rfl rfl hV_X1_passAll ⟨(Nat.le_of_ble_eq_true rfl), (Nat.le_of_ble_eq_true rfl)⟩) hP hD hS [0, 1] rfl rfl hl.1 (ci := 1) rfl rfl rfl (rest := []) rfl rfl (Nat.le_of_ble_eq_true rfl) dX1_nextToken_129) hP hD hS [0, 1] rfl (ws1 := (W_X1_nextToken E a_t a_bytes a_trial v3 c_bytes)) rfl (fun H locs hP hD hS => ?_)
        refine lv_aload_n hx hb dX1_nextToken_132 rfl (lv_at hl 0 rfl) ?_
        refine lv_aload_n hx hb dX1_nextToken_133 rfl (lv_at hl 0 rfl) ?_
        obtain ⟨v4, hv4, h⟩ := bind_of h
        refine after_i X (run_V X (c_X1_numberPassed l E a_t a_bytes a_trial v3 c_bytes H.size v4 hv4) (cwV 0 hts gX1_nextToken_X1_numberPassed rfl rfl rfl hV_X1_numberPassed ⟨(Nat.le_of_ble_eq_true rfl), (Nat.le_of_ble_eq_true rfl)⟩) hP hD hS [0, 1] rfl rfl hl.1 (ci := 1) rfl rfl rfl (rest := [.ref a_t]) rfl rfl (Nat.le_of_ble_eq_true rfl) dX1_nextToken_134) hP hD hS [0, 1] rfl (ws1 := (W_X1_nextToken E a_t a_bytes a_trial v3 c_bytes)) rfl (fun H locs hP hD hS => ?_)
        refine va_put (D := E.1) (ci := 1) (v := .int v4) (ty := .int) (C := RX1) (T := TX1) (N := 7) hx hb hts iX1_nextToken_X1 tyX1 tyX1_ok nmX1 hown hK hP hD hS 0 rfl rfl 6 (by decide) (hts (.fieldLink RX1 28 "LeftIsAgreedOn$Reader" "value" "I") (List.mem_of_getElem? (i := 6) rfl)) (fun _ h9 => h9) rfl (tyX1_ok 6 (by decide)) rfl rfl (Nat.le_of_ble_eq_true rfl) dX1_nextToken_137 (fun H locs hP hD hS => ?_)
        have hP : va_P E.1 vwCl (W_X1_nextToken E a_t a_bytes a_trial (upd v3 6 v4) c_bytes) H := hP
        have hD : va_D A (W_X1_nextToken E a_t a_bytes a_trial (upd v3 6 v4) c_bytes) := hD
        refine lv_goto (tgt := 176) hx hb dX1_nextToken_140 (by decide) ?_
        obtain rfl := Option.some.inj h
        exact ret_v X dX1_nextToken_176 hP hD hS
    · have h := if_f h hc81
      refine lv_aload_n hx hb dX1_nextToken_84 rfl (lv_at hl 0 rfl) ?_
      refine lv_iconst (v := (1 : Int32)) hx hb dX1_nextToken_85 (by decide) ?_
      refine va_put (D := E.1) (ci := 1) (v := .int (1 : Int32)) (ty := .int) (C := RX1) (T := TX1) (N := 7) hx hb hts iX1_nextToken_X1 tyX1 tyX1_ok nmX1 hown hK hP hD hS 0 rfl rfl 4 (by decide) (hts (.fieldLink RX1 22 "LeftIsAgreedOn$Reader" "token" "I") (List.mem_of_getElem? (i := 5) rfl)) (fun _ h9 => h9) rfl (tyX1_ok 4 (by decide)) rfl rfl (Nat.le_of_ble_eq_true rfl) dX1_nextToken_86 (fun H locs hP hD hS => ?_)
      have hP : va_P E.1 vwCl (W_X1_nextToken E a_t a_bytes a_trial (upd (upd c_t 5 (c_t 3)) 4 (1 : Int32)) c_bytes) H := hP
      have hD : va_D A (W_X1_nextToken E a_t a_bytes a_trial (upd (upd c_t 5 (c_t 3)) 4 (1 : Int32)) c_bytes) := hD
      refine lv_aload_n hx hb dX1_nextToken_89 rfl (lv_at hl 0 rfl) ?_
      refine lv_bipush (v := (97 : Int32)) hx hb dX1_nextToken_90 (by decide) ?_
      refine lv_bipush (v := (122 : Int32)) hx hb dX1_nextToken_92 (by decide) ?_
      obtain ⟨v5, hv5, h⟩ := bind_of h
      refine after_v X (run_V X (c_X1_passAll l E a_t a_bytes a_trial (97 : Int32) (122 : Int32) (upd (upd c_t 5 (c_t 3)) 4 (1 : Int32)) c_bytes H.size v5 hv5) (cwV 2 hts gX1_nextToken_X1_passAll rfl rfl rfl hV_X1_passAll ⟨(Nat.le_of_ble_eq_true rfl), (Nat.le_of_ble_eq_true rfl)⟩) hP hD hS [0, 1] rfl rfl hl.1 (ci := 1) rfl rfl rfl (rest := []) rfl rfl (Nat.le_of_ble_eq_true rfl) dX1_nextToken_94) hP hD hS [0, 1] rfl (ws1 := (W_X1_nextToken E a_t a_bytes a_trial v5 c_bytes)) rfl (fun H locs hP hD hS => ?_)
      refine lv_goto (tgt := 176) hx hb dX1_nextToken_97 (by decide) ?_
      obtain rfl := Option.some.inj h
      exact ret_v X dX1_nextToken_176 hP hD hS
  · have h := if_f h hc54
    refine lv_aload_n hx hb dX1_nextToken_57 rfl (lv_at hl 0 rfl) ?_
    refine lv_iconst (v := (0 : Int32)) hx hb dX1_nextToken_58 (by decide) ?_
    refine va_put (D := E.1) (ci := 1) (v := .int (0 : Int32)) (ty := .int) (C := RX1) (T := TX1) (N := 7) hx hb hts iX1_nextToken_X1 tyX1 tyX1_ok nmX1 hown hK hP hD hS 0 rfl rfl 4 (by decide) (hts (.fieldLink RX1 22 "LeftIsAgreedOn$Reader" "token" "I") (List.mem_of_getElem? (i := 5) rfl)) (fun _ h9 => h9) rfl (tyX1_ok 4 (by decide)) rfl rfl (Nat.le_of_ble_eq_true rfl) dX1_nextToken_59 (fun H locs hP hD hS => ?_)
    have hP : va_P E.1 vwCl (W_X1_nextToken E a_t a_bytes a_trial (upd (upd c_t 5 (c_t 3)) 4 (0 : Int32)) c_bytes) H := hP
    have hD : va_D A (W_X1_nextToken E a_t a_bytes a_trial (upd (upd c_t 5 (c_t 3)) 4 (0 : Int32)) c_bytes) := hD
    refine lv_goto (tgt := 176) hx hb dX1_nextToken_62 (by decide) ?_
    obtain rfl := Option.some.inj h
    exact ret_v X dX1_nextToken_176 hP hD hS
set_option maxRecDepth 100000 in
set_option maxHeartbeats 4000000 in
theorem w_X1_nextToken_b0 (X : Ctx p m meth c cX1_nextToken 1 none s args wsX1_nextToken RX1 E A) (a_t : Nat) (a_bytes : Nat) (a_trial : Nat) (c_bytes : Nat → Int32) (res : (Nat → Int32)) : ∀ (n : Nat) (c_t : Nat → Int32) (ls : Array Slot) (H : Heap) (locs : List Loc), f_X1_nextToken_b0 c_bytes n c_t = some res → va_P E.1 vwCl (W_X1_nextToken E a_t a_bytes a_trial c_t c_bytes) H → va_D A (W_X1_nextToken E a_t a_bytes a_trial c_t c_bytes) → va_S A s.heap H locs → lv_has ls 1 [(0, .ref a_t)] → W p l e r_X1_nextToken s m args below meth c H locs 0 0 (MQ below (qV E A (W_X1_nextToken E a_t a_bytes a_trial res c_bytes)) args s 0 0 A) (F0 m 0 ls []) := by
  obtain ⟨hx, hb, hml, hr, hlk, hown, hts, hG, hA⟩ := id X
  have hK := hG.1
  have hN := hG.2.1
  intro n
  induction n with
  | zero =>
    intro c_t ls H locs h
    exact absurd (show (none : Option ((Nat → Int32))) = some res from h) (by intro q; cases q)
  | succ n ih =>
    intro c_t ls H locs h hP hD hS hl
    rw [f_X1_nextToken_b0] at h
    refine lv_aload_n hx hb dX1_nextToken_0 rfl (lv_at hl 0 rfl) ?_
    refine va_get (D := E.1) (ci := 1) (v := .int (c_t 3)) (C := RX1) (T := TX1) (N := 7) hx hb hts iX1_nextToken_X1 hown hK hP 0 rfl rfl 3 (by decide) (hts (.fieldLink RX1 19 "LeftIsAgreedOn$Reader" "at" "I") (List.mem_of_getElem? (i := 1) rfl)) (fun _ h9 => h9) rfl dX1_nextToken_1 ?_
    refine lv_aload_n hx hb dX1_nextToken_4 rfl (lv_at hl 0 rfl) ?_
    refine va_get (D := E.1) (ci := 1) (v := .int (c_t 2)) (C := RX1) (T := TX1) (N := 7) hx hb hts iX1_nextToken_X1 hown hK hP 0 rfl rfl 2 (by decide) (hts (.fieldLink RX1 15 "LeftIsAgreedOn$Reader" "size" "I") (List.mem_of_getElem? (i := 2) rfl)) (fun _ h9 => h9) rfl dX1_nextToken_5 ?_
    refine lv_icmp_ge (tgt := 38) hx hb dX1_nextToken_8 (by decide) (fun hc8 => ?_) (fun hc8 => ?_)
    · have h := if_t h hc8
      exact w_X1_nextToken_b38 X a_t a_bytes a_trial c_bytes res c_t _ _ _ h hP hD hS (lv_sub hl [0] rfl)
    · have h := if_f h hc8
      refine lv_aload_n hx hb dX1_nextToken_11 rfl (lv_at hl 0 rfl) ?_
      refine va_get (D := E.1) (ci := 1) (v := .ref a_bytes) (C := RX1) (T := TX1) (N := 7) hx hb hts iX1_nextToken_X1 hown hK hP 0 rfl rfl 1 (by decide) (hts (.fieldLink RX1 11 "LeftIsAgreedOn$Reader" "bytes" "[I") (List.mem_of_getElem? (i := 3) rfl)) (fun _ h9 => h9) rfl dX1_nextToken_12 ?_
      refine lv_aload_n hx hb dX1_nextToken_15 rfl (lv_at hl 0 rfl) ?_
      refine va_get (D := E.1) (ci := 1) (v := .int (c_t 3)) (C := RX1) (T := TX1) (N := 7) hx hb hts iX1_nextToken_X1 hown hK hP 0 rfl rfl 3 (by decide) (hts (.fieldLink RX1 19 "LeftIsAgreedOn$Reader" "at" "I") (List.mem_of_getElem? (i := 1) rfl)) (fun _ h9 => h9) rfl dX1_nextToken_16 ?_
      obtain ⟨hz19, h⟩ := chk_of h
      refine ld_i X hP 1 rfl (inb.vp hz19) (v := (c_bytes ((c_t 3)).toNatClampNeg)) rfl dX1_nextToken_19 ?_
      refine lv_bipush (v := (32 : Int32)) hx hb dX1_nextToken_20 (by decide) ?_
      refine lv_icmp_ne (tgt := 38) hx hb dX1_nextToken_22 (by decide) (fun hc22 => ?_) (fun hc22 => ?_)
      · have h := if_f h hc22
        exact w_X1_nextToken_b38 X a_t a_bytes a_trial c_bytes res c_t _ _ _ h hP hD hS (lv_sub hl [0] rfl)
      · have h := if_t h hc22
        refine lv_aload_n hx hb dX1_nextToken_25 rfl (lv_at hl 0 rfl) ?_
        refine lv_dup hx hb dX1_nextToken_26 rfl ?_
        refine va_get (D := E.1) (ci := 1) (v := .int (c_t 3)) (C := RX1) (T := TX1) (N := 7) hx hb hts iX1_nextToken_X1 hown hK hP 0 rfl rfl 3 (by decide) (hts (.fieldLink RX1 19 "LeftIsAgreedOn$Reader" "at" "I") (List.mem_of_getElem? (i := 1) rfl)) (fun _ h9 => h9) rfl dX1_nextToken_27 ?_
        refine lv_iconst (v := (1 : Int32)) hx hb dX1_nextToken_30 (by decide) ?_
        refine lv_iadd hx hb dX1_nextToken_31 ?_
        refine va_put (D := E.1) (ci := 1) (v := .int ((c_t 3) + (1 : Int32))) (ty := .int) (C := RX1) (T := TX1) (N := 7) hx hb hts iX1_nextToken_X1 tyX1 tyX1_ok nmX1 hown hK hP hD hS 0 rfl rfl 3 (by decide) (hts (.fieldLink RX1 19 "LeftIsAgreedOn$Reader" "at" "I") (List.mem_of_getElem? (i := 1) rfl)) (fun _ h9 => h9) rfl (tyX1_ok 3 (by decide)) rfl rfl (Nat.le_of_ble_eq_true rfl) dX1_nextToken_32 (fun H locs hP hD hS => ?_)
        have hP : va_P E.1 vwCl (W_X1_nextToken E a_t a_bytes a_trial (upd c_t 3 ((c_t 3) + (1 : Int32))) c_bytes) H := hP
        have hD : va_D A (W_X1_nextToken E a_t a_bytes a_trial (upd c_t 3 ((c_t 3) + (1 : Int32))) c_bytes) := hD
        refine lv_goto (tgt := 0) hx hb dX1_nextToken_35 (by decide) ?_
        exact ih (upd c_t 3 ((c_t 3) + (1 : Int32))) _ _ _ h hP hD hS (lv_sub hl [0] rfl)
set_option maxRecDepth 100000 in
set_option maxHeartbeats 4000000 in
theorem w_X1_nextToken (X : Ctx p m meth c cX1_nextToken 1 none s args wsX1_nextToken RX1 E A) (a_t : Nat) (a_bytes : Nat) (a_trial : Nat) (c_bytes : Nat → Int32) (res : (Nat → Int32)) (c_t : Nat → Int32) (ls : Array Slot) (H : Heap) (locs : List Loc) (h : f_X1_nextToken c_t c_bytes = some res) (hP : va_P E.1 vwCl (W_X1_nextToken E a_t a_bytes a_trial c_t c_bytes) H) (hD : va_D A (W_X1_nextToken E a_t a_bytes a_trial c_t c_bytes)) (hS : va_S A s.heap H locs) (hl : lv_has ls 1 [(0, .ref a_t)]) : W p l e r_X1_nextToken s m args below meth c H locs 0 0 (MQ below (qV E A (W_X1_nextToken E a_t a_bytes a_trial res c_bytes)) args s 0 0 A) (F0 m 0 ls []) := by
  obtain ⟨hx, hb, hml, hr, hlk, hown, hts, hG, hA⟩ := id X
  have hK := hG.1
  have hN := hG.2.1
  unfold f_X1_nextToken at h
  exact w_X1_nextToken_b0 X a_t a_bytes a_trial c_bytes res FU c_t _ _ _ h hP hD hS (lv_sub hl [0] rfl)
end
set_option maxRecDepth 100000 in
theorem c_X1_nextToken (l : Launch) (E : Env0) (a_t : Nat) (a_bytes : Nat) (a_trial : Nat) (c_t : Nat → Int32) (c_bytes : Nat → Int32) (sz : Nat) (res : (Nat → Int32)) (h : f_X1_nextToken c_t c_bytes = some res) : Met l yX1_nextToken wsX1_nextToken r_X1_nextToken (cPre E [.ref a_t] (W_X1_nextToken E a_t a_bytes a_trial c_t c_bytes) sz) (qV E (va_A (W_X1_nextToken E a_t a_bytes a_trial c_t c_bytes) sz) (W_X1_nextToken E a_t a_bytes a_trial res c_bytes)) 0 0 (va_A (W_X1_nextToken E a_t a_bytes a_trial c_t c_bytes) sz) :=
  met_of (Qc := fun A => qV E A (W_X1_nextToken E a_t a_bytes a_trial res c_bytes)) (by decide) rfl (Nat.le_of_ble_eq_true rfl) (fun p e s m args below meth c X hP hD hS ls hl => w_X1_nextToken X a_t a_bytes a_trial c_bytes res c_t ls _ _ h hP hD hS hl)
-- ===== X5_refuse
noncomputable abbrev W_X5_refuse (E : Env0) (a_t : Nat) (a_refusals : Nat) (a_now : Nat) (a_kept : Nat) (a_trial : Nat) (a_reader : Nat) (a_shelves : Nat) (a_one : Nat) (a_two : Nat) (a_search : Nat) (a_outs : Nat) (c_t : Nat → Int32) (c_refusals : Nat → Int32) : va_W := [(a_t, .inr (5, [.ref a_now, .ref a_kept, .ref a_trial, .ref a_reader, .ref a_shelves, .ref a_one, .ref a_two, .ref a_search, .ref a_outs, .ref a_refusals, .int (c_t 10)])), (a_refusals, .inl (eI E, 5, .inl c_refusals))]
noncomputable abbrev r_X5_refuse : Room := { frames := 1, cells := 0, slots := 0, locals := 22 }
theorem hd_X5_refuse : yX5_refuse.cls ≠ "java/lang/invoke/MethodHandle" ∧ yX5_refuse.cls ≠ "java/lang/invoke/VarHandle" ∧ (parseMethodDescriptor yX5_refuse.desc).map (fun d => d.parameters.length) = some 1 := by decide +kernel
theorem hV_X5_refuse : yX5_refuse.cls = RX5 ∧ yX5_refuse.cls ≠ "java/lang/invoke/MethodHandle" ∧ yX5_refuse.cls ≠ "java/lang/invoke/VarHandle" ∧ (parseMethodDescriptor yX5_refuse.desc).map (fun d => d.parameters.length) = some 1 := ⟨rfl, hd_X5_refuse⟩
theorem iX5_refuse_X5 : ∀ w ∈ wsX50, w ∈ wsX5_refuse := fun _ h => List.mem_cons_of_mem _ (List.mem_append_right _ (h))
section
variable {p : Program} {l : Launch} {e : Env} {s : State} {m : MethodId} {args : Array Value} {below : List Frame} {meth : Method} {c : Code} {E : Env0} {A : Nat → Prop}
set_option maxRecDepth 100000 in
set_option maxHeartbeats 4000000 in
theorem w_X5_refuse (X : Ctx p m meth c cX5_refuse 2 ((some .int)) s args wsX5_refuse RX5 E A) (a_t : Nat) (a_refusals : Nat) (a_now : Nat) (a_kept : Nat) (a_trial : Nat) (a_reader : Nat) (a_shelves : Nat) (a_one : Nat) (a_two : Nat) (a_search : Nat) (a_outs : Nat) (c_t : Nat → Int32) (res : Int32 × (Nat → Int32)) (c_refusals : Nat → Int32) (l1 : Int32) (ls : Array Slot) (H : Heap) (locs : List Loc) (h : f_X5_refuse l1 c_t c_refusals = some res) (hP : va_P E.1 vwCl (W_X5_refuse E a_t a_refusals a_now a_kept a_trial a_reader a_shelves a_one a_two a_search a_outs c_t c_refusals) H) (hD : va_D A (W_X5_refuse E a_t a_refusals a_now a_kept a_trial a_reader a_shelves a_one a_two a_search a_outs c_t c_refusals)) (hS : va_S A s.heap H locs) (hl : lv_has ls 2 [(0, .ref a_t), (1, .int l1)]) : W p l e r_X5_refuse s m args below meth c H locs 0 0 (MQ below (qI E A (res.1) (W_X5_refuse E a_t a_refusals a_now a_kept a_trial a_reader a_shelves a_one a_two a_search a_outs c_t (res.2))) args s 0 0 A) (F0 m 0 ls []) := by
  obtain ⟨hx, hb, hml, hr, hlk, hown, hts, hG, hA⟩ := id X
  have hK := hG.1
  have hN := hG.2.1
  unfold f_X5_refuse at h
  refine lv_iload_n hx hb dX5_refuse_0 rfl (lv_at hl 1 rfl) ?_
  refine lv_bipush (v := (-6 : Int32)) hx hb dX5_refuse_1 (by decide) ?_
  refine lv_bipush (v := (-2 : Int32)) hx hb dX5_refuse_3 (by decide) ?_
  obtain ⟨v1, hv1, h⟩ := bind_of h
  refine after_i X (run_S X (c_X5_isWithin l E l1 (-6 : Int32) (-2 : Int32) H.size v1 hv1) (va_cwS 3 hts gX5_refuse_X5_isWithin rfl rfl rfl hd_X5_isWithin ⟨(Nat.le_of_ble_eq_true rfl), (Nat.le_of_ble_eq_true rfl)⟩) hP hD hS [] rfl rfl hl.1 (rest := []) rfl rfl (Nat.le_of_ble_eq_true rfl) dX5_refuse_5) hP hD hS [] rfl (ws1 := (W_X5_refuse E a_t a_refusals a_now a_kept a_trial a_reader a_shelves a_one a_two a_search a_outs c_t c_refusals)) rfl (fun H locs hP hD hS => ?_)
  refine lv_if_eq (tgt := 24) hx hb dX5_refuse_8 (by decide) (fun hc8 => ?_) (fun hc8 => ?_)
  · have h := if_t h hc8
    refine lv_iload_n hx hb dX5_refuse_24 rfl (lv_at hl 1 rfl) ?_
    obtain rfl := Option.some.inj h
    exact ret_i X dX5_refuse_25 hP hD hS rfl
  · have h := if_f h hc8
    refine lv_aload_n hx hb dX5_refuse_11 rfl (lv_at hl 0 rfl) ?_
    refine va_get (D := E.1) (ci := 5) (v := .ref a_refusals) (C := RX5) (T := TX5) (N := 11) hx hb hts iX5_refuse_X5 hown hK hP 0 rfl rfl 9 (by decide) (hts (.fieldLink RX5 61 "LeftIsAgreedOn" "refusals" "[I") (List.mem_of_getElem? (i := 1) rfl)) (fun _ h9 => h9) rfl dX5_refuse_12 ?_
    refine lv_bipush (v := (-2 : Int32)) hx hb dX5_refuse_15 (by decide) ?_
    refine lv_iload_n hx hb dX5_refuse_17 rfl (lv_at hl 1 rfl) ?_
    refine lv_isub hx hb dX5_refuse_18 ?_
    refine lv_dup2_11 hx hb dX5_refuse_19 rfl rfl ?_
    obtain ⟨hz20, h⟩ := chk_of h
    refine ld_i X hP 1 rfl (inb.vp hz20) (v := (c_refusals (((-2 : Int32) - l1)).toNatClampNeg)) rfl dX5_refuse_20 ?_
    refine lv_iconst (v := (1 : Int32)) hx hb dX5_refuse_21 (by decide) ?_
    refine lv_iadd hx hb dX5_refuse_22 ?_
    obtain ⟨hz23, h⟩ := chk_of h
    refine st_i X hP hD hS 1 rfl (inb.vp hz23) (k := (((-2 : Int32) - l1)).toNatClampNeg) rfl (ws1 := (W_X5_refuse E a_t a_refusals a_now a_kept a_trial a_reader a_shelves a_one a_two a_search a_outs c_t (upd c_refusals ((((-2 : Int32) - l1)).toNatClampNeg) ((c_refusals (((-2 : Int32) - l1)).toNatClampNeg) + (1 : Int32))))) rfl dX5_refuse_23 (fun H locs hP hD hS => ?_)
    refine lv_iload_n hx hb dX5_refuse_24 rfl (lv_at hl 1 rfl) ?_
    obtain rfl := Option.some.inj h
    exact ret_i X dX5_refuse_25 hP hD hS rfl
end
set_option maxRecDepth 100000 in
theorem c_X5_refuse (l : Launch) (E : Env0) (a_t : Nat) (a_refusals : Nat) (a_now : Nat) (a_kept : Nat) (a_trial : Nat) (a_reader : Nat) (a_shelves : Nat) (a_one : Nat) (a_two : Nat) (a_search : Nat) (a_outs : Nat) (l1 : Int32) (c_t : Nat → Int32) (c_refusals : Nat → Int32) (sz : Nat) (res : Int32 × (Nat → Int32)) (h : f_X5_refuse l1 c_t c_refusals = some res) : Met l yX5_refuse wsX5_refuse r_X5_refuse (cPre E [.ref a_t, .int l1] (W_X5_refuse E a_t a_refusals a_now a_kept a_trial a_reader a_shelves a_one a_two a_search a_outs c_t c_refusals) sz) (qI E (va_A (W_X5_refuse E a_t a_refusals a_now a_kept a_trial a_reader a_shelves a_one a_two a_search a_outs c_t c_refusals) sz) (res.1) (W_X5_refuse E a_t a_refusals a_now a_kept a_trial a_reader a_shelves a_one a_two a_search a_outs c_t (res.2))) 0 0 (va_A (W_X5_refuse E a_t a_refusals a_now a_kept a_trial a_reader a_shelves a_one a_two a_search a_outs c_t c_refusals) sz) :=
  met_of (Qc := fun A => qI E A (res.1) (W_X5_refuse E a_t a_refusals a_now a_kept a_trial a_reader a_shelves a_one a_two a_search a_outs c_t (res.2))) (by decide) rfl (Nat.le_of_ble_eq_true rfl) (fun p e s m args below meth c X hP hD hS ls hl => w_X5_refuse X a_t a_refusals a_now a_kept a_trial a_reader a_shelves a_one a_two a_search a_outs c_t res c_refusals l1 ls _ _ h hP hD hS hl)
-- ===== X5_row
noncomputable abbrev W_X5_row (E : Env0) (a_t : Nat) (a_refusals : Nat) (a_shelves : Nat) (a_shelves_contents : Nat) (a_shelves_elements : Nat) (a_shelves_sizes : Nat) (a_now : Nat) (a_kept : Nat) (a_trial : Nat) (a_reader : Nat) (a_one : Nat) (a_two : Nat) (a_search : Nat) (a_outs : Nat) (c_t : Nat → Int32) (c_refusals : Nat → Int32) (c_shelves_contents : Nat → Int32) (c_shelves_elements : Nat → Int64) (c_shelves_sizes : Nat → Int32) : va_W := [(a_t, .inr (5, [.ref a_now, .ref a_kept, .ref a_trial, .ref a_reader, .ref a_shelves, .ref a_one, .ref a_two, .ref a_search, .ref a_outs, .ref a_refusals, .int (c_t 10)])), (a_refusals, .inl (eI E, 5, .inl c_refusals)), (a_shelves, .inr (3, [.ref a_shelves_contents, .ref a_shelves_sizes, .ref a_shelves_elements])), (a_shelves_contents, .inl (eI E, 8, .inl c_shelves_contents)), (a_shelves_elements, .inl (eJ E, 320, .inr (.inl c_shelves_elements))), (a_shelves_sizes, .inl (eI E, 8, .inl c_shelves_sizes))]
noncomputable abbrev r_X5_row : Room := { frames := 2, cells := 0, slots := 0, locals := 43 }
theorem hd_X5_row : yX5_row.cls ≠ "java/lang/invoke/MethodHandle" ∧ yX5_row.cls ≠ "java/lang/invoke/VarHandle" ∧ (parseMethodDescriptor yX5_row.desc).map (fun d => d.parameters.length) = some 3 := by decide +kernel
theorem hV_X5_row : yX5_row.cls = RX5 ∧ yX5_row.cls ≠ "java/lang/invoke/MethodHandle" ∧ yX5_row.cls ≠ "java/lang/invoke/VarHandle" ∧ (parseMethodDescriptor yX5_row.desc).map (fun d => d.parameters.length) = some 3 := ⟨rfl, hd_X5_row⟩
theorem iX5_row_X5 : ∀ w ∈ wsX50, w ∈ wsX5_row := fun _ h => List.mem_cons_of_mem _ (List.mem_append_left _ (List.mem_append_right _ (h)))
section
variable {p : Program} {l : Launch} {e : Env} {s : State} {m : MethodId} {args : Array Value} {below : List Frame} {meth : Method} {c : Code} {E : Env0} {A : Nat → Prop}
set_option maxRecDepth 100000 in
set_option maxHeartbeats 4000000 in
theorem w_X5_row_b30 (X : Ctx p m meth c cX5_row 4 ((some .int)) s args wsX5_row RX5 E A) (a_t : Nat) (a_refusals : Nat) (a_shelves : Nat) (a_shelves_contents : Nat) (a_shelves_elements : Nat) (a_shelves_sizes : Nat) (a_now : Nat) (a_kept : Nat) (a_trial : Nat) (a_reader : Nat) (a_one : Nat) (a_two : Nat) (a_search : Nat) (a_outs : Nat) (c_t : Nat → Int32) (res : Int32 × (Nat → Int32) × (Nat → Int32) × (Nat → Int64) × (Nat → Int32)) (c_refusals : Nat → Int32) (c_shelves_contents : Nat → Int32) (c_shelves_elements : Nat → Int64) (c_shelves_sizes : Nat → Int32) (ls : Array Slot) (H : Heap) (locs : List Loc) (h : f_X5_row_b30 c_t c_refusals c_shelves_contents c_shelves_elements c_shelves_sizes = some res) (hP : va_P E.1 vwCl (W_X5_row E a_t a_refusals a_shelves a_shelves_contents a_shelves_elements a_shelves_sizes a_now a_kept a_trial a_reader a_one a_two a_search a_outs c_t c_refusals c_shelves_contents c_shelves_elements c_shelves_sizes) H) (hD : va_D A (W_X5_row E a_t a_refusals a_shelves a_shelves_contents a_shelves_elements a_shelves_sizes a_now a_kept a_trial a_reader a_one a_two a_search a_outs c_t c_refusals c_shelves_contents c_shelves_elements c_shelves_sizes)) (hS : va_S A s.heap H locs) (hl : lv_has ls 4 [(0, .ref a_t)]) : W p l e r_X5_row s m args below meth c H locs 0 0 (MQ below (qI E A (res.1) (W_X5_row E a_t a_refusals a_shelves a_shelves_contents a_shelves_elements a_shelves_sizes a_now a_kept a_trial a_reader a_one a_two a_search a_outs c_t (res.2.1) (res.2.2.1) (res.2.2.2.1) (res.2.2.2.2))) args s 0 0 A) (F0 m 30 ls []) := by
  obtain ⟨hx, hb, hml, hr, hlk, hown, hts, hG, hA⟩ := id X
  have hK := hG.1
  have hN := hG.2.1
  unfold f_X5_row_b30 at h
  refine lv_aload_n hx hb dX5_row_30 rfl (lv_at hl 0 rfl) ?_
  refine lv_bipush (v := (-2 : Int32)) hx hb dX5_row_31 (by decide) ?_
  obtain ⟨v1, hv1, h⟩ := bind_of h
  refine after_i X (run_V X (c_X5_refuse l E a_t a_refusals a_now a_kept a_trial a_reader a_shelves a_one a_two a_search a_outs (-2 : Int32) c_t c_refusals H.size v1 hv1) (cwV 1 hts gX5_row_X5_refuse rfl rfl rfl hV_X5_refuse ⟨(Nat.le_of_ble_eq_true rfl), (Nat.le_of_ble_eq_true rfl)⟩) hP hD hS [0, 1] rfl rfl hl.1 (ci := 5) rfl rfl rfl (rest := []) rfl rfl (Nat.le_of_ble_eq_true rfl) dX5_row_33) hP hD hS [0, 1] rfl (ws1 := (W_X5_row E a_t a_refusals a_shelves a_shelves_contents a_shelves_elements a_shelves_sizes a_now a_kept a_trial a_reader a_one a_two a_search a_outs c_t (v1.2) c_shelves_contents c_shelves_elements c_shelves_sizes)) rfl (fun H locs hP hD hS => ?_)
  obtain rfl := Option.some.inj h
  exact ret_i X dX5_row_36 hP hD hS rfl
set_option maxRecDepth 100000 in
set_option maxHeartbeats 4000000 in
theorem w_X5_row (X : Ctx p m meth c cX5_row 4 ((some .int)) s args wsX5_row RX5 E A) (a_t : Nat) (a_refusals : Nat) (a_shelves : Nat) (a_shelves_contents : Nat) (a_shelves_elements : Nat) (a_shelves_sizes : Nat) (a_now : Nat) (a_kept : Nat) (a_trial : Nat) (a_reader : Nat) (a_one : Nat) (a_two : Nat) (a_search : Nat) (a_outs : Nat) (c_t : Nat → Int32) (res : Int32 × (Nat → Int32) × (Nat → Int32) × (Nat → Int64) × (Nat → Int32)) (c_refusals : Nat → Int32) (c_shelves_contents : Nat → Int32) (c_shelves_elements : Nat → Int64) (c_shelves_sizes : Nat → Int32) (l1 : Int32) (l2 : Int32) (l3 : Int32) (ls : Array Slot) (H : Heap) (locs : List Loc) (h : f_X5_row l1 l2 l3 c_t c_refusals c_shelves_contents c_shelves_elements c_shelves_sizes = some res) (hP : va_P E.1 vwCl (W_X5_row E a_t a_refusals a_shelves a_shelves_contents a_shelves_elements a_shelves_sizes a_now a_kept a_trial a_reader a_one a_two a_search a_outs c_t c_refusals c_shelves_contents c_shelves_elements c_shelves_sizes) H) (hD : va_D A (W_X5_row E a_t a_refusals a_shelves a_shelves_contents a_shelves_elements a_shelves_sizes a_now a_kept a_trial a_reader a_one a_two a_search a_outs c_t c_refusals c_shelves_contents c_shelves_elements c_shelves_sizes)) (hS : va_S A s.heap H locs) (hl : lv_has ls 4 [(0, .ref a_t), (1, .int l1), (2, .int l2), (3, .int l3)]) : W p l e r_X5_row s m args below meth c H locs 0 0 (MQ below (qI E A (res.1) (W_X5_row E a_t a_refusals a_shelves a_shelves_contents a_shelves_elements a_shelves_sizes a_now a_kept a_trial a_reader a_one a_two a_search a_outs c_t (res.2.1) (res.2.2.1) (res.2.2.2.1) (res.2.2.2.2))) args s 0 0 A) (F0 m 0 ls []) := by
  obtain ⟨hx, hb, hml, hr, hlk, hown, hts, hG, hA⟩ := id X
  have hK := hG.1
  have hN := hG.2.1
  unfold f_X5_row at h
  refine lv_aload_n hx hb dX5_row_0 rfl (lv_at hl 0 rfl) ?_
  refine va_get (D := E.1) (ci := 5) (v := .ref a_shelves) (C := RX5) (T := TX5) (N := 11) hx hb hts iX5_row_X5 hown hK hP 0 rfl rfl 4 (by decide) (hts (.fieldLink RX5 34 "LeftIsAgreedOn" "shelves" "LLeftIsAgreedOn$Shelves;") (List.mem_of_getElem? (i := 1) rfl)) (fun _ h9 => h9) rfl dX5_row_1 ?_
  refine lv_iload_n hx hb dX5_row_4 rfl (lv_at hl 1 rfl) ?_
  obtain ⟨v1, hv1, h⟩ := bind_of h
  refine after_i X (run_V X (c_X3_isShelf l E a_shelves a_shelves_contents a_shelves_sizes a_shelves_elements l1 H.size v1 hv1) (cwV 1 hts gX5_row_X3_isShelf rfl rfl rfl hV_X3_isShelf ⟨(Nat.le_of_ble_eq_true rfl), (Nat.le_of_ble_eq_true rfl)⟩) hP hD hS [2] rfl rfl hl.1 (ci := 3) rfl rfl rfl (rest := []) rfl rfl (Nat.le_of_ble_eq_true rfl) dX5_row_5) hP hD hS [2] rfl (ws1 := (W_X5_row E a_t a_refusals a_shelves a_shelves_contents a_shelves_elements a_shelves_sizes a_now a_kept a_trial a_reader a_one a_two a_search a_outs c_t c_refusals c_shelves_contents c_shelves_elements c_shelves_sizes)) rfl (fun H locs hP hD hS => ?_)
  refine lv_if_eq (tgt := 30) hx hb dX5_row_8 (by decide) (fun hc8 => ?_) (fun hc8 => ?_)
  · have h := if_t h hc8
    exact w_X5_row_b30 X a_t a_refusals a_shelves a_shelves_contents a_shelves_elements a_shelves_sizes a_now a_kept a_trial a_reader a_one a_two a_search a_outs c_t res c_refusals c_shelves_contents c_shelves_elements c_shelves_sizes _ _ _ h hP hD hS (lv_sub hl [0] rfl)
  · have h := if_f h hc8
    refine lv_iload_n hx hb dX5_row_11 rfl (lv_at hl 2 rfl) ?_
    refine lv_iconst (v := (0 : Int32)) hx hb dX5_row_12 (by decide) ?_
    refine lv_iconst (v := (4 : Int32)) hx hb dX5_row_13 (by decide) ?_
    obtain ⟨v2, hv2, h⟩ := bind_of h
    refine after_i X (run_S X (c_X5_isWithin l E l2 (0 : Int32) (4 : Int32) H.size v2 hv2) (va_cwS 3 hts gX5_row_X5_isWithin rfl rfl rfl hd_X5_isWithin ⟨(Nat.le_of_ble_eq_true rfl), (Nat.le_of_ble_eq_true rfl)⟩) hP hD hS [] rfl rfl hl.1 (rest := []) rfl rfl (Nat.le_of_ble_eq_true rfl) dX5_row_14) hP hD hS [] rfl (ws1 := (W_X5_row E a_t a_refusals a_shelves a_shelves_contents a_shelves_elements a_shelves_sizes a_now a_kept a_trial a_reader a_one a_two a_search a_outs c_t c_refusals c_shelves_contents c_shelves_elements c_shelves_sizes)) rfl (fun H locs hP hD hS => ?_)
    refine lv_if_eq (tgt := 30) hx hb dX5_row_17 (by decide) (fun hc17 => ?_) (fun hc17 => ?_)
    · have h := if_t h hc17
      exact w_X5_row_b30 X a_t a_refusals a_shelves a_shelves_contents a_shelves_elements a_shelves_sizes a_now a_kept a_trial a_reader a_one a_two a_search a_outs c_t res c_refusals c_shelves_contents c_shelves_elements c_shelves_sizes _ _ _ h hP hD hS (lv_sub hl [0] rfl)
    · have h := if_f h hc17
      refine lv_iload_n hx hb dX5_row_20 rfl (lv_at hl 3 rfl) ?_
      refine lv_iconst (v := (0 : Int32)) hx hb dX5_row_21 (by decide) ?_
      refine lv_bipush (v := (40 : Int32)) hx hb dX5_row_22 (by decide) ?_
      obtain ⟨v3, hv3, h⟩ := bind_of h
      refine after_i X (run_S X (c_X5_isWithin l E l3 (0 : Int32) (40 : Int32) H.size v3 hv3) (va_cwS 3 hts gX5_row_X5_isWithin rfl rfl rfl hd_X5_isWithin ⟨(Nat.le_of_ble_eq_true rfl), (Nat.le_of_ble_eq_true rfl)⟩) hP hD hS [] rfl rfl hl.1 (rest := []) rfl rfl (Nat.le_of_ble_eq_true rfl) dX5_row_24) hP hD hS [] rfl (ws1 := (W_X5_row E a_t a_refusals a_shelves a_shelves_contents a_shelves_elements a_shelves_sizes a_now a_kept a_trial a_reader a_one a_two a_search a_outs c_t c_refusals c_shelves_contents c_shelves_elements c_shelves_sizes)) rfl (fun H locs hP hD hS => ?_)
      refine lv_if_ne (tgt := 37) hx hb dX5_row_27 (by decide) (fun hc27 => ?_) (fun hc27 => ?_)
      · have h := if_f h hc27
        refine lv_aload_n hx hb dX5_row_37 rfl (lv_at hl 0 rfl) ?_
        refine va_get (D := E.1) (ci := 5) (v := .ref a_shelves) (C := RX5) (T := TX5) (N := 11) hx hb hts iX5_row_X5 hown hK hP 0 rfl rfl 4 (by decide) (hts (.fieldLink RX5 34 "LeftIsAgreedOn" "shelves" "LLeftIsAgreedOn$Shelves;") (List.mem_of_getElem? (i := 1) rfl)) (fun _ h9 => h9) rfl dX5_row_38 ?_
        refine lv_iload_n hx hb dX5_row_41 rfl (lv_at hl 1 rfl) ?_
        refine lv_iload_n hx hb dX5_row_42 rfl (lv_at hl 2 rfl) ?_
        refine lv_iload_n hx hb dX5_row_43 rfl (lv_at hl 3 rfl) ?_
        obtain ⟨v4, hv4, h⟩ := bind_of h
        refine after_v X (run_V X (c_X3_holdRow l E a_shelves a_shelves_contents a_shelves_elements a_shelves_sizes l1 l2 l3 c_shelves_contents c_shelves_elements c_shelves_sizes H.size v4 hv4) (cwV 3 hts gX5_row_X3_holdRow rfl rfl rfl hV_X3_holdRow ⟨(Nat.le_of_ble_eq_true rfl), (Nat.le_of_ble_eq_true rfl)⟩) hP hD hS [2, 3, 4, 5] rfl rfl hl.1 (ci := 3) rfl rfl rfl (rest := []) rfl rfl (Nat.le_of_ble_eq_true rfl) dX5_row_44) hP hD hS [2, 3, 4, 5] rfl (ws1 := (W_X5_row E a_t a_refusals a_shelves a_shelves_contents a_shelves_elements a_shelves_sizes a_now a_kept a_trial a_reader a_one a_two a_search a_outs c_t c_refusals (v4.1) (v4.2.1) (v4.2.2))) rfl (fun H locs hP hD hS => ?_)
        refine lv_iconst (v := (1 : Int32)) hx hb dX5_row_47 (by decide) ?_
        obtain rfl := Option.some.inj h
        exact ret_i X dX5_row_48 hP hD hS rfl
      · have h := if_t h hc27
        exact w_X5_row_b30 X a_t a_refusals a_shelves a_shelves_contents a_shelves_elements a_shelves_sizes a_now a_kept a_trial a_reader a_one a_two a_search a_outs c_t res c_refusals c_shelves_contents c_shelves_elements c_shelves_sizes _ _ _ h hP hD hS (lv_sub hl [0] rfl)
end
set_option maxRecDepth 100000 in
theorem c_X5_row (l : Launch) (E : Env0) (a_t : Nat) (a_refusals : Nat) (a_shelves : Nat) (a_shelves_contents : Nat) (a_shelves_elements : Nat) (a_shelves_sizes : Nat) (a_now : Nat) (a_kept : Nat) (a_trial : Nat) (a_reader : Nat) (a_one : Nat) (a_two : Nat) (a_search : Nat) (a_outs : Nat) (l1 : Int32) (l2 : Int32) (l3 : Int32) (c_t : Nat → Int32) (c_refusals : Nat → Int32) (c_shelves_contents : Nat → Int32) (c_shelves_elements : Nat → Int64) (c_shelves_sizes : Nat → Int32) (sz : Nat) (res : Int32 × (Nat → Int32) × (Nat → Int32) × (Nat → Int64) × (Nat → Int32)) (h : f_X5_row l1 l2 l3 c_t c_refusals c_shelves_contents c_shelves_elements c_shelves_sizes = some res) : Met l yX5_row wsX5_row r_X5_row (cPre E [.ref a_t, .int l1, .int l2, .int l3] (W_X5_row E a_t a_refusals a_shelves a_shelves_contents a_shelves_elements a_shelves_sizes a_now a_kept a_trial a_reader a_one a_two a_search a_outs c_t c_refusals c_shelves_contents c_shelves_elements c_shelves_sizes) sz) (qI E (va_A (W_X5_row E a_t a_refusals a_shelves a_shelves_contents a_shelves_elements a_shelves_sizes a_now a_kept a_trial a_reader a_one a_two a_search a_outs c_t c_refusals c_shelves_contents c_shelves_elements c_shelves_sizes) sz) (res.1) (W_X5_row E a_t a_refusals a_shelves a_shelves_contents a_shelves_elements a_shelves_sizes a_now a_kept a_trial a_reader a_one a_two a_search a_outs c_t (res.2.1) (res.2.2.1) (res.2.2.2.1) (res.2.2.2.2))) 0 0 (va_A (W_X5_row E a_t a_refusals a_shelves a_shelves_contents a_shelves_elements a_shelves_sizes a_now a_kept a_trial a_reader a_one a_two a_search a_outs c_t c_refusals c_shelves_contents c_shelves_elements c_shelves_sizes) sz) :=
  met_of (Qc := fun A => qI E A (res.1) (W_X5_row E a_t a_refusals a_shelves a_shelves_contents a_shelves_elements a_shelves_sizes a_now a_kept a_trial a_reader a_one a_two a_search a_outs c_t (res.2.1) (res.2.2.1) (res.2.2.2.1) (res.2.2.2.2))) (by decide) rfl (Nat.le_of_ble_eq_true rfl) (fun p e s m args below meth c X hP hD hS ls hl => w_X5_row X a_t a_refusals a_shelves a_shelves_contents a_shelves_elements a_shelves_sizes a_now a_kept a_trial a_reader a_one a_two a_search a_outs c_t res c_refusals c_shelves_contents c_shelves_elements c_shelves_sizes l1 l2 l3 ls _ _ h hP hD hS hl)
-- ===== X5_rowFault
noncomputable abbrev W_X5_rowFault (E : Env0) (a_t : Nat) (a_shelves : Nat) (a_shelves_contents : Nat) (a_now : Nat) (a_kept : Nat) (a_trial : Nat) (a_reader : Nat) (a_one : Nat) (a_two : Nat) (a_search : Nat) (a_outs : Nat) (a_refusals : Nat) (a_shelves_sizes : Nat) (a_shelves_elements : Nat) (c_t : Nat → Int32) (c_shelves_contents : Nat → Int32) : va_W := [(a_t, .inr (5, [.ref a_now, .ref a_kept, .ref a_trial, .ref a_reader, .ref a_shelves, .ref a_one, .ref a_two, .ref a_search, .ref a_outs, .ref a_refusals, .int (c_t 10)])), (a_shelves, .inr (3, [.ref a_shelves_contents, .ref a_shelves_sizes, .ref a_shelves_elements])), (a_shelves_contents, .inl (eI E, 8, .inl c_shelves_contents))]
noncomputable abbrev r_X5_rowFault : Room := { frames := 1, cells := 0, slots := 0, locals := 21 }
theorem hd_X5_rowFault : yX5_rowFault.cls ≠ "java/lang/invoke/MethodHandle" ∧ yX5_rowFault.cls ≠ "java/lang/invoke/VarHandle" ∧ (parseMethodDescriptor yX5_rowFault.desc).map (fun d => d.parameters.length) = some 2 := by decide +kernel
theorem hV_X5_rowFault : yX5_rowFault.cls = RX5 ∧ yX5_rowFault.cls ≠ "java/lang/invoke/MethodHandle" ∧ yX5_rowFault.cls ≠ "java/lang/invoke/VarHandle" ∧ (parseMethodDescriptor yX5_rowFault.desc).map (fun d => d.parameters.length) = some 2 := ⟨rfl, hd_X5_rowFault⟩
theorem iX5_rowFault_X5 : ∀ w ∈ wsX50, w ∈ wsX5_rowFault := fun _ h => List.mem_cons_of_mem _ (List.mem_append_left _ (List.mem_append_right _ (h)))
section
variable {p : Program} {l : Launch} {e : Env} {s : State} {m : MethodId} {args : Array Value} {below : List Frame} {meth : Method} {c : Code} {E : Env0} {A : Nat → Prop}
set_option maxRecDepth 100000 in
set_option maxHeartbeats 4000000 in
theorem w_X5_rowFault (X : Ctx p m meth c cX5_rowFault 3 ((some .int)) s args wsX5_rowFault RX5 E A) (a_t : Nat) (a_shelves : Nat) (a_shelves_contents : Nat) (a_now : Nat) (a_kept : Nat) (a_trial : Nat) (a_reader : Nat) (a_one : Nat) (a_two : Nat) (a_search : Nat) (a_outs : Nat) (a_refusals : Nat) (a_shelves_sizes : Nat) (a_shelves_elements : Nat) (c_t : Nat → Int32) (c_shelves_contents : Nat → Int32) (res : Int32) (l1 : Int32) (l2 : Int32) (ls : Array Slot) (H : Heap) (locs : List Loc) (h : f_X5_rowFault l1 l2 c_t c_shelves_contents = some res) (hP : va_P E.1 vwCl (W_X5_rowFault E a_t a_shelves a_shelves_contents a_now a_kept a_trial a_reader a_one a_two a_search a_outs a_refusals a_shelves_sizes a_shelves_elements c_t c_shelves_contents) H) (hD : va_D A (W_X5_rowFault E a_t a_shelves a_shelves_contents a_now a_kept a_trial a_reader a_one a_two a_search a_outs a_refusals a_shelves_sizes a_shelves_elements c_t c_shelves_contents)) (hS : va_S A s.heap H locs) (hl : lv_has ls 3 [(0, .ref a_t), (1, .int l1), (2, .int l2)]) : W p l e r_X5_rowFault s m args below meth c H locs 0 0 (MQ below (qI E A res (W_X5_rowFault E a_t a_shelves a_shelves_contents a_now a_kept a_trial a_reader a_one a_two a_search a_outs a_refusals a_shelves_sizes a_shelves_elements c_t c_shelves_contents)) args s 0 0 A) (F0 m 0 ls []) := by
  obtain ⟨hx, hb, hml, hr, hlk, hown, hts, hG, hA⟩ := id X
  have hK := hG.1
  have hN := hG.2.1
  unfold f_X5_rowFault at h
  refine lv_aload_n hx hb dX5_rowFault_0 rfl (lv_at hl 0 rfl) ?_
  refine va_get (D := E.1) (ci := 5) (v := .ref a_shelves) (C := RX5) (T := TX5) (N := 11) hx hb hts iX5_rowFault_X5 hown hK hP 0 rfl rfl 4 (by decide) (hts (.fieldLink RX5 34 "LeftIsAgreedOn" "shelves" "LLeftIsAgreedOn$Shelves;") (List.mem_of_getElem? (i := 1) rfl)) (fun _ h9 => h9) rfl dX5_rowFault_1 ?_
  refine lv_iload_n hx hb dX5_rowFault_4 rfl (lv_at hl 1 rfl) ?_
  obtain ⟨v1, hv1, h⟩ := bind_of h
  refine after_i X (run_V X (c_X3_holdsOne l E a_shelves a_shelves_contents a_shelves_sizes a_shelves_elements l1 c_shelves_contents H.size v1 hv1) (cwV 1 hts gX5_rowFault_X3_holdsOne rfl rfl rfl hV_X3_holdsOne ⟨(Nat.le_of_ble_eq_true rfl), (Nat.le_of_ble_eq_true rfl)⟩) hP hD hS [1, 2] rfl rfl hl.1 (ci := 3) rfl rfl rfl (rest := []) rfl rfl (Nat.le_of_ble_eq_true rfl) dX5_rowFault_5) hP hD hS [1, 2] rfl (ws1 := (W_X5_rowFault E a_t a_shelves a_shelves_contents a_now a_kept a_trial a_reader a_one a_two a_search a_outs a_refusals a_shelves_sizes a_shelves_elements c_t c_shelves_contents)) rfl (fun H locs hP hD hS => ?_)
  refine lv_if_ne (tgt := 22) hx hb dX5_rowFault_8 (by decide) (fun hc8 => ?_) (fun hc8 => ?_)
  · have h := if_f h hc8
    refine lv_bipush (v := (-3 : Int32)) hx hb dX5_rowFault_22 (by decide) ?_
    obtain rfl := Option.some.inj h
    exact ret_i X dX5_rowFault_24 hP hD hS rfl
  · have h := if_t h hc8
    refine lv_aload_n hx hb dX5_rowFault_11 rfl (lv_at hl 0 rfl) ?_
    refine va_get (D := E.1) (ci := 5) (v := .ref a_shelves) (C := RX5) (T := TX5) (N := 11) hx hb hts iX5_rowFault_X5 hown hK hP 0 rfl rfl 4 (by decide) (hts (.fieldLink RX5 34 "LeftIsAgreedOn" "shelves" "LLeftIsAgreedOn$Shelves;") (List.mem_of_getElem? (i := 1) rfl)) (fun _ h9 => h9) rfl dX5_rowFault_12 ?_
    refine lv_iload_n hx hb dX5_rowFault_15 rfl (lv_at hl 2 rfl) ?_
    obtain ⟨v2, hv2, h⟩ := bind_of h
    refine after_i X (run_V X (c_X3_holdsOne l E a_shelves a_shelves_contents a_shelves_sizes a_shelves_elements l2 c_shelves_contents H.size v2 hv2) (cwV 1 hts gX5_rowFault_X3_holdsOne rfl rfl rfl hV_X3_holdsOne ⟨(Nat.le_of_ble_eq_true rfl), (Nat.le_of_ble_eq_true rfl)⟩) hP hD hS [1, 2] rfl rfl hl.1 (ci := 3) rfl rfl rfl (rest := []) rfl rfl (Nat.le_of_ble_eq_true rfl) dX5_rowFault_16) hP hD hS [1, 2] rfl (ws1 := (W_X5_rowFault E a_t a_shelves a_shelves_contents a_now a_kept a_trial a_reader a_one a_two a_search a_outs a_refusals a_shelves_sizes a_shelves_elements c_t c_shelves_contents)) rfl (fun H locs hP hD hS => ?_)
    refine lv_if_eq (tgt := 25) hx hb dX5_rowFault_19 (by decide) (fun hc19 => ?_) (fun hc19 => ?_)
    · have h := if_t h hc19
      refine lv_aload_n hx hb dX5_rowFault_25 rfl (lv_at hl 0 rfl) ?_
      refine va_get (D := E.1) (ci := 5) (v := .ref a_shelves) (C := RX5) (T := TX5) (N := 11) hx hb hts iX5_rowFault_X5 hown hK hP 0 rfl rfl 4 (by decide) (hts (.fieldLink RX5 34 "LeftIsAgreedOn" "shelves" "LLeftIsAgreedOn$Shelves;") (List.mem_of_getElem? (i := 1) rfl)) (fun _ h9 => h9) rfl dX5_rowFault_26 ?_
      refine lv_iload_n hx hb dX5_rowFault_29 rfl (lv_at hl 1 rfl) ?_
      obtain ⟨v3, hv3, h⟩ := bind_of h
      refine after_i X (run_V X (c_X3_held l E a_shelves a_shelves_contents a_shelves_sizes a_shelves_elements l1 c_shelves_contents H.size v3 hv3) (cwV 1 hts gX5_rowFault_X3_held rfl rfl rfl hV_X3_held ⟨(Nat.le_of_ble_eq_true rfl), (Nat.le_of_ble_eq_true rfl)⟩) hP hD hS [1, 2] rfl rfl hl.1 (ci := 3) rfl rfl rfl (rest := []) rfl rfl (Nat.le_of_ble_eq_true rfl) dX5_rowFault_30) hP hD hS [1, 2] rfl (ws1 := (W_X5_rowFault E a_t a_shelves a_shelves_contents a_now a_kept a_trial a_reader a_one a_two a_search a_outs a_refusals a_shelves_sizes a_shelves_elements c_t c_shelves_contents)) rfl (fun H locs hP hD hS => ?_)
      refine lv_iconst (v := (-1 : Int32)) hx hb dX5_rowFault_33 (by decide) ?_
      refine lv_icmp_eq (tgt := 49) hx hb dX5_rowFault_34 (by decide) (fun hc34 => ?_) (fun hc34 => ?_)
      · have h := if_t h hc34
        refine lv_bipush (v := (-4 : Int32)) hx hb dX5_rowFault_49 (by decide) ?_
        refine lv_goto (tgt := 55) hx hb dX5_rowFault_51 (by decide) ?_
        obtain rfl := Option.some.inj h
        exact ret_i X dX5_rowFault_55 hP hD hS rfl
      · have h := if_f h hc34
        refine lv_aload_n hx hb dX5_rowFault_37 rfl (lv_at hl 0 rfl) ?_
        refine va_get (D := E.1) (ci := 5) (v := .ref a_shelves) (C := RX5) (T := TX5) (N := 11) hx hb hts iX5_rowFault_X5 hown hK hP 0 rfl rfl 4 (by decide) (hts (.fieldLink RX5 34 "LeftIsAgreedOn" "shelves" "LLeftIsAgreedOn$Shelves;") (List.mem_of_getElem? (i := 1) rfl)) (fun _ h9 => h9) rfl dX5_rowFault_38 ?_
        refine lv_iload_n hx hb dX5_rowFault_41 rfl (lv_at hl 2 rfl) ?_
        obtain ⟨v4, hv4, h⟩ := bind_of h
        refine after_i X (run_V X (c_X3_held l E a_shelves a_shelves_contents a_shelves_sizes a_shelves_elements l2 c_shelves_contents H.size v4 hv4) (cwV 1 hts gX5_rowFault_X3_held rfl rfl rfl hV_X3_held ⟨(Nat.le_of_ble_eq_true rfl), (Nat.le_of_ble_eq_true rfl)⟩) hP hD hS [1, 2] rfl rfl hl.1 (ci := 3) rfl rfl rfl (rest := []) rfl rfl (Nat.le_of_ble_eq_true rfl) dX5_rowFault_42) hP hD hS [1, 2] rfl (ws1 := (W_X5_rowFault E a_t a_shelves a_shelves_contents a_now a_kept a_trial a_reader a_one a_two a_search a_outs a_refusals a_shelves_sizes a_shelves_elements c_t c_shelves_contents)) rfl (fun H locs hP hD hS => ?_)
        refine lv_iconst (v := (-1 : Int32)) hx hb dX5_rowFault_45 (by decide) ?_
        refine lv_icmp_ne (tgt := 54) hx hb dX5_rowFault_46 (by decide) (fun hc46 => ?_) (fun hc46 => ?_)
        · have h := if_f h hc46
          refine lv_iconst (v := (0 : Int32)) hx hb dX5_rowFault_54 (by decide) ?_
          obtain rfl := Option.some.inj h
          exact ret_i X dX5_rowFault_55 hP hD hS rfl
        · have h := if_t h hc46
          refine lv_bipush (v := (-4 : Int32)) hx hb dX5_rowFault_49 (by decide) ?_
          refine lv_goto (tgt := 55) hx hb dX5_rowFault_51 (by decide) ?_
          obtain rfl := Option.some.inj h
          exact ret_i X dX5_rowFault_55 hP hD hS rfl
    · have h := if_f h hc19
      refine lv_bipush (v := (-3 : Int32)) hx hb dX5_rowFault_22 (by decide) ?_
      obtain rfl := Option.some.inj h
      exact ret_i X dX5_rowFault_24 hP hD hS rfl
end
set_option maxRecDepth 100000 in
theorem c_X5_rowFault (l : Launch) (E : Env0) (a_t : Nat) (a_shelves : Nat) (a_shelves_contents : Nat) (a_now : Nat) (a_kept : Nat) (a_trial : Nat) (a_reader : Nat) (a_one : Nat) (a_two : Nat) (a_search : Nat) (a_outs : Nat) (a_refusals : Nat) (a_shelves_sizes : Nat) (a_shelves_elements : Nat) (l1 : Int32) (l2 : Int32) (c_t : Nat → Int32) (c_shelves_contents : Nat → Int32) (sz : Nat) (res : Int32) (h : f_X5_rowFault l1 l2 c_t c_shelves_contents = some res) : Met l yX5_rowFault wsX5_rowFault r_X5_rowFault (cPre E [.ref a_t, .int l1, .int l2] (W_X5_rowFault E a_t a_shelves a_shelves_contents a_now a_kept a_trial a_reader a_one a_two a_search a_outs a_refusals a_shelves_sizes a_shelves_elements c_t c_shelves_contents) sz) (qI E (va_A (W_X5_rowFault E a_t a_shelves a_shelves_contents a_now a_kept a_trial a_reader a_one a_two a_search a_outs a_refusals a_shelves_sizes a_shelves_elements c_t c_shelves_contents) sz) res (W_X5_rowFault E a_t a_shelves a_shelves_contents a_now a_kept a_trial a_reader a_one a_two a_search a_outs a_refusals a_shelves_sizes a_shelves_elements c_t c_shelves_contents)) 0 0 (va_A (W_X5_rowFault E a_t a_shelves a_shelves_contents a_now a_kept a_trial a_reader a_one a_two a_search a_outs a_refusals a_shelves_sizes a_shelves_elements c_t c_shelves_contents) sz) :=
  met_of (Qc := fun A => qI E A res (W_X5_rowFault E a_t a_shelves a_shelves_contents a_now a_kept a_trial a_reader a_one a_two a_search a_outs a_refusals a_shelves_sizes a_shelves_elements c_t c_shelves_contents)) (by decide) rfl (Nat.le_of_ble_eq_true rfl) (fun p e s m args below meth c X hP hD hS ls hl => w_X5_rowFault X a_t a_shelves a_shelves_contents a_now a_kept a_trial a_reader a_one a_two a_search a_outs a_refusals a_shelves_sizes a_shelves_elements c_t c_shelves_contents res l1 l2 ls _ _ h hP hD hS hl)
-- ===== X5_set
noncomputable abbrev W_X5_set (E : Env0) (a_t : Nat) (a_refusals : Nat) (a_shelves : Nat) (a_shelves_contents : Nat) (a_shelves_elements : Nat) (a_shelves_sizes : Nat) (a_now : Nat) (a_kept : Nat) (a_trial : Nat) (a_reader : Nat) (a_one : Nat) (a_two : Nat) (a_search : Nat) (a_outs : Nat) (c_t : Nat → Int32) (c_refusals : Nat → Int32) (c_shelves_contents : Nat → Int32) (c_shelves_elements : Nat → Int64) (c_shelves_sizes : Nat → Int32) : va_W := [(a_t, .inr (5, [.ref a_now, .ref a_kept, .ref a_trial, .ref a_reader, .ref a_shelves, .ref a_one, .ref a_two, .ref a_search, .ref a_outs, .ref a_refusals, .int (c_t 10)])), (a_refusals, .inl (eI E, 5, .inl c_refusals)), (a_shelves, .inr (3, [.ref a_shelves_contents, .ref a_shelves_sizes, .ref a_shelves_elements])), (a_shelves_contents, .inl (eI E, 8, .inl c_shelves_contents)), (a_shelves_elements, .inl (eJ E, 320, .inr (.inl c_shelves_elements))), (a_shelves_sizes, .inl (eI E, 8, .inl c_shelves_sizes))]
noncomputable abbrev r_X5_set : Room := { frames := 2, cells := 0, slots := 0, locals := 46 }
theorem hd_X5_set : yX5_set.cls ≠ "java/lang/invoke/MethodHandle" ∧ yX5_set.cls ≠ "java/lang/invoke/VarHandle" ∧ (parseMethodDescriptor yX5_set.desc).map (fun d => d.parameters.length) = some 3 := by decide +kernel
theorem hV_X5_set : yX5_set.cls = RX5 ∧ yX5_set.cls ≠ "java/lang/invoke/MethodHandle" ∧ yX5_set.cls ≠ "java/lang/invoke/VarHandle" ∧ (parseMethodDescriptor yX5_set.desc).map (fun d => d.parameters.length) = some 3 := ⟨rfl, hd_X5_set⟩
theorem iX5_set_X5 : ∀ w ∈ wsX50, w ∈ wsX5_set := fun _ h => List.mem_cons_of_mem _ (List.mem_append_left _ (List.mem_append_right _ (h)))
section
variable {p : Program} {l : Launch} {e : Env} {s : State} {m : MethodId} {args : Array Value} {below : List Frame} {meth : Method} {c : Code} {E : Env0} {A : Nat → Prop}
set_option maxRecDepth 100000 in
set_option maxHeartbeats 4000000 in
theorem w_X5_set (X : Ctx p m meth c cX5_set 6 ((some .int)) s args wsX5_set RX5 E A) (a_t : Nat) (a_refusals : Nat) (a_shelves : Nat) (a_shelves_contents : Nat) (a_shelves_elements : Nat) (a_shelves_sizes : Nat) (a_now : Nat) (a_kept : Nat) (a_trial : Nat) (a_reader : Nat) (a_one : Nat) (a_two : Nat) (a_search : Nat) (a_outs : Nat) (c_t : Nat → Int32) (c_shelves_contents : Nat → Int32) (c_shelves_sizes : Nat → Int32) (res : Int32 × (Nat → Int32) × (Nat → Int64)) (c_refusals : Nat → Int32) (c_shelves_elements : Nat → Int64) (l1 : Int32) (l2 : Int32) (l3 : Int64) (ls : Array Slot) (H : Heap) (locs : List Loc) (h : f_X5_set l1 l2 l3 c_t c_refusals c_shelves_contents c_shelves_elements c_shelves_sizes = some res) (hP : va_P E.1 vwCl (W_X5_set E a_t a_refusals a_shelves a_shelves_contents a_shelves_elements a_shelves_sizes a_now a_kept a_trial a_reader a_one a_two a_search a_outs c_t c_refusals c_shelves_contents c_shelves_elements c_shelves_sizes) H) (hD : va_D A (W_X5_set E a_t a_refusals a_shelves a_shelves_contents a_shelves_elements a_shelves_sizes a_now a_kept a_trial a_reader a_one a_two a_search a_outs c_t c_refusals c_shelves_contents c_shelves_elements c_shelves_sizes)) (hS : va_S A s.heap H locs) (hl : lv_has ls 6 [(0, .ref a_t), (1, .int l1), (2, .int l2), (3, .long l3)]) : W p l e r_X5_set s m args below meth c H locs 0 0 (MQ below (qI E A (res.1) (W_X5_set E a_t a_refusals a_shelves a_shelves_contents a_shelves_elements a_shelves_sizes a_now a_kept a_trial a_reader a_one a_two a_search a_outs c_t (res.2.1) c_shelves_contents (res.2.2) c_shelves_sizes)) args s 0 0 A) (F0 m 0 ls []) := by
  obtain ⟨hx, hb, hml, hr, hlk, hown, hts, hG, hA⟩ := id X
  have hK := hG.1
  have hN := hG.2.1
  unfold f_X5_set at h
  refine lv_aload_n hx hb dX5_set_0 rfl (lv_at hl 0 rfl) ?_
  refine va_get (D := E.1) (ci := 5) (v := .ref a_shelves) (C := RX5) (T := TX5) (N := 11) hx hb hts iX5_set_X5 hown hK hP 0 rfl rfl 4 (by decide) (hts (.fieldLink RX5 34 "LeftIsAgreedOn" "shelves" "LLeftIsAgreedOn$Shelves;") (List.mem_of_getElem? (i := 1) rfl)) (fun _ h9 => h9) rfl dX5_set_1 ?_
  refine lv_iload_n hx hb dX5_set_4 rfl (lv_at hl 1 rfl) ?_
  obtain ⟨v1, hv1, h⟩ := bind_of h
  refine after_i X (run_V X (c_X3_isShelf l E a_shelves a_shelves_contents a_shelves_sizes a_shelves_elements l1 H.size v1 hv1) (cwV 1 hts gX5_set_X3_isShelf rfl rfl rfl hV_X3_isShelf ⟨(Nat.le_of_ble_eq_true rfl), (Nat.le_of_ble_eq_true rfl)⟩) hP hD hS [2] rfl rfl hl.1 (ci := 3) rfl rfl rfl (rest := []) rfl rfl (Nat.le_of_ble_eq_true rfl) dX5_set_5) hP hD hS [2] rfl (ws1 := (W_X5_set E a_t a_refusals a_shelves a_shelves_contents a_shelves_elements a_shelves_sizes a_now a_kept a_trial a_reader a_one a_two a_search a_outs c_t c_refusals c_shelves_contents c_shelves_elements c_shelves_sizes)) rfl (fun H locs hP hD hS => ?_)
  refine lv_if_ne (tgt := 18) hx hb dX5_set_8 (by decide) (fun hc8 => ?_) (fun hc8 => ?_)
  · have h := if_f h hc8
    refine lv_aload_n hx hb dX5_set_18 rfl (lv_at hl 0 rfl) ?_
    refine lv_iload_n hx hb dX5_set_19 rfl (lv_at hl 1 rfl) ?_
    refine lv_iload_n hx hb dX5_set_20 rfl (lv_at hl 1 rfl) ?_
    obtain ⟨v2, hv2, h⟩ := bind_of h
    refine after_i X (run_V X (c_X5_rowFault l E a_t a_shelves a_shelves_contents a_now a_kept a_trial a_reader a_one a_two a_search a_outs a_refusals a_shelves_sizes a_shelves_elements l1 l1 c_t c_shelves_contents H.size v2 hv2) (cwV 2 hts gX5_set_X5_rowFault rfl rfl rfl hV_X5_rowFault ⟨(Nat.le_of_ble_eq_true rfl), (Nat.le_of_ble_eq_true rfl)⟩) hP hD hS [0, 2, 3] rfl rfl hl.1 (ci := 5) rfl rfl rfl (rest := []) rfl rfl (Nat.le_of_ble_eq_true rfl) dX5_set_21) hP hD hS [0, 2, 3] rfl (ws1 := (W_X5_set E a_t a_refusals a_shelves a_shelves_contents a_shelves_elements a_shelves_sizes a_now a_kept a_trial a_reader a_one a_two a_search a_outs c_t c_refusals c_shelves_contents c_shelves_elements c_shelves_sizes)) rfl (fun H locs hP hD hS => ?_)
    refine lv_istore (lv' := [(5, .int v2), (0, .ref a_t), (1, .int l1), (2, .int l2), (3, .long l3)]) hx hb dX5_set_24 hl (by decide) rfl (fun ls hl => ?_)
    refine lv_iload hx hb dX5_set_26 (lv_at hl 0 rfl) ?_
    refine lv_if_eq (tgt := 38) hx hb dX5_set_28 (by decide) (fun hc28 => ?_) (fun hc28 => ?_)
    · have h := if_t h hc28
      refine lv_iload_n hx hb dX5_set_38 rfl (lv_at hl 3 rfl) ?_
      refine lv_iconst (v := (0 : Int32)) hx hb dX5_set_39 (by decide) ?_
      refine lv_aload_n hx hb dX5_set_40 rfl (lv_at hl 1 rfl) ?_
      refine va_get (D := E.1) (ci := 5) (v := .ref a_shelves) (C := RX5) (T := TX5) (N := 11) hx hb hts iX5_set_X5 hown hK hP 0 rfl rfl 4 (by decide) (hts (.fieldLink RX5 34 "LeftIsAgreedOn" "shelves" "LLeftIsAgreedOn$Shelves;") (List.mem_of_getElem? (i := 1) rfl)) (fun _ h9 => h9) rfl dX5_set_41 ?_
      refine lv_iload_n hx hb dX5_set_44 rfl (lv_at hl 2 rfl) ?_
      obtain ⟨v3, hv3, h⟩ := bind_of h
      refine after_i X (run_V X (c_X3_sizeOf l E a_shelves a_shelves_sizes a_shelves_contents a_shelves_elements l1 c_shelves_sizes H.size v3 hv3) (cwV 1 hts gX5_set_X3_sizeOf rfl rfl rfl hV_X3_sizeOf ⟨(Nat.le_of_ble_eq_true rfl), (Nat.le_of_ble_eq_true rfl)⟩) hP hD hS [2, 5] rfl rfl hl.1 (ci := 3) rfl rfl rfl (rest := [.int (0 : Int32), .int l2]) rfl rfl (Nat.le_of_ble_eq_true rfl) dX5_set_45) hP hD hS [2, 5] rfl (ws1 := (W_X5_set E a_t a_refusals a_shelves a_shelves_contents a_shelves_elements a_shelves_sizes a_now a_kept a_trial a_reader a_one a_two a_search a_outs c_t c_refusals c_shelves_contents c_shelves_elements c_shelves_sizes)) rfl (fun H locs hP hD hS => ?_)
      refine lv_iconst (v := (1 : Int32)) hx hb dX5_set_48 (by decide) ?_
      refine lv_isub hx hb dX5_set_49 ?_
      obtain ⟨v4, hv4, h⟩ := bind_of h
      refine after_i X (run_S X (c_X5_isWithin l E l2 (0 : Int32) (v3 - (1 : Int32)) H.size v4 hv4) (va_cwS 3 hts gX5_set_X5_isWithin rfl rfl rfl hd_X5_isWithin ⟨(Nat.le_of_ble_eq_true rfl), (Nat.le_of_ble_eq_true rfl)⟩) hP hD hS [] rfl rfl hl.1 (rest := []) rfl rfl (Nat.le_of_ble_eq_true rfl) dX5_set_50) hP hD hS [] rfl (ws1 := (W_X5_set E a_t a_refusals a_shelves a_shelves_contents a_shelves_elements a_shelves_sizes a_now a_kept a_trial a_reader a_one a_two a_search a_outs c_t c_refusals c_shelves_contents c_shelves_elements c_shelves_sizes)) rfl (fun H locs hP hD hS => ?_)
      refine lv_if_ne (tgt := 63) hx hb dX5_set_53 (by decide) (fun hc53 => ?_) (fun hc53 => ?_)
      · have h := if_f h hc53
        refine lv_aload_n hx hb dX5_set_63 rfl (lv_at hl 1 rfl) ?_
        refine va_get (D := E.1) (ci := 5) (v := .ref a_shelves) (C := RX5) (T := TX5) (N := 11) hx hb hts iX5_set_X5 hown hK hP 0 rfl rfl 4 (by decide) (hts (.fieldLink RX5 34 "LeftIsAgreedOn" "shelves" "LLeftIsAgreedOn$Shelves;") (List.mem_of_getElem? (i := 1) rfl)) (fun _ h9 => h9) rfl dX5_set_64 ?_
        refine lv_iload_n hx hb dX5_set_67 rfl (lv_at hl 2 rfl) ?_
        refine lv_iload_n hx hb dX5_set_68 rfl (lv_at hl 3 rfl) ?_
        refine lv_lload_n hx hb dX5_set_69 rfl (lv_at hl 4 rfl) ?_
        obtain ⟨v5, hv5, h⟩ := bind_of h
        refine after_v X (run_V X (c_X3_store l E a_shelves a_shelves_contents a_shelves_elements a_shelves_sizes l1 l2 l3 c_shelves_contents c_shelves_elements H.size v5 hv5) (cwV 3 hts gX5_set_X3_store rfl rfl rfl hV_X3_store ⟨(Nat.le_of_ble_eq_true rfl), (Nat.le_of_ble_eq_true rfl)⟩) hP hD hS [2, 3, 4] rfl rfl hl.1 (ci := 3) rfl rfl rfl (rest := []) rfl rfl (Nat.le_of_ble_eq_true rfl) dX5_set_70) hP hD hS [2, 3, 4] rfl (ws1 := (W_X5_set E a_t a_refusals a_shelves a_shelves_contents a_shelves_elements a_shelves_sizes a_now a_kept a_trial a_reader a_one a_two a_search a_outs c_t c_refusals c_shelves_contents v5 c_shelves_sizes)) rfl (fun H locs hP hD hS => ?_)
        refine lv_iconst (v := (1 : Int32)) hx hb dX5_set_73 (by decide) ?_
        obtain rfl := Option.some.inj h
        exact ret_i X dX5_set_74 hP hD hS rfl
      · have h := if_t h hc53
        refine lv_aload_n hx hb dX5_set_56 rfl (lv_at hl 1 rfl) ?_
        refine lv_bipush (v := (-2 : Int32)) hx hb dX5_set_57 (by decide) ?_
        obtain ⟨v6, hv6, h⟩ := bind_of h
        refine after_i X (run_V X (c_X5_refuse l E a_t a_refusals a_now a_kept a_trial a_reader a_shelves a_one a_two a_search a_outs (-2 : Int32) c_t c_refusals H.size v6 hv6) (cwV 1 hts gX5_set_X5_refuse rfl rfl rfl hV_X5_refuse ⟨(Nat.le_of_ble_eq_true rfl), (Nat.le_of_ble_eq_true rfl)⟩) hP hD hS [0, 1] rfl rfl hl.1 (ci := 5) rfl rfl rfl (rest := []) rfl rfl (Nat.le_of_ble_eq_true rfl) dX5_set_59) hP hD hS [0, 1] rfl (ws1 := (W_X5_set E a_t a_refusals a_shelves a_shelves_contents a_shelves_elements a_shelves_sizes a_now a_kept a_trial a_reader a_one a_two a_search a_outs c_t (v6.2) c_shelves_contents c_shelves_elements c_shelves_sizes)) rfl (fun H locs hP hD hS => ?_)
        obtain rfl := Option.some.inj h
        exact ret_i X dX5_set_62 hP hD hS rfl
    · have h := if_f h hc28
      refine lv_aload_n hx hb dX5_set_31 rfl (lv_at hl 1 rfl) ?_
      refine lv_iload hx hb dX5_set_32 (lv_at hl 0 rfl) ?_
      obtain ⟨v7, hv7, h⟩ := bind_of h
      refine after_i X (run_V X (c_X5_refuse l E a_t a_refusals a_now a_kept a_trial a_reader a_shelves a_one a_two a_search a_outs v2 c_t c_refusals H.size v7 hv7) (cwV 1 hts gX5_set_X5_refuse rfl rfl rfl hV_X5_refuse ⟨(Nat.le_of_ble_eq_true rfl), (Nat.le_of_ble_eq_true rfl)⟩) hP hD hS [0, 1] rfl rfl hl.1 (ci := 5) rfl rfl rfl (rest := []) rfl rfl (Nat.le_of_ble_eq_true rfl) dX5_set_34) hP hD hS [0, 1] rfl (ws1 := (W_X5_set E a_t a_refusals a_shelves a_shelves_contents a_shelves_elements a_shelves_sizes a_now a_kept a_trial a_reader a_one a_two a_search a_outs c_t (v7.2) c_shelves_contents c_shelves_elements c_shelves_sizes)) rfl (fun H locs hP hD hS => ?_)
      obtain rfl := Option.some.inj h
      exact ret_i X dX5_set_37 hP hD hS rfl
  · have h := if_t h hc8
    refine lv_aload_n hx hb dX5_set_11 rfl (lv_at hl 0 rfl) ?_
    refine lv_bipush (v := (-2 : Int32)) hx hb dX5_set_12 (by decide) ?_
    obtain ⟨v8, hv8, h⟩ := bind_of h
    refine after_i X (run_V X (c_X5_refuse l E a_t a_refusals a_now a_kept a_trial a_reader a_shelves a_one a_two a_search a_outs (-2 : Int32) c_t c_refusals H.size v8 hv8) (cwV 1 hts gX5_set_X5_refuse rfl rfl rfl hV_X5_refuse ⟨(Nat.le_of_ble_eq_true rfl), (Nat.le_of_ble_eq_true rfl)⟩) hP hD hS [0, 1] rfl rfl hl.1 (ci := 5) rfl rfl rfl (rest := []) rfl rfl (Nat.le_of_ble_eq_true rfl) dX5_set_14) hP hD hS [0, 1] rfl (ws1 := (W_X5_set E a_t a_refusals a_shelves a_shelves_contents a_shelves_elements a_shelves_sizes a_now a_kept a_trial a_reader a_one a_two a_search a_outs c_t (v8.2) c_shelves_contents c_shelves_elements c_shelves_sizes)) rfl (fun H locs hP hD hS => ?_)
    obtain rfl := Option.some.inj h
    exact ret_i X dX5_set_17 hP hD hS rfl
end
set_option maxRecDepth 100000 in
theorem c_X5_set (l : Launch) (E : Env0) (a_t : Nat) (a_refusals : Nat) (a_shelves : Nat) (a_shelves_contents : Nat) (a_shelves_elements : Nat) (a_shelves_sizes : Nat) (a_now : Nat) (a_kept : Nat) (a_trial : Nat) (a_reader : Nat) (a_one : Nat) (a_two : Nat) (a_search : Nat) (a_outs : Nat) (l1 : Int32) (l2 : Int32) (l3 : Int64) (c_t : Nat → Int32) (c_refusals : Nat → Int32) (c_shelves_contents : Nat → Int32) (c_shelves_elements : Nat → Int64) (c_shelves_sizes : Nat → Int32) (sz : Nat) (res : Int32 × (Nat → Int32) × (Nat → Int64)) (h : f_X5_set l1 l2 l3 c_t c_refusals c_shelves_contents c_shelves_elements c_shelves_sizes = some res) : Met l yX5_set wsX5_set r_X5_set (cPre E [.ref a_t, .int l1, .int l2, .long l3] (W_X5_set E a_t a_refusals a_shelves a_shelves_contents a_shelves_elements a_shelves_sizes a_now a_kept a_trial a_reader a_one a_two a_search a_outs c_t c_refusals c_shelves_contents c_shelves_elements c_shelves_sizes) sz) (qI E (va_A (W_X5_set E a_t a_refusals a_shelves a_shelves_contents a_shelves_elements a_shelves_sizes a_now a_kept a_trial a_reader a_one a_two a_search a_outs c_t c_refusals c_shelves_contents c_shelves_elements c_shelves_sizes) sz) (res.1) (W_X5_set E a_t a_refusals a_shelves a_shelves_contents a_shelves_elements a_shelves_sizes a_now a_kept a_trial a_reader a_one a_two a_search a_outs c_t (res.2.1) c_shelves_contents (res.2.2) c_shelves_sizes)) 0 0 (va_A (W_X5_set E a_t a_refusals a_shelves a_shelves_contents a_shelves_elements a_shelves_sizes a_now a_kept a_trial a_reader a_one a_two a_search a_outs c_t c_refusals c_shelves_contents c_shelves_elements c_shelves_sizes) sz) :=
  met_of (Qc := fun A => qI E A (res.1) (W_X5_set E a_t a_refusals a_shelves a_shelves_contents a_shelves_elements a_shelves_sizes a_now a_kept a_trial a_reader a_one a_two a_search a_outs c_t (res.2.1) c_shelves_contents (res.2.2) c_shelves_sizes)) (by decide) rfl (Nat.le_of_ble_eq_true rfl) (fun p e s m args below meth c X hP hD hS ls hl => w_X5_set X a_t a_refusals a_shelves a_shelves_contents a_shelves_elements a_shelves_sizes a_now a_kept a_trial a_reader a_one a_two a_search a_outs c_t c_shelves_contents c_shelves_sizes res c_refusals c_shelves_elements l1 l2 l3 ls _ _ h hP hD hS hl)
