-- ===== X0_become
noncomputable abbrev W_X0_become (E : Env0) (a_t : Nat) (a_cells : Nat) (a_faces : Nat) (a_kinds : Nat) (a_pledges : Nat) (a_ponds : Nat) (a_weights : Nat) (a_p1 : Nat) (a_p1_cells : Nat) (a_p1_faces : Nat) (a_p1_kinds : Nat) (a_p1_pledges : Nat) (a_p1_ponds : Nat) (a_p1_weights : Nat) (c_t : Nat → Int32) (c_cells : Nat → Int32) (c_faces : Nat → Int32) (c_kinds : Nat → Int32) (c_pledges : Nat → Int32) (c_ponds : Nat → Int32) (c_weights : Nat → Int32) (c_p1 : Nat → Int32) (c_p1_cells : Nat → Int32) (c_p1_faces : Nat → Int32) (c_p1_kinds : Nat → Int32) (c_p1_pledges : Nat → Int32) (c_p1_ponds : Nat → Int32) (c_p1_weights : Nat → Int32) : va_W := [(a_t, .inr (0, [.int (c_t 0), .int (c_t 1), .int (c_t 2), .int (c_t 3), .int (c_t 4), .int (c_t 5), .int (c_t 6), .int (c_t 7), .ref a_ponds, .ref a_kinds, .ref a_weights, .ref a_cells, .ref a_faces, .ref a_pledges])), (a_cells, .inl (eI E, 8, .inl c_cells)), (a_faces, .inl (eI E, 8, .inl c_faces)), (a_kinds, .inl (eI E, 8, .inl c_kinds)), (a_pledges, .inl (eI E, 8, .inl c_pledges)), (a_ponds, .inl (eZ E, 70, .inl c_ponds)), (a_weights, .inl (eI E, 8, .inl c_weights)), (a_p1, .inr (0, [.int (c_p1 0), .int (c_p1 1), .int (c_p1 2), .int (c_p1 3), .int (c_p1 4), .int (c_p1 5), .int (c_p1 6), .int (c_p1 7), .ref a_p1_ponds, .ref a_p1_kinds, .ref a_p1_weights, .ref a_p1_cells, .ref a_p1_faces, .ref a_p1_pledges])), (a_p1_cells, .inl (eI E, 8, .inl c_p1_cells)), (a_p1_faces, .inl (eI E, 8, .inl c_p1_faces)), (a_p1_kinds, .inl (eI E, 8, .inl c_p1_kinds)), (a_p1_pledges, .inl (eI E, 8, .inl c_p1_pledges)), (a_p1_ponds, .inl (eZ E, 70, .inl c_p1_ponds)), (a_p1_weights, .inl (eI E, 8, .inl c_p1_weights))]
noncomputable abbrev r_X0_become : Room := { frames := 0, cells := 0, slots := 0, locals := 0 }
theorem hd_X0_become : yX0_become.cls ≠ "java/lang/invoke/MethodHandle" ∧ yX0_become.cls ≠ "java/lang/invoke/VarHandle" ∧ (parseMethodDescriptor yX0_become.desc).map (fun d => d.parameters.length) = some 1 := by decide +kernel
theorem hV_X0_become : yX0_become.cls = RX0 ∧ yX0_become.cls ≠ "java/lang/invoke/MethodHandle" ∧ yX0_become.cls ≠ "java/lang/invoke/VarHandle" ∧ (parseMethodDescriptor yX0_become.desc).map (fun d => d.parameters.length) = some 1 := ⟨rfl, hd_X0_become⟩
theorem iX0_become_X0 : ∀ w ∈ wsX00, w ∈ wsX0_become := fun _ h => List.mem_cons_of_mem _ (List.mem_append_right _ (h))
section
variable {p : Program} {l : Launch} {e : Env} {s : State} {m : MethodId} {args : Array Value} {below : List Frame} {meth : Method} {c : Code} {E : Env0} {A : Nat → Prop}
set_option maxRecDepth 100000 in
set_option maxHeartbeats 4000000 in
theorem w_X0_become_b92 (X : Ctx p m meth c cX0_become 3 none s args wsX0_become RX0 E A) (a_t : Nat) (a_cells : Nat) (a_faces : Nat) (a_kinds : Nat) (a_pledges : Nat) (a_ponds : Nat) (a_weights : Nat) (a_p1 : Nat) (a_p1_cells : Nat) (a_p1_faces : Nat) (a_p1_kinds : Nat) (a_p1_pledges : Nat) (a_p1_ponds : Nat) (a_p1_weights : Nat) (c_p1 : Nat → Int32) (c_p1_cells : Nat → Int32) (c_p1_faces : Nat → Int32) (c_p1_kinds : Nat → Int32) (c_p1_pledges : Nat → Int32) (c_p1_ponds : Nat → Int32) (c_p1_weights : Nat → Int32) (res : (Nat → Int32) × (Nat → Int32) × (Nat → Int32) × (Nat → Int32) × (Nat → Int32) × (Nat → Int32) × (Nat → Int32)) : ∀ (n : Nat) (c_t : Nat → Int32) (c_cells : Nat → Int32) (c_faces : Nat → Int32) (c_kinds : Nat → Int32) (c_pledges : Nat → Int32) (c_ponds : Nat → Int32) (c_weights : Nat → Int32) (l2 : Int32) (ls : Array Slot) (H : Heap) (locs : List Loc), f_X0_become_b92 c_p1 c_p1_cells c_p1_faces c_p1_kinds c_p1_pledges c_p1_ponds c_p1_weights n c_t c_cells c_faces c_kinds c_pledges c_ponds c_weights l2 = some res → va_P E.1 vwCl (W_X0_become E a_t a_cells a_faces a_kinds a_pledges a_ponds a_weights a_p1 a_p1_cells a_p1_faces a_p1_kinds a_p1_pledges a_p1_ponds a_p1_weights c_t c_cells c_faces c_kinds c_pledges c_ponds c_weights c_p1 c_p1_cells c_p1_faces c_p1_kinds c_p1_pledges c_p1_ponds c_p1_weights) H → va_D A (W_X0_become E a_t a_cells a_faces a_kinds a_pledges a_ponds a_weights a_p1 a_p1_cells a_p1_faces a_p1_kinds a_p1_pledges a_p1_ponds a_p1_weights c_t c_cells c_faces c_kinds c_pledges c_ponds c_weights c_p1 c_p1_cells c_p1_faces c_p1_kinds c_p1_pledges c_p1_ponds c_p1_weights) → va_S A s.heap H locs → lv_has ls 3 [(0, .ref a_t), (1, .ref a_p1), (2, .int l2)] → W p l e r_X0_become s m args below meth c H locs 0 0 (MQ below (qV E A (W_X0_become E a_t a_cells a_faces a_kinds a_pledges a_ponds a_weights a_p1 a_p1_cells a_p1_faces a_p1_kinds a_p1_pledges a_p1_ponds a_p1_weights (res.1) (res.2.1) (res.2.2.1) (res.2.2.2.1) (res.2.2.2.2.1) (res.2.2.2.2.2.1) (res.2.2.2.2.2.2) c_p1 c_p1_cells c_p1_faces c_p1_kinds c_p1_pledges c_p1_ponds c_p1_weights)) args s 0 0 A) (F0 m 92 ls []) := by
  obtain ⟨hx, hb, hml, hr, hlk, hown, hts, hG, hA⟩ := id X
  have hK := hG.1
  have hN := hG.2.1
  intro n
  induction n with
  | zero =>
    intro c_t c_cells c_faces c_kinds c_pledges c_ponds c_weights l2 ls H locs h
    exact absurd (show (none : Option ((Nat → Int32) × (Nat → Int32) × (Nat → Int32) × (Nat → Int32) × (Nat → Int32) × (Nat → Int32) × (Nat → Int32))) = some res from h) (by intro q; cases q)
  | succ n ih =>
    intro c_t c_cells c_faces c_kinds c_pledges c_ponds c_weights l2 ls H locs h hP hD hS hl
    rw [f_X0_become_b92] at h
    refine lv_iload_n hx hb dX0_become_92 rfl (lv_at hl 2 rfl) ?_
    refine lv_bipush (v := (8 : Int32)) hx hb dX0_become_93 (by decide) ?_
    refine lv_icmp_ge (tgt := 164) hx hb dX0_become_95 (by decide) (fun hc95 => ?_) (fun hc95 => ?_)
    · have h := if_t h hc95
      obtain rfl := Option.some.inj h
      exact ret_v X dX0_become_164 hP hD hS
    · have h := if_f h hc95
      refine lv_aload_n hx hb dX0_become_98 rfl (lv_at hl 0 rfl) ?_
      refine va_get (D := E.1) (ci := 0) (v := .ref a_kinds) (C := RX0) (T := TX0) (N := 14) hx hb hts iX0_become_X0 hown hK hP 0 rfl rfl 9 (by decide) (hts (.fieldLink RX0 40 "LeftIsAgreedOn$Island" "kinds" "[I") (List.mem_of_getElem? (i := 10) rfl)) (fun _ h9 => h9) rfl dX0_become_99 ?_
      refine lv_iload_n hx hb dX0_become_102 rfl (lv_at hl 2 rfl) ?_
      refine lv_aload_n hx hb dX0_become_103 rfl (lv_at hl 1 rfl) ?_
      refine va_get (D := E.1) (ci := 0) (v := .ref a_p1_kinds) (C := RX0) (T := TX0) (N := 14) hx hb hts iX0_become_X0 hown hK hP 7 rfl rfl 9 (by decide) (hts (.fieldLink RX0 40 "LeftIsAgreedOn$Island" "kinds" "[I") (List.mem_of_getElem? (i := 10) rfl)) (fun _ h9 => h9) rfl dX0_become_104 ?_
      refine lv_iload_n hx hb dX0_become_107 rfl (lv_at hl 2 rfl) ?_
      obtain ⟨hz108, h⟩ := chk_of h
      refine ld_i X hP 10 rfl (inb.vp hz108) (v := (c_p1_kinds (l2).toNatClampNeg)) rfl dX0_become_108 ?_
      obtain ⟨hz109, h⟩ := chk_of h
      refine st_i X hP hD hS 3 rfl (inb.vp hz109) (k := (l2).toNatClampNeg) rfl (ws1 := (W_X0_become E a_t a_cells a_faces a_kinds a_pledges a_ponds a_weights a_p1 a_p1_cells a_p1_faces a_p1_kinds a_p1_pledges a_p1_ponds a_p1_weights c_t c_cells c_faces (upd c_kinds ((l2).toNatClampNeg) (c_p1_kinds (l2).toNatClampNeg)) c_pledges c_ponds c_weights c_p1 c_p1_cells c_p1_faces c_p1_kinds c_p1_pledges c_p1_ponds c_p1_weights)) rfl dX0_become_109 (fun H locs hP hD hS => ?_)
      refine lv_aload_n hx hb dX0_become_110 rfl (lv_at hl 0 rfl) ?_
      refine va_get (D := E.1) (ci := 0) (v := .ref a_weights) (C := RX0) (T := TX0) (N := 14) hx hb hts iX0_become_X0 hown hK hP 0 rfl rfl 10 (by decide) (hts (.fieldLink RX0 44 "LeftIsAgreedOn$Island" "weights" "[I") (List.mem_of_getElem? (i := 11) rfl)) (fun _ h9 => h9) rfl dX0_become_111 ?_
      refine lv_iload_n hx hb dX0_become_114 rfl (lv_at hl 2 rfl) ?_
      refine lv_aload_n hx hb dX0_become_115 rfl (lv_at hl 1 rfl) ?_
      refine va_get (D := E.1) (ci := 0) (v := .ref a_p1_weights) (C := RX0) (T := TX0) (N := 14) hx hb hts iX0_become_X0 hown hK hP 7 rfl rfl 10 (by decide) (hts (.fieldLink RX0 44 "LeftIsAgreedOn$Island" "weights" "[I") (List.mem_of_getElem? (i := 11) rfl)) (fun _ h9 => h9) rfl dX0_become_116 ?_
      refine lv_iload_n hx hb dX0_become_119 rfl (lv_at hl 2 rfl) ?_
      obtain ⟨hz120, h⟩ := chk_of h
      refine ld_i X hP 13 rfl (inb.vp hz120) (v := (c_p1_weights (l2).toNatClampNeg)) rfl dX0_become_120 ?_
      obtain ⟨hz121, h⟩ := chk_of h
      refine st_i X hP hD hS 6 rfl (inb.vp hz121) (k := (l2).toNatClampNeg) rfl (ws1 := (W_X0_become E a_t a_cells a_faces a_kinds a_pledges a_ponds a_weights a_p1 a_p1_cells a_p1_faces a_p1_kinds a_p1_pledges a_p1_ponds a_p1_weights c_t c_cells c_faces (upd c_kinds ((l2).toNatClampNeg) (c_p1_kinds (l2).toNatClampNeg)) c_pledges c_ponds (upd c_weights ((l2).toNatClampNeg) (c_p1_weights (l2).toNatClampNeg)) c_p1 c_p1_cells c_p1_faces c_p1_kinds c_p1_pledges c_p1_ponds c_p1_weights)) rfl dX0_become_121 (fun H locs hP hD hS => ?_)
      refine lv_aload_n hx hb dX0_become_122 rfl (lv_at hl 0 rfl) ?_
      refine va_get (D := E.1) (ci := 0) (v := .ref a_cells) (C := RX0) (T := TX0) (N := 14) hx hb hts iX0_become_X0 hown hK hP 0 rfl rfl 11 (by decide) (hts (.fieldLink RX0 47 "LeftIsAgreedOn$Island" "cells" "[I") (List.mem_of_getElem? (i := 12) rfl)) (fun _ h9 => h9) rfl dX0_become_123 ?_
      refine lv_iload_n hx hb dX0_become_126 rfl (lv_at hl 2 rfl) ?_
      refine lv_aload_n hx hb dX0_become_127 rfl (lv_at hl 1 rfl) ?_
      refine va_get (D := E.1) (ci := 0) (v := .ref a_p1_cells) (C := RX0) (T := TX0) (N := 14) hx hb hts iX0_become_X0 hown hK hP 7 rfl rfl 11 (by decide) (hts (.fieldLink RX0 47 "LeftIsAgreedOn$Island" "cells" "[I") (List.mem_of_getElem? (i := 12) rfl)) (fun _ h9 => h9) rfl dX0_become_128 ?_
      refine lv_iload_n hx hb dX0_become_131 rfl (lv_at hl 2 rfl) ?_
      obtain ⟨hz132, h⟩ := chk_of h
      refine ld_i X hP 8 rfl (inb.vp hz132) (v := (c_p1_cells (l2).toNatClampNeg)) rfl dX0_become_132 ?_
      obtain ⟨hz133, h⟩ := chk_of h
      refine st_i X hP hD hS 1 rfl (inb.vp hz133) (k := (l2).toNatClampNeg) rfl (ws1 := (W_X0_become E a_t a_cells a_faces a_kinds a_pledges a_ponds a_weights a_p1 a_p1_cells a_p1_faces a_p1_kinds a_p1_pledges a_p1_ponds a_p1_weights c_t (upd c_cells ((l2).toNatClampNeg) (c_p1_cells (l2).toNatClampNeg)) c_faces (upd c_kinds ((l2).toNatClampNeg) (c_p1_kinds (l2).toNatClampNeg)) c_pledges c_ponds (upd c_weights ((l2).toNatClampNeg) (c_p1_weights (l2).toNatClampNeg)) c_p1 c_p1_cells c_p1_faces c_p1_kinds c_p1_pledges c_p1_ponds c_p1_weights)) rfl dX0_become_133 (fun H locs hP hD hS => ?_)
      refine lv_aload_n hx hb dX0_become_134 rfl (lv_at hl 0 rfl) ?_
      refine va_get (D := E.1) (ci := 0) (v := .ref a_faces) (C := RX0) (T := TX0) (N := 14) hx hb hts iX0_become_X0 hown hK hP 0 rfl rfl 12 (by decide) (hts (.fieldLink RX0 50 "LeftIsAgreedOn$Island" "faces" "[I") (List.mem_of_getElem? (i := 13) rfl)) (fun _ h9 => h9) rfl dX0_become_135 ?_
      refine lv_iload_n hx hb dX0_become_138 rfl (lv_at hl 2 rfl) ?_
      refine lv_aload_n hx hb dX0_become_139 rfl (lv_at hl 1 rfl) ?_
      refine va_get (D := E.1) (ci := 0) (v := .ref a_p1_faces) (C := RX0) (T := TX0) (N := 14) hx hb hts iX0_become_X0 hown hK hP 7 rfl rfl 12 (by decide) (hts (.fieldLink RX0 50 "LeftIsAgreedOn$Island" "faces" "[I") (List.mem_of_getElem? (i := 13) rfl)) (fun _ h9 => h9) rfl dX0_become_140 ?_
      refine lv_iload_n hx hb dX0_become_143 rfl (lv_at hl 2 rfl) ?_
      obtain ⟨hz144, h⟩ := chk_of h
      refine ld_i X hP 9 rfl (inb.vp hz144) (v := (c_p1_faces (l2).toNatClampNeg)) rfl dX0_become_144 ?_
      obtain ⟨hz145, h⟩ := chk_of h
      refine st_i X hP hD hS 2 rfl (inb.vp hz145) (k := (l2).toNatClampNeg) rfl (ws1 := (W_X0_become E a_t a_cells a_faces a_kinds a_pledges a_ponds a_weights a_p1 a_p1_cells a_p1_faces a_p1_kinds a_p1_pledges a_p1_ponds a_p1_weights c_t (upd c_cells ((l2).toNatClampNeg) (c_p1_cells (l2).toNatClampNeg)) (upd c_faces ((l2).toNatClampNeg) (c_p1_faces (l2).toNatClampNeg)) (upd c_kinds ((l2).toNatClampNeg) (c_p1_kinds (l2).toNatClampNeg)) c_pledges c_ponds (upd c_weights ((l2).toNatClampNeg) (c_p1_weights (l2).toNatClampNeg)) c_p1 c_p1_cells c_p1_faces c_p1_kinds c_p1_pledges c_p1_ponds c_p1_weights)) rfl dX0_become_145 (fun H locs hP hD hS => ?_)
      refine lv_aload_n hx hb dX0_become_146 rfl (lv_at hl 0 rfl) ?_
      refine va_get (D := E.1) (ci := 0) (v := .ref a_pledges) (C := RX0) (T := TX0) (N := 14) hx hb hts iX0_become_X0 hown hK hP 0 rfl rfl 13 (by decide) (hts (.fieldLink RX0 53 "LeftIsAgreedOn$Island" "pledges" "[I") (List.mem_of_getElem? (i := 14) rfl)) (fun _ h9 => h9) rfl dX0_become_147 ?_
      refine lv_iload_n hx hb dX0_become_150 rfl (lv_at hl 2 rfl) ?_
      refine lv_aload_n hx hb dX0_become_151 rfl (lv_at hl 1 rfl) ?_
      refine va_get (D := E.1) (ci := 0) (v := .ref a_p1_pledges) (C := RX0) (T := TX0) (N := 14) hx hb hts iX0_become_X0 hown hK hP 7 rfl rfl 13 (by decide) (hts (.fieldLink RX0 53 "LeftIsAgreedOn$Island" "pledges" "[I") (List.mem_of_getElem? (i := 14) rfl)) (fun _ h9 => h9) rfl dX0_become_152 ?_
      refine lv_iload_n hx hb dX0_become_155 rfl (lv_at hl 2 rfl) ?_
      obtain ⟨hz156, h⟩ := chk_of h
      refine ld_i X hP 11 rfl (inb.vp hz156) (v := (c_p1_pledges (l2).toNatClampNeg)) rfl dX0_become_156 ?_
      obtain ⟨hz157, h⟩ := chk_of h
      refine st_i X hP hD hS 4 rfl (inb.vp hz157) (k := (l2).toNatClampNeg) rfl (ws1 := (W_X0_become E a_t a_cells a_faces a_kinds a_pledges a_ponds a_weights a_p1 a_p1_cells a_p1_faces a_p1_kinds a_p1_pledges a_p1_ponds a_p1_weights c_t (upd c_cells ((l2).toNatClampNeg) (c_p1_cells (l2).toNatClampNeg)) (upd c_faces ((l2).toNatClampNeg) (c_p1_faces (l2).toNatClampNeg)) (upd c_kinds ((l2).toNatClampNeg) (c_p1_kinds (l2).toNatClampNeg)) (upd c_pledges ((l2).toNatClampNeg) (c_p1_pledges (l2).toNatClampNeg)) c_ponds (upd c_weights ((l2).toNatClampNeg) (c_p1_weights (l2).toNatClampNeg)) c_p1 c_p1_cells c_p1_faces c_p1_kinds c_p1_pledges c_p1_ponds c_p1_weights)) rfl dX0_become_157 (fun H locs hP hD hS => ?_)
      refine lv_iinc (v := (l2 + (1 : Int32))) (lv' := [(2, .int (l2 + (1 : Int32))), (0, .ref a_t), (1, .ref a_p1)]) hx hb dX0_become_158 hl (k := 2) rfl rfl (by decide) rfl (fun ls hl => ?_)
      refine lv_goto (tgt := 92) hx hb dX0_become_161 (by decide) ?_
      exact ih c_t (upd c_cells ((l2).toNatClampNeg) (c_p1_cells (l2).toNatClampNeg)) (upd c_faces ((l2).toNatClampNeg) (c_p1_faces (l2).toNatClampNeg)) (upd c_kinds ((l2).toNatClampNeg) (c_p1_kinds (l2).toNatClampNeg)) (upd c_pledges ((l2).toNatClampNeg) (c_p1_pledges (l2).toNatClampNeg)) c_ponds (upd c_weights ((l2).toNatClampNeg) (c_p1_weights (l2).toNatClampNeg)) (l2 + (1 : Int32)) _ _ _ h hP hD hS (lv_sub hl [1, 2, 0] rfl)
set_option maxRecDepth 100000 in
set_option maxHeartbeats 4000000 in
theorem w_X0_become_b66 (X : Ctx p m meth c cX0_become 3 none s args wsX0_become RX0 E A) (a_t : Nat) (a_cells : Nat) (a_faces : Nat) (a_kinds : Nat) (a_pledges : Nat) (a_ponds : Nat) (a_weights : Nat) (a_p1 : Nat) (a_p1_cells : Nat) (a_p1_faces : Nat) (a_p1_kinds : Nat) (a_p1_pledges : Nat) (a_p1_ponds : Nat) (a_p1_weights : Nat) (c_p1 : Nat → Int32) (c_p1_cells : Nat → Int32) (c_p1_faces : Nat → Int32) (c_p1_kinds : Nat → Int32) (c_p1_pledges : Nat → Int32) (c_p1_ponds : Nat → Int32) (c_p1_weights : Nat → Int32) (res : (Nat → Int32) × (Nat → Int32) × (Nat → Int32) × (Nat → Int32) × (Nat → Int32) × (Nat → Int32) × (Nat → Int32)) : ∀ (n : Nat) (c_t : Nat → Int32) (c_cells : Nat → Int32) (c_faces : Nat → Int32) (c_kinds : Nat → Int32) (c_pledges : Nat → Int32) (c_ponds : Nat → Int32) (c_weights : Nat → Int32) (l2 : Int32) (ls : Array Slot) (H : Heap) (locs : List Loc), f_X0_become_b66 c_p1 c_p1_cells c_p1_faces c_p1_kinds c_p1_pledges c_p1_ponds c_p1_weights n c_t c_cells c_faces c_kinds c_pledges c_ponds c_weights l2 = some res → va_P E.1 vwCl (W_X0_become E a_t a_cells a_faces a_kinds a_pledges a_ponds a_weights a_p1 a_p1_cells a_p1_faces a_p1_kinds a_p1_pledges a_p1_ponds a_p1_weights c_t c_cells c_faces c_kinds c_pledges c_ponds c_weights c_p1 c_p1_cells c_p1_faces c_p1_kinds c_p1_pledges c_p1_ponds c_p1_weights) H → va_D A (W_X0_become E a_t a_cells a_faces a_kinds a_pledges a_ponds a_weights a_p1 a_p1_cells a_p1_faces a_p1_kinds a_p1_pledges a_p1_ponds a_p1_weights c_t c_cells c_faces c_kinds c_pledges c_ponds c_weights c_p1 c_p1_cells c_p1_faces c_p1_kinds c_p1_pledges c_p1_ponds c_p1_weights) → va_S A s.heap H locs → lv_has ls 3 [(0, .ref a_t), (1, .ref a_p1), (2, .int l2)] → W p l e r_X0_become s m args below meth c H locs 0 0 (MQ below (qV E A (W_X0_become E a_t a_cells a_faces a_kinds a_pledges a_ponds a_weights a_p1 a_p1_cells a_p1_faces a_p1_kinds a_p1_pledges a_p1_ponds a_p1_weights (res.1) (res.2.1) (res.2.2.1) (res.2.2.2.1) (res.2.2.2.2.1) (res.2.2.2.2.2.1) (res.2.2.2.2.2.2) c_p1 c_p1_cells c_p1_faces c_p1_kinds c_p1_pledges c_p1_ponds c_p1_weights)) args s 0 0 A) (F0 m 66 ls []) := by
  obtain ⟨hx, hb, hml, hr, hlk, hown, hts, hG, hA⟩ := id X
  have hK := hG.1
  have hN := hG.2.1
  intro n
  induction n with
  | zero =>
    intro c_t c_cells c_faces c_kinds c_pledges c_ponds c_weights l2 ls H locs h
    exact absurd (show (none : Option ((Nat → Int32) × (Nat → Int32) × (Nat → Int32) × (Nat → Int32) × (Nat → Int32) × (Nat → Int32) × (Nat → Int32))) = some res from h) (by intro q; cases q)
  | succ n ih =>
    intro c_t c_cells c_faces c_kinds c_pledges c_ponds c_weights l2 ls H locs h hP hD hS hl
    rw [f_X0_become_b66] at h
    refine lv_iload_n hx hb dX0_become_66 rfl (lv_at hl 2 rfl) ?_
    refine lv_bipush (v := (70 : Int32)) hx hb dX0_become_67 (by decide) ?_
    refine lv_icmp_ge (tgt := 90) hx hb dX0_become_69 (by decide) (fun hc69 => ?_) (fun hc69 => ?_)
    · have h := if_t h hc69
      refine lv_iconst (v := (0 : Int32)) hx hb dX0_become_90 (by decide) ?_
      refine lv_istore_n (lv' := [(2, .int (0 : Int32)), (0, .ref a_t), (1, .ref a_p1)]) hx hb dX0_become_91 rfl hl (by decide) rfl (fun ls hl => ?_)
      exact w_X0_become_b92 X a_t a_cells a_faces a_kinds a_pledges a_ponds a_weights a_p1 a_p1_cells a_p1_faces a_p1_kinds a_p1_pledges a_p1_ponds a_p1_weights c_p1 c_p1_cells c_p1_faces c_p1_kinds c_p1_pledges c_p1_ponds c_p1_weights res FU c_t c_cells c_faces c_kinds c_pledges c_ponds c_weights (0 : Int32) _ _ _ h hP hD hS (lv_sub hl [1, 2, 0] rfl)
    · have h := if_f h hc69
      refine lv_aload_n hx hb dX0_become_72 rfl (lv_at hl 0 rfl) ?_
      refine va_get (D := E.1) (ci := 0) (v := .ref a_ponds) (C := RX0) (T := TX0) (N := 14) hx hb hts iX0_become_X0 hown hK hP 0 rfl rfl 8 (by decide) (hts (.fieldLink RX0 36 "LeftIsAgreedOn$Island" "ponds" "[Z") (List.mem_of_getElem? (i := 9) rfl)) (fun _ h9 => h9) rfl dX0_become_73 ?_
      refine lv_iload_n hx hb dX0_become_76 rfl (lv_at hl 2 rfl) ?_
      refine lv_aload_n hx hb dX0_become_77 rfl (lv_at hl 1 rfl) ?_
      refine va_get (D := E.1) (ci := 0) (v := .ref a_p1_ponds) (C := RX0) (T := TX0) (N := 14) hx hb hts iX0_become_X0 hown hK hP 7 rfl rfl 8 (by decide) (hts (.fieldLink RX0 36 "LeftIsAgreedOn$Island" "ponds" "[Z") (List.mem_of_getElem? (i := 9) rfl)) (fun _ h9 => h9) rfl dX0_become_78 ?_
      refine lv_iload_n hx hb dX0_become_81 rfl (lv_at hl 2 rfl) ?_
      obtain ⟨hz82, h⟩ := chk_of h
      refine ld_z X hP 12 rfl (inb.vp hz82) (v := (c_p1_ponds (l2).toNatClampNeg)) rfl dX0_become_82 ?_
      obtain ⟨hz83, h⟩ := chk_of h
      refine st_z X hP hD hS 5 rfl (inb.vp hz83) (k := (l2).toNatClampNeg) rfl (ws1 := (W_X0_become E a_t a_cells a_faces a_kinds a_pledges a_ponds a_weights a_p1 a_p1_cells a_p1_faces a_p1_kinds a_p1_pledges a_p1_ponds a_p1_weights c_t c_cells c_faces c_kinds c_pledges (upd c_ponds ((l2).toNatClampNeg) (vp_nar .boolean (c_p1_ponds (l2).toNatClampNeg))) c_weights c_p1 c_p1_cells c_p1_faces c_p1_kinds c_p1_pledges c_p1_ponds c_p1_weights)) rfl dX0_become_83 (fun H locs hP hD hS => ?_)
      refine lv_iinc (v := (l2 + (1 : Int32))) (lv' := [(2, .int (l2 + (1 : Int32))), (0, .ref a_t), (1, .ref a_p1)]) hx hb dX0_become_84 hl (k := 2) rfl rfl (by decide) rfl (fun ls hl => ?_)
      refine lv_goto (tgt := 66) hx hb dX0_become_87 (by decide) ?_
      exact ih c_t c_cells c_faces c_kinds c_pledges (upd c_ponds ((l2).toNatClampNeg) (vp_nar .boolean (c_p1_ponds (l2).toNatClampNeg))) c_weights (l2 + (1 : Int32)) _ _ _ h hP hD hS (lv_sub hl [1, 2, 0] rfl)
set_option maxRecDepth 100000 in
set_option maxHeartbeats 4000000 in
theorem w_X0_become (X : Ctx p m meth c cX0_become 3 none s args wsX0_become RX0 E A) (a_t : Nat) (a_cells : Nat) (a_faces : Nat) (a_kinds : Nat) (a_pledges : Nat) (a_ponds : Nat) (a_weights : Nat) (a_p1 : Nat) (a_p1_cells : Nat) (a_p1_faces : Nat) (a_p1_kinds : Nat) (a_p1_pledges : Nat) (a_p1_ponds : Nat) (a_p1_weights : Nat) (c_p1 : Nat → Int32) (c_p1_cells : Nat → Int32) (c_p1_faces : Nat → Int32) (c_p1_kinds : Nat → Int32) (c_p1_pledges : Nat → Int32) (c_p1_ponds : Nat → Int32) (c_p1_weights : Nat → Int32) (res : (Nat → Int32) × (Nat → Int32) × (Nat → Int32) × (Nat → Int32) × (Nat → Int32) × (Nat → Int32) × (Nat → Int32)) (c_t : Nat → Int32) (c_cells : Nat → Int32) (c_faces : Nat → Int32) (c_kinds : Nat → Int32) (c_pledges : Nat → Int32) (c_ponds : Nat → Int32) (c_weights : Nat → Int32) (ls : Array Slot) (H : Heap) (locs : List Loc) (h : f_X0_become c_t c_cells c_faces c_kinds c_pledges c_ponds c_weights c_p1 c_p1_cells c_p1_faces c_p1_kinds c_p1_pledges c_p1_ponds c_p1_weights = some res) (hP : va_P E.1 vwCl (W_X0_become E a_t a_cells a_faces a_kinds a_pledges a_ponds a_weights a_p1 a_p1_cells a_p1_faces a_p1_kinds a_p1_pledges a_p1_ponds a_p1_weights c_t c_cells c_faces c_kinds c_pledges c_ponds c_weights c_p1 c_p1_cells c_p1_faces c_p1_kinds c_p1_pledges c_p1_ponds c_p1_weights) H) (hD : va_D A (W_X0_become E a_t a_cells a_faces a_kinds a_pledges a_ponds a_weights a_p1 a_p1_cells a_p1_faces a_p1_kinds a_p1_pledges a_p1_ponds a_p1_weights c_t c_cells c_faces c_kinds c_pledges c_ponds c_weights c_p1 c_p1_cells c_p1_faces c_p1_kinds c_p1_pledges c_p1_ponds c_p1_weights)) (hS : va_S A s.heap H locs) (hl : lv_has ls 3 [(0, .ref a_t), (1, .ref a_p1)]) : W p l e r_X0_become s m args below meth c H locs 0 0 (MQ below (qV E A (W_X0_become E a_t a_cells a_faces a_kinds a_pledges a_ponds a_weights a_p1 a_p1_cells a_p1_faces a_p1_kinds a_p1_pledges a_p1_ponds a_p1_weights (res.1) (res.2.1) (res.2.2.1) (res.2.2.2.1) (res.2.2.2.2.1) (res.2.2.2.2.2.1) (res.2.2.2.2.2.2) c_p1 c_p1_cells c_p1_faces c_p1_kinds c_p1_pledges c_p1_ponds c_p1_weights)) args s 0 0 A) (F0 m 0 ls []) := by
  obtain ⟨hx, hb, hml, hr, hlk, hown, hts, hG, hA⟩ := id X
  have hK := hG.1
  have hN := hG.2.1
  unfold f_X0_become at h
  refine lv_aload_n hx hb dX0_become_0 rfl (lv_at hl 0 rfl) ?_
  refine lv_aload_n hx hb dX0_become_1 rfl (lv_at hl 1 rfl) ?_
  refine va_get (D := E.1) (ci := 0) (v := .int (c_p1 0)) (C := RX0) (T := TX0) (N := 14) hx hb hts iX0_become_X0 hown hK hP 7 rfl rfl 0 (by decide) (hts (.fieldLink RX0 9 "LeftIsAgreedOn$Island" "side" "I") (List.mem_of_getElem? (i := 1) rfl)) (fun _ h9 => h9) rfl dX0_become_2 ?_
  refine va_put (D := E.1) (ci := 0) (v := .int (c_p1 0)) (ty := .int) (C := RX0) (T := TX0) (N := 14) hx hb hts iX0_become_X0 tyX0 tyX0_ok nmX0 hown hK hP hD hS 0 rfl rfl 0 (by decide) (hts (.fieldLink RX0 9 "LeftIsAgreedOn$Island" "side" "I") (List.mem_of_getElem? (i := 1) rfl)) (fun _ h9 => h9) rfl (tyX0_ok 0 (by decide)) rfl rfl (Nat.le_of_ble_eq_true rfl) dX0_become_5 (fun H locs hP hD hS => ?_)
  have hP : va_P E.1 vwCl (W_X0_become E a_t a_cells a_faces a_kinds a_pledges a_ponds a_weights a_p1 a_p1_cells a_p1_faces a_p1_kinds a_p1_pledges a_p1_ponds a_p1_weights (upd c_t 0 (c_p1 0)) c_cells c_faces c_kinds c_pledges c_ponds c_weights c_p1 c_p1_cells c_p1_faces c_p1_kinds c_p1_pledges c_p1_ponds c_p1_weights) H := hP
  have hD : va_D A (W_X0_become E a_t a_cells a_faces a_kinds a_pledges a_ponds a_weights a_p1 a_p1_cells a_p1_faces a_p1_kinds a_p1_pledges a_p1_ponds a_p1_weights (upd c_t 0 (c_p1 0)) c_cells c_faces c_kinds c_pledges c_ponds c_weights c_p1 c_p1_cells c_p1_faces c_p1_kinds c_p1_pledges c_p1_ponds c_p1_weights) := hD
  refine lv_aload_n hx hb dX0_become_8 rfl (lv_at hl 0 rfl) ?_
  refine lv_aload_n hx hb dX0_become_9 rfl (lv_at hl 1 rfl) ?_
  refine va_get (D := E.1) (ci := 0) (v := .int (c_p1 1)) (C := RX0) (T := TX0) (N := 14) hx hb hts iX0_become_X0 hown hK hP 7 rfl rfl 1 (by decide) (hts (.fieldLink RX0 15 "LeftIsAgreedOn$Island" "left" "I") (List.mem_of_getElem? (i := 2) rfl)) (fun _ h9 => h9) rfl dX0_become_10 ?_
  refine va_put (D := E.1) (ci := 0) (v := .int (c_p1 1)) (ty := .int) (C := RX0) (T := TX0) (N := 14) hx hb hts iX0_become_X0 tyX0 tyX0_ok nmX0 hown hK hP hD hS 0 rfl rfl 1 (by decide) (hts (.fieldLink RX0 15 "LeftIsAgreedOn$Island" "left" "I") (List.mem_of_getElem? (i := 2) rfl)) (fun _ h9 => h9) rfl (tyX0_ok 1 (by decide)) rfl rfl (Nat.le_of_ble_eq_true rfl) dX0_become_13 (fun H locs hP hD hS => ?_)
  have hP : va_P E.1 vwCl (W_X0_become E a_t a_cells a_faces a_kinds a_pledges a_ponds a_weights a_p1 a_p1_cells a_p1_faces a_p1_kinds a_p1_pledges a_p1_ponds a_p1_weights (upd (upd c_t 0 (c_p1 0)) 1 (c_p1 1)) c_cells c_faces c_kinds c_pledges c_ponds c_weights c_p1 c_p1_cells c_p1_faces c_p1_kinds c_p1_pledges c_p1_ponds c_p1_weights) H := hP
  have hD : va_D A (W_X0_become E a_t a_cells a_faces a_kinds a_pledges a_ponds a_weights a_p1 a_p1_cells a_p1_faces a_p1_kinds a_p1_pledges a_p1_ponds a_p1_weights (upd (upd c_t 0 (c_p1 0)) 1 (c_p1 1)) c_cells c_faces c_kinds c_pledges c_ponds c_weights c_p1 c_p1_cells c_p1_faces c_p1_kinds c_p1_pledges c_p1_ponds c_p1_weights) := hD
  refine lv_aload_n hx hb dX0_become_16 rfl (lv_at hl 0 rfl) ?_
  refine lv_aload_n hx hb dX0_become_17 rfl (lv_at hl 1 rfl) ?_
  refine va_get (D := E.1) (ci := 0) (v := .int (c_p1 2)) (C := RX0) (T := TX0) (N := 14) hx hb hts iX0_become_X0 hown hK hP 7 rfl rfl 2 (by decide) (hts (.fieldLink RX0 18 "LeftIsAgreedOn$Island" "old" "I") (List.mem_of_getElem? (i := 3) rfl)) (fun _ h9 => h9) rfl dX0_become_18 ?_
  refine va_put (D := E.1) (ci := 0) (v := .int (c_p1 2)) (ty := .int) (C := RX0) (T := TX0) (N := 14) hx hb hts iX0_become_X0 tyX0 tyX0_ok nmX0 hown hK hP hD hS 0 rfl rfl 2 (by decide) (hts (.fieldLink RX0 18 "LeftIsAgreedOn$Island" "old" "I") (List.mem_of_getElem? (i := 3) rfl)) (fun _ h9 => h9) rfl (tyX0_ok 2 (by decide)) rfl rfl (Nat.le_of_ble_eq_true rfl) dX0_become_21 (fun H locs hP hD hS => ?_)
  have hP : va_P E.1 vwCl (W_X0_become E a_t a_cells a_faces a_kinds a_pledges a_ponds a_weights a_p1 a_p1_cells a_p1_faces a_p1_kinds a_p1_pledges a_p1_ponds a_p1_weights (upd (upd (upd c_t 0 (c_p1 0)) 1 (c_p1 1)) 2 (c_p1 2)) c_cells c_faces c_kinds c_pledges c_ponds c_weights c_p1 c_p1_cells c_p1_faces c_p1_kinds c_p1_pledges c_p1_ponds c_p1_weights) H := hP
  have hD : va_D A (W_X0_become E a_t a_cells a_faces a_kinds a_pledges a_ponds a_weights a_p1 a_p1_cells a_p1_faces a_p1_kinds a_p1_pledges a_p1_ponds a_p1_weights (upd (upd (upd c_t 0 (c_p1 0)) 1 (c_p1 1)) 2 (c_p1 2)) c_cells c_faces c_kinds c_pledges c_ponds c_weights c_p1 c_p1_cells c_p1_faces c_p1_kinds c_p1_pledges c_p1_ponds c_p1_weights) := hD
  refine lv_aload_n hx hb dX0_become_24 rfl (lv_at hl 0 rfl) ?_
  refine lv_aload_n hx hb dX0_become_25 rfl (lv_at hl 1 rfl) ?_
  refine va_get (D := E.1) (ci := 0) (v := .int (c_p1 3)) (C := RX0) (T := TX0) (N := 14) hx hb hts iX0_become_X0 hown hK hP 7 rfl rfl 3 (by decide) (hts (.fieldLink RX0 21 "LeftIsAgreedOn$Island" "doubt" "I") (List.mem_of_getElem? (i := 4) rfl)) (fun _ h9 => h9) rfl dX0_become_26 ?_
  refine va_put (D := E.1) (ci := 0) (v := .int (c_p1 3)) (ty := .int) (C := RX0) (T := TX0) (N := 14) hx hb hts iX0_become_X0 tyX0 tyX0_ok nmX0 hown hK hP hD hS 0 rfl rfl 3 (by decide) (hts (.fieldLink RX0 21 "LeftIsAgreedOn$Island" "doubt" "I") (List.mem_of_getElem? (i := 4) rfl)) (fun _ h9 => h9) rfl (tyX0_ok 3 (by decide)) rfl rfl (Nat.le_of_ble_eq_true rfl) dX0_become_29 (fun H locs hP hD hS => ?_)
  have hP : va_P E.1 vwCl (W_X0_become E a_t a_cells a_faces a_kinds a_pledges a_ponds a_weights a_p1 a_p1_cells a_p1_faces a_p1_kinds a_p1_pledges a_p1_ponds a_p1_weights (upd (upd (upd (upd c_t 0 (c_p1 0)) 1 (c_p1 1)) 2 (c_p1 2)) 3 (c_p1 3)) c_cells c_faces c_kinds c_pledges c_ponds c_weights c_p1 c_p1_cells c_p1_faces c_p1_kinds c_p1_pledges c_p1_ponds c_p1_weights) H := hP
  have hD : va_D A (W_X0_become E a_t a_cells a_faces a_kinds a_pledges a_ponds a_weights a_p1 a_p1_cells a_p1_faces a_p1_kinds a_p1_pledges a_p1_ponds a_p1_weights (upd (upd (upd (upd c_t 0 (c_p1 0)) 1 (c_p1 1)) 2 (c_p1 2)) 3 (c_p1 3)) c_cells c_faces c_kinds c_pledges c_ponds c_weights c_p1 c_p1_cells c_p1_faces c_p1_kinds c_p1_pledges c_p1_ponds c_p1_weights) := hD
  refine lv_aload_n hx hb dX0_become_32 rfl (lv_at hl 0 rfl) ?_
  refine lv_aload_n hx hb dX0_become_33 rfl (lv_at hl 1 rfl) ?_
  refine va_get (D := E.1) (ci := 0) (v := .int (c_p1 4)) (C := RX0) (T := TX0) (N := 14) hx hb hts iX0_become_X0 hown hK hP 7 rfl rfl 4 (by decide) (hts (.fieldLink RX0 24 "LeftIsAgreedOn$Island" "years" "I") (List.mem_of_getElem? (i := 5) rfl)) (fun _ h9 => h9) rfl dX0_become_34 ?_
  refine va_put (D := E.1) (ci := 0) (v := .int (c_p1 4)) (ty := .int) (C := RX0) (T := TX0) (N := 14) hx hb hts iX0_become_X0 tyX0 tyX0_ok nmX0 hown hK hP hD hS 0 rfl rfl 4 (by decide) (hts (.fieldLink RX0 24 "LeftIsAgreedOn$Island" "years" "I") (List.mem_of_getElem? (i := 5) rfl)) (fun _ h9 => h9) rfl (tyX0_ok 4 (by decide)) rfl rfl (Nat.le_of_ble_eq_true rfl) dX0_become_37 (fun H locs hP hD hS => ?_)
  have hP : va_P E.1 vwCl (W_X0_become E a_t a_cells a_faces a_kinds a_pledges a_ponds a_weights a_p1 a_p1_cells a_p1_faces a_p1_kinds a_p1_pledges a_p1_ponds a_p1_weights (upd (upd (upd (upd (upd c_t 0 (c_p1 0)) 1 (c_p1 1)) 2 (c_p1 2)) 3 (c_p1 3)) 4 (c_p1 4)) c_cells c_faces c_kinds c_pledges c_ponds c_weights c_p1 c_p1_cells c_p1_faces c_p1_kinds c_p1_pledges c_p1_ponds c_p1_weights) H := hP
  have hD : va_D A (W_X0_become E a_t a_cells a_faces a_kinds a_pledges a_ponds a_weights a_p1 a_p1_cells a_p1_faces a_p1_kinds a_p1_pledges a_p1_ponds a_p1_weights (upd (upd (upd (upd (upd c_t 0 (c_p1 0)) 1 (c_p1 1)) 2 (c_p1 2)) 3 (c_p1 3)) 4 (c_p1 4)) c_cells c_faces c_kinds c_pledges c_ponds c_weights c_p1 c_p1_cells c_p1_faces c_p1_kinds c_p1_pledges c_p1_ponds c_p1_weights) := hD
  refine lv_aload_n hx hb dX0_become_40 rfl (lv_at hl 0 rfl) ?_
  refine lv_aload_n hx hb dX0_become_41 rfl (lv_at hl 1 rfl) ?_
  refine va_get (D := E.1) (ci := 0) (v := .int (c_p1 5)) (C := RX0) (T := TX0) (N := 14) hx hb hts iX0_become_X0 hown hK hP 7 rfl rfl 5 (by decide) (hts (.fieldLink RX0 27 "LeftIsAgreedOn$Island" "fallen" "I") (List.mem_of_getElem? (i := 6) rfl)) (fun _ h9 => h9) rfl dX0_become_42 ?_
  refine va_put (D := E.1) (ci := 0) (v := .int (c_p1 5)) (ty := .int) (C := RX0) (T := TX0) (N := 14) hx hb hts iX0_become_X0 tyX0 tyX0_ok nmX0 hown hK hP hD hS 0 rfl rfl 5 (by decide) (hts (.fieldLink RX0 27 "LeftIsAgreedOn$Island" "fallen" "I") (List.mem_of_getElem? (i := 6) rfl)) (fun _ h9 => h9) rfl (tyX0_ok 5 (by decide)) rfl rfl (Nat.le_of_ble_eq_true rfl) dX0_become_45 (fun H locs hP hD hS => ?_)
  have hP : va_P E.1 vwCl (W_X0_become E a_t a_cells a_faces a_kinds a_pledges a_ponds a_weights a_p1 a_p1_cells a_p1_faces a_p1_kinds a_p1_pledges a_p1_ponds a_p1_weights (upd (upd (upd (upd (upd (upd c_t 0 (c_p1 0)) 1 (c_p1 1)) 2 (c_p1 2)) 3 (c_p1 3)) 4 (c_p1 4)) 5 (c_p1 5)) c_cells c_faces c_kinds c_pledges c_ponds c_weights c_p1 c_p1_cells c_p1_faces c_p1_kinds c_p1_pledges c_p1_ponds c_p1_weights) H := hP
  have hD : va_D A (W_X0_become E a_t a_cells a_faces a_kinds a_pledges a_ponds a_weights a_p1 a_p1_cells a_p1_faces a_p1_kinds a_p1_pledges a_p1_ponds a_p1_weights (upd (upd (upd (upd (upd (upd c_t 0 (c_p1 0)) 1 (c_p1 1)) 2 (c_p1 2)) 3 (c_p1 3)) 4 (c_p1 4)) 5 (c_p1 5)) c_cells c_faces c_kinds c_pledges c_ponds c_weights c_p1 c_p1_cells c_p1_faces c_p1_kinds c_p1_pledges c_p1_ponds c_p1_weights) := hD
  refine lv_aload_n hx hb dX0_become_48 rfl (lv_at hl 0 rfl) ?_
  refine lv_aload_n hx hb dX0_become_49 rfl (lv_at hl 1 rfl) ?_
  refine va_get (D := E.1) (ci := 0) (v := .int (c_p1 6)) (C := RX0) (T := TX0) (N := 14) hx hb hts iX0_become_X0 hown hK hP 7 rfl rfl 6 (by decide) (hts (.fieldLink RX0 30 "LeftIsAgreedOn$Island" "seed" "I") (List.mem_of_getElem? (i := 7) rfl)) (fun _ h9 => h9) rfl dX0_become_50 ?_
  refine va_put (D := E.1) (ci := 0) (v := .int (c_p1 6)) (ty := .int) (C := RX0) (T := TX0) (N := 14) hx hb hts iX0_become_X0 tyX0 tyX0_ok nmX0 hown hK hP hD hS 0 rfl rfl 6 (by decide) (hts (.fieldLink RX0 30 "LeftIsAgreedOn$Island" "seed" "I") (List.mem_of_getElem? (i := 7) rfl)) (fun _ h9 => h9) rfl (tyX0_ok 6 (by decide)) rfl rfl (Nat.le_of_ble_eq_true rfl) dX0_become_53 (fun H locs hP hD hS => ?_)
  have hP : va_P E.1 vwCl (W_X0_become E a_t a_cells a_faces a_kinds a_pledges a_ponds a_weights a_p1 a_p1_cells a_p1_faces a_p1_kinds a_p1_pledges a_p1_ponds a_p1_weights (upd (upd (upd (upd (upd (upd (upd c_t 0 (c_p1 0)) 1 (c_p1 1)) 2 (c_p1 2)) 3 (c_p1 3)) 4 (c_p1 4)) 5 (c_p1 5)) 6 (c_p1 6)) c_cells c_faces c_kinds c_pledges c_ponds c_weights c_p1 c_p1_cells c_p1_faces c_p1_kinds c_p1_pledges c_p1_ponds c_p1_weights) H := hP
  have hD : va_D A (W_X0_become E a_t a_cells a_faces a_kinds a_pledges a_ponds a_weights a_p1 a_p1_cells a_p1_faces a_p1_kinds a_p1_pledges a_p1_ponds a_p1_weights (upd (upd (upd (upd (upd (upd (upd c_t 0 (c_p1 0)) 1 (c_p1 1)) 2 (c_p1 2)) 3 (c_p1 3)) 4 (c_p1 4)) 5 (c_p1 5)) 6 (c_p1 6)) c_cells c_faces c_kinds c_pledges c_ponds c_weights c_p1 c_p1_cells c_p1_faces c_p1_kinds c_p1_pledges c_p1_ponds c_p1_weights) := hD
  refine lv_aload_n hx hb dX0_become_56 rfl (lv_at hl 0 rfl) ?_
  refine lv_aload_n hx hb dX0_become_57 rfl (lv_at hl 1 rfl) ?_
  refine va_get (D := E.1) (ci := 0) (v := .int (c_p1 7)) (C := RX0) (T := TX0) (N := 14) hx hb hts iX0_become_X0 hown hK hP 7 rfl rfl 7 (by decide) (hts (.fieldLink RX0 33 "LeftIsAgreedOn$Island" "count" "I") (List.mem_of_getElem? (i := 8) rfl)) (fun _ h9 => h9) rfl dX0_become_58 ?_
  refine va_put (D := E.1) (ci := 0) (v := .int (c_p1 7)) (ty := .int) (C := RX0) (T := TX0) (N := 14) hx hb hts iX0_become_X0 tyX0 tyX0_ok nmX0 hown hK hP hD hS 0 rfl rfl 7 (by decide) (hts (.fieldLink RX0 33 "LeftIsAgreedOn$Island" "count" "I") (List.mem_of_getElem? (i := 8) rfl)) (fun _ h9 => h9) rfl (tyX0_ok 7 (by decide)) rfl rfl (Nat.le_of_ble_eq_true rfl) dX0_become_61 (fun H locs hP hD hS => ?_)
  have hP : va_P E.1 vwCl (W_X0_become E a_t a_cells a_faces a_kinds a_pledges a_ponds a_weights a_p1 a_p1_cells a_p1_faces a_p1_kinds a_p1_pledges a_p1_ponds a_p1_weights (upd (upd (upd (upd (upd (upd (upd (upd c_t 0 (c_p1 0)) 1 (c_p1 1)) 2 (c_p1 2)) 3 (c_p1 3)) 4 (c_p1 4)) 5 (c_p1 5)) 6 (c_p1 6)) 7 (c_p1 7)) c_cells c_faces c_kinds c_pledges c_ponds c_weights c_p1 c_p1_cells c_p1_faces c_p1_kinds c_p1_pledges c_p1_ponds c_p1_weights) H := hP
  have hD : va_D A (W_X0_become E a_t a_cells a_faces a_kinds a_pledges a_ponds a_weights a_p1 a_p1_cells a_p1_faces a_p1_kinds a_p1_pledges a_p1_ponds a_p1_weights (upd (upd (upd (upd (upd (upd (upd (upd c_t 0 (c_p1 0)) 1 (c_p1 1)) 2 (c_p1 2)) 3 (c_p1 3)) 4 (c_p1 4)) 5 (c_p1 5)) 6 (c_p1 6)) 7 (c_p1 7)) c_cells c_faces c_kinds c_pledges c_ponds c_weights c_p1 c_p1_cells c_p1_faces c_p1_kinds c_p1_pledges c_p1_ponds c_p1_weights) := hD
  refine lv_iconst (v := (0 : Int32)) hx hb dX0_become_64 (by decide) ?_
  refine lv_istore_n (lv' := [(2, .int (0 : Int32)), (0, .ref a_t), (1, .ref a_p1)]) hx hb dX0_become_65 rfl hl (by decide) rfl (fun ls hl => ?_)
  exact w_X0_become_b66 X a_t a_cells a_faces a_kinds a_pledges a_ponds a_weights a_p1 a_p1_cells a_p1_faces a_p1_kinds a_p1_pledges a_p1_ponds a_p1_weights c_p1 c_p1_cells c_p1_faces c_p1_kinds c_p1_pledges c_p1_ponds c_p1_weights res FU (upd (upd (upd (upd (upd (upd (upd (upd c_t 0 (c_p1 0)) 1 (c_p1 1)) 2 (c_p1 2)) 3 (c_p1 3)) 4 (c_p1 4)) 5 (c_p1 5)) 6 (c_p1 6)) 7 (c_p1 7)) c_cells c_faces c_kinds c_pledges c_ponds c_weights (0 : Int32) _ _ _ h hP hD hS (lv_sub hl [1, 2, 0] rfl)
end
set_option maxRecDepth 100000 in
theorem c_X0_become (l : Launch) (E : Env0) (a_t : Nat) (a_cells : Nat) (a_faces : Nat) (a_kinds : Nat) (a_pledges : Nat) (a_ponds : Nat) (a_weights : Nat) (a_p1 : Nat) (a_p1_cells : Nat) (a_p1_faces : Nat) (a_p1_kinds : Nat) (a_p1_pledges : Nat) (a_p1_ponds : Nat) (a_p1_weights : Nat) (c_t : Nat → Int32) (c_cells : Nat → Int32) (c_faces : Nat → Int32) (c_kinds : Nat → Int32) (c_pledges : Nat → Int32) (c_ponds : Nat → Int32) (c_weights : Nat → Int32) (c_p1 : Nat → Int32) (c_p1_cells : Nat → Int32) (c_p1_faces : Nat → Int32) (c_p1_kinds : Nat → Int32) (c_p1_pledges : Nat → Int32) (c_p1_ponds : Nat → Int32) (c_p1_weights : Nat → Int32) (sz : Nat) (res : (Nat → Int32) × (Nat → Int32) × (Nat → Int32) × (Nat → Int32) × (Nat → Int32) × (Nat → Int32) × (Nat → Int32)) (h : f_X0_become c_t c_cells c_faces c_kinds c_pledges c_ponds c_weights c_p1 c_p1_cells c_p1_faces c_p1_kinds c_p1_pledges c_p1_ponds c_p1_weights = some res) : Met l yX0_become wsX0_become r_X0_become (cPre E [.ref a_t, .ref a_p1] (W_X0_become E a_t a_cells a_faces a_kinds a_pledges a_ponds a_weights a_p1 a_p1_cells a_p1_faces a_p1_kinds a_p1_pledges a_p1_ponds a_p1_weights c_t c_cells c_faces c_kinds c_pledges c_ponds c_weights c_p1 c_p1_cells c_p1_faces c_p1_kinds c_p1_pledges c_p1_ponds c_p1_weights) sz) (qV E (va_A (W_X0_become E a_t a_cells a_faces a_kinds a_pledges a_ponds a_weights a_p1 a_p1_cells a_p1_faces a_p1_kinds a_p1_pledges a_p1_ponds a_p1_weights c_t c_cells c_faces c_kinds c_pledges c_ponds c_weights c_p1 c_p1_cells c_p1_faces c_p1_kinds c_p1_pledges c_p1_ponds c_p1_weights) sz) (W_X0_become E a_t a_cells a_faces a_kinds a_pledges a_ponds a_weights a_p1 a_p1_cells a_p1_faces a_p1_kinds a_p1_pledges a_p1_ponds a_p1_weights (res.1) (res.2.1) (res.2.2.1) (res.2.2.2.1) (res.2.2.2.2.1) (res.2.2.2.2.2.1) (res.2.2.2.2.2.2) c_p1 c_p1_cells c_p1_faces c_p1_kinds c_p1_pledges c_p1_ponds c_p1_weights)) 0 0 (va_A (W_X0_become E a_t a_cells a_faces a_kinds a_pledges a_ponds a_weights a_p1 a_p1_cells a_p1_faces a_p1_kinds a_p1_pledges a_p1_ponds a_p1_weights c_t c_cells c_faces c_kinds c_pledges c_ponds c_weights c_p1 c_p1_cells c_p1_faces c_p1_kinds c_p1_pledges c_p1_ponds c_p1_weights) sz) :=
  met_of (Qc := fun A => qV E A (W_X0_become E a_t a_cells a_faces a_kinds a_pledges a_ponds a_weights a_p1 a_p1_cells a_p1_faces a_p1_kinds a_p1_pledges a_p1_ponds a_p1_weights (res.1) (res.2.1) (res.2.2.1) (res.2.2.2.1) (res.2.2.2.2.1) (res.2.2.2.2.2.1) (res.2.2.2.2.2.2) c_p1 c_p1_cells c_p1_faces c_p1_kinds c_p1_pledges c_p1_ponds c_p1_weights)) (by decide) rfl (Nat.le_of_ble_eq_true rfl) (fun p e s m args below meth c X hP hD hS ls hl => w_X0_become X a_t a_cells a_faces a_kinds a_pledges a_ponds a_weights a_p1 a_p1_cells a_p1_faces a_p1_kinds a_p1_pledges a_p1_ponds a_p1_weights c_p1 c_p1_cells c_p1_faces c_p1_kinds c_p1_pledges c_p1_ponds c_p1_weights res c_t c_cells c_faces c_kinds c_pledges c_ponds c_weights ls _ _ h hP hD hS hl)
-- ===== X5_isWithin
noncomputable abbrev W_X5_isWithin (E : Env0) : va_W := []
noncomputable abbrev r_X5_isWithin : Room := { frames := 0, cells := 0, slots := 0, locals := 0 }
theorem hd_X5_isWithin : yX5_isWithin.cls ≠ "java/lang/invoke/MethodHandle" ∧ yX5_isWithin.cls ≠ "java/lang/invoke/VarHandle" ∧ (parseMethodDescriptor yX5_isWithin.desc).map (fun d => d.parameters.length) = some 3 := by decide +kernel
section
variable {p : Program} {l : Launch} {e : Env} {s : State} {m : MethodId} {args : Array Value} {below : List Frame} {meth : Method} {c : Code} {E : Env0} {A : Nat → Prop}
set_option maxRecDepth 100000 in
set_option maxHeartbeats 4000000 in
theorem w_X5_isWithin (X : Ctx p m meth c cX5_isWithin 3 ((some .boolean)) s args wsX5_isWithin RX5 E A) (res : Int32) (l0 : Int32) (l1 : Int32) (l2 : Int32) (ls : Array Slot) (H : Heap) (locs : List Loc) (h : f_X5_isWithin l0 l1 l2 = some res) (hP : va_P E.1 vwCl (W_X5_isWithin E) H) (hD : va_D A (W_X5_isWithin E)) (hS : va_S A s.heap H locs) (hl : lv_has ls 3 [(0, .int l0), (1, .int l1), (2, .int l2)]) : W p l e r_X5_isWithin s m args below meth c H locs 0 0 (MQ below (qI E A res (W_X5_isWithin E)) args s 0 0 A) (F0 m 0 ls []) := by
  obtain ⟨hx, hb, hml, hr, hlk, hown, hts, hG, hA⟩ := id X
  have hK := hG.1
  have hN := hG.2.1
  unfold f_X5_isWithin at h
  refine lv_iload_n hx hb dX5_isWithin_0 rfl (lv_at hl 0 rfl) ?_
  refine lv_iload_n hx hb dX5_isWithin_1 rfl (lv_at hl 1 rfl) ?_
  refine lv_icmp_lt (tgt := 14) hx hb dX5_isWithin_2 (by decide) (fun hc2 => ?_) (fun hc2 => ?_)
  · have h := if_t h hc2
    refine lv_iconst (v := (0 : Int32)) hx hb dX5_isWithin_14 (by decide) ?_
    obtain rfl := Option.some.inj h
    exact ret_z X dX5_isWithin_15 (by decide) hP hD hS rfl
  · have h := if_f h hc2
    refine lv_iload_n hx hb dX5_isWithin_5 rfl (lv_at hl 0 rfl) ?_
    refine lv_iload_n hx hb dX5_isWithin_6 rfl (lv_at hl 2 rfl) ?_
    refine lv_icmp_gt (tgt := 14) hx hb dX5_isWithin_7 (by decide) (fun hc7 => ?_) (fun hc7 => ?_)
    · have h := if_t h hc7
      refine lv_iconst (v := (0 : Int32)) hx hb dX5_isWithin_14 (by decide) ?_
      obtain rfl := Option.some.inj h
      exact ret_z X dX5_isWithin_15 (by decide) hP hD hS rfl
    · have h := if_f h hc7
      refine lv_iconst (v := (1 : Int32)) hx hb dX5_isWithin_10 (by decide) ?_
      refine lv_goto (tgt := 15) hx hb dX5_isWithin_11 (by decide) ?_
      obtain rfl := Option.some.inj h
      exact ret_z X dX5_isWithin_15 (by decide) hP hD hS rfl
end
set_option maxRecDepth 100000 in
theorem c_X5_isWithin (l : Launch) (E : Env0) (l0 : Int32) (l1 : Int32) (l2 : Int32) (sz : Nat) (res : Int32) (h : f_X5_isWithin l0 l1 l2 = some res) : Met l yX5_isWithin wsX5_isWithin r_X5_isWithin (cPre E [.int l0, .int l1, .int l2] (W_X5_isWithin E) sz) (qI E (va_A (W_X5_isWithin E) sz) res (W_X5_isWithin E)) 0 0 (va_A (W_X5_isWithin E) sz) :=
  met_of (Qc := fun A => qI E A res (W_X5_isWithin E)) (by decide) rfl (Nat.le_of_ble_eq_true rfl) (fun p e s m args below meth c X hP hD hS ls hl => w_X5_isWithin X res l0 l1 l2 ls _ _ h hP hD hS hl)
-- ===== X0_maySide
noncomputable abbrev W_X0_maySide (E : Env0) (a_t : Nat) (a_ponds : Nat) (a_kinds : Nat) (a_weights : Nat) (a_cells : Nat) (a_faces : Nat) (a_pledges : Nat) (c_t : Nat → Int32) : va_W := [(a_t, .inr (0, [.int (c_t 0), .int (c_t 1), .int (c_t 2), .int (c_t 3), .int (c_t 4), .int (c_t 5), .int (c_t 6), .int (c_t 7), .ref a_ponds, .ref a_kinds, .ref a_weights, .ref a_cells, .ref a_faces, .ref a_pledges]))]
noncomputable abbrev r_X0_maySide : Room := { frames := 1, cells := 0, slots := 0, locals := 22 }
theorem hd_X0_maySide : yX0_maySide.cls ≠ "java/lang/invoke/MethodHandle" ∧ yX0_maySide.cls ≠ "java/lang/invoke/VarHandle" ∧ (parseMethodDescriptor yX0_maySide.desc).map (fun d => d.parameters.length) = some 1 := by decide +kernel
theorem hV_X0_maySide : yX0_maySide.cls = RX0 ∧ yX0_maySide.cls ≠ "java/lang/invoke/MethodHandle" ∧ yX0_maySide.cls ≠ "java/lang/invoke/VarHandle" ∧ (parseMethodDescriptor yX0_maySide.desc).map (fun d => d.parameters.length) = some 1 := ⟨rfl, hd_X0_maySide⟩
theorem iX0_maySide_X0 : ∀ w ∈ wsX00, w ∈ wsX0_maySide := fun _ h => List.mem_cons_of_mem _ (List.mem_append_right _ (h))
section
variable {p : Program} {l : Launch} {e : Env} {s : State} {m : MethodId} {args : Array Value} {below : List Frame} {meth : Method} {c : Code} {E : Env0} {A : Nat → Prop}
set_option maxRecDepth 100000 in
set_option maxHeartbeats 4000000 in
theorem w_X0_maySide (X : Ctx p m meth c cX0_maySide 2 ((some .boolean)) s args wsX0_maySide RX0 E A) (a_t : Nat) (a_ponds : Nat) (a_kinds : Nat) (a_weights : Nat) (a_cells : Nat) (a_faces : Nat) (a_pledges : Nat) (c_t : Nat → Int32) (res : Int32) (l1 : Int32) (ls : Array Slot) (H : Heap) (locs : List Loc) (h : f_X0_maySide l1 c_t = some res) (hP : va_P E.1 vwCl (W_X0_maySide E a_t a_ponds a_kinds a_weights a_cells a_faces a_pledges c_t) H) (hD : va_D A (W_X0_maySide E a_t a_ponds a_kinds a_weights a_cells a_faces a_pledges c_t)) (hS : va_S A s.heap H locs) (hl : lv_has ls 2 [(0, .ref a_t), (1, .int l1)]) : W p l e r_X0_maySide s m args below meth c H locs 0 0 (MQ below (qI E A res (W_X0_maySide E a_t a_ponds a_kinds a_weights a_cells a_faces a_pledges c_t)) args s 0 0 A) (F0 m 0 ls []) := by
  obtain ⟨hx, hb, hml, hr, hlk, hown, hts, hG, hA⟩ := id X
  have hK := hG.1
  have hN := hG.2.1
  unfold f_X0_maySide at h
  refine lv_iload_n hx hb dX0_maySide_0 rfl (lv_at hl 1 rfl) ?_
  refine lv_aload_n hx hb dX0_maySide_1 rfl (lv_at hl 0 rfl) ?_
  refine va_get (D := E.1) (ci := 0) (v := .int (c_t 0)) (C := RX0) (T := TX0) (N := 14) hx hb hts iX0_maySide_X0 hown hK hP 0 rfl rfl 0 (by decide) (hts (.fieldLink RX0 9 "LeftIsAgreedOn$Island" "side" "I") (List.mem_of_getElem? (i := 1) rfl)) (fun _ h9 => h9) rfl dX0_maySide_2 ?_
  refine lv_iconst (v := (3 : Int32)) hx hb dX0_maySide_5 (by decide) ?_
  refine va_mmax hx hb (hml.trans hl.1.symm) hown (hts (.methodLink RX0 56 Lib.Math.max.name) (List.mem_of_getElem? (i := 2) rfl)) (hts (.static Lib.Math.max.name) (List.mem_of_getElem? (i := 3) rfl)) (hts (.initialized "java/lang/Math") (List.mem_of_getElem? (i := 4) rfl)) (hts (.code Lib.Math.max.name Lib.Math.max.code 2 (some .int)) (List.mem_of_getElem? (i := 5) rfl)) (Nat.le_of_ble_eq_true rfl) (Nat.le_of_ble_eq_true rfl) (Nat.zero_le _) (Nat.zero_le _) dX0_maySide_6 ?_
  refine lv_bipush (v := (7 : Int32)) hx hb dX0_maySide_9 (by decide) ?_
  obtain ⟨v1, hv1, h⟩ := bind_of h
  refine after_i X (run_SN X (c_X5_isWithin l E l1 (if (c_t 0) < (3 : Int32) then (3 : Int32) else (c_t 0)) (7 : Int32) H.size v1 hv1) ⟨va_cnB 3 hts gX0_maySide_X5_isWithin_n62 rfl rfl rfl (nM_2 hN) (hts (.initialized RX5) (List.mem_of_getElem? (i := 7) rfl)) hd_X5_isWithin ⟨(Nat.le_of_ble_eq_true rfl), (Nat.le_of_ble_eq_true rfl)⟩, (hts (.static yX5_isWithin) (List.mem_of_getElem? (i := 6) rfl)), trivial⟩ hP hD hS [] rfl rfl hl.1 (rest := []) rfl rfl (Nat.le_of_ble_eq_true rfl) dX0_maySide_11) hP hD hS [] rfl (ws1 := (W_X0_maySide E a_t a_ponds a_kinds a_weights a_cells a_faces a_pledges c_t)) rfl (fun H locs hP hD hS => ?_)
  obtain ⟨hz14, h⟩ := chk_of h
  obtain rfl := Option.some.inj h
  exact ret_z X dX0_maySide_14 hz14 hP hD hS rfl
end
set_option maxRecDepth 100000 in
theorem c_X0_maySide (l : Launch) (E : Env0) (a_t : Nat) (a_ponds : Nat) (a_kinds : Nat) (a_weights : Nat) (a_cells : Nat) (a_faces : Nat) (a_pledges : Nat) (l1 : Int32) (c_t : Nat → Int32) (sz : Nat) (res : Int32) (h : f_X0_maySide l1 c_t = some res) : Met l yX0_maySide wsX0_maySide r_X0_maySide (cPre E [.ref a_t, .int l1] (W_X0_maySide E a_t a_ponds a_kinds a_weights a_cells a_faces a_pledges c_t) sz) (qI E (va_A (W_X0_maySide E a_t a_ponds a_kinds a_weights a_cells a_faces a_pledges c_t) sz) res (W_X0_maySide E a_t a_ponds a_kinds a_weights a_cells a_faces a_pledges c_t)) 0 0 (va_A (W_X0_maySide E a_t a_ponds a_kinds a_weights a_cells a_faces a_pledges c_t) sz) :=
  met_of (Qc := fun A => qI E A res (W_X0_maySide E a_t a_ponds a_kinds a_weights a_cells a_faces a_pledges c_t)) (by decide) rfl (Nat.le_of_ble_eq_true rfl) (fun p e s m args below meth c X hP hD hS ls hl => w_X0_maySide X a_t a_ponds a_kinds a_weights a_cells a_faces a_pledges c_t res l1 ls _ _ h hP hD hS hl)
-- ===== X0_isCell
noncomputable abbrev W_X0_isCell (E : Env0) (a_t : Nat) (a_ponds : Nat) (a_kinds : Nat) (a_weights : Nat) (a_cells : Nat) (a_faces : Nat) (a_pledges : Nat) (c_t : Nat → Int32) : va_W := [(a_t, .inr (0, [.int (c_t 0), .int (c_t 1), .int (c_t 2), .int (c_t 3), .int (c_t 4), .int (c_t 5), .int (c_t 6), .int (c_t 7), .ref a_ponds, .ref a_kinds, .ref a_weights, .ref a_cells, .ref a_faces, .ref a_pledges]))]
noncomputable abbrev r_X0_isCell : Room := { frames := 0, cells := 0, slots := 0, locals := 0 }
theorem hd_X0_isCell : yX0_isCell.cls ≠ "java/lang/invoke/MethodHandle" ∧ yX0_isCell.cls ≠ "java/lang/invoke/VarHandle" ∧ (parseMethodDescriptor yX0_isCell.desc).map (fun d => d.parameters.length) = some 1 := by decide +kernel
theorem hV_X0_isCell : yX0_isCell.cls = RX0 ∧ yX0_isCell.cls ≠ "java/lang/invoke/MethodHandle" ∧ yX0_isCell.cls ≠ "java/lang/invoke/VarHandle" ∧ (parseMethodDescriptor yX0_isCell.desc).map (fun d => d.parameters.length) = some 1 := ⟨rfl, hd_X0_isCell⟩
theorem iX0_isCell_X0 : ∀ w ∈ wsX00, w ∈ wsX0_isCell := fun _ h => List.mem_cons_of_mem _ (List.mem_append_right _ (h))
section
variable {p : Program} {l : Launch} {e : Env} {s : State} {m : MethodId} {args : Array Value} {below : List Frame} {meth : Method} {c : Code} {E : Env0} {A : Nat → Prop}
set_option maxRecDepth 100000 in
set_option maxHeartbeats 4000000 in
theorem w_X0_isCell (X : Ctx p m meth c cX0_isCell 2 ((some .boolean)) s args wsX0_isCell RX0 E A) (a_t : Nat) (a_ponds : Nat) (a_kinds : Nat) (a_weights : Nat) (a_cells : Nat) (a_faces : Nat) (a_pledges : Nat) (c_t : Nat → Int32) (res : Int32) (l1 : Int32) (ls : Array Slot) (H : Heap) (locs : List Loc) (h : f_X0_isCell l1 c_t = some res) (hP : va_P E.1 vwCl (W_X0_isCell E a_t a_ponds a_kinds a_weights a_cells a_faces a_pledges c_t) H) (hD : va_D A (W_X0_isCell E a_t a_ponds a_kinds a_weights a_cells a_faces a_pledges c_t)) (hS : va_S A s.heap H locs) (hl : lv_has ls 2 [(0, .ref a_t), (1, .int l1)]) : W p l e r_X0_isCell s m args below meth c H locs 0 0 (MQ below (qI E A res (W_X0_isCell E a_t a_ponds a_kinds a_weights a_cells a_faces a_pledges c_t)) args s 0 0 A) (F0 m 0 ls []) := by
  obtain ⟨hx, hb, hml, hr, hlk, hown, hts, hG, hA⟩ := id X
  have hK := hG.1
  have hN := hG.2.1
  unfold f_X0_isCell at h
  refine lv_iload_n hx hb dX0_isCell_0 rfl (lv_at hl 1 rfl) ?_
  refine lv_if_lt (tgt := 36) hx hb dX0_isCell_1 (by decide) (fun hc1 => ?_) (fun hc1 => ?_)
  · have h := if_t h hc1
    refine lv_iconst (v := (0 : Int32)) hx hb dX0_isCell_36 (by decide) ?_
    obtain rfl := Option.some.inj h
    exact ret_z X dX0_isCell_37 (by decide) hP hD hS rfl
  · have h := if_f h hc1
    refine lv_iload_n hx hb dX0_isCell_4 rfl (lv_at hl 1 rfl) ?_
    refine lv_bipush (v := (70 : Int32)) hx hb dX0_isCell_5 (by decide) ?_
    refine lv_icmp_ge (tgt := 36) hx hb dX0_isCell_7 (by decide) (fun hc7 => ?_) (fun hc7 => ?_)
    · have h := if_t h hc7
      refine lv_iconst (v := (0 : Int32)) hx hb dX0_isCell_36 (by decide) ?_
      obtain rfl := Option.some.inj h
      exact ret_z X dX0_isCell_37 (by decide) hP hD hS rfl
    · have h := if_f h hc7
      refine lv_iload_n hx hb dX0_isCell_10 rfl (lv_at hl 1 rfl) ?_
      refine lv_bipush (v := (10 : Int32)) hx hb dX0_isCell_11 (by decide) ?_
      refine lv_idiv hx hb dX0_isCell_13 (by decide) ?_
      refine lv_aload_n hx hb dX0_isCell_14 rfl (lv_at hl 0 rfl) ?_
      refine va_get (D := E.1) (ci := 0) (v := .int (c_t 0)) (C := RX0) (T := TX0) (N := 14) hx hb hts iX0_isCell_X0 hown hK hP 0 rfl rfl 0 (by decide) (hts (.fieldLink RX0 9 "LeftIsAgreedOn$Island" "side" "I") (List.mem_of_getElem? (i := 1) rfl)) (fun _ h9 => h9) rfl dX0_isCell_15 ?_
      refine lv_icmp_ge (tgt := 36) hx hb dX0_isCell_18 (by decide) (fun hc18 => ?_) (fun hc18 => ?_)
      · have h := if_t h hc18
        refine lv_iconst (v := (0 : Int32)) hx hb dX0_isCell_36 (by decide) ?_
        obtain rfl := Option.some.inj h
        exact ret_z X dX0_isCell_37 (by decide) hP hD hS rfl
      · have h := if_f h hc18
        refine lv_iload_n hx hb dX0_isCell_21 rfl (lv_at hl 1 rfl) ?_
        refine lv_bipush (v := (10 : Int32)) hx hb dX0_isCell_22 (by decide) ?_
        refine lv_irem hx hb dX0_isCell_24 (by decide) ?_
        refine lv_aload_n hx hb dX0_isCell_25 rfl (lv_at hl 0 rfl) ?_
        refine va_get (D := E.1) (ci := 0) (v := .int (c_t 0)) (C := RX0) (T := TX0) (N := 14) hx hb hts iX0_isCell_X0 hown hK hP 0 rfl rfl 0 (by decide) (hts (.fieldLink RX0 9 "LeftIsAgreedOn$Island" "side" "I") (List.mem_of_getElem? (i := 1) rfl)) (fun _ h9 => h9) rfl dX0_isCell_26 ?_
        refine lv_icmp_ge (tgt := 36) hx hb dX0_isCell_29 (by decide) (fun hc29 => ?_) (fun hc29 => ?_)
        · have h := if_t h hc29
          refine lv_iconst (v := (0 : Int32)) hx hb dX0_isCell_36 (by decide) ?_
          obtain rfl := Option.some.inj h
          exact ret_z X dX0_isCell_37 (by decide) hP hD hS rfl
        · have h := if_f h hc29
          refine lv_iconst (v := (1 : Int32)) hx hb dX0_isCell_32 (by decide) ?_
          refine lv_goto (tgt := 37) hx hb dX0_isCell_33 (by decide) ?_
          obtain rfl := Option.some.inj h
          exact ret_z X dX0_isCell_37 (by decide) hP hD hS rfl
end
set_option maxRecDepth 100000 in
theorem c_X0_isCell (l : Launch) (E : Env0) (a_t : Nat) (a_ponds : Nat) (a_kinds : Nat) (a_weights : Nat) (a_cells : Nat) (a_faces : Nat) (a_pledges : Nat) (l1 : Int32) (c_t : Nat → Int32) (sz : Nat) (res : Int32) (h : f_X0_isCell l1 c_t = some res) : Met l yX0_isCell wsX0_isCell r_X0_isCell (cPre E [.ref a_t, .int l1] (W_X0_isCell E a_t a_ponds a_kinds a_weights a_cells a_faces a_pledges c_t) sz) (qI E (va_A (W_X0_isCell E a_t a_ponds a_kinds a_weights a_cells a_faces a_pledges c_t) sz) res (W_X0_isCell E a_t a_ponds a_kinds a_weights a_cells a_faces a_pledges c_t)) 0 0 (va_A (W_X0_isCell E a_t a_ponds a_kinds a_weights a_cells a_faces a_pledges c_t) sz) :=
  met_of (Qc := fun A => qI E A res (W_X0_isCell E a_t a_ponds a_kinds a_weights a_cells a_faces a_pledges c_t)) (by decide) rfl (Nat.le_of_ble_eq_true rfl) (fun p e s m args below meth c X hP hD hS ls hl => w_X0_isCell X a_t a_ponds a_kinds a_weights a_cells a_faces a_pledges c_t res l1 ls _ _ h hP hD hS hl)
-- ===== X0_hasPond
noncomputable abbrev W_X0_hasPond (E : Env0) (a_t : Nat) (a_ponds : Nat) (a_kinds : Nat) (a_weights : Nat) (a_cells : Nat) (a_faces : Nat) (a_pledges : Nat) (c_t : Nat → Int32) (c_ponds : Nat → Int32) : va_W := [(a_t, .inr (0, [.int (c_t 0), .int (c_t 1), .int (c_t 2), .int (c_t 3), .int (c_t 4), .int (c_t 5), .int (c_t 6), .int (c_t 7), .ref a_ponds, .ref a_kinds, .ref a_weights, .ref a_cells, .ref a_faces, .ref a_pledges])), (a_ponds, .inl (eZ E, 70, .inl c_ponds))]
noncomputable abbrev r_X0_hasPond : Room := { frames := 1, cells := 0, slots := 0, locals := 21 }
theorem hd_X0_hasPond : yX0_hasPond.cls ≠ "java/lang/invoke/MethodHandle" ∧ yX0_hasPond.cls ≠ "java/lang/invoke/VarHandle" ∧ (parseMethodDescriptor yX0_hasPond.desc).map (fun d => d.parameters.length) = some 1 := by decide +kernel
theorem hV_X0_hasPond : yX0_hasPond.cls = RX0 ∧ yX0_hasPond.cls ≠ "java/lang/invoke/MethodHandle" ∧ yX0_hasPond.cls ≠ "java/lang/invoke/VarHandle" ∧ (parseMethodDescriptor yX0_hasPond.desc).map (fun d => d.parameters.length) = some 1 := ⟨rfl, hd_X0_hasPond⟩
theorem iX0_hasPond_X0 : ∀ w ∈ wsX00, w ∈ wsX0_hasPond := fun _ h => List.mem_cons_of_mem _ (List.mem_append_right _ (h))
section
variable {p : Program} {l : Launch} {e : Env} {s : State} {m : MethodId} {args : Array Value} {below : List Frame} {meth : Method} {c : Code} {E : Env0} {A : Nat → Prop}
set_option maxRecDepth 100000 in
set_option maxHeartbeats 4000000 in
theorem w_X0_hasPond (X : Ctx p m meth c cX0_hasPond 2 ((some .boolean)) s args wsX0_hasPond RX0 E A) (a_t : Nat) (a_ponds : Nat) (a_kinds : Nat) (a_weights : Nat) (a_cells : Nat) (a_faces : Nat) (a_pledges : Nat) (c_t : Nat → Int32) (c_ponds : Nat → Int32) (res : Int32) (l1 : Int32) (ls : Array Slot) (H : Heap) (locs : List Loc) (h : f_X0_hasPond l1 c_t c_ponds = some res) (hP : va_P E.1 vwCl (W_X0_hasPond E a_t a_ponds a_kinds a_weights a_cells a_faces a_pledges c_t c_ponds) H) (hD : va_D A (W_X0_hasPond E a_t a_ponds a_kinds a_weights a_cells a_faces a_pledges c_t c_ponds)) (hS : va_S A s.heap H locs) (hl : lv_has ls 2 [(0, .ref a_t), (1, .int l1)]) : W p l e r_X0_hasPond s m args below meth c H locs 0 0 (MQ below (qI E A res (W_X0_hasPond E a_t a_ponds a_kinds a_weights a_cells a_faces a_pledges c_t c_ponds)) args s 0 0 A) (F0 m 0 ls []) := by
  obtain ⟨hx, hb, hml, hr, hlk, hown, hts, hG, hA⟩ := id X
  have hK := hG.1
  have hN := hG.2.1
  unfold f_X0_hasPond at h
  refine lv_aload_n hx hb dX0_hasPond_0 rfl (lv_at hl 0 rfl) ?_
  refine lv_iload_n hx hb dX0_hasPond_1 rfl (lv_at hl 1 rfl) ?_
  obtain ⟨v1, hv1, h⟩ := bind_of h
  refine after_i X (run_V X (c_X0_isCell l E a_t a_ponds a_kinds a_weights a_cells a_faces a_pledges l1 c_t H.size v1 hv1) (cwV 1 hts gX0_hasPond_X0_isCell rfl rfl rfl hV_X0_isCell ⟨(Nat.le_of_ble_eq_true rfl), (Nat.le_of_ble_eq_true rfl)⟩) hP hD hS [0] rfl rfl hl.1 (ci := 0) rfl rfl rfl (rest := []) rfl rfl (Nat.le_of_ble_eq_true rfl) dX0_hasPond_2) hP hD hS [0] rfl (ws1 := (W_X0_hasPond E a_t a_ponds a_kinds a_weights a_cells a_faces a_pledges c_t c_ponds)) rfl (fun H locs hP hD hS => ?_)
  refine lv_if_eq (tgt := 21) hx hb dX0_hasPond_5 (by decide) (fun hc5 => ?_) (fun hc5 => ?_)
  · have h := if_t h hc5
    refine lv_iconst (v := (0 : Int32)) hx hb dX0_hasPond_21 (by decide) ?_
    obtain rfl := Option.some.inj h
    exact ret_z X dX0_hasPond_22 (by decide) hP hD hS rfl
  · have h := if_f h hc5
    refine lv_aload_n hx hb dX0_hasPond_8 rfl (lv_at hl 0 rfl) ?_
    refine va_get (D := E.1) (ci := 0) (v := .ref a_ponds) (C := RX0) (T := TX0) (N := 14) hx hb hts iX0_hasPond_X0 hown hK hP 0 rfl rfl 8 (by decide) (hts (.fieldLink RX0 36 "LeftIsAgreedOn$Island" "ponds" "[Z") (List.mem_of_getElem? (i := 1) rfl)) (fun _ h9 => h9) rfl dX0_hasPond_9 ?_
    refine lv_iload_n hx hb dX0_hasPond_12 rfl (lv_at hl 1 rfl) ?_
    obtain ⟨hz13, h⟩ := chk_of h
    refine ld_z X hP 1 rfl (inb.vp hz13) (v := (c_ponds (l1).toNatClampNeg)) rfl dX0_hasPond_13 ?_
    refine lv_if_eq (tgt := 21) hx hb dX0_hasPond_14 (by decide) (fun hc14 => ?_) (fun hc14 => ?_)
    · have h := if_t h hc14
      refine lv_iconst (v := (0 : Int32)) hx hb dX0_hasPond_21 (by decide) ?_
      obtain rfl := Option.some.inj h
      exact ret_z X dX0_hasPond_22 (by decide) hP hD hS rfl
    · have h := if_f h hc14
      refine lv_iconst (v := (1 : Int32)) hx hb dX0_hasPond_17 (by decide) ?_
      refine lv_goto (tgt := 22) hx hb dX0_hasPond_18 (by decide) ?_
      obtain rfl := Option.some.inj h
      exact ret_z X dX0_hasPond_22 (by decide) hP hD hS rfl
end
set_option maxRecDepth 100000 in
theorem c_X0_hasPond (l : Launch) (E : Env0) (a_t : Nat) (a_ponds : Nat) (a_kinds : Nat) (a_weights : Nat) (a_cells : Nat) (a_faces : Nat) (a_pledges : Nat) (l1 : Int32) (c_t : Nat → Int32) (c_ponds : Nat → Int32) (sz : Nat) (res : Int32) (h : f_X0_hasPond l1 c_t c_ponds = some res) : Met l yX0_hasPond wsX0_hasPond r_X0_hasPond (cPre E [.ref a_t, .int l1] (W_X0_hasPond E a_t a_ponds a_kinds a_weights a_cells a_faces a_pledges c_t c_ponds) sz) (qI E (va_A (W_X0_hasPond E a_t a_ponds a_kinds a_weights a_cells a_faces a_pledges c_t c_ponds) sz) res (W_X0_hasPond E a_t a_ponds a_kinds a_weights a_cells a_faces a_pledges c_t c_ponds)) 0 0 (va_A (W_X0_hasPond E a_t a_ponds a_kinds a_weights a_cells a_faces a_pledges c_t c_ponds) sz) :=
  met_of (Qc := fun A => qI E A res (W_X0_hasPond E a_t a_ponds a_kinds a_weights a_cells a_faces a_pledges c_t c_ponds)) (by decide) rfl (Nat.le_of_ble_eq_true rfl) (fun p e s m args below meth c X hP hD hS ls hl => w_X0_hasPond X a_t a_ponds a_kinds a_weights a_cells a_faces a_pledges c_t c_ponds res l1 ls _ _ h hP hD hS hl)
-- ===== X0_isDry
noncomputable abbrev W_X0_isDry (E : Env0) (a_t : Nat) (a_ponds : Nat) (a_kinds : Nat) (a_weights : Nat) (a_cells : Nat) (a_faces : Nat) (a_pledges : Nat) (c_t : Nat → Int32) (c_ponds : Nat → Int32) : va_W := [(a_t, .inr (0, [.int (c_t 0), .int (c_t 1), .int (c_t 2), .int (c_t 3), .int (c_t 4), .int (c_t 5), .int (c_t 6), .int (c_t 7), .ref a_ponds, .ref a_kinds, .ref a_weights, .ref a_cells, .ref a_faces, .ref a_pledges])), (a_ponds, .inl (eZ E, 70, .inl c_ponds))]
noncomputable abbrev r_X0_isDry : Room := { frames := 1, cells := 0, slots := 0, locals := 21 }
theorem hd_X0_isDry : yX0_isDry.cls ≠ "java/lang/invoke/MethodHandle" ∧ yX0_isDry.cls ≠ "java/lang/invoke/VarHandle" ∧ (parseMethodDescriptor yX0_isDry.desc).map (fun d => d.parameters.length) = some 1 := by decide +kernel
theorem hV_X0_isDry : yX0_isDry.cls = RX0 ∧ yX0_isDry.cls ≠ "java/lang/invoke/MethodHandle" ∧ yX0_isDry.cls ≠ "java/lang/invoke/VarHandle" ∧ (parseMethodDescriptor yX0_isDry.desc).map (fun d => d.parameters.length) = some 1 := ⟨rfl, hd_X0_isDry⟩
theorem iX0_isDry_X0 : ∀ w ∈ wsX00, w ∈ wsX0_isDry := fun _ h => List.mem_cons_of_mem _ (List.mem_append_right _ (h))
section
variable {p : Program} {l : Launch} {e : Env} {s : State} {m : MethodId} {args : Array Value} {below : List Frame} {meth : Method} {c : Code} {E : Env0} {A : Nat → Prop}
set_option maxRecDepth 100000 in
set_option maxHeartbeats 4000000 in
theorem w_X0_isDry (X : Ctx p m meth c cX0_isDry 2 ((some .boolean)) s args wsX0_isDry RX0 E A) (a_t : Nat) (a_ponds : Nat) (a_kinds : Nat) (a_weights : Nat) (a_cells : Nat) (a_faces : Nat) (a_pledges : Nat) (c_t : Nat → Int32) (c_ponds : Nat → Int32) (res : Int32) (l1 : Int32) (ls : Array Slot) (H : Heap) (locs : List Loc) (h : f_X0_isDry l1 c_t c_ponds = some res) (hP : va_P E.1 vwCl (W_X0_isDry E a_t a_ponds a_kinds a_weights a_cells a_faces a_pledges c_t c_ponds) H) (hD : va_D A (W_X0_isDry E a_t a_ponds a_kinds a_weights a_cells a_faces a_pledges c_t c_ponds)) (hS : va_S A s.heap H locs) (hl : lv_has ls 2 [(0, .ref a_t), (1, .int l1)]) : W p l e r_X0_isDry s m args below meth c H locs 0 0 (MQ below (qI E A res (W_X0_isDry E a_t a_ponds a_kinds a_weights a_cells a_faces a_pledges c_t c_ponds)) args s 0 0 A) (F0 m 0 ls []) := by
  obtain ⟨hx, hb, hml, hr, hlk, hown, hts, hG, hA⟩ := id X
  have hK := hG.1
  have hN := hG.2.1
  unfold f_X0_isDry at h
  refine lv_aload_n hx hb dX0_isDry_0 rfl (lv_at hl 0 rfl) ?_
  refine lv_iload_n hx hb dX0_isDry_1 rfl (lv_at hl 1 rfl) ?_
  obtain ⟨v1, hv1, h⟩ := bind_of h
  refine after_i X (run_V X (c_X0_isCell l E a_t a_ponds a_kinds a_weights a_cells a_faces a_pledges l1 c_t H.size v1 hv1) (cwV 1 hts gX0_isDry_X0_isCell rfl rfl rfl hV_X0_isCell ⟨(Nat.le_of_ble_eq_true rfl), (Nat.le_of_ble_eq_true rfl)⟩) hP hD hS [0] rfl rfl hl.1 (ci := 0) rfl rfl rfl (rest := []) rfl rfl (Nat.le_of_ble_eq_true rfl) dX0_isDry_2) hP hD hS [0] rfl (ws1 := (W_X0_isDry E a_t a_ponds a_kinds a_weights a_cells a_faces a_pledges c_t c_ponds)) rfl (fun H locs hP hD hS => ?_)
  refine lv_if_eq (tgt := 21) hx hb dX0_isDry_5 (by decide) (fun hc5 => ?_) (fun hc5 => ?_)
  · have h := if_t h hc5
    refine lv_iconst (v := (0 : Int32)) hx hb dX0_isDry_21 (by decide) ?_
    obtain rfl := Option.some.inj h
    exact ret_z X dX0_isDry_22 (by decide) hP hD hS rfl
  · have h := if_f h hc5
    refine lv_aload_n hx hb dX0_isDry_8 rfl (lv_at hl 0 rfl) ?_
    refine va_get (D := E.1) (ci := 0) (v := .ref a_ponds) (C := RX0) (T := TX0) (N := 14) hx hb hts iX0_isDry_X0 hown hK hP 0 rfl rfl 8 (by decide) (hts (.fieldLink RX0 36 "LeftIsAgreedOn$Island" "ponds" "[Z") (List.mem_of_getElem? (i := 1) rfl)) (fun _ h9 => h9) rfl dX0_isDry_9 ?_
    refine lv_iload_n hx hb dX0_isDry_12 rfl (lv_at hl 1 rfl) ?_
    obtain ⟨hz13, h⟩ := chk_of h
    refine ld_z X hP 1 rfl (inb.vp hz13) (v := (c_ponds (l1).toNatClampNeg)) rfl dX0_isDry_13 ?_
    refine lv_if_ne (tgt := 21) hx hb dX0_isDry_14 (by decide) (fun hc14 => ?_) (fun hc14 => ?_)
    · have h := if_f h hc14
      refine lv_iconst (v := (0 : Int32)) hx hb dX0_isDry_21 (by decide) ?_
      obtain rfl := Option.some.inj h
      exact ret_z X dX0_isDry_22 (by decide) hP hD hS rfl
    · have h := if_t h hc14
      refine lv_iconst (v := (1 : Int32)) hx hb dX0_isDry_17 (by decide) ?_
      refine lv_goto (tgt := 22) hx hb dX0_isDry_18 (by decide) ?_
      obtain rfl := Option.some.inj h
      exact ret_z X dX0_isDry_22 (by decide) hP hD hS rfl
end
set_option maxRecDepth 100000 in
theorem c_X0_isDry (l : Launch) (E : Env0) (a_t : Nat) (a_ponds : Nat) (a_kinds : Nat) (a_weights : Nat) (a_cells : Nat) (a_faces : Nat) (a_pledges : Nat) (l1 : Int32) (c_t : Nat → Int32) (c_ponds : Nat → Int32) (sz : Nat) (res : Int32) (h : f_X0_isDry l1 c_t c_ponds = some res) : Met l yX0_isDry wsX0_isDry r_X0_isDry (cPre E [.ref a_t, .int l1] (W_X0_isDry E a_t a_ponds a_kinds a_weights a_cells a_faces a_pledges c_t c_ponds) sz) (qI E (va_A (W_X0_isDry E a_t a_ponds a_kinds a_weights a_cells a_faces a_pledges c_t c_ponds) sz) res (W_X0_isDry E a_t a_ponds a_kinds a_weights a_cells a_faces a_pledges c_t c_ponds)) 0 0 (va_A (W_X0_isDry E a_t a_ponds a_kinds a_weights a_cells a_faces a_pledges c_t c_ponds) sz) :=
  met_of (Qc := fun A => qI E A res (W_X0_isDry E a_t a_ponds a_kinds a_weights a_cells a_faces a_pledges c_t c_ponds)) (by decide) rfl (Nat.le_of_ble_eq_true rfl) (fun p e s m args below meth c X hP hD hS ls hl => w_X0_isDry X a_t a_ponds a_kinds a_weights a_cells a_faces a_pledges c_t c_ponds res l1 ls _ _ h hP hD hS hl)
-- ===== X0_cellAhead
noncomputable abbrev W_X0_cellAhead (E : Env0) (a_t : Nat) (a_ponds : Nat) (a_kinds : Nat) (a_weights : Nat) (a_cells : Nat) (a_faces : Nat) (a_pledges : Nat) (c_t : Nat → Int32) : va_W := [(a_t, .inr (0, [.int (c_t 0), .int (c_t 1), .int (c_t 2), .int (c_t 3), .int (c_t 4), .int (c_t 5), .int (c_t 6), .int (c_t 7), .ref a_ponds, .ref a_kinds, .ref a_weights, .ref a_cells, .ref a_faces, .ref a_pledges]))]
noncomputable abbrev r_X0_cellAhead : Room := { frames := 0, cells := 0, slots := 0, locals := 0 }
theorem hd_X0_cellAhead : yX0_cellAhead.cls ≠ "java/lang/invoke/MethodHandle" ∧ yX0_cellAhead.cls ≠ "java/lang/invoke/VarHandle" ∧ (parseMethodDescriptor yX0_cellAhead.desc).map (fun d => d.parameters.length) = some 2 := by decide +kernel
theorem hV_X0_cellAhead : yX0_cellAhead.cls = RX0 ∧ yX0_cellAhead.cls ≠ "java/lang/invoke/MethodHandle" ∧ yX0_cellAhead.cls ≠ "java/lang/invoke/VarHandle" ∧ (parseMethodDescriptor yX0_cellAhead.desc).map (fun d => d.parameters.length) = some 2 := ⟨rfl, hd_X0_cellAhead⟩
theorem iX0_cellAhead_X0 : ∀ w ∈ wsX00, w ∈ wsX0_cellAhead := fun _ h => List.mem_cons_of_mem _ (List.mem_append_right _ (h))
section
variable {p : Program} {l : Launch} {e : Env} {s : State} {m : MethodId} {args : Array Value} {below : List Frame} {meth : Method} {c : Code} {E : Env0} {A : Nat → Prop}
set_option maxRecDepth 100000 in
set_option maxHeartbeats 4000000 in
theorem w_X0_cellAhead_b58 (X : Ctx p m meth c cX0_cellAhead 6 ((some .int)) s args wsX0_cellAhead RX0 E A) (a_t : Nat) (a_ponds : Nat) (a_kinds : Nat) (a_weights : Nat) (a_cells : Nat) (a_faces : Nat) (a_pledges : Nat) (c_t : Nat → Int32) (res : Int32) (l3 : Int32) (l4 : Int32) (s0 : Int32) (ls : Array Slot) (H : Heap) (locs : List Loc) (h : f_X0_cellAhead_b58 c_t l3 l4 s0 = some res) (hP : va_P E.1 vwCl (W_X0_cellAhead E a_t a_ponds a_kinds a_weights a_cells a_faces a_pledges c_t) H) (hD : va_D A (W_X0_cellAhead E a_t a_ponds a_kinds a_weights a_cells a_faces a_pledges c_t)) (hS : va_S A s.heap H locs) (hl : lv_has ls 6 [(3, .int l3), (4, .int l4)]) : W p l e r_X0_cellAhead s m args below meth c H locs 0 0 (MQ below (qI E A res (W_X0_cellAhead E a_t a_ponds a_kinds a_weights a_cells a_faces a_pledges c_t)) args s 0 0 A) (F0 m 58 ls [.int s0]) := by
  obtain ⟨hx, hb, hml, hr, hlk, hown, hts, hG, hA⟩ := id X
  have hK := hG.1
  have hN := hG.2.1
  unfold f_X0_cellAhead_b58 at h
  refine lv_istore (lv' := [(5, .int s0), (3, .int l3), (4, .int l4)]) hx hb dX0_cellAhead_58 hl (by decide) rfl (fun ls hl => ?_)
  refine lv_iload hx hb dX0_cellAhead_60 (lv_at hl 0 rfl) ?_
  refine lv_if_eq (tgt := 75) hx hb dX0_cellAhead_62 (by decide) (fun hc62 => ?_) (fun hc62 => ?_)
  · have h := if_t h hc62
    refine lv_iconst (v := (-1 : Int32)) hx hb dX0_cellAhead_75 (by decide) ?_
    obtain rfl := Option.some.inj h
    exact ret_i X dX0_cellAhead_76 hP hD hS rfl
  · have h := if_f h hc62
    refine lv_bipush (v := (10 : Int32)) hx hb dX0_cellAhead_65 (by decide) ?_
    refine lv_iload_n hx hb dX0_cellAhead_67 rfl (lv_at hl 1 rfl) ?_
    refine lv_imul hx hb dX0_cellAhead_68 ?_
    refine lv_iload hx hb dX0_cellAhead_69 (lv_at hl 2 rfl) ?_
    refine lv_iadd hx hb dX0_cellAhead_71 ?_
    refine lv_goto (tgt := 76) hx hb dX0_cellAhead_72 (by decide) ?_
    obtain rfl := Option.some.inj h
    exact ret_i X dX0_cellAhead_76 hP hD hS rfl
set_option maxRecDepth 100000 in
set_option maxHeartbeats 4000000 in
theorem w_X0_cellAhead_b57 (X : Ctx p m meth c cX0_cellAhead 6 ((some .int)) s args wsX0_cellAhead RX0 E A) (a_t : Nat) (a_ponds : Nat) (a_kinds : Nat) (a_weights : Nat) (a_cells : Nat) (a_faces : Nat) (a_pledges : Nat) (c_t : Nat → Int32) (res : Int32) (l3 : Int32) (l4 : Int32) (ls : Array Slot) (H : Heap) (locs : List Loc) (h : f_X0_cellAhead_b57 c_t l3 l4 = some res) (hP : va_P E.1 vwCl (W_X0_cellAhead E a_t a_ponds a_kinds a_weights a_cells a_faces a_pledges c_t) H) (hD : va_D A (W_X0_cellAhead E a_t a_ponds a_kinds a_weights a_cells a_faces a_pledges c_t)) (hS : va_S A s.heap H locs) (hl : lv_has ls 6 [(3, .int l3), (4, .int l4)]) : W p l e r_X0_cellAhead s m args below meth c H locs 0 0 (MQ below (qI E A res (W_X0_cellAhead E a_t a_ponds a_kinds a_weights a_cells a_faces a_pledges c_t)) args s 0 0 A) (F0 m 57 ls []) := by
  obtain ⟨hx, hb, hml, hr, hlk, hown, hts, hG, hA⟩ := id X
  have hK := hG.1
  have hN := hG.2.1
  unfold f_X0_cellAhead_b57 at h
  refine lv_iconst (v := (0 : Int32)) hx hb dX0_cellAhead_57 (by decide) ?_
  exact w_X0_cellAhead_b58 X a_t a_ponds a_kinds a_weights a_cells a_faces a_pledges c_t res l3 l4 (0 : Int32) _ _ _ h hP hD hS (lv_sub hl [0, 1] rfl)
set_option maxRecDepth 100000 in
set_option maxHeartbeats 4000000 in
theorem w_X0_cellAhead (X : Ctx p m meth c cX0_cellAhead 6 ((some .int)) s args wsX0_cellAhead RX0 E A) (a_t : Nat) (a_ponds : Nat) (a_kinds : Nat) (a_weights : Nat) (a_cells : Nat) (a_faces : Nat) (a_pledges : Nat) (c_t : Nat → Int32) (res : Int32) (l1 : Int32) (l2 : Int32) (ls : Array Slot) (H : Heap) (locs : List Loc) (h : f_X0_cellAhead l1 l2 c_t = some res) (hP : va_P E.1 vwCl (W_X0_cellAhead E a_t a_ponds a_kinds a_weights a_cells a_faces a_pledges c_t) H) (hD : va_D A (W_X0_cellAhead E a_t a_ponds a_kinds a_weights a_cells a_faces a_pledges c_t)) (hS : va_S A s.heap H locs) (hl : lv_has ls 6 [(0, .ref a_t), (1, .int l1), (2, .int l2)]) : W p l e r_X0_cellAhead s m args below meth c H locs 0 0 (MQ below (qI E A res (W_X0_cellAhead E a_t a_ponds a_kinds a_weights a_cells a_faces a_pledges c_t)) args s 0 0 A) (F0 m 0 ls []) := by
  obtain ⟨hx, hb, hml, hr, hlk, hown, hts, hG, hA⟩ := id X
  have hK := hG.1
  have hN := hG.2.1
  unfold f_X0_cellAhead at h
  refine lv_iload_n hx hb dX0_cellAhead_0 rfl (lv_at hl 1 rfl) ?_
  refine lv_bipush (v := (10 : Int32)) hx hb dX0_cellAhead_1 (by decide) ?_
  refine lv_idiv hx hb dX0_cellAhead_3 (by decide) ?_
  refine va_gets hx hb (hG.2.2.1.2.2.1).1 hS hown (hts (.fieldLink RX0 70 "LeftIsAgreedOn$Island" "ROW_STEPS" "[I") (List.mem_of_getElem? (i := 1) rfl)) (fun _ h9 => h9) dX0_cellAhead_4 ?_
  refine lv_iload_n hx hb dX0_cellAhead_7 rfl (lv_at hl 2 rfl) ?_
  refine lv_iconst (v := (3 : Int32)) hx hb dX0_cellAhead_8 (by decide) ?_
  refine lv_iand hx hb dX0_cellAhead_9 ?_
  obtain ⟨hz10, h⟩ := chk_of h
  refine va_ti hx hb (hG.2.2.1.2.2.1).2 hS (inb.vp hz10) (v := .int (sROW ((l2 &&& (3 : Int32))).toNatClampNeg)) rfl dX0_cellAhead_10 ?_
  refine lv_iadd hx hb dX0_cellAhead_11 ?_
  refine lv_istore_n (lv' := [(3, .int ((l1 / (10 : Int32)) + (sROW ((l2 &&& (3 : Int32))).toNatClampNeg))), (0, .ref a_t), (1, .int l1), (2, .int l2)]) hx hb dX0_cellAhead_12 rfl hl (by decide) rfl (fun ls hl => ?_)
  refine lv_iload_n hx hb dX0_cellAhead_13 rfl (lv_at hl 2 rfl) ?_
  refine lv_bipush (v := (10 : Int32)) hx hb dX0_cellAhead_14 (by decide) ?_
  refine lv_irem hx hb dX0_cellAhead_16 (by decide) ?_
  refine va_gets hx hb (hG.2.2.1.2.2.2).1 hS hown (hts (.fieldLink RX0 73 "LeftIsAgreedOn$Island" "COLUMN_STEPS" "[I") (List.mem_of_getElem? (i := 2) rfl)) (fun _ h9 => h9) dX0_cellAhead_17 ?_
  refine lv_iload_n hx hb dX0_cellAhead_20 rfl (lv_at hl 3 rfl) ?_
  refine lv_iconst (v := (3 : Int32)) hx hb dX0_cellAhead_21 (by decide) ?_
  refine lv_iand hx hb dX0_cellAhead_22 ?_
  obtain ⟨hz23, h⟩ := chk_of h
  refine va_ti hx hb (hG.2.2.1.2.2.2).2 hS (inb.vp hz23) (v := .int (sCOL ((l2 &&& (3 : Int32))).toNatClampNeg)) rfl dX0_cellAhead_23 ?_
  refine lv_iadd hx hb dX0_cellAhead_24 ?_
  refine lv_istore (lv' := [(4, .int ((l1 - l1 / (10 : Int32) * (10 : Int32)) + (sCOL ((l2 &&& (3 : Int32))).toNatClampNeg))), (3, .int ((l1 / (10 : Int32)) + (sROW ((l2 &&& (3 : Int32))).toNatClampNeg))), (0, .ref a_t), (1, .int l1), (2, .int l2)]) hx hb dX0_cellAhead_25 hl (by decide) rfl (fun ls hl => ?_)
  refine lv_iload_n hx hb dX0_cellAhead_27 rfl (lv_at hl 1 rfl) ?_
  refine lv_if_lt (tgt := 57) hx hb dX0_cellAhead_28 (by decide) (fun hc28 => ?_) (fun hc28 => ?_)
  · have h := if_t h hc28
    exact w_X0_cellAhead_b57 X a_t a_ponds a_kinds a_weights a_cells a_faces a_pledges c_t res ((l1 / (10 : Int32)) + (sROW ((l2 &&& (3 : Int32))).toNatClampNeg)) ((l1 - l1 / (10 : Int32) * (10 : Int32)) + (sCOL ((l2 &&& (3 : Int32))).toNatClampNeg)) _ _ _ h hP hD hS (lv_sub hl [1, 0] rfl)
  · have h := if_f h hc28
    refine lv_iload_n hx hb dX0_cellAhead_31 rfl (lv_at hl 1 rfl) ?_
    refine lv_aload_n hx hb dX0_cellAhead_32 rfl (lv_at hl 2 rfl) ?_
    refine va_get (D := E.1) (ci := 0) (v := .int (c_t 0)) (C := RX0) (T := TX0) (N := 14) hx hb hts iX0_cellAhead_X0 hown hK hP 0 rfl rfl 0 (by decide) (hts (.fieldLink RX0 9 "LeftIsAgreedOn$Island" "side" "I") (List.mem_of_getElem? (i := 3) rfl)) (fun _ h9 => h9) rfl dX0_cellAhead_33 ?_
    refine lv_icmp_ge (tgt := 57) hx hb dX0_cellAhead_36 (by decide) (fun hc36 => ?_) (fun hc36 => ?_)
    · have h := if_t h hc36
      exact w_X0_cellAhead_b57 X a_t a_ponds a_kinds a_weights a_cells a_faces a_pledges c_t res ((l1 / (10 : Int32)) + (sROW ((l2 &&& (3 : Int32))).toNatClampNeg)) ((l1 - l1 / (10 : Int32) * (10 : Int32)) + (sCOL ((l2 &&& (3 : Int32))).toNatClampNeg)) _ _ _ h hP hD hS (lv_sub hl [1, 0] rfl)
    · have h := if_f h hc36
      refine lv_iload hx hb dX0_cellAhead_39 (lv_at hl 0 rfl) ?_
      refine lv_if_lt (tgt := 57) hx hb dX0_cellAhead_41 (by decide) (fun hc41 => ?_) (fun hc41 => ?_)
      · have h := if_t h hc41
        exact w_X0_cellAhead_b57 X a_t a_ponds a_kinds a_weights a_cells a_faces a_pledges c_t res ((l1 / (10 : Int32)) + (sROW ((l2 &&& (3 : Int32))).toNatClampNeg)) ((l1 - l1 / (10 : Int32) * (10 : Int32)) + (sCOL ((l2 &&& (3 : Int32))).toNatClampNeg)) _ _ _ h hP hD hS (lv_sub hl [1, 0] rfl)
      · have h := if_f h hc41
        refine lv_iload hx hb dX0_cellAhead_44 (lv_at hl 0 rfl) ?_
        refine lv_aload_n hx hb dX0_cellAhead_46 rfl (lv_at hl 2 rfl) ?_
        refine va_get (D := E.1) (ci := 0) (v := .int (c_t 0)) (C := RX0) (T := TX0) (N := 14) hx hb hts iX0_cellAhead_X0 hown hK hP 0 rfl rfl 0 (by decide) (hts (.fieldLink RX0 9 "LeftIsAgreedOn$Island" "side" "I") (List.mem_of_getElem? (i := 3) rfl)) (fun _ h9 => h9) rfl dX0_cellAhead_47 ?_
        refine lv_icmp_ge (tgt := 57) hx hb dX0_cellAhead_50 (by decide) (fun hc50 => ?_) (fun hc50 => ?_)
        · have h := if_t h hc50
          exact w_X0_cellAhead_b57 X a_t a_ponds a_kinds a_weights a_cells a_faces a_pledges c_t res ((l1 / (10 : Int32)) + (sROW ((l2 &&& (3 : Int32))).toNatClampNeg)) ((l1 - l1 / (10 : Int32) * (10 : Int32)) + (sCOL ((l2 &&& (3 : Int32))).toNatClampNeg)) _ _ _ h hP hD hS (lv_sub hl [1, 0] rfl)
        · have h := if_f h hc50
          refine lv_iconst (v := (1 : Int32)) hx hb dX0_cellAhead_53 (by decide) ?_
          refine lv_goto (tgt := 58) hx hb dX0_cellAhead_54 (by decide) ?_
          exact w_X0_cellAhead_b58 X a_t a_ponds a_kinds a_weights a_cells a_faces a_pledges c_t res ((l1 / (10 : Int32)) + (sROW ((l2 &&& (3 : Int32))).toNatClampNeg)) ((l1 - l1 / (10 : Int32) * (10 : Int32)) + (sCOL ((l2 &&& (3 : Int32))).toNatClampNeg)) (1 : Int32) _ _ _ h hP hD hS (lv_sub hl [1, 0] rfl)
end
set_option maxRecDepth 100000 in
theorem c_X0_cellAhead (l : Launch) (E : Env0) (a_t : Nat) (a_ponds : Nat) (a_kinds : Nat) (a_weights : Nat) (a_cells : Nat) (a_faces : Nat) (a_pledges : Nat) (l1 : Int32) (l2 : Int32) (c_t : Nat → Int32) (sz : Nat) (res : Int32) (h : f_X0_cellAhead l1 l2 c_t = some res) : Met l yX0_cellAhead wsX0_cellAhead r_X0_cellAhead (cPre E [.ref a_t, .int l1, .int l2] (W_X0_cellAhead E a_t a_ponds a_kinds a_weights a_cells a_faces a_pledges c_t) sz) (qI E (va_A (W_X0_cellAhead E a_t a_ponds a_kinds a_weights a_cells a_faces a_pledges c_t) sz) res (W_X0_cellAhead E a_t a_ponds a_kinds a_weights a_cells a_faces a_pledges c_t)) 0 0 (va_A (W_X0_cellAhead E a_t a_ponds a_kinds a_weights a_cells a_faces a_pledges c_t) sz) :=
  met_of (Qc := fun A => qI E A res (W_X0_cellAhead E a_t a_ponds a_kinds a_weights a_cells a_faces a_pledges c_t)) (by decide) rfl (Nat.le_of_ble_eq_true rfl) (fun p e s m args below meth c X hP hD hS ls hl => w_X0_cellAhead X a_t a_ponds a_kinds a_weights a_cells a_faces a_pledges c_t res l1 l2 ls _ _ h hP hD hS hl)
-- ===== X0_hasPondBeside
noncomputable abbrev W_X0_hasPondBeside (E : Env0) (a_t : Nat) (a_ponds : Nat) (a_kinds : Nat) (a_weights : Nat) (a_cells : Nat) (a_faces : Nat) (a_pledges : Nat) (c_t : Nat → Int32) (c_ponds : Nat → Int32) : va_W := [(a_t, .inr (0, [.int (c_t 0), .int (c_t 1), .int (c_t 2), .int (c_t 3), .int (c_t 4), .int (c_t 5), .int (c_t 6), .int (c_t 7), .ref a_ponds, .ref a_kinds, .ref a_weights, .ref a_cells, .ref a_faces, .ref a_pledges])), (a_ponds, .inl (eZ E, 70, .inl c_ponds))]
noncomputable abbrev r_X0_hasPondBeside : Room := { frames := 1, cells := 0, slots := 0, locals := 25 }
theorem hd_X0_hasPondBeside : yX0_hasPondBeside.cls ≠ "java/lang/invoke/MethodHandle" ∧ yX0_hasPondBeside.cls ≠ "java/lang/invoke/VarHandle" ∧ (parseMethodDescriptor yX0_hasPondBeside.desc).map (fun d => d.parameters.length) = some 1 := by decide +kernel
theorem hV_X0_hasPondBeside : yX0_hasPondBeside.cls = RX0 ∧ yX0_hasPondBeside.cls ≠ "java/lang/invoke/MethodHandle" ∧ yX0_hasPondBeside.cls ≠ "java/lang/invoke/VarHandle" ∧ (parseMethodDescriptor yX0_hasPondBeside.desc).map (fun d => d.parameters.length) = some 1 := ⟨rfl, hd_X0_hasPondBeside⟩
theorem iX0_hasPondBeside_X0 : ∀ w ∈ wsX00, w ∈ wsX0_hasPondBeside := fun _ h => List.mem_cons_of_mem _ (List.mem_append_right _ (h))
section
variable {p : Program} {l : Launch} {e : Env} {s : State} {m : MethodId} {args : Array Value} {below : List Frame} {meth : Method} {c : Code} {E : Env0} {A : Nat → Prop}
set_option maxRecDepth 100000 in
set_option maxHeartbeats 4000000 in
theorem w_X0_hasPondBeside_b30 (X : Ctx p m meth c cX0_hasPondBeside 4 ((some .boolean)) s args wsX0_hasPondBeside RX0 E A) (a_t : Nat) (a_ponds : Nat) (a_kinds : Nat) (a_weights : Nat) (a_cells : Nat) (a_faces : Nat) (a_pledges : Nat) (c_t : Nat → Int32) (c_ponds : Nat → Int32) (res : Int32) (k2 : Int32 → Int32 → Option (Int32)) (hk2 : ∀ (l1 : Int32) (l2 : Int32) (ls : Array Slot) (H : Heap) (locs : List Loc), k2 l1 l2 = some res → va_P E.1 vwCl (W_X0_hasPondBeside E a_t a_ponds a_kinds a_weights a_cells a_faces a_pledges c_t c_ponds) H → va_D A (W_X0_hasPondBeside E a_t a_ponds a_kinds a_weights a_cells a_faces a_pledges c_t c_ponds) → va_S A s.heap H locs → lv_has ls 4 [(0, .ref a_t), (1, .int l1), (2, .int l2)] → W p l e r_X0_hasPondBeside s m args below meth c H locs 0 0 (MQ below (qI E A res (W_X0_hasPondBeside E a_t a_ponds a_kinds a_weights a_cells a_faces a_pledges c_t c_ponds)) args s 0 0 A) (F0 m 2 ls [])) (l1 : Int32) (l2 : Int32) (ls : Array Slot) (H : Heap) (locs : List Loc) (h : f_X0_hasPondBeside_b30 c_t c_ponds k2 l1 l2 = some res) (hP : va_P E.1 vwCl (W_X0_hasPondBeside E a_t a_ponds a_kinds a_weights a_cells a_faces a_pledges c_t c_ponds) H) (hD : va_D A (W_X0_hasPondBeside E a_t a_ponds a_kinds a_weights a_cells a_faces a_pledges c_t c_ponds)) (hS : va_S A s.heap H locs) (hl : lv_has ls 4 [(0, .ref a_t), (1, .int l1), (2, .int l2)]) : W p l e r_X0_hasPondBeside s m args below meth c H locs 0 0 (MQ below (qI E A res (W_X0_hasPondBeside E a_t a_ponds a_kinds a_weights a_cells a_faces a_pledges c_t c_ponds)) args s 0 0 A) (F0 m 30 ls []) := by
  obtain ⟨hx, hb, hml, hr, hlk, hown, hts, hG, hA⟩ := id X
  have hK := hG.1
  have hN := hG.2.1
  unfold f_X0_hasPondBeside_b30 at h
  refine lv_iinc (v := (l2 + (1 : Int32))) (lv' := [(2, .int (l2 + (1 : Int32))), (0, .ref a_t), (1, .int l1)]) hx hb dX0_hasPondBeside_30 hl (k := 2) rfl rfl (by decide) rfl (fun ls hl => ?_)
  refine lv_goto (tgt := 2) hx hb dX0_hasPondBeside_33 (by decide) ?_
  exact hk2 l1 (l2 + (1 : Int32)) _ _ _ h hP hD hS (lv_sub hl [1, 2, 0] rfl)
set_option maxRecDepth 100000 in
set_option maxHeartbeats 4000000 in
theorem w_X0_hasPondBeside_b2 (X : Ctx p m meth c cX0_hasPondBeside 4 ((some .boolean)) s args wsX0_hasPondBeside RX0 E A) (a_t : Nat) (a_ponds : Nat) (a_kinds : Nat) (a_weights : Nat) (a_cells : Nat) (a_faces : Nat) (a_pledges : Nat) (c_t : Nat → Int32) (c_ponds : Nat → Int32) (res : Int32) : ∀ (n : Nat) (l1 : Int32) (l2 : Int32) (ls : Array Slot) (H : Heap) (locs : List Loc), f_X0_hasPondBeside_b2 c_t c_ponds n l1 l2 = some res → va_P E.1 vwCl (W_X0_hasPondBeside E a_t a_ponds a_kinds a_weights a_cells a_faces a_pledges c_t c_ponds) H → va_D A (W_X0_hasPondBeside E a_t a_ponds a_kinds a_weights a_cells a_faces a_pledges c_t c_ponds) → va_S A s.heap H locs → lv_has ls 4 [(0, .ref a_t), (1, .int l1), (2, .int l2)] → W p l e r_X0_hasPondBeside s m args below meth c H locs 0 0 (MQ below (qI E A res (W_X0_hasPondBeside E a_t a_ponds a_kinds a_weights a_cells a_faces a_pledges c_t c_ponds)) args s 0 0 A) (F0 m 2 ls []) := by
  obtain ⟨hx, hb, hml, hr, hlk, hown, hts, hG, hA⟩ := id X
  have hK := hG.1
  have hN := hG.2.1
  intro n
  induction n with
  | zero =>
    intro l1 l2 ls H locs h
    exact absurd (show (none : Option (Int32)) = some res from h) (by intro q; cases q)
  | succ n ih =>
    intro l1 l2 ls H locs h hP hD hS hl
    rw [f_X0_hasPondBeside_b2] at h
    refine lv_iload_n hx hb dX0_hasPondBeside_2 rfl (lv_at hl 2 rfl) ?_
    refine lv_iconst (v := (4 : Int32)) hx hb dX0_hasPondBeside_3 (by decide) ?_
    refine lv_icmp_ge (tgt := 36) hx hb dX0_hasPondBeside_4 (by decide) (fun hc4 => ?_) (fun hc4 => ?_)
    · have h := if_t h hc4
      refine lv_iconst (v := (0 : Int32)) hx hb dX0_hasPondBeside_36 (by decide) ?_
      obtain rfl := Option.some.inj h
      exact ret_z X dX0_hasPondBeside_37 (by decide) hP hD hS rfl
    · have h := if_f h hc4
      refine lv_aload_n hx hb dX0_hasPondBeside_7 rfl (lv_at hl 0 rfl) ?_
      refine lv_iload_n hx hb dX0_hasPondBeside_8 rfl (lv_at hl 1 rfl) ?_
      refine lv_iload_n hx hb dX0_hasPondBeside_9 rfl (lv_at hl 2 rfl) ?_
      obtain ⟨v1, hv1, h⟩ := bind_of h
      refine after_i X (run_V X (c_X0_cellAhead l E a_t a_ponds a_kinds a_weights a_cells a_faces a_pledges l1 l2 c_t H.size v1 hv1) (cwV 2 hts gX0_hasPondBeside_X0_cellAhead rfl rfl rfl hV_X0_cellAhead ⟨(Nat.le_of_ble_eq_true rfl), (Nat.le_of_ble_eq_true rfl)⟩) hP hD hS [0] rfl rfl hl.1 (ci := 0) rfl rfl rfl (rest := []) rfl rfl (Nat.le_of_ble_eq_true rfl) dX0_hasPondBeside_10) hP hD hS [0] rfl (ws1 := (W_X0_hasPondBeside E a_t a_ponds a_kinds a_weights a_cells a_faces a_pledges c_t c_ponds)) rfl (fun H locs hP hD hS => ?_)
      refine lv_istore_n (lv' := [(3, .int v1), (0, .ref a_t), (1, .int l1), (2, .int l2)]) hx hb dX0_hasPondBeside_13 rfl hl (by decide) rfl (fun ls hl => ?_)
      refine lv_iload_n hx hb dX0_hasPondBeside_14 rfl (lv_at hl 0 rfl) ?_
      refine lv_iconst (v := (-1 : Int32)) hx hb dX0_hasPondBeside_15 (by decide) ?_
      refine lv_icmp_eq (tgt := 30) hx hb dX0_hasPondBeside_16 (by decide) (fun hc16 => ?_) (fun hc16 => ?_)
      · have h := if_t h hc16
        exact w_X0_hasPondBeside_b30 X a_t a_ponds a_kinds a_weights a_cells a_faces a_pledges c_t c_ponds res (f_X0_hasPondBeside_b2 c_t c_ponds n) ih l1 l2 _ _ _ h hP hD hS (lv_sub hl [1, 2, 3] rfl)
      · have h := if_f h hc16
        refine lv_aload_n hx hb dX0_hasPondBeside_19 rfl (lv_at hl 1 rfl) ?_
        refine va_get (D := E.1) (ci := 0) (v := .ref a_ponds) (C := RX0) (T := TX0) (N := 14) hx hb hts iX0_hasPondBeside_X0 hown hK hP 0 rfl rfl 8 (by decide) (hts (.fieldLink RX0 36 "LeftIsAgreedOn$Island" "ponds" "[Z") (List.mem_of_getElem? (i := 1) rfl)) (fun _ h9 => h9) rfl dX0_hasPondBeside_20 ?_
        refine lv_iload_n hx hb dX0_hasPondBeside_23 rfl (lv_at hl 0 rfl) ?_
        obtain ⟨hz24, h⟩ := chk_of h
        refine ld_z X hP 1 rfl (inb.vp hz24) (v := (c_ponds (v1).toNatClampNeg)) rfl dX0_hasPondBeside_24 ?_
        refine lv_if_eq (tgt := 30) hx hb dX0_hasPondBeside_25 (by decide) (fun hc25 => ?_) (fun hc25 => ?_)
        · have h := if_t h hc25
          exact w_X0_hasPondBeside_b30 X a_t a_ponds a_kinds a_weights a_cells a_faces a_pledges c_t c_ponds res (f_X0_hasPondBeside_b2 c_t c_ponds n) ih l1 l2 _ _ _ h hP hD hS (lv_sub hl [1, 2, 3] rfl)
        · have h := if_f h hc25
          refine lv_iconst (v := (1 : Int32)) hx hb dX0_hasPondBeside_28 (by decide) ?_
          obtain rfl := Option.some.inj h
          exact ret_z X dX0_hasPondBeside_29 (by decide) hP hD hS rfl
set_option maxRecDepth 100000 in
set_option maxHeartbeats 4000000 in
theorem w_X0_hasPondBeside (X : Ctx p m meth c cX0_hasPondBeside 4 ((some .boolean)) s args wsX0_hasPondBeside RX0 E A) (a_t : Nat) (a_ponds : Nat) (a_kinds : Nat) (a_weights : Nat) (a_cells : Nat) (a_faces : Nat) (a_pledges : Nat) (c_t : Nat → Int32) (c_ponds : Nat → Int32) (res : Int32) (l1 : Int32) (ls : Array Slot) (H : Heap) (locs : List Loc) (h : f_X0_hasPondBeside l1 c_t c_ponds = some res) (hP : va_P E.1 vwCl (W_X0_hasPondBeside E a_t a_ponds a_kinds a_weights a_cells a_faces a_pledges c_t c_ponds) H) (hD : va_D A (W_X0_hasPondBeside E a_t a_ponds a_kinds a_weights a_cells a_faces a_pledges c_t c_ponds)) (hS : va_S A s.heap H locs) (hl : lv_has ls 4 [(0, .ref a_t), (1, .int l1)]) : W p l e r_X0_hasPondBeside s m args below meth c H locs 0 0 (MQ below (qI E A res (W_X0_hasPondBeside E a_t a_ponds a_kinds a_weights a_cells a_faces a_pledges c_t c_ponds)) args s 0 0 A) (F0 m 0 ls []) := by
  obtain ⟨hx, hb, hml, hr, hlk, hown, hts, hG, hA⟩ := id X
  have hK := hG.1
  have hN := hG.2.1
  unfold f_X0_hasPondBeside at h
  refine lv_iconst (v := (0 : Int32)) hx hb dX0_hasPondBeside_0 (by decide) ?_
  refine lv_istore_n (lv' := [(2, .int (0 : Int32)), (0, .ref a_t), (1, .int l1)]) hx hb dX0_hasPondBeside_1 rfl hl (by decide) rfl (fun ls hl => ?_)
  exact w_X0_hasPondBeside_b2 X a_t a_ponds a_kinds a_weights a_cells a_faces a_pledges c_t c_ponds res FU l1 (0 : Int32) _ _ _ h hP hD hS (lv_sub hl [1, 2, 0] rfl)
end
set_option maxRecDepth 100000 in
theorem c_X0_hasPondBeside (l : Launch) (E : Env0) (a_t : Nat) (a_ponds : Nat) (a_kinds : Nat) (a_weights : Nat) (a_cells : Nat) (a_faces : Nat) (a_pledges : Nat) (l1 : Int32) (c_t : Nat → Int32) (c_ponds : Nat → Int32) (sz : Nat) (res : Int32) (h : f_X0_hasPondBeside l1 c_t c_ponds = some res) : Met l yX0_hasPondBeside wsX0_hasPondBeside r_X0_hasPondBeside (cPre E [.ref a_t, .int l1] (W_X0_hasPondBeside E a_t a_ponds a_kinds a_weights a_cells a_faces a_pledges c_t c_ponds) sz) (qI E (va_A (W_X0_hasPondBeside E a_t a_ponds a_kinds a_weights a_cells a_faces a_pledges c_t c_ponds) sz) res (W_X0_hasPondBeside E a_t a_ponds a_kinds a_weights a_cells a_faces a_pledges c_t c_ponds)) 0 0 (va_A (W_X0_hasPondBeside E a_t a_ponds a_kinds a_weights a_cells a_faces a_pledges c_t c_ponds) sz) :=
  met_of (Qc := fun A => qI E A res (W_X0_hasPondBeside E a_t a_ponds a_kinds a_weights a_cells a_faces a_pledges c_t c_ponds)) (by decide) rfl (Nat.le_of_ble_eq_true rfl) (fun p e s m args below meth c X hP hD hS ls hl => w_X0_hasPondBeside X a_t a_ponds a_kinds a_weights a_cells a_faces a_pledges c_t c_ponds res l1 ls _ _ h hP hD hS hl)
-- ===== X5_asNumber
noncomputable abbrev W_X5_asNumber (E : Env0) : va_W := []
noncomputable abbrev r_X5_asNumber : Room := { frames := 0, cells := 0, slots := 0, locals := 0 }
theorem hd_X5_asNumber : yX5_asNumber.cls ≠ "java/lang/invoke/MethodHandle" ∧ yX5_asNumber.cls ≠ "java/lang/invoke/VarHandle" ∧ (parseMethodDescriptor yX5_asNumber.desc).map (fun d => d.parameters.length) = some 1 := by decide +kernel
section
variable {p : Program} {l : Launch} {e : Env} {s : State} {m : MethodId} {args : Array Value} {below : List Frame} {meth : Method} {c : Code} {E : Env0} {A : Nat → Prop}
set_option maxRecDepth 100000 in
set_option maxHeartbeats 4000000 in
theorem w_X5_asNumber (X : Ctx p m meth c cX5_asNumber 1 ((some .int)) s args wsX5_asNumber RX5 E A) (res : Int32) (l0 : Int32) (ls : Array Slot) (H : Heap) (locs : List Loc) (h : f_X5_asNumber l0 = some res) (hP : va_P E.1 vwCl (W_X5_asNumber E) H) (hD : va_D A (W_X5_asNumber E)) (hS : va_S A s.heap H locs) (hl : lv_has ls 1 [(0, .int l0)]) : W p l e r_X5_asNumber s m args below meth c H locs 0 0 (MQ below (qI E A res (W_X5_asNumber E)) args s 0 0 A) (F0 m 0 ls []) := by
  obtain ⟨hx, hb, hml, hr, hlk, hown, hts, hG, hA⟩ := id X
  have hK := hG.1
  have hN := hG.2.1
  unfold f_X5_asNumber at h
  refine lv_iload_n hx hb dX5_asNumber_0 rfl (lv_at hl 0 rfl) ?_
  refine lv_if_eq (tgt := 8) hx hb dX5_asNumber_1 (by decide) (fun hc1 => ?_) (fun hc1 => ?_)
  · have h := if_t h hc1
    refine lv_iconst (v := (0 : Int32)) hx hb dX5_asNumber_8 (by decide) ?_
    obtain rfl := Option.some.inj h
    exact ret_i X dX5_asNumber_9 hP hD hS rfl
  · have h := if_f h hc1
    refine lv_iconst (v := (1 : Int32)) hx hb dX5_asNumber_4 (by decide) ?_
    refine lv_goto (tgt := 9) hx hb dX5_asNumber_5 (by decide) ?_
    obtain rfl := Option.some.inj h
    exact ret_i X dX5_asNumber_9 hP hD hS rfl
end
set_option maxRecDepth 100000 in
theorem c_X5_asNumber (l : Launch) (E : Env0) (l0 : Int32) (sz : Nat) (res : Int32) (h : f_X5_asNumber l0 = some res) : Met l yX5_asNumber wsX5_asNumber r_X5_asNumber (cPre E [.int l0] (W_X5_asNumber E) sz) (qI E (va_A (W_X5_asNumber E) sz) res (W_X5_asNumber E)) 0 0 (va_A (W_X5_asNumber E) sz) :=
  met_of (Qc := fun A => qI E A res (W_X5_asNumber E)) (by decide) rfl (Nat.le_of_ble_eq_true rfl) (fun p e s m args below meth c X hP hD hS ls hl => w_X5_asNumber X res l0 ls _ _ h hP hD hS hl)
-- ===== X0_howManyPonds
noncomputable abbrev W_X0_howManyPonds (E : Env0) (a_t : Nat) (a_ponds : Nat) (a_kinds : Nat) (a_weights : Nat) (a_cells : Nat) (a_faces : Nat) (a_pledges : Nat) (c_t : Nat → Int32) (c_ponds : Nat → Int32) : va_W := [(a_t, .inr (0, [.int (c_t 0), .int (c_t 1), .int (c_t 2), .int (c_t 3), .int (c_t 4), .int (c_t 5), .int (c_t 6), .int (c_t 7), .ref a_ponds, .ref a_kinds, .ref a_weights, .ref a_cells, .ref a_faces, .ref a_pledges])), (a_ponds, .inl (eZ E, 70, .inl c_ponds))]
noncomputable abbrev r_X0_howManyPonds : Room := { frames := 2, cells := 0, slots := 0, locals := 42 }
theorem hd_X0_howManyPonds : yX0_howManyPonds.cls ≠ "java/lang/invoke/MethodHandle" ∧ yX0_howManyPonds.cls ≠ "java/lang/invoke/VarHandle" ∧ (parseMethodDescriptor yX0_howManyPonds.desc).map (fun d => d.parameters.length) = some 0 := by decide +kernel
theorem hV_X0_howManyPonds : yX0_howManyPonds.cls = RX0 ∧ yX0_howManyPonds.cls ≠ "java/lang/invoke/MethodHandle" ∧ yX0_howManyPonds.cls ≠ "java/lang/invoke/VarHandle" ∧ (parseMethodDescriptor yX0_howManyPonds.desc).map (fun d => d.parameters.length) = some 0 := ⟨rfl, hd_X0_howManyPonds⟩
section
variable {p : Program} {l : Launch} {e : Env} {s : State} {m : MethodId} {args : Array Value} {below : List Frame} {meth : Method} {c : Code} {E : Env0} {A : Nat → Prop}
set_option maxRecDepth 100000 in
set_option maxHeartbeats 4000000 in
theorem w_X0_howManyPonds_b4 (X : Ctx p m meth c cX0_howManyPonds 3 ((some .int)) s args wsX0_howManyPonds RX0 E A) (a_t : Nat) (a_ponds : Nat) (a_kinds : Nat) (a_weights : Nat) (a_cells : Nat) (a_faces : Nat) (a_pledges : Nat) (c_t : Nat → Int32) (c_ponds : Nat → Int32) (res : Int32) : ∀ (n : Nat) (l1 : Int32) (l2 : Int32) (ls : Array Slot) (H : Heap) (locs : List Loc), f_X0_howManyPonds_b4 c_t c_ponds n l1 l2 = some res → va_P E.1 vwCl (W_X0_howManyPonds E a_t a_ponds a_kinds a_weights a_cells a_faces a_pledges c_t c_ponds) H → va_D A (W_X0_howManyPonds E a_t a_ponds a_kinds a_weights a_cells a_faces a_pledges c_t c_ponds) → va_S A s.heap H locs → lv_has ls 3 [(0, .ref a_t), (1, .int l1), (2, .int l2)] → W p l e r_X0_howManyPonds s m args below meth c H locs 0 0 (MQ below (qI E A res (W_X0_howManyPonds E a_t a_ponds a_kinds a_weights a_cells a_faces a_pledges c_t c_ponds)) args s 0 0 A) (F0 m 4 ls []) := by
  obtain ⟨hx, hb, hml, hr, hlk, hown, hts, hG, hA⟩ := id X
  have hK := hG.1
  have hN := hG.2.1
  intro n
  induction n with
  | zero =>
    intro l1 l2 ls H locs h
    exact absurd (show (none : Option (Int32)) = some res from h) (by intro q; cases q)
  | succ n ih =>
    intro l1 l2 ls H locs h hP hD hS hl
    rw [f_X0_howManyPonds_b4] at h
    refine lv_iload_n hx hb dX0_howManyPonds_4 rfl (lv_at hl 2 rfl) ?_
    refine lv_bipush (v := (70 : Int32)) hx hb dX0_howManyPonds_5 (by decide) ?_
    refine lv_icmp_ge (tgt := 27) hx hb dX0_howManyPonds_7 (by decide) (fun hc7 => ?_) (fun hc7 => ?_)
    · have h := if_t h hc7
      refine lv_iload_n hx hb dX0_howManyPonds_27 rfl (lv_at hl 1 rfl) ?_
      obtain rfl := Option.some.inj h
      exact ret_i X dX0_howManyPonds_28 hP hD hS rfl
    · have h := if_f h hc7
      refine lv_iload_n hx hb dX0_howManyPonds_10 rfl (lv_at hl 1 rfl) ?_
      refine lv_aload_n hx hb dX0_howManyPonds_11 rfl (lv_at hl 0 rfl) ?_
      refine lv_iload_n hx hb dX0_howManyPonds_12 rfl (lv_at hl 2 rfl) ?_
      obtain ⟨v1, hv1, h⟩ := bind_of h
      refine after_i X (run_V X (c_X0_hasPond l E a_t a_ponds a_kinds a_weights a_cells a_faces a_pledges l2 c_t c_ponds H.size v1 hv1) (cwV 1 hts gX0_howManyPonds_X0_hasPond rfl rfl rfl hV_X0_hasPond ⟨(Nat.le_of_ble_eq_true rfl), (Nat.le_of_ble_eq_true rfl)⟩) hP hD hS [0, 1] rfl rfl hl.1 (ci := 0) rfl rfl rfl (rest := [.int l1]) rfl rfl (Nat.le_of_ble_eq_true rfl) dX0_howManyPonds_13) hP hD hS [0, 1] rfl (ws1 := (W_X0_howManyPonds E a_t a_ponds a_kinds a_weights a_cells a_faces a_pledges c_t c_ponds)) rfl (fun H locs hP hD hS => ?_)
      obtain ⟨v2, hv2, h⟩ := bind_of h
      refine after_i X (run_SN X (c_X5_asNumber l E v1 H.size v2 hv2) ⟨va_cnB 1 hts gX0_howManyPonds_X5_asNumber_n82 rfl rfl rfl (nM_3 hN) (hts (.initialized RX5) (List.mem_of_getElem? (i := 13) rfl)) hd_X5_asNumber ⟨(Nat.le_of_ble_eq_true rfl), (Nat.le_of_ble_eq_true rfl)⟩, (hts (.static yX5_asNumber) (List.mem_of_getElem? (i := 12) rfl)), trivial⟩ hP hD hS [] rfl rfl hl.1 (rest := [.int l1]) rfl rfl (Nat.le_of_ble_eq_true rfl) dX0_howManyPonds_16) hP hD hS [] rfl (ws1 := (W_X0_howManyPonds E a_t a_ponds a_kinds a_weights a_cells a_faces a_pledges c_t c_ponds)) rfl (fun H locs hP hD hS => ?_)
      refine lv_iadd hx hb dX0_howManyPonds_19 ?_
      refine lv_istore_n (lv' := [(1, .int (l1 + v2)), (0, .ref a_t), (2, .int l2)]) hx hb dX0_howManyPonds_20 rfl hl (by decide) rfl (fun ls hl => ?_)
      refine lv_iinc (v := (l2 + (1 : Int32))) (lv' := [(2, .int (l2 + (1 : Int32))), (1, .int (l1 + v2)), (0, .ref a_t)]) hx hb dX0_howManyPonds_21 hl (k := 2) rfl rfl (by decide) rfl (fun ls hl => ?_)
      refine lv_goto (tgt := 4) hx hb dX0_howManyPonds_24 (by decide) ?_
      exact ih (l1 + v2) (l2 + (1 : Int32)) _ _ _ h hP hD hS (lv_sub hl [2, 1, 0] rfl)
set_option maxRecDepth 100000 in
set_option maxHeartbeats 4000000 in
theorem w_X0_howManyPonds (X : Ctx p m meth c cX0_howManyPonds 3 ((some .int)) s args wsX0_howManyPonds RX0 E A) (a_t : Nat) (a_ponds : Nat) (a_kinds : Nat) (a_weights : Nat) (a_cells : Nat) (a_faces : Nat) (a_pledges : Nat) (c_t : Nat → Int32) (c_ponds : Nat → Int32) (res : Int32) (ls : Array Slot) (H : Heap) (locs : List Loc) (h : f_X0_howManyPonds c_t c_ponds = some res) (hP : va_P E.1 vwCl (W_X0_howManyPonds E a_t a_ponds a_kinds a_weights a_cells a_faces a_pledges c_t c_ponds) H) (hD : va_D A (W_X0_howManyPonds E a_t a_ponds a_kinds a_weights a_cells a_faces a_pledges c_t c_ponds)) (hS : va_S A s.heap H locs) (hl : lv_has ls 3 [(0, .ref a_t)]) : W p l e r_X0_howManyPonds s m args below meth c H locs 0 0 (MQ below (qI E A res (W_X0_howManyPonds E a_t a_ponds a_kinds a_weights a_cells a_faces a_pledges c_t c_ponds)) args s 0 0 A) (F0 m 0 ls []) := by
  obtain ⟨hx, hb, hml, hr, hlk, hown, hts, hG, hA⟩ := id X
  have hK := hG.1
  have hN := hG.2.1
  unfold f_X0_howManyPonds at h
  refine lv_iconst (v := (0 : Int32)) hx hb dX0_howManyPonds_0 (by decide) ?_
  refine lv_istore_n (lv' := [(1, .int (0 : Int32)), (0, .ref a_t)]) hx hb dX0_howManyPonds_1 rfl hl (by decide) rfl (fun ls hl => ?_)
  refine lv_iconst (v := (0 : Int32)) hx hb dX0_howManyPonds_2 (by decide) ?_
  refine lv_istore_n (lv' := [(2, .int (0 : Int32)), (1, .int (0 : Int32)), (0, .ref a_t)]) hx hb dX0_howManyPonds_3 rfl hl (by decide) rfl (fun ls hl => ?_)
  exact w_X0_howManyPonds_b4 X a_t a_ponds a_kinds a_weights a_cells a_faces a_pledges c_t c_ponds res FU (0 : Int32) (0 : Int32) _ _ _ h hP hD hS (lv_sub hl [2, 1, 0] rfl)
end
set_option maxRecDepth 100000 in
theorem c_X0_howManyPonds (l : Launch) (E : Env0) (a_t : Nat) (a_ponds : Nat) (a_kinds : Nat) (a_weights : Nat) (a_cells : Nat) (a_faces : Nat) (a_pledges : Nat) (c_t : Nat → Int32) (c_ponds : Nat → Int32) (sz : Nat) (res : Int32) (h : f_X0_howManyPonds c_t c_ponds = some res) : Met l yX0_howManyPonds wsX0_howManyPonds r_X0_howManyPonds (cPre E [.ref a_t] (W_X0_howManyPonds E a_t a_ponds a_kinds a_weights a_cells a_faces a_pledges c_t c_ponds) sz) (qI E (va_A (W_X0_howManyPonds E a_t a_ponds a_kinds a_weights a_cells a_faces a_pledges c_t c_ponds) sz) res (W_X0_howManyPonds E a_t a_ponds a_kinds a_weights a_cells a_faces a_pledges c_t c_ponds)) 0 0 (va_A (W_X0_howManyPonds E a_t a_ponds a_kinds a_weights a_cells a_faces a_pledges c_t c_ponds) sz) :=
  met_of (Qc := fun A => qI E A res (W_X0_howManyPonds E a_t a_ponds a_kinds a_weights a_cells a_faces a_pledges c_t c_ponds)) (by decide) rfl (Nat.le_of_ble_eq_true rfl) (fun p e s m args below meth c X hP hD hS ls hl => w_X0_howManyPonds X a_t a_ponds a_kinds a_weights a_cells a_faces a_pledges c_t c_ponds res ls _ _ h hP hD hS hl)
-- ===== X0_isOne
noncomputable abbrev W_X0_isOne (E : Env0) (a_t : Nat) (a_ponds : Nat) (a_kinds : Nat) (a_weights : Nat) (a_cells : Nat) (a_faces : Nat) (a_pledges : Nat) (c_t : Nat → Int32) : va_W := [(a_t, .inr (0, [.int (c_t 0), .int (c_t 1), .int (c_t 2), .int (c_t 3), .int (c_t 4), .int (c_t 5), .int (c_t 6), .int (c_t 7), .ref a_ponds, .ref a_kinds, .ref a_weights, .ref a_cells, .ref a_faces, .ref a_pledges]))]
noncomputable abbrev r_X0_isOne : Room := { frames := 1, cells := 0, slots := 0, locals := 22 }
theorem hd_X0_isOne : yX0_isOne.cls ≠ "java/lang/invoke/MethodHandle" ∧ yX0_isOne.cls ≠ "java/lang/invoke/VarHandle" ∧ (parseMethodDescriptor yX0_isOne.desc).map (fun d => d.parameters.length) = some 1 := by decide +kernel
theorem hV_X0_isOne : yX0_isOne.cls = RX0 ∧ yX0_isOne.cls ≠ "java/lang/invoke/MethodHandle" ∧ yX0_isOne.cls ≠ "java/lang/invoke/VarHandle" ∧ (parseMethodDescriptor yX0_isOne.desc).map (fun d => d.parameters.length) = some 1 := ⟨rfl, hd_X0_isOne⟩
theorem iX0_isOne_X0 : ∀ w ∈ wsX00, w ∈ wsX0_isOne := fun _ h => List.mem_cons_of_mem _ (List.mem_append_right _ (h))
section
variable {p : Program} {l : Launch} {e : Env} {s : State} {m : MethodId} {args : Array Value} {below : List Frame} {meth : Method} {c : Code} {E : Env0} {A : Nat → Prop}
set_option maxRecDepth 100000 in
set_option maxHeartbeats 4000000 in
theorem w_X0_isOne (X : Ctx p m meth c cX0_isOne 2 ((some .boolean)) s args wsX0_isOne RX0 E A) (a_t : Nat) (a_ponds : Nat) (a_kinds : Nat) (a_weights : Nat) (a_cells : Nat) (a_faces : Nat) (a_pledges : Nat) (c_t : Nat → Int32) (res : Int32) (l1 : Int32) (ls : Array Slot) (H : Heap) (locs : List Loc) (h : f_X0_isOne l1 c_t = some res) (hP : va_P E.1 vwCl (W_X0_isOne E a_t a_ponds a_kinds a_weights a_cells a_faces a_pledges c_t) H) (hD : va_D A (W_X0_isOne E a_t a_ponds a_kinds a_weights a_cells a_faces a_pledges c_t)) (hS : va_S A s.heap H locs) (hl : lv_has ls 2 [(0, .ref a_t), (1, .int l1)]) : W p l e r_X0_isOne s m args below meth c H locs 0 0 (MQ below (qI E A res (W_X0_isOne E a_t a_ponds a_kinds a_weights a_cells a_faces a_pledges c_t)) args s 0 0 A) (F0 m 0 ls []) := by
  obtain ⟨hx, hb, hml, hr, hlk, hown, hts, hG, hA⟩ := id X
  have hK := hG.1
  have hN := hG.2.1
  unfold f_X0_isOne at h
  refine lv_iload_n hx hb dX0_isOne_0 rfl (lv_at hl 1 rfl) ?_
  refine lv_iconst (v := (0 : Int32)) hx hb dX0_isOne_1 (by decide) ?_
  refine lv_bipush (v := (7 : Int32)) hx hb dX0_isOne_2 (by decide) ?_
  obtain ⟨v1, hv1, h⟩ := bind_of h
  refine after_i X (run_SN X (c_X5_isWithin l E l1 (0 : Int32) (7 : Int32) H.size v1 hv1) ⟨va_cnB 3 hts gX0_isOne_X5_isWithin_n62 rfl rfl rfl (nM_2 hN) (hts (.initialized RX5) (List.mem_of_getElem? (i := 3) rfl)) hd_X5_isWithin ⟨(Nat.le_of_ble_eq_true rfl), (Nat.le_of_ble_eq_true rfl)⟩, (hts (.static yX5_isWithin) (List.mem_of_getElem? (i := 2) rfl)), trivial⟩ hP hD hS [] rfl rfl hl.1 (rest := []) rfl rfl (Nat.le_of_ble_eq_true rfl) dX0_isOne_4) hP hD hS [] rfl (ws1 := (W_X0_isOne E a_t a_ponds a_kinds a_weights a_cells a_faces a_pledges c_t)) rfl (fun H locs hP hD hS => ?_)
  refine lv_if_eq (tgt := 22) hx hb dX0_isOne_7 (by decide) (fun hc7 => ?_) (fun hc7 => ?_)
  · have h := if_t h hc7
    refine lv_iconst (v := (0 : Int32)) hx hb dX0_isOne_22 (by decide) ?_
    obtain rfl := Option.some.inj h
    exact ret_z X dX0_isOne_23 (by decide) hP hD hS rfl
  · have h := if_f h hc7
    refine lv_iload_n hx hb dX0_isOne_10 rfl (lv_at hl 1 rfl) ?_
    refine lv_aload_n hx hb dX0_isOne_11 rfl (lv_at hl 0 rfl) ?_
    refine va_get (D := E.1) (ci := 0) (v := .int (c_t 7)) (C := RX0) (T := TX0) (N := 14) hx hb hts iX0_isOne_X0 hown hK hP 0 rfl rfl 7 (by decide) (hts (.fieldLink RX0 33 "LeftIsAgreedOn$Island" "count" "I") (List.mem_of_getElem? (i := 1) rfl)) (fun _ h9 => h9) rfl dX0_isOne_12 ?_
    refine lv_icmp_ge (tgt := 22) hx hb dX0_isOne_15 (by decide) (fun hc15 => ?_) (fun hc15 => ?_)
    · have h := if_t h hc15
      refine lv_iconst (v := (0 : Int32)) hx hb dX0_isOne_22 (by decide) ?_
      obtain rfl := Option.some.inj h
      exact ret_z X dX0_isOne_23 (by decide) hP hD hS rfl
    · have h := if_f h hc15
      refine lv_iconst (v := (1 : Int32)) hx hb dX0_isOne_18 (by decide) ?_
      refine lv_goto (tgt := 23) hx hb dX0_isOne_19 (by decide) ?_
      obtain rfl := Option.some.inj h
      exact ret_z X dX0_isOne_23 (by decide) hP hD hS rfl
end
set_option maxRecDepth 100000 in
theorem c_X0_isOne (l : Launch) (E : Env0) (a_t : Nat) (a_ponds : Nat) (a_kinds : Nat) (a_weights : Nat) (a_cells : Nat) (a_faces : Nat) (a_pledges : Nat) (l1 : Int32) (c_t : Nat → Int32) (sz : Nat) (res : Int32) (h : f_X0_isOne l1 c_t = some res) : Met l yX0_isOne wsX0_isOne r_X0_isOne (cPre E [.ref a_t, .int l1] (W_X0_isOne E a_t a_ponds a_kinds a_weights a_cells a_faces a_pledges c_t) sz) (qI E (va_A (W_X0_isOne E a_t a_ponds a_kinds a_weights a_cells a_faces a_pledges c_t) sz) res (W_X0_isOne E a_t a_ponds a_kinds a_weights a_cells a_faces a_pledges c_t)) 0 0 (va_A (W_X0_isOne E a_t a_ponds a_kinds a_weights a_cells a_faces a_pledges c_t) sz) :=
  met_of (Qc := fun A => qI E A res (W_X0_isOne E a_t a_ponds a_kinds a_weights a_cells a_faces a_pledges c_t)) (by decide) rfl (Nat.le_of_ble_eq_true rfl) (fun p e s m args below meth c X hP hD hS ls hl => w_X0_isOne X a_t a_ponds a_kinds a_weights a_cells a_faces a_pledges c_t res l1 ls _ _ h hP hD hS hl)
-- ===== X0_isFull
noncomputable abbrev W_X0_isFull (E : Env0) (a_t : Nat) (a_ponds : Nat) (a_kinds : Nat) (a_weights : Nat) (a_cells : Nat) (a_faces : Nat) (a_pledges : Nat) (c_t : Nat → Int32) : va_W := [(a_t, .inr (0, [.int (c_t 0), .int (c_t 1), .int (c_t 2), .int (c_t 3), .int (c_t 4), .int (c_t 5), .int (c_t 6), .int (c_t 7), .ref a_ponds, .ref a_kinds, .ref a_weights, .ref a_cells, .ref a_faces, .ref a_pledges]))]
noncomputable abbrev r_X0_isFull : Room := { frames := 0, cells := 0, slots := 0, locals := 0 }
theorem hd_X0_isFull : yX0_isFull.cls ≠ "java/lang/invoke/MethodHandle" ∧ yX0_isFull.cls ≠ "java/lang/invoke/VarHandle" ∧ (parseMethodDescriptor yX0_isFull.desc).map (fun d => d.parameters.length) = some 0 := by decide +kernel
theorem hV_X0_isFull : yX0_isFull.cls = RX0 ∧ yX0_isFull.cls ≠ "java/lang/invoke/MethodHandle" ∧ yX0_isFull.cls ≠ "java/lang/invoke/VarHandle" ∧ (parseMethodDescriptor yX0_isFull.desc).map (fun d => d.parameters.length) = some 0 := ⟨rfl, hd_X0_isFull⟩
theorem iX0_isFull_X0 : ∀ w ∈ wsX00, w ∈ wsX0_isFull := fun _ h => List.mem_cons_of_mem _ (List.mem_append_right _ (h))
section
variable {p : Program} {l : Launch} {e : Env} {s : State} {m : MethodId} {args : Array Value} {below : List Frame} {meth : Method} {c : Code} {E : Env0} {A : Nat → Prop}
set_option maxRecDepth 100000 in
set_option maxHeartbeats 4000000 in
theorem w_X0_isFull (X : Ctx p m meth c cX0_isFull 1 ((some .boolean)) s args wsX0_isFull RX0 E A) (a_t : Nat) (a_ponds : Nat) (a_kinds : Nat) (a_weights : Nat) (a_cells : Nat) (a_faces : Nat) (a_pledges : Nat) (c_t : Nat → Int32) (res : Int32) (ls : Array Slot) (H : Heap) (locs : List Loc) (h : f_X0_isFull c_t = some res) (hP : va_P E.1 vwCl (W_X0_isFull E a_t a_ponds a_kinds a_weights a_cells a_faces a_pledges c_t) H) (hD : va_D A (W_X0_isFull E a_t a_ponds a_kinds a_weights a_cells a_faces a_pledges c_t)) (hS : va_S A s.heap H locs) (hl : lv_has ls 1 [(0, .ref a_t)]) : W p l e r_X0_isFull s m args below meth c H locs 0 0 (MQ below (qI E A res (W_X0_isFull E a_t a_ponds a_kinds a_weights a_cells a_faces a_pledges c_t)) args s 0 0 A) (F0 m 0 ls []) := by
  obtain ⟨hx, hb, hml, hr, hlk, hown, hts, hG, hA⟩ := id X
  have hK := hG.1
  have hN := hG.2.1
  unfold f_X0_isFull at h
  refine lv_aload_n hx hb dX0_isFull_0 rfl (lv_at hl 0 rfl) ?_
  refine va_get (D := E.1) (ci := 0) (v := .int (c_t 7)) (C := RX0) (T := TX0) (N := 14) hx hb hts iX0_isFull_X0 hown hK hP 0 rfl rfl 7 (by decide) (hts (.fieldLink RX0 33 "LeftIsAgreedOn$Island" "count" "I") (List.mem_of_getElem? (i := 1) rfl)) (fun _ h9 => h9) rfl dX0_isFull_1 ?_
  refine lv_bipush (v := (8 : Int32)) hx hb dX0_isFull_4 (by decide) ?_
  refine lv_icmp_lt (tgt := 13) hx hb dX0_isFull_6 (by decide) (fun hc6 => ?_) (fun hc6 => ?_)
  · have h := if_t h hc6
    refine lv_iconst (v := (0 : Int32)) hx hb dX0_isFull_13 (by decide) ?_
    obtain rfl := Option.some.inj h
    exact ret_z X dX0_isFull_14 (by decide) hP hD hS rfl
  · have h := if_f h hc6
    refine lv_iconst (v := (1 : Int32)) hx hb dX0_isFull_9 (by decide) ?_
    refine lv_goto (tgt := 14) hx hb dX0_isFull_10 (by decide) ?_
    obtain rfl := Option.some.inj h
    exact ret_z X dX0_isFull_14 (by decide) hP hD hS rfl
end
set_option maxRecDepth 100000 in
theorem c_X0_isFull (l : Launch) (E : Env0) (a_t : Nat) (a_ponds : Nat) (a_kinds : Nat) (a_weights : Nat) (a_cells : Nat) (a_faces : Nat) (a_pledges : Nat) (c_t : Nat → Int32) (sz : Nat) (res : Int32) (h : f_X0_isFull c_t = some res) : Met l yX0_isFull wsX0_isFull r_X0_isFull (cPre E [.ref a_t] (W_X0_isFull E a_t a_ponds a_kinds a_weights a_cells a_faces a_pledges c_t) sz) (qI E (va_A (W_X0_isFull E a_t a_ponds a_kinds a_weights a_cells a_faces a_pledges c_t) sz) res (W_X0_isFull E a_t a_ponds a_kinds a_weights a_cells a_faces a_pledges c_t)) 0 0 (va_A (W_X0_isFull E a_t a_ponds a_kinds a_weights a_cells a_faces a_pledges c_t) sz) :=
  met_of (Qc := fun A => qI E A res (W_X0_isFull E a_t a_ponds a_kinds a_weights a_cells a_faces a_pledges c_t)) (by decide) rfl (Nat.le_of_ble_eq_true rfl) (fun p e s m args below meth c X hP hD hS ls hl => w_X0_isFull X a_t a_ponds a_kinds a_weights a_cells a_faces a_pledges c_t res ls _ _ h hP hD hS hl)
-- ===== X0_hasSomebody
noncomputable abbrev W_X0_hasSomebody (E : Env0) (a_t : Nat) (a_cells : Nat) (a_ponds : Nat) (a_kinds : Nat) (a_weights : Nat) (a_faces : Nat) (a_pledges : Nat) (c_t : Nat → Int32) (c_cells : Nat → Int32) : va_W := [(a_t, .inr (0, [.int (c_t 0), .int (c_t 1), .int (c_t 2), .int (c_t 3), .int (c_t 4), .int (c_t 5), .int (c_t 6), .int (c_t 7), .ref a_ponds, .ref a_kinds, .ref a_weights, .ref a_cells, .ref a_faces, .ref a_pledges])), (a_cells, .inl (eI E, 8, .inl c_cells))]
noncomputable abbrev r_X0_hasSomebody : Room := { frames := 0, cells := 0, slots := 0, locals := 0 }
theorem hd_X0_hasSomebody : yX0_hasSomebody.cls ≠ "java/lang/invoke/MethodHandle" ∧ yX0_hasSomebody.cls ≠ "java/lang/invoke/VarHandle" ∧ (parseMethodDescriptor yX0_hasSomebody.desc).map (fun d => d.parameters.length) = some 1 := by decide +kernel
theorem hV_X0_hasSomebody : yX0_hasSomebody.cls = RX0 ∧ yX0_hasSomebody.cls ≠ "java/lang/invoke/MethodHandle" ∧ yX0_hasSomebody.cls ≠ "java/lang/invoke/VarHandle" ∧ (parseMethodDescriptor yX0_hasSomebody.desc).map (fun d => d.parameters.length) = some 1 := ⟨rfl, hd_X0_hasSomebody⟩
theorem iX0_hasSomebody_X0 : ∀ w ∈ wsX00, w ∈ wsX0_hasSomebody := fun _ h => List.mem_cons_of_mem _ (List.mem_append_right _ (h))
section
variable {p : Program} {l : Launch} {e : Env} {s : State} {m : MethodId} {args : Array Value} {below : List Frame} {meth : Method} {c : Code} {E : Env0} {A : Nat → Prop}
set_option maxRecDepth 100000 in
set_option maxHeartbeats 4000000 in
theorem w_X0_hasSomebody_b2 (X : Ctx p m meth c cX0_hasSomebody 3 ((some .boolean)) s args wsX0_hasSomebody RX0 E A) (a_t : Nat) (a_cells : Nat) (a_ponds : Nat) (a_kinds : Nat) (a_weights : Nat) (a_faces : Nat) (a_pledges : Nat) (c_t : Nat → Int32) (c_cells : Nat → Int32) (res : Int32) : ∀ (n : Nat) (l1 : Int32) (l2 : Int32) (ls : Array Slot) (H : Heap) (locs : List Loc), f_X0_hasSomebody_b2 c_t c_cells n l1 l2 = some res → va_P E.1 vwCl (W_X0_hasSomebody E a_t a_cells a_ponds a_kinds a_weights a_faces a_pledges c_t c_cells) H → va_D A (W_X0_hasSomebody E a_t a_cells a_ponds a_kinds a_weights a_faces a_pledges c_t c_cells) → va_S A s.heap H locs → lv_has ls 3 [(0, .ref a_t), (1, .int l1), (2, .int l2)] → W p l e r_X0_hasSomebody s m args below meth c H locs 0 0 (MQ below (qI E A res (W_X0_hasSomebody E a_t a_cells a_ponds a_kinds a_weights a_faces a_pledges c_t c_cells)) args s 0 0 A) (F0 m 2 ls []) := by
  obtain ⟨hx, hb, hml, hr, hlk, hown, hts, hG, hA⟩ := id X
  have hK := hG.1
  have hN := hG.2.1
  intro n
  induction n with
  | zero =>
    intro l1 l2 ls H locs h
    exact absurd (show (none : Option (Int32)) = some res from h) (by intro q; cases q)
  | succ n ih =>
    intro l1 l2 ls H locs h hP hD hS hl
    rw [f_X0_hasSomebody_b2] at h
    refine lv_iload_n hx hb dX0_hasSomebody_2 rfl (lv_at hl 2 rfl) ?_
    refine lv_aload_n hx hb dX0_hasSomebody_3 rfl (lv_at hl 0 rfl) ?_
    refine va_get (D := E.1) (ci := 0) (v := .int (c_t 7)) (C := RX0) (T := TX0) (N := 14) hx hb hts iX0_hasSomebody_X0 hown hK hP 0 rfl rfl 7 (by decide) (hts (.fieldLink RX0 33 "LeftIsAgreedOn$Island" "count" "I") (List.mem_of_getElem? (i := 1) rfl)) (fun _ h9 => h9) rfl dX0_hasSomebody_4 ?_
    refine lv_icmp_ge (tgt := 28) hx hb dX0_hasSomebody_7 (by decide) (fun hc7 => ?_) (fun hc7 => ?_)
    · have h := if_t h hc7
      refine lv_iconst (v := (0 : Int32)) hx hb dX0_hasSomebody_28 (by decide) ?_
      obtain rfl := Option.some.inj h
      exact ret_z X dX0_hasSomebody_29 (by decide) hP hD hS rfl
    · have h := if_f h hc7
      refine lv_aload_n hx hb dX0_hasSomebody_10 rfl (lv_at hl 0 rfl) ?_
      refine va_get (D := E.1) (ci := 0) (v := .ref a_cells) (C := RX0) (T := TX0) (N := 14) hx hb hts iX0_hasSomebody_X0 hown hK hP 0 rfl rfl 11 (by decide) (hts (.fieldLink RX0 47 "LeftIsAgreedOn$Island" "cells" "[I") (List.mem_of_getElem? (i := 2) rfl)) (fun _ h9 => h9) rfl dX0_hasSomebody_11 ?_
      refine lv_iload_n hx hb dX0_hasSomebody_14 rfl (lv_at hl 2 rfl) ?_
      obtain ⟨hz15, h⟩ := chk_of h
      refine ld_i X hP 1 rfl (inb.vp hz15) (v := (c_cells (l2).toNatClampNeg)) rfl dX0_hasSomebody_15 ?_
      refine lv_iload_n hx hb dX0_hasSomebody_16 rfl (lv_at hl 1 rfl) ?_
      refine lv_icmp_ne (tgt := 22) hx hb dX0_hasSomebody_17 (by decide) (fun hc17 => ?_) (fun hc17 => ?_)
      · have h := if_f h hc17
        refine lv_iinc (v := (l2 + (1 : Int32))) (lv' := [(2, .int (l2 + (1 : Int32))), (0, .ref a_t), (1, .int l1)]) hx hb dX0_hasSomebody_22 hl (k := 2) rfl rfl (by decide) rfl (fun ls hl => ?_)
        refine lv_goto (tgt := 2) hx hb dX0_hasSomebody_25 (by decide) ?_
        exact ih l1 (l2 + (1 : Int32)) _ _ _ h hP hD hS (lv_sub hl [1, 2, 0] rfl)
      · have h := if_t h hc17
        refine lv_iconst (v := (1 : Int32)) hx hb dX0_hasSomebody_20 (by decide) ?_
        obtain rfl := Option.some.inj h
        exact ret_z X dX0_hasSomebody_21 (by decide) hP hD hS rfl
set_option maxRecDepth 100000 in
set_option maxHeartbeats 4000000 in
theorem w_X0_hasSomebody (X : Ctx p m meth c cX0_hasSomebody 3 ((some .boolean)) s args wsX0_hasSomebody RX0 E A) (a_t : Nat) (a_cells : Nat) (a_ponds : Nat) (a_kinds : Nat) (a_weights : Nat) (a_faces : Nat) (a_pledges : Nat) (c_t : Nat → Int32) (c_cells : Nat → Int32) (res : Int32) (l1 : Int32) (ls : Array Slot) (H : Heap) (locs : List Loc) (h : f_X0_hasSomebody l1 c_t c_cells = some res) (hP : va_P E.1 vwCl (W_X0_hasSomebody E a_t a_cells a_ponds a_kinds a_weights a_faces a_pledges c_t c_cells) H) (hD : va_D A (W_X0_hasSomebody E a_t a_cells a_ponds a_kinds a_weights a_faces a_pledges c_t c_cells)) (hS : va_S A s.heap H locs) (hl : lv_has ls 3 [(0, .ref a_t), (1, .int l1)]) : W p l e r_X0_hasSomebody s m args below meth c H locs 0 0 (MQ below (qI E A res (W_X0_hasSomebody E a_t a_cells a_ponds a_kinds a_weights a_faces a_pledges c_t c_cells)) args s 0 0 A) (F0 m 0 ls []) := by
  obtain ⟨hx, hb, hml, hr, hlk, hown, hts, hG, hA⟩ := id X
  have hK := hG.1
  have hN := hG.2.1
  unfold f_X0_hasSomebody at h
  refine lv_iconst (v := (0 : Int32)) hx hb dX0_hasSomebody_0 (by decide) ?_
  refine lv_istore_n (lv' := [(2, .int (0 : Int32)), (0, .ref a_t), (1, .int l1)]) hx hb dX0_hasSomebody_1 rfl hl (by decide) rfl (fun ls hl => ?_)
  exact w_X0_hasSomebody_b2 X a_t a_cells a_ponds a_kinds a_weights a_faces a_pledges c_t c_cells res FU l1 (0 : Int32) _ _ _ h hP hD hS (lv_sub hl [1, 2, 0] rfl)
end
set_option maxRecDepth 100000 in
theorem c_X0_hasSomebody (l : Launch) (E : Env0) (a_t : Nat) (a_cells : Nat) (a_ponds : Nat) (a_kinds : Nat) (a_weights : Nat) (a_faces : Nat) (a_pledges : Nat) (l1 : Int32) (c_t : Nat → Int32) (c_cells : Nat → Int32) (sz : Nat) (res : Int32) (h : f_X0_hasSomebody l1 c_t c_cells = some res) : Met l yX0_hasSomebody wsX0_hasSomebody r_X0_hasSomebody (cPre E [.ref a_t, .int l1] (W_X0_hasSomebody E a_t a_cells a_ponds a_kinds a_weights a_faces a_pledges c_t c_cells) sz) (qI E (va_A (W_X0_hasSomebody E a_t a_cells a_ponds a_kinds a_weights a_faces a_pledges c_t c_cells) sz) res (W_X0_hasSomebody E a_t a_cells a_ponds a_kinds a_weights a_faces a_pledges c_t c_cells)) 0 0 (va_A (W_X0_hasSomebody E a_t a_cells a_ponds a_kinds a_weights a_faces a_pledges c_t c_cells) sz) :=
  met_of (Qc := fun A => qI E A res (W_X0_hasSomebody E a_t a_cells a_ponds a_kinds a_weights a_faces a_pledges c_t c_cells)) (by decide) rfl (Nat.le_of_ble_eq_true rfl) (fun p e s m args below meth c X hP hD hS ls hl => w_X0_hasSomebody X a_t a_cells a_ponds a_kinds a_weights a_faces a_pledges c_t c_cells res l1 ls _ _ h hP hD hS hl)
-- ===== X0_add
noncomputable abbrev W_X0_add (E : Env0) (a_t : Nat) (a_cells : Nat) (a_faces : Nat) (a_kinds : Nat) (a_pledges : Nat) (a_weights : Nat) (a_ponds : Nat) (c_t : Nat → Int32) (c_cells : Nat → Int32) (c_faces : Nat → Int32) (c_kinds : Nat → Int32) (c_pledges : Nat → Int32) (c_weights : Nat → Int32) : va_W := [(a_t, .inr (0, [.int (c_t 0), .int (c_t 1), .int (c_t 2), .int (c_t 3), .int (c_t 4), .int (c_t 5), .int (c_t 6), .int (c_t 7), .ref a_ponds, .ref a_kinds, .ref a_weights, .ref a_cells, .ref a_faces, .ref a_pledges])), (a_cells, .inl (eI E, 8, .inl c_cells)), (a_faces, .inl (eI E, 8, .inl c_faces)), (a_kinds, .inl (eI E, 8, .inl c_kinds)), (a_pledges, .inl (eI E, 8, .inl c_pledges)), (a_weights, .inl (eI E, 8, .inl c_weights))]
noncomputable abbrev r_X0_add : Room := { frames := 1, cells := 0, slots := 0, locals := 20 }
theorem hd_X0_add : yX0_add.cls ≠ "java/lang/invoke/MethodHandle" ∧ yX0_add.cls ≠ "java/lang/invoke/VarHandle" ∧ (parseMethodDescriptor yX0_add.desc).map (fun d => d.parameters.length) = some 4 := by decide +kernel
theorem hV_X0_add : yX0_add.cls = RX0 ∧ yX0_add.cls ≠ "java/lang/invoke/MethodHandle" ∧ yX0_add.cls ≠ "java/lang/invoke/VarHandle" ∧ (parseMethodDescriptor yX0_add.desc).map (fun d => d.parameters.length) = some 4 := ⟨rfl, hd_X0_add⟩
theorem iX0_add_X0 : ∀ w ∈ wsX00, w ∈ wsX0_add := fun _ h => List.mem_cons_of_mem _ (List.mem_append_right _ (h))
section
variable {p : Program} {l : Launch} {e : Env} {s : State} {m : MethodId} {args : Array Value} {below : List Frame} {meth : Method} {c : Code} {E : Env0} {A : Nat → Prop}
set_option maxRecDepth 100000 in
set_option maxHeartbeats 4000000 in
theorem w_X0_add (X : Ctx p m meth c cX0_add 6 ((some .int)) s args wsX0_add RX0 E A) (a_t : Nat) (a_cells : Nat) (a_faces : Nat) (a_kinds : Nat) (a_pledges : Nat) (a_weights : Nat) (a_ponds : Nat) (res : Int32 × (Nat → Int32) × (Nat → Int32) × (Nat → Int32) × (Nat → Int32) × (Nat → Int32) × (Nat → Int32)) (c_t : Nat → Int32) (c_cells : Nat → Int32) (c_faces : Nat → Int32) (c_kinds : Nat → Int32) (c_pledges : Nat → Int32) (c_weights : Nat → Int32) (l1 : Int32) (l2 : Int32) (l3 : Int32) (l4 : Int32) (ls : Array Slot) (H : Heap) (locs : List Loc) (h : f_X0_add l1 l2 l3 l4 c_t c_cells c_faces c_kinds c_pledges c_weights = some res) (hP : va_P E.1 vwCl (W_X0_add E a_t a_cells a_faces a_kinds a_pledges a_weights a_ponds c_t c_cells c_faces c_kinds c_pledges c_weights) H) (hD : va_D A (W_X0_add E a_t a_cells a_faces a_kinds a_pledges a_weights a_ponds c_t c_cells c_faces c_kinds c_pledges c_weights)) (hS : va_S A s.heap H locs) (hl : lv_has ls 6 [(0, .ref a_t), (1, .int l1), (2, .int l2), (3, .int l3), (4, .int l4)]) : W p l e r_X0_add s m args below meth c H locs 0 0 (MQ below (qI E A (res.1) (W_X0_add E a_t a_cells a_faces a_kinds a_pledges a_weights a_ponds (res.2.1) (res.2.2.1) (res.2.2.2.1) (res.2.2.2.2.1) (res.2.2.2.2.2.1) (res.2.2.2.2.2.2))) args s 0 0 A) (F0 m 0 ls []) := by
  obtain ⟨hx, hb, hml, hr, hlk, hown, hts, hG, hA⟩ := id X
  have hK := hG.1
  have hN := hG.2.1
  unfold f_X0_add at h
  refine lv_aload_n hx hb dX0_add_0 rfl (lv_at hl 0 rfl) ?_
  obtain ⟨v1, hv1, h⟩ := bind_of h
  refine after_i X (run_V X (c_X0_isFull l E a_t a_ponds a_kinds a_weights a_cells a_faces a_pledges c_t H.size v1 hv1) (cwV 0 hts gX0_add_X0_isFull rfl rfl rfl hV_X0_isFull ⟨(Nat.le_of_ble_eq_true rfl), (Nat.le_of_ble_eq_true rfl)⟩) hP hD hS [0] rfl rfl hl.1 (ci := 0) rfl rfl rfl (rest := []) rfl rfl (Nat.le_of_ble_eq_true rfl) dX0_add_1) hP hD hS [0] rfl (ws1 := (W_X0_add E a_t a_cells a_faces a_kinds a_pledges a_weights a_ponds c_t c_cells c_faces c_kinds c_pledges c_weights)) rfl (fun H locs hP hD hS => ?_)
  refine lv_if_eq (tgt := 9) hx hb dX0_add_4 (by decide) (fun hc4 => ?_) (fun hc4 => ?_)
  · have h := if_t h hc4
    refine lv_aload_n hx hb dX0_add_9 rfl (lv_at hl 0 rfl) ?_
    refine va_get (D := E.1) (ci := 0) (v := .int (c_t 7)) (C := RX0) (T := TX0) (N := 14) hx hb hts iX0_add_X0 hown hK hP 0 rfl rfl 7 (by decide) (hts (.fieldLink RX0 33 "LeftIsAgreedOn$Island" "count" "I") (List.mem_of_getElem? (i := 1) rfl)) (fun _ h9 => h9) rfl dX0_add_10 ?_
    refine lv_istore (lv' := [(5, .int (c_t 7)), (0, .ref a_t), (1, .int l1), (2, .int l2), (3, .int l3), (4, .int l4)]) hx hb dX0_add_13 hl (by decide) rfl (fun ls hl => ?_)
    refine lv_aload_n hx hb dX0_add_15 rfl (lv_at hl 1 rfl) ?_
    refine va_get (D := E.1) (ci := 0) (v := .ref a_kinds) (C := RX0) (T := TX0) (N := 14) hx hb hts iX0_add_X0 hown hK hP 0 rfl rfl 9 (by decide) (hts (.fieldLink RX0 40 "LeftIsAgreedOn$Island" "kinds" "[I") (List.mem_of_getElem? (i := 2) rfl)) (fun _ h9 => h9) rfl dX0_add_16 ?_
    refine lv_iload hx hb dX0_add_19 (lv_at hl 0 rfl) ?_
    refine lv_iload_n hx hb dX0_add_21 rfl (lv_at hl 2 rfl) ?_
    obtain ⟨hz22, h⟩ := chk_of h
    refine st_i X hP hD hS 3 rfl (inb.vp hz22) (k := ((c_t 7)).toNatClampNeg) rfl (ws1 := (W_X0_add E a_t a_cells a_faces a_kinds a_pledges a_weights a_ponds c_t c_cells c_faces (upd c_kinds (((c_t 7)).toNatClampNeg) l1) c_pledges c_weights)) rfl dX0_add_22 (fun H locs hP hD hS => ?_)
    refine lv_aload_n hx hb dX0_add_23 rfl (lv_at hl 1 rfl) ?_
    refine va_get (D := E.1) (ci := 0) (v := .ref a_weights) (C := RX0) (T := TX0) (N := 14) hx hb hts iX0_add_X0 hown hK hP 0 rfl rfl 10 (by decide) (hts (.fieldLink RX0 44 "LeftIsAgreedOn$Island" "weights" "[I") (List.mem_of_getElem? (i := 3) rfl)) (fun _ h9 => h9) rfl dX0_add_24 ?_
    refine lv_iload hx hb dX0_add_27 (lv_at hl 0 rfl) ?_
    refine lv_iload_n hx hb dX0_add_29 rfl (lv_at hl 3 rfl) ?_
    obtain ⟨hz30, h⟩ := chk_of h
    refine st_i X hP hD hS 5 rfl (inb.vp hz30) (k := ((c_t 7)).toNatClampNeg) rfl (ws1 := (W_X0_add E a_t a_cells a_faces a_kinds a_pledges a_weights a_ponds c_t c_cells c_faces (upd c_kinds (((c_t 7)).toNatClampNeg) l1) c_pledges (upd c_weights (((c_t 7)).toNatClampNeg) l2))) rfl dX0_add_30 (fun H locs hP hD hS => ?_)
    refine lv_aload_n hx hb dX0_add_31 rfl (lv_at hl 1 rfl) ?_
    refine va_get (D := E.1) (ci := 0) (v := .ref a_cells) (C := RX0) (T := TX0) (N := 14) hx hb hts iX0_add_X0 hown hK hP 0 rfl rfl 11 (by decide) (hts (.fieldLink RX0 47 "LeftIsAgreedOn$Island" "cells" "[I") (List.mem_of_getElem? (i := 4) rfl)) (fun _ h9 => h9) rfl dX0_add_32 ?_
    refine lv_iload hx hb dX0_add_35 (lv_at hl 0 rfl) ?_
    refine lv_iload_n hx hb dX0_add_37 rfl (lv_at hl 4 rfl) ?_
    obtain ⟨hz38, h⟩ := chk_of h
    refine st_i X hP hD hS 1 rfl (inb.vp hz38) (k := ((c_t 7)).toNatClampNeg) rfl (ws1 := (W_X0_add E a_t a_cells a_faces a_kinds a_pledges a_weights a_ponds c_t (upd c_cells (((c_t 7)).toNatClampNeg) l3) c_faces (upd c_kinds (((c_t 7)).toNatClampNeg) l1) c_pledges (upd c_weights (((c_t 7)).toNatClampNeg) l2))) rfl dX0_add_38 (fun H locs hP hD hS => ?_)
    refine lv_aload_n hx hb dX0_add_39 rfl (lv_at hl 1 rfl) ?_
    refine va_get (D := E.1) (ci := 0) (v := .ref a_faces) (C := RX0) (T := TX0) (N := 14) hx hb hts iX0_add_X0 hown hK hP 0 rfl rfl 12 (by decide) (hts (.fieldLink RX0 50 "LeftIsAgreedOn$Island" "faces" "[I") (List.mem_of_getElem? (i := 5) rfl)) (fun _ h9 => h9) rfl dX0_add_40 ?_
    refine lv_iload hx hb dX0_add_43 (lv_at hl 0 rfl) ?_
    refine lv_iload hx hb dX0_add_45 (lv_at hl 5 rfl) ?_
    obtain ⟨hz47, h⟩ := chk_of h
    refine st_i X hP hD hS 2 rfl (inb.vp hz47) (k := ((c_t 7)).toNatClampNeg) rfl (ws1 := (W_X0_add E a_t a_cells a_faces a_kinds a_pledges a_weights a_ponds c_t (upd c_cells (((c_t 7)).toNatClampNeg) l3) (upd c_faces (((c_t 7)).toNatClampNeg) l4) (upd c_kinds (((c_t 7)).toNatClampNeg) l1) c_pledges (upd c_weights (((c_t 7)).toNatClampNeg) l2))) rfl dX0_add_47 (fun H locs hP hD hS => ?_)
    refine lv_aload_n hx hb dX0_add_48 rfl (lv_at hl 1 rfl) ?_
    refine va_get (D := E.1) (ci := 0) (v := .ref a_pledges) (C := RX0) (T := TX0) (N := 14) hx hb hts iX0_add_X0 hown hK hP 0 rfl rfl 13 (by decide) (hts (.fieldLink RX0 53 "LeftIsAgreedOn$Island" "pledges" "[I") (List.mem_of_getElem? (i := 6) rfl)) (fun _ h9 => h9) rfl dX0_add_49 ?_
    refine lv_iload hx hb dX0_add_52 (lv_at hl 0 rfl) ?_
    refine lv_iconst (v := (0 : Int32)) hx hb dX0_add_54 (by decide) ?_
    obtain ⟨hz55, h⟩ := chk_of h
    refine st_i X hP hD hS 4 rfl (inb.vp hz55) (k := ((c_t 7)).toNatClampNeg) rfl (ws1 := (W_X0_add E a_t a_cells a_faces a_kinds a_pledges a_weights a_ponds c_t (upd c_cells (((c_t 7)).toNatClampNeg) l3) (upd c_faces (((c_t 7)).toNatClampNeg) l4) (upd c_kinds (((c_t 7)).toNatClampNeg) l1) (upd c_pledges (((c_t 7)).toNatClampNeg) (0 : Int32)) (upd c_weights (((c_t 7)).toNatClampNeg) l2))) rfl dX0_add_55 (fun H locs hP hD hS => ?_)
    refine lv_aload_n hx hb dX0_add_56 rfl (lv_at hl 1 rfl) ?_
    refine lv_dup hx hb dX0_add_57 rfl ?_
    refine va_get (D := E.1) (ci := 0) (v := .int (c_t 7)) (C := RX0) (T := TX0) (N := 14) hx hb hts iX0_add_X0 hown hK hP 0 rfl rfl 7 (by decide) (hts (.fieldLink RX0 33 "LeftIsAgreedOn$Island" "count" "I") (List.mem_of_getElem? (i := 1) rfl)) (fun _ h9 => h9) rfl dX0_add_58 ?_
    refine lv_iconst (v := (1 : Int32)) hx hb dX0_add_61 (by decide) ?_
    refine lv_iadd hx hb dX0_add_62 ?_
    refine va_put (D := E.1) (ci := 0) (v := .int ((c_t 7) + (1 : Int32))) (ty := .int) (C := RX0) (T := TX0) (N := 14) hx hb hts iX0_add_X0 tyX0 tyX0_ok nmX0 hown hK hP hD hS 0 rfl rfl 7 (by decide) (hts (.fieldLink RX0 33 "LeftIsAgreedOn$Island" "count" "I") (List.mem_of_getElem? (i := 1) rfl)) (fun _ h9 => h9) rfl (tyX0_ok 7 (by decide)) rfl rfl (Nat.le_of_ble_eq_true rfl) dX0_add_63 (fun H locs hP hD hS => ?_)
    have hP : va_P E.1 vwCl (W_X0_add E a_t a_cells a_faces a_kinds a_pledges a_weights a_ponds (upd c_t 7 ((c_t 7) + (1 : Int32))) (upd c_cells (((c_t 7)).toNatClampNeg) l3) (upd c_faces (((c_t 7)).toNatClampNeg) l4) (upd c_kinds (((c_t 7)).toNatClampNeg) l1) (upd c_pledges (((c_t 7)).toNatClampNeg) (0 : Int32)) (upd c_weights (((c_t 7)).toNatClampNeg) l2)) H := hP
    have hD : va_D A (W_X0_add E a_t a_cells a_faces a_kinds a_pledges a_weights a_ponds (upd c_t 7 ((c_t 7) + (1 : Int32))) (upd c_cells (((c_t 7)).toNatClampNeg) l3) (upd c_faces (((c_t 7)).toNatClampNeg) l4) (upd c_kinds (((c_t 7)).toNatClampNeg) l1) (upd c_pledges (((c_t 7)).toNatClampNeg) (0 : Int32)) (upd c_weights (((c_t 7)).toNatClampNeg) l2)) := hD
    refine lv_iload hx hb dX0_add_66 (lv_at hl 0 rfl) ?_
    obtain rfl := Option.some.inj h
    exact ret_i X dX0_add_68 hP hD hS rfl
  · have h := if_f h hc4
    refine lv_iconst (v := (-1 : Int32)) hx hb dX0_add_7 (by decide) ?_
    obtain rfl := Option.some.inj h
    exact ret_i X dX0_add_8 hP hD hS rfl
end
set_option maxRecDepth 100000 in
theorem c_X0_add (l : Launch) (E : Env0) (a_t : Nat) (a_cells : Nat) (a_faces : Nat) (a_kinds : Nat) (a_pledges : Nat) (a_weights : Nat) (a_ponds : Nat) (l1 : Int32) (l2 : Int32) (l3 : Int32) (l4 : Int32) (c_t : Nat → Int32) (c_cells : Nat → Int32) (c_faces : Nat → Int32) (c_kinds : Nat → Int32) (c_pledges : Nat → Int32) (c_weights : Nat → Int32) (sz : Nat) (res : Int32 × (Nat → Int32) × (Nat → Int32) × (Nat → Int32) × (Nat → Int32) × (Nat → Int32) × (Nat → Int32)) (h : f_X0_add l1 l2 l3 l4 c_t c_cells c_faces c_kinds c_pledges c_weights = some res) : Met l yX0_add wsX0_add r_X0_add (cPre E [.ref a_t, .int l1, .int l2, .int l3, .int l4] (W_X0_add E a_t a_cells a_faces a_kinds a_pledges a_weights a_ponds c_t c_cells c_faces c_kinds c_pledges c_weights) sz) (qI E (va_A (W_X0_add E a_t a_cells a_faces a_kinds a_pledges a_weights a_ponds c_t c_cells c_faces c_kinds c_pledges c_weights) sz) (res.1) (W_X0_add E a_t a_cells a_faces a_kinds a_pledges a_weights a_ponds (res.2.1) (res.2.2.1) (res.2.2.2.1) (res.2.2.2.2.1) (res.2.2.2.2.2.1) (res.2.2.2.2.2.2))) 0 0 (va_A (W_X0_add E a_t a_cells a_faces a_kinds a_pledges a_weights a_ponds c_t c_cells c_faces c_kinds c_pledges c_weights) sz) :=
  met_of (Qc := fun A => qI E A (res.1) (W_X0_add E a_t a_cells a_faces a_kinds a_pledges a_weights a_ponds (res.2.1) (res.2.2.1) (res.2.2.2.1) (res.2.2.2.2.1) (res.2.2.2.2.2.1) (res.2.2.2.2.2.2))) (by decide) rfl (Nat.le_of_ble_eq_true rfl) (fun p e s m args below meth c X hP hD hS ls hl => w_X0_add X a_t a_cells a_faces a_kinds a_pledges a_weights a_ponds res c_t c_cells c_faces c_kinds c_pledges c_weights l1 l2 l3 l4 ls _ _ h hP hD hS hl)
-- ===== X0_weightOf
noncomputable abbrev W_X0_weightOf (E : Env0) (a_t : Nat) (a_weights : Nat) (a_ponds : Nat) (a_kinds : Nat) (a_cells : Nat) (a_faces : Nat) (a_pledges : Nat) (c_t : Nat → Int32) (c_weights : Nat → Int32) : va_W := [(a_t, .inr (0, [.int (c_t 0), .int (c_t 1), .int (c_t 2), .int (c_t 3), .int (c_t 4), .int (c_t 5), .int (c_t 6), .int (c_t 7), .ref a_ponds, .ref a_kinds, .ref a_weights, .ref a_cells, .ref a_faces, .ref a_pledges])), (a_weights, .inl (eI E, 8, .inl c_weights))]
noncomputable abbrev r_X0_weightOf : Room := { frames := 0, cells := 0, slots := 0, locals := 0 }
theorem hd_X0_weightOf : yX0_weightOf.cls ≠ "java/lang/invoke/MethodHandle" ∧ yX0_weightOf.cls ≠ "java/lang/invoke/VarHandle" ∧ (parseMethodDescriptor yX0_weightOf.desc).map (fun d => d.parameters.length) = some 1 := by decide +kernel
theorem hV_X0_weightOf : yX0_weightOf.cls = RX0 ∧ yX0_weightOf.cls ≠ "java/lang/invoke/MethodHandle" ∧ yX0_weightOf.cls ≠ "java/lang/invoke/VarHandle" ∧ (parseMethodDescriptor yX0_weightOf.desc).map (fun d => d.parameters.length) = some 1 := ⟨rfl, hd_X0_weightOf⟩
theorem iX0_weightOf_X0 : ∀ w ∈ wsX00, w ∈ wsX0_weightOf := fun _ h => List.mem_cons_of_mem _ (List.mem_append_right _ (h))
section
variable {p : Program} {l : Launch} {e : Env} {s : State} {m : MethodId} {args : Array Value} {below : List Frame} {meth : Method} {c : Code} {E : Env0} {A : Nat → Prop}
set_option maxRecDepth 100000 in
set_option maxHeartbeats 4000000 in
theorem w_X0_weightOf_b30 (X : Ctx p m meth c cX0_weightOf 4 ((some .int)) s args wsX0_weightOf RX0 E A) (a_t : Nat) (a_weights : Nat) (a_ponds : Nat) (a_kinds : Nat) (a_cells : Nat) (a_faces : Nat) (a_pledges : Nat) (c_t : Nat → Int32) (c_weights : Nat → Int32) (res : Int32) (k4 : Int32 → Int32 → Int32 → Option (Int32)) (hk4 : ∀ (l1 : Int32) (l2 : Int32) (l3 : Int32) (ls : Array Slot) (H : Heap) (locs : List Loc), k4 l1 l2 l3 = some res → va_P E.1 vwCl (W_X0_weightOf E a_t a_weights a_ponds a_kinds a_cells a_faces a_pledges c_t c_weights) H → va_D A (W_X0_weightOf E a_t a_weights a_ponds a_kinds a_cells a_faces a_pledges c_t c_weights) → va_S A s.heap H locs → lv_has ls 4 [(0, .ref a_t), (1, .int l1), (2, .int l2), (3, .int l3)] → W p l e r_X0_weightOf s m args below meth c H locs 0 0 (MQ below (qI E A res (W_X0_weightOf E a_t a_weights a_ponds a_kinds a_cells a_faces a_pledges c_t c_weights)) args s 0 0 A) (F0 m 4 ls [])) (l1 : Int32) (l2 : Int32) (l3 : Int32) (ls : Array Slot) (H : Heap) (locs : List Loc) (h : f_X0_weightOf_b30 c_t c_weights k4 l1 l2 l3 = some res) (hP : va_P E.1 vwCl (W_X0_weightOf E a_t a_weights a_ponds a_kinds a_cells a_faces a_pledges c_t c_weights) H) (hD : va_D A (W_X0_weightOf E a_t a_weights a_ponds a_kinds a_cells a_faces a_pledges c_t c_weights)) (hS : va_S A s.heap H locs) (hl : lv_has ls 4 [(0, .ref a_t), (1, .int l1), (2, .int l2), (3, .int l3)]) : W p l e r_X0_weightOf s m args below meth c H locs 0 0 (MQ below (qI E A res (W_X0_weightOf E a_t a_weights a_ponds a_kinds a_cells a_faces a_pledges c_t c_weights)) args s 0 0 A) (F0 m 30 ls []) := by
  obtain ⟨hx, hb, hml, hr, hlk, hown, hts, hG, hA⟩ := id X
  have hK := hG.1
  have hN := hG.2.1
  unfold f_X0_weightOf_b30 at h
  refine lv_iinc (v := (l3 + (1 : Int32))) (lv' := [(3, .int (l3 + (1 : Int32))), (0, .ref a_t), (1, .int l1), (2, .int l2)]) hx hb dX0_weightOf_30 hl (k := 3) rfl rfl (by decide) rfl (fun ls hl => ?_)
  refine lv_goto (tgt := 4) hx hb dX0_weightOf_33 (by decide) ?_
  exact hk4 l1 l2 (l3 + (1 : Int32)) _ _ _ h hP hD hS (lv_sub hl [1, 2, 3, 0] rfl)
set_option maxRecDepth 100000 in
set_option maxHeartbeats 4000000 in
theorem w_X0_weightOf_b4 (X : Ctx p m meth c cX0_weightOf 4 ((some .int)) s args wsX0_weightOf RX0 E A) (a_t : Nat) (a_weights : Nat) (a_ponds : Nat) (a_kinds : Nat) (a_cells : Nat) (a_faces : Nat) (a_pledges : Nat) (c_t : Nat → Int32) (c_weights : Nat → Int32) (res : Int32) : ∀ (n : Nat) (l1 : Int32) (l2 : Int32) (l3 : Int32) (ls : Array Slot) (H : Heap) (locs : List Loc), f_X0_weightOf_b4 c_t c_weights n l1 l2 l3 = some res → va_P E.1 vwCl (W_X0_weightOf E a_t a_weights a_ponds a_kinds a_cells a_faces a_pledges c_t c_weights) H → va_D A (W_X0_weightOf E a_t a_weights a_ponds a_kinds a_cells a_faces a_pledges c_t c_weights) → va_S A s.heap H locs → lv_has ls 4 [(0, .ref a_t), (1, .int l1), (2, .int l2), (3, .int l3)] → W p l e r_X0_weightOf s m args below meth c H locs 0 0 (MQ below (qI E A res (W_X0_weightOf E a_t a_weights a_ponds a_kinds a_cells a_faces a_pledges c_t c_weights)) args s 0 0 A) (F0 m 4 ls []) := by
  obtain ⟨hx, hb, hml, hr, hlk, hown, hts, hG, hA⟩ := id X
  have hK := hG.1
  have hN := hG.2.1
  intro n
  induction n with
  | zero =>
    intro l1 l2 l3 ls H locs h
    exact absurd (show (none : Option (Int32)) = some res from h) (by intro q; cases q)
  | succ n ih =>
    intro l1 l2 l3 ls H locs h hP hD hS hl
    rw [f_X0_weightOf_b4] at h
    refine lv_iload_n hx hb dX0_weightOf_4 rfl (lv_at hl 3 rfl) ?_
    refine lv_aload_n hx hb dX0_weightOf_5 rfl (lv_at hl 0 rfl) ?_
    refine va_get (D := E.1) (ci := 0) (v := .int (c_t 7)) (C := RX0) (T := TX0) (N := 14) hx hb hts iX0_weightOf_X0 hown hK hP 0 rfl rfl 7 (by decide) (hts (.fieldLink RX0 33 "LeftIsAgreedOn$Island" "count" "I") (List.mem_of_getElem? (i := 1) rfl)) (fun _ h9 => h9) rfl dX0_weightOf_6 ?_
    refine lv_icmp_ge (tgt := 36) hx hb dX0_weightOf_9 (by decide) (fun hc9 => ?_) (fun hc9 => ?_)
    · have h := if_t h hc9
      refine lv_iload_n hx hb dX0_weightOf_36 rfl (lv_at hl 2 rfl) ?_
      obtain rfl := Option.some.inj h
      exact ret_i X dX0_weightOf_37 hP hD hS rfl
    · have h := if_f h hc9
      refine lv_iload_n hx hb dX0_weightOf_12 rfl (lv_at hl 1 rfl) ?_
      refine lv_iload_n hx hb dX0_weightOf_13 rfl (lv_at hl 3 rfl) ?_
      refine lv_ishr hx hb dX0_weightOf_14 ?_
      refine lv_iconst (v := (1 : Int32)) hx hb dX0_weightOf_15 (by decide) ?_
      refine lv_iand hx hb dX0_weightOf_16 ?_
      refine lv_iconst (v := (1 : Int32)) hx hb dX0_weightOf_17 (by decide) ?_
      refine lv_icmp_ne (tgt := 30) hx hb dX0_weightOf_18 (by decide) (fun hc18 => ?_) (fun hc18 => ?_)
      · have h := if_f h hc18
        exact w_X0_weightOf_b30 X a_t a_weights a_ponds a_kinds a_cells a_faces a_pledges c_t c_weights res (f_X0_weightOf_b4 c_t c_weights n) ih l1 l2 l3 _ _ _ h hP hD hS (lv_sub hl [0, 1, 2, 3] rfl)
      · have h := if_t h hc18
        refine lv_iload_n hx hb dX0_weightOf_21 rfl (lv_at hl 2 rfl) ?_
        refine lv_aload_n hx hb dX0_weightOf_22 rfl (lv_at hl 0 rfl) ?_
        refine va_get (D := E.1) (ci := 0) (v := .ref a_weights) (C := RX0) (T := TX0) (N := 14) hx hb hts iX0_weightOf_X0 hown hK hP 0 rfl rfl 10 (by decide) (hts (.fieldLink RX0 44 "LeftIsAgreedOn$Island" "weights" "[I") (List.mem_of_getElem? (i := 2) rfl)) (fun _ h9 => h9) rfl dX0_weightOf_23 ?_
        refine lv_iload_n hx hb dX0_weightOf_26 rfl (lv_at hl 3 rfl) ?_
        obtain ⟨hz27, h⟩ := chk_of h
        refine ld_i X hP 1 rfl (inb.vp hz27) (v := (c_weights (l3).toNatClampNeg)) rfl dX0_weightOf_27 ?_
        refine lv_iadd hx hb dX0_weightOf_28 ?_
        refine lv_istore_n (lv' := [(2, .int (l2 + (c_weights (l3).toNatClampNeg))), (0, .ref a_t), (1, .int l1), (3, .int l3)]) hx hb dX0_weightOf_29 rfl hl (by decide) rfl (fun ls hl => ?_)
        exact w_X0_weightOf_b30 X a_t a_weights a_ponds a_kinds a_cells a_faces a_pledges c_t c_weights res (f_X0_weightOf_b4 c_t c_weights n) ih l1 (l2 + (c_weights (l3).toNatClampNeg)) l3 _ _ _ h hP hD hS (lv_sub hl [1, 2, 0, 3] rfl)
set_option maxRecDepth 100000 in
set_option maxHeartbeats 4000000 in
theorem w_X0_weightOf (X : Ctx p m meth c cX0_weightOf 4 ((some .int)) s args wsX0_weightOf RX0 E A) (a_t : Nat) (a_weights : Nat) (a_ponds : Nat) (a_kinds : Nat) (a_cells : Nat) (a_faces : Nat) (a_pledges : Nat) (c_t : Nat → Int32) (c_weights : Nat → Int32) (res : Int32) (l1 : Int32) (ls : Array Slot) (H : Heap) (locs : List Loc) (h : f_X0_weightOf l1 c_t c_weights = some res) (hP : va_P E.1 vwCl (W_X0_weightOf E a_t a_weights a_ponds a_kinds a_cells a_faces a_pledges c_t c_weights) H) (hD : va_D A (W_X0_weightOf E a_t a_weights a_ponds a_kinds a_cells a_faces a_pledges c_t c_weights)) (hS : va_S A s.heap H locs) (hl : lv_has ls 4 [(0, .ref a_t), (1, .int l1)]) : W p l e r_X0_weightOf s m args below meth c H locs 0 0 (MQ below (qI E A res (W_X0_weightOf E a_t a_weights a_ponds a_kinds a_cells a_faces a_pledges c_t c_weights)) args s 0 0 A) (F0 m 0 ls []) := by
  obtain ⟨hx, hb, hml, hr, hlk, hown, hts, hG, hA⟩ := id X
  have hK := hG.1
  have hN := hG.2.1
  unfold f_X0_weightOf at h
  refine lv_iconst (v := (0 : Int32)) hx hb dX0_weightOf_0 (by decide) ?_
  refine lv_istore_n (lv' := [(2, .int (0 : Int32)), (0, .ref a_t), (1, .int l1)]) hx hb dX0_weightOf_1 rfl hl (by decide) rfl (fun ls hl => ?_)
  refine lv_iconst (v := (0 : Int32)) hx hb dX0_weightOf_2 (by decide) ?_
  refine lv_istore_n (lv' := [(3, .int (0 : Int32)), (2, .int (0 : Int32)), (0, .ref a_t), (1, .int l1)]) hx hb dX0_weightOf_3 rfl hl (by decide) rfl (fun ls hl => ?_)
  exact w_X0_weightOf_b4 X a_t a_weights a_ponds a_kinds a_cells a_faces a_pledges c_t c_weights res FU l1 (0 : Int32) (0 : Int32) _ _ _ h hP hD hS (lv_sub hl [2, 3, 1, 0] rfl)
end
set_option maxRecDepth 100000 in
theorem c_X0_weightOf (l : Launch) (E : Env0) (a_t : Nat) (a_weights : Nat) (a_ponds : Nat) (a_kinds : Nat) (a_cells : Nat) (a_faces : Nat) (a_pledges : Nat) (l1 : Int32) (c_t : Nat → Int32) (c_weights : Nat → Int32) (sz : Nat) (res : Int32) (h : f_X0_weightOf l1 c_t c_weights = some res) : Met l yX0_weightOf wsX0_weightOf r_X0_weightOf (cPre E [.ref a_t, .int l1] (W_X0_weightOf E a_t a_weights a_ponds a_kinds a_cells a_faces a_pledges c_t c_weights) sz) (qI E (va_A (W_X0_weightOf E a_t a_weights a_ponds a_kinds a_cells a_faces a_pledges c_t c_weights) sz) res (W_X0_weightOf E a_t a_weights a_ponds a_kinds a_cells a_faces a_pledges c_t c_weights)) 0 0 (va_A (W_X0_weightOf E a_t a_weights a_ponds a_kinds a_cells a_faces a_pledges c_t c_weights) sz) :=
  met_of (Qc := fun A => qI E A res (W_X0_weightOf E a_t a_weights a_ponds a_kinds a_cells a_faces a_pledges c_t c_weights)) (by decide) rfl (Nat.le_of_ble_eq_true rfl) (fun p e s m args below meth c X hP hD hS ls hl => w_X0_weightOf X a_t a_weights a_ponds a_kinds a_cells a_faces a_pledges c_t c_weights res l1 ls _ _ h hP hD hS hl)
-- ===== X0_powerOf
noncomputable abbrev W_X0_powerOf (E : Env0) (a_t : Nat) (a_weights : Nat) (a_ponds : Nat) (a_kinds : Nat) (a_cells : Nat) (a_faces : Nat) (a_pledges : Nat) (c_t : Nat → Int32) (c_weights : Nat → Int32) : va_W := [(a_t, .inr (0, [.int (c_t 0), .int (c_t 1), .int (c_t 2), .int (c_t 3), .int (c_t 4), .int (c_t 5), .int (c_t 6), .int (c_t 7), .ref a_ponds, .ref a_kinds, .ref a_weights, .ref a_cells, .ref a_faces, .ref a_pledges])), (a_weights, .inl (eI E, 8, .inl c_weights))]
noncomputable abbrev r_X0_powerOf : Room := { frames := 1, cells := 0, slots := 0, locals := 23 }
theorem hd_X0_powerOf : yX0_powerOf.cls ≠ "java/lang/invoke/MethodHandle" ∧ yX0_powerOf.cls ≠ "java/lang/invoke/VarHandle" ∧ (parseMethodDescriptor yX0_powerOf.desc).map (fun d => d.parameters.length) = some 1 := by decide +kernel
theorem hV_X0_powerOf : yX0_powerOf.cls = RX0 ∧ yX0_powerOf.cls ≠ "java/lang/invoke/MethodHandle" ∧ yX0_powerOf.cls ≠ "java/lang/invoke/VarHandle" ∧ (parseMethodDescriptor yX0_powerOf.desc).map (fun d => d.parameters.length) = some 1 := ⟨rfl, hd_X0_powerOf⟩
theorem iX0_powerOf_X0 : ∀ w ∈ wsX00, w ∈ wsX0_powerOf := fun _ h => List.mem_cons_of_mem _ (List.mem_append_right _ (h))
section
variable {p : Program} {l : Launch} {e : Env} {s : State} {m : MethodId} {args : Array Value} {below : List Frame} {meth : Method} {c : Code} {E : Env0} {A : Nat → Prop}
set_option maxRecDepth 100000 in
set_option maxHeartbeats 4000000 in
theorem w_X0_powerOf_b84 (X : Ctx p m meth c cX0_powerOf 8 ((some .int)) s args wsX0_powerOf RX0 E A) (a_t : Nat) (a_weights : Nat) (a_ponds : Nat) (a_kinds : Nat) (a_cells : Nat) (a_faces : Nat) (a_pledges : Nat) (c_t : Nat → Int32) (c_weights : Nat → Int32) (res : Int32) (k21 : Int32 → Int32 → Int32 → Int32 → Int32 → Option (Int32)) (hk21 : ∀ (l1 : Int32) (l2 : Int32) (l3 : Int32) (l4 : Int32) (l5 : Int32) (ls : Array Slot) (H : Heap) (locs : List Loc), k21 l1 l2 l3 l4 l5 = some res → va_P E.1 vwCl (W_X0_powerOf E a_t a_weights a_ponds a_kinds a_cells a_faces a_pledges c_t c_weights) H → va_D A (W_X0_powerOf E a_t a_weights a_ponds a_kinds a_cells a_faces a_pledges c_t c_weights) → va_S A s.heap H locs → lv_has ls 8 [(0, .ref a_t), (1, .int l1), (2, .int l2), (3, .int l3), (4, .int l4), (5, .int l5)] → W p l e r_X0_powerOf s m args below meth c H locs 0 0 (MQ below (qI E A res (W_X0_powerOf E a_t a_weights a_ponds a_kinds a_cells a_faces a_pledges c_t c_weights)) args s 0 0 A) (F0 m 21 ls [])) (l1 : Int32) (l2 : Int32) (l3 : Int32) (l4 : Int32) (l5 : Int32) (ls : Array Slot) (H : Heap) (locs : List Loc) (h : f_X0_powerOf_b84 c_t c_weights k21 l1 l2 l3 l4 l5 = some res) (hP : va_P E.1 vwCl (W_X0_powerOf E a_t a_weights a_ponds a_kinds a_cells a_faces a_pledges c_t c_weights) H) (hD : va_D A (W_X0_powerOf E a_t a_weights a_ponds a_kinds a_cells a_faces a_pledges c_t c_weights)) (hS : va_S A s.heap H locs) (hl : lv_has ls 8 [(0, .ref a_t), (1, .int l1), (2, .int l2), (3, .int l3), (4, .int l4), (5, .int l5)]) : W p l e r_X0_powerOf s m args below meth c H locs 0 0 (MQ below (qI E A res (W_X0_powerOf E a_t a_weights a_ponds a_kinds a_cells a_faces a_pledges c_t c_weights)) args s 0 0 A) (F0 m 84 ls []) := by
  obtain ⟨hx, hb, hml, hr, hlk, hown, hts, hG, hA⟩ := id X
  have hK := hG.1
  have hN := hG.2.1
  unfold f_X0_powerOf_b84 at h
  refine lv_iinc (v := (l5 + (1 : Int32))) (lv' := [(5, .int (l5 + (1 : Int32))), (0, .ref a_t), (1, .int l1), (2, .int l2), (3, .int l3), (4, .int l4)]) hx hb dX0_powerOf_84 hl (k := 5) rfl rfl (by decide) rfl (fun ls hl => ?_)
  refine lv_goto (tgt := 21) hx hb dX0_powerOf_87 (by decide) ?_
  exact hk21 l1 l2 l3 l4 (l5 + (1 : Int32)) _ _ _ h hP hD hS (lv_sub hl [1, 2, 3, 4, 5, 0] rfl)
set_option maxRecDepth 100000 in
set_option maxHeartbeats 4000000 in
theorem w_X0_powerOf_b78 (X : Ctx p m meth c cX0_powerOf 8 ((some .int)) s args wsX0_powerOf RX0 E A) (a_t : Nat) (a_weights : Nat) (a_ponds : Nat) (a_kinds : Nat) (a_cells : Nat) (a_faces : Nat) (a_pledges : Nat) (c_t : Nat → Int32) (c_weights : Nat → Int32) (res : Int32) (k21 : Int32 → Int32 → Int32 → Int32 → Int32 → Option (Int32)) (hk21 : ∀ (l1 : Int32) (l2 : Int32) (l3 : Int32) (l4 : Int32) (l5 : Int32) (ls : Array Slot) (H : Heap) (locs : List Loc), k21 l1 l2 l3 l4 l5 = some res → va_P E.1 vwCl (W_X0_powerOf E a_t a_weights a_ponds a_kinds a_cells a_faces a_pledges c_t c_weights) H → va_D A (W_X0_powerOf E a_t a_weights a_ponds a_kinds a_cells a_faces a_pledges c_t c_weights) → va_S A s.heap H locs → lv_has ls 8 [(0, .ref a_t), (1, .int l1), (2, .int l2), (3, .int l3), (4, .int l4), (5, .int l5)] → W p l e r_X0_powerOf s m args below meth c H locs 0 0 (MQ below (qI E A res (W_X0_powerOf E a_t a_weights a_ponds a_kinds a_cells a_faces a_pledges c_t c_weights)) args s 0 0 A) (F0 m 21 ls [])) (l1 : Int32) (l2 : Int32) (l3 : Int32) (l5 : Int32) (s0 : Int32) (s1 : Int32) (ls : Array Slot) (H : Heap) (locs : List Loc) (h : f_X0_powerOf_b78 c_t c_weights k21 l1 l2 l3 l5 s0 s1 = some res) (hP : va_P E.1 vwCl (W_X0_powerOf E a_t a_weights a_ponds a_kinds a_cells a_faces a_pledges c_t c_weights) H) (hD : va_D A (W_X0_powerOf E a_t a_weights a_ponds a_kinds a_cells a_faces a_pledges c_t c_weights)) (hS : va_S A s.heap H locs) (hl : lv_has ls 8 [(0, .ref a_t), (1, .int l1), (2, .int l2), (3, .int l3), (5, .int l5)]) : W p l e r_X0_powerOf s m args below meth c H locs 0 0 (MQ below (qI E A res (W_X0_powerOf E a_t a_weights a_ponds a_kinds a_cells a_faces a_pledges c_t c_weights)) args s 0 0 A) (F0 m 78 ls [.int s0, .int s1]) := by
  obtain ⟨hx, hb, hml, hr, hlk, hown, hts, hG, hA⟩ := id X
  have hK := hG.1
  have hN := hG.2.1
  unfold f_X0_powerOf_b78 at h
  obtain ⟨v1, hv1, h⟩ := bind_of h
  refine after_i X (run_SN X (c_X5_asNumber l E s0 H.size v1 hv1) ⟨va_cnB 1 hts gX0_powerOf_X5_asNumber_n82 rfl rfl rfl (nM_3 hN) (hts (.initialized RX5) (List.mem_of_getElem? (i := 9) rfl)) hd_X5_asNumber ⟨(Nat.le_of_ble_eq_true rfl), (Nat.le_of_ble_eq_true rfl)⟩, (hts (.static yX5_asNumber) (List.mem_of_getElem? (i := 8) rfl)), trivial⟩ hP hD hS [] rfl rfl hl.1 (rest := [.int s1]) rfl rfl (Nat.le_of_ble_eq_true rfl) dX0_powerOf_78) hP hD hS [] rfl (ws1 := (W_X0_powerOf E a_t a_weights a_ponds a_kinds a_cells a_faces a_pledges c_t c_weights)) rfl (fun H locs hP hD hS => ?_)
  refine lv_iadd hx hb dX0_powerOf_81 ?_
  refine lv_istore (lv' := [(4, .int (s1 + v1)), (0, .ref a_t), (1, .int l1), (2, .int l2), (3, .int l3), (5, .int l5)]) hx hb dX0_powerOf_82 hl (by decide) rfl (fun ls hl => ?_)
  exact w_X0_powerOf_b84 X a_t a_weights a_ponds a_kinds a_cells a_faces a_pledges c_t c_weights res k21 hk21 l1 l2 l3 (s1 + v1) l5 _ _ _ h hP hD hS (lv_sub hl [1, 2, 3, 4, 0, 5] rfl)
set_option maxRecDepth 100000 in
set_option maxHeartbeats 4000000 in
theorem w_X0_powerOf_b77 (X : Ctx p m meth c cX0_powerOf 8 ((some .int)) s args wsX0_powerOf RX0 E A) (a_t : Nat) (a_weights : Nat) (a_ponds : Nat) (a_kinds : Nat) (a_cells : Nat) (a_faces : Nat) (a_pledges : Nat) (c_t : Nat → Int32) (c_weights : Nat → Int32) (res : Int32) (k21 : Int32 → Int32 → Int32 → Int32 → Int32 → Option (Int32)) (hk21 : ∀ (l1 : Int32) (l2 : Int32) (l3 : Int32) (l4 : Int32) (l5 : Int32) (ls : Array Slot) (H : Heap) (locs : List Loc), k21 l1 l2 l3 l4 l5 = some res → va_P E.1 vwCl (W_X0_powerOf E a_t a_weights a_ponds a_kinds a_cells a_faces a_pledges c_t c_weights) H → va_D A (W_X0_powerOf E a_t a_weights a_ponds a_kinds a_cells a_faces a_pledges c_t c_weights) → va_S A s.heap H locs → lv_has ls 8 [(0, .ref a_t), (1, .int l1), (2, .int l2), (3, .int l3), (4, .int l4), (5, .int l5)] → W p l e r_X0_powerOf s m args below meth c H locs 0 0 (MQ below (qI E A res (W_X0_powerOf E a_t a_weights a_ponds a_kinds a_cells a_faces a_pledges c_t c_weights)) args s 0 0 A) (F0 m 21 ls [])) (l1 : Int32) (l2 : Int32) (l3 : Int32) (l5 : Int32) (s0 : Int32) (ls : Array Slot) (H : Heap) (locs : List Loc) (h : f_X0_powerOf_b77 c_t c_weights k21 l1 l2 l3 l5 s0 = some res) (hP : va_P E.1 vwCl (W_X0_powerOf E a_t a_weights a_ponds a_kinds a_cells a_faces a_pledges c_t c_weights) H) (hD : va_D A (W_X0_powerOf E a_t a_weights a_ponds a_kinds a_cells a_faces a_pledges c_t c_weights)) (hS : va_S A s.heap H locs) (hl : lv_has ls 8 [(0, .ref a_t), (1, .int l1), (2, .int l2), (3, .int l3), (5, .int l5)]) : W p l e r_X0_powerOf s m args below meth c H locs 0 0 (MQ below (qI E A res (W_X0_powerOf E a_t a_weights a_ponds a_kinds a_cells a_faces a_pledges c_t c_weights)) args s 0 0 A) (F0 m 77 ls [.int s0]) := by
  obtain ⟨hx, hb, hml, hr, hlk, hown, hts, hG, hA⟩ := id X
  have hK := hG.1
  have hN := hG.2.1
  unfold f_X0_powerOf_b77 at h
  refine lv_iconst (v := (0 : Int32)) hx hb dX0_powerOf_77 (by decide) ?_
  exact w_X0_powerOf_b78 X a_t a_weights a_ponds a_kinds a_cells a_faces a_pledges c_t c_weights res k21 hk21 l1 l2 l3 l5 (0 : Int32) s0 _ _ _ h hP hD hS (lv_sub hl [0, 1, 2, 3, 4] rfl)
set_option maxRecDepth 100000 in
set_option maxHeartbeats 4000000 in
theorem w_X0_powerOf_b21 (X : Ctx p m meth c cX0_powerOf 8 ((some .int)) s args wsX0_powerOf RX0 E A) (a_t : Nat) (a_weights : Nat) (a_ponds : Nat) (a_kinds : Nat) (a_cells : Nat) (a_faces : Nat) (a_pledges : Nat) (c_t : Nat → Int32) (c_weights : Nat → Int32) (res : Int32) : ∀ (n : Nat) (l1 : Int32) (l2 : Int32) (l3 : Int32) (l4 : Int32) (l5 : Int32) (ls : Array Slot) (H : Heap) (locs : List Loc), f_X0_powerOf_b21 c_t c_weights n l1 l2 l3 l4 l5 = some res → va_P E.1 vwCl (W_X0_powerOf E a_t a_weights a_ponds a_kinds a_cells a_faces a_pledges c_t c_weights) H → va_D A (W_X0_powerOf E a_t a_weights a_ponds a_kinds a_cells a_faces a_pledges c_t c_weights) → va_S A s.heap H locs → lv_has ls 8 [(0, .ref a_t), (1, .int l1), (2, .int l2), (3, .int l3), (4, .int l4), (5, .int l5)] → W p l e r_X0_powerOf s m args below meth c H locs 0 0 (MQ below (qI E A res (W_X0_powerOf E a_t a_weights a_ponds a_kinds a_cells a_faces a_pledges c_t c_weights)) args s 0 0 A) (F0 m 21 ls []) := by
  obtain ⟨hx, hb, hml, hr, hlk, hown, hts, hG, hA⟩ := id X
  have hK := hG.1
  have hN := hG.2.1
  intro n
  induction n with
  | zero =>
    intro l1 l2 l3 l4 l5 ls H locs h
    exact absurd (show (none : Option (Int32)) = some res from h) (by intro q; cases q)
  | succ n ih =>
    intro l1 l2 l3 l4 l5 ls H locs h hP hD hS hl
    rw [f_X0_powerOf_b21] at h
    refine lv_iload hx hb dX0_powerOf_21 (lv_at hl 5 rfl) ?_
    refine lv_iload_n hx hb dX0_powerOf_23 rfl (lv_at hl 2 rfl) ?_
    refine lv_icmp_ge (tgt := 90) hx hb dX0_powerOf_24 (by decide) (fun hc24 => ?_) (fun hc24 => ?_)
    · have h := if_t h hc24
      refine lv_iload hx hb dX0_powerOf_90 (lv_at hl 4 rfl) ?_
      obtain rfl := Option.some.inj h
      exact ret_i X dX0_powerOf_92 hP hD hS rfl
    · have h := if_f h hc24
      refine lv_iload hx hb dX0_powerOf_27 (lv_at hl 5 rfl) ?_
      refine lv_iload_n hx hb dX0_powerOf_29 rfl (lv_at hl 1 rfl) ?_
      refine lv_ishr hx hb dX0_powerOf_30 ?_
      refine lv_iconst (v := (1 : Int32)) hx hb dX0_powerOf_31 (by decide) ?_
      refine lv_iand hx hb dX0_powerOf_32 ?_
      refine lv_if_ne (tgt := 84) hx hb dX0_powerOf_33 (by decide) (fun hc33 => ?_) (fun hc33 => ?_)
      · have h := if_f h hc33
        exact w_X0_powerOf_b84 X a_t a_weights a_ponds a_kinds a_cells a_faces a_pledges c_t c_weights res (f_X0_powerOf_b21 c_t c_weights n) ih l1 l2 l3 l4 l5 _ _ _ h hP hD hS (lv_sub hl [0, 1, 2, 3, 4, 5] rfl)
      · have h := if_t h hc33
        refine lv_aload_n hx hb dX0_powerOf_36 rfl (lv_at hl 0 rfl) ?_
        refine lv_iload hx hb dX0_powerOf_37 (lv_at hl 5 rfl) ?_
        obtain ⟨v1, hv1, h⟩ := bind_of h
        refine after_i X (run_V X (c_X0_weightOf l E a_t a_weights a_ponds a_kinds a_cells a_faces a_pledges l5 c_t c_weights H.size v1 hv1) (cwV 1 hts gX0_powerOf_X0_weightOf rfl rfl rfl hV_X0_weightOf ⟨(Nat.le_of_ble_eq_true rfl), (Nat.le_of_ble_eq_true rfl)⟩) hP hD hS [0, 1] rfl rfl hl.1 (ci := 0) rfl rfl rfl (rest := []) rfl rfl (Nat.le_of_ble_eq_true rfl) dX0_powerOf_39) hP hD hS [0, 1] rfl (ws1 := (W_X0_powerOf E a_t a_weights a_ponds a_kinds a_cells a_faces a_pledges c_t c_weights)) rfl (fun H locs hP hD hS => ?_)
        refine lv_istore (lv' := [(6, .int v1), (0, .ref a_t), (1, .int l1), (2, .int l2), (3, .int l3), (4, .int l4), (5, .int l5)]) hx hb dX0_powerOf_42 hl (by decide) rfl (fun ls hl => ?_)
        refine lv_iload hx hb dX0_powerOf_44 (lv_at hl 0 rfl) ?_
        refine lv_aload_n hx hb dX0_powerOf_46 rfl (lv_at hl 1 rfl) ?_
        refine va_get (D := E.1) (ci := 0) (v := .ref a_weights) (C := RX0) (T := TX0) (N := 14) hx hb hts iX0_powerOf_X0 hown hK hP 0 rfl rfl 10 (by decide) (hts (.fieldLink RX0 44 "LeftIsAgreedOn$Island" "weights" "[I") (List.mem_of_getElem? (i := 2) rfl)) (fun _ h9 => h9) rfl dX0_powerOf_47 ?_
        refine lv_iload_n hx hb dX0_powerOf_50 rfl (lv_at hl 2 rfl) ?_
        obtain ⟨hz51, h⟩ := chk_of h
        refine ld_i X hP 1 rfl (inb.vp hz51) (v := (c_weights (l1).toNatClampNeg)) rfl dX0_powerOf_51 ?_
        refine lv_iadd hx hb dX0_powerOf_52 ?_
        refine lv_istore (lv' := [(7, .int (v1 + (c_weights (l1).toNatClampNeg))), (6, .int v1), (0, .ref a_t), (1, .int l1), (2, .int l2), (3, .int l3), (4, .int l4), (5, .int l5)]) hx hb dX0_powerOf_53 hl (by decide) rfl (fun ls hl => ?_)
        refine lv_iload hx hb dX0_powerOf_55 (lv_at hl 6 rfl) ?_
        refine lv_iconst (v := (2 : Int32)) hx hb dX0_powerOf_57 (by decide) ?_
        refine lv_iload hx hb dX0_powerOf_58 (lv_at hl 1 rfl) ?_
        refine lv_imul hx hb dX0_powerOf_60 ?_
        refine lv_iload_n hx hb dX0_powerOf_61 rfl (lv_at hl 5 rfl) ?_
        refine lv_icmp_gt (tgt := 77) hx hb dX0_powerOf_62 (by decide) (fun hc62 => ?_) (fun hc62 => ?_)
        · have h := if_t h hc62
          exact w_X0_powerOf_b77 X a_t a_weights a_ponds a_kinds a_cells a_faces a_pledges c_t c_weights res (f_X0_powerOf_b21 c_t c_weights n) ih l1 l2 l3 l5 l4 _ _ _ h hP hD hS (lv_sub hl [2, 3, 4, 5, 7] rfl)
        · have h := if_f h hc62
          refine lv_iconst (v := (2 : Int32)) hx hb dX0_powerOf_65 (by decide) ?_
          refine lv_iload hx hb dX0_powerOf_66 (lv_at hl 0 rfl) ?_
          refine lv_imul hx hb dX0_powerOf_68 ?_
          refine lv_iload_n hx hb dX0_powerOf_69 rfl (lv_at hl 5 rfl) ?_
          refine lv_icmp_le (tgt := 77) hx hb dX0_powerOf_70 (by decide) (fun hc70 => ?_) (fun hc70 => ?_)
          · have h := if_t h hc70
            exact w_X0_powerOf_b77 X a_t a_weights a_ponds a_kinds a_cells a_faces a_pledges c_t c_weights res (f_X0_powerOf_b21 c_t c_weights n) ih l1 l2 l3 l5 l4 _ _ _ h hP hD hS (lv_sub hl [2, 3, 4, 5, 7] rfl)
          · have h := if_f h hc70
            refine lv_iconst (v := (1 : Int32)) hx hb dX0_powerOf_73 (by decide) ?_
            refine lv_goto (tgt := 78) hx hb dX0_powerOf_74 (by decide) ?_
            exact w_X0_powerOf_b78 X a_t a_weights a_ponds a_kinds a_cells a_faces a_pledges c_t c_weights res (f_X0_powerOf_b21 c_t c_weights n) ih l1 l2 l3 l5 (1 : Int32) l4 _ _ _ h hP hD hS (lv_sub hl [2, 3, 4, 5, 7] rfl)
set_option maxRecDepth 100000 in
set_option maxHeartbeats 4000000 in
theorem w_X0_powerOf (X : Ctx p m meth c cX0_powerOf 8 ((some .int)) s args wsX0_powerOf RX0 E A) (a_t : Nat) (a_weights : Nat) (a_ponds : Nat) (a_kinds : Nat) (a_cells : Nat) (a_faces : Nat) (a_pledges : Nat) (c_t : Nat → Int32) (c_weights : Nat → Int32) (res : Int32) (l1 : Int32) (ls : Array Slot) (H : Heap) (locs : List Loc) (h : f_X0_powerOf l1 c_t c_weights = some res) (hP : va_P E.1 vwCl (W_X0_powerOf E a_t a_weights a_ponds a_kinds a_cells a_faces a_pledges c_t c_weights) H) (hD : va_D A (W_X0_powerOf E a_t a_weights a_ponds a_kinds a_cells a_faces a_pledges c_t c_weights)) (hS : va_S A s.heap H locs) (hl : lv_has ls 8 [(0, .ref a_t), (1, .int l1)]) : W p l e r_X0_powerOf s m args below meth c H locs 0 0 (MQ below (qI E A res (W_X0_powerOf E a_t a_weights a_ponds a_kinds a_cells a_faces a_pledges c_t c_weights)) args s 0 0 A) (F0 m 0 ls []) := by
  obtain ⟨hx, hb, hml, hr, hlk, hown, hts, hG, hA⟩ := id X
  have hK := hG.1
  have hN := hG.2.1
  unfold f_X0_powerOf at h
  refine lv_iconst (v := (1 : Int32)) hx hb dX0_powerOf_0 (by decide) ?_
  refine lv_aload_n hx hb dX0_powerOf_1 rfl (lv_at hl 0 rfl) ?_
  refine va_get (D := E.1) (ci := 0) (v := .int (c_t 7)) (C := RX0) (T := TX0) (N := 14) hx hb hts iX0_powerOf_X0 hown hK hP 0 rfl rfl 7 (by decide) (hts (.fieldLink RX0 33 "LeftIsAgreedOn$Island" "count" "I") (List.mem_of_getElem? (i := 1) rfl)) (fun _ h9 => h9) rfl dX0_powerOf_2 ?_
  refine lv_ishl hx hb dX0_powerOf_5 ?_
  refine lv_istore_n (lv' := [(2, .int ((1 : Int32) <<< ((c_t 7) &&& 31))), (0, .ref a_t), (1, .int l1)]) hx hb dX0_powerOf_6 rfl hl (by decide) rfl (fun ls hl => ?_)
  refine lv_aload_n hx hb dX0_powerOf_7 rfl (lv_at hl 1 rfl) ?_
  refine lv_iload_n hx hb dX0_powerOf_8 rfl (lv_at hl 0 rfl) ?_
  refine lv_iconst (v := (1 : Int32)) hx hb dX0_powerOf_9 (by decide) ?_
  refine lv_isub hx hb dX0_powerOf_10 ?_
  obtain ⟨v1, hv1, h⟩ := bind_of h
  refine after_i X (run_V X (c_X0_weightOf l E a_t a_weights a_ponds a_kinds a_cells a_faces a_pledges (((1 : Int32) <<< ((c_t 7) &&& 31)) - (1 : Int32)) c_t c_weights H.size v1 hv1) (cwV 1 hts gX0_powerOf_X0_weightOf rfl rfl rfl hV_X0_weightOf ⟨(Nat.le_of_ble_eq_true rfl), (Nat.le_of_ble_eq_true rfl)⟩) hP hD hS [0, 1] rfl rfl hl.1 (ci := 0) rfl rfl rfl (rest := []) rfl rfl (Nat.le_of_ble_eq_true rfl) dX0_powerOf_11) hP hD hS [0, 1] rfl (ws1 := (W_X0_powerOf E a_t a_weights a_ponds a_kinds a_cells a_faces a_pledges c_t c_weights)) rfl (fun H locs hP hD hS => ?_)
  refine lv_istore_n (lv' := [(3, .int v1), (2, .int ((1 : Int32) <<< ((c_t 7) &&& 31))), (0, .ref a_t), (1, .int l1)]) hx hb dX0_powerOf_14 rfl hl (by decide) rfl (fun ls hl => ?_)
  refine lv_iconst (v := (0 : Int32)) hx hb dX0_powerOf_15 (by decide) ?_
  refine lv_istore (lv' := [(4, .int (0 : Int32)), (3, .int v1), (2, .int ((1 : Int32) <<< ((c_t 7) &&& 31))), (0, .ref a_t), (1, .int l1)]) hx hb dX0_powerOf_16 hl (by decide) rfl (fun ls hl => ?_)
  refine lv_iconst (v := (0 : Int32)) hx hb dX0_powerOf_18 (by decide) ?_
  refine lv_istore (lv' := [(5, .int (0 : Int32)), (4, .int (0 : Int32)), (3, .int v1), (2, .int ((1 : Int32) <<< ((c_t 7) &&& 31))), (0, .ref a_t), (1, .int l1)]) hx hb dX0_powerOf_19 hl (by decide) rfl (fun ls hl => ?_)
  exact w_X0_powerOf_b21 X a_t a_weights a_ponds a_kinds a_cells a_faces a_pledges c_t c_weights res FU l1 ((1 : Int32) <<< ((c_t 7) &&& 31)) v1 (0 : Int32) (0 : Int32) _ _ _ h hP hD hS (lv_sub hl [4, 5, 3, 2, 1, 0] rfl)
end
set_option maxRecDepth 100000 in
theorem c_X0_powerOf (l : Launch) (E : Env0) (a_t : Nat) (a_weights : Nat) (a_ponds : Nat) (a_kinds : Nat) (a_cells : Nat) (a_faces : Nat) (a_pledges : Nat) (l1 : Int32) (c_t : Nat → Int32) (c_weights : Nat → Int32) (sz : Nat) (res : Int32) (h : f_X0_powerOf l1 c_t c_weights = some res) : Met l yX0_powerOf wsX0_powerOf r_X0_powerOf (cPre E [.ref a_t, .int l1] (W_X0_powerOf E a_t a_weights a_ponds a_kinds a_cells a_faces a_pledges c_t c_weights) sz) (qI E (va_A (W_X0_powerOf E a_t a_weights a_ponds a_kinds a_cells a_faces a_pledges c_t c_weights) sz) res (W_X0_powerOf E a_t a_weights a_ponds a_kinds a_cells a_faces a_pledges c_t c_weights)) 0 0 (va_A (W_X0_powerOf E a_t a_weights a_ponds a_kinds a_cells a_faces a_pledges c_t c_weights) sz) :=
  met_of (Qc := fun A => qI E A res (W_X0_powerOf E a_t a_weights a_ponds a_kinds a_cells a_faces a_pledges c_t c_weights)) (by decide) rfl (Nat.le_of_ble_eq_true rfl) (fun p e s m args below meth c X hP hD hS ls hl => w_X0_powerOf X a_t a_weights a_ponds a_kinds a_cells a_faces a_pledges c_t c_weights res l1 ls _ _ h hP hD hS hl)
-- ===== X0_carriedIf
noncomputable abbrev W_X0_carriedIf (E : Env0) (a_t : Nat) (a_pledges : Nat) (a_weights : Nat) (a_ponds : Nat) (a_kinds : Nat) (a_cells : Nat) (a_faces : Nat) (c_t : Nat → Int32) (c_pledges : Nat → Int32) (c_weights : Nat → Int32) : va_W := [(a_t, .inr (0, [.int (c_t 0), .int (c_t 1), .int (c_t 2), .int (c_t 3), .int (c_t 4), .int (c_t 5), .int (c_t 6), .int (c_t 7), .ref a_ponds, .ref a_kinds, .ref a_weights, .ref a_cells, .ref a_faces, .ref a_pledges])), (a_pledges, .inl (eI E, 8, .inl c_pledges)), (a_weights, .inl (eI E, 8, .inl c_weights))]
noncomputable abbrev r_X0_carriedIf : Room := { frames := 0, cells := 0, slots := 0, locals := 0 }
theorem hd_X0_carriedIf : yX0_carriedIf.cls ≠ "java/lang/invoke/MethodHandle" ∧ yX0_carriedIf.cls ≠ "java/lang/invoke/VarHandle" ∧ (parseMethodDescriptor yX0_carriedIf.desc).map (fun d => d.parameters.length) = some 1 := by decide +kernel
theorem hV_X0_carriedIf : yX0_carriedIf.cls = RX0 ∧ yX0_carriedIf.cls ≠ "java/lang/invoke/MethodHandle" ∧ yX0_carriedIf.cls ≠ "java/lang/invoke/VarHandle" ∧ (parseMethodDescriptor yX0_carriedIf.desc).map (fun d => d.parameters.length) = some 1 := ⟨rfl, hd_X0_carriedIf⟩
theorem iX0_carriedIf_X0 : ∀ w ∈ wsX00, w ∈ wsX0_carriedIf := fun _ h => List.mem_cons_of_mem _ (List.mem_append_right _ (h))
section
variable {p : Program} {l : Launch} {e : Env} {s : State} {m : MethodId} {args : Array Value} {below : List Frame} {meth : Method} {c : Code} {E : Env0} {A : Nat → Prop}
set_option maxRecDepth 100000 in
set_option maxHeartbeats 4000000 in
theorem w_X0_carriedIf_b55 (X : Ctx p m meth c cX0_carriedIf 5 ((some .int)) s args wsX0_carriedIf RX0 E A) (a_t : Nat) (a_pledges : Nat) (a_weights : Nat) (a_ponds : Nat) (a_kinds : Nat) (a_cells : Nat) (a_faces : Nat) (c_t : Nat → Int32) (c_pledges : Nat → Int32) (c_weights : Nat → Int32) (res : Int32) (k4 : Int32 → Int32 → Int32 → Option (Int32)) (hk4 : ∀ (l1 : Int32) (l2 : Int32) (l3 : Int32) (ls : Array Slot) (H : Heap) (locs : List Loc), k4 l1 l2 l3 = some res → va_P E.1 vwCl (W_X0_carriedIf E a_t a_pledges a_weights a_ponds a_kinds a_cells a_faces c_t c_pledges c_weights) H → va_D A (W_X0_carriedIf E a_t a_pledges a_weights a_ponds a_kinds a_cells a_faces c_t c_pledges c_weights) → va_S A s.heap H locs → lv_has ls 5 [(0, .ref a_t), (1, .int l1), (2, .int l2), (3, .int l3)] → W p l e r_X0_carriedIf s m args below meth c H locs 0 0 (MQ below (qI E A res (W_X0_carriedIf E a_t a_pledges a_weights a_ponds a_kinds a_cells a_faces c_t c_pledges c_weights)) args s 0 0 A) (F0 m 4 ls [])) (l1 : Int32) (l3 : Int32) (s0 : Int32) (s1 : Int32) (ls : Array Slot) (H : Heap) (locs : List Loc) (h : f_X0_carriedIf_b55 c_t c_pledges c_weights k4 l1 l3 s0 s1 = some res) (hP : va_P E.1 vwCl (W_X0_carriedIf E a_t a_pledges a_weights a_ponds a_kinds a_cells a_faces c_t c_pledges c_weights) H) (hD : va_D A (W_X0_carriedIf E a_t a_pledges a_weights a_ponds a_kinds a_cells a_faces c_t c_pledges c_weights)) (hS : va_S A s.heap H locs) (hl : lv_has ls 5 [(0, .ref a_t), (1, .int l1), (3, .int l3)]) : W p l e r_X0_carriedIf s m args below meth c H locs 0 0 (MQ below (qI E A res (W_X0_carriedIf E a_t a_pledges a_weights a_ponds a_kinds a_cells a_faces c_t c_pledges c_weights)) args s 0 0 A) (F0 m 55 ls [.int s0, .int s1]) := by
  obtain ⟨hx, hb, hml, hr, hlk, hown, hts, hG, hA⟩ := id X
  have hK := hG.1
  have hN := hG.2.1
  unfold f_X0_carriedIf_b55 at h
  refine lv_iadd hx hb dX0_carriedIf_55 ?_
  refine lv_istore_n (lv' := [(2, .int (s1 + s0)), (0, .ref a_t), (1, .int l1), (3, .int l3)]) hx hb dX0_carriedIf_56 rfl hl (by decide) rfl (fun ls hl => ?_)
  refine lv_iinc (v := (l3 + (1 : Int32))) (lv' := [(3, .int (l3 + (1 : Int32))), (2, .int (s1 + s0)), (0, .ref a_t), (1, .int l1)]) hx hb dX0_carriedIf_57 hl (k := 3) rfl rfl (by decide) rfl (fun ls hl => ?_)
  refine lv_goto (tgt := 4) hx hb dX0_carriedIf_60 (by decide) ?_
  exact hk4 l1 (s1 + s0) (l3 + (1 : Int32)) _ _ _ h hP hD hS (lv_sub hl [2, 3, 1, 0] rfl)
set_option maxRecDepth 100000 in
set_option maxHeartbeats 4000000 in
theorem w_X0_carriedIf_b31 (X : Ctx p m meth c cX0_carriedIf 5 ((some .int)) s args wsX0_carriedIf RX0 E A) (a_t : Nat) (a_pledges : Nat) (a_weights : Nat) (a_ponds : Nat) (a_kinds : Nat) (a_cells : Nat) (a_faces : Nat) (c_t : Nat → Int32) (c_pledges : Nat → Int32) (c_weights : Nat → Int32) (res : Int32) (k4 : Int32 → Int32 → Int32 → Option (Int32)) (hk4 : ∀ (l1 : Int32) (l2 : Int32) (l3 : Int32) (ls : Array Slot) (H : Heap) (locs : List Loc), k4 l1 l2 l3 = some res → va_P E.1 vwCl (W_X0_carriedIf E a_t a_pledges a_weights a_ponds a_kinds a_cells a_faces c_t c_pledges c_weights) H → va_D A (W_X0_carriedIf E a_t a_pledges a_weights a_ponds a_kinds a_cells a_faces c_t c_pledges c_weights) → va_S A s.heap H locs → lv_has ls 5 [(0, .ref a_t), (1, .int l1), (2, .int l2), (3, .int l3)] → W p l e r_X0_carriedIf s m args below meth c H locs 0 0 (MQ below (qI E A res (W_X0_carriedIf E a_t a_pledges a_weights a_ponds a_kinds a_cells a_faces c_t c_pledges c_weights)) args s 0 0 A) (F0 m 4 ls [])) (l1 : Int32) (l2 : Int32) (l3 : Int32) (s0 : Int32) (ls : Array Slot) (H : Heap) (locs : List Loc) (h : f_X0_carriedIf_b31 c_t c_pledges c_weights k4 l1 l2 l3 s0 = some res) (hP : va_P E.1 vwCl (W_X0_carriedIf E a_t a_pledges a_weights a_ponds a_kinds a_cells a_faces c_t c_pledges c_weights) H) (hD : va_D A (W_X0_carriedIf E a_t a_pledges a_weights a_ponds a_kinds a_cells a_faces c_t c_pledges c_weights)) (hS : va_S A s.heap H locs) (hl : lv_has ls 5 [(0, .ref a_t), (1, .int l1), (2, .int l2), (3, .int l3)]) : W p l e r_X0_carriedIf s m args below meth c H locs 0 0 (MQ below (qI E A res (W_X0_carriedIf E a_t a_pledges a_weights a_ponds a_kinds a_cells a_faces c_t c_pledges c_weights)) args s 0 0 A) (F0 m 31 ls [.int s0]) := by
  obtain ⟨hx, hb, hml, hr, hlk, hown, hts, hG, hA⟩ := id X
  have hK := hG.1
  have hN := hG.2.1
  unfold f_X0_carriedIf_b31 at h
  refine lv_istore (lv' := [(4, .int s0), (0, .ref a_t), (1, .int l1), (2, .int l2), (3, .int l3)]) hx hb dX0_carriedIf_31 hl (by decide) rfl (fun ls hl => ?_)
  refine lv_iload_n hx hb dX0_carriedIf_33 rfl (lv_at hl 3 rfl) ?_
  refine lv_iload hx hb dX0_carriedIf_34 (lv_at hl 0 rfl) ?_
  refine lv_if_eq (tgt := 48) hx hb dX0_carriedIf_36 (by decide) (fun hc36 => ?_) (fun hc36 => ?_)
  · have h := if_t h hc36
    refine lv_aload_n hx hb dX0_carriedIf_48 rfl (lv_at hl 1 rfl) ?_
    refine va_get (D := E.1) (ci := 0) (v := .ref a_weights) (C := RX0) (T := TX0) (N := 14) hx hb hts iX0_carriedIf_X0 hown hK hP 0 rfl rfl 10 (by decide) (hts (.fieldLink RX0 44 "LeftIsAgreedOn$Island" "weights" "[I") (List.mem_of_getElem? (i := 3) rfl)) (fun _ h9 => h9) rfl dX0_carriedIf_49 ?_
    refine lv_iload_n hx hb dX0_carriedIf_52 rfl (lv_at hl 4 rfl) ?_
    obtain ⟨hz53, h⟩ := chk_of h
    refine ld_i X hP 2 rfl (inb.vp hz53) (v := (c_weights (l3).toNatClampNeg)) rfl dX0_carriedIf_53 ?_
    refine lv_ineg hx hb dX0_carriedIf_54 ?_
    exact w_X0_carriedIf_b55 X a_t a_pledges a_weights a_ponds a_kinds a_cells a_faces c_t c_pledges c_weights res k4 hk4 l1 l3 (-(c_weights (l3).toNatClampNeg)) l2 _ _ _ h hP hD hS (lv_sub hl [1, 2, 4] rfl)
  · have h := if_f h hc36
    refine lv_aload_n hx hb dX0_carriedIf_39 rfl (lv_at hl 1 rfl) ?_
    refine va_get (D := E.1) (ci := 0) (v := .ref a_weights) (C := RX0) (T := TX0) (N := 14) hx hb hts iX0_carriedIf_X0 hown hK hP 0 rfl rfl 10 (by decide) (hts (.fieldLink RX0 44 "LeftIsAgreedOn$Island" "weights" "[I") (List.mem_of_getElem? (i := 3) rfl)) (fun _ h9 => h9) rfl dX0_carriedIf_40 ?_
    refine lv_iload_n hx hb dX0_carriedIf_43 rfl (lv_at hl 4 rfl) ?_
    obtain ⟨hz44, h⟩ := chk_of h
    refine ld_i X hP 2 rfl (inb.vp hz44) (v := (c_weights (l3).toNatClampNeg)) rfl dX0_carriedIf_44 ?_
    refine lv_goto (tgt := 55) hx hb dX0_carriedIf_45 (by decide) ?_
    exact w_X0_carriedIf_b55 X a_t a_pledges a_weights a_ponds a_kinds a_cells a_faces c_t c_pledges c_weights res k4 hk4 l1 l3 (c_weights (l3).toNatClampNeg) l2 _ _ _ h hP hD hS (lv_sub hl [1, 2, 4] rfl)
set_option maxRecDepth 100000 in
set_option maxHeartbeats 4000000 in
theorem w_X0_carriedIf_b4 (X : Ctx p m meth c cX0_carriedIf 5 ((some .int)) s args wsX0_carriedIf RX0 E A) (a_t : Nat) (a_pledges : Nat) (a_weights : Nat) (a_ponds : Nat) (a_kinds : Nat) (a_cells : Nat) (a_faces : Nat) (c_t : Nat → Int32) (c_pledges : Nat → Int32) (c_weights : Nat → Int32) (res : Int32) : ∀ (n : Nat) (l1 : Int32) (l2 : Int32) (l3 : Int32) (ls : Array Slot) (H : Heap) (locs : List Loc), f_X0_carriedIf_b4 c_t c_pledges c_weights n l1 l2 l3 = some res → va_P E.1 vwCl (W_X0_carriedIf E a_t a_pledges a_weights a_ponds a_kinds a_cells a_faces c_t c_pledges c_weights) H → va_D A (W_X0_carriedIf E a_t a_pledges a_weights a_ponds a_kinds a_cells a_faces c_t c_pledges c_weights) → va_S A s.heap H locs → lv_has ls 5 [(0, .ref a_t), (1, .int l1), (2, .int l2), (3, .int l3)] → W p l e r_X0_carriedIf s m args below meth c H locs 0 0 (MQ below (qI E A res (W_X0_carriedIf E a_t a_pledges a_weights a_ponds a_kinds a_cells a_faces c_t c_pledges c_weights)) args s 0 0 A) (F0 m 4 ls []) := by
  obtain ⟨hx, hb, hml, hr, hlk, hown, hts, hG, hA⟩ := id X
  have hK := hG.1
  have hN := hG.2.1
  intro n
  induction n with
  | zero =>
    intro l1 l2 l3 ls H locs h
    exact absurd (show (none : Option (Int32)) = some res from h) (by intro q; cases q)
  | succ n ih =>
    intro l1 l2 l3 ls H locs h hP hD hS hl
    rw [f_X0_carriedIf_b4] at h
    refine lv_iload_n hx hb dX0_carriedIf_4 rfl (lv_at hl 3 rfl) ?_
    refine lv_aload_n hx hb dX0_carriedIf_5 rfl (lv_at hl 0 rfl) ?_
    refine va_get (D := E.1) (ci := 0) (v := .int (c_t 7)) (C := RX0) (T := TX0) (N := 14) hx hb hts iX0_carriedIf_X0 hown hK hP 0 rfl rfl 7 (by decide) (hts (.fieldLink RX0 33 "LeftIsAgreedOn$Island" "count" "I") (List.mem_of_getElem? (i := 1) rfl)) (fun _ h9 => h9) rfl dX0_carriedIf_6 ?_
    refine lv_icmp_ge (tgt := 63) hx hb dX0_carriedIf_9 (by decide) (fun hc9 => ?_) (fun hc9 => ?_)
    · have h := if_t h hc9
      refine lv_iload_n hx hb dX0_carriedIf_63 rfl (lv_at hl 2 rfl) ?_
      refine lv_if_ne (tgt := 72) hx hb dX0_carriedIf_64 (by decide) (fun hc64 => ?_) (fun hc64 => ?_)
      · have h := if_f h hc64
        refine lv_iload_n hx hb dX0_carriedIf_72 rfl (lv_at hl 2 rfl) ?_
        refine lv_if_le (tgt := 80) hx hb dX0_carriedIf_73 (by decide) (fun hc73 => ?_) (fun hc73 => ?_)
        · have h := if_t h hc73
          refine lv_iconst (v := (0 : Int32)) hx hb dX0_carriedIf_80 (by decide) ?_
          obtain rfl := Option.some.inj h
          exact ret_i X dX0_carriedIf_81 hP hD hS rfl
        · have h := if_f h hc73
          refine lv_iconst (v := (1 : Int32)) hx hb dX0_carriedIf_76 (by decide) ?_
          refine lv_goto (tgt := 81) hx hb dX0_carriedIf_77 (by decide) ?_
          obtain rfl := Option.some.inj h
          exact ret_i X dX0_carriedIf_81 hP hD hS rfl
      · have h := if_t h hc64
        refine lv_aload_n hx hb dX0_carriedIf_67 rfl (lv_at hl 0 rfl) ?_
        refine va_get (D := E.1) (ci := 0) (v := .int (c_t 1)) (C := RX0) (T := TX0) (N := 14) hx hb hts iX0_carriedIf_X0 hown hK hP 0 rfl rfl 1 (by decide) (hts (.fieldLink RX0 15 "LeftIsAgreedOn$Island" "left" "I") (List.mem_of_getElem? (i := 4) rfl)) (fun _ h9 => h9) rfl dX0_carriedIf_68 ?_
        obtain rfl := Option.some.inj h
        exact ret_i X dX0_carriedIf_71 hP hD hS rfl
    · have h := if_f h hc9
      refine lv_aload_n hx hb dX0_carriedIf_12 rfl (lv_at hl 0 rfl) ?_
      refine va_get (D := E.1) (ci := 0) (v := .ref a_pledges) (C := RX0) (T := TX0) (N := 14) hx hb hts iX0_carriedIf_X0 hown hK hP 0 rfl rfl 13 (by decide) (hts (.fieldLink RX0 53 "LeftIsAgreedOn$Island" "pledges" "[I") (List.mem_of_getElem? (i := 2) rfl)) (fun _ h9 => h9) rfl dX0_carriedIf_13 ?_
      refine lv_iload_n hx hb dX0_carriedIf_16 rfl (lv_at hl 3 rfl) ?_
      obtain ⟨hz17, h⟩ := chk_of h
      refine ld_i X hP 1 rfl (inb.vp hz17) (v := (c_pledges (l3).toNatClampNeg)) rfl dX0_carriedIf_17 ?_
      refine lv_iload_n hx hb dX0_carriedIf_18 rfl (lv_at hl 1 rfl) ?_
      refine lv_iload_n hx hb dX0_carriedIf_19 rfl (lv_at hl 3 rfl) ?_
      refine lv_ishr hx hb dX0_carriedIf_20 ?_
      refine lv_iconst (v := (1 : Int32)) hx hb dX0_carriedIf_21 (by decide) ?_
      refine lv_iand hx hb dX0_carriedIf_22 ?_
      refine lv_icmp_eq (tgt := 30) hx hb dX0_carriedIf_23 (by decide) (fun hc23 => ?_) (fun hc23 => ?_)
      · have h := if_t h hc23
        refine lv_iconst (v := (0 : Int32)) hx hb dX0_carriedIf_30 (by decide) ?_
        exact w_X0_carriedIf_b31 X a_t a_pledges a_weights a_ponds a_kinds a_cells a_faces c_t c_pledges c_weights res (f_X0_carriedIf_b4 c_t c_pledges c_weights n) ih l1 l2 l3 (0 : Int32) _ _ _ h hP hD hS (lv_sub hl [0, 1, 2, 3] rfl)
      · have h := if_f h hc23
        refine lv_iconst (v := (1 : Int32)) hx hb dX0_carriedIf_26 (by decide) ?_
        refine lv_goto (tgt := 31) hx hb dX0_carriedIf_27 (by decide) ?_
        exact w_X0_carriedIf_b31 X a_t a_pledges a_weights a_ponds a_kinds a_cells a_faces c_t c_pledges c_weights res (f_X0_carriedIf_b4 c_t c_pledges c_weights n) ih l1 l2 l3 (1 : Int32) _ _ _ h hP hD hS (lv_sub hl [0, 1, 2, 3] rfl)
set_option maxRecDepth 100000 in
set_option maxHeartbeats 4000000 in
theorem w_X0_carriedIf (X : Ctx p m meth c cX0_carriedIf 5 ((some .int)) s args wsX0_carriedIf RX0 E A) (a_t : Nat) (a_pledges : Nat) (a_weights : Nat) (a_ponds : Nat) (a_kinds : Nat) (a_cells : Nat) (a_faces : Nat) (c_t : Nat → Int32) (c_pledges : Nat → Int32) (c_weights : Nat → Int32) (res : Int32) (l1 : Int32) (ls : Array Slot) (H : Heap) (locs : List Loc) (h : f_X0_carriedIf l1 c_t c_pledges c_weights = some res) (hP : va_P E.1 vwCl (W_X0_carriedIf E a_t a_pledges a_weights a_ponds a_kinds a_cells a_faces c_t c_pledges c_weights) H) (hD : va_D A (W_X0_carriedIf E a_t a_pledges a_weights a_ponds a_kinds a_cells a_faces c_t c_pledges c_weights)) (hS : va_S A s.heap H locs) (hl : lv_has ls 5 [(0, .ref a_t), (1, .int l1)]) : W p l e r_X0_carriedIf s m args below meth c H locs 0 0 (MQ below (qI E A res (W_X0_carriedIf E a_t a_pledges a_weights a_ponds a_kinds a_cells a_faces c_t c_pledges c_weights)) args s 0 0 A) (F0 m 0 ls []) := by
  obtain ⟨hx, hb, hml, hr, hlk, hown, hts, hG, hA⟩ := id X
  have hK := hG.1
  have hN := hG.2.1
  unfold f_X0_carriedIf at h
  refine lv_iconst (v := (0 : Int32)) hx hb dX0_carriedIf_0 (by decide) ?_
  refine lv_istore_n (lv' := [(2, .int (0 : Int32)), (0, .ref a_t), (1, .int l1)]) hx hb dX0_carriedIf_1 rfl hl (by decide) rfl (fun ls hl => ?_)
  refine lv_iconst (v := (0 : Int32)) hx hb dX0_carriedIf_2 (by decide) ?_
  refine lv_istore_n (lv' := [(3, .int (0 : Int32)), (2, .int (0 : Int32)), (0, .ref a_t), (1, .int l1)]) hx hb dX0_carriedIf_3 rfl hl (by decide) rfl (fun ls hl => ?_)
  exact w_X0_carriedIf_b4 X a_t a_pledges a_weights a_ponds a_kinds a_cells a_faces c_t c_pledges c_weights res FU l1 (0 : Int32) (0 : Int32) _ _ _ h hP hD hS (lv_sub hl [2, 3, 1, 0] rfl)
end
set_option maxRecDepth 100000 in
theorem c_X0_carriedIf (l : Launch) (E : Env0) (a_t : Nat) (a_pledges : Nat) (a_weights : Nat) (a_ponds : Nat) (a_kinds : Nat) (a_cells : Nat) (a_faces : Nat) (l1 : Int32) (c_t : Nat → Int32) (c_pledges : Nat → Int32) (c_weights : Nat → Int32) (sz : Nat) (res : Int32) (h : f_X0_carriedIf l1 c_t c_pledges c_weights = some res) : Met l yX0_carriedIf wsX0_carriedIf r_X0_carriedIf (cPre E [.ref a_t, .int l1] (W_X0_carriedIf E a_t a_pledges a_weights a_ponds a_kinds a_cells a_faces c_t c_pledges c_weights) sz) (qI E (va_A (W_X0_carriedIf E a_t a_pledges a_weights a_ponds a_kinds a_cells a_faces c_t c_pledges c_weights) sz) res (W_X0_carriedIf E a_t a_pledges a_weights a_ponds a_kinds a_cells a_faces c_t c_pledges c_weights)) 0 0 (va_A (W_X0_carriedIf E a_t a_pledges a_weights a_ponds a_kinds a_cells a_faces c_t c_pledges c_weights) sz) :=
  met_of (Qc := fun A => qI E A res (W_X0_carriedIf E a_t a_pledges a_weights a_ponds a_kinds a_cells a_faces c_t c_pledges c_weights)) (by decide) rfl (Nat.le_of_ble_eq_true rfl) (fun p e s m args below meth c X hP hD hS ls hl => w_X0_carriedIf X a_t a_pledges a_weights a_ponds a_kinds a_cells a_faces c_t c_pledges c_weights res l1 ls _ _ h hP hD hS hl)
-- ===== J6_bitCount_0f7a4
noncomputable abbrev W_J6_bitCount_0f7a4 (E : Env0) : va_W := []
noncomputable abbrev r_J6_bitCount_0f7a4 : Room := { frames := 0, cells := 0, slots := 0, locals := 0 }
theorem hd_J6_bitCount_0f7a4 : yJ6_bitCount_0f7a4.cls ≠ "java/lang/invoke/MethodHandle" ∧ yJ6_bitCount_0f7a4.cls ≠ "java/lang/invoke/VarHandle" ∧ (parseMethodDescriptor yJ6_bitCount_0f7a4.desc).map (fun d => d.parameters.length) = some 1 := by decide +kernel
section
variable {p : Program} {l : Launch} {e : Env} {s : State} {m : MethodId} {args : Array Value} {below : List Frame} {meth : Method} {c : Code} {E : Env0} {A : Nat → Prop}
set_option maxRecDepth 100000 in
set_option maxHeartbeats 4000000 in
theorem w_J6_bitCount_0f7a4 (X : Ctx p m meth c cJ6_bitCount_0f7a4 1 ((some .int)) s args wsJ6_bitCount_0f7a4 RJ6 E A) (res : Int32) (l0 : Int32) (ls : Array Slot) (H : Heap) (locs : List Loc) (h : f_J6_bitCount_0f7a4 l0 = some res) (hP : va_P E.1 vwCl (W_J6_bitCount_0f7a4 E) H) (hD : va_D A (W_J6_bitCount_0f7a4 E)) (hS : va_S A s.heap H locs) (hl : lv_has ls 1 [(0, .int l0)]) : W p l e r_J6_bitCount_0f7a4 s m args below meth c H locs 0 0 (MQ below (qI E A res (W_J6_bitCount_0f7a4 E)) args s 0 0 A) (F0 m 0 ls []) := by
  obtain ⟨hx, hb, hml, hr, hlk, hown, hts, hG, hA⟩ := id X
  have hK := hG.1
  have hN := hG.2.1
  unfold f_J6_bitCount_0f7a4 at h
  refine lv_iload_n hx hb dJ6_bitCount_0f7a4_0 rfl (lv_at hl 0 rfl) ?_
  refine lv_iload_n hx hb dJ6_bitCount_0f7a4_1 rfl (lv_at hl 0 rfl) ?_
  refine lv_iconst (v := (1 : Int32)) hx hb dJ6_bitCount_0f7a4_2 (by decide) ?_
  refine lv_iushr (v := (((l0).toUInt32 >>> (((1 : Int32)).toUInt32 &&& Int32.toUInt32 31)).toInt32)) hx hb dJ6_bitCount_0f7a4_3 rfl ?_
  refine lv_ldcw (v := (1431655765 : Int32)) hx hb hown (hts (.constant RJ6 265 (1431655765)) (List.mem_of_getElem? (i := 1) rfl)) dJ6_bitCount_0f7a4_4 ?_
  refine lv_iand hx hb dJ6_bitCount_0f7a4_7 ?_
  refine lv_isub hx hb dJ6_bitCount_0f7a4_8 ?_
  refine lv_istore_n (lv' := [(0, .int (l0 - ((((l0).toUInt32 >>> (((1 : Int32)).toUInt32 &&& Int32.toUInt32 31)).toInt32) &&& (1431655765 : Int32))))]) hx hb dJ6_bitCount_0f7a4_9 rfl hl (by decide) rfl (fun ls hl => ?_)
  refine lv_iload_n hx hb dJ6_bitCount_0f7a4_10 rfl (lv_at hl 0 rfl) ?_
  refine lv_ldcw (v := (858993459 : Int32)) hx hb hown (hts (.constant RJ6 266 (858993459)) (List.mem_of_getElem? (i := 2) rfl)) dJ6_bitCount_0f7a4_11 ?_
  refine lv_iand hx hb dJ6_bitCount_0f7a4_14 ?_
  refine lv_iload_n hx hb dJ6_bitCount_0f7a4_15 rfl (lv_at hl 0 rfl) ?_
  refine lv_iconst (v := (2 : Int32)) hx hb dJ6_bitCount_0f7a4_16 (by decide) ?_
  refine lv_iushr (v := ((((l0 - ((((l0).toUInt32 >>> (((1 : Int32)).toUInt32 &&& Int32.toUInt32 31)).toInt32) &&& (1431655765 : Int32)))).toUInt32 >>> (((2 : Int32)).toUInt32 &&& Int32.toUInt32 31)).toInt32)) hx hb dJ6_bitCount_0f7a4_17 rfl ?_
  refine lv_ldcw (v := (858993459 : Int32)) hx hb hown (hts (.constant RJ6 266 (858993459)) (List.mem_of_getElem? (i := 2) rfl)) dJ6_bitCount_0f7a4_18 ?_
  refine lv_iand hx hb dJ6_bitCount_0f7a4_21 ?_
  refine lv_iadd hx hb dJ6_bitCount_0f7a4_22 ?_
  refine lv_istore_n (lv' := [(0, .int (((l0 - ((((l0).toUInt32 >>> (((1 : Int32)).toUInt32 &&& Int32.toUInt32 31)).toInt32) &&& (1431655765 : Int32))) &&& (858993459 : Int32)) + (((((l0 - ((((l0).toUInt32 >>> (((1 : Int32)).toUInt32 &&& Int32.toUInt32 31)).toInt32) &&& (1431655765 : Int32)))).toUInt32 >>> (((2 : Int32)).toUInt32 &&& Int32.toUInt32 31)).toInt32) &&& (858993459 : Int32))))]) hx hb dJ6_bitCount_0f7a4_23 rfl hl (by decide) rfl (fun ls hl => ?_)
  refine lv_iload_n hx hb dJ6_bitCount_0f7a4_24 rfl (lv_at hl 0 rfl) ?_
  refine lv_iload_n hx hb dJ6_bitCount_0f7a4_25 rfl (lv_at hl 0 rfl) ?_
  refine lv_iconst (v := (4 : Int32)) hx hb dJ6_bitCount_0f7a4_26 (by decide) ?_
  refine lv_iushr (v := ((((((l0 - ((((l0).toUInt32 >>> (((1 : Int32)).toUInt32 &&& Int32.toUInt32 31)).toInt32) &&& (1431655765 : Int32))) &&& (858993459 : Int32)) + (((((l0 - ((((l0).toUInt32 >>> (((1 : Int32)).toUInt32 &&& Int32.toUInt32 31)).toInt32) &&& (1431655765 : Int32)))).toUInt32 >>> (((2 : Int32)).toUInt32 &&& Int32.toUInt32 31)).toInt32) &&& (858993459 : Int32)))).toUInt32 >>> (((4 : Int32)).toUInt32 &&& Int32.toUInt32 31)).toInt32)) hx hb dJ6_bitCount_0f7a4_27 rfl ?_
  refine lv_iadd hx hb dJ6_bitCount_0f7a4_28 ?_
  refine lv_ldcw (v := (252645135 : Int32)) hx hb hown (hts (.constant RJ6 267 (252645135)) (List.mem_of_getElem? (i := 3) rfl)) dJ6_bitCount_0f7a4_29 ?_
  refine lv_iand hx hb dJ6_bitCount_0f7a4_32 ?_
  refine lv_istore_n (lv' := [(0, .int (((((l0 - ((((l0).toUInt32 >>> (((1 : Int32)).toUInt32 &&& Int32.toUInt32 31)).toInt32) &&& (1431655765 : Int32))) &&& (858993459 : Int32)) + (((((l0 - ((((l0).toUInt32 >>> (((1 : Int32)).toUInt32 &&& Int32.toUInt32 31)).toInt32) &&& (1431655765 : Int32)))).toUInt32 >>> (((2 : Int32)).toUInt32 &&& Int32.toUInt32 31)).toInt32) &&& (858993459 : Int32))) + ((((((l0 - ((((l0).toUInt32 >>> (((1 : Int32)).toUInt32 &&& Int32.toUInt32 31)).toInt32) &&& (1431655765 : Int32))) &&& (858993459 : Int32)) + (((((l0 - ((((l0).toUInt32 >>> (((1 : Int32)).toUInt32 &&& Int32.toUInt32 31)).toInt32) &&& (1431655765 : Int32)))).toUInt32 >>> (((2 : Int32)).toUInt32 &&& Int32.toUInt32 31)).toInt32) &&& (858993459 : Int32)))).toUInt32 >>> (((4 : Int32)).toUInt32 &&& Int32.toUInt32 31)).toInt32)) &&& (252645135 : Int32)))]) hx hb dJ6_bitCount_0f7a4_33 rfl hl (by decide) rfl (fun ls hl => ?_)
  refine lv_iload_n hx hb dJ6_bitCount_0f7a4_34 rfl (lv_at hl 0 rfl) ?_
  refine lv_iload_n hx hb dJ6_bitCount_0f7a4_35 rfl (lv_at hl 0 rfl) ?_
  refine lv_bipush (v := (8 : Int32)) hx hb dJ6_bitCount_0f7a4_36 (by decide) ?_
  refine lv_iushr (v := ((((((((l0 - ((((l0).toUInt32 >>> (((1 : Int32)).toUInt32 &&& Int32.toUInt32 31)).toInt32) &&& (1431655765 : Int32))) &&& (858993459 : Int32)) + (((((l0 - ((((l0).toUInt32 >>> (((1 : Int32)).toUInt32 &&& Int32.toUInt32 31)).toInt32) &&& (1431655765 : Int32)))).toUInt32 >>> (((2 : Int32)).toUInt32 &&& Int32.toUInt32 31)).toInt32) &&& (858993459 : Int32))) + ((((((l0 - ((((l0).toUInt32 >>> (((1 : Int32)).toUInt32 &&& Int32.toUInt32 31)).toInt32) &&& (1431655765 : Int32))) &&& (858993459 : Int32)) + (((((l0 - ((((l0).toUInt32 >>> (((1 : Int32)).toUInt32 &&& Int32.toUInt32 31)).toInt32) &&& (1431655765 : Int32)))).toUInt32 >>> (((2 : Int32)).toUInt32 &&& Int32.toUInt32 31)).toInt32) &&& (858993459 : Int32)))).toUInt32 >>> (((4 : Int32)).toUInt32 &&& Int32.toUInt32 31)).toInt32)) &&& (252645135 : Int32))).toUInt32 >>> (((8 : Int32)).toUInt32 &&& Int32.toUInt32 31)).toInt32)) hx hb dJ6_bitCount_0f7a4_38 rfl ?_
  refine lv_iadd hx hb dJ6_bitCount_0f7a4_39 ?_
  refine lv_istore_n (lv' := [(0, .int ((((((l0 - ((((l0).toUInt32 >>> (((1 : Int32)).toUInt32 &&& Int32.toUInt32 31)).toInt32) &&& (1431655765 : Int32))) &&& (858993459 : Int32)) + (((((l0 - ((((l0).toUInt32 >>> (((1 : Int32)).toUInt32 &&& Int32.toUInt32 31)).toInt32) &&& (1431655765 : Int32)))).toUInt32 >>> (((2 : Int32)).toUInt32 &&& Int32.toUInt32 31)).toInt32) &&& (858993459 : Int32))) + ((((((l0 - ((((l0).toUInt32 >>> (((1 : Int32)).toUInt32 &&& Int32.toUInt32 31)).toInt32) &&& (1431655765 : Int32))) &&& (858993459 : Int32)) + (((((l0 - ((((l0).toUInt32 >>> (((1 : Int32)).toUInt32 &&& Int32.toUInt32 31)).toInt32) &&& (1431655765 : Int32)))).toUInt32 >>> (((2 : Int32)).toUInt32 &&& Int32.toUInt32 31)).toInt32) &&& (858993459 : Int32)))).toUInt32 >>> (((4 : Int32)).toUInt32 &&& Int32.toUInt32 31)).toInt32)) &&& (252645135 : Int32)) + ((((((((l0 - ((((l0).toUInt32 >>> (((1 : Int32)).toUInt32 &&& Int32.toUInt32 31)).toInt32) &&& (1431655765 : Int32))) &&& (858993459 : Int32)) + (((((l0 - ((((l0).toUInt32 >>> (((1 : Int32)).toUInt32 &&& Int32.toUInt32 31)).toInt32) &&& (1431655765 : Int32)))).toUInt32 >>> (((2 : Int32)).toUInt32 &&& Int32.toUInt32 31)).toInt32) &&& (858993459 : Int32))) + ((((((l0 - ((((l0).toUInt32 >>> (((1 : Int32)).toUInt32 &&& Int32.toUInt32 31)).toInt32) &&& (1431655765 : Int32))) &&& (858993459 : Int32)) + (((((l0 - ((((l0).toUInt32 >>> (((1 : Int32)).toUInt32 &&& Int32.toUInt32 31)).toInt32) &&& (1431655765 : Int32)))).toUInt32 >>> (((2 : Int32)).toUInt32 &&& Int32.toUInt32 31)).toInt32) &&& (858993459 : Int32)))).toUInt32 >>> (((4 : Int32)).toUInt32 &&& Int32.toUInt32 31)).toInt32)) &&& (252645135 : Int32))).toUInt32 >>> (((8 : Int32)).toUInt32 &&& Int32.toUInt32 31)).toInt32)))]) hx hb dJ6_bitCount_0f7a4_40 rfl hl (by decide) rfl (fun ls hl => ?_)
  refine lv_iload_n hx hb dJ6_bitCount_0f7a4_41 rfl (lv_at hl 0 rfl) ?_
  refine lv_iload_n hx hb dJ6_bitCount_0f7a4_42 rfl (lv_at hl 0 rfl) ?_
  refine lv_bipush (v := (16 : Int32)) hx hb dJ6_bitCount_0f7a4_43 (by decide) ?_
  refine lv_iushr (v := (((((((((l0 - ((((l0).toUInt32 >>> (((1 : Int32)).toUInt32 &&& Int32.toUInt32 31)).toInt32) &&& (1431655765 : Int32))) &&& (858993459 : Int32)) + (((((l0 - ((((l0).toUInt32 >>> (((1 : Int32)).toUInt32 &&& Int32.toUInt32 31)).toInt32) &&& (1431655765 : Int32)))).toUInt32 >>> (((2 : Int32)).toUInt32 &&& Int32.toUInt32 31)).toInt32) &&& (858993459 : Int32))) + ((((((l0 - ((((l0).toUInt32 >>> (((1 : Int32)).toUInt32 &&& Int32.toUInt32 31)).toInt32) &&& (1431655765 : Int32))) &&& (858993459 : Int32)) + (((((l0 - ((((l0).toUInt32 >>> (((1 : Int32)).toUInt32 &&& Int32.toUInt32 31)).toInt32) &&& (1431655765 : Int32)))).toUInt32 >>> (((2 : Int32)).toUInt32 &&& Int32.toUInt32 31)).toInt32) &&& (858993459 : Int32)))).toUInt32 >>> (((4 : Int32)).toUInt32 &&& Int32.toUInt32 31)).toInt32)) &&& (252645135 : Int32)) + ((((((((l0 - ((((l0).toUInt32 >>> (((1 : Int32)).toUInt32 &&& Int32.toUInt32 31)).toInt32) &&& (1431655765 : Int32))) &&& (858993459 : Int32)) + (((((l0 - ((((l0).toUInt32 >>> (((1 : Int32)).toUInt32 &&& Int32.toUInt32 31)).toInt32) &&& (1431655765 : Int32)))).toUInt32 >>> (((2 : Int32)).toUInt32 &&& Int32.toUInt32 31)).toInt32) &&& (858993459 : Int32))) + ((((((l0 - ((((l0).toUInt32 >>> (((1 : Int32)).toUInt32 &&& Int32.toUInt32 31)).toInt32) &&& (1431655765 : Int32))) &&& (858993459 : Int32)) + (((((l0 - ((((l0).toUInt32 >>> (((1 : Int32)).toUInt32 &&& Int32.toUInt32 31)).toInt32) &&& (1431655765 : Int32)))).toUInt32 >>> (((2 : Int32)).toUInt32 &&& Int32.toUInt32 31)).toInt32) &&& (858993459 : Int32)))).toUInt32 >>> (((4 : Int32)).toUInt32 &&& Int32.toUInt32 31)).toInt32)) &&& (252645135 : Int32))).toUInt32 >>> (((8 : Int32)).toUInt32 &&& Int32.toUInt32 31)).toInt32))).toUInt32 >>> (((16 : Int32)).toUInt32 &&& Int32.toUInt32 31)).toInt32)) hx hb dJ6_bitCount_0f7a4_45 rfl ?_
  refine lv_iadd hx hb dJ6_bitCount_0f7a4_46 ?_
  refine lv_istore_n (lv' := [(0, .int (((((((l0 - ((((l0).toUInt32 >>> (((1 : Int32)).toUInt32 &&& Int32.toUInt32 31)).toInt32) &&& (1431655765 : Int32))) &&& (858993459 : Int32)) + (((((l0 - ((((l0).toUInt32 >>> (((1 : Int32)).toUInt32 &&& Int32.toUInt32 31)).toInt32) &&& (1431655765 : Int32)))).toUInt32 >>> (((2 : Int32)).toUInt32 &&& Int32.toUInt32 31)).toInt32) &&& (858993459 : Int32))) + ((((((l0 - ((((l0).toUInt32 >>> (((1 : Int32)).toUInt32 &&& Int32.toUInt32 31)).toInt32) &&& (1431655765 : Int32))) &&& (858993459 : Int32)) + (((((l0 - ((((l0).toUInt32 >>> (((1 : Int32)).toUInt32 &&& Int32.toUInt32 31)).toInt32) &&& (1431655765 : Int32)))).toUInt32 >>> (((2 : Int32)).toUInt32 &&& Int32.toUInt32 31)).toInt32) &&& (858993459 : Int32)))).toUInt32 >>> (((4 : Int32)).toUInt32 &&& Int32.toUInt32 31)).toInt32)) &&& (252645135 : Int32)) + ((((((((l0 - ((((l0).toUInt32 >>> (((1 : Int32)).toUInt32 &&& Int32.toUInt32 31)).toInt32) &&& (1431655765 : Int32))) &&& (858993459 : Int32)) + (((((l0 - ((((l0).toUInt32 >>> (((1 : Int32)).toUInt32 &&& Int32.toUInt32 31)).toInt32) &&& (1431655765 : Int32)))).toUInt32 >>> (((2 : Int32)).toUInt32 &&& Int32.toUInt32 31)).toInt32) &&& (858993459 : Int32))) + ((((((l0 - ((((l0).toUInt32 >>> (((1 : Int32)).toUInt32 &&& Int32.toUInt32 31)).toInt32) &&& (1431655765 : Int32))) &&& (858993459 : Int32)) + (((((l0 - ((((l0).toUInt32 >>> (((1 : Int32)).toUInt32 &&& Int32.toUInt32 31)).toInt32) &&& (1431655765 : Int32)))).toUInt32 >>> (((2 : Int32)).toUInt32 &&& Int32.toUInt32 31)).toInt32) &&& (858993459 : Int32)))).toUInt32 >>> (((4 : Int32)).toUInt32 &&& Int32.toUInt32 31)).toInt32)) &&& (252645135 : Int32))).toUInt32 >>> (((8 : Int32)).toUInt32 &&& Int32.toUInt32 31)).toInt32)) + (((((((((l0 - ((((l0).toUInt32 >>> (((1 : Int32)).toUInt32 &&& Int32.toUInt32 31)).toInt32) &&& (1431655765 : Int32))) &&& (858993459 : Int32)) + (((((l0 - ((((l0).toUInt32 >>> (((1 : Int32)).toUInt32 &&& Int32.toUInt32 31)).toInt32) &&& (1431655765 : Int32)))).toUInt32 >>> (((2 : Int32)).toUInt32 &&& Int32.toUInt32 31)).toInt32) &&& (858993459 : Int32))) + ((((((l0 - ((((l0).toUInt32 >>> (((1 : Int32)).toUInt32 &&& Int32.toUInt32 31)).toInt32) &&& (1431655765 : Int32))) &&& (858993459 : Int32)) + (((((l0 - ((((l0).toUInt32 >>> (((1 : Int32)).toUInt32 &&& Int32.toUInt32 31)).toInt32) &&& (1431655765 : Int32)))).toUInt32 >>> (((2 : Int32)).toUInt32 &&& Int32.toUInt32 31)).toInt32) &&& (858993459 : Int32)))).toUInt32 >>> (((4 : Int32)).toUInt32 &&& Int32.toUInt32 31)).toInt32)) &&& (252645135 : Int32)) + ((((((((l0 - ((((l0).toUInt32 >>> (((1 : Int32)).toUInt32 &&& Int32.toUInt32 31)).toInt32) &&& (1431655765 : Int32))) &&& (858993459 : Int32)) + (((((l0 - ((((l0).toUInt32 >>> (((1 : Int32)).toUInt32 &&& Int32.toUInt32 31)).toInt32) &&& (1431655765 : Int32)))).toUInt32 >>> (((2 : Int32)).toUInt32 &&& Int32.toUInt32 31)).toInt32) &&& (858993459 : Int32))) + ((((((l0 - ((((l0).toUInt32 >>> (((1 : Int32)).toUInt32 &&& Int32.toUInt32 31)).toInt32) &&& (1431655765 : Int32))) &&& (858993459 : Int32)) + (((((l0 - ((((l0).toUInt32 >>> (((1 : Int32)).toUInt32 &&& Int32.toUInt32 31)).toInt32) &&& (1431655765 : Int32)))).toUInt32 >>> (((2 : Int32)).toUInt32 &&& Int32.toUInt32 31)).toInt32) &&& (858993459 : Int32)))).toUInt32 >>> (((4 : Int32)).toUInt32 &&& Int32.toUInt32 31)).toInt32)) &&& (252645135 : Int32))).toUInt32 >>> (((8 : Int32)).toUInt32 &&& Int32.toUInt32 31)).toInt32))).toUInt32 >>> (((16 : Int32)).toUInt32 &&& Int32.toUInt32 31)).toInt32)))]) hx hb dJ6_bitCount_0f7a4_47 rfl hl (by decide) rfl (fun ls hl => ?_)
  refine lv_iload_n hx hb dJ6_bitCount_0f7a4_48 rfl (lv_at hl 0 rfl) ?_
  refine lv_bipush (v := (63 : Int32)) hx hb dJ6_bitCount_0f7a4_49 (by decide) ?_
  refine lv_iand hx hb dJ6_bitCount_0f7a4_51 ?_
  obtain rfl := Option.some.inj h
  exact ret_i X dJ6_bitCount_0f7a4_52 hP hD hS rfl
end
set_option maxRecDepth 100000 in
theorem c_J6_bitCount_0f7a4 (l : Launch) (E : Env0) (l0 : Int32) (sz : Nat) (res : Int32) (h : f_J6_bitCount_0f7a4 l0 = some res) : Met l yJ6_bitCount_0f7a4 wsJ6_bitCount_0f7a4 r_J6_bitCount_0f7a4 (cPre E [.int l0] (W_J6_bitCount_0f7a4 E) sz) (qI E (va_A (W_J6_bitCount_0f7a4 E) sz) res (W_J6_bitCount_0f7a4 E)) 0 0 (va_A (W_J6_bitCount_0f7a4 E) sz) :=
  met_of (Qc := fun A => qI E A res (W_J6_bitCount_0f7a4 E)) (by decide) rfl (Nat.le_of_ble_eq_true rfl) (fun p e s m args below meth c X hP hD hS ls hl => w_J6_bitCount_0f7a4 X res l0 ls _ _ h hP hD hS hl)
-- ===== X0_fewestToTurn
noncomputable abbrev W_X0_fewestToTurn (E : Env0) (a_t : Nat) (a_pledges : Nat) (a_weights : Nat) (a_ponds : Nat) (a_kinds : Nat) (a_cells : Nat) (a_faces : Nat) (c_t : Nat → Int32) (c_pledges : Nat → Int32) (c_weights : Nat → Int32) : va_W := [(a_t, .inr (0, [.int (c_t 0), .int (c_t 1), .int (c_t 2), .int (c_t 3), .int (c_t 4), .int (c_t 5), .int (c_t 6), .int (c_t 7), .ref a_ponds, .ref a_kinds, .ref a_weights, .ref a_cells, .ref a_faces, .ref a_pledges])), (a_pledges, .inl (eI E, 8, .inl c_pledges)), (a_weights, .inl (eI E, 8, .inl c_weights))]
noncomputable abbrev r_X0_fewestToTurn : Room := { frames := 1, cells := 0, slots := 0, locals := 24 }
theorem hd_X0_fewestToTurn : yX0_fewestToTurn.cls ≠ "java/lang/invoke/MethodHandle" ∧ yX0_fewestToTurn.cls ≠ "java/lang/invoke/VarHandle" ∧ (parseMethodDescriptor yX0_fewestToTurn.desc).map (fun d => d.parameters.length) = some 0 := by decide +kernel
theorem hV_X0_fewestToTurn : yX0_fewestToTurn.cls = RX0 ∧ yX0_fewestToTurn.cls ≠ "java/lang/invoke/MethodHandle" ∧ yX0_fewestToTurn.cls ≠ "java/lang/invoke/VarHandle" ∧ (parseMethodDescriptor yX0_fewestToTurn.desc).map (fun d => d.parameters.length) = some 0 := ⟨rfl, hd_X0_fewestToTurn⟩
theorem iX0_fewestToTurn_X0 : ∀ w ∈ wsX00, w ∈ wsX0_fewestToTurn := fun _ h => List.mem_cons_of_mem _ (List.mem_append_right _ (h))
section
variable {p : Program} {l : Launch} {e : Env} {s : State} {m : MethodId} {args : Array Value} {below : List Frame} {meth : Method} {c : Code} {E : Env0} {A : Nat → Prop}
set_option maxRecDepth 100000 in
set_option maxHeartbeats 4000000 in
theorem w_X0_fewestToTurn_b56 (X : Ctx p m meth c cX0_fewestToTurn 6 ((some .int)) s args wsX0_fewestToTurn RX0 E A) (a_t : Nat) (a_pledges : Nat) (a_weights : Nat) (a_ponds : Nat) (a_kinds : Nat) (a_cells : Nat) (a_faces : Nat) (c_t : Nat → Int32) (c_pledges : Nat → Int32) (c_weights : Nat → Int32) (res : Int32) (k16 : Int32 → Int32 → Int32 → Int32 → Option (Int32)) (hk16 : ∀ (l1 : Int32) (l2 : Int32) (l3 : Int32) (l4 : Int32) (ls : Array Slot) (H : Heap) (locs : List Loc), k16 l1 l2 l3 l4 = some res → va_P E.1 vwCl (W_X0_fewestToTurn E a_t a_pledges a_weights a_ponds a_kinds a_cells a_faces c_t c_pledges c_weights) H → va_D A (W_X0_fewestToTurn E a_t a_pledges a_weights a_ponds a_kinds a_cells a_faces c_t c_pledges c_weights) → va_S A s.heap H locs → lv_has ls 6 [(0, .ref a_t), (1, .int l1), (2, .int l2), (3, .int l3), (4, .int l4)] → W p l e r_X0_fewestToTurn s m args below meth c H locs 0 0 (MQ below (qI E A res (W_X0_fewestToTurn E a_t a_pledges a_weights a_ponds a_kinds a_cells a_faces c_t c_pledges c_weights)) args s 0 0 A) (F0 m 16 ls [])) (l1 : Int32) (l2 : Int32) (l3 : Int32) (l4 : Int32) (ls : Array Slot) (H : Heap) (locs : List Loc) (h : f_X0_fewestToTurn_b56 c_t c_pledges c_weights k16 l1 l2 l3 l4 = some res) (hP : va_P E.1 vwCl (W_X0_fewestToTurn E a_t a_pledges a_weights a_ponds a_kinds a_cells a_faces c_t c_pledges c_weights) H) (hD : va_D A (W_X0_fewestToTurn E a_t a_pledges a_weights a_ponds a_kinds a_cells a_faces c_t c_pledges c_weights)) (hS : va_S A s.heap H locs) (hl : lv_has ls 6 [(0, .ref a_t), (1, .int l1), (2, .int l2), (3, .int l3), (4, .int l4)]) : W p l e r_X0_fewestToTurn s m args below meth c H locs 0 0 (MQ below (qI E A res (W_X0_fewestToTurn E a_t a_pledges a_weights a_ponds a_kinds a_cells a_faces c_t c_pledges c_weights)) args s 0 0 A) (F0 m 56 ls []) := by
  obtain ⟨hx, hb, hml, hr, hlk, hown, hts, hG, hA⟩ := id X
  have hK := hG.1
  have hN := hG.2.1
  unfold f_X0_fewestToTurn_b56 at h
  refine lv_iinc (v := (l4 + (1 : Int32))) (lv' := [(4, .int (l4 + (1 : Int32))), (0, .ref a_t), (1, .int l1), (2, .int l2), (3, .int l3)]) hx hb dX0_fewestToTurn_56 hl (k := 4) rfl rfl (by decide) rfl (fun ls hl => ?_)
  refine lv_goto (tgt := 16) hx hb dX0_fewestToTurn_59 (by decide) ?_
  exact hk16 l1 l2 l3 (l4 + (1 : Int32)) _ _ _ h hP hD hS (lv_sub hl [1, 2, 3, 4, 0] rfl)
set_option maxRecDepth 100000 in
set_option maxHeartbeats 4000000 in
theorem w_X0_fewestToTurn_b16 (X : Ctx p m meth c cX0_fewestToTurn 6 ((some .int)) s args wsX0_fewestToTurn RX0 E A) (a_t : Nat) (a_pledges : Nat) (a_weights : Nat) (a_ponds : Nat) (a_kinds : Nat) (a_cells : Nat) (a_faces : Nat) (c_t : Nat → Int32) (c_pledges : Nat → Int32) (c_weights : Nat → Int32) (res : Int32) : ∀ (n : Nat) (l1 : Int32) (l2 : Int32) (l3 : Int32) (l4 : Int32) (ls : Array Slot) (H : Heap) (locs : List Loc), f_X0_fewestToTurn_b16 c_t c_pledges c_weights n l1 l2 l3 l4 = some res → va_P E.1 vwCl (W_X0_fewestToTurn E a_t a_pledges a_weights a_ponds a_kinds a_cells a_faces c_t c_pledges c_weights) H → va_D A (W_X0_fewestToTurn E a_t a_pledges a_weights a_ponds a_kinds a_cells a_faces c_t c_pledges c_weights) → va_S A s.heap H locs → lv_has ls 6 [(0, .ref a_t), (1, .int l1), (2, .int l2), (3, .int l3), (4, .int l4)] → W p l e r_X0_fewestToTurn s m args below meth c H locs 0 0 (MQ below (qI E A res (W_X0_fewestToTurn E a_t a_pledges a_weights a_ponds a_kinds a_cells a_faces c_t c_pledges c_weights)) args s 0 0 A) (F0 m 16 ls []) := by
  obtain ⟨hx, hb, hml, hr, hlk, hown, hts, hG, hA⟩ := id X
  have hK := hG.1
  have hN := hG.2.1
  intro n
  induction n with
  | zero =>
    intro l1 l2 l3 l4 ls H locs h
    exact absurd (show (none : Option (Int32)) = some res from h) (by intro q; cases q)
  | succ n ih =>
    intro l1 l2 l3 l4 ls H locs h hP hD hS hl
    rw [f_X0_fewestToTurn_b16] at h
    refine lv_iload hx hb dX0_fewestToTurn_16 (lv_at hl 4 rfl) ?_
    refine lv_iconst (v := (1 : Int32)) hx hb dX0_fewestToTurn_18 (by decide) ?_
    refine lv_aload_n hx hb dX0_fewestToTurn_19 rfl (lv_at hl 0 rfl) ?_
    refine va_get (D := E.1) (ci := 0) (v := .int (c_t 7)) (C := RX0) (T := TX0) (N := 14) hx hb hts iX0_fewestToTurn_X0 hown hK hP 0 rfl rfl 7 (by decide) (hts (.fieldLink RX0 33 "LeftIsAgreedOn$Island" "count" "I") (List.mem_of_getElem? (i := 1) rfl)) (fun _ h9 => h9) rfl dX0_fewestToTurn_20 ?_
    refine lv_ishl hx hb dX0_fewestToTurn_23 ?_
    refine lv_icmp_ge (tgt := 62) hx hb dX0_fewestToTurn_24 (by decide) (fun hc24 => ?_) (fun hc24 => ?_)
    · have h := if_t h hc24
      refine lv_iload_n hx hb dX0_fewestToTurn_62 rfl (lv_at hl 2 rfl) ?_
      obtain rfl := Option.some.inj h
      exact ret_i X dX0_fewestToTurn_63 hP hD hS rfl
    · have h := if_f h hc24
      refine lv_iload hx hb dX0_fewestToTurn_27 (lv_at hl 4 rfl) ?_
      obtain ⟨v1, hv1, h⟩ := bind_of h
      refine after_i X (run_S X (c_J6_bitCount_0f7a4 l E l4 H.size v1 hv1) (va_cwS 1 hts gX0_fewestToTurn_J6_bitCount_0f7a4 rfl rfl rfl hd_J6_bitCount_0f7a4 ⟨(Nat.le_of_ble_eq_true rfl), (Nat.le_of_ble_eq_true rfl)⟩) hP hD hS [] rfl rfl hl.1 (rest := []) rfl rfl (Nat.le_of_ble_eq_true rfl) dX0_fewestToTurn_29) hP hD hS [] rfl (ws1 := (W_X0_fewestToTurn E a_t a_pledges a_weights a_ponds a_kinds a_cells a_faces c_t c_pledges c_weights)) rfl (fun H locs hP hD hS => ?_)
      refine lv_istore (lv' := [(5, .int v1), (0, .ref a_t), (1, .int l1), (2, .int l2), (3, .int l3), (4, .int l4)]) hx hb dX0_fewestToTurn_32 hl (by decide) rfl (fun ls hl => ?_)
      refine lv_iload hx hb dX0_fewestToTurn_34 (lv_at hl 0 rfl) ?_
      refine lv_iload_n hx hb dX0_fewestToTurn_36 rfl (lv_at hl 4 rfl) ?_
      refine lv_icmp_ge (tgt := 56) hx hb dX0_fewestToTurn_37 (by decide) (fun hc37 => ?_) (fun hc37 => ?_)
      · have h := if_t h hc37
        exact w_X0_fewestToTurn_b56 X a_t a_pledges a_weights a_ponds a_kinds a_cells a_faces c_t c_pledges c_weights res (f_X0_fewestToTurn_b16 c_t c_pledges c_weights n) ih l1 l2 l3 l4 _ _ _ h hP hD hS (lv_sub hl [1, 2, 3, 4, 5] rfl)
      · have h := if_f h hc37
        refine lv_aload_n hx hb dX0_fewestToTurn_40 rfl (lv_at hl 1 rfl) ?_
        refine lv_iload hx hb dX0_fewestToTurn_41 (lv_at hl 5 rfl) ?_
        obtain ⟨v2, hv2, h⟩ := bind_of h
        refine after_i X (run_V X (c_X0_carriedIf l E a_t a_pledges a_weights a_ponds a_kinds a_cells a_faces l4 c_t c_pledges c_weights H.size v2 hv2) (cwV 1 hts gX0_fewestToTurn_X0_carriedIf rfl rfl rfl hV_X0_carriedIf ⟨(Nat.le_of_ble_eq_true rfl), (Nat.le_of_ble_eq_true rfl)⟩) hP hD hS [0, 1, 2] rfl rfl hl.1 (ci := 0) rfl rfl rfl (rest := []) rfl rfl (Nat.le_of_ble_eq_true rfl) dX0_fewestToTurn_43) hP hD hS [0, 1, 2] rfl (ws1 := (W_X0_fewestToTurn E a_t a_pledges a_weights a_ponds a_kinds a_cells a_faces c_t c_pledges c_weights)) rfl (fun H locs hP hD hS => ?_)
        refine lv_iload_n hx hb dX0_fewestToTurn_46 rfl (lv_at hl 2 rfl) ?_
        refine lv_icmp_ne (tgt := 56) hx hb dX0_fewestToTurn_47 (by decide) (fun hc47 => ?_) (fun hc47 => ?_)
        · have h := if_f h hc47
          exact w_X0_fewestToTurn_b56 X a_t a_pledges a_weights a_ponds a_kinds a_cells a_faces c_t c_pledges c_weights res (f_X0_fewestToTurn_b16 c_t c_pledges c_weights n) ih l1 l2 l3 l4 _ _ _ h hP hD hS (lv_sub hl [1, 2, 3, 4, 5] rfl)
        · have h := if_t h hc47
          refine lv_iload hx hb dX0_fewestToTurn_50 (lv_at hl 5 rfl) ?_
          refine lv_istore_n (lv' := [(2, .int l4), (5, .int v1), (0, .ref a_t), (1, .int l1), (3, .int l3), (4, .int l4)]) hx hb dX0_fewestToTurn_52 rfl hl (by decide) rfl (fun ls hl => ?_)
          refine lv_iload hx hb dX0_fewestToTurn_53 (lv_at hl 1 rfl) ?_
          refine lv_istore_n (lv' := [(3, .int v1), (2, .int l4), (5, .int v1), (0, .ref a_t), (1, .int l1), (4, .int l4)]) hx hb dX0_fewestToTurn_55 rfl hl (by decide) rfl (fun ls hl => ?_)
          exact w_X0_fewestToTurn_b56 X a_t a_pledges a_weights a_ponds a_kinds a_cells a_faces c_t c_pledges c_weights res (f_X0_fewestToTurn_b16 c_t c_pledges c_weights n) ih l1 l4 v1 l4 _ _ _ h hP hD hS (lv_sub hl [3, 4, 1, 0, 5] rfl)
set_option maxRecDepth 100000 in
set_option maxHeartbeats 4000000 in
theorem w_X0_fewestToTurn (X : Ctx p m meth c cX0_fewestToTurn 6 ((some .int)) s args wsX0_fewestToTurn RX0 E A) (a_t : Nat) (a_pledges : Nat) (a_weights : Nat) (a_ponds : Nat) (a_kinds : Nat) (a_cells : Nat) (a_faces : Nat) (c_t : Nat → Int32) (c_pledges : Nat → Int32) (c_weights : Nat → Int32) (res : Int32) (ls : Array Slot) (H : Heap) (locs : List Loc) (h : f_X0_fewestToTurn c_t c_pledges c_weights = some res) (hP : va_P E.1 vwCl (W_X0_fewestToTurn E a_t a_pledges a_weights a_ponds a_kinds a_cells a_faces c_t c_pledges c_weights) H) (hD : va_D A (W_X0_fewestToTurn E a_t a_pledges a_weights a_ponds a_kinds a_cells a_faces c_t c_pledges c_weights)) (hS : va_S A s.heap H locs) (hl : lv_has ls 6 [(0, .ref a_t)]) : W p l e r_X0_fewestToTurn s m args below meth c H locs 0 0 (MQ below (qI E A res (W_X0_fewestToTurn E a_t a_pledges a_weights a_ponds a_kinds a_cells a_faces c_t c_pledges c_weights)) args s 0 0 A) (F0 m 0 ls []) := by
  obtain ⟨hx, hb, hml, hr, hlk, hown, hts, hG, hA⟩ := id X
  have hK := hG.1
  have hN := hG.2.1
  unfold f_X0_fewestToTurn at h
  refine lv_iconst (v := (1 : Int32)) hx hb dX0_fewestToTurn_0 (by decide) ?_
  refine lv_aload_n hx hb dX0_fewestToTurn_1 rfl (lv_at hl 0 rfl) ?_
  refine lv_iconst (v := (0 : Int32)) hx hb dX0_fewestToTurn_2 (by decide) ?_
  obtain ⟨v1, hv1, h⟩ := bind_of h
  refine after_i X (run_V X (c_X0_carriedIf l E a_t a_pledges a_weights a_ponds a_kinds a_cells a_faces (0 : Int32) c_t c_pledges c_weights H.size v1 hv1) (cwV 1 hts gX0_fewestToTurn_X0_carriedIf rfl rfl rfl hV_X0_carriedIf ⟨(Nat.le_of_ble_eq_true rfl), (Nat.le_of_ble_eq_true rfl)⟩) hP hD hS [0, 1, 2] rfl rfl hl.1 (ci := 0) rfl rfl rfl (rest := [.int (1 : Int32)]) rfl rfl (Nat.le_of_ble_eq_true rfl) dX0_fewestToTurn_3) hP hD hS [0, 1, 2] rfl (ws1 := (W_X0_fewestToTurn E a_t a_pledges a_weights a_ponds a_kinds a_cells a_faces c_t c_pledges c_weights)) rfl (fun H locs hP hD hS => ?_)
  refine lv_isub hx hb dX0_fewestToTurn_6 ?_
  refine lv_istore_n (lv' := [(1, .int ((1 : Int32) - v1)), (0, .ref a_t)]) hx hb dX0_fewestToTurn_7 rfl hl (by decide) rfl (fun ls hl => ?_)
  refine lv_iconst (v := (-1 : Int32)) hx hb dX0_fewestToTurn_8 (by decide) ?_
  refine lv_istore_n (lv' := [(2, .int (-1 : Int32)), (1, .int ((1 : Int32) - v1)), (0, .ref a_t)]) hx hb dX0_fewestToTurn_9 rfl hl (by decide) rfl (fun ls hl => ?_)
  refine lv_bipush (v := (9 : Int32)) hx hb dX0_fewestToTurn_10 (by decide) ?_
  refine lv_istore_n (lv' := [(3, .int (9 : Int32)), (2, .int (-1 : Int32)), (1, .int ((1 : Int32) - v1)), (0, .ref a_t)]) hx hb dX0_fewestToTurn_12 rfl hl (by decide) rfl (fun ls hl => ?_)
  refine lv_iconst (v := (0 : Int32)) hx hb dX0_fewestToTurn_13 (by decide) ?_
  refine lv_istore (lv' := [(4, .int (0 : Int32)), (3, .int (9 : Int32)), (2, .int (-1 : Int32)), (1, .int ((1 : Int32) - v1)), (0, .ref a_t)]) hx hb dX0_fewestToTurn_14 hl (by decide) rfl (fun ls hl => ?_)
  exact w_X0_fewestToTurn_b16 X a_t a_pledges a_weights a_ponds a_kinds a_cells a_faces c_t c_pledges c_weights res FU ((1 : Int32) - v1) (-1 : Int32) (9 : Int32) (0 : Int32) _ _ _ h hP hD hS (lv_sub hl [4, 3, 2, 1, 0] rfl)
end
set_option maxRecDepth 100000 in
theorem c_X0_fewestToTurn (l : Launch) (E : Env0) (a_t : Nat) (a_pledges : Nat) (a_weights : Nat) (a_ponds : Nat) (a_kinds : Nat) (a_cells : Nat) (a_faces : Nat) (c_t : Nat → Int32) (c_pledges : Nat → Int32) (c_weights : Nat → Int32) (sz : Nat) (res : Int32) (h : f_X0_fewestToTurn c_t c_pledges c_weights = some res) : Met l yX0_fewestToTurn wsX0_fewestToTurn r_X0_fewestToTurn (cPre E [.ref a_t] (W_X0_fewestToTurn E a_t a_pledges a_weights a_ponds a_kinds a_cells a_faces c_t c_pledges c_weights) sz) (qI E (va_A (W_X0_fewestToTurn E a_t a_pledges a_weights a_ponds a_kinds a_cells a_faces c_t c_pledges c_weights) sz) res (W_X0_fewestToTurn E a_t a_pledges a_weights a_ponds a_kinds a_cells a_faces c_t c_pledges c_weights)) 0 0 (va_A (W_X0_fewestToTurn E a_t a_pledges a_weights a_ponds a_kinds a_cells a_faces c_t c_pledges c_weights) sz) :=
  met_of (Qc := fun A => qI E A res (W_X0_fewestToTurn E a_t a_pledges a_weights a_ponds a_kinds a_cells a_faces c_t c_pledges c_weights)) (by decide) rfl (Nat.le_of_ble_eq_true rfl) (fun p e s m args below meth c X hP hD hS ls hl => w_X0_fewestToTurn X a_t a_pledges a_weights a_ponds a_kinds a_cells a_faces c_t c_pledges c_weights res ls _ _ h hP hD hS hl)
-- ===== X0_draw
noncomputable abbrev W_X0_draw (E : Env0) (a_t : Nat) (a_ponds : Nat) (a_kinds : Nat) (a_weights : Nat) (a_cells : Nat) (a_faces : Nat) (a_pledges : Nat) (c_t : Nat → Int32) : va_W := [(a_t, .inr (0, [.int (c_t 0), .int (c_t 1), .int (c_t 2), .int (c_t 3), .int (c_t 4), .int (c_t 5), .int (c_t 6), .int (c_t 7), .ref a_ponds, .ref a_kinds, .ref a_weights, .ref a_cells, .ref a_faces, .ref a_pledges]))]
noncomputable abbrev r_X0_draw : Room := { frames := 0, cells := 0, slots := 0, locals := 0 }
theorem hd_X0_draw : yX0_draw.cls ≠ "java/lang/invoke/MethodHandle" ∧ yX0_draw.cls ≠ "java/lang/invoke/VarHandle" ∧ (parseMethodDescriptor yX0_draw.desc).map (fun d => d.parameters.length) = some 0 := by decide +kernel
theorem hV_X0_draw : yX0_draw.cls = RX0 ∧ yX0_draw.cls ≠ "java/lang/invoke/MethodHandle" ∧ yX0_draw.cls ≠ "java/lang/invoke/VarHandle" ∧ (parseMethodDescriptor yX0_draw.desc).map (fun d => d.parameters.length) = some 0 := ⟨rfl, hd_X0_draw⟩
theorem iX0_draw_X0 : ∀ w ∈ wsX00, w ∈ wsX0_draw := fun _ h => List.mem_cons_of_mem _ (List.mem_append_right _ (h))
section
variable {p : Program} {l : Launch} {e : Env} {s : State} {m : MethodId} {args : Array Value} {below : List Frame} {meth : Method} {c : Code} {E : Env0} {A : Nat → Prop}
set_option maxRecDepth 100000 in
set_option maxHeartbeats 4000000 in
theorem w_X0_draw (X : Ctx p m meth c cX0_draw 1 ((some .int)) s args wsX0_draw RX0 E A) (a_t : Nat) (a_ponds : Nat) (a_kinds : Nat) (a_weights : Nat) (a_cells : Nat) (a_faces : Nat) (a_pledges : Nat) (res : Int32 × (Nat → Int32)) (c_t : Nat → Int32) (ls : Array Slot) (H : Heap) (locs : List Loc) (h : f_X0_draw c_t = some res) (hP : va_P E.1 vwCl (W_X0_draw E a_t a_ponds a_kinds a_weights a_cells a_faces a_pledges c_t) H) (hD : va_D A (W_X0_draw E a_t a_ponds a_kinds a_weights a_cells a_faces a_pledges c_t)) (hS : va_S A s.heap H locs) (hl : lv_has ls 1 [(0, .ref a_t)]) : W p l e r_X0_draw s m args below meth c H locs 0 0 (MQ below (qI E A (res.1) (W_X0_draw E a_t a_ponds a_kinds a_weights a_cells a_faces a_pledges (res.2))) args s 0 0 A) (F0 m 0 ls []) := by
  obtain ⟨hx, hb, hml, hr, hlk, hown, hts, hG, hA⟩ := id X
  have hK := hG.1
  have hN := hG.2.1
  unfold f_X0_draw at h
  refine lv_aload_n hx hb dX0_draw_0 rfl (lv_at hl 0 rfl) ?_
  refine lv_aload_n hx hb dX0_draw_1 rfl (lv_at hl 0 rfl) ?_
  refine va_get (D := E.1) (ci := 0) (v := .int (c_t 6)) (C := RX0) (T := TX0) (N := 14) hx hb hts iX0_draw_X0 hown hK hP 0 rfl rfl 6 (by decide) (hts (.fieldLink RX0 30 "LeftIsAgreedOn$Island" "seed" "I") (List.mem_of_getElem? (i := 1) rfl)) (fun _ h9 => h9) rfl dX0_draw_2 ?_
  refine lv_ldc (v := (1103515245 : Int32)) hx hb hown (hts (.constant RX0 106 (1103515245)) (List.mem_of_getElem? (i := 2) rfl)) dX0_draw_5 ?_
  refine lv_imul hx hb dX0_draw_7 ?_
  refine lv_sipush (v := (12345 : Int32)) hx hb dX0_draw_8 (by decide) ?_
  refine lv_iadd hx hb dX0_draw_11 ?_
  refine va_put (D := E.1) (ci := 0) (v := .int (((c_t 6) * (1103515245 : Int32)) + (12345 : Int32))) (ty := .int) (C := RX0) (T := TX0) (N := 14) hx hb hts iX0_draw_X0 tyX0 tyX0_ok nmX0 hown hK hP hD hS 0 rfl rfl 6 (by decide) (hts (.fieldLink RX0 30 "LeftIsAgreedOn$Island" "seed" "I") (List.mem_of_getElem? (i := 1) rfl)) (fun _ h9 => h9) rfl (tyX0_ok 6 (by decide)) rfl rfl (Nat.le_of_ble_eq_true rfl) dX0_draw_12 (fun H locs hP hD hS => ?_)
  have hP : va_P E.1 vwCl (W_X0_draw E a_t a_ponds a_kinds a_weights a_cells a_faces a_pledges (upd c_t 6 (((c_t 6) * (1103515245 : Int32)) + (12345 : Int32)))) H := hP
  have hD : va_D A (W_X0_draw E a_t a_ponds a_kinds a_weights a_cells a_faces a_pledges (upd c_t 6 (((c_t 6) * (1103515245 : Int32)) + (12345 : Int32)))) := hD
  refine lv_aload_n hx hb dX0_draw_15 rfl (lv_at hl 0 rfl) ?_
  refine va_get (D := E.1) (ci := 0) (v := .int ((upd c_t 6 (((c_t 6) * (1103515245 : Int32)) + (12345 : Int32))) 6)) (C := RX0) (T := TX0) (N := 14) hx hb hts iX0_draw_X0 hown hK hP 0 rfl rfl 6 (by decide) (hts (.fieldLink RX0 30 "LeftIsAgreedOn$Island" "seed" "I") (List.mem_of_getElem? (i := 1) rfl)) (fun _ h9 => h9) rfl dX0_draw_16 ?_
  refine lv_bipush (v := (16 : Int32)) hx hb dX0_draw_19 (by decide) ?_
  refine lv_iushr (v := (((((upd c_t 6 (((c_t 6) * (1103515245 : Int32)) + (12345 : Int32))) 6)).toUInt32 >>> (((16 : Int32)).toUInt32 &&& Int32.toUInt32 31)).toInt32)) hx hb dX0_draw_21 rfl ?_
  refine lv_bipush (v := (12 : Int32)) hx hb dX0_draw_22 (by decide) ?_
  refine lv_irem hx hb dX0_draw_24 (by decide) ?_
  obtain rfl := Option.some.inj h
  exact ret_i X dX0_draw_25 hP hD hS rfl
end
set_option maxRecDepth 100000 in
theorem c_X0_draw (l : Launch) (E : Env0) (a_t : Nat) (a_ponds : Nat) (a_kinds : Nat) (a_weights : Nat) (a_cells : Nat) (a_faces : Nat) (a_pledges : Nat) (c_t : Nat → Int32) (sz : Nat) (res : Int32 × (Nat → Int32)) (h : f_X0_draw c_t = some res) : Met l yX0_draw wsX0_draw r_X0_draw (cPre E [.ref a_t] (W_X0_draw E a_t a_ponds a_kinds a_weights a_cells a_faces a_pledges c_t) sz) (qI E (va_A (W_X0_draw E a_t a_ponds a_kinds a_weights a_cells a_faces a_pledges c_t) sz) (res.1) (W_X0_draw E a_t a_ponds a_kinds a_weights a_cells a_faces a_pledges (res.2))) 0 0 (va_A (W_X0_draw E a_t a_ponds a_kinds a_weights a_cells a_faces a_pledges c_t) sz) :=
  met_of (Qc := fun A => qI E A (res.1) (W_X0_draw E a_t a_ponds a_kinds a_weights a_cells a_faces a_pledges (res.2))) (by decide) rfl (Nat.le_of_ble_eq_true rfl) (fun p e s m args below meth c X hP hD hS ls hl => w_X0_draw X a_t a_ponds a_kinds a_weights a_cells a_faces a_pledges res c_t ls _ _ h hP hD hS hl)
-- ===== X0_passYear
noncomputable abbrev W_X0_passYear (E : Env0) (a_t : Nat) (a_pledges : Nat) (a_weights : Nat) (a_ponds : Nat) (a_kinds : Nat) (a_cells : Nat) (a_faces : Nat) (c_t : Nat → Int32) (c_pledges : Nat → Int32) (c_weights : Nat → Int32) : va_W := [(a_t, .inr (0, [.int (c_t 0), .int (c_t 1), .int (c_t 2), .int (c_t 3), .int (c_t 4), .int (c_t 5), .int (c_t 6), .int (c_t 7), .ref a_ponds, .ref a_kinds, .ref a_weights, .ref a_cells, .ref a_faces, .ref a_pledges])), (a_pledges, .inl (eI E, 8, .inl c_pledges)), (a_weights, .inl (eI E, 8, .inl c_weights))]
noncomputable abbrev r_X0_passYear : Room := { frames := 1, cells := 0, slots := 0, locals := 24 }
theorem hd_X0_passYear : yX0_passYear.cls ≠ "java/lang/invoke/MethodHandle" ∧ yX0_passYear.cls ≠ "java/lang/invoke/VarHandle" ∧ (parseMethodDescriptor yX0_passYear.desc).map (fun d => d.parameters.length) = some 0 := by decide +kernel
theorem hV_X0_passYear : yX0_passYear.cls = RX0 ∧ yX0_passYear.cls ≠ "java/lang/invoke/MethodHandle" ∧ yX0_passYear.cls ≠ "java/lang/invoke/VarHandle" ∧ (parseMethodDescriptor yX0_passYear.desc).map (fun d => d.parameters.length) = some 0 := ⟨rfl, hd_X0_passYear⟩
theorem iX0_passYear_X0 : ∀ w ∈ wsX00, w ∈ wsX0_passYear := fun _ h => List.mem_cons_of_mem _ (List.mem_append_right _ (h))
section
variable {p : Program} {l : Launch} {e : Env} {s : State} {m : MethodId} {args : Array Value} {below : List Frame} {meth : Method} {c : Code} {E : Env0} {A : Nat → Prop}
set_option maxRecDepth 100000 in
set_option maxHeartbeats 4000000 in
theorem w_X0_passYear_b54 (X : Ctx p m meth c cX0_passYear 3 none s args wsX0_passYear RX0 E A) (a_t : Nat) (a_pledges : Nat) (a_weights : Nat) (a_ponds : Nat) (a_kinds : Nat) (a_cells : Nat) (a_faces : Nat) (c_weights : Nat → Int32) (res : (Nat → Int32) × (Nat → Int32)) (k21 : (Nat → Int32) → (Nat → Int32) → Int32 → Option ((Nat → Int32) × (Nat → Int32))) (hk21 : ∀ (c_t : Nat → Int32) (c_pledges : Nat → Int32) (l2 : Int32) (ls : Array Slot) (H : Heap) (locs : List Loc), k21 c_t c_pledges l2 = some res → va_P E.1 vwCl (W_X0_passYear E a_t a_pledges a_weights a_ponds a_kinds a_cells a_faces c_t c_pledges c_weights) H → va_D A (W_X0_passYear E a_t a_pledges a_weights a_ponds a_kinds a_cells a_faces c_t c_pledges c_weights) → va_S A s.heap H locs → lv_has ls 3 [(0, .ref a_t), (2, .int l2)] → W p l e r_X0_passYear s m args below meth c H locs 0 0 (MQ below (qV E A (W_X0_passYear E a_t a_pledges a_weights a_ponds a_kinds a_cells a_faces (res.1) (res.2) c_weights)) args s 0 0 A) (F0 m 21 ls [])) (c_t : Nat → Int32) (c_pledges : Nat → Int32) (l2 : Int32) (ls : Array Slot) (H : Heap) (locs : List Loc) (h : f_X0_passYear_b54 c_weights k21 c_t c_pledges l2 = some res) (hP : va_P E.1 vwCl (W_X0_passYear E a_t a_pledges a_weights a_ponds a_kinds a_cells a_faces c_t c_pledges c_weights) H) (hD : va_D A (W_X0_passYear E a_t a_pledges a_weights a_ponds a_kinds a_cells a_faces c_t c_pledges c_weights)) (hS : va_S A s.heap H locs) (hl : lv_has ls 3 [(0, .ref a_t), (2, .int l2)]) : W p l e r_X0_passYear s m args below meth c H locs 0 0 (MQ below (qV E A (W_X0_passYear E a_t a_pledges a_weights a_ponds a_kinds a_cells a_faces (res.1) (res.2) c_weights)) args s 0 0 A) (F0 m 54 ls []) := by
  obtain ⟨hx, hb, hml, hr, hlk, hown, hts, hG, hA⟩ := id X
  have hK := hG.1
  have hN := hG.2.1
  unfold f_X0_passYear_b54 at h
  refine lv_iinc (v := (l2 + (1 : Int32))) (lv' := [(2, .int (l2 + (1 : Int32))), (0, .ref a_t)]) hx hb dX0_passYear_54 hl (k := 1) rfl rfl (by decide) rfl (fun ls hl => ?_)
  refine lv_goto (tgt := 21) hx hb dX0_passYear_57 (by decide) ?_
  exact hk21 c_t c_pledges (l2 + (1 : Int32)) _ _ _ h hP hD hS (lv_sub hl [1, 0] rfl)
set_option maxRecDepth 100000 in
set_option maxHeartbeats 4000000 in
theorem w_X0_passYear_b21 (X : Ctx p m meth c cX0_passYear 3 none s args wsX0_passYear RX0 E A) (a_t : Nat) (a_pledges : Nat) (a_weights : Nat) (a_ponds : Nat) (a_kinds : Nat) (a_cells : Nat) (a_faces : Nat) (c_weights : Nat → Int32) (res : (Nat → Int32) × (Nat → Int32)) : ∀ (n : Nat) (c_t : Nat → Int32) (c_pledges : Nat → Int32) (l2 : Int32) (ls : Array Slot) (H : Heap) (locs : List Loc), f_X0_passYear_b21 c_weights n c_t c_pledges l2 = some res → va_P E.1 vwCl (W_X0_passYear E a_t a_pledges a_weights a_ponds a_kinds a_cells a_faces c_t c_pledges c_weights) H → va_D A (W_X0_passYear E a_t a_pledges a_weights a_ponds a_kinds a_cells a_faces c_t c_pledges c_weights) → va_S A s.heap H locs → lv_has ls 3 [(0, .ref a_t), (2, .int l2)] → W p l e r_X0_passYear s m args below meth c H locs 0 0 (MQ below (qV E A (W_X0_passYear E a_t a_pledges a_weights a_ponds a_kinds a_cells a_faces (res.1) (res.2) c_weights)) args s 0 0 A) (F0 m 21 ls []) := by
  obtain ⟨hx, hb, hml, hr, hlk, hown, hts, hG, hA⟩ := id X
  have hK := hG.1
  have hN := hG.2.1
  intro n
  induction n with
  | zero =>
    intro c_t c_pledges l2 ls H locs h
    exact absurd (show (none : Option ((Nat → Int32) × (Nat → Int32))) = some res from h) (by intro q; cases q)
  | succ n ih =>
    intro c_t c_pledges l2 ls H locs h hP hD hS hl
    rw [f_X0_passYear_b21] at h
    refine lv_iload_n hx hb dX0_passYear_21 rfl (lv_at hl 1 rfl) ?_
    refine lv_aload_n hx hb dX0_passYear_22 rfl (lv_at hl 0 rfl) ?_
    refine va_get (D := E.1) (ci := 0) (v := .int (c_t 7)) (C := RX0) (T := TX0) (N := 14) hx hb hts iX0_passYear_X0 hown hK hP 0 rfl rfl 7 (by decide) (hts (.fieldLink RX0 33 "LeftIsAgreedOn$Island" "count" "I") (List.mem_of_getElem? (i := 3) rfl)) (fun _ h9 => h9) rfl dX0_passYear_23 ?_
    refine lv_icmp_ge (tgt := 60) hx hb dX0_passYear_26 (by decide) (fun hc26 => ?_) (fun hc26 => ?_)
    · have h := if_t h hc26
      refine lv_aload_n hx hb dX0_passYear_60 rfl (lv_at hl 0 rfl) ?_
      refine lv_dup hx hb dX0_passYear_61 rfl ?_
      refine va_get (D := E.1) (ci := 0) (v := .int (c_t 4)) (C := RX0) (T := TX0) (N := 14) hx hb hts iX0_passYear_X0 hown hK hP 0 rfl rfl 4 (by decide) (hts (.fieldLink RX0 24 "LeftIsAgreedOn$Island" "years" "I") (List.mem_of_getElem? (i := 6) rfl)) (fun _ h9 => h9) rfl dX0_passYear_62 ?_
      refine lv_iconst (v := (1 : Int32)) hx hb dX0_passYear_65 (by decide) ?_
      refine lv_iadd hx hb dX0_passYear_66 ?_
      refine va_put (D := E.1) (ci := 0) (v := .int ((c_t 4) + (1 : Int32))) (ty := .int) (C := RX0) (T := TX0) (N := 14) hx hb hts iX0_passYear_X0 tyX0 tyX0_ok nmX0 hown hK hP hD hS 0 rfl rfl 4 (by decide) (hts (.fieldLink RX0 24 "LeftIsAgreedOn$Island" "years" "I") (List.mem_of_getElem? (i := 6) rfl)) (fun _ h9 => h9) rfl (tyX0_ok 4 (by decide)) rfl rfl (Nat.le_of_ble_eq_true rfl) dX0_passYear_67 (fun H locs hP hD hS => ?_)
      have hP : va_P E.1 vwCl (W_X0_passYear E a_t a_pledges a_weights a_ponds a_kinds a_cells a_faces (upd c_t 4 ((c_t 4) + (1 : Int32))) c_pledges c_weights) H := hP
      have hD : va_D A (W_X0_passYear E a_t a_pledges a_weights a_ponds a_kinds a_cells a_faces (upd c_t 4 ((c_t 4) + (1 : Int32))) c_pledges c_weights) := hD
      obtain rfl := Option.some.inj h
      exact ret_v X dX0_passYear_70 hP hD hS
    · have h := if_f h hc26
      refine lv_aload_n hx hb dX0_passYear_29 rfl (lv_at hl 0 rfl) ?_
      obtain ⟨v1, hv1, h⟩ := bind_of h
      refine after_i X (run_V X (c_X0_draw l E a_t a_ponds a_kinds a_weights a_cells a_faces a_pledges c_t H.size v1 hv1) (cwV 0 hts gX0_passYear_X0_draw rfl rfl rfl hV_X0_draw ⟨(Nat.le_of_ble_eq_true rfl), (Nat.le_of_ble_eq_true rfl)⟩) hP hD hS [0] rfl rfl hl.1 (ci := 0) rfl rfl rfl (rest := []) rfl rfl (Nat.le_of_ble_eq_true rfl) dX0_passYear_30) hP hD hS [0] rfl (ws1 := (W_X0_passYear E a_t a_pledges a_weights a_ponds a_kinds a_cells a_faces (v1.2) c_pledges c_weights)) rfl (fun H locs hP hD hS => ?_)
      refine lv_aload_n hx hb dX0_passYear_33 rfl (lv_at hl 0 rfl) ?_
      refine va_get (D := E.1) (ci := 0) (v := .int ((v1.2) 3)) (C := RX0) (T := TX0) (N := 14) hx hb hts iX0_passYear_X0 hown hK hP 0 rfl rfl 3 (by decide) (hts (.fieldLink RX0 21 "LeftIsAgreedOn$Island" "doubt" "I") (List.mem_of_getElem? (i := 4) rfl)) (fun _ h9 => h9) rfl dX0_passYear_34 ?_
      refine lv_icmp_ge (tgt := 54) hx hb dX0_passYear_37 (by decide) (fun hc37 => ?_) (fun hc37 => ?_)
      · have h := if_t h hc37
        exact w_X0_passYear_b54 X a_t a_pledges a_weights a_ponds a_kinds a_cells a_faces c_weights res (f_X0_passYear_b21 c_weights n) ih (v1.2) c_pledges l2 _ _ _ h hP hD hS (lv_sub hl [0, 1] rfl)
      · have h := if_f h hc37
        refine lv_aload_n hx hb dX0_passYear_40 rfl (lv_at hl 0 rfl) ?_
        refine va_get (D := E.1) (ci := 0) (v := .ref a_pledges) (C := RX0) (T := TX0) (N := 14) hx hb hts iX0_passYear_X0 hown hK hP 0 rfl rfl 13 (by decide) (hts (.fieldLink RX0 53 "LeftIsAgreedOn$Island" "pledges" "[I") (List.mem_of_getElem? (i := 5) rfl)) (fun _ h9 => h9) rfl dX0_passYear_41 ?_
        refine lv_iload_n hx hb dX0_passYear_44 rfl (lv_at hl 1 rfl) ?_
        refine lv_iconst (v := (1 : Int32)) hx hb dX0_passYear_45 (by decide) ?_
        refine lv_aload_n hx hb dX0_passYear_46 rfl (lv_at hl 0 rfl) ?_
        refine va_get (D := E.1) (ci := 0) (v := .ref a_pledges) (C := RX0) (T := TX0) (N := 14) hx hb hts iX0_passYear_X0 hown hK hP 0 rfl rfl 13 (by decide) (hts (.fieldLink RX0 53 "LeftIsAgreedOn$Island" "pledges" "[I") (List.mem_of_getElem? (i := 5) rfl)) (fun _ h9 => h9) rfl dX0_passYear_47 ?_
        refine lv_iload_n hx hb dX0_passYear_50 rfl (lv_at hl 1 rfl) ?_
        obtain ⟨hz51, h⟩ := chk_of h
        refine ld_i X hP 1 rfl (inb.vp hz51) (v := (c_pledges (l2).toNatClampNeg)) rfl dX0_passYear_51 ?_
        refine lv_isub hx hb dX0_passYear_52 ?_
        obtain ⟨hz53, h⟩ := chk_of h
        refine st_i X hP hD hS 1 rfl (inb.vp hz53) (k := (l2).toNatClampNeg) rfl (ws1 := (W_X0_passYear E a_t a_pledges a_weights a_ponds a_kinds a_cells a_faces (v1.2) (upd c_pledges ((l2).toNatClampNeg) ((1 : Int32) - (c_pledges (l2).toNatClampNeg))) c_weights)) rfl dX0_passYear_53 (fun H locs hP hD hS => ?_)
        exact w_X0_passYear_b54 X a_t a_pledges a_weights a_ponds a_kinds a_cells a_faces c_weights res (f_X0_passYear_b21 c_weights n) ih (v1.2) (upd c_pledges ((l2).toNatClampNeg) ((1 : Int32) - (c_pledges (l2).toNatClampNeg))) l2 _ _ _ h hP hD hS (lv_sub hl [0, 1] rfl)
set_option maxRecDepth 100000 in
set_option maxHeartbeats 4000000 in
theorem w_X0_passYear (X : Ctx p m meth c cX0_passYear 3 none s args wsX0_passYear RX0 E A) (a_t : Nat) (a_pledges : Nat) (a_weights : Nat) (a_ponds : Nat) (a_kinds : Nat) (a_cells : Nat) (a_faces : Nat) (c_weights : Nat → Int32) (res : (Nat → Int32) × (Nat → Int32)) (c_t : Nat → Int32) (c_pledges : Nat → Int32) (ls : Array Slot) (H : Heap) (locs : List Loc) (h : f_X0_passYear c_t c_pledges c_weights = some res) (hP : va_P E.1 vwCl (W_X0_passYear E a_t a_pledges a_weights a_ponds a_kinds a_cells a_faces c_t c_pledges c_weights) H) (hD : va_D A (W_X0_passYear E a_t a_pledges a_weights a_ponds a_kinds a_cells a_faces c_t c_pledges c_weights)) (hS : va_S A s.heap H locs) (hl : lv_has ls 3 [(0, .ref a_t)]) : W p l e r_X0_passYear s m args below meth c H locs 0 0 (MQ below (qV E A (W_X0_passYear E a_t a_pledges a_weights a_ponds a_kinds a_cells a_faces (res.1) (res.2) c_weights)) args s 0 0 A) (F0 m 0 ls []) := by
  obtain ⟨hx, hb, hml, hr, hlk, hown, hts, hG, hA⟩ := id X
  have hK := hG.1
  have hN := hG.2.1
  unfold f_X0_passYear at h
  refine lv_aload_n hx hb dX0_passYear_0 rfl (lv_at hl 0 rfl) ?_
  refine lv_iconst (v := (0 : Int32)) hx hb dX0_passYear_1 (by decide) ?_
  obtain ⟨v1, hv1, h⟩ := bind_of h
  refine after_i X (run_V X (c_X0_carriedIf l E a_t a_pledges a_weights a_ponds a_kinds a_cells a_faces (0 : Int32) c_t c_pledges c_weights H.size v1 hv1) (cwV 1 hts gX0_passYear_X0_carriedIf rfl rfl rfl hV_X0_carriedIf ⟨(Nat.le_of_ble_eq_true rfl), (Nat.le_of_ble_eq_true rfl)⟩) hP hD hS [0, 1, 2] rfl rfl hl.1 (ci := 0) rfl rfl rfl (rest := []) rfl rfl (Nat.le_of_ble_eq_true rfl) dX0_passYear_2) hP hD hS [0, 1, 2] rfl (ws1 := (W_X0_passYear E a_t a_pledges a_weights a_ponds a_kinds a_cells a_faces c_t c_pledges c_weights)) rfl (fun H locs hP hD hS => ?_)
  refine lv_istore_n (lv' := [(1, .int v1), (0, .ref a_t)]) hx hb dX0_passYear_5 rfl hl (by decide) rfl (fun ls hl => ?_)
  refine lv_aload_n hx hb dX0_passYear_6 rfl (lv_at hl 1 rfl) ?_
  refine lv_aload_n hx hb dX0_passYear_7 rfl (lv_at hl 1 rfl) ?_
  refine va_get (D := E.1) (ci := 0) (v := .int (c_t 1)) (C := RX0) (T := TX0) (N := 14) hx hb hts iX0_passYear_X0 hown hK hP 0 rfl rfl 1 (by decide) (hts (.fieldLink RX0 15 "LeftIsAgreedOn$Island" "left" "I") (List.mem_of_getElem? (i := 1) rfl)) (fun _ h9 => h9) rfl dX0_passYear_8 ?_
  refine va_put (D := E.1) (ci := 0) (v := .int (c_t 1)) (ty := .int) (C := RX0) (T := TX0) (N := 14) hx hb hts iX0_passYear_X0 tyX0 tyX0_ok nmX0 hown hK hP hD hS 0 rfl rfl 2 (by decide) (hts (.fieldLink RX0 18 "LeftIsAgreedOn$Island" "old" "I") (List.mem_of_getElem? (i := 2) rfl)) (fun _ h9 => h9) rfl (tyX0_ok 2 (by decide)) rfl rfl (Nat.le_of_ble_eq_true rfl) dX0_passYear_11 (fun H locs hP hD hS => ?_)
  have hP : va_P E.1 vwCl (W_X0_passYear E a_t a_pledges a_weights a_ponds a_kinds a_cells a_faces (upd c_t 2 (c_t 1)) c_pledges c_weights) H := hP
  have hD : va_D A (W_X0_passYear E a_t a_pledges a_weights a_ponds a_kinds a_cells a_faces (upd c_t 2 (c_t 1)) c_pledges c_weights) := hD
  refine lv_aload_n hx hb dX0_passYear_14 rfl (lv_at hl 1 rfl) ?_
  refine lv_iload_n hx hb dX0_passYear_15 rfl (lv_at hl 0 rfl) ?_
  refine va_put (D := E.1) (ci := 0) (v := .int v1) (ty := .int) (C := RX0) (T := TX0) (N := 14) hx hb hts iX0_passYear_X0 tyX0 tyX0_ok nmX0 hown hK hP hD hS 0 rfl rfl 1 (by decide) (hts (.fieldLink RX0 15 "LeftIsAgreedOn$Island" "left" "I") (List.mem_of_getElem? (i := 1) rfl)) (fun _ h9 => h9) rfl (tyX0_ok 1 (by decide)) rfl rfl (Nat.le_of_ble_eq_true rfl) dX0_passYear_16 (fun H locs hP hD hS => ?_)
  have hP : va_P E.1 vwCl (W_X0_passYear E a_t a_pledges a_weights a_ponds a_kinds a_cells a_faces (upd (upd c_t 2 (c_t 1)) 1 v1) c_pledges c_weights) H := hP
  have hD : va_D A (W_X0_passYear E a_t a_pledges a_weights a_ponds a_kinds a_cells a_faces (upd (upd c_t 2 (c_t 1)) 1 v1) c_pledges c_weights) := hD
  refine lv_iconst (v := (0 : Int32)) hx hb dX0_passYear_19 (by decide) ?_
  refine lv_istore_n (lv' := [(2, .int (0 : Int32)), (1, .int v1), (0, .ref a_t)]) hx hb dX0_passYear_20 rfl hl (by decide) rfl (fun ls hl => ?_)
  exact w_X0_passYear_b21 X a_t a_pledges a_weights a_ponds a_kinds a_cells a_faces c_weights res FU (upd (upd c_t 2 (c_t 1)) 1 v1) c_pledges (0 : Int32) _ _ _ h hP hD hS (lv_sub hl [2, 0] rfl)
end
set_option maxRecDepth 100000 in
theorem c_X0_passYear (l : Launch) (E : Env0) (a_t : Nat) (a_pledges : Nat) (a_weights : Nat) (a_ponds : Nat) (a_kinds : Nat) (a_cells : Nat) (a_faces : Nat) (c_t : Nat → Int32) (c_pledges : Nat → Int32) (c_weights : Nat → Int32) (sz : Nat) (res : (Nat → Int32) × (Nat → Int32)) (h : f_X0_passYear c_t c_pledges c_weights = some res) : Met l yX0_passYear wsX0_passYear r_X0_passYear (cPre E [.ref a_t] (W_X0_passYear E a_t a_pledges a_weights a_ponds a_kinds a_cells a_faces c_t c_pledges c_weights) sz) (qV E (va_A (W_X0_passYear E a_t a_pledges a_weights a_ponds a_kinds a_cells a_faces c_t c_pledges c_weights) sz) (W_X0_passYear E a_t a_pledges a_weights a_ponds a_kinds a_cells a_faces (res.1) (res.2) c_weights)) 0 0 (va_A (W_X0_passYear E a_t a_pledges a_weights a_ponds a_kinds a_cells a_faces c_t c_pledges c_weights) sz) :=
  met_of (Qc := fun A => qV E A (W_X0_passYear E a_t a_pledges a_weights a_ponds a_kinds a_cells a_faces (res.1) (res.2) c_weights)) (by decide) rfl (Nat.le_of_ble_eq_true rfl) (fun p e s m args below meth c X hP hD hS ls hl => w_X0_passYear X a_t a_pledges a_weights a_ponds a_kinds a_cells a_faces c_weights res c_t c_pledges ls _ _ h hP hD hS hl)
-- ===== X3_isShelf
noncomputable abbrev W_X3_isShelf (E : Env0) (a_t : Nat) (a_contents : Nat) (a_sizes : Nat) (a_elements : Nat) : va_W := [(a_t, .inr (3, [.ref a_contents, .ref a_sizes, .ref a_elements]))]
noncomputable abbrev r_X3_isShelf : Room := { frames := 1, cells := 0, slots := 0, locals := 22 }
theorem hd_X3_isShelf : yX3_isShelf.cls ≠ "java/lang/invoke/MethodHandle" ∧ yX3_isShelf.cls ≠ "java/lang/invoke/VarHandle" ∧ (parseMethodDescriptor yX3_isShelf.desc).map (fun d => d.parameters.length) = some 1 := by decide +kernel
theorem hV_X3_isShelf : yX3_isShelf.cls = RX3 ∧ yX3_isShelf.cls ≠ "java/lang/invoke/MethodHandle" ∧ yX3_isShelf.cls ≠ "java/lang/invoke/VarHandle" ∧ (parseMethodDescriptor yX3_isShelf.desc).map (fun d => d.parameters.length) = some 1 := ⟨rfl, hd_X3_isShelf⟩
section
variable {p : Program} {l : Launch} {e : Env} {s : State} {m : MethodId} {args : Array Value} {below : List Frame} {meth : Method} {c : Code} {E : Env0} {A : Nat → Prop}
set_option maxRecDepth 100000 in
set_option maxHeartbeats 4000000 in
theorem w_X3_isShelf (X : Ctx p m meth c cX3_isShelf 2 ((some .boolean)) s args wsX3_isShelf RX3 E A) (a_t : Nat) (a_contents : Nat) (a_sizes : Nat) (a_elements : Nat) (res : Int32) (l1 : Int32) (ls : Array Slot) (H : Heap) (locs : List Loc) (h : f_X3_isShelf l1 = some res) (hP : va_P E.1 vwCl (W_X3_isShelf E a_t a_contents a_sizes a_elements) H) (hD : va_D A (W_X3_isShelf E a_t a_contents a_sizes a_elements)) (hS : va_S A s.heap H locs) (hl : lv_has ls 2 [(0, .ref a_t), (1, .int l1)]) : W p l e r_X3_isShelf s m args below meth c H locs 0 0 (MQ below (qI E A res (W_X3_isShelf E a_t a_contents a_sizes a_elements)) args s 0 0 A) (F0 m 0 ls []) := by
  obtain ⟨hx, hb, hml, hr, hlk, hown, hts, hG, hA⟩ := id X
  have hK := hG.1
  have hN := hG.2.1
  unfold f_X3_isShelf at h
  refine lv_iload_n hx hb dX3_isShelf_0 rfl (lv_at hl 1 rfl) ?_
  refine lv_iconst (v := (0 : Int32)) hx hb dX3_isShelf_1 (by decide) ?_
  refine lv_bipush (v := (7 : Int32)) hx hb dX3_isShelf_2 (by decide) ?_
  obtain ⟨v1, hv1, h⟩ := bind_of h
  refine after_i X (run_SN X (c_X5_isWithin l E l1 (0 : Int32) (7 : Int32) H.size v1 hv1) ⟨va_cnB 3 hts gX3_isShelf_X5_isWithin_n22 rfl rfl rfl (nM_6 hN) (hts (.initialized RX5) (List.mem_of_getElem? (i := 2) rfl)) hd_X5_isWithin ⟨(Nat.le_of_ble_eq_true rfl), (Nat.le_of_ble_eq_true rfl)⟩, (hts (.static yX5_isWithin) (List.mem_of_getElem? (i := 1) rfl)), trivial⟩ hP hD hS [] rfl rfl hl.1 (rest := []) rfl rfl (Nat.le_of_ble_eq_true rfl) dX3_isShelf_4) hP hD hS [] rfl (ws1 := (W_X3_isShelf E a_t a_contents a_sizes a_elements)) rfl (fun H locs hP hD hS => ?_)
  obtain ⟨hz7, h⟩ := chk_of h
  obtain rfl := Option.some.inj h
  exact ret_z X dX3_isShelf_7 hz7 hP hD hS rfl
end
set_option maxRecDepth 100000 in
theorem c_X3_isShelf (l : Launch) (E : Env0) (a_t : Nat) (a_contents : Nat) (a_sizes : Nat) (a_elements : Nat) (l1 : Int32) (sz : Nat) (res : Int32) (h : f_X3_isShelf l1 = some res) : Met l yX3_isShelf wsX3_isShelf r_X3_isShelf (cPre E [.ref a_t, .int l1] (W_X3_isShelf E a_t a_contents a_sizes a_elements) sz) (qI E (va_A (W_X3_isShelf E a_t a_contents a_sizes a_elements) sz) res (W_X3_isShelf E a_t a_contents a_sizes a_elements)) 0 0 (va_A (W_X3_isShelf E a_t a_contents a_sizes a_elements) sz) :=
  met_of (Qc := fun A => qI E A res (W_X3_isShelf E a_t a_contents a_sizes a_elements)) (by decide) rfl (Nat.le_of_ble_eq_true rfl) (fun p e s m args below meth c X hP hD hS ls hl => w_X3_isShelf X a_t a_contents a_sizes a_elements res l1 ls _ _ h hP hD hS hl)
-- ===== X3_held
noncomputable abbrev W_X3_held (E : Env0) (a_t : Nat) (a_contents : Nat) (a_sizes : Nat) (a_elements : Nat) (c_contents : Nat → Int32) : va_W := [(a_t, .inr (3, [.ref a_contents, .ref a_sizes, .ref a_elements])), (a_contents, .inl (eI E, 8, .inl c_contents))]
noncomputable abbrev r_X3_held : Room := { frames := 0, cells := 0, slots := 0, locals := 0 }
theorem hd_X3_held : yX3_held.cls ≠ "java/lang/invoke/MethodHandle" ∧ yX3_held.cls ≠ "java/lang/invoke/VarHandle" ∧ (parseMethodDescriptor yX3_held.desc).map (fun d => d.parameters.length) = some 1 := by decide +kernel
theorem hV_X3_held : yX3_held.cls = RX3 ∧ yX3_held.cls ≠ "java/lang/invoke/MethodHandle" ∧ yX3_held.cls ≠ "java/lang/invoke/VarHandle" ∧ (parseMethodDescriptor yX3_held.desc).map (fun d => d.parameters.length) = some 1 := ⟨rfl, hd_X3_held⟩
theorem iX3_held_X3 : ∀ w ∈ wsX30, w ∈ wsX3_held := fun _ h => List.mem_cons_of_mem _ (List.mem_append_right _ (h))
section
variable {p : Program} {l : Launch} {e : Env} {s : State} {m : MethodId} {args : Array Value} {below : List Frame} {meth : Method} {c : Code} {E : Env0} {A : Nat → Prop}
set_option maxRecDepth 100000 in
set_option maxHeartbeats 4000000 in
theorem w_X3_held (X : Ctx p m meth c cX3_held 2 ((some .int)) s args wsX3_held RX3 E A) (a_t : Nat) (a_contents : Nat) (a_sizes : Nat) (a_elements : Nat) (c_contents : Nat → Int32) (res : Int32) (l1 : Int32) (ls : Array Slot) (H : Heap) (locs : List Loc) (h : f_X3_held l1 c_contents = some res) (hP : va_P E.1 vwCl (W_X3_held E a_t a_contents a_sizes a_elements c_contents) H) (hD : va_D A (W_X3_held E a_t a_contents a_sizes a_elements c_contents)) (hS : va_S A s.heap H locs) (hl : lv_has ls 2 [(0, .ref a_t), (1, .int l1)]) : W p l e r_X3_held s m args below meth c H locs 0 0 (MQ below (qI E A res (W_X3_held E a_t a_contents a_sizes a_elements c_contents)) args s 0 0 A) (F0 m 0 ls []) := by
  obtain ⟨hx, hb, hml, hr, hlk, hown, hts, hG, hA⟩ := id X
  have hK := hG.1
  have hN := hG.2.1
  unfold f_X3_held at h
  refine lv_aload_n hx hb dX3_held_0 rfl (lv_at hl 0 rfl) ?_
  refine va_get (D := E.1) (ci := 3) (v := .ref a_contents) (C := RX3) (T := TX3) (N := 3) hx hb hts iX3_held_X3 hown hK hP 0 rfl rfl 0 (by decide) (hts (.fieldLink RX3 9 "LeftIsAgreedOn$Shelves" "contents" "[I") (List.mem_of_getElem? (i := 1) rfl)) (fun _ h9 => h9) rfl dX3_held_1 ?_
  refine lv_iload_n hx hb dX3_held_4 rfl (lv_at hl 1 rfl) ?_
  obtain ⟨hz5, h⟩ := chk_of h
  refine ld_i X hP 1 rfl (inb.vp hz5) (v := (c_contents (l1).toNatClampNeg)) rfl dX3_held_5 ?_
  obtain rfl := Option.some.inj h
  exact ret_i X dX3_held_6 hP hD hS rfl
end
set_option maxRecDepth 100000 in
theorem c_X3_held (l : Launch) (E : Env0) (a_t : Nat) (a_contents : Nat) (a_sizes : Nat) (a_elements : Nat) (l1 : Int32) (c_contents : Nat → Int32) (sz : Nat) (res : Int32) (h : f_X3_held l1 c_contents = some res) : Met l yX3_held wsX3_held r_X3_held (cPre E [.ref a_t, .int l1] (W_X3_held E a_t a_contents a_sizes a_elements c_contents) sz) (qI E (va_A (W_X3_held E a_t a_contents a_sizes a_elements c_contents) sz) res (W_X3_held E a_t a_contents a_sizes a_elements c_contents)) 0 0 (va_A (W_X3_held E a_t a_contents a_sizes a_elements c_contents) sz) :=
  met_of (Qc := fun A => qI E A res (W_X3_held E a_t a_contents a_sizes a_elements c_contents)) (by decide) rfl (Nat.le_of_ble_eq_true rfl) (fun p e s m args below meth c X hP hD hS ls hl => w_X3_held X a_t a_contents a_sizes a_elements c_contents res l1 ls _ _ h hP hD hS hl)
-- ===== X3_holdsOne
noncomputable abbrev W_X3_holdsOne (E : Env0) (a_t : Nat) (a_contents : Nat) (a_sizes : Nat) (a_elements : Nat) (c_contents : Nat → Int32) : va_W := [(a_t, .inr (3, [.ref a_contents, .ref a_sizes, .ref a_elements])), (a_contents, .inl (eI E, 8, .inl c_contents))]
noncomputable abbrev r_X3_holdsOne : Room := { frames := 0, cells := 0, slots := 0, locals := 0 }
theorem hd_X3_holdsOne : yX3_holdsOne.cls ≠ "java/lang/invoke/MethodHandle" ∧ yX3_holdsOne.cls ≠ "java/lang/invoke/VarHandle" ∧ (parseMethodDescriptor yX3_holdsOne.desc).map (fun d => d.parameters.length) = some 1 := by decide +kernel
theorem hV_X3_holdsOne : yX3_holdsOne.cls = RX3 ∧ yX3_holdsOne.cls ≠ "java/lang/invoke/MethodHandle" ∧ yX3_holdsOne.cls ≠ "java/lang/invoke/VarHandle" ∧ (parseMethodDescriptor yX3_holdsOne.desc).map (fun d => d.parameters.length) = some 1 := ⟨rfl, hd_X3_holdsOne⟩
theorem iX3_holdsOne_X3 : ∀ w ∈ wsX30, w ∈ wsX3_holdsOne := fun _ h => List.mem_cons_of_mem _ (List.mem_append_right _ (h))
section
variable {p : Program} {l : Launch} {e : Env} {s : State} {m : MethodId} {args : Array Value} {below : List Frame} {meth : Method} {c : Code} {E : Env0} {A : Nat → Prop}
set_option maxRecDepth 100000 in
set_option maxHeartbeats 4000000 in
theorem w_X3_holdsOne (X : Ctx p m meth c cX3_holdsOne 2 ((some .boolean)) s args wsX3_holdsOne RX3 E A) (a_t : Nat) (a_contents : Nat) (a_sizes : Nat) (a_elements : Nat) (c_contents : Nat → Int32) (res : Int32) (l1 : Int32) (ls : Array Slot) (H : Heap) (locs : List Loc) (h : f_X3_holdsOne l1 c_contents = some res) (hP : va_P E.1 vwCl (W_X3_holdsOne E a_t a_contents a_sizes a_elements c_contents) H) (hD : va_D A (W_X3_holdsOne E a_t a_contents a_sizes a_elements c_contents)) (hS : va_S A s.heap H locs) (hl : lv_has ls 2 [(0, .ref a_t), (1, .int l1)]) : W p l e r_X3_holdsOne s m args below meth c H locs 0 0 (MQ below (qI E A res (W_X3_holdsOne E a_t a_contents a_sizes a_elements c_contents)) args s 0 0 A) (F0 m 0 ls []) := by
  obtain ⟨hx, hb, hml, hr, hlk, hown, hts, hG, hA⟩ := id X
  have hK := hG.1
  have hN := hG.2.1
  unfold f_X3_holdsOne at h
  refine lv_aload_n hx hb dX3_holdsOne_0 rfl (lv_at hl 0 rfl) ?_
  refine va_get (D := E.1) (ci := 3) (v := .ref a_contents) (C := RX3) (T := TX3) (N := 3) hx hb hts iX3_holdsOne_X3 hown hK hP 0 rfl rfl 0 (by decide) (hts (.fieldLink RX3 9 "LeftIsAgreedOn$Shelves" "contents" "[I") (List.mem_of_getElem? (i := 1) rfl)) (fun _ h9 => h9) rfl dX3_holdsOne_1 ?_
  refine lv_iload_n hx hb dX3_holdsOne_4 rfl (lv_at hl 1 rfl) ?_
  obtain ⟨hz5, h⟩ := chk_of h
  refine ld_i X hP 1 rfl (inb.vp hz5) (v := (c_contents (l1).toNatClampNeg)) rfl dX3_holdsOne_5 ?_
  refine lv_bipush (v := (10 : Int32)) hx hb dX3_holdsOne_6 (by decide) ?_
  refine lv_icmp_lt (tgt := 15) hx hb dX3_holdsOne_8 (by decide) (fun hc8 => ?_) (fun hc8 => ?_)
  · have h := if_t h hc8
    refine lv_iconst (v := (0 : Int32)) hx hb dX3_holdsOne_15 (by decide) ?_
    obtain rfl := Option.some.inj h
    exact ret_z X dX3_holdsOne_16 (by decide) hP hD hS rfl
  · have h := if_f h hc8
    refine lv_iconst (v := (1 : Int32)) hx hb dX3_holdsOne_11 (by decide) ?_
    refine lv_goto (tgt := 16) hx hb dX3_holdsOne_12 (by decide) ?_
    obtain rfl := Option.some.inj h
    exact ret_z X dX3_holdsOne_16 (by decide) hP hD hS rfl
end
set_option maxRecDepth 100000 in
theorem c_X3_holdsOne (l : Launch) (E : Env0) (a_t : Nat) (a_contents : Nat) (a_sizes : Nat) (a_elements : Nat) (l1 : Int32) (c_contents : Nat → Int32) (sz : Nat) (res : Int32) (h : f_X3_holdsOne l1 c_contents = some res) : Met l yX3_holdsOne wsX3_holdsOne r_X3_holdsOne (cPre E [.ref a_t, .int l1] (W_X3_holdsOne E a_t a_contents a_sizes a_elements c_contents) sz) (qI E (va_A (W_X3_holdsOne E a_t a_contents a_sizes a_elements c_contents) sz) res (W_X3_holdsOne E a_t a_contents a_sizes a_elements c_contents)) 0 0 (va_A (W_X3_holdsOne E a_t a_contents a_sizes a_elements c_contents) sz) :=
  met_of (Qc := fun A => qI E A res (W_X3_holdsOne E a_t a_contents a_sizes a_elements c_contents)) (by decide) rfl (Nat.le_of_ble_eq_true rfl) (fun p e s m args below meth c X hP hD hS ls hl => w_X3_holdsOne X a_t a_contents a_sizes a_elements c_contents res l1 ls _ _ h hP hD hS hl)
-- ===== X3_holdsRow
noncomputable abbrev W_X3_holdsRow (E : Env0) (a_t : Nat) (a_contents : Nat) (a_sizes : Nat) (a_elements : Nat) (c_contents : Nat → Int32) : va_W := [(a_t, .inr (3, [.ref a_contents, .ref a_sizes, .ref a_elements])), (a_contents, .inl (eI E, 8, .inl c_contents))]
noncomputable abbrev r_X3_holdsRow : Room := { frames := 1, cells := 0, slots := 0, locals := 22 }
theorem hd_X3_holdsRow : yX3_holdsRow.cls ≠ "java/lang/invoke/MethodHandle" ∧ yX3_holdsRow.cls ≠ "java/lang/invoke/VarHandle" ∧ (parseMethodDescriptor yX3_holdsRow.desc).map (fun d => d.parameters.length) = some 1 := by decide +kernel
theorem hV_X3_holdsRow : yX3_holdsRow.cls = RX3 ∧ yX3_holdsRow.cls ≠ "java/lang/invoke/MethodHandle" ∧ yX3_holdsRow.cls ≠ "java/lang/invoke/VarHandle" ∧ (parseMethodDescriptor yX3_holdsRow.desc).map (fun d => d.parameters.length) = some 1 := ⟨rfl, hd_X3_holdsRow⟩
theorem iX3_holdsRow_X3 : ∀ w ∈ wsX30, w ∈ wsX3_holdsRow := fun _ h => List.mem_cons_of_mem _ (List.mem_append_right _ (h))
section
variable {p : Program} {l : Launch} {e : Env} {s : State} {m : MethodId} {args : Array Value} {below : List Frame} {meth : Method} {c : Code} {E : Env0} {A : Nat → Prop}
set_option maxRecDepth 100000 in
set_option maxHeartbeats 4000000 in
theorem w_X3_holdsRow (X : Ctx p m meth c cX3_holdsRow 2 ((some .boolean)) s args wsX3_holdsRow RX3 E A) (a_t : Nat) (a_contents : Nat) (a_sizes : Nat) (a_elements : Nat) (c_contents : Nat → Int32) (res : Int32) (l1 : Int32) (ls : Array Slot) (H : Heap) (locs : List Loc) (h : f_X3_holdsRow l1 c_contents = some res) (hP : va_P E.1 vwCl (W_X3_holdsRow E a_t a_contents a_sizes a_elements c_contents) H) (hD : va_D A (W_X3_holdsRow E a_t a_contents a_sizes a_elements c_contents)) (hS : va_S A s.heap H locs) (hl : lv_has ls 2 [(0, .ref a_t), (1, .int l1)]) : W p l e r_X3_holdsRow s m args below meth c H locs 0 0 (MQ below (qI E A res (W_X3_holdsRow E a_t a_contents a_sizes a_elements c_contents)) args s 0 0 A) (F0 m 0 ls []) := by
  obtain ⟨hx, hb, hml, hr, hlk, hown, hts, hG, hA⟩ := id X
  have hK := hG.1
  have hN := hG.2.1
  unfold f_X3_holdsRow at h
  refine lv_aload_n hx hb dX3_holdsRow_0 rfl (lv_at hl 0 rfl) ?_
  refine va_get (D := E.1) (ci := 3) (v := .ref a_contents) (C := RX3) (T := TX3) (N := 3) hx hb hts iX3_holdsRow_X3 hown hK hP 0 rfl rfl 0 (by decide) (hts (.fieldLink RX3 9 "LeftIsAgreedOn$Shelves" "contents" "[I") (List.mem_of_getElem? (i := 1) rfl)) (fun _ h9 => h9) rfl dX3_holdsRow_1 ?_
  refine lv_iload_n hx hb dX3_holdsRow_4 rfl (lv_at hl 1 rfl) ?_
  obtain ⟨hz5, h⟩ := chk_of h
  refine ld_i X hP 1 rfl (inb.vp hz5) (v := (c_contents (l1).toNatClampNeg)) rfl dX3_holdsRow_5 ?_
  refine lv_iconst (v := (0 : Int32)) hx hb dX3_holdsRow_6 (by decide) ?_
  refine lv_iconst (v := (4 : Int32)) hx hb dX3_holdsRow_7 (by decide) ?_
  obtain ⟨v1, hv1, h⟩ := bind_of h
  refine after_i X (run_SN X (c_X5_isWithin l E (c_contents (l1).toNatClampNeg) (0 : Int32) (4 : Int32) H.size v1 hv1) ⟨va_cnB 3 hts gX3_holdsRow_X5_isWithin_n22 rfl rfl rfl (nM_6 hN) (hts (.initialized RX5) (List.mem_of_getElem? (i := 3) rfl)) hd_X5_isWithin ⟨(Nat.le_of_ble_eq_true rfl), (Nat.le_of_ble_eq_true rfl)⟩, (hts (.static yX5_isWithin) (List.mem_of_getElem? (i := 2) rfl)), trivial⟩ hP hD hS [] rfl rfl hl.1 (rest := []) rfl rfl (Nat.le_of_ble_eq_true rfl) dX3_holdsRow_8) hP hD hS [] rfl (ws1 := (W_X3_holdsRow E a_t a_contents a_sizes a_elements c_contents)) rfl (fun H locs hP hD hS => ?_)
  obtain ⟨hz11, h⟩ := chk_of h
  obtain rfl := Option.some.inj h
  exact ret_z X dX3_holdsRow_11 hz11 hP hD hS rfl
end
set_option maxRecDepth 100000 in
theorem c_X3_holdsRow (l : Launch) (E : Env0) (a_t : Nat) (a_contents : Nat) (a_sizes : Nat) (a_elements : Nat) (l1 : Int32) (c_contents : Nat → Int32) (sz : Nat) (res : Int32) (h : f_X3_holdsRow l1 c_contents = some res) : Met l yX3_holdsRow wsX3_holdsRow r_X3_holdsRow (cPre E [.ref a_t, .int l1] (W_X3_holdsRow E a_t a_contents a_sizes a_elements c_contents) sz) (qI E (va_A (W_X3_holdsRow E a_t a_contents a_sizes a_elements c_contents) sz) res (W_X3_holdsRow E a_t a_contents a_sizes a_elements c_contents)) 0 0 (va_A (W_X3_holdsRow E a_t a_contents a_sizes a_elements c_contents) sz) :=
  met_of (Qc := fun A => qI E A res (W_X3_holdsRow E a_t a_contents a_sizes a_elements c_contents)) (by decide) rfl (Nat.le_of_ble_eq_true rfl) (fun p e s m args below meth c X hP hD hS ls hl => w_X3_holdsRow X a_t a_contents a_sizes a_elements c_contents res l1 ls _ _ h hP hD hS hl)
-- ===== X3_oneIn
noncomputable abbrev W_X3_oneIn (E : Env0) (a_t : Nat) (a_contents : Nat) (a_sizes : Nat) (a_elements : Nat) (c_contents : Nat → Int32) : va_W := [(a_t, .inr (3, [.ref a_contents, .ref a_sizes, .ref a_elements])), (a_contents, .inl (eI E, 8, .inl c_contents))]
noncomputable abbrev r_X3_oneIn : Room := { frames := 1, cells := 0, slots := 0, locals := 21 }
theorem hd_X3_oneIn : yX3_oneIn.cls ≠ "java/lang/invoke/MethodHandle" ∧ yX3_oneIn.cls ≠ "java/lang/invoke/VarHandle" ∧ (parseMethodDescriptor yX3_oneIn.desc).map (fun d => d.parameters.length) = some 1 := by decide +kernel
theorem hV_X3_oneIn : yX3_oneIn.cls = RX3 ∧ yX3_oneIn.cls ≠ "java/lang/invoke/MethodHandle" ∧ yX3_oneIn.cls ≠ "java/lang/invoke/VarHandle" ∧ (parseMethodDescriptor yX3_oneIn.desc).map (fun d => d.parameters.length) = some 1 := ⟨rfl, hd_X3_oneIn⟩
theorem iX3_oneIn_X3 : ∀ w ∈ wsX30, w ∈ wsX3_oneIn := fun _ h => List.mem_cons_of_mem _ (List.mem_append_right _ (h))
section
variable {p : Program} {l : Launch} {e : Env} {s : State} {m : MethodId} {args : Array Value} {below : List Frame} {meth : Method} {c : Code} {E : Env0} {A : Nat → Prop}
set_option maxRecDepth 100000 in
set_option maxHeartbeats 4000000 in
theorem w_X3_oneIn (X : Ctx p m meth c cX3_oneIn 2 ((some .int)) s args wsX3_oneIn RX3 E A) (a_t : Nat) (a_contents : Nat) (a_sizes : Nat) (a_elements : Nat) (c_contents : Nat → Int32) (res : Int32) (l1 : Int32) (ls : Array Slot) (H : Heap) (locs : List Loc) (h : f_X3_oneIn l1 c_contents = some res) (hP : va_P E.1 vwCl (W_X3_oneIn E a_t a_contents a_sizes a_elements c_contents) H) (hD : va_D A (W_X3_oneIn E a_t a_contents a_sizes a_elements c_contents)) (hS : va_S A s.heap H locs) (hl : lv_has ls 2 [(0, .ref a_t), (1, .int l1)]) : W p l e r_X3_oneIn s m args below meth c H locs 0 0 (MQ below (qI E A res (W_X3_oneIn E a_t a_contents a_sizes a_elements c_contents)) args s 0 0 A) (F0 m 0 ls []) := by
  obtain ⟨hx, hb, hml, hr, hlk, hown, hts, hG, hA⟩ := id X
  have hK := hG.1
  have hN := hG.2.1
  unfold f_X3_oneIn at h
  refine lv_aload_n hx hb dX3_oneIn_0 rfl (lv_at hl 0 rfl) ?_
  refine lv_iload_n hx hb dX3_oneIn_1 rfl (lv_at hl 1 rfl) ?_
  obtain ⟨v1, hv1, h⟩ := bind_of h
  refine after_i X (run_V X (c_X3_holdsOne l E a_t a_contents a_sizes a_elements l1 c_contents H.size v1 hv1) (cwV 1 hts gX3_oneIn_X3_holdsOne rfl rfl rfl hV_X3_holdsOne ⟨(Nat.le_of_ble_eq_true rfl), (Nat.le_of_ble_eq_true rfl)⟩) hP hD hS [0, 1] rfl rfl hl.1 (ci := 3) rfl rfl rfl (rest := []) rfl rfl (Nat.le_of_ble_eq_true rfl) dX3_oneIn_2) hP hD hS [0, 1] rfl (ws1 := (W_X3_oneIn E a_t a_contents a_sizes a_elements c_contents)) rfl (fun H locs hP hD hS => ?_)
  refine lv_if_eq (tgt := 20) hx hb dX3_oneIn_5 (by decide) (fun hc5 => ?_) (fun hc5 => ?_)
  · have h := if_t h hc5
    refine lv_iconst (v := (-1 : Int32)) hx hb dX3_oneIn_20 (by decide) ?_
    obtain rfl := Option.some.inj h
    exact ret_i X dX3_oneIn_21 hP hD hS rfl
  · have h := if_f h hc5
    refine lv_aload_n hx hb dX3_oneIn_8 rfl (lv_at hl 0 rfl) ?_
    refine va_get (D := E.1) (ci := 3) (v := .ref a_contents) (C := RX3) (T := TX3) (N := 3) hx hb hts iX3_oneIn_X3 hown hK hP 0 rfl rfl 0 (by decide) (hts (.fieldLink RX3 9 "LeftIsAgreedOn$Shelves" "contents" "[I") (List.mem_of_getElem? (i := 1) rfl)) (fun _ h9 => h9) rfl dX3_oneIn_9 ?_
    refine lv_iload_n hx hb dX3_oneIn_12 rfl (lv_at hl 1 rfl) ?_
    obtain ⟨hz13, h⟩ := chk_of h
    refine ld_i X hP 1 rfl (inb.vp hz13) (v := (c_contents (l1).toNatClampNeg)) rfl dX3_oneIn_13 ?_
    refine lv_bipush (v := (10 : Int32)) hx hb dX3_oneIn_14 (by decide) ?_
    refine lv_isub hx hb dX3_oneIn_16 ?_
    refine lv_goto (tgt := 21) hx hb dX3_oneIn_17 (by decide) ?_
    obtain rfl := Option.some.inj h
    exact ret_i X dX3_oneIn_21 hP hD hS rfl
end
set_option maxRecDepth 100000 in
theorem c_X3_oneIn (l : Launch) (E : Env0) (a_t : Nat) (a_contents : Nat) (a_sizes : Nat) (a_elements : Nat) (l1 : Int32) (c_contents : Nat → Int32) (sz : Nat) (res : Int32) (h : f_X3_oneIn l1 c_contents = some res) : Met l yX3_oneIn wsX3_oneIn r_X3_oneIn (cPre E [.ref a_t, .int l1] (W_X3_oneIn E a_t a_contents a_sizes a_elements c_contents) sz) (qI E (va_A (W_X3_oneIn E a_t a_contents a_sizes a_elements c_contents) sz) res (W_X3_oneIn E a_t a_contents a_sizes a_elements c_contents)) 0 0 (va_A (W_X3_oneIn E a_t a_contents a_sizes a_elements c_contents) sz) :=
  met_of (Qc := fun A => qI E A res (W_X3_oneIn E a_t a_contents a_sizes a_elements c_contents)) (by decide) rfl (Nat.le_of_ble_eq_true rfl) (fun p e s m args below meth c X hP hD hS ls hl => w_X3_oneIn X a_t a_contents a_sizes a_elements c_contents res l1 ls _ _ h hP hD hS hl)
-- ===== X3_sizeOf
noncomputable abbrev W_X3_sizeOf (E : Env0) (a_t : Nat) (a_sizes : Nat) (a_contents : Nat) (a_elements : Nat) (c_sizes : Nat → Int32) : va_W := [(a_t, .inr (3, [.ref a_contents, .ref a_sizes, .ref a_elements])), (a_sizes, .inl (eI E, 8, .inl c_sizes))]
noncomputable abbrev r_X3_sizeOf : Room := { frames := 0, cells := 0, slots := 0, locals := 0 }
theorem hd_X3_sizeOf : yX3_sizeOf.cls ≠ "java/lang/invoke/MethodHandle" ∧ yX3_sizeOf.cls ≠ "java/lang/invoke/VarHandle" ∧ (parseMethodDescriptor yX3_sizeOf.desc).map (fun d => d.parameters.length) = some 1 := by decide +kernel
theorem hV_X3_sizeOf : yX3_sizeOf.cls = RX3 ∧ yX3_sizeOf.cls ≠ "java/lang/invoke/MethodHandle" ∧ yX3_sizeOf.cls ≠ "java/lang/invoke/VarHandle" ∧ (parseMethodDescriptor yX3_sizeOf.desc).map (fun d => d.parameters.length) = some 1 := ⟨rfl, hd_X3_sizeOf⟩
theorem iX3_sizeOf_X3 : ∀ w ∈ wsX30, w ∈ wsX3_sizeOf := fun _ h => List.mem_cons_of_mem _ (List.mem_append_right _ (h))
section
variable {p : Program} {l : Launch} {e : Env} {s : State} {m : MethodId} {args : Array Value} {below : List Frame} {meth : Method} {c : Code} {E : Env0} {A : Nat → Prop}
set_option maxRecDepth 100000 in
set_option maxHeartbeats 4000000 in
theorem w_X3_sizeOf (X : Ctx p m meth c cX3_sizeOf 2 ((some .int)) s args wsX3_sizeOf RX3 E A) (a_t : Nat) (a_sizes : Nat) (a_contents : Nat) (a_elements : Nat) (c_sizes : Nat → Int32) (res : Int32) (l1 : Int32) (ls : Array Slot) (H : Heap) (locs : List Loc) (h : f_X3_sizeOf l1 c_sizes = some res) (hP : va_P E.1 vwCl (W_X3_sizeOf E a_t a_sizes a_contents a_elements c_sizes) H) (hD : va_D A (W_X3_sizeOf E a_t a_sizes a_contents a_elements c_sizes)) (hS : va_S A s.heap H locs) (hl : lv_has ls 2 [(0, .ref a_t), (1, .int l1)]) : W p l e r_X3_sizeOf s m args below meth c H locs 0 0 (MQ below (qI E A res (W_X3_sizeOf E a_t a_sizes a_contents a_elements c_sizes)) args s 0 0 A) (F0 m 0 ls []) := by
  obtain ⟨hx, hb, hml, hr, hlk, hown, hts, hG, hA⟩ := id X
  have hK := hG.1
  have hN := hG.2.1
  unfold f_X3_sizeOf at h
  refine lv_aload_n hx hb dX3_sizeOf_0 rfl (lv_at hl 0 rfl) ?_
  refine va_get (D := E.1) (ci := 3) (v := .ref a_sizes) (C := RX3) (T := TX3) (N := 3) hx hb hts iX3_sizeOf_X3 hown hK hP 0 rfl rfl 1 (by decide) (hts (.fieldLink RX3 15 "LeftIsAgreedOn$Shelves" "sizes" "[I") (List.mem_of_getElem? (i := 1) rfl)) (fun _ h9 => h9) rfl dX3_sizeOf_1 ?_
  refine lv_iload_n hx hb dX3_sizeOf_4 rfl (lv_at hl 1 rfl) ?_
  obtain ⟨hz5, h⟩ := chk_of h
  refine ld_i X hP 1 rfl (inb.vp hz5) (v := (c_sizes (l1).toNatClampNeg)) rfl dX3_sizeOf_5 ?_
  obtain rfl := Option.some.inj h
  exact ret_i X dX3_sizeOf_6 hP hD hS rfl
end
set_option maxRecDepth 100000 in
theorem c_X3_sizeOf (l : Launch) (E : Env0) (a_t : Nat) (a_sizes : Nat) (a_contents : Nat) (a_elements : Nat) (l1 : Int32) (c_sizes : Nat → Int32) (sz : Nat) (res : Int32) (h : f_X3_sizeOf l1 c_sizes = some res) : Met l yX3_sizeOf wsX3_sizeOf r_X3_sizeOf (cPre E [.ref a_t, .int l1] (W_X3_sizeOf E a_t a_sizes a_contents a_elements c_sizes) sz) (qI E (va_A (W_X3_sizeOf E a_t a_sizes a_contents a_elements c_sizes) sz) res (W_X3_sizeOf E a_t a_sizes a_contents a_elements c_sizes)) 0 0 (va_A (W_X3_sizeOf E a_t a_sizes a_contents a_elements c_sizes) sz) :=
  met_of (Qc := fun A => qI E A res (W_X3_sizeOf E a_t a_sizes a_contents a_elements c_sizes)) (by decide) rfl (Nat.le_of_ble_eq_true rfl) (fun p e s m args below meth c X hP hD hS ls hl => w_X3_sizeOf X a_t a_sizes a_contents a_elements c_sizes res l1 ls _ _ h hP hD hS hl)
-- ===== X3_holdNothing
noncomputable abbrev W_X3_holdNothing (E : Env0) (a_t : Nat) (a_contents : Nat) (a_sizes : Nat) (a_elements : Nat) (c_contents : Nat → Int32) (c_sizes : Nat → Int32) : va_W := [(a_t, .inr (3, [.ref a_contents, .ref a_sizes, .ref a_elements])), (a_contents, .inl (eI E, 8, .inl c_contents)), (a_sizes, .inl (eI E, 8, .inl c_sizes))]
noncomputable abbrev r_X3_holdNothing : Room := { frames := 0, cells := 0, slots := 0, locals := 0 }
theorem hd_X3_holdNothing : yX3_holdNothing.cls ≠ "java/lang/invoke/MethodHandle" ∧ yX3_holdNothing.cls ≠ "java/lang/invoke/VarHandle" ∧ (parseMethodDescriptor yX3_holdNothing.desc).map (fun d => d.parameters.length) = some 1 := by decide +kernel
theorem hV_X3_holdNothing : yX3_holdNothing.cls = RX3 ∧ yX3_holdNothing.cls ≠ "java/lang/invoke/MethodHandle" ∧ yX3_holdNothing.cls ≠ "java/lang/invoke/VarHandle" ∧ (parseMethodDescriptor yX3_holdNothing.desc).map (fun d => d.parameters.length) = some 1 := ⟨rfl, hd_X3_holdNothing⟩
theorem iX3_holdNothing_X3 : ∀ w ∈ wsX30, w ∈ wsX3_holdNothing := fun _ h => List.mem_cons_of_mem _ (List.mem_append_right _ (h))
section
variable {p : Program} {l : Launch} {e : Env} {s : State} {m : MethodId} {args : Array Value} {below : List Frame} {meth : Method} {c : Code} {E : Env0} {A : Nat → Prop}
set_option maxRecDepth 100000 in
set_option maxHeartbeats 4000000 in
theorem w_X3_holdNothing (X : Ctx p m meth c cX3_holdNothing 2 none s args wsX3_holdNothing RX3 E A) (a_t : Nat) (a_contents : Nat) (a_sizes : Nat) (a_elements : Nat) (res : (Nat → Int32) × (Nat → Int32)) (c_contents : Nat → Int32) (c_sizes : Nat → Int32) (l1 : Int32) (ls : Array Slot) (H : Heap) (locs : List Loc) (h : f_X3_holdNothing l1 c_contents c_sizes = some res) (hP : va_P E.1 vwCl (W_X3_holdNothing E a_t a_contents a_sizes a_elements c_contents c_sizes) H) (hD : va_D A (W_X3_holdNothing E a_t a_contents a_sizes a_elements c_contents c_sizes)) (hS : va_S A s.heap H locs) (hl : lv_has ls 2 [(0, .ref a_t), (1, .int l1)]) : W p l e r_X3_holdNothing s m args below meth c H locs 0 0 (MQ below (qV E A (W_X3_holdNothing E a_t a_contents a_sizes a_elements (res.1) (res.2))) args s 0 0 A) (F0 m 0 ls []) := by
  obtain ⟨hx, hb, hml, hr, hlk, hown, hts, hG, hA⟩ := id X
  have hK := hG.1
  have hN := hG.2.1
  unfold f_X3_holdNothing at h
  refine lv_aload_n hx hb dX3_holdNothing_0 rfl (lv_at hl 0 rfl) ?_
  refine va_get (D := E.1) (ci := 3) (v := .ref a_contents) (C := RX3) (T := TX3) (N := 3) hx hb hts iX3_holdNothing_X3 hown hK hP 0 rfl rfl 0 (by decide) (hts (.fieldLink RX3 9 "LeftIsAgreedOn$Shelves" "contents" "[I") (List.mem_of_getElem? (i := 1) rfl)) (fun _ h9 => h9) rfl dX3_holdNothing_1 ?_
  refine lv_iload_n hx hb dX3_holdNothing_4 rfl (lv_at hl 1 rfl) ?_
  refine lv_iconst (v := (-1 : Int32)) hx hb dX3_holdNothing_5 (by decide) ?_
  obtain ⟨hz6, h⟩ := chk_of h
  refine st_i X hP hD hS 1 rfl (inb.vp hz6) (k := (l1).toNatClampNeg) rfl (ws1 := (W_X3_holdNothing E a_t a_contents a_sizes a_elements (upd c_contents ((l1).toNatClampNeg) (-1 : Int32)) c_sizes)) rfl dX3_holdNothing_6 (fun H locs hP hD hS => ?_)
  refine lv_aload_n hx hb dX3_holdNothing_7 rfl (lv_at hl 0 rfl) ?_
  refine va_get (D := E.1) (ci := 3) (v := .ref a_sizes) (C := RX3) (T := TX3) (N := 3) hx hb hts iX3_holdNothing_X3 hown hK hP 0 rfl rfl 1 (by decide) (hts (.fieldLink RX3 15 "LeftIsAgreedOn$Shelves" "sizes" "[I") (List.mem_of_getElem? (i := 2) rfl)) (fun _ h9 => h9) rfl dX3_holdNothing_8 ?_
  refine lv_iload_n hx hb dX3_holdNothing_11 rfl (lv_at hl 1 rfl) ?_
  refine lv_iconst (v := (0 : Int32)) hx hb dX3_holdNothing_12 (by decide) ?_
  obtain ⟨hz13, h⟩ := chk_of h
  refine st_i X hP hD hS 2 rfl (inb.vp hz13) (k := (l1).toNatClampNeg) rfl (ws1 := (W_X3_holdNothing E a_t a_contents a_sizes a_elements (upd c_contents ((l1).toNatClampNeg) (-1 : Int32)) (upd c_sizes ((l1).toNatClampNeg) (0 : Int32)))) rfl dX3_holdNothing_13 (fun H locs hP hD hS => ?_)
  obtain rfl := Option.some.inj h
  exact ret_v X dX3_holdNothing_14 hP hD hS
end
set_option maxRecDepth 100000 in
theorem c_X3_holdNothing (l : Launch) (E : Env0) (a_t : Nat) (a_contents : Nat) (a_sizes : Nat) (a_elements : Nat) (l1 : Int32) (c_contents : Nat → Int32) (c_sizes : Nat → Int32) (sz : Nat) (res : (Nat → Int32) × (Nat → Int32)) (h : f_X3_holdNothing l1 c_contents c_sizes = some res) : Met l yX3_holdNothing wsX3_holdNothing r_X3_holdNothing (cPre E [.ref a_t, .int l1] (W_X3_holdNothing E a_t a_contents a_sizes a_elements c_contents c_sizes) sz) (qV E (va_A (W_X3_holdNothing E a_t a_contents a_sizes a_elements c_contents c_sizes) sz) (W_X3_holdNothing E a_t a_contents a_sizes a_elements (res.1) (res.2))) 0 0 (va_A (W_X3_holdNothing E a_t a_contents a_sizes a_elements c_contents c_sizes) sz) :=
  met_of (Qc := fun A => qV E A (W_X3_holdNothing E a_t a_contents a_sizes a_elements (res.1) (res.2))) (by decide) rfl (Nat.le_of_ble_eq_true rfl) (fun p e s m args below meth c X hP hD hS ls hl => w_X3_holdNothing X a_t a_contents a_sizes a_elements res c_contents c_sizes l1 ls _ _ h hP hD hS hl)
-- ===== X3_holdOne
noncomputable abbrev W_X3_holdOne (E : Env0) (a_t : Nat) (a_contents : Nat) (a_sizes : Nat) (a_elements : Nat) (c_contents : Nat → Int32) (c_sizes : Nat → Int32) : va_W := [(a_t, .inr (3, [.ref a_contents, .ref a_sizes, .ref a_elements])), (a_contents, .inl (eI E, 8, .inl c_contents)), (a_sizes, .inl (eI E, 8, .inl c_sizes))]
noncomputable abbrev r_X3_holdOne : Room := { frames := 0, cells := 0, slots := 0, locals := 0 }
theorem hd_X3_holdOne : yX3_holdOne.cls ≠ "java/lang/invoke/MethodHandle" ∧ yX3_holdOne.cls ≠ "java/lang/invoke/VarHandle" ∧ (parseMethodDescriptor yX3_holdOne.desc).map (fun d => d.parameters.length) = some 2 := by decide +kernel
theorem hV_X3_holdOne : yX3_holdOne.cls = RX3 ∧ yX3_holdOne.cls ≠ "java/lang/invoke/MethodHandle" ∧ yX3_holdOne.cls ≠ "java/lang/invoke/VarHandle" ∧ (parseMethodDescriptor yX3_holdOne.desc).map (fun d => d.parameters.length) = some 2 := ⟨rfl, hd_X3_holdOne⟩
theorem iX3_holdOne_X3 : ∀ w ∈ wsX30, w ∈ wsX3_holdOne := fun _ h => List.mem_cons_of_mem _ (List.mem_append_right _ (h))
section
variable {p : Program} {l : Launch} {e : Env} {s : State} {m : MethodId} {args : Array Value} {below : List Frame} {meth : Method} {c : Code} {E : Env0} {A : Nat → Prop}
set_option maxRecDepth 100000 in
set_option maxHeartbeats 4000000 in
theorem w_X3_holdOne (X : Ctx p m meth c cX3_holdOne 3 none s args wsX3_holdOne RX3 E A) (a_t : Nat) (a_contents : Nat) (a_sizes : Nat) (a_elements : Nat) (res : (Nat → Int32) × (Nat → Int32)) (c_contents : Nat → Int32) (c_sizes : Nat → Int32) (l1 : Int32) (l2 : Int32) (ls : Array Slot) (H : Heap) (locs : List Loc) (h : f_X3_holdOne l1 l2 c_contents c_sizes = some res) (hP : va_P E.1 vwCl (W_X3_holdOne E a_t a_contents a_sizes a_elements c_contents c_sizes) H) (hD : va_D A (W_X3_holdOne E a_t a_contents a_sizes a_elements c_contents c_sizes)) (hS : va_S A s.heap H locs) (hl : lv_has ls 3 [(0, .ref a_t), (1, .int l1), (2, .int l2)]) : W p l e r_X3_holdOne s m args below meth c H locs 0 0 (MQ below (qV E A (W_X3_holdOne E a_t a_contents a_sizes a_elements (res.1) (res.2))) args s 0 0 A) (F0 m 0 ls []) := by
  obtain ⟨hx, hb, hml, hr, hlk, hown, hts, hG, hA⟩ := id X
  have hK := hG.1
  have hN := hG.2.1
  unfold f_X3_holdOne at h
  refine lv_aload_n hx hb dX3_holdOne_0 rfl (lv_at hl 0 rfl) ?_
  refine va_get (D := E.1) (ci := 3) (v := .ref a_contents) (C := RX3) (T := TX3) (N := 3) hx hb hts iX3_holdOne_X3 hown hK hP 0 rfl rfl 0 (by decide) (hts (.fieldLink RX3 9 "LeftIsAgreedOn$Shelves" "contents" "[I") (List.mem_of_getElem? (i := 1) rfl)) (fun _ h9 => h9) rfl dX3_holdOne_1 ?_
  refine lv_iload_n hx hb dX3_holdOne_4 rfl (lv_at hl 1 rfl) ?_
  refine lv_bipush (v := (10 : Int32)) hx hb dX3_holdOne_5 (by decide) ?_
  refine lv_iload_n hx hb dX3_holdOne_7 rfl (lv_at hl 2 rfl) ?_
  refine lv_iadd hx hb dX3_holdOne_8 ?_
  obtain ⟨hz9, h⟩ := chk_of h
  refine st_i X hP hD hS 1 rfl (inb.vp hz9) (k := (l1).toNatClampNeg) rfl (ws1 := (W_X3_holdOne E a_t a_contents a_sizes a_elements (upd c_contents ((l1).toNatClampNeg) ((10 : Int32) + l2)) c_sizes)) rfl dX3_holdOne_9 (fun H locs hP hD hS => ?_)
  refine lv_aload_n hx hb dX3_holdOne_10 rfl (lv_at hl 0 rfl) ?_
  refine va_get (D := E.1) (ci := 3) (v := .ref a_sizes) (C := RX3) (T := TX3) (N := 3) hx hb hts iX3_holdOne_X3 hown hK hP 0 rfl rfl 1 (by decide) (hts (.fieldLink RX3 15 "LeftIsAgreedOn$Shelves" "sizes" "[I") (List.mem_of_getElem? (i := 2) rfl)) (fun _ h9 => h9) rfl dX3_holdOne_11 ?_
  refine lv_iload_n hx hb dX3_holdOne_14 rfl (lv_at hl 1 rfl) ?_
  refine lv_iconst (v := (0 : Int32)) hx hb dX3_holdOne_15 (by decide) ?_
  obtain ⟨hz16, h⟩ := chk_of h
  refine st_i X hP hD hS 2 rfl (inb.vp hz16) (k := (l1).toNatClampNeg) rfl (ws1 := (W_X3_holdOne E a_t a_contents a_sizes a_elements (upd c_contents ((l1).toNatClampNeg) ((10 : Int32) + l2)) (upd c_sizes ((l1).toNatClampNeg) (0 : Int32)))) rfl dX3_holdOne_16 (fun H locs hP hD hS => ?_)
  obtain rfl := Option.some.inj h
  exact ret_v X dX3_holdOne_17 hP hD hS
end
set_option maxRecDepth 100000 in
theorem c_X3_holdOne (l : Launch) (E : Env0) (a_t : Nat) (a_contents : Nat) (a_sizes : Nat) (a_elements : Nat) (l1 : Int32) (l2 : Int32) (c_contents : Nat → Int32) (c_sizes : Nat → Int32) (sz : Nat) (res : (Nat → Int32) × (Nat → Int32)) (h : f_X3_holdOne l1 l2 c_contents c_sizes = some res) : Met l yX3_holdOne wsX3_holdOne r_X3_holdOne (cPre E [.ref a_t, .int l1, .int l2] (W_X3_holdOne E a_t a_contents a_sizes a_elements c_contents c_sizes) sz) (qV E (va_A (W_X3_holdOne E a_t a_contents a_sizes a_elements c_contents c_sizes) sz) (W_X3_holdOne E a_t a_contents a_sizes a_elements (res.1) (res.2))) 0 0 (va_A (W_X3_holdOne E a_t a_contents a_sizes a_elements c_contents c_sizes) sz) :=
  met_of (Qc := fun A => qV E A (W_X3_holdOne E a_t a_contents a_sizes a_elements (res.1) (res.2))) (by decide) rfl (Nat.le_of_ble_eq_true rfl) (fun p e s m args below meth c X hP hD hS ls hl => w_X3_holdOne X a_t a_contents a_sizes a_elements res c_contents c_sizes l1 l2 ls _ _ h hP hD hS hl)
-- ===== X3_holdRow
noncomputable abbrev W_X3_holdRow (E : Env0) (a_t : Nat) (a_contents : Nat) (a_elements : Nat) (a_sizes : Nat) (c_contents : Nat → Int32) (c_elements : Nat → Int64) (c_sizes : Nat → Int32) : va_W := [(a_t, .inr (3, [.ref a_contents, .ref a_sizes, .ref a_elements])), (a_contents, .inl (eI E, 8, .inl c_contents)), (a_elements, .inl (eJ E, 320, .inr (.inl c_elements))), (a_sizes, .inl (eI E, 8, .inl c_sizes))]
noncomputable abbrev r_X3_holdRow : Room := { frames := 0, cells := 0, slots := 0, locals := 0 }
theorem hd_X3_holdRow : yX3_holdRow.cls ≠ "java/lang/invoke/MethodHandle" ∧ yX3_holdRow.cls ≠ "java/lang/invoke/VarHandle" ∧ (parseMethodDescriptor yX3_holdRow.desc).map (fun d => d.parameters.length) = some 3 := by decide +kernel
theorem hV_X3_holdRow : yX3_holdRow.cls = RX3 ∧ yX3_holdRow.cls ≠ "java/lang/invoke/MethodHandle" ∧ yX3_holdRow.cls ≠ "java/lang/invoke/VarHandle" ∧ (parseMethodDescriptor yX3_holdRow.desc).map (fun d => d.parameters.length) = some 3 := ⟨rfl, hd_X3_holdRow⟩
theorem iX3_holdRow_X3 : ∀ w ∈ wsX30, w ∈ wsX3_holdRow := fun _ h => List.mem_cons_of_mem _ (List.mem_append_right _ (h))
section
variable {p : Program} {l : Launch} {e : Env} {s : State} {m : MethodId} {args : Array Value} {below : List Frame} {meth : Method} {c : Code} {E : Env0} {A : Nat → Prop}
set_option maxRecDepth 100000 in
set_option maxHeartbeats 4000000 in
theorem w_X3_holdRow_b17 (X : Ctx p m meth c cX3_holdRow 5 none s args wsX3_holdRow RX3 E A) (a_t : Nat) (a_contents : Nat) (a_elements : Nat) (a_sizes : Nat) (res : (Nat → Int32) × (Nat → Int64) × (Nat → Int32)) : ∀ (n : Nat) (c_contents : Nat → Int32) (c_elements : Nat → Int64) (c_sizes : Nat → Int32) (l1 : Int32) (l3 : Int32) (l4 : Int32) (ls : Array Slot) (H : Heap) (locs : List Loc), f_X3_holdRow_b17 n c_contents c_elements c_sizes l1 l3 l4 = some res → va_P E.1 vwCl (W_X3_holdRow E a_t a_contents a_elements a_sizes c_contents c_elements c_sizes) H → va_D A (W_X3_holdRow E a_t a_contents a_elements a_sizes c_contents c_elements c_sizes) → va_S A s.heap H locs → lv_has ls 5 [(0, .ref a_t), (1, .int l1), (3, .int l3), (4, .int l4)] → W p l e r_X3_holdRow s m args below meth c H locs 0 0 (MQ below (qV E A (W_X3_holdRow E a_t a_contents a_elements a_sizes (res.1) (res.2.1) (res.2.2))) args s 0 0 A) (F0 m 17 ls []) := by
  obtain ⟨hx, hb, hml, hr, hlk, hown, hts, hG, hA⟩ := id X
  have hK := hG.1
  have hN := hG.2.1
  intro n
  induction n with
  | zero =>
    intro c_contents c_elements c_sizes l1 l3 l4 ls H locs h
    exact absurd (show (none : Option ((Nat → Int32) × (Nat → Int64) × (Nat → Int32))) = some res from h) (by intro q; cases q)
  | succ n ih =>
    intro c_contents c_elements c_sizes l1 l3 l4 ls H locs h hP hD hS hl
    rw [f_X3_holdRow_b17] at h
    refine lv_iload hx hb dX3_holdRow_17 (lv_at hl 3 rfl) ?_
    refine lv_iload_n hx hb dX3_holdRow_19 rfl (lv_at hl 2 rfl) ?_
    refine lv_icmp_ge (tgt := 42) hx hb dX3_holdRow_20 (by decide) (fun hc20 => ?_) (fun hc20 => ?_)
    · have h := if_t h hc20
      obtain rfl := Option.some.inj h
      exact ret_v X dX3_holdRow_42 hP hD hS
    · have h := if_f h hc20
      refine lv_aload_n hx hb dX3_holdRow_23 rfl (lv_at hl 0 rfl) ?_
      refine va_get (D := E.1) (ci := 3) (v := .ref a_elements) (C := RX3) (T := TX3) (N := 3) hx hb hts iX3_holdRow_X3 hown hK hP 0 rfl rfl 2 (by decide) (hts (.fieldLink RX3 18 "LeftIsAgreedOn$Shelves" "elements" "[J") (List.mem_of_getElem? (i := 3) rfl)) (fun _ h9 => h9) rfl dX3_holdRow_24 ?_
      refine lv_iload_n hx hb dX3_holdRow_27 rfl (lv_at hl 1 rfl) ?_
      refine lv_bipush (v := (40 : Int32)) hx hb dX3_holdRow_28 (by decide) ?_
      refine lv_imul hx hb dX3_holdRow_30 ?_
      refine lv_iload hx hb dX3_holdRow_31 (lv_at hl 3 rfl) ?_
      refine lv_iadd hx hb dX3_holdRow_33 ?_
      refine lv_lconst (v := (0 : Int64)) hx hb dX3_holdRow_34 (by decide) ?_
      obtain ⟨hz35, h⟩ := chk_of h
      refine st_l X hP hD hS 2 rfl (inb.vp hz35) (k := (((l1 * (40 : Int32)) + l4)).toNatClampNeg) rfl (ws1 := (W_X3_holdRow E a_t a_contents a_elements a_sizes c_contents (vp_updL c_elements ((((l1 * (40 : Int32)) + l4)).toNatClampNeg) (0 : Int64)) c_sizes)) rfl dX3_holdRow_35 (fun H locs hP hD hS => ?_)
      refine lv_iinc (v := (l4 + (1 : Int32))) (lv' := [(4, .int (l4 + (1 : Int32))), (0, .ref a_t), (1, .int l1), (3, .int l3)]) hx hb dX3_holdRow_36 hl (k := 3) rfl rfl (by decide) rfl (fun ls hl => ?_)
      refine lv_goto (tgt := 17) hx hb dX3_holdRow_39 (by decide) ?_
      exact ih c_contents (vp_updL c_elements ((((l1 * (40 : Int32)) + l4)).toNatClampNeg) (0 : Int64)) c_sizes l1 l3 (l4 + (1 : Int32)) _ _ _ h hP hD hS (lv_sub hl [1, 2, 3, 0] rfl)
set_option maxRecDepth 100000 in
set_option maxHeartbeats 4000000 in
theorem w_X3_holdRow (X : Ctx p m meth c cX3_holdRow 5 none s args wsX3_holdRow RX3 E A) (a_t : Nat) (a_contents : Nat) (a_elements : Nat) (a_sizes : Nat) (res : (Nat → Int32) × (Nat → Int64) × (Nat → Int32)) (c_contents : Nat → Int32) (c_elements : Nat → Int64) (c_sizes : Nat → Int32) (l1 : Int32) (l2 : Int32) (l3 : Int32) (ls : Array Slot) (H : Heap) (locs : List Loc) (h : f_X3_holdRow l1 l2 l3 c_contents c_elements c_sizes = some res) (hP : va_P E.1 vwCl (W_X3_holdRow E a_t a_contents a_elements a_sizes c_contents c_elements c_sizes) H) (hD : va_D A (W_X3_holdRow E a_t a_contents a_elements a_sizes c_contents c_elements c_sizes)) (hS : va_S A s.heap H locs) (hl : lv_has ls 5 [(0, .ref a_t), (1, .int l1), (2, .int l2), (3, .int l3)]) : W p l e r_X3_holdRow s m args below meth c H locs 0 0 (MQ below (qV E A (W_X3_holdRow E a_t a_contents a_elements a_sizes (res.1) (res.2.1) (res.2.2))) args s 0 0 A) (F0 m 0 ls []) := by
  obtain ⟨hx, hb, hml, hr, hlk, hown, hts, hG, hA⟩ := id X
  have hK := hG.1
  have hN := hG.2.1
  unfold f_X3_holdRow at h
  refine lv_aload_n hx hb dX3_holdRow_0 rfl (lv_at hl 0 rfl) ?_
  refine va_get (D := E.1) (ci := 3) (v := .ref a_contents) (C := RX3) (T := TX3) (N := 3) hx hb hts iX3_holdRow_X3 hown hK hP 0 rfl rfl 0 (by decide) (hts (.fieldLink RX3 9 "LeftIsAgreedOn$Shelves" "contents" "[I") (List.mem_of_getElem? (i := 1) rfl)) (fun _ h9 => h9) rfl dX3_holdRow_1 ?_
  refine lv_iload_n hx hb dX3_holdRow_4 rfl (lv_at hl 1 rfl) ?_
  refine lv_iload_n hx hb dX3_holdRow_5 rfl (lv_at hl 2 rfl) ?_
  obtain ⟨hz6, h⟩ := chk_of h
  refine st_i X hP hD hS 1 rfl (inb.vp hz6) (k := (l1).toNatClampNeg) rfl (ws1 := (W_X3_holdRow E a_t a_contents a_elements a_sizes (upd c_contents ((l1).toNatClampNeg) l2) c_elements c_sizes)) rfl dX3_holdRow_6 (fun H locs hP hD hS => ?_)
  refine lv_aload_n hx hb dX3_holdRow_7 rfl (lv_at hl 0 rfl) ?_
  refine va_get (D := E.1) (ci := 3) (v := .ref a_sizes) (C := RX3) (T := TX3) (N := 3) hx hb hts iX3_holdRow_X3 hown hK hP 0 rfl rfl 1 (by decide) (hts (.fieldLink RX3 15 "LeftIsAgreedOn$Shelves" "sizes" "[I") (List.mem_of_getElem? (i := 2) rfl)) (fun _ h9 => h9) rfl dX3_holdRow_8 ?_
  refine lv_iload_n hx hb dX3_holdRow_11 rfl (lv_at hl 1 rfl) ?_
  refine lv_iload_n hx hb dX3_holdRow_12 rfl (lv_at hl 3 rfl) ?_
  obtain ⟨hz13, h⟩ := chk_of h
  refine st_i X hP hD hS 3 rfl (inb.vp hz13) (k := (l1).toNatClampNeg) rfl (ws1 := (W_X3_holdRow E a_t a_contents a_elements a_sizes (upd c_contents ((l1).toNatClampNeg) l2) c_elements (upd c_sizes ((l1).toNatClampNeg) l3))) rfl dX3_holdRow_13 (fun H locs hP hD hS => ?_)
  refine lv_iconst (v := (0 : Int32)) hx hb dX3_holdRow_14 (by decide) ?_
  refine lv_istore (lv' := [(4, .int (0 : Int32)), (0, .ref a_t), (1, .int l1), (2, .int l2), (3, .int l3)]) hx hb dX3_holdRow_15 hl (by decide) rfl (fun ls hl => ?_)
  exact w_X3_holdRow_b17 X a_t a_contents a_elements a_sizes res FU (upd c_contents ((l1).toNatClampNeg) l2) c_elements (upd c_sizes ((l1).toNatClampNeg) l3) l1 l3 (0 : Int32) _ _ _ h hP hD hS (lv_sub hl [1, 2, 4, 0] rfl)
end
set_option maxRecDepth 100000 in
theorem c_X3_holdRow (l : Launch) (E : Env0) (a_t : Nat) (a_contents : Nat) (a_elements : Nat) (a_sizes : Nat) (l1 : Int32) (l2 : Int32) (l3 : Int32) (c_contents : Nat → Int32) (c_elements : Nat → Int64) (c_sizes : Nat → Int32) (sz : Nat) (res : (Nat → Int32) × (Nat → Int64) × (Nat → Int32)) (h : f_X3_holdRow l1 l2 l3 c_contents c_elements c_sizes = some res) : Met l yX3_holdRow wsX3_holdRow r_X3_holdRow (cPre E [.ref a_t, .int l1, .int l2, .int l3] (W_X3_holdRow E a_t a_contents a_elements a_sizes c_contents c_elements c_sizes) sz) (qV E (va_A (W_X3_holdRow E a_t a_contents a_elements a_sizes c_contents c_elements c_sizes) sz) (W_X3_holdRow E a_t a_contents a_elements a_sizes (res.1) (res.2.1) (res.2.2))) 0 0 (va_A (W_X3_holdRow E a_t a_contents a_elements a_sizes c_contents c_elements c_sizes) sz) :=
  met_of (Qc := fun A => qV E A (W_X3_holdRow E a_t a_contents a_elements a_sizes (res.1) (res.2.1) (res.2.2))) (by decide) rfl (Nat.le_of_ble_eq_true rfl) (fun p e s m args below meth c X hP hD hS ls hl => w_X3_holdRow X a_t a_contents a_elements a_sizes res c_contents c_elements c_sizes l1 l2 l3 ls _ _ h hP hD hS hl)
-- ===== X3_asSort
noncomputable abbrev W_X3_asSort (E : Env0) : va_W := []
noncomputable abbrev r_X3_asSort : Room := { frames := 0, cells := 0, slots := 0, locals := 0 }
theorem hd_X3_asSort : yX3_asSort.cls ≠ "java/lang/invoke/MethodHandle" ∧ yX3_asSort.cls ≠ "java/lang/invoke/VarHandle" ∧ (parseMethodDescriptor yX3_asSort.desc).map (fun d => d.parameters.length) = some 2 := by decide +kernel
section
variable {p : Program} {l : Launch} {e : Env} {s : State} {m : MethodId} {args : Array Value} {below : List Frame} {meth : Method} {c : Code} {E : Env0} {A : Nat → Prop}
set_option maxRecDepth 100000 in
set_option maxHeartbeats 4000000 in
theorem w_X3_asSort (X : Ctx p m meth c cX3_asSort 3 ((some .long)) s args wsX3_asSort RX3 E A) (res : Int64) (l0 : Int32) (l1 : Int64) (ls : Array Slot) (H : Heap) (locs : List Loc) (h : f_X3_asSort l0 l1 = some res) (hP : va_P E.1 vwCl (W_X3_asSort E) H) (hD : va_D A (W_X3_asSort E)) (hS : va_S A s.heap H locs) (hl : lv_has ls 3 [(0, .int l0), (1, .long l1)]) : W p l e r_X3_asSort s m args below meth c H locs 0 0 (MQ below (qL E A res (W_X3_asSort E)) args s 0 0 A) (F0 m 0 ls []) := by
  obtain ⟨hx, hb, hml, hr, hlk, hown, hts, hG, hA⟩ := id X
  have hK := hG.1
  have hN := hG.2.1
  unfold f_X3_asSort at h
  refine lv_iload_n hx hb dX3_asSort_0 rfl (lv_at hl 0 rfl) ?_
  by_cases hs1_0 : l0 = (0 : Int32)
  · have h := if_t h hs1_0
    refine lv_tableIn (off := (35)) (tgt := 36) hx hb dX3_asSort_1 (by rw [hs1_0]; decide) (by rw [hs1_0]; decide) (by rw [hs1_0]; rfl) (by decide) ?_
    refine lv_lload_n hx hb dX3_asSort_36 rfl (lv_at hl 1 rfl) ?_
    refine lv_l2i (v := (l1.toInt32)) hx hb dX3_asSort_37 rfl ?_
    refine lv_i2b (v := ((l1.toInt32).toInt8.toInt32)) hx hb dX3_asSort_38 rfl ?_
    refine lv_i2l (v := (((l1.toInt32).toInt8.toInt32).toInt64)) hx hb dX3_asSort_39 rfl ?_
    obtain rfl := Option.some.inj h
    exact ret_l X dX3_asSort_40 hP hD hS rfl
  · have h := if_f h hs1_0
    by_cases hs1_1 : l0 = (1 : Int32)
    · have h := if_t h hs1_1
      refine lv_tableIn (off := (40)) (tgt := 41) hx hb dX3_asSort_1 (by rw [hs1_1]; decide) (by rw [hs1_1]; decide) (by rw [hs1_1]; rfl) (by decide) ?_
      refine lv_lload_n hx hb dX3_asSort_41 rfl (lv_at hl 1 rfl) ?_
      refine lv_l2i (v := (l1.toInt32)) hx hb dX3_asSort_42 rfl ?_
      refine lv_i2s (v := ((l1.toInt32).toInt16.toInt32)) hx hb dX3_asSort_43 rfl ?_
      refine lv_i2l (v := (((l1.toInt32).toInt16.toInt32).toInt64)) hx hb dX3_asSort_44 rfl ?_
      obtain rfl := Option.some.inj h
      exact ret_l X dX3_asSort_45 hP hD hS rfl
    · have h := if_f h hs1_1
      by_cases hs1_2 : l0 = (2 : Int32)
      · have h := if_t h hs1_2
        refine lv_tableIn (off := (45)) (tgt := 46) hx hb dX3_asSort_1 (by rw [hs1_2]; decide) (by rw [hs1_2]; decide) (by rw [hs1_2]; rfl) (by decide) ?_
        refine lv_lload_n hx hb dX3_asSort_46 rfl (lv_at hl 1 rfl) ?_
        refine lv_l2i (v := (l1.toInt32)) hx hb dX3_asSort_47 rfl ?_
        refine lv_i2l (v := ((l1.toInt32).toInt64)) hx hb dX3_asSort_48 rfl ?_
        obtain rfl := Option.some.inj h
        exact ret_l X dX3_asSort_49 hP hD hS rfl
      · have h := if_f h hs1_2
        by_cases hs1_3 : l0 = (3 : Int32)
        · have h := if_t h hs1_3
          refine lv_tableIn (off := (61)) (tgt := 62) hx hb dX3_asSort_1 (by rw [hs1_3]; decide) (by rw [hs1_3]; decide) (by rw [hs1_3]; rfl) (by decide) ?_
          refine lv_lload_n hx hb dX3_asSort_62 rfl (lv_at hl 1 rfl) ?_
          obtain rfl := Option.some.inj h
          exact ret_l X dX3_asSort_63 hP hD hS rfl
        · have h := if_f h hs1_3
          by_cases hs1_4 : l0 = (4 : Int32)
          · have h := if_t h hs1_4
            refine lv_tableIn (off := (49)) (tgt := 50) hx hb dX3_asSort_1 (by rw [hs1_4]; decide) (by rw [hs1_4]; decide) (by rw [hs1_4]; rfl) (by decide) ?_
            refine lv_lload_n hx hb dX3_asSort_50 rfl (lv_at hl 1 rfl) ?_
            refine lv_lconst (v := (0 : Int64)) hx hb dX3_asSort_51 (by decide) ?_
            refine W.lcmp hx hb dX3_asSort_52 ?_
            refine lv_if_eq (tgt := 60) hx hb dX3_asSort_53 (by decide) (fun hc53 => ?_) (fun hc53 => ?_)
            · have h := if_t h hc53
              refine lv_lconst (v := (0 : Int64)) hx hb dX3_asSort_60 (by decide) ?_
              obtain rfl := Option.some.inj h
              exact ret_l X dX3_asSort_61 hP hD hS rfl
            · have h := if_f h hc53
              refine lv_lconst (v := (1 : Int64)) hx hb dX3_asSort_56 (by decide) ?_
              refine lv_goto (tgt := 61) hx hb dX3_asSort_57 (by decide) ?_
              obtain rfl := Option.some.inj h
              exact ret_l X dX3_asSort_61 hP hD hS rfl
          · have h := if_f h hs1_4
            refine lv_tableOut (tgt := 62) hx hb dX3_asSort_1 (tsw_0_4 hs1_0 hs1_1 hs1_2 hs1_3 hs1_4) (by decide) ?_
            refine lv_lload_n hx hb dX3_asSort_62 rfl (lv_at hl 1 rfl) ?_
            obtain rfl := Option.some.inj h
            exact ret_l X dX3_asSort_63 hP hD hS rfl
end
set_option maxRecDepth 100000 in
theorem c_X3_asSort (l : Launch) (E : Env0) (l0 : Int32) (l1 : Int64) (sz : Nat) (res : Int64) (h : f_X3_asSort l0 l1 = some res) : Met l yX3_asSort wsX3_asSort r_X3_asSort (cPre E [.int l0, .long l1] (W_X3_asSort E) sz) (qL E (va_A (W_X3_asSort E) sz) res (W_X3_asSort E)) 0 0 (va_A (W_X3_asSort E) sz) :=
  met_of (Qc := fun A => qL E A res (W_X3_asSort E)) (by decide) rfl (Nat.le_of_ble_eq_true rfl) (fun p e s m args below meth c X hP hD hS ls hl => w_X3_asSort X res l0 l1 ls _ _ h hP hD hS hl)
-- ===== X3_store
noncomputable abbrev W_X3_store (E : Env0) (a_t : Nat) (a_contents : Nat) (a_elements : Nat) (a_sizes : Nat) (c_contents : Nat → Int32) (c_elements : Nat → Int64) : va_W := [(a_t, .inr (3, [.ref a_contents, .ref a_sizes, .ref a_elements])), (a_contents, .inl (eI E, 8, .inl c_contents)), (a_elements, .inl (eJ E, 320, .inr (.inl c_elements)))]
noncomputable abbrev r_X3_store : Room := { frames := 1, cells := 0, slots := 0, locals := 22 }
theorem hd_X3_store : yX3_store.cls ≠ "java/lang/invoke/MethodHandle" ∧ yX3_store.cls ≠ "java/lang/invoke/VarHandle" ∧ (parseMethodDescriptor yX3_store.desc).map (fun d => d.parameters.length) = some 3 := by decide +kernel
theorem hV_X3_store : yX3_store.cls = RX3 ∧ yX3_store.cls ≠ "java/lang/invoke/MethodHandle" ∧ yX3_store.cls ≠ "java/lang/invoke/VarHandle" ∧ (parseMethodDescriptor yX3_store.desc).map (fun d => d.parameters.length) = some 3 := ⟨rfl, hd_X3_store⟩
theorem iX3_store_X3 : ∀ w ∈ wsX30, w ∈ wsX3_store := fun _ h => List.mem_cons_of_mem _ (List.mem_append_right _ (h))
section
variable {p : Program} {l : Launch} {e : Env} {s : State} {m : MethodId} {args : Array Value} {below : List Frame} {meth : Method} {c : Code} {E : Env0} {A : Nat → Prop}
set_option maxRecDepth 100000 in
set_option maxHeartbeats 4000000 in
theorem w_X3_store (X : Ctx p m meth c cX3_store 5 none s args wsX3_store RX3 E A) (a_t : Nat) (a_contents : Nat) (a_elements : Nat) (a_sizes : Nat) (c_contents : Nat → Int32) (res : (Nat → Int64)) (c_elements : Nat → Int64) (l1 : Int32) (l2 : Int32) (l3 : Int64) (ls : Array Slot) (H : Heap) (locs : List Loc) (h : f_X3_store l1 l2 l3 c_contents c_elements = some res) (hP : va_P E.1 vwCl (W_X3_store E a_t a_contents a_elements a_sizes c_contents c_elements) H) (hD : va_D A (W_X3_store E a_t a_contents a_elements a_sizes c_contents c_elements)) (hS : va_S A s.heap H locs) (hl : lv_has ls 5 [(0, .ref a_t), (1, .int l1), (2, .int l2), (3, .long l3)]) : W p l e r_X3_store s m args below meth c H locs 0 0 (MQ below (qV E A (W_X3_store E a_t a_contents a_elements a_sizes c_contents res)) args s 0 0 A) (F0 m 0 ls []) := by
  obtain ⟨hx, hb, hml, hr, hlk, hown, hts, hG, hA⟩ := id X
  have hK := hG.1
  have hN := hG.2.1
  unfold f_X3_store at h
  refine lv_aload_n hx hb dX3_store_0 rfl (lv_at hl 0 rfl) ?_
  refine va_get (D := E.1) (ci := 3) (v := .ref a_elements) (C := RX3) (T := TX3) (N := 3) hx hb hts iX3_store_X3 hown hK hP 0 rfl rfl 2 (by decide) (hts (.fieldLink RX3 18 "LeftIsAgreedOn$Shelves" "elements" "[J") (List.mem_of_getElem? (i := 1) rfl)) (fun _ h9 => h9) rfl dX3_store_1 ?_
  refine lv_iload_n hx hb dX3_store_4 rfl (lv_at hl 1 rfl) ?_
  refine lv_bipush (v := (40 : Int32)) hx hb dX3_store_5 (by decide) ?_
  refine lv_imul hx hb dX3_store_7 ?_
  refine lv_iload_n hx hb dX3_store_8 rfl (lv_at hl 2 rfl) ?_
  refine lv_iadd hx hb dX3_store_9 ?_
  refine lv_aload_n hx hb dX3_store_10 rfl (lv_at hl 0 rfl) ?_
  refine va_get (D := E.1) (ci := 3) (v := .ref a_contents) (C := RX3) (T := TX3) (N := 3) hx hb hts iX3_store_X3 hown hK hP 0 rfl rfl 0 (by decide) (hts (.fieldLink RX3 9 "LeftIsAgreedOn$Shelves" "contents" "[I") (List.mem_of_getElem? (i := 2) rfl)) (fun _ h9 => h9) rfl dX3_store_11 ?_
  refine lv_iload_n hx hb dX3_store_14 rfl (lv_at hl 1 rfl) ?_
  obtain ⟨hz15, h⟩ := chk_of h
  refine ld_i X hP 1 rfl (inb.vp hz15) (v := (c_contents (l1).toNatClampNeg)) rfl dX3_store_15 ?_
  refine lv_lload_n hx hb dX3_store_16 rfl (lv_at hl 3 rfl) ?_
  obtain ⟨v1, hv1, h⟩ := bind_of h
  refine after_l X (run_S X (c_X3_asSort l E (c_contents (l1).toNatClampNeg) l3 H.size v1 hv1) (va_cwS 2 hts gX3_store_X3_asSort rfl rfl rfl hd_X3_asSort ⟨(Nat.le_of_ble_eq_true rfl), (Nat.le_of_ble_eq_true rfl)⟩) hP hD hS [] rfl rfl hl.1 (rest := [.int ((l1 * (40 : Int32)) + l2), .ref a_elements]) rfl rfl (Nat.le_of_ble_eq_true rfl) dX3_store_17) hP hD hS [] rfl (ws1 := (W_X3_store E a_t a_contents a_elements a_sizes c_contents c_elements)) rfl (fun H locs hP hD hS => ?_)
  obtain ⟨hz20, h⟩ := chk_of h
  refine st_l X hP hD hS 2 rfl (inb.vp hz20) (k := (((l1 * (40 : Int32)) + l2)).toNatClampNeg) rfl (ws1 := (W_X3_store E a_t a_contents a_elements a_sizes c_contents (vp_updL c_elements ((((l1 * (40 : Int32)) + l2)).toNatClampNeg) v1))) rfl dX3_store_20 (fun H locs hP hD hS => ?_)
  obtain rfl := Option.some.inj h
  exact ret_v X dX3_store_21 hP hD hS
end
set_option maxRecDepth 100000 in
theorem c_X3_store (l : Launch) (E : Env0) (a_t : Nat) (a_contents : Nat) (a_elements : Nat) (a_sizes : Nat) (l1 : Int32) (l2 : Int32) (l3 : Int64) (c_contents : Nat → Int32) (c_elements : Nat → Int64) (sz : Nat) (res : (Nat → Int64)) (h : f_X3_store l1 l2 l3 c_contents c_elements = some res) : Met l yX3_store wsX3_store r_X3_store (cPre E [.ref a_t, .int l1, .int l2, .long l3] (W_X3_store E a_t a_contents a_elements a_sizes c_contents c_elements) sz) (qV E (va_A (W_X3_store E a_t a_contents a_elements a_sizes c_contents c_elements) sz) (W_X3_store E a_t a_contents a_elements a_sizes c_contents res)) 0 0 (va_A (W_X3_store E a_t a_contents a_elements a_sizes c_contents c_elements) sz) :=
  met_of (Qc := fun A => qV E A (W_X3_store E a_t a_contents a_elements a_sizes c_contents res)) (by decide) rfl (Nat.le_of_ble_eq_true rfl) (fun p e s m args below meth c X hP hD hS ls hl => w_X3_store X a_t a_contents a_elements a_sizes c_contents res c_elements l1 l2 l3 ls _ _ h hP hD hS hl)
-- ===== X3_elementAt
noncomputable abbrev W_X3_elementAt (E : Env0) (a_t : Nat) (a_elements : Nat) (a_contents : Nat) (a_sizes : Nat) (c_elements : Nat → Int64) : va_W := [(a_t, .inr (3, [.ref a_contents, .ref a_sizes, .ref a_elements])), (a_elements, .inl (eJ E, 320, .inr (.inl c_elements)))]
noncomputable abbrev r_X3_elementAt : Room := { frames := 0, cells := 0, slots := 0, locals := 0 }
theorem hd_X3_elementAt : yX3_elementAt.cls ≠ "java/lang/invoke/MethodHandle" ∧ yX3_elementAt.cls ≠ "java/lang/invoke/VarHandle" ∧ (parseMethodDescriptor yX3_elementAt.desc).map (fun d => d.parameters.length) = some 2 := by decide +kernel
theorem hV_X3_elementAt : yX3_elementAt.cls = RX3 ∧ yX3_elementAt.cls ≠ "java/lang/invoke/MethodHandle" ∧ yX3_elementAt.cls ≠ "java/lang/invoke/VarHandle" ∧ (parseMethodDescriptor yX3_elementAt.desc).map (fun d => d.parameters.length) = some 2 := ⟨rfl, hd_X3_elementAt⟩
theorem iX3_elementAt_X3 : ∀ w ∈ wsX30, w ∈ wsX3_elementAt := fun _ h => List.mem_cons_of_mem _ (List.mem_append_right _ (h))
section
variable {p : Program} {l : Launch} {e : Env} {s : State} {m : MethodId} {args : Array Value} {below : List Frame} {meth : Method} {c : Code} {E : Env0} {A : Nat → Prop}
set_option maxRecDepth 100000 in
set_option maxHeartbeats 4000000 in
theorem w_X3_elementAt (X : Ctx p m meth c cX3_elementAt 3 ((some .long)) s args wsX3_elementAt RX3 E A) (a_t : Nat) (a_elements : Nat) (a_contents : Nat) (a_sizes : Nat) (c_elements : Nat → Int64) (res : Int64) (l1 : Int32) (l2 : Int32) (ls : Array Slot) (H : Heap) (locs : List Loc) (h : f_X3_elementAt l1 l2 c_elements = some res) (hP : va_P E.1 vwCl (W_X3_elementAt E a_t a_elements a_contents a_sizes c_elements) H) (hD : va_D A (W_X3_elementAt E a_t a_elements a_contents a_sizes c_elements)) (hS : va_S A s.heap H locs) (hl : lv_has ls 3 [(0, .ref a_t), (1, .int l1), (2, .int l2)]) : W p l e r_X3_elementAt s m args below meth c H locs 0 0 (MQ below (qL E A res (W_X3_elementAt E a_t a_elements a_contents a_sizes c_elements)) args s 0 0 A) (F0 m 0 ls []) := by
  obtain ⟨hx, hb, hml, hr, hlk, hown, hts, hG, hA⟩ := id X
  have hK := hG.1
  have hN := hG.2.1
  unfold f_X3_elementAt at h
  refine lv_aload_n hx hb dX3_elementAt_0 rfl (lv_at hl 0 rfl) ?_
  refine va_get (D := E.1) (ci := 3) (v := .ref a_elements) (C := RX3) (T := TX3) (N := 3) hx hb hts iX3_elementAt_X3 hown hK hP 0 rfl rfl 2 (by decide) (hts (.fieldLink RX3 18 "LeftIsAgreedOn$Shelves" "elements" "[J") (List.mem_of_getElem? (i := 1) rfl)) (fun _ h9 => h9) rfl dX3_elementAt_1 ?_
  refine lv_iload_n hx hb dX3_elementAt_4 rfl (lv_at hl 1 rfl) ?_
  refine lv_bipush (v := (40 : Int32)) hx hb dX3_elementAt_5 (by decide) ?_
  refine lv_imul hx hb dX3_elementAt_7 ?_
  refine lv_iload_n hx hb dX3_elementAt_8 rfl (lv_at hl 2 rfl) ?_
  refine lv_iadd hx hb dX3_elementAt_9 ?_
  obtain ⟨hz10, h⟩ := chk_of h
  refine ld_l X hP 1 rfl (inb.vp hz10) (v := (c_elements (((l1 * (40 : Int32)) + l2)).toNatClampNeg)) rfl dX3_elementAt_10 ?_
  obtain rfl := Option.some.inj h
  exact ret_l X dX3_elementAt_11 hP hD hS rfl
end
set_option maxRecDepth 100000 in
theorem c_X3_elementAt (l : Launch) (E : Env0) (a_t : Nat) (a_elements : Nat) (a_contents : Nat) (a_sizes : Nat) (l1 : Int32) (l2 : Int32) (c_elements : Nat → Int64) (sz : Nat) (res : Int64) (h : f_X3_elementAt l1 l2 c_elements = some res) : Met l yX3_elementAt wsX3_elementAt r_X3_elementAt (cPre E [.ref a_t, .int l1, .int l2] (W_X3_elementAt E a_t a_elements a_contents a_sizes c_elements) sz) (qL E (va_A (W_X3_elementAt E a_t a_elements a_contents a_sizes c_elements) sz) res (W_X3_elementAt E a_t a_elements a_contents a_sizes c_elements)) 0 0 (va_A (W_X3_elementAt E a_t a_elements a_contents a_sizes c_elements) sz) :=
  met_of (Qc := fun A => qL E A res (W_X3_elementAt E a_t a_elements a_contents a_sizes c_elements)) (by decide) rfl (Nat.le_of_ble_eq_true rfl) (fun p e s m args below meth c X hP hD hS ls hl => w_X3_elementAt X a_t a_elements a_contents a_sizes c_elements res l1 l2 ls _ _ h hP hD hS hl)
-- ===== X3_signAt
noncomputable abbrev W_X3_signAt (E : Env0) (a_t : Nat) (a_elements : Nat) (a_contents : Nat) (a_sizes : Nat) (c_elements : Nat → Int64) : va_W := [(a_t, .inr (3, [.ref a_contents, .ref a_sizes, .ref a_elements])), (a_elements, .inl (eJ E, 320, .inr (.inl c_elements)))]
noncomputable abbrev r_X3_signAt : Room := { frames := 0, cells := 0, slots := 0, locals := 0 }
theorem hd_X3_signAt : yX3_signAt.cls ≠ "java/lang/invoke/MethodHandle" ∧ yX3_signAt.cls ≠ "java/lang/invoke/VarHandle" ∧ (parseMethodDescriptor yX3_signAt.desc).map (fun d => d.parameters.length) = some 2 := by decide +kernel
theorem hV_X3_signAt : yX3_signAt.cls = RX3 ∧ yX3_signAt.cls ≠ "java/lang/invoke/MethodHandle" ∧ yX3_signAt.cls ≠ "java/lang/invoke/VarHandle" ∧ (parseMethodDescriptor yX3_signAt.desc).map (fun d => d.parameters.length) = some 2 := ⟨rfl, hd_X3_signAt⟩
theorem iX3_signAt_X3 : ∀ w ∈ wsX30, w ∈ wsX3_signAt := fun _ h => List.mem_cons_of_mem _ (List.mem_append_right _ (h))
section
variable {p : Program} {l : Launch} {e : Env} {s : State} {m : MethodId} {args : Array Value} {below : List Frame} {meth : Method} {c : Code} {E : Env0} {A : Nat → Prop}
set_option maxRecDepth 100000 in
set_option maxHeartbeats 4000000 in
theorem w_X3_signAt (X : Ctx p m meth c cX3_signAt 3 ((some .int)) s args wsX3_signAt RX3 E A) (a_t : Nat) (a_elements : Nat) (a_contents : Nat) (a_sizes : Nat) (c_elements : Nat → Int64) (res : Int32) (l1 : Int32) (l2 : Int32) (ls : Array Slot) (H : Heap) (locs : List Loc) (h : f_X3_signAt l1 l2 c_elements = some res) (hP : va_P E.1 vwCl (W_X3_signAt E a_t a_elements a_contents a_sizes c_elements) H) (hD : va_D A (W_X3_signAt E a_t a_elements a_contents a_sizes c_elements)) (hS : va_S A s.heap H locs) (hl : lv_has ls 3 [(0, .ref a_t), (1, .int l1), (2, .int l2)]) : W p l e r_X3_signAt s m args below meth c H locs 0 0 (MQ below (qI E A res (W_X3_signAt E a_t a_elements a_contents a_sizes c_elements)) args s 0 0 A) (F0 m 0 ls []) := by
  obtain ⟨hx, hb, hml, hr, hlk, hown, hts, hG, hA⟩ := id X
  have hK := hG.1
  have hN := hG.2.1
  unfold f_X3_signAt at h
  refine lv_aload_n hx hb dX3_signAt_0 rfl (lv_at hl 0 rfl) ?_
  refine va_get (D := E.1) (ci := 3) (v := .ref a_elements) (C := RX3) (T := TX3) (N := 3) hx hb hts iX3_signAt_X3 hown hK hP 0 rfl rfl 2 (by decide) (hts (.fieldLink RX3 18 "LeftIsAgreedOn$Shelves" "elements" "[J") (List.mem_of_getElem? (i := 1) rfl)) (fun _ h9 => h9) rfl dX3_signAt_1 ?_
  refine lv_iload_n hx hb dX3_signAt_4 rfl (lv_at hl 1 rfl) ?_
  refine lv_bipush (v := (40 : Int32)) hx hb dX3_signAt_5 (by decide) ?_
  refine lv_imul hx hb dX3_signAt_7 ?_
  refine lv_iload_n hx hb dX3_signAt_8 rfl (lv_at hl 2 rfl) ?_
  refine lv_iadd hx hb dX3_signAt_9 ?_
  obtain ⟨hz10, h⟩ := chk_of h
  refine ld_l X hP 1 rfl (inb.vp hz10) (v := (c_elements (((l1 * (40 : Int32)) + l2)).toNatClampNeg)) rfl dX3_signAt_10 ?_
  refine lv_l2i (v := ((c_elements (((l1 * (40 : Int32)) + l2)).toNatClampNeg).toInt32)) hx hb dX3_signAt_11 rfl ?_
  obtain rfl := Option.some.inj h
  exact ret_i X dX3_signAt_12 hP hD hS rfl
end
set_option maxRecDepth 100000 in
theorem c_X3_signAt (l : Launch) (E : Env0) (a_t : Nat) (a_elements : Nat) (a_contents : Nat) (a_sizes : Nat) (l1 : Int32) (l2 : Int32) (c_elements : Nat → Int64) (sz : Nat) (res : Int32) (h : f_X3_signAt l1 l2 c_elements = some res) : Met l yX3_signAt wsX3_signAt r_X3_signAt (cPre E [.ref a_t, .int l1, .int l2] (W_X3_signAt E a_t a_elements a_contents a_sizes c_elements) sz) (qI E (va_A (W_X3_signAt E a_t a_elements a_contents a_sizes c_elements) sz) res (W_X3_signAt E a_t a_elements a_contents a_sizes c_elements)) 0 0 (va_A (W_X3_signAt E a_t a_elements a_contents a_sizes c_elements) sz) :=
  met_of (Qc := fun A => qI E A res (W_X3_signAt E a_t a_elements a_contents a_sizes c_elements)) (by decide) rfl (Nat.le_of_ble_eq_true rfl) (fun p e s m args below meth c X hP hD hS ls hl => w_X3_signAt X a_t a_elements a_contents a_sizes c_elements res l1 l2 ls _ _ h hP hD hS hl)
-- ===== X3_move
noncomputable abbrev W_X3_move (E : Env0) (a_t : Nat) (a_elements : Nat) (a_contents : Nat) (a_sizes : Nat) (c_elements : Nat → Int64) : va_W := [(a_t, .inr (3, [.ref a_contents, .ref a_sizes, .ref a_elements])), (a_elements, .inl (eJ E, 320, .inr (.inl c_elements)))]
noncomputable abbrev r_X3_move : Room := { frames := 1, cells := 0, slots := 0, locals := 48 }
theorem hd_X3_move : yX3_move.cls ≠ "java/lang/invoke/MethodHandle" ∧ yX3_move.cls ≠ "java/lang/invoke/VarHandle" ∧ (parseMethodDescriptor yX3_move.desc).map (fun d => d.parameters.length) = some 5 := by decide +kernel
theorem hV_X3_move : yX3_move.cls = RX3 ∧ yX3_move.cls ≠ "java/lang/invoke/MethodHandle" ∧ yX3_move.cls ≠ "java/lang/invoke/VarHandle" ∧ (parseMethodDescriptor yX3_move.desc).map (fun d => d.parameters.length) = some 5 := ⟨rfl, hd_X3_move⟩
theorem iX3_move_X3 : ∀ w ∈ wsX30, w ∈ wsX3_move := fun _ h => List.mem_cons_of_mem _ (List.mem_append_right _ (h))
section
variable {p : Program} {l : Launch} {e : Env} {s : State} {m : MethodId} {args : Array Value} {below : List Frame} {meth : Method} {c : Code} {E : Env0} {A : Nat → Prop}
set_option maxRecDepth 100000 in
set_option maxHeartbeats 4000000 in
theorem w_X3_move (X : Ctx p m meth c cX3_move 6 none s args wsX3_move RX3 E A) (a_t : Nat) (a_elements : Nat) (a_contents : Nat) (a_sizes : Nat) (res : (Nat → Int64)) (c_elements : Nat → Int64) (l1 : Int32) (l2 : Int32) (l3 : Int32) (l4 : Int32) (l5 : Int32) (ls : Array Slot) (H : Heap) (locs : List Loc) (h : f_X3_move l1 l2 l3 l4 l5 c_elements = some res) (hP : va_P E.1 vwCl (W_X3_move E a_t a_elements a_contents a_sizes c_elements) H) (hD : va_D A (W_X3_move E a_t a_elements a_contents a_sizes c_elements)) (hS : va_S A s.heap H locs) (hl : lv_has ls 6 [(0, .ref a_t), (1, .int l1), (2, .int l2), (3, .int l3), (4, .int l4), (5, .int l5)]) : W p l e r_X3_move s m args below meth c H locs 0 0 (MQ below (qV E A (W_X3_move E a_t a_elements a_contents a_sizes res)) args s 0 0 A) (F0 m 0 ls []) := by
  obtain ⟨hx, hb, hml, hr, hlk, hown, hts, hG, hA⟩ := id X
  have hK := hG.1
  have hN := hG.2.1
  unfold f_X3_move at h
  refine lv_aload_n hx hb dX3_move_0 rfl (lv_at hl 0 rfl) ?_
  refine va_get (D := E.1) (ci := 3) (v := .ref a_elements) (C := RX3) (T := TX3) (N := 3) hx hb hts iX3_move_X3 hown hK hP 0 rfl rfl 2 (by decide) (hts (.fieldLink RX3 18 "LeftIsAgreedOn$Shelves" "elements" "[J") (List.mem_of_getElem? (i := 1) rfl)) (fun _ h9 => h9) rfl dX3_move_1 ?_
  refine lv_iload_n hx hb dX3_move_4 rfl (lv_at hl 1 rfl) ?_
  refine lv_bipush (v := (40 : Int32)) hx hb dX3_move_5 (by decide) ?_
  refine lv_imul hx hb dX3_move_7 ?_
  refine lv_iload_n hx hb dX3_move_8 rfl (lv_at hl 3 rfl) ?_
  refine lv_iadd hx hb dX3_move_9 ?_
  refine lv_aload_n hx hb dX3_move_10 rfl (lv_at hl 0 rfl) ?_
  refine va_get (D := E.1) (ci := 3) (v := .ref a_elements) (C := RX3) (T := TX3) (N := 3) hx hb hts iX3_move_X3 hown hK hP 0 rfl rfl 2 (by decide) (hts (.fieldLink RX3 18 "LeftIsAgreedOn$Shelves" "elements" "[J") (List.mem_of_getElem? (i := 1) rfl)) (fun _ h9 => h9) rfl dX3_move_11 ?_
  refine lv_iload_n hx hb dX3_move_14 rfl (lv_at hl 2 rfl) ?_
  refine lv_bipush (v := (40 : Int32)) hx hb dX3_move_15 (by decide) ?_
  refine lv_imul hx hb dX3_move_17 ?_
  refine lv_iload hx hb dX3_move_18 (lv_at hl 4 rfl) ?_
  refine lv_iadd hx hb dX3_move_20 ?_
  refine lv_iload hx hb dX3_move_21 (lv_at hl 5 rfl) ?_
  obtain ⟨hz23, h⟩ := chk_of h
  refine va_copyl hx hb (hml.trans hl.1.symm) hown (hts (.methodLink RX3 34 arraycopyName) (List.mem_of_getElem? (i := 2) rfl)) (hts (.native arraycopyName) (List.mem_of_getElem? (i := 3) rfl)) (hts (.static arraycopyName) (List.mem_of_getElem? (i := 4) rfl)) (hts (.initialized "java/lang/System") (List.mem_of_getElem? (i := 5) rfl)) hK hP hD hS 1 1 2 2 rfl rfl rfl rfl rfl (Int32.not_lt.mpr hz23.1) (Int32.not_lt.mpr hz23.2.1) (Int32.not_lt.mpr hz23.2.2.1) hz23.2.2.2.1 hz23.2.2.2.2 (fun _ _ => rfl) (Nat.le_of_ble_eq_true rfl) (Nat.le_of_ble_eq_true rfl) dX3_move_23 (fun H locs hP hD hS => ?_)
  have hP : va_P E.1 vwCl (W_X3_move E a_t a_elements a_contents a_sizes (va_cpy c_elements c_elements (((l1 * (40 : Int32)) + l3)).toNatClampNeg (((l2 * (40 : Int32)) + l4)).toNatClampNeg (l5).toNatClampNeg)) H := hP
  have hD : va_D A (W_X3_move E a_t a_elements a_contents a_sizes (va_cpy c_elements c_elements (((l1 * (40 : Int32)) + l3)).toNatClampNeg (((l2 * (40 : Int32)) + l4)).toNatClampNeg (l5).toNatClampNeg)) := hD
  obtain rfl := Option.some.inj h
  exact ret_v X dX3_move_26 hP hD hS
end
set_option maxRecDepth 100000 in
theorem c_X3_move (l : Launch) (E : Env0) (a_t : Nat) (a_elements : Nat) (a_contents : Nat) (a_sizes : Nat) (l1 : Int32) (l2 : Int32) (l3 : Int32) (l4 : Int32) (l5 : Int32) (c_elements : Nat → Int64) (sz : Nat) (res : (Nat → Int64)) (h : f_X3_move l1 l2 l3 l4 l5 c_elements = some res) : Met l yX3_move wsX3_move r_X3_move (cPre E [.ref a_t, .int l1, .int l2, .int l3, .int l4, .int l5] (W_X3_move E a_t a_elements a_contents a_sizes c_elements) sz) (qV E (va_A (W_X3_move E a_t a_elements a_contents a_sizes c_elements) sz) (W_X3_move E a_t a_elements a_contents a_sizes res)) 0 0 (va_A (W_X3_move E a_t a_elements a_contents a_sizes c_elements) sz) :=
  met_of (Qc := fun A => qV E A (W_X3_move E a_t a_elements a_contents a_sizes res)) (by decide) rfl (Nat.le_of_ble_eq_true rfl) (fun p e s m args below meth c X hP hD hS ls hl => w_X3_move X a_t a_elements a_contents a_sizes res c_elements l1 l2 l3 l4 l5 ls _ _ h hP hD hS hl)
-- ===== X3_firstWrong
noncomputable abbrev W_X3_firstWrong (E : Env0) (a_t : Nat) (a_elements : Nat) (a_contents : Nat) (a_sizes : Nat) (c_elements : Nat → Int64) : va_W := [(a_t, .inr (3, [.ref a_contents, .ref a_sizes, .ref a_elements])), (a_elements, .inl (eJ E, 320, .inr (.inl c_elements)))]
noncomputable abbrev r_X3_firstWrong : Room := { frames := 1, cells := 0, slots := 0, locals := 22 }
theorem hd_X3_firstWrong : yX3_firstWrong.cls ≠ "java/lang/invoke/MethodHandle" ∧ yX3_firstWrong.cls ≠ "java/lang/invoke/VarHandle" ∧ (parseMethodDescriptor yX3_firstWrong.desc).map (fun d => d.parameters.length) = some 2 := by decide +kernel
theorem hV_X3_firstWrong : yX3_firstWrong.cls = RX3 ∧ yX3_firstWrong.cls ≠ "java/lang/invoke/MethodHandle" ∧ yX3_firstWrong.cls ≠ "java/lang/invoke/VarHandle" ∧ (parseMethodDescriptor yX3_firstWrong.desc).map (fun d => d.parameters.length) = some 2 := ⟨rfl, hd_X3_firstWrong⟩
section
variable {p : Program} {l : Launch} {e : Env} {s : State} {m : MethodId} {args : Array Value} {below : List Frame} {meth : Method} {c : Code} {E : Env0} {A : Nat → Prop}
set_option maxRecDepth 100000 in
set_option maxHeartbeats 4000000 in
theorem w_X3_firstWrong_b2 (X : Ctx p m meth c cX3_firstWrong 6 ((some .int)) s args wsX3_firstWrong RX3 E A) (a_t : Nat) (a_elements : Nat) (a_contents : Nat) (a_sizes : Nat) (c_elements : Nat → Int64) (res : Int32) : ∀ (n : Nat) (l1 : Int32) (l2 : Int32) (l3 : Int32) (ls : Array Slot) (H : Heap) (locs : List Loc), f_X3_firstWrong_b2 c_elements n l1 l2 l3 = some res → va_P E.1 vwCl (W_X3_firstWrong E a_t a_elements a_contents a_sizes c_elements) H → va_D A (W_X3_firstWrong E a_t a_elements a_contents a_sizes c_elements) → va_S A s.heap H locs → lv_has ls 6 [(0, .ref a_t), (1, .int l1), (2, .int l2), (3, .int l3)] → W p l e r_X3_firstWrong s m args below meth c H locs 0 0 (MQ below (qI E A res (W_X3_firstWrong E a_t a_elements a_contents a_sizes c_elements)) args s 0 0 A) (F0 m 2 ls []) := by
  obtain ⟨hx, hb, hml, hr, hlk, hown, hts, hG, hA⟩ := id X
  have hK := hG.1
  have hN := hG.2.1
  intro n
  induction n with
  | zero =>
    intro l1 l2 l3 ls H locs h
    exact absurd (show (none : Option (Int32)) = some res from h) (by intro q; cases q)
  | succ n ih =>
    intro l1 l2 l3 ls H locs h hP hD hS hl
    rw [f_X3_firstWrong_b2] at h
    refine lv_iload_n hx hb dX3_firstWrong_2 rfl (lv_at hl 3 rfl) ?_
    refine lv_iload_n hx hb dX3_firstWrong_3 rfl (lv_at hl 2 rfl) ?_
    refine lv_icmp_ge (tgt := 39) hx hb dX3_firstWrong_4 (by decide) (fun hc4 => ?_) (fun hc4 => ?_)
    · have h := if_t h hc4
      refine lv_iconst (v := (-1 : Int32)) hx hb dX3_firstWrong_39 (by decide) ?_
      obtain rfl := Option.some.inj h
      exact ret_i X dX3_firstWrong_40 hP hD hS rfl
    · have h := if_f h hc4
      refine lv_aload_n hx hb dX3_firstWrong_7 rfl (lv_at hl 0 rfl) ?_
      refine lv_iload_n hx hb dX3_firstWrong_8 rfl (lv_at hl 1 rfl) ?_
      refine lv_iload_n hx hb dX3_firstWrong_9 rfl (lv_at hl 3 rfl) ?_
      obtain ⟨v1, hv1, h⟩ := bind_of h
      refine after_l X (run_V X (c_X3_elementAt l E a_t a_elements a_contents a_sizes l1 l3 c_elements H.size v1 hv1) (cwV 2 hts gX3_firstWrong_X3_elementAt rfl rfl rfl hV_X3_elementAt ⟨(Nat.le_of_ble_eq_true rfl), (Nat.le_of_ble_eq_true rfl)⟩) hP hD hS [0, 1] rfl rfl hl.1 (ci := 3) rfl rfl rfl (rest := []) rfl rfl (Nat.le_of_ble_eq_true rfl) dX3_firstWrong_10) hP hD hS [0, 1] rfl (ws1 := (W_X3_firstWrong E a_t a_elements a_contents a_sizes c_elements)) rfl (fun H locs hP hD hS => ?_)
      refine lv_lstore (lv' := [(4, .long v1), (0, .ref a_t), (1, .int l1), (2, .int l2), (3, .int l3)]) hx hb dX3_firstWrong_13 hl (by decide) rfl (fun ls hl => ?_)
      refine lv_lload hx hb dX3_firstWrong_15 (lv_at hl 0 rfl) ?_
      refine lv_lconst (v := (0 : Int64)) hx hb dX3_firstWrong_17 (by decide) ?_
      refine W.lcmp hx hb dX3_firstWrong_18 ?_
      refine lv_if_lt (tgt := 31) hx hb dX3_firstWrong_19 (by decide) (fun hc19 => ?_) (fun hc19 => ?_)
      · have h := if_t h hc19
        refine lv_iload_n hx hb dX3_firstWrong_31 rfl (lv_at hl 4 rfl) ?_
        obtain rfl := Option.some.inj h
        exact ret_i X dX3_firstWrong_32 hP hD hS rfl
      · have h := if_f h hc19
        refine lv_lload hx hb dX3_firstWrong_22 (lv_at hl 0 rfl) ?_
        refine lv_ldc2 (v := (3 : Int64)) hx hb hown (hts (.constantLong RX3 44 (3)) (List.mem_of_getElem? (i := 1) rfl)) dX3_firstWrong_24 ?_
        refine W.lcmp hx hb dX3_firstWrong_27 ?_
        refine lv_if_le (tgt := 33) hx hb dX3_firstWrong_28 (by decide) (fun hc28 => ?_) (fun hc28 => ?_)
        · have h := if_t h hc28
          refine lv_iinc (v := (l3 + (1 : Int32))) (lv' := [(3, .int (l3 + (1 : Int32))), (4, .long v1), (0, .ref a_t), (1, .int l1), (2, .int l2)]) hx hb dX3_firstWrong_33 hl (k := 4) rfl rfl (by decide) rfl (fun ls hl => ?_)
          refine lv_goto (tgt := 2) hx hb dX3_firstWrong_36 (by decide) ?_
          exact ih l1 l2 (l3 + (1 : Int32)) _ _ _ h hP hD hS (lv_sub hl [2, 3, 4, 0] rfl)
        · have h := if_f h hc28
          refine lv_iload_n hx hb dX3_firstWrong_31 rfl (lv_at hl 4 rfl) ?_
          obtain rfl := Option.some.inj h
          exact ret_i X dX3_firstWrong_32 hP hD hS rfl
set_option maxRecDepth 100000 in
set_option maxHeartbeats 4000000 in
theorem w_X3_firstWrong (X : Ctx p m meth c cX3_firstWrong 6 ((some .int)) s args wsX3_firstWrong RX3 E A) (a_t : Nat) (a_elements : Nat) (a_contents : Nat) (a_sizes : Nat) (c_elements : Nat → Int64) (res : Int32) (l1 : Int32) (l2 : Int32) (ls : Array Slot) (H : Heap) (locs : List Loc) (h : f_X3_firstWrong l1 l2 c_elements = some res) (hP : va_P E.1 vwCl (W_X3_firstWrong E a_t a_elements a_contents a_sizes c_elements) H) (hD : va_D A (W_X3_firstWrong E a_t a_elements a_contents a_sizes c_elements)) (hS : va_S A s.heap H locs) (hl : lv_has ls 6 [(0, .ref a_t), (1, .int l1), (2, .int l2)]) : W p l e r_X3_firstWrong s m args below meth c H locs 0 0 (MQ below (qI E A res (W_X3_firstWrong E a_t a_elements a_contents a_sizes c_elements)) args s 0 0 A) (F0 m 0 ls []) := by
  obtain ⟨hx, hb, hml, hr, hlk, hown, hts, hG, hA⟩ := id X
  have hK := hG.1
  have hN := hG.2.1
  unfold f_X3_firstWrong at h
  refine lv_iconst (v := (0 : Int32)) hx hb dX3_firstWrong_0 (by decide) ?_
  refine lv_istore_n (lv' := [(3, .int (0 : Int32)), (0, .ref a_t), (1, .int l1), (2, .int l2)]) hx hb dX3_firstWrong_1 rfl hl (by decide) rfl (fun ls hl => ?_)
  exact w_X3_firstWrong_b2 X a_t a_elements a_contents a_sizes c_elements res FU l1 l2 (0 : Int32) _ _ _ h hP hD hS (lv_sub hl [1, 2, 3, 0] rfl)
end
set_option maxRecDepth 100000 in
theorem c_X3_firstWrong (l : Launch) (E : Env0) (a_t : Nat) (a_elements : Nat) (a_contents : Nat) (a_sizes : Nat) (l1 : Int32) (l2 : Int32) (c_elements : Nat → Int64) (sz : Nat) (res : Int32) (h : f_X3_firstWrong l1 l2 c_elements = some res) : Met l yX3_firstWrong wsX3_firstWrong r_X3_firstWrong (cPre E [.ref a_t, .int l1, .int l2] (W_X3_firstWrong E a_t a_elements a_contents a_sizes c_elements) sz) (qI E (va_A (W_X3_firstWrong E a_t a_elements a_contents a_sizes c_elements) sz) res (W_X3_firstWrong E a_t a_elements a_contents a_sizes c_elements)) 0 0 (va_A (W_X3_firstWrong E a_t a_elements a_contents a_sizes c_elements) sz) :=
  met_of (Qc := fun A => qI E A res (W_X3_firstWrong E a_t a_elements a_contents a_sizes c_elements)) (by decide) rfl (Nat.le_of_ble_eq_true rfl) (fun p e s m args below meth c X hP hD hS ls hl => w_X3_firstWrong X a_t a_elements a_contents a_sizes c_elements res l1 l2 ls _ _ h hP hD hS hl)
-- ===== X3_dropOnesFrom
noncomputable abbrev W_X3_dropOnesFrom (E : Env0) (a_t : Nat) (a_contents : Nat) (a_sizes : Nat) (a_elements : Nat) (c_contents : Nat → Int32) (c_sizes : Nat → Int32) : va_W := [(a_t, .inr (3, [.ref a_contents, .ref a_sizes, .ref a_elements])), (a_contents, .inl (eI E, 8, .inl c_contents)), (a_sizes, .inl (eI E, 8, .inl c_sizes))]
noncomputable abbrev r_X3_dropOnesFrom : Room := { frames := 2, cells := 0, slots := 0, locals := 42 }
theorem hd_X3_dropOnesFrom : yX3_dropOnesFrom.cls ≠ "java/lang/invoke/MethodHandle" ∧ yX3_dropOnesFrom.cls ≠ "java/lang/invoke/VarHandle" ∧ (parseMethodDescriptor yX3_dropOnesFrom.desc).map (fun d => d.parameters.length) = some 1 := by decide +kernel
theorem hV_X3_dropOnesFrom : yX3_dropOnesFrom.cls = RX3 ∧ yX3_dropOnesFrom.cls ≠ "java/lang/invoke/MethodHandle" ∧ yX3_dropOnesFrom.cls ≠ "java/lang/invoke/VarHandle" ∧ (parseMethodDescriptor yX3_dropOnesFrom.desc).map (fun d => d.parameters.length) = some 1 := ⟨rfl, hd_X3_dropOnesFrom⟩
section
variable {p : Program} {l : Launch} {e : Env} {s : State} {m : MethodId} {args : Array Value} {below : List Frame} {meth : Method} {c : Code} {E : Env0} {A : Nat → Prop}
set_option maxRecDepth 100000 in
set_option maxHeartbeats 4000000 in
theorem w_X3_dropOnesFrom_b22 (X : Ctx p m meth c cX3_dropOnesFrom 3 none s args wsX3_dropOnesFrom RX3 E A) (a_t : Nat) (a_contents : Nat) (a_sizes : Nat) (a_elements : Nat) (res : (Nat → Int32) × (Nat → Int32)) (k2 : (Nat → Int32) → (Nat → Int32) → Int32 → Int32 → Option ((Nat → Int32) × (Nat → Int32))) (hk2 : ∀ (c_contents : Nat → Int32) (c_sizes : Nat → Int32) (l1 : Int32) (l2 : Int32) (ls : Array Slot) (H : Heap) (locs : List Loc), k2 c_contents c_sizes l1 l2 = some res → va_P E.1 vwCl (W_X3_dropOnesFrom E a_t a_contents a_sizes a_elements c_contents c_sizes) H → va_D A (W_X3_dropOnesFrom E a_t a_contents a_sizes a_elements c_contents c_sizes) → va_S A s.heap H locs → lv_has ls 3 [(0, .ref a_t), (1, .int l1), (2, .int l2)] → W p l e r_X3_dropOnesFrom s m args below meth c H locs 0 0 (MQ below (qV E A (W_X3_dropOnesFrom E a_t a_contents a_sizes a_elements (res.1) (res.2))) args s 0 0 A) (F0 m 2 ls [])) (c_contents : Nat → Int32) (c_sizes : Nat → Int32) (l1 : Int32) (l2 : Int32) (ls : Array Slot) (H : Heap) (locs : List Loc) (h : f_X3_dropOnesFrom_b22 k2 c_contents c_sizes l1 l2 = some res) (hP : va_P E.1 vwCl (W_X3_dropOnesFrom E a_t a_contents a_sizes a_elements c_contents c_sizes) H) (hD : va_D A (W_X3_dropOnesFrom E a_t a_contents a_sizes a_elements c_contents c_sizes)) (hS : va_S A s.heap H locs) (hl : lv_has ls 3 [(0, .ref a_t), (1, .int l1), (2, .int l2)]) : W p l e r_X3_dropOnesFrom s m args below meth c H locs 0 0 (MQ below (qV E A (W_X3_dropOnesFrom E a_t a_contents a_sizes a_elements (res.1) (res.2))) args s 0 0 A) (F0 m 22 ls []) := by
  obtain ⟨hx, hb, hml, hr, hlk, hown, hts, hG, hA⟩ := id X
  have hK := hG.1
  have hN := hG.2.1
  unfold f_X3_dropOnesFrom_b22 at h
  refine lv_iinc (v := (l2 + (1 : Int32))) (lv' := [(2, .int (l2 + (1 : Int32))), (0, .ref a_t), (1, .int l1)]) hx hb dX3_dropOnesFrom_22 hl (k := 2) rfl rfl (by decide) rfl (fun ls hl => ?_)
  refine lv_goto (tgt := 2) hx hb dX3_dropOnesFrom_25 (by decide) ?_
  exact hk2 c_contents c_sizes l1 (l2 + (1 : Int32)) _ _ _ h hP hD hS (lv_sub hl [1, 2, 0] rfl)
set_option maxRecDepth 100000 in
set_option maxHeartbeats 4000000 in
theorem w_X3_dropOnesFrom_b2 (X : Ctx p m meth c cX3_dropOnesFrom 3 none s args wsX3_dropOnesFrom RX3 E A) (a_t : Nat) (a_contents : Nat) (a_sizes : Nat) (a_elements : Nat) (res : (Nat → Int32) × (Nat → Int32)) : ∀ (n : Nat) (c_contents : Nat → Int32) (c_sizes : Nat → Int32) (l1 : Int32) (l2 : Int32) (ls : Array Slot) (H : Heap) (locs : List Loc), f_X3_dropOnesFrom_b2 n c_contents c_sizes l1 l2 = some res → va_P E.1 vwCl (W_X3_dropOnesFrom E a_t a_contents a_sizes a_elements c_contents c_sizes) H → va_D A (W_X3_dropOnesFrom E a_t a_contents a_sizes a_elements c_contents c_sizes) → va_S A s.heap H locs → lv_has ls 3 [(0, .ref a_t), (1, .int l1), (2, .int l2)] → W p l e r_X3_dropOnesFrom s m args below meth c H locs 0 0 (MQ below (qV E A (W_X3_dropOnesFrom E a_t a_contents a_sizes a_elements (res.1) (res.2))) args s 0 0 A) (F0 m 2 ls []) := by
  obtain ⟨hx, hb, hml, hr, hlk, hown, hts, hG, hA⟩ := id X
  have hK := hG.1
  have hN := hG.2.1
  intro n
  induction n with
  | zero =>
    intro c_contents c_sizes l1 l2 ls H locs h
    exact absurd (show (none : Option ((Nat → Int32) × (Nat → Int32))) = some res from h) (by intro q; cases q)
  | succ n ih =>
    intro c_contents c_sizes l1 l2 ls H locs h hP hD hS hl
    rw [f_X3_dropOnesFrom_b2] at h
    refine lv_iload_n hx hb dX3_dropOnesFrom_2 rfl (lv_at hl 2 rfl) ?_
    refine lv_bipush (v := (8 : Int32)) hx hb dX3_dropOnesFrom_3 (by decide) ?_
    refine lv_icmp_ge (tgt := 28) hx hb dX3_dropOnesFrom_5 (by decide) (fun hc5 => ?_) (fun hc5 => ?_)
    · have h := if_t h hc5
      obtain rfl := Option.some.inj h
      exact ret_v X dX3_dropOnesFrom_28 hP hD hS
    · have h := if_f h hc5
      refine lv_aload_n hx hb dX3_dropOnesFrom_8 rfl (lv_at hl 0 rfl) ?_
      refine lv_iload_n hx hb dX3_dropOnesFrom_9 rfl (lv_at hl 2 rfl) ?_
      obtain ⟨v1, hv1, h⟩ := bind_of h
      refine after_i X (run_V X (c_X3_oneIn l E a_t a_contents a_sizes a_elements l2 c_contents H.size v1 hv1) (cwV 1 hts gX3_dropOnesFrom_X3_oneIn rfl rfl rfl hV_X3_oneIn ⟨(Nat.le_of_ble_eq_true rfl), (Nat.le_of_ble_eq_true rfl)⟩) hP hD hS [0, 1] rfl rfl hl.1 (ci := 3) rfl rfl rfl (rest := []) rfl rfl (Nat.le_of_ble_eq_true rfl) dX3_dropOnesFrom_10) hP hD hS [0, 1] rfl (ws1 := (W_X3_dropOnesFrom E a_t a_contents a_sizes a_elements c_contents c_sizes)) rfl (fun H locs hP hD hS => ?_)
      refine lv_iload_n hx hb dX3_dropOnesFrom_13 rfl (lv_at hl 1 rfl) ?_
      refine lv_icmp_lt (tgt := 22) hx hb dX3_dropOnesFrom_14 (by decide) (fun hc14 => ?_) (fun hc14 => ?_)
      · have h := if_t h hc14
        exact w_X3_dropOnesFrom_b22 X a_t a_contents a_sizes a_elements res (f_X3_dropOnesFrom_b2 n) ih c_contents c_sizes l1 l2 _ _ _ h hP hD hS (lv_sub hl [0, 1, 2] rfl)
      · have h := if_f h hc14
        refine lv_aload_n hx hb dX3_dropOnesFrom_17 rfl (lv_at hl 0 rfl) ?_
        refine lv_iload_n hx hb dX3_dropOnesFrom_18 rfl (lv_at hl 2 rfl) ?_
        obtain ⟨v2, hv2, h⟩ := bind_of h
        refine after_v X (run_V X (c_X3_holdNothing l E a_t a_contents a_sizes a_elements l2 c_contents c_sizes H.size v2 hv2) (cwV 1 hts gX3_dropOnesFrom_X3_holdNothing rfl rfl rfl hV_X3_holdNothing ⟨(Nat.le_of_ble_eq_true rfl), (Nat.le_of_ble_eq_true rfl)⟩) hP hD hS [0, 1, 2] rfl rfl hl.1 (ci := 3) rfl rfl rfl (rest := []) rfl rfl (Nat.le_of_ble_eq_true rfl) dX3_dropOnesFrom_19) hP hD hS [0, 1, 2] rfl (ws1 := (W_X3_dropOnesFrom E a_t a_contents a_sizes a_elements (v2.1) (v2.2))) rfl (fun H locs hP hD hS => ?_)
        exact w_X3_dropOnesFrom_b22 X a_t a_contents a_sizes a_elements res (f_X3_dropOnesFrom_b2 n) ih (v2.1) (v2.2) l1 l2 _ _ _ h hP hD hS (lv_sub hl [0, 1, 2] rfl)
set_option maxRecDepth 100000 in
set_option maxHeartbeats 4000000 in
theorem w_X3_dropOnesFrom (X : Ctx p m meth c cX3_dropOnesFrom 3 none s args wsX3_dropOnesFrom RX3 E A) (a_t : Nat) (a_contents : Nat) (a_sizes : Nat) (a_elements : Nat) (res : (Nat → Int32) × (Nat → Int32)) (c_contents : Nat → Int32) (c_sizes : Nat → Int32) (l1 : Int32) (ls : Array Slot) (H : Heap) (locs : List Loc) (h : f_X3_dropOnesFrom l1 c_contents c_sizes = some res) (hP : va_P E.1 vwCl (W_X3_dropOnesFrom E a_t a_contents a_sizes a_elements c_contents c_sizes) H) (hD : va_D A (W_X3_dropOnesFrom E a_t a_contents a_sizes a_elements c_contents c_sizes)) (hS : va_S A s.heap H locs) (hl : lv_has ls 3 [(0, .ref a_t), (1, .int l1)]) : W p l e r_X3_dropOnesFrom s m args below meth c H locs 0 0 (MQ below (qV E A (W_X3_dropOnesFrom E a_t a_contents a_sizes a_elements (res.1) (res.2))) args s 0 0 A) (F0 m 0 ls []) := by
  obtain ⟨hx, hb, hml, hr, hlk, hown, hts, hG, hA⟩ := id X
  have hK := hG.1
  have hN := hG.2.1
  unfold f_X3_dropOnesFrom at h
  refine lv_iconst (v := (0 : Int32)) hx hb dX3_dropOnesFrom_0 (by decide) ?_
  refine lv_istore_n (lv' := [(2, .int (0 : Int32)), (0, .ref a_t), (1, .int l1)]) hx hb dX3_dropOnesFrom_1 rfl hl (by decide) rfl (fun ls hl => ?_)
  exact w_X3_dropOnesFrom_b2 X a_t a_contents a_sizes a_elements res FU c_contents c_sizes l1 (0 : Int32) _ _ _ h hP hD hS (lv_sub hl [1, 2, 0] rfl)
end
set_option maxRecDepth 100000 in
theorem c_X3_dropOnesFrom (l : Launch) (E : Env0) (a_t : Nat) (a_contents : Nat) (a_sizes : Nat) (a_elements : Nat) (l1 : Int32) (c_contents : Nat → Int32) (c_sizes : Nat → Int32) (sz : Nat) (res : (Nat → Int32) × (Nat → Int32)) (h : f_X3_dropOnesFrom l1 c_contents c_sizes = some res) : Met l yX3_dropOnesFrom wsX3_dropOnesFrom r_X3_dropOnesFrom (cPre E [.ref a_t, .int l1] (W_X3_dropOnesFrom E a_t a_contents a_sizes a_elements c_contents c_sizes) sz) (qV E (va_A (W_X3_dropOnesFrom E a_t a_contents a_sizes a_elements c_contents c_sizes) sz) (W_X3_dropOnesFrom E a_t a_contents a_sizes a_elements (res.1) (res.2))) 0 0 (va_A (W_X3_dropOnesFrom E a_t a_contents a_sizes a_elements c_contents c_sizes) sz) :=
  met_of (Qc := fun A => qV E A (W_X3_dropOnesFrom E a_t a_contents a_sizes a_elements (res.1) (res.2))) (by decide) rfl (Nat.le_of_ble_eq_true rfl) (fun p e s m args below meth c X hP hD hS ls hl => w_X3_dropOnesFrom X a_t a_contents a_sizes a_elements res c_contents c_sizes l1 ls _ _ h hP hD hS hl)
-- ===== X3_howManyHold
noncomputable abbrev W_X3_howManyHold (E : Env0) (a_t : Nat) (a_contents : Nat) (a_sizes : Nat) (a_elements : Nat) (c_contents : Nat → Int32) : va_W := [(a_t, .inr (3, [.ref a_contents, .ref a_sizes, .ref a_elements])), (a_contents, .inl (eI E, 8, .inl c_contents))]
noncomputable abbrev r_X3_howManyHold : Room := { frames := 1, cells := 0, slots := 0, locals := 20 }
theorem hd_X3_howManyHold : yX3_howManyHold.cls ≠ "java/lang/invoke/MethodHandle" ∧ yX3_howManyHold.cls ≠ "java/lang/invoke/VarHandle" ∧ (parseMethodDescriptor yX3_howManyHold.desc).map (fun d => d.parameters.length) = some 0 := by decide +kernel
theorem hV_X3_howManyHold : yX3_howManyHold.cls = RX3 ∧ yX3_howManyHold.cls ≠ "java/lang/invoke/MethodHandle" ∧ yX3_howManyHold.cls ≠ "java/lang/invoke/VarHandle" ∧ (parseMethodDescriptor yX3_howManyHold.desc).map (fun d => d.parameters.length) = some 0 := ⟨rfl, hd_X3_howManyHold⟩
theorem iX3_howManyHold_X3 : ∀ w ∈ wsX30, w ∈ wsX3_howManyHold := fun _ h => List.mem_cons_of_mem _ (List.mem_append_right _ (h))
section
variable {p : Program} {l : Launch} {e : Env} {s : State} {m : MethodId} {args : Array Value} {below : List Frame} {meth : Method} {c : Code} {E : Env0} {A : Nat → Prop}
set_option maxRecDepth 100000 in
set_option maxHeartbeats 4000000 in
theorem w_X3_howManyHold_b26 (X : Ctx p m meth c cX3_howManyHold 3 ((some .int)) s args wsX3_howManyHold RX3 E A) (a_t : Nat) (a_contents : Nat) (a_sizes : Nat) (a_elements : Nat) (c_contents : Nat → Int32) (res : Int32) (k4 : Int32 → Int32 → Option (Int32)) (hk4 : ∀ (l1 : Int32) (l2 : Int32) (ls : Array Slot) (H : Heap) (locs : List Loc), k4 l1 l2 = some res → va_P E.1 vwCl (W_X3_howManyHold E a_t a_contents a_sizes a_elements c_contents) H → va_D A (W_X3_howManyHold E a_t a_contents a_sizes a_elements c_contents) → va_S A s.heap H locs → lv_has ls 3 [(0, .ref a_t), (1, .int l1), (2, .int l2)] → W p l e r_X3_howManyHold s m args below meth c H locs 0 0 (MQ below (qI E A res (W_X3_howManyHold E a_t a_contents a_sizes a_elements c_contents)) args s 0 0 A) (F0 m 4 ls [])) (l2 : Int32) (s0 : Int32) (s1 : Int32) (ls : Array Slot) (H : Heap) (locs : List Loc) (h : f_X3_howManyHold_b26 c_contents k4 l2 s0 s1 = some res) (hP : va_P E.1 vwCl (W_X3_howManyHold E a_t a_contents a_sizes a_elements c_contents) H) (hD : va_D A (W_X3_howManyHold E a_t a_contents a_sizes a_elements c_contents)) (hS : va_S A s.heap H locs) (hl : lv_has ls 3 [(0, .ref a_t), (2, .int l2)]) : W p l e r_X3_howManyHold s m args below meth c H locs 0 0 (MQ below (qI E A res (W_X3_howManyHold E a_t a_contents a_sizes a_elements c_contents)) args s 0 0 A) (F0 m 26 ls [.int s0, .int s1]) := by
  obtain ⟨hx, hb, hml, hr, hlk, hown, hts, hG, hA⟩ := id X
  have hK := hG.1
  have hN := hG.2.1
  unfold f_X3_howManyHold_b26 at h
  obtain ⟨v1, hv1, h⟩ := bind_of h
  refine after_i X (run_SN X (c_X5_asNumber l E s0 H.size v1 hv1) ⟨va_cnB 1 hts gX3_howManyHold_X5_asNumber_n54 rfl rfl rfl (nM_7 hN) (hts (.initialized RX5) (List.mem_of_getElem? (i := 3) rfl)) hd_X5_asNumber ⟨(Nat.le_of_ble_eq_true rfl), (Nat.le_of_ble_eq_true rfl)⟩, (hts (.static yX5_asNumber) (List.mem_of_getElem? (i := 2) rfl)), trivial⟩ hP hD hS [] rfl rfl hl.1 (rest := [.int s1]) rfl rfl (Nat.le_of_ble_eq_true rfl) dX3_howManyHold_26) hP hD hS [] rfl (ws1 := (W_X3_howManyHold E a_t a_contents a_sizes a_elements c_contents)) rfl (fun H locs hP hD hS => ?_)
  refine lv_iadd hx hb dX3_howManyHold_29 ?_
  refine lv_istore_n (lv' := [(1, .int (s1 + v1)), (0, .ref a_t), (2, .int l2)]) hx hb dX3_howManyHold_30 rfl hl (by decide) rfl (fun ls hl => ?_)
  refine lv_iinc (v := (l2 + (1 : Int32))) (lv' := [(2, .int (l2 + (1 : Int32))), (1, .int (s1 + v1)), (0, .ref a_t)]) hx hb dX3_howManyHold_31 hl (k := 2) rfl rfl (by decide) rfl (fun ls hl => ?_)
  refine lv_goto (tgt := 4) hx hb dX3_howManyHold_34 (by decide) ?_
  exact hk4 (s1 + v1) (l2 + (1 : Int32)) _ _ _ h hP hD hS (lv_sub hl [2, 1, 0] rfl)
set_option maxRecDepth 100000 in
set_option maxHeartbeats 4000000 in
theorem w_X3_howManyHold_b4 (X : Ctx p m meth c cX3_howManyHold 3 ((some .int)) s args wsX3_howManyHold RX3 E A) (a_t : Nat) (a_contents : Nat) (a_sizes : Nat) (a_elements : Nat) (c_contents : Nat → Int32) (res : Int32) : ∀ (n : Nat) (l1 : Int32) (l2 : Int32) (ls : Array Slot) (H : Heap) (locs : List Loc), f_X3_howManyHold_b4 c_contents n l1 l2 = some res → va_P E.1 vwCl (W_X3_howManyHold E a_t a_contents a_sizes a_elements c_contents) H → va_D A (W_X3_howManyHold E a_t a_contents a_sizes a_elements c_contents) → va_S A s.heap H locs → lv_has ls 3 [(0, .ref a_t), (1, .int l1), (2, .int l2)] → W p l e r_X3_howManyHold s m args below meth c H locs 0 0 (MQ below (qI E A res (W_X3_howManyHold E a_t a_contents a_sizes a_elements c_contents)) args s 0 0 A) (F0 m 4 ls []) := by
  obtain ⟨hx, hb, hml, hr, hlk, hown, hts, hG, hA⟩ := id X
  have hK := hG.1
  have hN := hG.2.1
  intro n
  induction n with
  | zero =>
    intro l1 l2 ls H locs h
    exact absurd (show (none : Option (Int32)) = some res from h) (by intro q; cases q)
  | succ n ih =>
    intro l1 l2 ls H locs h hP hD hS hl
    rw [f_X3_howManyHold_b4] at h
    refine lv_iload_n hx hb dX3_howManyHold_4 rfl (lv_at hl 2 rfl) ?_
    refine lv_bipush (v := (8 : Int32)) hx hb dX3_howManyHold_5 (by decide) ?_
    refine lv_icmp_ge (tgt := 37) hx hb dX3_howManyHold_7 (by decide) (fun hc7 => ?_) (fun hc7 => ?_)
    · have h := if_t h hc7
      refine lv_iload_n hx hb dX3_howManyHold_37 rfl (lv_at hl 1 rfl) ?_
      obtain rfl := Option.some.inj h
      exact ret_i X dX3_howManyHold_38 hP hD hS rfl
    · have h := if_f h hc7
      refine lv_iload_n hx hb dX3_howManyHold_10 rfl (lv_at hl 1 rfl) ?_
      refine lv_aload_n hx hb dX3_howManyHold_11 rfl (lv_at hl 0 rfl) ?_
      refine va_get (D := E.1) (ci := 3) (v := .ref a_contents) (C := RX3) (T := TX3) (N := 3) hx hb hts iX3_howManyHold_X3 hown hK hP 0 rfl rfl 0 (by decide) (hts (.fieldLink RX3 9 "LeftIsAgreedOn$Shelves" "contents" "[I") (List.mem_of_getElem? (i := 1) rfl)) (fun _ h9 => h9) rfl dX3_howManyHold_12 ?_
      refine lv_iload_n hx hb dX3_howManyHold_15 rfl (lv_at hl 2 rfl) ?_
      obtain ⟨hz16, h⟩ := chk_of h
      refine ld_i X hP 1 rfl (inb.vp hz16) (v := (c_contents (l2).toNatClampNeg)) rfl dX3_howManyHold_16 ?_
      refine lv_iconst (v := (-1 : Int32)) hx hb dX3_howManyHold_17 (by decide) ?_
      refine lv_icmp_eq (tgt := 25) hx hb dX3_howManyHold_18 (by decide) (fun hc18 => ?_) (fun hc18 => ?_)
      · have h := if_t h hc18
        refine lv_iconst (v := (0 : Int32)) hx hb dX3_howManyHold_25 (by decide) ?_
        exact w_X3_howManyHold_b26 X a_t a_contents a_sizes a_elements c_contents res (f_X3_howManyHold_b4 c_contents n) ih l2 (0 : Int32) l1 _ _ _ h hP hD hS (lv_sub hl [0, 2] rfl)
      · have h := if_f h hc18
        refine lv_iconst (v := (1 : Int32)) hx hb dX3_howManyHold_21 (by decide) ?_
        refine lv_goto (tgt := 26) hx hb dX3_howManyHold_22 (by decide) ?_
        exact w_X3_howManyHold_b26 X a_t a_contents a_sizes a_elements c_contents res (f_X3_howManyHold_b4 c_contents n) ih l2 (1 : Int32) l1 _ _ _ h hP hD hS (lv_sub hl [0, 2] rfl)
set_option maxRecDepth 100000 in
set_option maxHeartbeats 4000000 in
theorem w_X3_howManyHold (X : Ctx p m meth c cX3_howManyHold 3 ((some .int)) s args wsX3_howManyHold RX3 E A) (a_t : Nat) (a_contents : Nat) (a_sizes : Nat) (a_elements : Nat) (c_contents : Nat → Int32) (res : Int32) (ls : Array Slot) (H : Heap) (locs : List Loc) (h : f_X3_howManyHold c_contents = some res) (hP : va_P E.1 vwCl (W_X3_howManyHold E a_t a_contents a_sizes a_elements c_contents) H) (hD : va_D A (W_X3_howManyHold E a_t a_contents a_sizes a_elements c_contents)) (hS : va_S A s.heap H locs) (hl : lv_has ls 3 [(0, .ref a_t)]) : W p l e r_X3_howManyHold s m args below meth c H locs 0 0 (MQ below (qI E A res (W_X3_howManyHold E a_t a_contents a_sizes a_elements c_contents)) args s 0 0 A) (F0 m 0 ls []) := by
  obtain ⟨hx, hb, hml, hr, hlk, hown, hts, hG, hA⟩ := id X
  have hK := hG.1
  have hN := hG.2.1
  unfold f_X3_howManyHold at h
  refine lv_iconst (v := (0 : Int32)) hx hb dX3_howManyHold_0 (by decide) ?_
  refine lv_istore_n (lv' := [(1, .int (0 : Int32)), (0, .ref a_t)]) hx hb dX3_howManyHold_1 rfl hl (by decide) rfl (fun ls hl => ?_)
  refine lv_iconst (v := (0 : Int32)) hx hb dX3_howManyHold_2 (by decide) ?_
  refine lv_istore_n (lv' := [(2, .int (0 : Int32)), (1, .int (0 : Int32)), (0, .ref a_t)]) hx hb dX3_howManyHold_3 rfl hl (by decide) rfl (fun ls hl => ?_)
  exact w_X3_howManyHold_b4 X a_t a_contents a_sizes a_elements c_contents res FU (0 : Int32) (0 : Int32) _ _ _ h hP hD hS (lv_sub hl [2, 1, 0] rfl)
end
set_option maxRecDepth 100000 in
theorem c_X3_howManyHold (l : Launch) (E : Env0) (a_t : Nat) (a_contents : Nat) (a_sizes : Nat) (a_elements : Nat) (c_contents : Nat → Int32) (sz : Nat) (res : Int32) (h : f_X3_howManyHold c_contents = some res) : Met l yX3_howManyHold wsX3_howManyHold r_X3_howManyHold (cPre E [.ref a_t] (W_X3_howManyHold E a_t a_contents a_sizes a_elements c_contents) sz) (qI E (va_A (W_X3_howManyHold E a_t a_contents a_sizes a_elements c_contents) sz) res (W_X3_howManyHold E a_t a_contents a_sizes a_elements c_contents)) 0 0 (va_A (W_X3_howManyHold E a_t a_contents a_sizes a_elements c_contents) sz) :=
  met_of (Qc := fun A => qI E A res (W_X3_howManyHold E a_t a_contents a_sizes a_elements c_contents)) (by decide) rfl (Nat.le_of_ble_eq_true rfl) (fun p e s m args below meth c X hP hD hS ls hl => w_X3_howManyHold X a_t a_contents a_sizes a_elements c_contents res ls _ _ h hP hD hS hl)
-- ===== X5_isKind
noncomputable abbrev W_X5_isKind (E : Env0) : va_W := []
noncomputable abbrev r_X5_isKind : Room := { frames := 1, cells := 0, slots := 0, locals := 22 }
theorem hd_X5_isKind : yX5_isKind.cls ≠ "java/lang/invoke/MethodHandle" ∧ yX5_isKind.cls ≠ "java/lang/invoke/VarHandle" ∧ (parseMethodDescriptor yX5_isKind.desc).map (fun d => d.parameters.length) = some 1 := by decide +kernel
section
variable {p : Program} {l : Launch} {e : Env} {s : State} {m : MethodId} {args : Array Value} {below : List Frame} {meth : Method} {c : Code} {E : Env0} {A : Nat → Prop}
set_option maxRecDepth 100000 in
set_option maxHeartbeats 4000000 in
theorem w_X5_isKind (X : Ctx p m meth c cX5_isKind 1 ((some .boolean)) s args wsX5_isKind RX5 E A) (res : Int32) (l0 : Int32) (ls : Array Slot) (H : Heap) (locs : List Loc) (h : f_X5_isKind l0 = some res) (hP : va_P E.1 vwCl (W_X5_isKind E) H) (hD : va_D A (W_X5_isKind E)) (hS : va_S A s.heap H locs) (hl : lv_has ls 1 [(0, .int l0)]) : W p l e r_X5_isKind s m args below meth c H locs 0 0 (MQ below (qI E A res (W_X5_isKind E)) args s 0 0 A) (F0 m 0 ls []) := by
  obtain ⟨hx, hb, hml, hr, hlk, hown, hts, hG, hA⟩ := id X
  have hK := hG.1
  have hN := hG.2.1
  unfold f_X5_isKind at h
  refine lv_iload_n hx hb dX5_isKind_0 rfl (lv_at hl 0 rfl) ?_
  refine lv_iconst (v := (0 : Int32)) hx hb dX5_isKind_1 (by decide) ?_
  refine lv_iconst (v := (5 : Int32)) hx hb dX5_isKind_2 (by decide) ?_
  obtain ⟨v1, hv1, h⟩ := bind_of h
  refine after_i X (run_S X (c_X5_isWithin l E l0 (0 : Int32) (5 : Int32) H.size v1 hv1) (va_cwS 3 hts gX5_isKind_X5_isWithin rfl rfl rfl hd_X5_isWithin ⟨(Nat.le_of_ble_eq_true rfl), (Nat.le_of_ble_eq_true rfl)⟩) hP hD hS [] rfl rfl hl.1 (rest := []) rfl rfl (Nat.le_of_ble_eq_true rfl) dX5_isKind_3) hP hD hS [] rfl (ws1 := (W_X5_isKind E)) rfl (fun H locs hP hD hS => ?_)
  obtain ⟨hz6, h⟩ := chk_of h
  obtain rfl := Option.some.inj h
  exact ret_z X dX5_isKind_6 hz6 hP hD hS rfl
end
set_option maxRecDepth 100000 in
theorem c_X5_isKind (l : Launch) (E : Env0) (l0 : Int32) (sz : Nat) (res : Int32) (h : f_X5_isKind l0 = some res) : Met l yX5_isKind wsX5_isKind r_X5_isKind (cPre E [.int l0] (W_X5_isKind E) sz) (qI E (va_A (W_X5_isKind E) sz) res (W_X5_isKind E)) 0 0 (va_A (W_X5_isKind E) sz) :=
  met_of (Qc := fun A => qI E A res (W_X5_isKind E)) (by decide) rfl (Nat.le_of_ble_eq_true rfl) (fun p e s m args below meth c X hP hD hS ls hl => w_X5_isKind X res l0 ls _ _ h hP hD hS hl)
-- ===== X5_isUnder
noncomputable abbrev W_X5_isUnder (E : Env0) : va_W := []
noncomputable abbrev r_X5_isUnder : Room := { frames := 2, cells := 0, slots := 0, locals := 42 }
theorem hd_X5_isUnder : yX5_isUnder.cls ≠ "java/lang/invoke/MethodHandle" ∧ yX5_isUnder.cls ≠ "java/lang/invoke/VarHandle" ∧ (parseMethodDescriptor yX5_isUnder.desc).map (fun d => d.parameters.length) = some 2 := by decide +kernel
section
variable {p : Program} {l : Launch} {e : Env} {s : State} {m : MethodId} {args : Array Value} {below : List Frame} {meth : Method} {c : Code} {E : Env0} {A : Nat → Prop}
set_option maxRecDepth 100000 in
set_option maxHeartbeats 4000000 in
theorem w_X5_isUnder_b4 (X : Ctx p m meth c cX5_isUnder 4 ((some .boolean)) s args wsX5_isUnder RX5 E A) (res : Int32) : ∀ (n : Nat) (l1 : Int32) (l2 : Int32) (l3 : Int32) (ls : Array Slot) (H : Heap) (locs : List Loc), f_X5_isUnder_b4 n l1 l2 l3 = some res → va_P E.1 vwCl (W_X5_isUnder E) H → va_D A (W_X5_isUnder E) → va_S A s.heap H locs → lv_has ls 4 [(1, .int l1), (2, .int l2), (3, .int l3)] → W p l e r_X5_isUnder s m args below meth c H locs 0 0 (MQ below (qI E A res (W_X5_isUnder E)) args s 0 0 A) (F0 m 4 ls []) := by
  obtain ⟨hx, hb, hml, hr, hlk, hown, hts, hG, hA⟩ := id X
  have hK := hG.1
  have hN := hG.2.1
  intro n
  induction n with
  | zero =>
    intro l1 l2 l3 ls H locs h
    exact absurd (show (none : Option (Int32)) = some res from h) (by intro q; cases q)
  | succ n ih =>
    intro l1 l2 l3 ls H locs h hP hD hS hl
    rw [f_X5_isUnder_b4] at h
    refine lv_iload_n hx hb dX5_isUnder_4 rfl (lv_at hl 2 rfl) ?_
    refine lv_bipush (v := (6 : Int32)) hx hb dX5_isUnder_5 (by decide) ?_
    refine lv_icmp_ge (tgt := 36) hx hb dX5_isUnder_7 (by decide) (fun hc7 => ?_) (fun hc7 => ?_)
    · have h := if_t h hc7
      refine lv_iconst (v := (0 : Int32)) hx hb dX5_isUnder_36 (by decide) ?_
      obtain rfl := Option.some.inj h
      exact ret_z X dX5_isUnder_37 (by decide) hP hD hS rfl
    · have h := if_f h hc7
      refine lv_iload_n hx hb dX5_isUnder_10 rfl (lv_at hl 1 rfl) ?_
      obtain ⟨v1, hv1, h⟩ := bind_of h
      refine after_i X (run_S X (c_X5_isKind l E l2 H.size v1 hv1) (va_cwS 1 hts gX5_isUnder_X5_isKind rfl rfl rfl hd_X5_isKind ⟨(Nat.le_of_ble_eq_true rfl), (Nat.le_of_ble_eq_true rfl)⟩) hP hD hS [] rfl rfl hl.1 (rest := []) rfl rfl (Nat.le_of_ble_eq_true rfl) dX5_isUnder_11) hP hD hS [] rfl (ws1 := (W_X5_isUnder E)) rfl (fun H locs hP hD hS => ?_)
      refine lv_if_eq (tgt := 36) hx hb dX5_isUnder_14 (by decide) (fun hc14 => ?_) (fun hc14 => ?_)
      · have h := if_t h hc14
        refine lv_iconst (v := (0 : Int32)) hx hb dX5_isUnder_36 (by decide) ?_
        obtain rfl := Option.some.inj h
        exact ret_z X dX5_isUnder_37 (by decide) hP hD hS rfl
      · have h := if_f h hc14
        refine lv_iload_n hx hb dX5_isUnder_17 rfl (lv_at hl 1 rfl) ?_
        refine lv_iload_n hx hb dX5_isUnder_18 rfl (lv_at hl 0 rfl) ?_
        refine lv_icmp_ne (tgt := 24) hx hb dX5_isUnder_19 (by decide) (fun hc19 => ?_) (fun hc19 => ?_)
        · have h := if_f h hc19
          refine va_gets hx hb (hG.2.2.1.1).1 hS hown (hts (.fieldLink RX5 326 "LeftIsAgreedOn" "ABOVE" "[I") (List.mem_of_getElem? (i := 1) rfl)) (fun _ h9 => h9) dX5_isUnder_24 ?_
          refine lv_iload_n hx hb dX5_isUnder_27 rfl (lv_at hl 1 rfl) ?_
          obtain ⟨hz28, h⟩ := chk_of h
          refine va_ti hx hb (hG.2.2.1.1).2 hS (inb.vp hz28) (v := .int (sABOVE (l2).toNatClampNeg)) rfl dX5_isUnder_28 ?_
          refine lv_istore_n (lv' := [(2, .int (sABOVE (l2).toNatClampNeg)), (1, .int l1), (3, .int l3)]) hx hb dX5_isUnder_29 rfl hl (by decide) rfl (fun ls hl => ?_)
          refine lv_iinc (v := (l3 + (1 : Int32))) (lv' := [(3, .int (l3 + (1 : Int32))), (2, .int (sABOVE (l2).toNatClampNeg)), (1, .int l1)]) hx hb dX5_isUnder_30 hl (k := 2) rfl rfl (by decide) rfl (fun ls hl => ?_)
          refine lv_goto (tgt := 4) hx hb dX5_isUnder_33 (by decide) ?_
          exact ih l1 (sABOVE (l2).toNatClampNeg) (l3 + (1 : Int32)) _ _ _ h hP hD hS (lv_sub hl [2, 1, 0] rfl)
        · have h := if_t h hc19
          refine lv_iconst (v := (1 : Int32)) hx hb dX5_isUnder_22 (by decide) ?_
          obtain rfl := Option.some.inj h
          exact ret_z X dX5_isUnder_23 (by decide) hP hD hS rfl
set_option maxRecDepth 100000 in
set_option maxHeartbeats 4000000 in
theorem w_X5_isUnder (X : Ctx p m meth c cX5_isUnder 4 ((some .boolean)) s args wsX5_isUnder RX5 E A) (res : Int32) (l0 : Int32) (l1 : Int32) (ls : Array Slot) (H : Heap) (locs : List Loc) (h : f_X5_isUnder l0 l1 = some res) (hP : va_P E.1 vwCl (W_X5_isUnder E) H) (hD : va_D A (W_X5_isUnder E)) (hS : va_S A s.heap H locs) (hl : lv_has ls 4 [(0, .int l0), (1, .int l1)]) : W p l e r_X5_isUnder s m args below meth c H locs 0 0 (MQ below (qI E A res (W_X5_isUnder E)) args s 0 0 A) (F0 m 0 ls []) := by
  obtain ⟨hx, hb, hml, hr, hlk, hown, hts, hG, hA⟩ := id X
  have hK := hG.1
  have hN := hG.2.1
  unfold f_X5_isUnder at h
  refine lv_iload_n hx hb dX5_isUnder_0 rfl (lv_at hl 0 rfl) ?_
  refine lv_istore_n (lv' := [(2, .int l0), (0, .int l0), (1, .int l1)]) hx hb dX5_isUnder_1 rfl hl (by decide) rfl (fun ls hl => ?_)
  refine lv_iconst (v := (0 : Int32)) hx hb dX5_isUnder_2 (by decide) ?_
  refine lv_istore_n (lv' := [(3, .int (0 : Int32)), (2, .int l0), (0, .int l0), (1, .int l1)]) hx hb dX5_isUnder_3 rfl hl (by decide) rfl (fun ls hl => ?_)
  exact w_X5_isUnder_b4 X res FU l1 l0 (0 : Int32) _ _ _ h hP hD hS (lv_sub hl [3, 1, 0] rfl)
end
set_option maxRecDepth 100000 in
theorem c_X5_isUnder (l : Launch) (E : Env0) (l0 : Int32) (l1 : Int32) (sz : Nat) (res : Int32) (h : f_X5_isUnder l0 l1 = some res) : Met l yX5_isUnder wsX5_isUnder r_X5_isUnder (cPre E [.int l0, .int l1] (W_X5_isUnder E) sz) (qI E (va_A (W_X5_isUnder E) sz) res (W_X5_isUnder E)) 0 0 (va_A (W_X5_isUnder E) sz) :=
  met_of (Qc := fun A => qI E A res (W_X5_isUnder E)) (by decide) rfl (Nat.le_of_ble_eq_true rfl) (fun p e s m args below meth c X hP hD hS ls hl => w_X5_isUnder X res l0 l1 ls _ _ h hP hD hS hl)
-- ===== X5_isFaces
noncomputable abbrev W_X5_isFaces (E : Env0) : va_W := []
noncomputable abbrev r_X5_isFaces : Room := { frames := 1, cells := 0, slots := 0, locals := 22 }
theorem hd_X5_isFaces : yX5_isFaces.cls ≠ "java/lang/invoke/MethodHandle" ∧ yX5_isFaces.cls ≠ "java/lang/invoke/VarHandle" ∧ (parseMethodDescriptor yX5_isFaces.desc).map (fun d => d.parameters.length) = some 1 := by decide +kernel
section
variable {p : Program} {l : Launch} {e : Env} {s : State} {m : MethodId} {args : Array Value} {below : List Frame} {meth : Method} {c : Code} {E : Env0} {A : Nat → Prop}
set_option maxRecDepth 100000 in
set_option maxHeartbeats 4000000 in
theorem w_X5_isFaces (X : Ctx p m meth c cX5_isFaces 1 ((some .boolean)) s args wsX5_isFaces RX5 E A) (res : Int32) (l0 : Int32) (ls : Array Slot) (H : Heap) (locs : List Loc) (h : f_X5_isFaces l0 = some res) (hP : va_P E.1 vwCl (W_X5_isFaces E) H) (hD : va_D A (W_X5_isFaces E)) (hS : va_S A s.heap H locs) (hl : lv_has ls 1 [(0, .int l0)]) : W p l e r_X5_isFaces s m args below meth c H locs 0 0 (MQ below (qI E A res (W_X5_isFaces E)) args s 0 0 A) (F0 m 0 ls []) := by
  obtain ⟨hx, hb, hml, hr, hlk, hown, hts, hG, hA⟩ := id X
  have hK := hG.1
  have hN := hG.2.1
  unfold f_X5_isFaces at h
  refine lv_iload_n hx hb dX5_isFaces_0 rfl (lv_at hl 0 rfl) ?_
  refine lv_iconst (v := (0 : Int32)) hx hb dX5_isFaces_1 (by decide) ?_
  refine lv_iconst (v := (3 : Int32)) hx hb dX5_isFaces_2 (by decide) ?_
  obtain ⟨v1, hv1, h⟩ := bind_of h
  refine after_i X (run_S X (c_X5_isWithin l E l0 (0 : Int32) (3 : Int32) H.size v1 hv1) (va_cwS 3 hts gX5_isFaces_X5_isWithin rfl rfl rfl hd_X5_isWithin ⟨(Nat.le_of_ble_eq_true rfl), (Nat.le_of_ble_eq_true rfl)⟩) hP hD hS [] rfl rfl hl.1 (rest := []) rfl rfl (Nat.le_of_ble_eq_true rfl) dX5_isFaces_3) hP hD hS [] rfl (ws1 := (W_X5_isFaces E)) rfl (fun H locs hP hD hS => ?_)
  obtain ⟨hz6, h⟩ := chk_of h
  obtain rfl := Option.some.inj h
  exact ret_z X dX5_isFaces_6 hz6 hP hD hS rfl
end
set_option maxRecDepth 100000 in
theorem c_X5_isFaces (l : Launch) (E : Env0) (l0 : Int32) (sz : Nat) (res : Int32) (h : f_X5_isFaces l0 = some res) : Met l yX5_isFaces wsX5_isFaces r_X5_isFaces (cPre E [.int l0] (W_X5_isFaces E) sz) (qI E (va_A (W_X5_isFaces E) sz) res (W_X5_isFaces E)) 0 0 (va_A (W_X5_isFaces E) sz) :=
  met_of (Qc := fun A => qI E A res (W_X5_isFaces E)) (by decide) rfl (Nat.le_of_ble_eq_true rfl) (fun p e s m args below meth c X hP hD hS ls hl => w_X5_isFaces X res l0 ls _ _ h hP hD hS hl)
