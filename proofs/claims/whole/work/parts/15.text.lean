-- ===== String.length, String.charAt on the claim's own constants (number k of 8) =====
section TXT
variable {p : Program} {l : Launch} {e : Env} {R : Room} {s : State} {m : MethodId} {args : Array Value} {below : List Frame} {meth : Method} {c : Code} {H : Heap} {locs : List Loc} {Q : State → Prop} {cc : ByteArray} {nL : Nat} {ret : Option FieldType} {Ts : List Cond} {own : String} {E : Env0} {A : Nat → Prop} {pc : Nat} {ls : Array Slot} {rest st0 : List Value}
theorem ret_t {ty : FieldType} {r v : Int32} {ws1 : va_W} (X : Ctx p m meth c cc nL (some ty) s args Ts own E A) (hdg : decode cc pc = .ok (.ireturn, 1)) (hB : narrow ty (.int v) = .int v) (hP : va_P E.1 vwCl ws1 H) (hD : va_D A ws1) (hS : va_S A s.heap H locs) (hv : v = r) : W p l e R s m args below meth c H locs 0 0 (MQ below (qI E A r ws1) args s 0 0 A) (F0 m pc ls [.int v]) :=
  W.zret (v := v) X.1 X.2.1 X.2.2.2.1 hB (fun t ht _ => ⟨⟨v, (), rfl, hv, by rw [ht]; exact hP, hD⟩, hS.F ht⟩) hS.2.2 hdg X.2.2.2.2.1
theorem run_T (X : Ctx p m meth c cc nL ret s args Ts own E A) {y : MethodName} {wsy : List Cond} {rm : Room} {k : Nat} (hk : k < 8) {As : List Value} {Qc : Array Value → State → Outcome → State → Prop} (hM : Met l y wsy rm (cPre E (.ref (E.2.2.2.1 k) :: As) [] H.size) Qc 0 0 (va_A [] H.size)) {index maxL n : Nat} {bytes : ByteArray} {rety : Option FieldType} (cw : CallW R s args own "java/lang/String" index y bytes maxL rety wsy rm 0 0 n) {ws0 : va_W} (hP : va_P E.1 vwCl ws0 H) (hD : va_D A ws0) (hS : va_S A s.heap H locs) (hsz : ls.size = nL) {rest : List Value} (hn : As.length = n) (hst : st0 = As.reverse ++ .ref (E.2.2.2.1 k) :: rest) (hW : (rest.map fun v => v.category).sum ≤ 8) (hdg : decode cc pc = .ok (.invokevirtual index, 3)) : va_Run p l e R s m args below meth c H locs 0 0 0 0 (F0 m pc ls st0) rest (Qc (Value.ref (E.2.2.2.1 k) :: As).toArray) (va_A [] H.size) :=
  va_runV (As := As) (rest := rest) ⟨X.1, X.2.1, X.2.2.1, X.2.2.2.2.2.1, X.2.2.2.2.2.2.1⟩ hM cw ⟨cPre.blind, vk_recv X.2.2.2.2.2.2.2.1.2.2.2.1 hk hS, (pre_of X hP hD hS [] (wc := []) rfl rfl).2⟩ rfl hn hsz hst (lv_room hW) hdg ⟨Nat.zero_le _, Nat.zero_le _⟩
end TXT
noncomputable abbrev rT (f n : Nat) : Room := { frames := f, cells := 0, slots := 0, locals := n }
set_option maxRecDepth 100000 in
theorem chr_ok : ∀ k, k < 8 → ∀ j, j < slen.getD k 0 → ((sChr k j &&& 255).toUInt32 % 65536).toInt32 = sChr k j ∧ narrow .char (.int ((sChr k j &&& 255).toUInt32 % 65536).toInt32) = .int ((sChr k j &&& 255).toUInt32 % 65536).toInt32 := fun k hk => by
  rcases (show k = 0 ∨ k = 1 ∨ k = 2 ∨ k = 3 ∨ k = 4 ∨ k = 5 ∨ k = 6 ∨ k = 7 by omega) with rfl | rfl | rfl | rfl | rfl | rfl | rfl | rfl <;> decide +kernel
theorem hV_coder : yJ0_coder_7d493.cls = RJ0 ∧ yJ0_coder_7d493.cls ≠ "java/lang/invoke/MethodHandle" ∧ yJ0_coder_7d493.cls ≠ "java/lang/invoke/VarHandle" ∧ (parseMethodDescriptor yJ0_coder_7d493.desc).map (fun d => d.parameters.length) = some 0 := by decide +kernel
theorem hV_isLatin1 : yJ0_isLatin1_aae02.cls = RJ0 ∧ yJ0_isLatin1_aae02.cls ≠ "java/lang/invoke/MethodHandle" ∧ yJ0_isLatin1_aae02.cls ≠ "java/lang/invoke/VarHandle" ∧ (parseMethodDescriptor yJ0_isLatin1_aae02.desc).map (fun d => d.parameters.length) = some 0 := by decide +kernel
theorem hV_J0_length_8abf5 : yJ0_length_8abf5.cls = "java/lang/String" ∧ yJ0_length_8abf5.cls ≠ "java/lang/invoke/MethodHandle" ∧ yJ0_length_8abf5.cls ≠ "java/lang/invoke/VarHandle" ∧ (parseMethodDescriptor yJ0_length_8abf5.desc).map (fun d => d.parameters.length) = some 0 := by decide +kernel
theorem hV_J0_charAt_5068e : yJ0_charAt_5068e.cls = "java/lang/String" ∧ yJ0_charAt_5068e.cls ≠ "java/lang/invoke/MethodHandle" ∧ yJ0_charAt_5068e.cls ≠ "java/lang/invoke/VarHandle" ∧ (parseMethodDescriptor yJ0_charAt_5068e.desc).map (fun d => d.parameters.length) = some 1 := by decide +kernel
theorem hd_J3check : yJ3_checkIndex_8e157.cls ≠ "java/lang/invoke/MethodHandle" ∧ yJ3_checkIndex_8e157.cls ≠ "java/lang/invoke/VarHandle" ∧ (parseMethodDescriptor yJ3_checkIndex_8e157.desc).map (fun d => d.parameters.length) = some 3 := by decide +kernel
theorem hd_J0check : yJ0_checkIndex_df160.cls ≠ "java/lang/invoke/MethodHandle" ∧ yJ0_checkIndex_df160.cls ≠ "java/lang/invoke/VarHandle" ∧ (parseMethodDescriptor yJ0_checkIndex_df160.desc).map (fun d => d.parameters.length) = some 2 := by decide +kernel
theorem hd_J1charAt : yJ1_charAt_3b067.cls ≠ "java/lang/invoke/MethodHandle" ∧ yJ1_charAt_3b067.cls ≠ "java/lang/invoke/VarHandle" ∧ (parseMethodDescriptor yJ1_charAt_3b067.desc).map (fun d => d.parameters.length) = some 2 := by decide +kernel
set_option maxRecDepth 100000 in
theorem c_coder (l : Launch) (E : Env0) (k : Nat) (hk : k < 8) (sz : Nat) : Met l yJ0_coder_7d493 wsJ0_coder_7d493 (rT 0 0) (cPre E [.ref (E.2.2.2.1 k)] [] sz) (qI E (va_A [] sz) 0 []) 0 0 (va_A [] sz) :=
  met_of (Qc := fun A => qI E A 0 []) (by decide) rfl (Nat.le_of_ble_eq_true rfl) (fun p e s m args below meth c X hP hD hS ls hl => by
    obtain ⟨hx, hb, hml, hr, hlk, hown, hts, hG, hA⟩ := id X
    refine va_gets hx hb hG.2.2.2.2.2.1 hS hown (hts (.fieldLink RJ0 38 "java/lang/String" "COMPACT_STRINGS" "Z") (List.mem_of_getElem? (i := 1) rfl)) (fun _ h9 => h9) dJ0_coder_7d493_0 ?_
    refine lv_if_eq (tgt := 13) hx hb dJ0_coder_7d493_3 (by decide) (fun hc => absurd hc (by decide)) (fun hc => ?_)
    refine lv_aload_n hx hb dJ0_coder_7d493_6 rfl (lv_at hl 0 rfl) ?_
    refine vk_getf hx hb (hG.2.2.2.1.1 k hk).2.1 hS hown (hts (.fieldLink RJ0 15 "java/lang/String" "coder" "B") (List.mem_of_getElem? (i := 2) rfl)) (fun _ h9 => h9) dJ0_coder_7d493_7 ?_
    refine lv_goto (tgt := 14) hx hb dJ0_coder_7d493_10 (by decide) ?_
    exact ret_t X dJ0_coder_7d493_14 rfl hP hD hS rfl)
set_option maxRecDepth 100000 in
theorem c_isLatin1 (l : Launch) (E : Env0) (k : Nat) (hk : k < 8) (sz : Nat) : Met l yJ0_isLatin1_aae02 wsJ0_isLatin1_aae02 (rT 0 0) (cPre E [.ref (E.2.2.2.1 k)] [] sz) (qI E (va_A [] sz) 1 []) 0 0 (va_A [] sz) :=
  met_of (Qc := fun A => qI E A 1 []) (by decide) rfl (Nat.le_of_ble_eq_true rfl) (fun p e s m args below meth c X hP hD hS ls hl => by
    obtain ⟨hx, hb, hml, hr, hlk, hown, hts, hG, hA⟩ := id X
    refine va_gets hx hb hG.2.2.2.2.2.1 hS hown (hts (.fieldLink RJ0 38 "java/lang/String" "COMPACT_STRINGS" "Z") (List.mem_of_getElem? (i := 1) rfl)) (fun _ h9 => h9) dJ0_isLatin1_aae02_0 ?_
    refine lv_if_eq (tgt := 17) hx hb dJ0_isLatin1_aae02_3 (by decide) (fun hc => absurd hc (by decide)) (fun hc => ?_)
    refine lv_aload_n hx hb dJ0_isLatin1_aae02_6 rfl (lv_at hl 0 rfl) ?_
    refine vk_getf hx hb (hG.2.2.2.1.1 k hk).2.1 hS hown (hts (.fieldLink RJ0 15 "java/lang/String" "coder" "B") (List.mem_of_getElem? (i := 2) rfl)) (fun _ h9 => h9) dJ0_isLatin1_aae02_7 ?_
    refine lv_if_ne (tgt := 17) hx hb dJ0_isLatin1_aae02_10 (by decide) (fun hc => absurd rfl hc) (fun hc => ?_)
    refine lv_iconst (v := (1 : Int32)) hx hb dJ0_isLatin1_aae02_13 (by decide) ?_
    refine lv_goto (tgt := 18) hx hb dJ0_isLatin1_aae02_14 (by decide) ?_
    exact ret_t X dJ0_isLatin1_aae02_18 rfl hP hD hS rfl)
set_option maxRecDepth 100000 in
theorem c_slen (l : Launch) (E : Env0) (k : Nat) (hk : k < 8) (sz : Nat) : Met l yJ0_length_8abf5 wsJ0_length_8abf5 (rT 1 20) (cPre E [.ref (E.2.2.2.1 k)] [] sz) (qI E (va_A [] sz) (sLen k) []) 0 0 (va_A [] sz) :=
  met_of (Qc := fun A => qI E A (sLen k) []) (by decide) rfl (Nat.le_of_ble_eq_true rfl) (fun p e s m args below meth c X hP hD hS ls hl => by
    obtain ⟨hx, hb, hml, hr, hlk, hown, hts, hG, hA⟩ := id X
    refine lv_aload_n hx hb dJ0_length_8abf5_0 rfl (lv_at hl 0 rfl) ?_
    refine vk_getf hx hb (hG.2.2.2.1.1 k hk).2.2.1 hS hown (hts (.fieldLink RJ0 9 "java/lang/String" "value" "[B") (List.mem_of_getElem? (i := 1) rfl)) (fun _ h9 => h9) dJ0_length_8abf5_1 ?_
    refine va_tlen hx hb (hG.2.2.2.1.1 k hk).2.2.2 hS (v := sLen k) rfl dJ0_length_8abf5_4 ?_
    refine lv_aload_n hx hb dJ0_length_8abf5_5 rfl (lv_at hl 0 rfl) ?_
    refine after_i X (run_T X hk (c_coder l E k hk s.heap.size) (cwV 0 hts gJ0_length_8abf5_J0_coder_7d493 rfl rfl rfl hV_coder ⟨(Nat.le_of_ble_eq_true rfl), (Nat.le_of_ble_eq_true rfl)⟩) hP hD hS hl.1 (rest := [.int (sLen k)]) rfl rfl (Nat.le_of_ble_eq_true rfl) dJ0_length_8abf5_6) hP hD hS [] rfl (ws1 := []) rfl (fun H locs hP hD hS => ?_)
    refine lv_ishr hx hb dJ0_length_8abf5_9 ?_
    exact ret_i X dJ0_length_8abf5_10 hP hD hS (sb_shr0 _))
set_option maxRecDepth 100000 in
theorem c_J3check (l : Launch) (E : Env0) (i n : Int32) (v : Value) (hv : v = .null ∨ ∃ t, v = .ref t) (h0 : 0 ≤ i) (hn : i < n) (sz : Nat) : Met l yJ3_checkIndex_8e157 wsJ3_checkIndex_8e157 (rT 0 0) (cPre E [.int i, .int n, v] [] sz) (qI E (va_A [] sz) i []) 0 0 (va_A [] sz) := by
  rcases hv with rfl | ⟨t, rfl⟩
  all_goals exact met_of (Qc := fun A => qI E A i []) (by decide) rfl (Nat.le_of_ble_eq_true rfl) (fun p e s m args below meth c X hP hD hS ls hl => by
    obtain ⟨hx, hb, hml, hr, hlk, hown, hts, hG, hA⟩ := id X
    refine lv_iload_n hx hb dJ3_checkIndex_8e157_0 rfl (lv_at hl 0 rfl) ?_
    refine lv_if_lt (tgt := 9) hx hb dJ3_checkIndex_8e157_1 (by decide) (fun hc => absurd hc (Int32.not_lt.mpr h0)) (fun hc => ?_)
    refine lv_iload_n hx hb dJ3_checkIndex_8e157_4 rfl (lv_at hl 0 rfl) ?_
    refine lv_iload_n hx hb dJ3_checkIndex_8e157_5 rfl (lv_at hl 1 rfl) ?_
    refine lv_icmp_lt (tgt := 16) hx hb dJ3_checkIndex_8e157_6 (by decide) (fun hc => ?_) (fun hc => absurd hn hc)
    refine lv_iload_n hx hb dJ3_checkIndex_8e157_16 rfl (lv_at hl 0 rfl) ?_
    exact ret_i X dJ3_checkIndex_8e157_17 hP hD hS rfl)
set_option maxRecDepth 100000 in
theorem c_J0check (l : Launch) (E : Env0) (i n : Int32) (h0 : 0 ≤ i) (hn : i < n) (sz : Nat) : Met l yJ0_checkIndex_df160 wsJ0_checkIndex_df160 (rT 1 22) (cPre E [.int i, .int n] [] sz) (qV E (va_A [] sz) []) 0 0 (va_A [] sz) :=
  met_of (Qc := fun A => qV E A []) (by decide) rfl (Nat.le_of_ble_eq_true rfl) (fun p e s m args below meth c X hP hD hS ls hl => by
    obtain ⟨hx, hb, hml, hr, hlk, hown, hts, hG, hA⟩ := id X
    refine lv_iload_n hx hb dJ0_checkIndex_df160_0 rfl (lv_at hl 0 rfl) ?_
    refine lv_iload_n hx hb dJ0_checkIndex_df160_1 rfl (lv_at hl 1 rfl) ?_
    have hf : ∃ v : Value, (v = .null ∨ ∃ t, v = .ref t) ∧ va_Z "jdk/internal/util/Preconditions" "SIOOBE_FORMATTER" "Ljava/util/function/BiFunction;" v (va_A [] s.heap.size) s s.heap := by
      rcases hG.2.2.2.2.2.2 with h | ⟨t, h⟩
      · exact ⟨_, Or.inl rfl, h⟩
      · exact ⟨_, Or.inr ⟨t, rfl⟩, h⟩
    obtain ⟨v, hv, hz⟩ := hf
    refine va_gets hx hb hz hS hown (hts (.fieldLink RJ0 1053 "jdk/internal/util/Preconditions" "SIOOBE_FORMATTER" "Ljava/util/function/BiFunction;") (List.mem_of_getElem? (i := 1) rfl)) (fun _ h9 => h9) dJ0_checkIndex_df160_2 ?_
    refine after_i X (run_S X (c_J3check l E i n v hv h0 hn s.heap.size) (va_cwS 3 hts gJ0_checkIndex_df160_J3_checkIndex_8e157 rfl rfl rfl hd_J3check ⟨(Nat.le_of_ble_eq_true rfl), (Nat.le_of_ble_eq_true rfl)⟩) hP hD hS [] rfl rfl hl.1 (rest := []) rfl rfl (Nat.le_of_ble_eq_true rfl) dJ0_checkIndex_df160_5) hP hD hS [] rfl (ws1 := []) rfl (fun H locs hP hD hS => ?_)
    refine lv_pop hx hb dJ0_checkIndex_df160_8 rfl ?_
    exact ret_v X dJ0_checkIndex_df160_9 hP hD hS)
set_option maxRecDepth 100000 in
theorem c_J1charAt (l : Launch) (E : Env0) (k : Nat) (hk : k < 8) (i : Int32) (hi : inb i (slen.getD k 0)) (sz : Nat) : Met l yJ1_charAt_3b067 wsJ1_charAt_3b067 (rT 2 43) (cPre E [.ref (E.2.2.2.2 k), .int i] [] sz) (qI E (va_A [] sz) (sChr k i.toNatClampNeg) []) 0 0 (va_A [] sz) :=
  met_of (Qc := fun A => qI E A (sChr k i.toNatClampNeg) []) (by decide) rfl (Nat.le_of_ble_eq_true rfl) (fun p e s m args below meth c X hP hD hS ls hl => by
    obtain ⟨hx, hb, hml, hr, hlk, hown, hts, hG, hA⟩ := id X
    have hlt : i < sLen k := by
      have h2 := hi.2
      have hN : slen.getD k 0 < 2 ^ 31 := by
        rcases (show k = 0 ∨ k = 1 ∨ k = 2 ∨ k = 3 ∨ k = 4 ∨ k = 5 ∨ k = 6 ∨ k = 7 by omega) with rfl | rfl | rfl | rfl | rfl | rfl | rfl | rfl <;> decide
      obtain ⟨j, hj, hij⟩ := vp_in_of (inb.vp hi) hN
      rw [hij]
      exact nI_lt hj hN
    refine lv_iload_n hx hb dJ1_charAt_3b067_0 rfl (lv_at hl 1 rfl) ?_
    refine lv_aload_n hx hb dJ1_charAt_3b067_1 rfl (lv_at hl 0 rfl) ?_
    refine va_tlen hx hb (hG.2.2.2.1.1 k hk).2.2.2 hS (v := sLen k) rfl dJ1_charAt_3b067_2 ?_
    refine after_v X (run_S X (c_J0check l E i (sLen k) hi.1 hlt s.heap.size) (va_cwS 2 hts gJ1_charAt_3b067_J0_checkIndex_df160 rfl rfl rfl hd_J0check ⟨(Nat.le_of_ble_eq_true rfl), (Nat.le_of_ble_eq_true rfl)⟩) hP hD hS [] rfl rfl hl.1 (rest := []) rfl rfl (Nat.le_of_ble_eq_true rfl) dJ1_charAt_3b067_3) hP hD hS [] rfl (ws1 := []) rfl (fun H locs hP hD hS => ?_)
    refine lv_aload_n hx hb dJ1_charAt_3b067_6 rfl (lv_at hl 0 rfl) ?_
    refine lv_iload_n hx hb dJ1_charAt_3b067_7 rfl (lv_at hl 1 rfl) ?_
    refine va_tb hx hb (hG.2.2.2.1.1 k hk).2.2.2 hS (inb.vp hi) (v := .int (sChr k i.toNatClampNeg)) rfl dJ1_charAt_3b067_8 ?_
    refine lv_sipush (v := (255 : Int32)) hx hb dJ1_charAt_3b067_9 (by decide) ?_
    refine lv_iand hx hb dJ1_charAt_3b067_12 ?_
    refine lv_i2c (v := ((sChr k i.toNatClampNeg &&& 255).toUInt32 % 65536).toInt32) hx hb dJ1_charAt_3b067_13 rfl ?_
    exact ret_t X dJ1_charAt_3b067_14 (chr_ok k hk _ hi.2).2 hP hD hS (chr_ok k hk _ hi.2).1)
set_option maxRecDepth 100000 in
theorem c_schar (l : Launch) (E : Env0) (k : Nat) (hk : k < 8) (i : Int32) (hi : inb i (slen.getD k 0)) (sz : Nat) : Met l yJ0_charAt_5068e wsJ0_charAt_5068e (rT 3 64) (cPre E [.ref (E.2.2.2.1 k), .int i] [] sz) (qI E (va_A [] sz) (sChr k i.toNatClampNeg) []) 0 0 (va_A [] sz) :=
  met_of (Qc := fun A => qI E A (sChr k i.toNatClampNeg) []) (by decide) rfl (Nat.le_of_ble_eq_true rfl) (fun p e s m args below meth c X hP hD hS ls hl => by
    obtain ⟨hx, hb, hml, hr, hlk, hown, hts, hG, hA⟩ := id X
    refine lv_aload_n hx hb dJ0_charAt_5068e_0 rfl (lv_at hl 0 rfl) ?_
    refine after_i X (run_T X hk (c_isLatin1 l E k hk s.heap.size) (cwV 0 hts gJ0_charAt_5068e_J0_isLatin1_aae02 rfl rfl rfl hV_isLatin1 ⟨(Nat.le_of_ble_eq_true rfl), (Nat.le_of_ble_eq_true rfl)⟩) hP hD hS hl.1 (rest := []) rfl rfl (Nat.le_of_ble_eq_true rfl) dJ0_charAt_5068e_1) hP hD hS [] rfl (ws1 := []) rfl (fun H locs hP hD hS => ?_)
    refine lv_if_eq (tgt := 16) hx hb dJ0_charAt_5068e_4 (by decide) (fun hc => absurd hc (by decide)) (fun hc => ?_)
    refine lv_aload_n hx hb dJ0_charAt_5068e_7 rfl (lv_at hl 0 rfl) ?_
    refine vk_getf hx hb (hG.2.2.2.1.1 k hk).2.2.1 hS hown (hts (.fieldLink RJ0 9 "java/lang/String" "value" "[B") (List.mem_of_getElem? (i := 1) rfl)) (fun _ h9 => h9) dJ0_charAt_5068e_8 ?_
    refine lv_iload_n hx hb dJ0_charAt_5068e_11 rfl (lv_at hl 1 rfl) ?_
    refine after_i X (run_S X (c_J1charAt l E k hk i hi H.size) (va_cwS 2 hts gJ0_charAt_5068e_J1_charAt_3b067 rfl rfl rfl hd_J1charAt ⟨(Nat.le_of_ble_eq_true rfl), (Nat.le_of_ble_eq_true rfl)⟩) hP hD hS [] rfl rfl hl.1 (rest := []) rfl rfl (Nat.le_of_ble_eq_true rfl) dJ0_charAt_5068e_12) hP hD hS [] rfl (ws1 := []) rfl (fun H locs hP hD hS => ?_)
    exact ret_t X dJ0_charAt_5068e_15 (by
      have h := chr_ok k hk _ hi.2
      rw [h.1] at h
      exact h.2) hP hD hS rfl)
