-- ===== String.length, String.charAt on the claim's own constants (number k of 8) =====
section TXT
variable {p : Program} {l : Launch} {e : Env} {R : Room} {s : State} {m : MethodId} {args : Array Value} {below : List Frame} {meth : Method} {c : Code} {H : Heap} {locs : List Loc} {Q : State → Prop} {cc : ByteArray} {nL : Nat} {ret : Option FieldType} {Ts : List Cond} {own : String} {E : Env0} {A : Nat → Prop} {pc : Nat} {ls : Array Slot} {rest st0 : List Value}
theorem ret_t {ty : FieldType} {r v : Int32} {ws1 : va_W} (X : Ctx p m meth c cc nL (some ty) s args Ts own E A) (hdg : decode cc pc = .ok (.ireturn, 1)) (hB : narrow ty (.int v) = .int v) (hP : va_P E.1 vwCl ws1 H) (hD : va_D A ws1) (hS : va_S A s.heap H locs) (hv : v = r) : W p l e R s m args below meth c H locs 0 0 (MQ below (qI E A r ws1) args s 0 0 A) (F0 m pc ls [.int v]) :=
  W.zret (v := v) X.1 X.2.1 X.2.2.2.1 hB (fun t ht _ => ⟨⟨v, (), rfl, hv, by rw [ht]; exact hP, hD⟩, hS.F ht⟩) hS.2.2 hdg X.2.2.2.2.1
theorem run_T (X : Ctx p m meth c cc nL ret s args Ts own E A) {y : MethodName} {wsy : List Cond} {rm : Room} {k : Nat} (hk : k < 8) {As : List Value} {Qc : Array Value → State → Outcome → State → Prop} (hM : Met l y wsy rm (cPre E (.ref (E.2.2.2.1 k) :: As) [] H.size) Qc 0 0 (va_A [] H.size)) {index maxL n : Nat} {bytes : ByteArray} {rety : Option FieldType} (cw : CallW R s args own "java/lang/String" index y bytes maxL rety wsy rm 0 0 n) {ws0 : va_W} (hP : va_P E.1 vwCl ws0 H) (hD : va_D A ws0) (hS : va_S A s.heap H locs) (hsz : ls.size = nL) {rest : List Value} (hn : As.length = n) (hst : st0 = As.reverse ++ .ref (E.2.2.2.1 k) :: rest) (hW : (rest.map fun v => v.category).sum ≤ 8) (hdg : decode cc pc = .ok (.invokevirtual index, 3)) : va_Run p l e R s m args below meth c H locs 0 0 0 0 (F0 m pc ls st0) rest (Qc (Value.ref (E.2.2.2.1 k) :: As).toArray) (va_A [] H.size) :=
  va_runV (As := As) (rest := rest) ⟨X.1, X.2.1, X.2.2.1, X.2.2.2.2.2.1, X.2.2.2.2.2.2.1⟩ hM cw ⟨cPre.blind, vk_recv X.2.2.2.2.2.2.2.1.2.2.2.1 hk hS, (pre_of X hP hD hS [] (wc := []) rfl rfl).2⟩ rfl hn hsz hst (lv_room hW) hdg ⟨Nat.zero_le _, Nat.zero_le _⟩
end TXT
abbrev rT (f n : Nat) : Room := { frames := f, cells := 0, slots := 0, locals := n }
set_option maxRecDepth 100000 in
theorem chr_ok : ∀ k, k < 8 → ∀ j, j < slen.getD k 0 → ((sChr k j &&& 255).toUInt32 % 65536).toInt32 = sChr k j ∧ narrow .char (.int ((sChr k j &&& 255).toUInt32 % 65536).toInt32) = .int ((sChr k j &&& 255).toUInt32 % 65536).toInt32 := fun k hk => by
  rcases (show k = 0 ∨ k = 1 ∨ k = 2 ∨ k = 3 ∨ k = 4 ∨ k = 5 ∨ k = 6 ∨ k = 7 by omega) with rfl | rfl | rfl | rfl | rfl | rfl | rfl | rfl <;> decide +kernel
theorem hV_coder : yJ0_coder_7d493.cls = RJ0 ∧ yJ0_coder_7d493.cls ≠ "java/lang/invoke/MethodHandle" ∧ yJ0_coder_7d493.cls ≠ "java/lang/invoke/VarHandle" ∧ (parseMethodDescriptor yJ0_coder_7d493.desc).map (fun d => d.parameters.length) = some 0 := by decide +kernel
theorem hV_isLatin1 : yJ0_isLatin1_aae02.cls = RJ0 ∧ yJ0_isLatin1_aae02.cls ≠ "java/lang/invoke/MethodHandle" ∧ yJ0_isLatin1_aae02.cls ≠ "java/lang/invoke/VarHandle" ∧ (parseMethodDescriptor yJ0_isLatin1_aae02.desc).map (fun d => d.parameters.length) = some 0 := by decide +kernel
theorem hV_J0_length_8abf5 : yJ0_length_8abf5.cls = "java/lang/String" ∧ yJ0_length_8abf5.cls ≠ "java/lang/invoke/MethodHandle" ∧ yJ0_length_8abf5.cls ≠ "java/lang/invoke/VarHandle" ∧ (parseMethodDescriptor yJ0_length_8abf5.desc).map (fun d => d.parameters.length) = some 0 := by decide +kernel
theorem hV_J0_charAt_5068e : yJ0_charAt_5068e.cls = "java/lang/String" ∧ yJ0_charAt_5068e.cls ≠ "java/lang/invoke/MethodHandle" ∧ yJ0_charAt_5068e.cls ≠ "java/lang/invoke/VarHandle" ∧ (parseMethodDescriptor yJ0_charAt_5068e.desc).map (fun d => d.parameters.length) = some 1 := by decide +kernel
theorem hd_J3check : yJ3_checkIndex_8e157.cls ≠ "java/lang/invoke/MethodHandle" ∧ yJ3_checkIndex_8e157.cls ≠ "java/lang/invoke/VarHandle" ∧ (parseMethodDescriptor yJ3_checkIndex_8e157.desc).map (fun d => d.parameters.length) = some 3 := by decide +kernel
theorem hd_J0check : yJ0_checkIndex_df160.cls ≠ "java/lang/invoke/MethodHandle" ∧ yJ0_checkIndex_df160.cls ≠ "java/lang/invoke/VarHandle" ∧ (parseMethodDescriptor yJ0_checkIndex_df160.desc).map (fun d => d.parameters.length) = some 2 := by decide +kernel
theorem hd_J1charAt : yJ1_charAt_3b067.cls ≠ "java/lang/invoke/MethodHandle" ∧ yJ1_charAt_3b067.cls ≠ "java/lang/invoke/VarHandle" ∧ (parseMethodDescriptor yJ1_charAt_3b067.desc).map (fun d => d.parameters.length) = some 2 := by decide +kernel
set_option maxRecDepth 100000 in
theorem c_coder (l : Launch) (E : Env0) (k : Nat) (hk : k < 8) (sz : Nat) : Met l yJ0_coder_7d493 wsJ0_coder_7d493 (rT 0 0) (cPre E [.ref (E.2.2.2.1 k)] [] sz) (qI E (va_A [] sz) 0 []) 0 0 (va_A [] sz) :=
  met_of (Qc := fun A => qI E A 0 []) (by decide) rfl (Nat.le_of_ble_eq_true rfl) (fun p e s m args below meth c X hP hD hS ls hl => by
    obtain ⟨hx, hb, hml, hr, hlk, hown, hts, hG, hA⟩ := id X
    refine va_gets hx hb hG.2.2.2.2.2.1 hS hown (hts (.fieldLink RJ0 38 "java/lang/String" "COMPACT_STRINGS" "Z") (List.mem_of_getElem? (i := 1) rfl)) (fun _ h9 => h9) dJ0_coder_7d493_0 ?_
    refine lv_if_eq (tgt := 13) hx hb dJ0_coder_7d493_3 (by decide) (fun hc => absurd hc (by decide)) (fun hc => ?_)
    refine lv_aload_n hx hb dJ0_coder_7d493_6 rfl (lv_at hl 0 rfl) ?_
    refine vk_getf hx hb (hG.2.2.2.1.1 k hk).2.1 hS hown (hts (.fieldLink RJ0 15 "java/lang/String" "coder" "B") (List.mem_of_getElem? (i := 2) rfl)) (fun _ h9 => h9) dJ0_coder_7d493_7 ?_
    refine lv_goto (tgt := 14) hx hb dJ0_coder_7d493_10 (by decide) ?_
    exact ret_t X dJ0_coder_7d493_14 rfl hP hD hS rfl)
