noncomputable abbrev vwCl : List vw_C := [(RX0, TX0, 14), (RX1, TX1, 7), (RX2, TX2, 5), (RX3, TX3, 3), (RX4, TX4, 11), (RX5, TX5, 11), (RX6, TX6, 26)]
noncomputable def nfl : List (String × Nat × String × String × String) := [("LeftIsAgreedOn", 126, "LeftIsAgreedOn$Island", "kinds", "[I"), ("LeftIsAgreedOn", 133, "LeftIsAgreedOn$Island", "weights", "[I"), ("LeftIsAgreedOn", 142, "LeftIsAgreedOn$Walker", "faces", "I"), ("LeftIsAgreedOn", 149, "LeftIsAgreedOn$Island", "side", "I"), ("LeftIsAgreedOn", 165, "LeftIsAgreedOn$Island", "ponds", "[Z"), ("LeftIsAgreedOn", 180, "LeftIsAgreedOn$Island", "left", "I"), ("LeftIsAgreedOn", 183, "LeftIsAgreedOn$Island", "old", "I"), ("LeftIsAgreedOn", 186, "LeftIsAgreedOn$Island", "doubt", "I"), ("LeftIsAgreedOn", 189, "LeftIsAgreedOn$Island", "pledges", "[I"), ("LeftIsAgreedOn", 192, "LeftIsAgreedOn$Island", "cells", "[I"), ("LeftIsAgreedOn", 195, "LeftIsAgreedOn$Island", "faces", "[I"), ("LeftIsAgreedOn", 231, "LeftIsAgreedOn$Walker", "cell", "I"), ("LeftIsAgreedOn", 234, "LeftIsAgreedOn$Walker", "fellBy", "I"), ("LeftIsAgreedOn", 237, "LeftIsAgreedOn$Island", "count", "I"), ("LeftIsAgreedOn", 252, "LeftIsAgreedOn$Walker", "kind", "I"), ("LeftIsAgreedOn", 255, "LeftIsAgreedOn$Walker", "left", "I"), ("LeftIsAgreedOn", 302, "LeftIsAgreedOn$Island", "fallen", "I"), ("LeftIsAgreedOn", 308, "LeftIsAgreedOn$Island", "seed", "I"), ("LeftIsAgreedOn", 317, "LeftIsAgreedOn$Island", "years", "I"), ("LeftIsAgreedOn", 320, "LeftIsAgreedOn$Reader", "size", "I"), ("LeftIsAgreedOn$Reader", 110, "LeftIsAgreedOn$Island", "pledges", "[I"), ("LeftIsAgreedOn$Reader", 115, "LeftIsAgreedOn$Island", "left", "I"), ("LeftIsAgreedOn$Reader", 119, "LeftIsAgreedOn$Island", "old", "I"), ("LeftIsAgreedOn$Reader", 123, "LeftIsAgreedOn$Island", "doubt", "I"), ("LeftIsAgreedOn$Reader", 87, "LeftIsAgreedOn$Island", "side", "I"), ("LeftIsAgreedOn$Reader", 95, "LeftIsAgreedOn$Island", "ponds", "[Z"), ("LeftIsAgreedOn$Search", 35, "LeftIsAgreedOn$Walker", "left", "I"), ("LeftIsAgreedOn$Walker", 53, "LeftIsAgreedOn$Island", "kinds", "[I"), ("LeftIsAgreedOn$Walker", 57, "LeftIsAgreedOn$Island", "left", "I"), ("LeftIsAgreedOn$Walker", 58, "LeftIsAgreedOn$Island", "pledges", "[I"), ("LeftIsAgreedOn$Walker", 61, "LeftIsAgreedOn$Island", "cells", "[I"), ("LeftIsAgreedOn$Walker", 64, "LeftIsAgreedOn$Island", "faces", "[I"), ("LeftIsAgreedOn$Walker", 88, "LeftIsAgreedOn$Island", "old", "I")]
noncomputable def nml : List (String × Nat × MethodName) := [("LeftIsAgreedOn", 33, yX3_init), ("LeftIsAgreedOn", 9, yX0_init), ("LeftIsAgreedOn$Island", 62, yX5_isWithin), ("LeftIsAgreedOn$Island", 82, yX5_asNumber), ("LeftIsAgreedOn$Reader", 125, yX5_isWithin), ("LeftIsAgreedOn$Search", 47, yX5_isWithin), ("LeftIsAgreedOn$Shelves", 22, yX5_isWithin), ("LeftIsAgreedOn$Shelves", 54, yX5_asNumber), ("LeftIsAgreedOn$Walker", 97, yX5_asNumber)]
noncomputable def sref : List (Nat × String × Nat) := [(45, "side", 0), (54, "pond", 1), (59, "dry", 2), (64, "person", 3), (69, "is", 4), (113, "left", 5), (117, "old", 6), (121, "doubt", 7)]
-- ===== words of the generated walks: environment, contracts, ends, calls =====
/-- tables, the array classes (int, boolean, long, char), the static arrays, the texts -/
noncomputable abbrev Env0 : Type := va_G × (ClassId × ClassId × ClassId × ClassId) × (Nat × Nat × Nat × Nat) × ((Nat → Nat) × (Nat → Nat))
noncomputable abbrev eI (E : Env0) : ClassId := E.2.1.1
noncomputable abbrev eZ (E : Env0) : ClassId := E.2.1.2.1
noncomputable abbrev eJ (E : Env0) : ClassId := E.2.1.2.2.1
noncomputable abbrev eC (E : Env0) : ClassId := E.2.1.2.2.2
noncomputable abbrev tys0 (E : Env0) : List (ClassId × FieldType) := [(eI E, .int), (eZ E, .boolean), (eJ E, .long), (eC E, .char)]
noncomputable def nestK (U : State) : Prop := (∀ q ∈ nfl, va_Nw (.fieldLinkNest q.1 q.2.1 q.2.2.1 q.2.2.2.1 q.2.2.2.2 "LeftIsAgreedOn") U) ∧ (∀ q ∈ nml, va_Nw (.methodLinkNest q.1 q.2.1 q.2.2 "LeftIsAgreedOn") U)
theorem nF_0 {U : State} (h : nestK U) : va_Nw (.fieldLinkNest "LeftIsAgreedOn" 126 "LeftIsAgreedOn$Island" "kinds" "[I" "LeftIsAgreedOn") U := h.1 ("LeftIsAgreedOn", 126, "LeftIsAgreedOn$Island", "kinds", "[I") (List.mem_of_getElem? (i := 0) rfl)
theorem nF_1 {U : State} (h : nestK U) : va_Nw (.fieldLinkNest "LeftIsAgreedOn" 133 "LeftIsAgreedOn$Island" "weights" "[I" "LeftIsAgreedOn") U := h.1 ("LeftIsAgreedOn", 133, "LeftIsAgreedOn$Island", "weights", "[I") (List.mem_of_getElem? (i := 1) rfl)
theorem nF_2 {U : State} (h : nestK U) : va_Nw (.fieldLinkNest "LeftIsAgreedOn" 142 "LeftIsAgreedOn$Walker" "faces" "I" "LeftIsAgreedOn") U := h.1 ("LeftIsAgreedOn", 142, "LeftIsAgreedOn$Walker", "faces", "I") (List.mem_of_getElem? (i := 2) rfl)
theorem nF_3 {U : State} (h : nestK U) : va_Nw (.fieldLinkNest "LeftIsAgreedOn" 149 "LeftIsAgreedOn$Island" "side" "I" "LeftIsAgreedOn") U := h.1 ("LeftIsAgreedOn", 149, "LeftIsAgreedOn$Island", "side", "I") (List.mem_of_getElem? (i := 3) rfl)
theorem nF_4 {U : State} (h : nestK U) : va_Nw (.fieldLinkNest "LeftIsAgreedOn" 165 "LeftIsAgreedOn$Island" "ponds" "[Z" "LeftIsAgreedOn") U := h.1 ("LeftIsAgreedOn", 165, "LeftIsAgreedOn$Island", "ponds", "[Z") (List.mem_of_getElem? (i := 4) rfl)
theorem nF_5 {U : State} (h : nestK U) : va_Nw (.fieldLinkNest "LeftIsAgreedOn" 180 "LeftIsAgreedOn$Island" "left" "I" "LeftIsAgreedOn") U := h.1 ("LeftIsAgreedOn", 180, "LeftIsAgreedOn$Island", "left", "I") (List.mem_of_getElem? (i := 5) rfl)
theorem nF_6 {U : State} (h : nestK U) : va_Nw (.fieldLinkNest "LeftIsAgreedOn" 183 "LeftIsAgreedOn$Island" "old" "I" "LeftIsAgreedOn") U := h.1 ("LeftIsAgreedOn", 183, "LeftIsAgreedOn$Island", "old", "I") (List.mem_of_getElem? (i := 6) rfl)
theorem nF_7 {U : State} (h : nestK U) : va_Nw (.fieldLinkNest "LeftIsAgreedOn" 186 "LeftIsAgreedOn$Island" "doubt" "I" "LeftIsAgreedOn") U := h.1 ("LeftIsAgreedOn", 186, "LeftIsAgreedOn$Island", "doubt", "I") (List.mem_of_getElem? (i := 7) rfl)
theorem nF_8 {U : State} (h : nestK U) : va_Nw (.fieldLinkNest "LeftIsAgreedOn" 189 "LeftIsAgreedOn$Island" "pledges" "[I" "LeftIsAgreedOn") U := h.1 ("LeftIsAgreedOn", 189, "LeftIsAgreedOn$Island", "pledges", "[I") (List.mem_of_getElem? (i := 8) rfl)
theorem nF_9 {U : State} (h : nestK U) : va_Nw (.fieldLinkNest "LeftIsAgreedOn" 192 "LeftIsAgreedOn$Island" "cells" "[I" "LeftIsAgreedOn") U := h.1 ("LeftIsAgreedOn", 192, "LeftIsAgreedOn$Island", "cells", "[I") (List.mem_of_getElem? (i := 9) rfl)
theorem nF_10 {U : State} (h : nestK U) : va_Nw (.fieldLinkNest "LeftIsAgreedOn" 195 "LeftIsAgreedOn$Island" "faces" "[I" "LeftIsAgreedOn") U := h.1 ("LeftIsAgreedOn", 195, "LeftIsAgreedOn$Island", "faces", "[I") (List.mem_of_getElem? (i := 10) rfl)
theorem nF_11 {U : State} (h : nestK U) : va_Nw (.fieldLinkNest "LeftIsAgreedOn" 231 "LeftIsAgreedOn$Walker" "cell" "I" "LeftIsAgreedOn") U := h.1 ("LeftIsAgreedOn", 231, "LeftIsAgreedOn$Walker", "cell", "I") (List.mem_of_getElem? (i := 11) rfl)
theorem nF_12 {U : State} (h : nestK U) : va_Nw (.fieldLinkNest "LeftIsAgreedOn" 234 "LeftIsAgreedOn$Walker" "fellBy" "I" "LeftIsAgreedOn") U := h.1 ("LeftIsAgreedOn", 234, "LeftIsAgreedOn$Walker", "fellBy", "I") (List.mem_of_getElem? (i := 12) rfl)
theorem nF_13 {U : State} (h : nestK U) : va_Nw (.fieldLinkNest "LeftIsAgreedOn" 237 "LeftIsAgreedOn$Island" "count" "I" "LeftIsAgreedOn") U := h.1 ("LeftIsAgreedOn", 237, "LeftIsAgreedOn$Island", "count", "I") (List.mem_of_getElem? (i := 13) rfl)
theorem nF_14 {U : State} (h : nestK U) : va_Nw (.fieldLinkNest "LeftIsAgreedOn" 252 "LeftIsAgreedOn$Walker" "kind" "I" "LeftIsAgreedOn") U := h.1 ("LeftIsAgreedOn", 252, "LeftIsAgreedOn$Walker", "kind", "I") (List.mem_of_getElem? (i := 14) rfl)
theorem nF_15 {U : State} (h : nestK U) : va_Nw (.fieldLinkNest "LeftIsAgreedOn" 255 "LeftIsAgreedOn$Walker" "left" "I" "LeftIsAgreedOn") U := h.1 ("LeftIsAgreedOn", 255, "LeftIsAgreedOn$Walker", "left", "I") (List.mem_of_getElem? (i := 15) rfl)
theorem nF_16 {U : State} (h : nestK U) : va_Nw (.fieldLinkNest "LeftIsAgreedOn" 302 "LeftIsAgreedOn$Island" "fallen" "I" "LeftIsAgreedOn") U := h.1 ("LeftIsAgreedOn", 302, "LeftIsAgreedOn$Island", "fallen", "I") (List.mem_of_getElem? (i := 16) rfl)
theorem nF_17 {U : State} (h : nestK U) : va_Nw (.fieldLinkNest "LeftIsAgreedOn" 308 "LeftIsAgreedOn$Island" "seed" "I" "LeftIsAgreedOn") U := h.1 ("LeftIsAgreedOn", 308, "LeftIsAgreedOn$Island", "seed", "I") (List.mem_of_getElem? (i := 17) rfl)
theorem nF_18 {U : State} (h : nestK U) : va_Nw (.fieldLinkNest "LeftIsAgreedOn" 317 "LeftIsAgreedOn$Island" "years" "I" "LeftIsAgreedOn") U := h.1 ("LeftIsAgreedOn", 317, "LeftIsAgreedOn$Island", "years", "I") (List.mem_of_getElem? (i := 18) rfl)
theorem nF_19 {U : State} (h : nestK U) : va_Nw (.fieldLinkNest "LeftIsAgreedOn" 320 "LeftIsAgreedOn$Reader" "size" "I" "LeftIsAgreedOn") U := h.1 ("LeftIsAgreedOn", 320, "LeftIsAgreedOn$Reader", "size", "I") (List.mem_of_getElem? (i := 19) rfl)
theorem nF_20 {U : State} (h : nestK U) : va_Nw (.fieldLinkNest "LeftIsAgreedOn$Reader" 110 "LeftIsAgreedOn$Island" "pledges" "[I" "LeftIsAgreedOn") U := h.1 ("LeftIsAgreedOn$Reader", 110, "LeftIsAgreedOn$Island", "pledges", "[I") (List.mem_of_getElem? (i := 20) rfl)
theorem nF_21 {U : State} (h : nestK U) : va_Nw (.fieldLinkNest "LeftIsAgreedOn$Reader" 115 "LeftIsAgreedOn$Island" "left" "I" "LeftIsAgreedOn") U := h.1 ("LeftIsAgreedOn$Reader", 115, "LeftIsAgreedOn$Island", "left", "I") (List.mem_of_getElem? (i := 21) rfl)
theorem nF_22 {U : State} (h : nestK U) : va_Nw (.fieldLinkNest "LeftIsAgreedOn$Reader" 119 "LeftIsAgreedOn$Island" "old" "I" "LeftIsAgreedOn") U := h.1 ("LeftIsAgreedOn$Reader", 119, "LeftIsAgreedOn$Island", "old", "I") (List.mem_of_getElem? (i := 22) rfl)
theorem nF_23 {U : State} (h : nestK U) : va_Nw (.fieldLinkNest "LeftIsAgreedOn$Reader" 123 "LeftIsAgreedOn$Island" "doubt" "I" "LeftIsAgreedOn") U := h.1 ("LeftIsAgreedOn$Reader", 123, "LeftIsAgreedOn$Island", "doubt", "I") (List.mem_of_getElem? (i := 23) rfl)
theorem nF_24 {U : State} (h : nestK U) : va_Nw (.fieldLinkNest "LeftIsAgreedOn$Reader" 87 "LeftIsAgreedOn$Island" "side" "I" "LeftIsAgreedOn") U := h.1 ("LeftIsAgreedOn$Reader", 87, "LeftIsAgreedOn$Island", "side", "I") (List.mem_of_getElem? (i := 24) rfl)
theorem nF_25 {U : State} (h : nestK U) : va_Nw (.fieldLinkNest "LeftIsAgreedOn$Reader" 95 "LeftIsAgreedOn$Island" "ponds" "[Z" "LeftIsAgreedOn") U := h.1 ("LeftIsAgreedOn$Reader", 95, "LeftIsAgreedOn$Island", "ponds", "[Z") (List.mem_of_getElem? (i := 25) rfl)
theorem nF_26 {U : State} (h : nestK U) : va_Nw (.fieldLinkNest "LeftIsAgreedOn$Search" 35 "LeftIsAgreedOn$Walker" "left" "I" "LeftIsAgreedOn") U := h.1 ("LeftIsAgreedOn$Search", 35, "LeftIsAgreedOn$Walker", "left", "I") (List.mem_of_getElem? (i := 26) rfl)
theorem nF_27 {U : State} (h : nestK U) : va_Nw (.fieldLinkNest "LeftIsAgreedOn$Walker" 53 "LeftIsAgreedOn$Island" "kinds" "[I" "LeftIsAgreedOn") U := h.1 ("LeftIsAgreedOn$Walker", 53, "LeftIsAgreedOn$Island", "kinds", "[I") (List.mem_of_getElem? (i := 27) rfl)
theorem nF_28 {U : State} (h : nestK U) : va_Nw (.fieldLinkNest "LeftIsAgreedOn$Walker" 57 "LeftIsAgreedOn$Island" "left" "I" "LeftIsAgreedOn") U := h.1 ("LeftIsAgreedOn$Walker", 57, "LeftIsAgreedOn$Island", "left", "I") (List.mem_of_getElem? (i := 28) rfl)
theorem nF_29 {U : State} (h : nestK U) : va_Nw (.fieldLinkNest "LeftIsAgreedOn$Walker" 58 "LeftIsAgreedOn$Island" "pledges" "[I" "LeftIsAgreedOn") U := h.1 ("LeftIsAgreedOn$Walker", 58, "LeftIsAgreedOn$Island", "pledges", "[I") (List.mem_of_getElem? (i := 29) rfl)
theorem nF_30 {U : State} (h : nestK U) : va_Nw (.fieldLinkNest "LeftIsAgreedOn$Walker" 61 "LeftIsAgreedOn$Island" "cells" "[I" "LeftIsAgreedOn") U := h.1 ("LeftIsAgreedOn$Walker", 61, "LeftIsAgreedOn$Island", "cells", "[I") (List.mem_of_getElem? (i := 30) rfl)
theorem nF_31 {U : State} (h : nestK U) : va_Nw (.fieldLinkNest "LeftIsAgreedOn$Walker" 64 "LeftIsAgreedOn$Island" "faces" "[I" "LeftIsAgreedOn") U := h.1 ("LeftIsAgreedOn$Walker", 64, "LeftIsAgreedOn$Island", "faces", "[I") (List.mem_of_getElem? (i := 31) rfl)
theorem nF_32 {U : State} (h : nestK U) : va_Nw (.fieldLinkNest "LeftIsAgreedOn$Walker" 88 "LeftIsAgreedOn$Island" "old" "I" "LeftIsAgreedOn") U := h.1 ("LeftIsAgreedOn$Walker", 88, "LeftIsAgreedOn$Island", "old", "I") (List.mem_of_getElem? (i := 32) rfl)
theorem nM_0 {U : State} (h : nestK U) : va_Nw (.methodLinkNest "LeftIsAgreedOn" 33 yX3_init "LeftIsAgreedOn") U := h.2 ("LeftIsAgreedOn", 33, yX3_init) (List.mem_of_getElem? (i := 0) rfl)
theorem nM_1 {U : State} (h : nestK U) : va_Nw (.methodLinkNest "LeftIsAgreedOn" 9 yX0_init "LeftIsAgreedOn") U := h.2 ("LeftIsAgreedOn", 9, yX0_init) (List.mem_of_getElem? (i := 1) rfl)
theorem nM_2 {U : State} (h : nestK U) : va_Nw (.methodLinkNest "LeftIsAgreedOn$Island" 62 yX5_isWithin "LeftIsAgreedOn") U := h.2 ("LeftIsAgreedOn$Island", 62, yX5_isWithin) (List.mem_of_getElem? (i := 2) rfl)
theorem nM_3 {U : State} (h : nestK U) : va_Nw (.methodLinkNest "LeftIsAgreedOn$Island" 82 yX5_asNumber "LeftIsAgreedOn") U := h.2 ("LeftIsAgreedOn$Island", 82, yX5_asNumber) (List.mem_of_getElem? (i := 3) rfl)
theorem nM_4 {U : State} (h : nestK U) : va_Nw (.methodLinkNest "LeftIsAgreedOn$Reader" 125 yX5_isWithin "LeftIsAgreedOn") U := h.2 ("LeftIsAgreedOn$Reader", 125, yX5_isWithin) (List.mem_of_getElem? (i := 4) rfl)
theorem nM_5 {U : State} (h : nestK U) : va_Nw (.methodLinkNest "LeftIsAgreedOn$Search" 47 yX5_isWithin "LeftIsAgreedOn") U := h.2 ("LeftIsAgreedOn$Search", 47, yX5_isWithin) (List.mem_of_getElem? (i := 5) rfl)
theorem nM_6 {U : State} (h : nestK U) : va_Nw (.methodLinkNest "LeftIsAgreedOn$Shelves" 22 yX5_isWithin "LeftIsAgreedOn") U := h.2 ("LeftIsAgreedOn$Shelves", 22, yX5_isWithin) (List.mem_of_getElem? (i := 6) rfl)
theorem nM_7 {U : State} (h : nestK U) : va_Nw (.methodLinkNest "LeftIsAgreedOn$Shelves" 54 yX5_asNumber "LeftIsAgreedOn") U := h.2 ("LeftIsAgreedOn$Shelves", 54, yX5_asNumber) (List.mem_of_getElem? (i := 7) rfl)
theorem nM_8 {U : State} (h : nestK U) : va_Nw (.methodLinkNest "LeftIsAgreedOn$Walker" 97 yX5_asNumber "LeftIsAgreedOn") U := h.2 ("LeftIsAgreedOn$Walker", 97, yX5_asNumber) (List.mem_of_getElem? (i := 8) rfl)
theorem nestK.warm {s U : State} (hW : s.WarmedH U.vm) (h : nestK s) : nestK U := ⟨fun q hq => va_Nw.warmF hW (h.1 q hq), fun q hq => va_Nw.warmM hW (h.2 q hq)⟩
theorem nestK.same {s U : State} (hv : s.vm = U.vm) (h : nestK s) : nestK U := ⟨fun q hq => va_Nw.same rfl hv (h.1 q hq), fun q hq => va_Nw.same rfl hv (h.2 q hq)⟩
/-- the static arrays: ABOVE, NODES, ROW_STEPS, COLUMN_STEPS -/
noncomputable def staK (E : Env0) (A : Nat → Prop) (U : State) (H : Heap) : Prop :=
  (va_Z "LeftIsAgreedOn" "ABOVE" "[I" (.ref E.2.2.1.1) A U H ∧ va_T .int E.2.2.1.1 6 (fun j => .int (sABOVE j)) A U H) ∧
  (va_Z "LeftIsAgreedOn$Search" "NODES" "[I" (.ref E.2.2.1.2.1) A U H ∧ va_T .int E.2.2.1.2.1 7 (fun j => .int (sNODES j)) A U H) ∧
  (va_Z "LeftIsAgreedOn$Island" "ROW_STEPS" "[I" (.ref E.2.2.1.2.2.1) A U H ∧ va_T .int E.2.2.1.2.2.1 4 (fun j => .int (sROW j)) A U H) ∧
  (va_Z "LeftIsAgreedOn$Island" "COLUMN_STEPS" "[I" (.ref E.2.2.1.2.2.2) A U H ∧ va_T .int E.2.2.1.2.2.2 4 (fun j => .int (sCOL j)) A U H)
theorem staK.moved {E : Env0} {A : Nat → Prop} {u U : State} {H : Heap} (hvm : u.vm.Alike U.vm) (h : staK E A u H) : staK E A U H :=
  ⟨⟨h.1.1.moved hvm, h.1.2.moved hvm⟩, ⟨h.2.1.1.moved hvm, h.2.1.2.moved hvm⟩, ⟨h.2.2.1.1.moved hvm, h.2.2.1.2.moved hvm⟩, ⟨h.2.2.2.1.moved hvm, h.2.2.2.2.moved hvm⟩⟩
theorem staK.kept {E : Env0} {A : Nat → Prop} {U : State} {H H1 : Heap} (h : staK E A U H) (hq : ∀ a : Nat, a < H.size → ¬ A a → H1[a]? = H[a]?) : staK E A U H1 :=
  ⟨⟨h.1.1.kept hq, h.1.2.kept hq⟩, ⟨h.2.1.1.kept hq, h.2.1.2.kept hq⟩, ⟨h.2.2.1.1.kept hq, h.2.2.1.2.kept hq⟩, ⟨h.2.2.2.1.kept hq, h.2.2.2.2.kept hq⟩⟩
theorem staK.narrow {E : Env0} {A B : Nat → Prop} {U : State} {H : Heap} (h : staK E A U H) (hAB : ∀ q, B q → A q) : staK E B U H :=
  ⟨⟨h.1.1.narrow hAB, h.1.2.narrow hAB⟩, ⟨h.2.1.1.narrow hAB, h.2.1.2.narrow hAB⟩, ⟨h.2.2.1.1.narrow hAB, h.2.2.1.2.narrow hAB⟩, ⟨h.2.2.2.1.narrow hAB, h.2.2.2.2.narrow hAB⟩⟩
noncomputable def strK (E : Env0) (A : Nat → Prop) (U : State) (H : Heap) : Prop :=
  vk_S 8 slen sbyt E.2.2.2.1 E.2.2.2.2 A U H ∧ (∀ q ∈ sref, vk_R "LeftIsAgreedOn$Reader" q.1 q.2.1 (E.2.2.2.1 q.2.2) U) ∧ va_Z "java/lang/String" "COMPACT_STRINGS" "Z" (.int 1) A U H ∧ va_Zq "jdk/internal/util/Preconditions" "SIOOBE_FORMATTER" "Ljava/util/function/BiFunction;" A U H
theorem strK.moved {E : Env0} {A : Nat → Prop} {s U : State} {H : Heap} (hW : s.WarmedH U.vm) (h : strK E A s H) : strK E A U H := ⟨h.1.moved hW.alike, fun q hq => vk_R.warm hW (h.2.1 q hq), h.2.2.1.moved hW.alike, h.2.2.2.moved hW.alike⟩
theorem strK.kept {E : Env0} {A : Nat → Prop} {U : State} {H H1 : Heap} (h : strK E A U H) (hq : ∀ a : Nat, a < H.size → ¬ A a → H1[a]? = H[a]?) : strK E A U H1 := ⟨h.1.kept hq, h.2.1, h.2.2.1.kept hq, h.2.2.2.kept hq⟩
theorem strK.narrow {E : Env0} {A B : Nat → Prop} {U : State} {H : Heap} (h : strK E A U H) (hAB : ∀ q, B q → A q) : strK E B U H := ⟨h.1.narrow hAB, h.2.1, h.2.2.1.narrow hAB, h.2.2.2.narrow hAB⟩
theorem strK.same {E : Env0} {A : Nat → Prop} {s U : State} {H : Heap} (hv : U.vm = s.vm) (h : strK E A s H) : strK E A U H := ⟨h.1.moved (by rw [hv]; exact Vm.Alike.refl s.vm), fun q hq => vk_R.same hv (h.2.1 q hq), h.2.2.1.moved (by rw [hv]; exact Vm.Alike.refl s.vm), h.2.2.2.moved (by rw [hv]; exact Vm.Alike.refl s.vm)⟩
/-- all that no method changes -/
noncomputable def GK (E : Env0) (A : Nat → Prop) (U : State) (H : Heap) : Prop := va_K E.1 vwCl (tys0 E) U ∧ nestK U ∧ staK E A U H ∧ strK E A U H
theorem GK.call {E : Env0} {A B : Nat → Prop} {s U : State} {H : Heap} {locs : List Loc} (h : GK E A s s.heap) (hS : va_S A s.heap H locs) (hB : ∀ q, B q → A q) (hU : U.heap = H) (hW : s.WarmedH U.vm) : GK E B U U.heap := by
  rw [hU]
  exact ⟨h.1.moved hW.alike, h.2.1.warm hW, ((h.2.2.1.kept hS.2.1).narrow hB).moved hW.alike, ((h.2.2.2.kept hS.2.1).narrow hB).moved hW⟩
theorem GK.blind {E : Env0} {A : Nat → Prop} {U : State} {g : JFrame} {mk : MethodId} {a : Array Value} (h : GK E A U U.heap) : GK E A (U.calling g mk a) (U.calling g mk a).heap :=
  ⟨va_K.moved (u := U) (U := U.calling g mk a) (Vm.Alike.refl U.vm) h.1, nestK.same (s := U) (U := U.calling g mk a) rfl h.2.1, staK.moved (u := U) (U := U.calling g mk a) (Vm.Alike.refl U.vm) h.2.2.1, strK.same (s := U) (U := U.calling g mk a) rfl h.2.2.2⟩
noncomputable def cPre (E : Env0) (av : List Value) (ws : va_W) (sz : Nat) : Array Value → State → Prop := va_Pc av (fun U => U.heap.size = sz ∧ va_P E.1 vwCl ws U.heap ∧ va_D (fun _ => True) ws ∧ GK E (va_A ws sz) U U.heap)
theorem cPre.blind {E : Env0} {av : List Value} {ws : va_W} {sz : Nat} : FrameBlind (cPre E av ws sz) := fun a U g mk q => ⟨q.1, q.2.1, q.2.2.1, q.2.2.2.1, q.2.2.2.2.blind⟩
noncomputable abbrev qI (E : Env0) (A : Nat → Prop) (r : Int32) (ws1 : va_W) : Array Value → State → Outcome → State → Prop := va_Qi (fun x (_ : Unit) => x = r) (fun _ t => va_P E.1 vwCl ws1 t.heap ∧ va_D A ws1) A
noncomputable abbrev qL (E : Env0) (A : Nat → Prop) (r : Int64) (ws1 : va_W) : Array Value → State → Outcome → State → Prop := va_Ql (fun x (_ : Unit) => x = r) (fun _ t => va_P E.1 vwCl ws1 t.heap ∧ va_D A ws1) A
noncomputable abbrev qV (E : Env0) (A : Nat → Prop) (ws1 : va_W) : Array Value → State → Outcome → State → Prop := va_Qv (fun (_ : Unit) => True) (fun _ t => va_P E.1 vwCl ws1 t.heap ∧ va_D A ws1) A
/-- what a walk has from its method's entry -/
noncomputable def Ctx (p : Program) (m : MethodId) (meth : Method) (c : Code) (cc : ByteArray) (nL : Nat) (ret : Option FieldType) (s : State) (args : Array Value) (Ts : List Cond) (own : String) (E : Env0) (A : Nat → Prop) : Prop :=
  p.tables.exec = Jvm.exec ∧ c.code = cc ∧ c.maxLocals = nL ∧ meth.sig.returnType = ret ∧ meth.locks = false ∧ s.vm.findClass own = some m.cls ∧ (∀ w ∈ Ts, w.before args s = true) ∧ GK E A s s.heap ∧ (∀ q, s.heap.size ≤ q → A q)
theorem isB.nar {x : Int32} (h : isB x) : narrow .boolean (.int x) = .int x := by rcases h with rfl | rfl <;> rfl
theorem isB.fit {x : Int32} (h : isB x) : fits .boolean (.int x) = true := by rcases h with rfl | rfl <;> rfl
theorem inb.vp {i : Int32} {n : Nat} (h : inb i n) : vp_in i n := fun q => q.elim (fun q => absurd h.1 (Int32.not_le.mpr q)) (fun q => absurd h.2 (Nat.not_lt.mpr q))
theorem chk_of {α : Type} {C : Prop} [Decidable C] {x : Option α} {r : α} (h : (if C then x else none) = some r) : C ∧ x = some r := by
  by_cases hc : C
  · rw [if_pos hc] at h; exact ⟨hc, h⟩
  · rw [if_neg hc] at h; cases h
theorem if_t {α : Type} {C : Prop} [Decidable C] {x y : Option α} {r : α} (h : (if C then x else y) = some r) (hc : C) : x = some r := by rw [if_pos hc] at h; exact h
theorem if_f {α : Type} {C : Prop} [Decidable C] {x y : Option α} {r : α} (h : (if C then x else y) = some r) (hc : ¬ C) : y = some r := by rw [if_neg hc] at h; exact h
theorem bind_of {α β : Type} {x : Option α} {f : α → Option β} {r : β} (h : x.bind f = some r) : ∃ v, x = some v ∧ f v = some r := by
  cases x with
  | none => cases h
  | some v => exact ⟨v, rfl, h⟩
/-- a world with the callee's cells put back at their places -/
noncomputable def wc_put : List Nat → va_W → va_W → va_W
  | [], [], ws => ws
  | i :: is, x :: xs, ws => wc_put is xs (ws.set i x)
  | _, _, _ => []
theorem wc_put_get : ∀ (is : List Nat) (xs ws : va_W) (k : Nat) (q : Nat × va_E), (wc_put is xs ws)[k]? = some q → (∃ j : Nat, is[j]? = some k ∧ xs[j]? = some q) ∨ (k ∉ is ∧ ws[k]? = some q) := by
  intro is
  induction is with
  | nil =>
    intro xs ws k q h
    cases xs with
    | nil => exact Or.inr ⟨List.not_mem_nil, h⟩
    | cons x xs => exact absurd h (by simp [wc_put])
  | cons i is ih =>
    intro xs ws k q h
    cases xs with
    | nil => exact absurd h (by simp [wc_put])
    | cons x xs =>
      rcases ih xs (ws.set i x) k q h with ⟨j, h1, h2⟩ | ⟨h1, h2⟩
      · exact Or.inl ⟨j + 1, h1, h2⟩
      · by_cases hk : k = i
        · subst hk
          have hl : k < ws.length := by
            have h3 := (List.getElem?_eq_some_iff.mp h2).1
            rw [List.length_set] at h3
            exact h3
          rw [List.getElem?_set_self hl] at h2
          exact Or.inl ⟨0, rfl, h2⟩
        · rw [List.getElem?_set_ne (fun e => hk e.symm)] at h2
          exact Or.inr ⟨fun h => (List.mem_cons.mp h).elim hk h1, h2⟩
section BASE
variable {p : Program} {l : Launch} {e : Env} {R : Room} {s : State} {m : MethodId} {args : Array Value} {below : List Frame} {meth : Method} {c : Code} {H : Heap} {locs : List Loc} {Q : State → Prop} {cc : ByteArray} {nL : Nat} {ret : Option FieldType} {Ts : List Cond} {own : String} {E : Env0} {A : Nat → Prop} {pc : Nat} {ls : Array Slot} {rest st0 : List Value}
theorem ret_i {r v : Int32} {ws1 : va_W} (X : Ctx p m meth c cc nL (some .int) s args Ts own E A) (hdg : decode cc pc = .ok (.ireturn, 1)) (hP : va_P E.1 vwCl ws1 H) (hD : va_D A ws1) (hS : va_S A s.heap H locs) (hv : v = r) : W p l e R s m args below meth c H locs 0 0 (MQ below (qI E A r ws1) args s 0 0 A) (F0 m pc ls [.int v]) :=
  W.iret (v := v) X.1 X.2.1 X.2.2.2.1 (fun t ht _ => ⟨⟨v, (), rfl, hv, by rw [ht]; exact hP, hD⟩, hS.F ht⟩) hS.2.2 hdg X.2.2.2.2.1
theorem ret_z {r v : Int32} {ws1 : va_W} (X : Ctx p m meth c cc nL (some .boolean) s args Ts own E A) (hdg : decode cc pc = .ok (.ireturn, 1)) (hB : isB v) (hP : va_P E.1 vwCl ws1 H) (hD : va_D A ws1) (hS : va_S A s.heap H locs) (hv : v = r) : W p l e R s m args below meth c H locs 0 0 (MQ below (qI E A r ws1) args s 0 0 A) (F0 m pc ls [.int v]) :=
  W.zret (v := v) X.1 X.2.1 X.2.2.2.1 hB.nar (fun t ht _ => ⟨⟨v, (), rfl, hv, by rw [ht]; exact hP, hD⟩, hS.F ht⟩) hS.2.2 hdg X.2.2.2.2.1
theorem ret_l {r v : Int64} {ws1 : va_W} (X : Ctx p m meth c cc nL (some .long) s args Ts own E A) (hdg : decode cc pc = .ok (.lreturn, 1)) (hP : va_P E.1 vwCl ws1 H) (hD : va_D A ws1) (hS : va_S A s.heap H locs) (hv : v = r) : W p l e R s m args below meth c H locs 0 0 (MQ below (qL E A r ws1) args s 0 0 A) (F0 m pc ls [.long v]) :=
  W.lret (v := v) X.1 X.2.1 X.2.2.2.1 (fun t ht _ => ⟨⟨v, (), rfl, hv, by rw [ht]; exact hP, hD⟩, hS.F ht⟩) hS.2.2 hdg X.2.2.2.2.1
theorem ret_v {ws1 : va_W} (X : Ctx p m meth c cc nL none s args Ts own E A) (hdg : decode cc pc = .ok (.return_, 1)) (hP : va_P E.1 vwCl ws1 H) (hD : va_D A ws1) (hS : va_S A s.heap H locs) : W p l e R s m args below meth c H locs 0 0 (MQ below (qV E A ws1) args s 0 0 A) (F0 m pc ls []) :=
  W.vret X.1 X.2.1 X.2.2.2.1 (fun t ht _ => ⟨⟨(), rfl, trivial, by rw [ht]; exact hP, hD⟩, hS.F ht⟩) hS.2.2 hdg X.2.2.2.2.1
theorem fm_of {ws wc : va_W} {is : List Nat} (h : is.map (fun i => ws[i]?) = wc.map some) : is.filterMap (fun i => ws[i]?) = wc := by
  have h1 : is.filterMap (fun i => ws[i]?) = (is.map (fun i => ws[i]?)).filterMap id := by rw [List.filterMap_map]; rfl
  rw [h1, h, List.filterMap_map]
  exact List.filterMap_some
theorem pre_of {ws0 wc : va_W} {av : List Value} (X : Ctx p m meth c cc nL ret s args Ts own E A) (hP : va_P E.1 vwCl ws0 H) (hD : va_D A ws0) (hS : va_S A s.heap H locs) (isC : List Nat) (hC : isC.map (fun i => ws0[i]?) = wc.map some) (hnC : va_nd isC = true) : PreS s H (cPre E av wc H.size) av :=
  ⟨cPre.blind, fun U hU hW => ⟨rfl, by rw [hU], by rw [hU]; exact hP.sub isC (fm_of hC), (hD.sub isC hnC hC).weaken (fun _ _ _ _ => trivial), X.2.2.2.2.2.2.2.1.call hS (va_free hD hS X.2.2.2.2.2.2.2.2 isC hC) hU hW⟩⟩
theorem run_V (X : Ctx p m meth c cc nL ret s args Ts own E A) {y : MethodName} {wsy : List Cond} {rm : Room} {b : Addr} {As : List Value} {wc : va_W} {Qc : Array Value → State → Outcome → State → Prop} (hM : Met l y wsy rm (cPre E (.ref b :: As) wc H.size) Qc 0 0 (va_A wc H.size)) {C : String} {index maxL n : Nat} {bytes : ByteArray} {rety : Option FieldType} (cw : CallW R s args own C index y bytes maxL rety wsy rm 0 0 n) {ws0 : va_W} (hP : va_P E.1 vwCl ws0 H) (hD : va_D A ws0) (hS : va_S A s.heap H locs) (isC : List Nat) (hC : isC.map (fun i => ws0[i]?) = wc.map some) (hnC : va_nd isC = true) (hsz : ls.size = nL) {ci : Nat} {q : vw_C} {fs : List Value} (hc : vwCl[ci]? = some q) (he : wc[0]? = some (b, .inr (ci, fs))) (hq : q.1 = C) {rest : List Value} (hn : As.length = n) (hst : st0 = As.reverse ++ .ref b :: rest) (hW : (rest.map fun v => v.category).sum ≤ 8) (hdg : decode cc pc = .ok (.invokevirtual index, 3)) : va_Run p l e R s m args below meth c H locs 0 0 0 0 (F0 m pc ls st0) rest (Qc (Value.ref b :: As).toArray) (va_A wc H.size) :=
  va_runV (As := As) (rest := rest) ⟨X.1, X.2.1, X.2.2.1, X.2.2.2.2.2.1, X.2.2.2.2.2.2.1⟩ hM cw ⟨cPre.blind, by rw [← hq]; exact va_recv X.2.2.2.2.2.2.2.1.1 (hP.sub isC (fm_of hC)) hc he, (pre_of X hP hD hS isC hC hnC).2⟩ rfl hn hsz hst (lv_room hW) hdg ⟨Nat.zero_le _, Nat.zero_le _⟩
theorem run_S (X : Ctx p m meth c cc nL ret s args Ts own E A) {y : MethodName} {wsy : List Cond} {rm : Room} {As : List Value} {wc : va_W} {Qc : Array Value → State → Outcome → State → Prop} (hM : Met l y wsy rm (cPre E As wc H.size) Qc 0 0 (va_A wc H.size)) {index maxL n : Nat} {bytes : ByteArray} {rety : Option FieldType} (cw : CallB R s args own index y bytes maxL rety wsy rm 0 0 n ∧ (Cond.static y).before args s = true) {ws0 : va_W} (hP : va_P E.1 vwCl ws0 H) (hD : va_D A ws0) (hS : va_S A s.heap H locs) (isC : List Nat) (hC : isC.map (fun i => ws0[i]?) = wc.map some) (hnC : va_nd isC = true) (hsz : ls.size = nL) {rest : List Value} (hn : As.length = n) (hst : st0 = As.reverse ++ rest) (hW : (rest.map fun v => v.category).sum ≤ 8) (hdg : decode cc pc = .ok (.invokestatic index, 3)) : va_Run p l e R s m args below meth c H locs 0 0 0 0 (F0 m pc ls st0) rest (Qc As.toArray) (va_A wc H.size) :=
  va_runS (As := As) (rest := rest) ⟨X.1, X.2.1, X.2.2.1, X.2.2.2.2.2.1, X.2.2.2.2.2.2.1⟩ hM cw (pre_of X hP hD hS isC hC hnC) rfl hn hsz hst (lv_room hW) hdg ⟨Nat.zero_le _, Nat.zero_le _⟩
theorem run_SN (X : Ctx p m meth c cc nL ret s args Ts own E A) {y : MethodName} {wsy : List Cond} {rm : Room} {As : List Value} {wc : va_W} {Qc : Array Value → State → Outcome → State → Prop} (hM : Met l y wsy rm (cPre E As wc H.size) Qc 0 0 (va_A wc H.size)) {index maxL n : Nat} {host : String} {bytes : ByteArray} {rety : Option FieldType} (cw : va_CN R s args own index y host bytes maxL rety wsy rm 0 0 n ∧ (Cond.static y).before args s = true ∧ True) {ws0 : va_W} (hP : va_P E.1 vwCl ws0 H) (hD : va_D A ws0) (hS : va_S A s.heap H locs) (isC : List Nat) (hC : isC.map (fun i => ws0[i]?) = wc.map some) (hnC : va_nd isC = true) (hsz : ls.size = nL) {rest : List Value} (hn : As.length = n) (hst : st0 = As.reverse ++ rest) (hW : (rest.map fun v => v.category).sum ≤ 8) (hdg : decode cc pc = .ok (.invokestatic index, 3)) : va_Run p l e R s m args below meth c H locs 0 0 0 0 (F0 m pc ls st0) rest (Qc As.toArray) (va_A wc H.size) :=
  va_runSN (As := As) (rest := rest) ⟨X.1, X.2.1, X.2.2.1, X.2.2.2.2.2.1, X.2.2.2.2.2.2.1⟩ hM cw (pre_of X hP hD hS isC hC hnC) rfl hn hsz hst (lv_room hW) hdg ⟨Nat.zero_le _, Nat.zero_le _⟩
/-- what came back, put where it was -/
theorem back_w {ws0 wc w1 ws1 : va_W} {H1 : Heap} (X : Ctx p m meth c cc nL ret s args Ts own E A) (hP : va_P E.1 vwCl ws0 H) (hD : va_D A ws0) (hS : va_S A s.heap H locs) (isC : List Nat) (hC : isC.map (fun i => ws0[i]?) = wc.map some) (hO : wc_put isC w1 ws0 = ws1) (hk : ∀ q : Nat, q < H.size → ¬ va_A wc H.size q → H1[q]? = H[q]?) (h1 : va_P E.1 vwCl w1 H1) (h2 : va_D (va_A wc H.size) w1) : va_P E.1 vwCl ws1 H1 ∧ va_D A ws1 := by
  subst hO
  have hF := va_free hD hS X.2.2.2.2.2.2.2.2 isC hC
  have one : ∀ (k : Nat) (q : Nat × va_E), k ∉ isC → ws0[k]? = some q → va_P E.1 vwCl ([q] ++ w1) H1 ∧ va_D A ([q] ++ w1) := fun k q hn hq =>
    va_join hP hD isC [k] hC (wr := [q]) (by show [ws0[k]?] = [some q]; rw [hq]) (by simp [va_nd]) (fun i hi => by rw [List.mem_singleton.mp hi]; exact hn) hk hF h1 h2
  refine ⟨fun k q h => ?_, fun i j p q hi hj hpq => ?_, fun k q h => ?_⟩
  · rcases wc_put_get isC w1 ws0 k q h with ⟨j, g1, g2⟩ | ⟨g1, g2⟩
    · exact h1 j q g2
    · exact (one k q g1 g2).1 0 q rfl
  · rcases wc_put_get isC w1 ws0 i p hi with ⟨a, g1, g2⟩ | ⟨g1, g2⟩
    · rcases wc_put_get isC w1 ws0 j q hj with ⟨b, g3, g4⟩ | ⟨g3, g4⟩
      · have e := h2.1 a b p q g2 g4 hpq
        subst e
        exact Option.some.inj (g1.symm.trans g3)
      · exact absurd ((one j q g3 g4).2.1 (a + 1) 0 p q g2 rfl hpq) (by omega)
    · rcases wc_put_get isC w1 ws0 j q hj with ⟨b, g3, g4⟩ | ⟨g3, g4⟩
      · exact absurd ((one i p g1 g2).2.1 0 (b + 1) p q rfl g4 hpq) (by omega)
      · exact hD.1 i j p q g2 g4 hpq
  · rcases wc_put_get isC w1 ws0 k q h with ⟨j, g1, g2⟩ | ⟨g1, g2⟩
    · exact hF q.1 (h2.2 j q g2)
    · exact hD.2 k q g2
theorem after_i (X : Ctx p m meth c cc nL ret s args Ts own E A) {ws0 wc w1 ws1 : va_W} {r0 : Int32} {a : Array Value} (hr : va_Run p l e R s m args below meth c H locs 0 0 0 0 (F0 m pc ls st0) rest (qI E (va_A wc H.size) r0 w1 a) (va_A wc H.size)) (hP : va_P E.1 vwCl ws0 H) (hD : va_D A ws0) (hS : va_S A s.heap H locs) (isC : List Nat) (hC : isC.map (fun i => ws0[i]?) = wc.map some) (hO : wc_put isC w1 ws0 = ws1) (kk : ∀ (H1 : Heap) (locs1 : List Loc), va_P E.1 vwCl ws1 H1 → va_D A ws1 → va_S A s.heap H1 locs1 → W p l e R s m args below meth c H1 locs1 0 0 Q (F0 m (pc + 3) ls (.int r0 :: rest))) : W p l e R s m args below meth c H locs 0 0 Q (F0 m pc ls st0) := by
  have hF := va_free hD hS X.2.2.2.2.2.2.2.2 isC hC
  refine va_calli hr hS (fun q _ h => hF q h) hF (fun r u t H1 locs1 ht hvm hw hB hz1 hk1 hS1 => ?_)
  rw [ht] at hB
  obtain ⟨g1, g2⟩ := back_w X hP hD hS isC hC hO hk1 hB.1 hB.2
  subst hw
  exact kk H1 locs1 g1 g2 hS1
theorem after_l (X : Ctx p m meth c cc nL ret s args Ts own E A) {ws0 wc w1 ws1 : va_W} {r0 : Int64} {a : Array Value} (hr : va_Run p l e R s m args below meth c H locs 0 0 0 0 (F0 m pc ls st0) rest (qL E (va_A wc H.size) r0 w1 a) (va_A wc H.size)) (hP : va_P E.1 vwCl ws0 H) (hD : va_D A ws0) (hS : va_S A s.heap H locs) (isC : List Nat) (hC : isC.map (fun i => ws0[i]?) = wc.map some) (hO : wc_put isC w1 ws0 = ws1) (kk : ∀ (H1 : Heap) (locs1 : List Loc), va_P E.1 vwCl ws1 H1 → va_D A ws1 → va_S A s.heap H1 locs1 → W p l e R s m args below meth c H1 locs1 0 0 Q (F0 m (pc + 3) ls (.long r0 :: rest))) : W p l e R s m args below meth c H locs 0 0 Q (F0 m pc ls st0) := by
  have hF := va_free hD hS X.2.2.2.2.2.2.2.2 isC hC
  refine va_calll hr hS (fun q _ h => hF q h) hF (fun r u t H1 locs1 ht hvm hw hB hz1 hk1 hS1 => ?_)
  rw [ht] at hB
  obtain ⟨g1, g2⟩ := back_w X hP hD hS isC hC hO hk1 hB.1 hB.2
  subst hw
  exact kk H1 locs1 g1 g2 hS1
theorem after_v (X : Ctx p m meth c cc nL ret s args Ts own E A) {ws0 wc w1 ws1 : va_W} {a : Array Value} (hr : va_Run p l e R s m args below meth c H locs 0 0 0 0 (F0 m pc ls st0) rest (qV E (va_A wc H.size) w1 a) (va_A wc H.size)) (hP : va_P E.1 vwCl ws0 H) (hD : va_D A ws0) (hS : va_S A s.heap H locs) (isC : List Nat) (hC : isC.map (fun i => ws0[i]?) = wc.map some) (hO : wc_put isC w1 ws0 = ws1) (kk : ∀ (H1 : Heap) (locs1 : List Loc), va_P E.1 vwCl ws1 H1 → va_D A ws1 → va_S A s.heap H1 locs1 → W p l e R s m args below meth c H1 locs1 0 0 Q (F0 m (pc + 3) ls rest)) : W p l e R s m args below meth c H locs 0 0 Q (F0 m pc ls st0) := by
  have hF := va_free hD hS X.2.2.2.2.2.2.2.2 isC hC
  refine va_callv hr hS (fun q _ h => hF q h) hF (fun u t H1 locs1 ht hvm hw hB hz1 hk1 hS1 => ?_)
  rw [ht] at hB
  obtain ⟨g1, g2⟩ := back_w X hP hD hS isC hC hO hk1 hB.1 hB.2
  exact kk H1 locs1 g1 g2 hS1
section ARR
variable {a n : Nat} {ws ws1 : va_W}
theorem ld_i (X : Ctx p m meth c cc nL ret s args Ts own E A) (hP : va_P E.1 vwCl ws H) (q0 : Nat) {f : Nat → Int32} (ha : ws[q0]? = some (a, .inl (eI E, n, .inl f))) {i v : Int32} (hin : vp_in i n) (hv : f i.toNatClampNeg = v) (hdg : decode cc pc = .ok (.iaload, 1)) (kk : W p l e R s m args below meth c H locs 0 0 Q (F0 m (pc + 1) ls (.int v :: rest))) : W p l e R s m args below meth c H locs 0 0 Q (F0 m pc ls (.int i :: .ref a :: rest)) := by
  subst hv; exact va_iald X.1 X.2.1 X.2.2.2.2.2.2.2.1.1 hP q0 0 ha rfl hin hdg kk
theorem ld_z (X : Ctx p m meth c cc nL ret s args Ts own E A) (hP : va_P E.1 vwCl ws H) (q0 : Nat) {f : Nat → Int32} (ha : ws[q0]? = some (a, .inl (eZ E, n, .inl f))) {i v : Int32} (hin : vp_in i n) (hv : f i.toNatClampNeg = v) (hdg : decode cc pc = .ok (.baload, 1)) (kk : W p l e R s m args below meth c H locs 0 0 Q (F0 m (pc + 1) ls (.int v :: rest))) : W p l e R s m args below meth c H locs 0 0 Q (F0 m pc ls (.int i :: .ref a :: rest)) := by
  subst hv; exact va_zald X.1 X.2.1 X.2.2.2.2.2.2.2.1.1 hP q0 1 ha rfl hin hdg kk
theorem ld_c (X : Ctx p m meth c cc nL ret s args Ts own E A) (hP : va_P E.1 vwCl ws H) (q0 : Nat) {f : Nat → Int32} (ha : ws[q0]? = some (a, .inl (eC E, n, .inl f))) {i v : Int32} (hin : vp_in i n) (hv : f i.toNatClampNeg = v) (hdg : decode cc pc = .ok (.caload, 1)) (kk : W p l e R s m args below meth c H locs 0 0 Q (F0 m (pc + 1) ls (.int v :: rest))) : W p l e R s m args below meth c H locs 0 0 Q (F0 m pc ls (.int i :: .ref a :: rest)) := by
  subst hv; exact va_cald X.1 X.2.1 X.2.2.2.2.2.2.2.1.1 hP q0 3 ha rfl hin hdg kk
theorem ld_l (X : Ctx p m meth c cc nL ret s args Ts own E A) (hP : va_P E.1 vwCl ws H) (q0 : Nat) {f : Nat → Int64} (ha : ws[q0]? = some (a, .inl (eJ E, n, .inr (.inl f)))) {i : Int32} {v : Int64} (hin : vp_in i n) (hv : f i.toNatClampNeg = v) (hdg : decode cc pc = .ok (.laload, 1)) (kk : W p l e R s m args below meth c H locs 0 0 Q (F0 m (pc + 1) ls (.long v :: rest))) : W p l e R s m args below meth c H locs 0 0 Q (F0 m pc ls (.int i :: .ref a :: rest)) := by
  subst hv; exact va_lald X.1 X.2.1 X.2.2.2.2.2.2.2.1.1 hP q0 2 ha rfl hin hdg kk
theorem st_i (X : Ctx p m meth c cc nL ret s args Ts own E A) (hP : va_P E.1 vwCl ws H) (hD : va_D A ws) (hS : va_S A s.heap H locs) (q0 : Nat) {f : Nat → Int32} (ha : ws[q0]? = some (a, .inl (eI E, n, .inl f))) {i x : Int32} (hin : vp_in i n) {k : Nat} (hk : i.toNatClampNeg = k) (hw : ws.set q0 (a, .inl (eI E, n, .inl (upd f k x))) = ws1) (hdg : decode cc pc = .ok (.iastore, 1)) (kk : ∀ (H1 : Heap) (locs1 : List Loc), va_P E.1 vwCl ws1 H1 → va_D A ws1 → va_S A s.heap H1 locs1 → W p l e R s m args below meth c H1 locs1 0 0 Q (F0 m (pc + 1) ls rest)) : W p l e R s m args below meth c H locs 0 0 Q (F0 m pc ls (.int x :: .int i :: .ref a :: rest)) := by
  subst hk; subst hw; exact va_iast X.1 X.2.1 X.2.2.2.2.2.2.2.1.1 hP hD hS q0 0 ha rfl hin hdg kk
theorem st_z (X : Ctx p m meth c cc nL ret s args Ts own E A) (hP : va_P E.1 vwCl ws H) (hD : va_D A ws) (hS : va_S A s.heap H locs) (q0 : Nat) {f : Nat → Int32} (ha : ws[q0]? = some (a, .inl (eZ E, n, .inl f))) {i x : Int32} (hin : vp_in i n) {k : Nat} (hk : i.toNatClampNeg = k) (hw : ws.set q0 (a, .inl (eZ E, n, .inl (upd f k (vp_nar .boolean x)))) = ws1) (hdg : decode cc pc = .ok (.bastore, 1)) (kk : ∀ (H1 : Heap) (locs1 : List Loc), va_P E.1 vwCl ws1 H1 → va_D A ws1 → va_S A s.heap H1 locs1 → W p l e R s m args below meth c H1 locs1 0 0 Q (F0 m (pc + 1) ls rest)) : W p l e R s m args below meth c H locs 0 0 Q (F0 m pc ls (.int x :: .int i :: .ref a :: rest)) := by
  subst hk; subst hw; exact va_zast X.1 X.2.1 X.2.2.2.2.2.2.2.1.1 hP hD hS q0 1 ha rfl hin hdg kk
theorem st_l (X : Ctx p m meth c cc nL ret s args Ts own E A) (hP : va_P E.1 vwCl ws H) (hD : va_D A ws) (hS : va_S A s.heap H locs) (q0 : Nat) {f : Nat → Int64} (ha : ws[q0]? = some (a, .inl (eJ E, n, .inr (.inl f)))) {i : Int32} {x : Int64} (hin : vp_in i n) {k : Nat} (hk : i.toNatClampNeg = k) (hw : ws.set q0 (a, .inl (eJ E, n, .inr (.inl (vp_updL f k x)))) = ws1) (hdg : decode cc pc = .ok (.lastore, 1)) (kk : ∀ (H1 : Heap) (locs1 : List Loc), va_P E.1 vwCl ws1 H1 → va_D A ws1 → va_S A s.heap H1 locs1 → W p l e R s m args below meth c H1 locs1 0 0 Q (F0 m (pc + 1) ls rest)) : W p l e R s m args below meth c H locs 0 0 Q (F0 m pc ls (.long x :: .int i :: .ref a :: rest)) := by
  subst hk; subst hw; exact va_last X.1 X.2.1 X.2.2.2.2.2.2.2.1.1 hP hD hS q0 2 ha rfl hin hdg kk
end ARR
end BASE
/-- a contract out of the walk from its entry -/
theorem met_of {l : Launch} {E : Env0} {y : MethodName} {wsw ws' : List Cond} {rm : Room} {cc : ByteArray} {maxL : Nat} {ret : Option FieldType} {av : List Value} {ws : va_W} {sz : Nat} {Qc : (Nat → Prop) → Array Value → State → Outcome → State → Prop} (hy : plainName y.cls = true) (hw : wsw = Cond.code y cc maxL ret :: ws') (hlen : (lg_sl av).length ≤ maxL)
    (body : ∀ (p : Program) (e : Env) (s : State) (m : MethodId) (args : Array Value) (below : List Frame) (meth : Method) (c : Code), Ctx p m meth c cc maxL ret s args wsw y.cls E (va_A ws s.heap.size) → va_P E.1 vwCl ws s.heap → va_D (va_A ws s.heap.size) ws → va_S (va_A ws s.heap.size) s.heap s.heap [] → ∀ ls : Array Slot, lv_has ls maxL (lv_args 0 av) → W p l e rm s m args below meth c s.heap [] 0 0 (MQ below (Qc (va_A ws s.heap.size)) args s 0 0 (va_A ws s.heap.size)) (F0 m 0 ls [])) :
    Met l y wsw rm (cPre E av ws sz) (Qc (va_A ws sz)) 0 0 (va_A ws sz) := by
  refine Met.ofW (cc := cc) (maxL := maxL) (ret := ret) hy hw ?_
  intro p e s m args below meth c s₁ B hml hv
  obtain ⟨rfl, hsz, hP, hD0, hG⟩ := hv
  subst hsz
  have hts := atoms_spec (ws := wsw) B.pre
  have hl := lv_entry av (n := maxL) hlen
  rw [lg_entry_eq]
  exact body p e s m av.toArray below meth c ⟨B.exec, B.bytes, hml, B.returns, B.notSynchronized, findClass_of_methodNamed B.named, hts, hG, fun q h => Or.inr h⟩ hP hD0.self va_S.rf _ hl
theorem tsw_0_4 {x : Int32} (h0 : ¬ x = (0 : Int32)) (h1 : ¬ x = (1 : Int32)) (h2 : ¬ x = (2 : Int32)) (h3 : ¬ x = (3 : Int32)) (h4 : ¬ x = (4 : Int32)) : x.toInt < 0 ∨ 4 < x.toInt := by
  by_cases q : x.toInt < 0 ∨ 4 < x.toInt
  · exact q
  · exfalso
    have q2 : x.toInt = 0 ∨ x.toInt = 1 ∨ x.toInt = 2 ∨ x.toInt = 3 ∨ x.toInt = 4 := by omega
    rcases q2 with z | z | z | z | z
    · exact h0 (Int32.toInt_inj.mp (by rw [z]; rfl))
    · exact h1 (Int32.toInt_inj.mp (by rw [z]; rfl))
    · exact h2 (Int32.toInt_inj.mp (by rw [z]; rfl))
    · exact h3 (Int32.toInt_inj.mp (by rw [z]; rfl))
    · exact h4 (Int32.toInt_inj.mp (by rw [z]; rfl))
theorem tsw_0_5 {x : Int32} (h0 : ¬ x = (0 : Int32)) (h1 : ¬ x = (1 : Int32)) (h2 : ¬ x = (2 : Int32)) (h3 : ¬ x = (3 : Int32)) (h4 : ¬ x = (4 : Int32)) (h5 : ¬ x = (5 : Int32)) : x.toInt < 0 ∨ 5 < x.toInt := by
  by_cases q : x.toInt < 0 ∨ 5 < x.toInt
  · exact q
  · exfalso
    have q2 : x.toInt = 0 ∨ x.toInt = 1 ∨ x.toInt = 2 ∨ x.toInt = 3 ∨ x.toInt = 4 ∨ x.toInt = 5 := by omega
    rcases q2 with z | z | z | z | z | z
    · exact h0 (Int32.toInt_inj.mp (by rw [z]; rfl))
    · exact h1 (Int32.toInt_inj.mp (by rw [z]; rfl))
    · exact h2 (Int32.toInt_inj.mp (by rw [z]; rfl))
    · exact h3 (Int32.toInt_inj.mp (by rw [z]; rfl))
    · exact h4 (Int32.toInt_inj.mp (by rw [z]; rfl))
    · exact h5 (Int32.toInt_inj.mp (by rw [z]; rfl))
theorem tsw_0_10 {x : Int32} (h0 : ¬ x = (0 : Int32)) (h1 : ¬ x = (1 : Int32)) (h2 : ¬ x = (2 : Int32)) (h3 : ¬ x = (3 : Int32)) (h4 : ¬ x = (4 : Int32)) (h5 : ¬ x = (5 : Int32)) (h6 : ¬ x = (6 : Int32)) (h7 : ¬ x = (7 : Int32)) (h8 : ¬ x = (8 : Int32)) (h9 : ¬ x = (9 : Int32)) (h10 : ¬ x = (10 : Int32)) : x.toInt < 0 ∨ 10 < x.toInt := by
  by_cases q : x.toInt < 0 ∨ 10 < x.toInt
  · exact q
  · exfalso
    have q2 : x.toInt = 0 ∨ x.toInt = 1 ∨ x.toInt = 2 ∨ x.toInt = 3 ∨ x.toInt = 4 ∨ x.toInt = 5 ∨ x.toInt = 6 ∨ x.toInt = 7 ∨ x.toInt = 8 ∨ x.toInt = 9 ∨ x.toInt = 10 := by omega
    rcases q2 with z | z | z | z | z | z | z | z | z | z | z
    · exact h0 (Int32.toInt_inj.mp (by rw [z]; rfl))
    · exact h1 (Int32.toInt_inj.mp (by rw [z]; rfl))
    · exact h2 (Int32.toInt_inj.mp (by rw [z]; rfl))
    · exact h3 (Int32.toInt_inj.mp (by rw [z]; rfl))
    · exact h4 (Int32.toInt_inj.mp (by rw [z]; rfl))
    · exact h5 (Int32.toInt_inj.mp (by rw [z]; rfl))
    · exact h6 (Int32.toInt_inj.mp (by rw [z]; rfl))
    · exact h7 (Int32.toInt_inj.mp (by rw [z]; rfl))
    · exact h8 (Int32.toInt_inj.mp (by rw [z]; rfl))
    · exact h9 (Int32.toInt_inj.mp (by rw [z]; rfl))
    · exact h10 (Int32.toInt_inj.mp (by rw [z]; rfl))
theorem tsw_1_5 {x : Int32} (h1 : ¬ x = (1 : Int32)) (h2 : ¬ x = (2 : Int32)) (h3 : ¬ x = (3 : Int32)) (h4 : ¬ x = (4 : Int32)) (h5 : ¬ x = (5 : Int32)) : x.toInt < 1 ∨ 5 < x.toInt := by
  by_cases q : x.toInt < 1 ∨ 5 < x.toInt
  · exact q
  · exfalso
    have q2 : x.toInt = 1 ∨ x.toInt = 2 ∨ x.toInt = 3 ∨ x.toInt = 4 ∨ x.toInt = 5 := by omega
    rcases q2 with z | z | z | z | z
    · exact h1 (Int32.toInt_inj.mp (by rw [z]; rfl))
    · exact h2 (Int32.toInt_inj.mp (by rw [z]; rfl))
    · exact h3 (Int32.toInt_inj.mp (by rw [z]; rfl))
    · exact h4 (Int32.toInt_inj.mp (by rw [z]; rfl))
    · exact h5 (Int32.toInt_inj.mp (by rw [z]; rfl))
