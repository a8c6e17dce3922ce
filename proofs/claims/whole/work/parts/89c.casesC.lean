-- ===== each case of the law under the relation
theorem C_0 : Case_0 Rel := by
  intro x kf kC kF kK kG kP kW f C F K G P Wt one outs rd by_ xr isR st1 st2 Ks E Z tf tC tF tK tG tP tW two cm ab e fi hh kN mind mv N out mr z tp tl wBy wCell wFaces wFell wSign wTurns words a1 a2 a3 hR
  obtain ⟨hI, hS, hF, hT, ⟨hk1, hk2, hk3⟩, hA, hW⟩ := hR
  obtain ⟨n, n8, h89, hRS⟩ := rel_n hI hS
  obtain ⟨u, v, e1, e2, e3, r, s⟩ := case_row (cx := x) (cm := cm) (Ks := Ks) (Z := Z) (hh := hh) (z := z) (xr := xr) (mr := mr) (E := E) (e := e) (n := n) hF hRS a1 a2 a3
  exact ⟨u, v, e1, e2, e3, ⟨hI, (sh_all h89 n8 s), r, hT, ⟨hk1, hk2, hk3⟩, hA, hW⟩⟩
theorem C_1 : Case_1 Rel := by
  intro x kf kC kF kK kG kP kW f C F K G P Wt one outs rd by_ xr isR st1 st2 Ks E Z tf tC tF tK tG tP tW two cm ab e fi hh kN mind mv N out mr z tp tl wBy wCell wFaces wFell wSign wTurns words a1 a2 a3 hR
  obtain ⟨hI, hS, hF, hT, ⟨hk1, hk2, hk3⟩, hA, hW⟩ := hR
  obtain ⟨n, n8, h89, hRS⟩ := rel_n hI hS
  obtain ⟨u, v, e1, e2, e3, r, s⟩ := case_set (cx := x) (cm := cm) (Ks := Ks) (Z := Z) (hh := hh) (z := z) (xr := xr) (mr := mr) (E := E) (e := e) (n := n) hF n8 hRS a1 a2 a3
  exact ⟨u, v, e1, e2, e3, ⟨hI, (sh_all h89 n8 s), r, hT, ⟨hk1, hk2, hk3⟩, hA, hW⟩⟩
theorem C_2 : Case_2 Rel := by
  intro x kf kC kF kK kG kP kW f C F K G P Wt one outs rd by_ xr isR st1 st2 Ks E Z tf tC tF tK tG tP tW two cm ab e fi hh kN mind mv N out mr z tp tl wBy wCell wFaces wFell wSign wTurns words a1 a2 a3 a4 a5 hR
  obtain ⟨hI, hS, hF, hT, ⟨hk1, hk2, hk3⟩, hA, hW⟩ := hR
  obtain ⟨n, n8, h89, hRS⟩ := rel_n hI hS
  obtain ⟨u, v, e1, e2, e3, r, s⟩ := case_copy (cx := x) (cm := cm) (Ks := Ks) (Z := Z) (hh := hh) (z := z) (xr := xr) (mr := mr) (E := E) (e := e) (mv := mv) (n := n) hF n8 hRS a1 a2 a3 a4 a5
  exact ⟨u, v, e1, e2, e3, ⟨hI, (sh_all h89 n8 s), r, hT, ⟨hk1, hk2, hk3⟩, hA, hW⟩⟩
theorem C_3 : Case_3 Rel := by
  intro x kf kC kF kK kG kP kW f C F K G P Wt one outs rd by_ xr isR st1 st2 Ks E Z tf tC tF tK tG tP tW two cm ab e fi hh kN mind mv N out mr z tp tl wBy wCell wFaces wFell wSign wTurns words a1 a2 hR
  obtain ⟨hI, hS, hF, hT, ⟨hk1, hk2, hk3⟩, hA, hW⟩ := hR
  obtain ⟨n, n8, h89, hRS⟩ := rel_n hI hS
  obtain ⟨u, v, e1, e2, e3⟩ := case_element (cx := x) (cm := cm) (Ks := Ks) (Z := Z) (hh := hh) (z := z) (E := E) (e := e) (n := n) n8 hRS a1 a2
  exact ⟨u, v, e1, e2, e3, ⟨hI, hS, hF, hT, ⟨hk1, hk2, hk3⟩, hA, hW⟩⟩
theorem C_4 : Case_4 Rel := by
  intro x kf kC kF kK kG kP kW f C F K G P Wt one outs rd by_ xr isR st1 st2 Ks E Z tf tC tF tK tG tP tW two cm ab e fi hh kN mind mv N out mr z tp tl wBy wCell wFaces wFell wSign wTurns words a1 hR
  obtain ⟨hI, hS, hF, hT, ⟨hk1, hk2, hk3⟩, hA, hW⟩ := hR
  obtain ⟨n, n8, h89, hRS⟩ := rel_n hI hS
  obtain ⟨u, v, e1, e2, e3⟩ := case_holds (cx := x) (cm := cm) (Ks := Ks) (Z := Z) (hh := hh) (z := z) (E := E) (e := e) (n := n) hRS a1
  exact ⟨u, v, e1, e2, e3, ⟨hI, hS, hF, hT, ⟨hk1, hk2, hk3⟩, hA, hW⟩⟩
theorem C_5 : Case_5 Rel := by
  intro x kf kC kF kK kG kP kW f C F K G P Wt one outs rd by_ xr isR st1 st2 Ks E Z tf tC tF tK tG tP tW two cm ab e fi hh kN mind mv N out mr z tp tl wBy wCell wFaces wFell wSign wTurns words a1 a2 hR
  obtain ⟨hI, hS, hF, hT, ⟨hk1, hk2, hk3⟩, hA, hW⟩ := hR
  obtain ⟨n, n8, h89, hRS⟩ := rel_n hI hS
  obtain ⟨u, v, e1, e2, e3, r, s⟩ := case_show (cx := x) (cm := cm) (f := f) (P := P) (K := K) (Wt := Wt) (C := C) (F := F) (G := G) (N := N) (xr := xr) (mr := mr) (Ks := Ks) (Z := Z) (hh := hh) (z := z) (E := E) (e := e) hI hF hS a1 a2
  exact ⟨u, v, e1, e2, e3, ⟨hI, s, r, hT, ⟨hk1, hk2, hk3⟩, hA, hW⟩⟩
theorem C_6 : Case_6 Rel := by
  intro x kf kC kF kK kG kP kW f C F K G P Wt one outs rd by_ xr isR st1 st2 Ks E Z tf tC tF tK tG tP tW two cm ab e fi hh kN mind mv N out mr z tp tl wBy wCell wFaces wFell wSign wTurns words a1 a2 hR
  obtain ⟨hI, hS, hF, hT, ⟨hk1, hk2, hk3⟩, hA, hW⟩ := hR
  obtain ⟨n, n8, h89, hRS⟩ := rel_n hI hS
  obtain ⟨u, v, e1, e2, e3, r, c⟩ := case_says (cx := x) (cm := cm) (ab := ab) (f := f) (P := P) (K := K) (Wt := Wt) (C := C) (F := F) (G := G) (N := N) (w := one) (xr := xr) (mr := mr) (Ks := Ks) (Z := Z) (hh := hh) (z := z) (wBy := wBy) (wCell := wCell) (wFaces := wFaces) (wFell := wFell) (wSign := wSign) (wTurns := wTurns) (E := E) (e := e) hA hI hF hS a1 a2
  exact ⟨u, v, e1, e2, e3, ⟨hI, hS, r, hT.cmc (c 6 (by decide)), ⟨hk1, (c 4 (by decide)).trans hk2, hk3⟩, hA, hW⟩⟩
theorem C_7 : Case_7 Rel := by
  intro x kf kC kF kK kG kP kW f C F K G P Wt one outs rd by_ xr isR st1 st2 Ks E Z tf tC tF tK tG tP tW two cm ab e fi hh kN mind mv N out mr z tp tl wBy wCell wFaces wFell wSign wTurns words a1 hR
  obtain ⟨hI, hS, hF, hT, ⟨hk1, hk2, hk3⟩, hA, hW⟩ := hR
  obtain ⟨n, n8, h89, hRS⟩ := rel_n hI hS
  obtain ⟨u, v, e1, e2, e3, i, r⟩ := case_side (cx := x) (cm := cm) (f := f) (P := P) (K := K) (Wt := Wt) (C := C) (F := F) (G := G) (N := N) (xr := xr) (mr := mr) hI hF a1
  exact ⟨u, v, e1, e2, e3, ⟨i, (sh_eq hS (i.f7.trans ((side7 e1).trans hI.f7.symm))), r, hT, ⟨hk1, hk2, hk3⟩, hA, hW⟩⟩
theorem C_8 : Case_8 Rel := by
  intro x kf kC kF kK kG kP kW f C F K G P Wt one outs rd by_ xr isR st1 st2 Ks E Z tf tC tF tK tG tP tW two cm ab e fi hh kN mind mv N out mr z tp tl wBy wCell wFaces wFell wSign wTurns words a1 a2 hb hR
  obtain ⟨hI, hS, hF, hT, ⟨hk1, hk2, hk3⟩, hA, hW⟩ := hR
  obtain ⟨n, n8, h89, hRS⟩ := rel_n hI hS
  obtain ⟨u, v, e1, e2, e3, i, r⟩ := case_pond (cx := x) (cm := cm) (f := f) (P := P) (K := K) (Wt := Wt) (C := C) (F := F) (G := G) (N := N) (xr := xr) (mr := mr) hI hF a1 a2 hb
  exact ⟨u, v, e1, e2, e3, ⟨i, (sh_eq hS (i.f7.trans hI.f7.symm)), r, hT, ⟨hk1, hk2, hk3⟩, hA, hW⟩⟩
theorem C_9 : Case_9 Rel := by
  intro x kf kC kF kK kG kP kW f C F K G P Wt one outs rd by_ xr isR st1 st2 Ks E Z tf tC tF tK tG tP tW two cm ab e fi hh kN mind mv N out mr z tp tl wBy wCell wFaces wFell wSign wTurns words a1 a2 a3 a4 hR
  obtain ⟨hI, hS, hF, hT, ⟨hk1, hk2, hk3⟩, hA, hW⟩ := hR
  obtain ⟨n, n8, h89, hRS⟩ := rel_n hI hS
  obtain ⟨u, v, e1, e2, e3, i, r, q⟩ := case_person (cx := x) (cm := cm) (f := f) (P := P) (K := K) (Wt := Wt) (C := C) (F := F) (G := G) (N := N) (xr := xr) (mr := mr) hI hF a1 a2 a3 a4
  exact ⟨u, v, e1, e2, e3, ⟨i, (sh_grow h89 n8 hS q), r, hT, ⟨hk1, hk2, hk3⟩, hA, hW⟩⟩
theorem C_10 : Case_10 Rel := by
  intro x kf kC kF kK kG kP kW f C F K G P Wt one outs rd by_ xr isR st1 st2 Ks E Z tf tC tF tK tG tP tW two cm ab e fi hh kN mind mv N out mr z tp tl wBy wCell wFaces wFell wSign wTurns words a1 a2 hR
  obtain ⟨hI, hS, hF, hT, ⟨hk1, hk2, hk3⟩, hA, hW⟩ := hR
  obtain ⟨n, n8, h89, hRS⟩ := rel_n hI hS
  obtain ⟨u, v, e1, e2, e3, i, r⟩ := case_tell (cx := x) (cm := cm) (f := f) (P := P) (K := K) (Wt := Wt) (C := C) (F := F) (G := G) (N := N) (xr := xr) (mr := mr) hI hF a1 a2
  exact ⟨u, v, e1, e2, e3, ⟨i, (sh_eq hS (i.f7.trans ((tell7 e1).trans hI.f7.symm))), r, hT, ⟨hk1, hk2, hk3⟩, hA, hW⟩⟩
theorem C_11 : Case_11 Rel := by
  intro x kf kC kF kK kG kP kW f C F K G P Wt one outs rd by_ xr isR st1 st2 Ks E Z tf tC tF tK tG tP tW two cm ab e fi hh kN mind mv N out mr z tp tl wBy wCell wFaces wFell wSign wTurns words a1 a2 hR
  obtain ⟨hI, hS, hF, hT, ⟨hk1, hk2, hk3⟩, hA, hW⟩ := hR
  obtain ⟨n, n8, h89, hRS⟩ := rel_n hI hS
  obtain ⟨u, v, e1, e2, e3, i, r⟩ := case_isFor (cx := x) (cm := cm) (f := f) (P := P) (K := K) (Wt := Wt) (C := C) (F := F) (G := G) (N := N) (xr := xr) (mr := mr) hI hF a1 a2
  exact ⟨u, v, e1, e2, e3, ⟨i, (sh_eq hS (i.f7.trans hI.f7.symm)), r, hT, ⟨hk1, hk2, hk3⟩, hA, hW⟩⟩
theorem C_12 : Case_12 Rel := by
  intro x kf kC kF kK kG kP kW f C F K G P Wt one outs rd by_ xr isR st1 st2 Ks E Z tf tC tF tK tG tP tW two cm ab e fi hh kN mind mv N out mr z tp tl wBy wCell wFaces wFell wSign wTurns words a1 a2 a3 hR
  obtain ⟨hI, hS, hF, hT, ⟨hk1, hk2, hk3⟩, hA, hW⟩ := hR
  obtain ⟨n, n8, h89, hRS⟩ := rel_n hI hS
  obtain ⟨u, v, e1, e2, e3, i, r⟩ := case_put (cx := x) (cm := cm) (f := f) (P := P) (K := K) (Wt := Wt) (C := C) (F := F) (G := G) (N := N) (xr := xr) (mr := mr) hI hF a1 a2 a3
  exact ⟨u, v, e1, e2, e3, ⟨i, (sh_eq hS (i.f7.trans hI.f7.symm)), r, hT, ⟨hk1, hk2, hk3⟩, hA, hW⟩⟩
theorem C_13 : Case_13 Rel := by
  intro x kf kC kF kK kG kP kW f C F K G P Wt one outs rd by_ xr isR st1 st2 Ks E Z tf tC tF tK tG tP tW two cm ab e fi hh kN mind mv N out mr z tp tl wBy wCell wFaces wFell wSign wTurns words a1 hR
  obtain ⟨hI, hS, hF, hT, ⟨hk1, hk2, hk3⟩, hA, hW⟩ := hR
  obtain ⟨n, n8, h89, hRS⟩ := rel_n hI hS
  obtain ⟨u, v, e1, e2, e3, t, r, c⟩ := case_feed (cx := x) (cm := cm) (rd := rd) (by_ := by_) (tp := tp) (xr := xr) (mr := mr) hT hF a1
  exact ⟨u, v, e1, e2, e3, ⟨hI, hS, r, t, ⟨hk1, (c 4 (by decide)).trans hk2, hk3⟩, hA, hW⟩⟩
theorem C_14 : Case_14 Rel := by
  intro x kf kC kF kK kG kP kW f C F K G P Wt one outs rd by_ xr isR st1 st2 Ks E Z tf tC tF tK tG tP tW two cm ab e fi hh kN mind mv N out mr z tp tl wBy wCell wFaces wFell wSign wTurns words  hR
  obtain ⟨hI, hS, hF, hT, ⟨hk1, hk2, hk3⟩, hA, hW⟩ := hR
  obtain ⟨n, n8, h89, hRS⟩ := rel_n hI hS
  obtain ⟨u, v, e1, e2, e3, t, c⟩ := case_wipe (cx := x) (cm := cm) (rd := rd) (by_ := by_) (tp := tp) hT
  exact ⟨u, v, e1, e2, e3, ⟨hI, hS, hF, t, ⟨hk1, (c 4 (by decide)).trans hk2, hk3⟩, hA, hW⟩⟩
theorem C_15 : Case_15 Rel := by
  intro x kf kC kF kK kG kP kW f C F K G P Wt one outs rd by_ xr isR st1 st2 Ks E Z tf tC tF tK tG tP tW two cm ab e fi hh kN mind mv N out mr z tp tl wBy wCell wFaces wFell wSign wTurns words  hR
  obtain ⟨hI, hS, hF, hT, ⟨hk1, hk2, hk3⟩, hA, hW⟩ := hR
  obtain ⟨n, n8, h89, hRS⟩ := rel_n hI hS
  obtain ⟨u, v, e1, e2, e3, i, t, r, q, c⟩ := case_island (cx := x) (cm := cm) (f := f) (P := P) (K := K) (Wt := Wt) (C := C) (F := F) (G := G) (N := N) (rd := rd) (by_ := by_) (xr := xr) (mr := mr) (tp := tp) (words := words) (mind := mind) (tf := tf) (tC := tC) (tF := tF) (tK := tK) (tG := tG) (tP := tP) (tW := tW) hI hF hT hW
  exact ⟨u, v, e1, e2, e3, ⟨i, (sh_grow h89 n8 hS (fun a b d => q a d b)), r, t, ⟨hk1, (c 4 (by decide) (by decide) (by decide) (by decide)).trans hk2, hk3⟩, hA, hW⟩⟩
theorem C_16 : Case_16 Rel := by
  intro x kf kC kF kK kG kP kW f C F K G P Wt one outs rd by_ xr isR st1 st2 Ks E Z tf tC tF tK tG tP tW two cm ab e fi hh kN mind mv N out mr z tp tl wBy wCell wFaces wFell wSign wTurns words a1 a2 hR
  obtain ⟨hI, hS, hF, hT, ⟨hk1, hk2, hk3⟩, hA, hW⟩ := hR
  obtain ⟨n, n8, h89, hRS⟩ := rel_n hI hS
  obtain ⟨u, v, e1, e2, e3, r⟩ := case_personOf (cx := x) (cm := cm) (f := f) (P := P) (K := K) (Wt := Wt) (C := C) (F := F) (G := G) (N := N) (xr := xr) (mr := mr) hI hF a1 a2
  exact ⟨u, v, e1, e2, e3, ⟨hI, hS, r, hT, ⟨hk1, hk2, hk3⟩, hA, hW⟩⟩
theorem C_17 : Case_17 Rel := by
  intro x kf kC kF kK kG kP kW f C F K G P Wt one outs rd by_ xr isR st1 st2 Ks E Z tf tC tF tK tG tP tW two cm ab e fi hh kN mind mv N out mr z tp tl wBy wCell wFaces wFell wSign wTurns words a1 hR
  obtain ⟨hI, hS, hF, hT, ⟨hk1, hk2, hk3⟩, hA, hW⟩ := hR
  obtain ⟨n, n8, h89, hRS⟩ := rel_n hI hS
  obtain ⟨u, v, e1, e2, e3, r⟩ := case_isPond (cx := x) (cm := cm) (f := f) (P := P) (K := K) (Wt := Wt) (C := C) (F := F) (G := G) (N := N) (xr := xr) (mr := mr) hI hF a1
  exact ⟨u, v, e1, e2, e3, ⟨hI, hS, r, hT, ⟨hk1, hk2, hk3⟩, hA, hW⟩⟩
theorem C_18 : Case_18 Rel := by
  intro x kf kC kF kK kG kP kW f C F K G P Wt one outs rd by_ xr isR st1 st2 Ks E Z tf tC tF tK tG tP tW two cm ab e fi hh kN mind mv N out mr z tp tl wBy wCell wFaces wFell wSign wTurns words a1 a2 a3 a4 hR
  obtain ⟨hI, hS, hF, hT, ⟨hk1, hk2, hk3⟩, hA, hW⟩ := hR
  obtain ⟨n, n8, h89, hRS⟩ := rel_n hI hS
  obtain ⟨u, v, e1, e2, e3, r, c⟩ := case_comes (cx := x) (cm := cm) (f := f) (P := P) (K := K) (Wt := Wt) (C := C) (F := F) (G := G) (N := N) (w := one) (xr := xr) (mr := mr) (Ks := Ks) (Z := Z) (hh := hh) (z := z) (tl := tl) (wBy := wBy) (wCell := wCell) (wFaces := wFaces) (wFell := wFell) (wSign := wSign) (wTurns := wTurns) (E := E) (e := e) hI hF hS a1 a2 a3 a4
  exact ⟨u, v, e1, e2, e3, ⟨hI, hS, r, hT.cmc (c 6 (by decide)), ⟨hk1, (c 4 (by decide)).trans hk2, hk3⟩, hA, hW⟩⟩
theorem C_19 : Case_19 Rel := by
  intro x kf kC kF kK kG kP kW f C F K G P Wt one outs rd by_ xr isR st1 st2 Ks E Z tf tC tF tK tG tP tW two cm ab e fi hh kN mind mv N out mr z tp tl wBy wCell wFaces wFell wSign wTurns words a1 a2 hR
  obtain ⟨hI, hS, hF, hT, ⟨hk1, hk2, hk3⟩, hA, hW⟩ := hR
  obtain ⟨n, n8, h89, hRS⟩ := rel_n hI hS
  obtain ⟨u, v, e1, e2, e3, r, c⟩ := case_fell (cx := x) (cm := cm) (f := f) (P := P) (K := K) (Wt := Wt) (C := C) (F := F) (G := G) (N := N) (w := one) (xr := xr) (mr := mr) (Ks := Ks) (Z := Z) (hh := hh) (z := z) (tl := tl) (wBy := wBy) (wCell := wCell) (wFaces := wFaces) (wFell := wFell) (wSign := wSign) (wTurns := wTurns) (E := E) (e := e) hI hF hS a1 a2
  exact ⟨u, v, e1, e2, e3, ⟨hI, hS, r, hT.cmc (c 6 (by decide)), ⟨hk1, (c 4 (by decide)).trans hk2, hk3⟩, hA, hW⟩⟩
theorem C_20 : Case_20 Rel := by
  intro x kf kC kF kK kG kP kW f C F K G P Wt one outs rd by_ xr isR st1 st2 Ks E Z tf tC tF tK tG tP tW two cm ab e fi hh kN mind mv N out mr z tp tl wBy wCell wFaces wFell wSign wTurns words a1 a2 a3 hR
  obtain ⟨hI, hS, hF, hT, ⟨hk1, hk2, hk3⟩, hA, hW⟩ := hR
  obtain ⟨n, n8, h89, hRS⟩ := rel_n hI hS
  obtain ⟨u, v, e1, e2, e3, r, q, c⟩ := case_ponds (cx := x) (cm := cm) (f := f) (P := P) (K := K) (Wt := Wt) (C := C) (F := F) (G := G) (N := N) (w := one) (xr := xr) (mr := mr) (Ks := Ks) (Z := Z) (hh := hh) (z := z) (tl := tl) (wBy := wBy) (wCell := wCell) (wFaces := wFaces) (wFell := wFell) (wSign := wSign) (wTurns := wTurns) (E := E) (e := e) hI hF hS a1 a2 a3
  exact ⟨u, v, e1, e2, e3, ⟨(by rw [q]; exact hI), (by rw [q]; exact hS), r, hT.cmc (c 6 (by decide)), ⟨hk1, (c 4 (by decide)).trans hk2, hk3⟩, hA, hW⟩⟩
theorem C_21 : Case_21 Rel := by
  intro x kf kC kF kK kG kP kW f C F K G P Wt one outs rd by_ xr isR st1 st2 Ks E Z tf tC tF tK tG tP tW two cm ab e fi hh kN mind mv N out mr z tp tl wBy wCell wFaces wFell wSign wTurns words a1 a2 a3 a4 hR
  obtain ⟨hI, hS, hF, hT, ⟨hk1, hk2, hk3⟩, hA, hW⟩ := hR
  obtain ⟨n, n8, h89, hRS⟩ := rel_n hI hS
  obtain ⟨u, v, e1, e2, e3, r, q, c⟩ := case_safe (cx := x) (cm := cm) (f := f) (P := P) (K := K) (Wt := Wt) (C := C) (F := F) (G := G) (N := N) (w := one) (w2 := two) (st1 := st1) (st2 := st2) (xr := xr) (mr := mr) (tl := tl) (wBy := wBy) (wCell := wCell) (wFaces := wFaces) (wFell := wFell) (wSign := wSign) (wTurns := wTurns) hI hF a1 a2 a3 a4
  exact ⟨u, v, e1, e2, e3, ⟨(by rw [q]; exact hI), (by rw [q]; exact hS), r, hT.cmc (c 6 (by decide)), ⟨hk1, (c 4 (by decide)).trans hk2, hk3⟩, hA, hW⟩⟩
theorem C_22 : Case_22 Rel := by
  intro x kf kC kF kK kG kP kW f C F K G P Wt one outs rd by_ xr isR st1 st2 Ks E Z tf tC tF tK tG tP tW two cm ab e fi hh kN mind mv N out mr z tp tl wBy wCell wFaces wFell wSign wTurns words a1 a2 a3 a4 a5 hR
  obtain ⟨hI, hS, hF, hT, ⟨hk1, hk2, hk3⟩, hA, hW⟩ := hR
  obtain ⟨n, n8, h89, hRS⟩ := rel_n hI hS
  obtain ⟨u, v, e1, e2, e3, r, q, c⟩ := case_kinds (cx := x) (cm := cm) (f := f) (P := P) (K := K) (Wt := Wt) (C := C) (F := F) (G := G) (N := N) (w := one) (xr := xr) (mr := mr) (Ks := Ks) (Z := Z) (hh := hh) (z := z) (tl := tl) (wBy := wBy) (wCell := wCell) (wFaces := wFaces) (wFell := wFell) (wSign := wSign) (wTurns := wTurns) (E := E) (e := e) hI hF hS a1 a2 a3 a4 a5
  exact ⟨u, v, e1, e2, e3, ⟨(by rw [q]; exact hI), (by rw [q]; exact hS), r, hT.cmc (c 6 (by decide)), ⟨hk1, (c 4 (by decide)).trans hk2, hk3⟩, hA, hW⟩⟩
theorem C_23 : Case_23 Rel := by
  intro x kf kC kF kK kG kP kW f C F K G P Wt one outs rd by_ xr isR st1 st2 Ks E Z tf tC tF tK tG tP tW two cm ab e fi hh kN mind mv N out mr z tp tl wBy wCell wFaces wFell wSign wTurns words a1 a2 a3 hR
  obtain ⟨hI, hS, hF, hT, ⟨hk1, hk2, hk3⟩, hA, hW⟩ := hR
  obtain ⟨n, n8, h89, hRS⟩ := rel_n hI hS
  obtain ⟨u, v, e1, e2, e3, r, c⟩ := case_who (cx := x) (cm := cm) (f := f) (P := P) (K := K) (Wt := Wt) (C := C) (F := F) (G := G) (N := N) (w := one) (xr := xr) (mr := mr) (Ks := Ks) (Z := Z) (hh := hh) (z := z) (tl := tl) (wBy := wBy) (wCell := wCell) (wFaces := wFaces) (wFell := wFell) (wSign := wSign) (wTurns := wTurns) (O := outs) (E := E) (e := e) hI hF hS a1 a2 a3
  exact ⟨u, v, e1, e2, e3, ⟨hI, hS, r, hT.cmc (c 6 (by decide)), ⟨hk1, (c 4 (by decide)).trans hk2, hk3⟩, hA, hW⟩⟩
theorem C_24 : Case_24 Rel := by
  intro x kf kC kF kK kG kP kW f C F K G P Wt one outs rd by_ xr isR st1 st2 Ks E Z tf tC tF tK tG tP tW two cm ab e fi hh kN mind mv N out mr z tp tl wBy wCell wFaces wFell wSign wTurns words a1 a2 a3 hR
  obtain ⟨hI, hS, hF, hT, ⟨hk1, hk2, hk3⟩, hA, hW⟩ := hR
  obtain ⟨n, n8, h89, hRS⟩ := rel_n hI hS
  obtain ⟨u, v, e1, e2, e3, r, c⟩ := case_crowd (cx := x) (cm := cm) (f := f) (P := P) (K := K) (Wt := Wt) (C := C) (F := F) (G := G) (N := N) (w := one) (xr := xr) (mr := mr) (Ks := Ks) (Z := Z) (hh := hh) (z := z) (tl := tl) (wBy := wBy) (wCell := wCell) (wFaces := wFaces) (wFell := wFell) (wSign := wSign) (wTurns := wTurns) (O := outs) (out := out) (E := E) (e := e) hI hF hS a1 a2 a3
  exact ⟨u, v, e1, e2, e3, ⟨hI, hS, r, hT.cmc (c 6 (by decide)), ⟨hk1, (c 4 (by decide)).trans hk2, hk3⟩, hA, hW⟩⟩
theorem C_25 : Case_25 Rel := by
  intro x kf kC kF kK kG kP kW f C F K G P Wt one outs rd by_ xr isR st1 st2 Ks E Z tf tC tF tK tG tP tW two cm ab e fi hh kN mind mv N out mr z tp tl wBy wCell wFaces wFell wSign wTurns words a1 a2 hR
  obtain ⟨hI, hS, hF, hT, ⟨hk1, hk2, hk3⟩, hA, hW⟩ := hR
  obtain ⟨n, n8, h89, hRS⟩ := rel_n hI hS
  obtain ⟨u, v, e1, e2, e3, r, c⟩ := case_firstFall (cx := x) (cm := cm) (f := f) (P := P) (K := K) (Wt := Wt) (C := C) (F := F) (G := G) (N := N) (w := one) (xr := xr) (mr := mr) (Ks := Ks) (Z := Z) (hh := hh) (z := z) (tl := tl) (wBy := wBy) (wCell := wCell) (wFaces := wFaces) (wFell := wFell) (wSign := wSign) (wTurns := wTurns) (E := E) (e := e) hI hF hS a1 a2
  exact ⟨u, v, e1, e2, e3, ⟨hI, hS, r, hT.cmc (c 6 (by decide)), ⟨hk1, (c 4 (by decide)).trans hk2, hk3⟩, hA, hW⟩⟩
theorem C_26 : Case_26 Rel := by
  intro x kf kC kF kK kG kP kW f C F K G P Wt one outs rd by_ xr isR st1 st2 Ks E Z tf tC tF tK tG tP tW two cm ab e fi hh kN mind mv N out mr z tp tl wBy wCell wFaces wFell wSign wTurns words a1 a2 a3 hR
  obtain ⟨hI, hS, hF, hT, ⟨hk1, hk2, hk3⟩, hA, hW⟩ := hR
  obtain ⟨n, n8, h89, hRS⟩ := rel_n hI hS
  obtain ⟨u, v, e1, e2, e3, r, q, c⟩ := case_alike (cx := x) (cm := cm) (f := f) (P := P) (K := K) (Wt := Wt) (C := C) (F := F) (G := G) (N := N) (w := one) (w2 := two) (xr := xr) (mr := mr) (Ks := Ks) (Z := Z) (hh := hh) (z := z) (tl := tl) (wBy := wBy) (wCell := wCell) (wFaces := wFaces) (wFell := wFell) (wSign := wSign) (wTurns := wTurns) (E := E) (e := e) hI hF hS a1 a2 a3
  exact ⟨u, v, e1, e2, e3, ⟨(by rw [q]; exact hI), (by rw [q]; exact hS), r, hT.cmc (c 6 (by decide)), ⟨hk1, (c 4 (by decide)).trans hk2, hk3⟩, hA, hW⟩⟩
theorem C_27 : Case_27 Rel := by
  intro x kf kC kF kK kG kP kW f C F K G P Wt one outs rd by_ xr isR st1 st2 Ks E Z tf tC tF tK tG tP tW two cm ab e fi hh kN mind mv N out mr z tp tl wBy wCell wFaces wFell wSign wTurns words a1 a2 a3 a4 hR
  obtain ⟨hI, hS, hF, hT, ⟨hk1, hk2, hk3⟩, hA, hW⟩ := hR
  obtain ⟨n, n8, h89, hRS⟩ := rel_n hI hS
  obtain ⟨u, v, e1, e2, e3, r, c⟩ := case_differ (cx := x) (cm := cm) (f := f) (P := P) (K := K) (Wt := Wt) (C := C) (F := F) (G := G) (N := N) (w := one) (w2 := two) (xr := xr) (mr := mr) (Ks := Ks) (Z := Z) (hh := hh) (z := z) (tl := tl) (wBy := wBy) (wCell := wCell) (wFaces := wFaces) (wFell := wFell) (wSign := wSign) (wTurns := wTurns) (E := E) (e := e) hI hF hS a1 a2 a3 a4
  exact ⟨u, v, e1, e2, e3, ⟨hI, hS, r, hT.cmc (c 6 (by decide)), ⟨hk1, (c 4 (by decide)).trans hk2, hk3⟩, hA, hW⟩⟩
theorem C_28 : Case_28 Rel := by
  intro x kf kC kF kK kG kP kW f C F K G P Wt one outs rd by_ xr isR st1 st2 Ks E Z tf tC tF tK tG tP tW two cm ab e fi hh kN mind mv N out mr z tp tl wBy wCell wFaces wFell wSign wTurns words a1 a2 a3 a4 hR
  obtain ⟨hI, hS, hF, hT, ⟨hk1, hk2, hk3⟩, hA, hW⟩ := hR
  obtain ⟨n, n8, h89, hRS⟩ := rel_n hI hS
  obtain ⟨u, v, e1, e2, e3, r, c⟩ := case_again (cx := x) (cm := cm) (f := f) (P := P) (K := K) (Wt := Wt) (C := C) (F := F) (G := G) (N := N) (w := one) (xr := xr) (mr := mr) (Ks := Ks) (Z := Z) (hh := hh) (z := z) (tl := tl) (wBy := wBy) (wCell := wCell) (wFaces := wFaces) (wFell := wFell) (wSign := wSign) (wTurns := wTurns) (E := E) (e := e) hI hF hS a1 a2 a3 a4
  exact ⟨u, v, e1, e2, e3, ⟨hI, hS, r, hT.cmc (c 6 (by decide)), ⟨hk1, (c 4 (by decide)).trans hk2, hk3⟩, hA, hW⟩⟩
theorem C_29 : Case_29 Rel := by
  intro x kf kC kF kK kG kP kW f C F K G P Wt one outs rd by_ xr isR st1 st2 Ks E Z tf tC tF tK tG tP tW two cm ab e fi hh kN mind mv N out mr z tp tl wBy wCell wFaces wFell wSign wTurns words a1 a2 a3 hR
  obtain ⟨hI, hS, hF, hT, ⟨hk1, hk2, hk3⟩, hA, hW⟩ := hR
  obtain ⟨n, n8, h89, hRS⟩ := rel_n hI hS
  obtain ⟨u, v, e1, e2, e3, r, c⟩ := case_ring (cx := x) (cm := cm) (f := f) (P := P) (K := K) (Wt := Wt) (C := C) (F := F) (G := G) (N := N) (w := one) (xr := xr) (mr := mr) (Ks := Ks) (Z := Z) (hh := hh) (z := z) (tl := tl) (wBy := wBy) (wCell := wCell) (wFaces := wFaces) (wFell := wFell) (wSign := wSign) (wTurns := wTurns) (E := E) (e := e) hI hF hS a1 a2 a3
  exact ⟨u, v, e1, e2, e3, ⟨hI, hS, r, hT.cmc (c 6 (by decide)), ⟨hk1, (c 4 (by decide)).trans hk2, hk3⟩, hA, hW⟩⟩
theorem C_30 : Case_30 Rel := by
  intro x kf kC kF kK kG kP kW f C F K G P Wt one outs rd by_ xr isR st1 st2 Ks E Z tf tC tF tK tG tP tW two cm ab e fi hh kN mind mv N out mr z tp tl wBy wCell wFaces wFell wSign wTurns words a1 a2 hR
  obtain ⟨hI, hS, hF, hT, ⟨hk1, hk2, hk3⟩, hA, hW⟩ := hR
  obtain ⟨n, n8, h89, hRS⟩ := rel_n hI hS
  obtain ⟨u, v, e1, e2, e3, r, c⟩ := case_lonely (cx := x) (cm := cm) (f := f) (P := P) (K := K) (Wt := Wt) (C := C) (F := F) (G := G) (N := N) (w := one) (xr := xr) (mr := mr) (Ks := Ks) (Z := Z) (hh := hh) (z := z) (tl := tl) (wBy := wBy) (wCell := wCell) (wFaces := wFaces) (wFell := wFell) (wSign := wSign) (wTurns := wTurns) (O := outs) (out := out) (E := E) (e := e) hI hF hS a1 a2
  exact ⟨u, v, e1, e2, e3, ⟨hI, hS, r, hT.cmc (c 6 (by decide)), ⟨hk1, (c 4 (by decide)).trans hk2, hk3⟩, hA, hW⟩⟩
theorem C_31 : Case_31 Rel := by
  intro x kf kC kF kK kG kP kW f C F K G P Wt one outs rd by_ xr isR st1 st2 Ks E Z tf tC tF tK tG tP tW two cm ab e fi hh kN mind mv N out mr z tp tl wBy wCell wFaces wFell wSign wTurns words a1 a2 a3 hR
  obtain ⟨hI, hS, hF, hT, ⟨hk1, hk2, hk3⟩, hA, hW⟩ := hR
  obtain ⟨n, n8, h89, hRS⟩ := rel_n hI hS
  obtain ⟨u, v, e1, e2, e3, r, c⟩ := case_idle (cx := x) (cm := cm) (f := f) (P := P) (K := K) (Wt := Wt) (C := C) (F := F) (G := G) (N := N) (w := one) (xr := xr) (mr := mr) (Ks := Ks) (Z := Z) (hh := hh) (z := z) (tl := tl) (wBy := wBy) (wCell := wCell) (wFaces := wFaces) (wFell := wFell) (wSign := wSign) (wTurns := wTurns) (E := E) (e := e) hI hF hS a1 a2 a3
  exact ⟨u, v, e1, e2, e3, ⟨hI, hS, r, hT.cmc (c 6 (by decide)), ⟨hk1, (c 4 (by decide)).trans hk2, hk3⟩, hA, hW⟩⟩
theorem C_32 : Case_32 Rel := by
  intro x kf kC kF kK kG kP kW f C F K G P Wt one outs rd by_ xr isR st1 st2 Ks E Z tf tC tF tK tG tP tW two cm ab e fi hh kN mind mv N out mr z tp tl wBy wCell wFaces wFell wSign wTurns words a1 a2 hR
  obtain ⟨hI, hS, hF, hT, ⟨hk1, hk2, hk3⟩, hA, hW⟩ := hR
  obtain ⟨n, n8, h89, hRS⟩ := rel_n hI hS
  obtain ⟨u, v, e1, e2, e3, r, c⟩ := case_lefts (cx := x) (cm := cm) (f := f) (P := P) (K := K) (Wt := Wt) (C := C) (F := F) (G := G) (N := N) (w := one) (xr := xr) (mr := mr) (wBy := wBy) (wCell := wCell) (wFaces := wFaces) (wFell := wFell) (wSign := wSign) (wTurns := wTurns) hI hF a1 a2
  exact ⟨u, v, e1, e2, e3, ⟨hI, hS, r, hT.cmc (c 6 (by decide)), ⟨hk1, (c 4 (by decide)).trans hk2, hk3⟩, hA, hW⟩⟩
theorem C_33 : Case_33 Rel := by
  intro x kf kC kF kK kG kP kW f C F K G P Wt one outs rd by_ xr isR st1 st2 Ks E Z tf tC tF tK tG tP tW two cm ab e fi hh kN mind mv N out mr z tp tl wBy wCell wFaces wFell wSign wTurns words a1 a2 hR
  obtain ⟨hI, hS, hF, hT, ⟨hk1, hk2, hk3⟩, hA, hW⟩ := hR
  obtain ⟨n, n8, h89, hRS⟩ := rel_n hI hS
  obtain ⟨u, v, e1, e2, e3, r, c⟩ := case_reach (cx := x) (cm := cm) (f := f) (P := P) (K := K) (Wt := Wt) (C := C) (F := F) (G := G) (N := N) (w := one) (rr := isR) (st := st1) (xr := xr) (mr := mr) (tl := tl) (wBy := wBy) (wCell := wCell) (wFaces := wFaces) (wFell := wFell) (wSign := wSign) (wTurns := wTurns) hI hF a1 a2
  exact ⟨u, v, e1, e2, e3, ⟨hI, hS, r, hT.cmc (c 6 (by decide)), ⟨hk1, (c 4 (by decide)).trans hk2, hk3⟩, hA, hW⟩⟩
theorem C_34 : Case_34 Rel := by
  intro x kf kC kF kK kG kP kW f C F K G P Wt one outs rd by_ xr isR st1 st2 Ks E Z tf tC tF tK tG tP tW two cm ab e fi hh kN mind mv N out mr z tp tl wBy wCell wFaces wFell wSign wTurns words a1 a2 hR
  obtain ⟨hI, hS, hF, hT, ⟨hk1, hk2, hk3⟩, hA, hW⟩ := hR
  obtain ⟨n, n8, h89, hRS⟩ := rel_n hI hS
  obtain ⟨u, v, e1, e2, e3, r⟩ := case_open (cx := x) (cm := cm) (f := f) (P := P) (K := K) (Wt := Wt) (C := C) (F := F) (G := G) (N := N) (xr := xr) (mr := mr) hI hF a1 a2
  exact ⟨u, v, e1, e2, e3, ⟨hI, hS, r, hT, ⟨hk1, hk2, hk3⟩, hA, hW⟩⟩
theorem C_35 : Case_35 Rel := by
  intro x kf kC kF kK kG kP kW f C F K G P Wt one outs rd by_ xr isR st1 st2 Ks E Z tf tC tF tK tG tP tW two cm ab e fi hh kN mind mv N out mr z tp tl wBy wCell wFaces wFell wSign wTurns words  hR
  obtain ⟨hI, hS, hF, hT, ⟨hk1, hk2, hk3⟩, hA, hW⟩ := hR
  obtain ⟨n, n8, h89, hRS⟩ := rel_n hI hS
  obtain ⟨u, v, e1, e2, e3⟩ := case_shore (cx := x) (cm := cm) (f := f) (P := P) (K := K) (Wt := Wt) (C := C) (F := F) (G := G) (N := N) hI
  exact ⟨u, v, e1, e2, e3, ⟨hI, hS, hF, hT, ⟨hk1, hk2, hk3⟩, hA, hW⟩⟩
theorem C_36 : Case_36 Rel := by
  intro x kf kC kF kK kG kP kW f C F K G P Wt one outs rd by_ xr isR st1 st2 Ks E Z tf tC tF tK tG tP tW two cm ab e fi hh kN mind mv N out mr z tp tl wBy wCell wFaces wFell wSign wTurns words a1 hR
  obtain ⟨hI, hS, hF, hT, ⟨hk1, hk2, hk3⟩, hA, hW⟩ := hR
  obtain ⟨n, n8, h89, hRS⟩ := rel_n hI hS
  obtain ⟨u, v, e1, e2, e3, r⟩ := case_bloc (cx := x) (cm := cm) (f := f) (P := P) (K := K) (Wt := Wt) (C := C) (F := F) (G := G) (N := N) (xr := xr) (mr := mr) hI hF a1
  exact ⟨u, v, e1, e2, e3, ⟨hI, hS, r, hT, ⟨hk1, hk2, hk3⟩, hA, hW⟩⟩
theorem C_37 : Case_37 Rel := by
  intro x kf kC kF kK kG kP kW f C F K G P Wt one outs rd by_ xr isR st1 st2 Ks E Z tf tC tF tK tG tP tW two cm ab e fi hh kN mind mv N out mr z tp tl wBy wCell wFaces wFell wSign wTurns words a1 hR
  obtain ⟨hI, hS, hF, hT, ⟨hk1, hk2, hk3⟩, hA, hW⟩ := hR
  obtain ⟨n, n8, h89, hRS⟩ := rel_n hI hS
  obtain ⟨u, v, e1, e2, e3, i, r, q⟩ := case_swing (cx := x) (cm := cm) (f := f) (P := P) (K := K) (Wt := Wt) (C := C) (F := F) (G := G) (N := N) (xr := xr) (mr := mr) hI hF a1
  exact ⟨u, v, e1, e2, e3, ⟨i, (sh_eq hS q), r, hT, ⟨hk1, hk2, hk3⟩, hA, hW⟩⟩
theorem C_38 : Case_38 Rel := by
  intro x kf kC kF kK kG kP kW f C F K G P Wt one outs rd by_ xr isR st1 st2 Ks E Z tf tC tF tK tG tP tW two cm ab e fi hh kN mind mv N out mr z tp tl wBy wCell wFaces wFell wSign wTurns words  hR
  obtain ⟨hI, hS, hF, hT, ⟨hk1, hk2, hk3⟩, hA, hW⟩ := hR
  obtain ⟨n, n8, h89, hRS⟩ := rel_n hI hS
  obtain ⟨u, v, e1, e2, e3, r⟩ := case_mightiest (cx := x) (cm := cm) (f := f) (P := P) (K := K) (Wt := Wt) (C := C) (F := F) (G := G) (N := N) (xr := xr) (mr := mr) hI hF 
  exact ⟨u, v, e1, e2, e3, ⟨hI, hS, r, hT, ⟨hk1, hk2, hk3⟩, hA, hW⟩⟩
theorem C_39 : Case_39 Rel := by
  intro x kf kC kF kK kG kP kW f C F K G P Wt one outs rd by_ xr isR st1 st2 Ks E Z tf tC tF tK tG tP tW two cm ab e fi hh kN mind mv N out mr z tp tl wBy wCell wFaces wFell wSign wTurns words  hR
  obtain ⟨hI, hS, hF, hT, ⟨hk1, hk2, hk3⟩, hA, hW⟩ := hR
  obtain ⟨n, n8, h89, hRS⟩ := rel_n hI hS
  obtain ⟨u, v, e1, e2, e3⟩ := case_agreed (cx := x) (cm := cm) (f := f) (P := P) (K := K) (Wt := Wt) (C := C) (F := F) (G := G) (N := N) (w := one) (wBy := wBy) (wCell := wCell) (wFaces := wFaces) (wFell := wFell) (wSign := wSign) (wTurns := wTurns) hI
  exact ⟨u, v, e1, e2, e3, ⟨hI, hS, hF, hT, ⟨hk1, hk2, hk3⟩, hA, hW⟩⟩
theorem C_40 : Case_40 Rel := by
  intro x kf kC kF kK kG kP kW f C F K G P Wt one outs rd by_ xr isR st1 st2 Ks E Z tf tC tF tK tG tP tW two cm ab e fi hh kN mind mv N out mr z tp tl wBy wCell wFaces wFell wSign wTurns words  hR
  obtain ⟨hI, hS, hF, hT, ⟨hk1, hk2, hk3⟩, hA, hW⟩ := hR
  obtain ⟨n, n8, h89, hRS⟩ := rel_n hI hS
  obtain ⟨u, v, e1, e2, e3⟩ := case_carries (cx := x) (cm := cm) (f := f) (P := P) (K := K) (Wt := Wt) (C := C) (F := F) (G := G) (N := N) hI
  exact ⟨u, v, e1, e2, e3, ⟨hI, hS, hF, hT, ⟨hk1, hk2, hk3⟩, hA, hW⟩⟩
theorem C_41 : Case_41 Rel := by
  intro x kf kC kF kK kG kP kW f C F K G P Wt one outs rd by_ xr isR st1 st2 Ks E Z tf tC tF tK tG tP tW two cm ab e fi hh kN mind mv N out mr z tp tl wBy wCell wFaces wFell wSign wTurns words a1 hR
  obtain ⟨hI, hS, hF, hT, ⟨hk1, hk2, hk3⟩, hA, hW⟩ := hR
  obtain ⟨n, n8, h89, hRS⟩ := rel_n hI hS
  obtain ⟨u, v, e1, e2, e3, i, r, q⟩ := case_turn (cx := x) (cm := cm) (f := f) (P := P) (K := K) (Wt := Wt) (C := C) (F := F) (G := G) (N := N) (xr := xr) (mr := mr) hI hF a1
  exact ⟨u, v, e1, e2, e3, ⟨i, (sh_eq hS q), r, hT, ⟨hk1, hk2, hk3⟩, hA, hW⟩⟩
theorem C_42 : Case_42 Rel := by
  intro x kf kC kF kK kG kP kW f C F K G P Wt one outs rd by_ xr isR st1 st2 Ks E Z tf tC tF tK tG tP tW two cm ab e fi hh kN mind mv N out mr z tp tl wBy wCell wFaces wFell wSign wTurns words a1 a2 a3 a4 a5 a6 hR
  obtain ⟨hI, hS, hF, hT, ⟨hk1, hk2, hk3⟩, hA, hW⟩ := hR
  obtain ⟨n, n8, h89, hRS⟩ := rel_n hI hS
  obtain ⟨u, v, e1, e2, e3, r, c⟩ := case_meet (cx := x) (cm := cm) (f := f) (P := P) (K := K) (Wt := Wt) (C := C) (F := F) (G := G) (N := N) (w := one) (w2 := two) (xr := xr) (mr := mr) (Ks := Ks) (Z := Z) (hh := hh) (z := z) (fi := fi) (tl := tl) (wBy := wBy) (wCell := wCell) (wFaces := wFaces) (wFell := wFell) (wSign := wSign) (wTurns := wTurns) (E := E) (e := e) hI hF hS a1 a2 a3 a4 a5 a6
  exact ⟨u, v, e1, e2, e3, ⟨hI, hS, r, hT.cmc (c 6 (by decide)), ⟨hk1, (c 4 (by decide)).trans hk2, hk3⟩, hA, hW⟩⟩
theorem C_43 : Case_43 Rel := by
  intro x kf kC kF kK kG kP kW f C F K G P Wt one outs rd by_ xr isR st1 st2 Ks E Z tf tC tF tK tG tP tW two cm ab e fi hh kN mind mv N out mr z tp tl wBy wCell wFaces wFell wSign wTurns words a1 a2 a3 a4 a5 a6 hR
  obtain ⟨hI, hS, hF, hT, ⟨hk1, hk2, hk3⟩, hA, hW⟩ := hR
  obtain ⟨n, n8, h89, hRS⟩ := rel_n hI hS
  obtain ⟨u, v, e1, e2, e3, r, c⟩ := case_waits (cx := x) (cm := cm) (f := f) (P := P) (K := K) (Wt := Wt) (C := C) (F := F) (G := G) (N := N) (w := one) (w2 := two) (xr := xr) (mr := mr) (Ks := Ks) (Z := Z) (hh := hh) (z := z) (fi := fi) (tl := tl) (wBy := wBy) (wCell := wCell) (wFaces := wFaces) (wFell := wFell) (wSign := wSign) (wTurns := wTurns) (E := E) (e := e) hI hF hS a1 a2 a3 a4 a5 a6
  exact ⟨u, v, e1, e2, e3, ⟨hI, hS, r, hT.cmc (c 6 (by decide)), ⟨hk1, (c 4 (by decide)).trans hk2, hk3⟩, hA, hW⟩⟩
theorem C_44 : Case_44 Rel := by
  intro x kf kC kF kK kG kP kW f C F K G P Wt one outs rd by_ xr isR st1 st2 Ks E Z tf tC tF tK tG tP tW two cm ab e fi hh kN mind mv N out mr z tp tl wBy wCell wFaces wFell wSign wTurns words a1 a2 hR
  obtain ⟨hI, hS, hF, hT, ⟨hk1, hk2, hk3⟩, hA, hW⟩ := hR
  obtain ⟨n, n8, h89, hRS⟩ := rel_n hI hS
  obtain ⟨u, v, e1, e2, e3, r⟩ := case_judge (cx := x) (cm := cm) (Ks := Ks) (Z := Z) (hh := hh) (z := z) (xr := xr) (mr := mr) (E := E) (e := e) (n := n) hF n8 hRS a1 a2
  exact ⟨u, v, e1, e2, e3, ⟨hI, hS, r, hT, ⟨hk1, hk2, hk3⟩, hA, hW⟩⟩
theorem C_45 : Case_45 Rel := by
  intro x kf kC kF kK kG kP kW f C F K G P Wt one outs rd by_ xr isR st1 st2 Ks E Z tf tC tF tK tG tP tW two cm ab e fi hh kN mind mv N out mr z tp tl wBy wCell wFaces wFell wSign wTurns words a1 a2 a3 hR
  obtain ⟨hI, hS, hF, hT, ⟨hk1, hk2, hk3⟩, hA, hW⟩ := hR
  obtain ⟨n, n8, h89, hRS⟩ := rel_n hI hS
  obtain ⟨u, v, e1, e2, e3, i, r, q, c⟩ := case_walk (cx := x) (cm := cm) (f := f) (P := P) (K := K) (Wt := Wt) (C := C) (F := F) (G := G) (N := N) (w := one) (xr := xr) (mr := mr) (Ks := Ks) (Z := Z) (hh := hh) (z := z) (tl := tl) (wBy := wBy) (wCell := wCell) (wFaces := wFaces) (wFell := wFell) (wSign := wSign) (wTurns := wTurns) (E := E) (e := e) hI hF hS a1 a2 a3
  exact ⟨u, v, e1, e2, e3, ⟨i, (sh_eq hS q), r, hT.cmc (c 6 (by decide)), ⟨hk1, (c 4 (by decide)).trans hk2, hk3⟩, hA, hW⟩⟩
theorem C_46 : Case_46 Rel := by
  intro x kf kC kF kK kG kP kW f C F K G P Wt one outs rd by_ xr isR st1 st2 Ks E Z tf tC tF tK tG tP tW two cm ab e fi hh kN mind mv N out mr z tp tl wBy wCell wFaces wFell wSign wTurns words a1 hR
  obtain ⟨hI, hS, hF, hT, ⟨hk1, hk2, hk3⟩, hA, hW⟩ := hR
  obtain ⟨n, n8, h89, hRS⟩ := rel_n hI hS
  obtain ⟨u, v, e1, e2, e3, i, r, q⟩ := case_years (cx := x) (cm := cm) (f := f) (P := P) (K := K) (Wt := Wt) (C := C) (F := F) (G := G) (N := N) (xr := xr) (mr := mr) hI hF a1
  exact ⟨u, v, e1, e2, e3, ⟨i, (sh_eq hS q), r, hT, ⟨hk1, hk2, hk3⟩, hA, hW⟩⟩
theorem C_47 : Case_47 Rel := by
  intro x kf kC kF kK kG kP kW f C F K G P Wt one outs rd by_ xr isR st1 st2 Ks E Z tf tC tF tK tG tP tW two cm ab e fi hh kN mind mv N out mr z tp tl wBy wCell wFaces wFell wSign wTurns words a1 hR
  obtain ⟨hI, hS, hF, hT, ⟨hk1, hk2, hk3⟩, hA, hW⟩ := hR
  obtain ⟨n, n8, h89, hRS⟩ := rel_n hI hS
  obtain ⟨u, v, e1, e2, e3, i⟩ := case_seed (cx := x) (cm := cm) (f := f) (P := P) (K := K) (Wt := Wt) (C := C) (F := F) (G := G) (N := N) hI a1
  exact ⟨u, v, e1, e2, e3, ⟨i, (sh_eq hS (i.f7.trans ((seed7 e1).trans hI.f7.symm))), hF, hT, ⟨hk1, hk2, hk3⟩, hA, hW⟩⟩
theorem C_48 : Case_48 Rel := by
  intro x kf kC kF kK kG kP kW f C F K G P Wt one outs rd by_ xr isR st1 st2 Ks E Z tf tC tF tK tG tP tW two cm ab e fi hh kN mind mv N out mr z tp tl wBy wCell wFaces wFell wSign wTurns words  hR
  obtain ⟨hI, hS, hF, hT, ⟨hk1, hk2, hk3⟩, hA, hW⟩ := hR
  obtain ⟨n, n8, h89, hRS⟩ := rel_n hI hS
  obtain ⟨u, v, e1, e2, e3, i, y1, y2⟩ := case_image (cx := x) (cm := cm) (f := f) (P := P) (K := K) (W := Wt) (C := C) (F := F) (G := G) (N := N) (kf := kf) (kP := kP) (kK := kK) (kW := kW) (kC := kC) (kF := kF) (kG := kG) (kN := kN) hI
  exact ⟨u, v, e1, e2, e3, ⟨hI, hS, hF, hT.cmc (by rw [y2]; exact upd_ne (by decide)), ⟨Or.inr (by rw [y1]; exact upd_eq), (by rw [y1, y2, upd_eq, upd_eq]), fun _ => i⟩, hA, hW⟩⟩
theorem C_49 : Case_49 Rel := by
  intro x kf kC kF kK kG kP kW f C F K G P Wt one outs rd by_ xr isR st1 st2 Ks E Z tf tC tF tK tG tP tW two cm ab e fi hh kN mind mv N out mr z tp tl wBy wCell wFaces wFell wSign wTurns words  hR
  obtain ⟨hI, hS, hF, hT, ⟨hk1, hk2, hk3⟩, hA, hW⟩ := hR
  obtain ⟨n, n8, h89, hRS⟩ := rel_n hI hS
  obtain ⟨u, v, e1, e2, e3, i, r, n2, n28, s, q⟩ := case_back (cx := x) (cm := cm) (f := f) (P := P) (K := K) (W := Wt) (C := C) (F := F) (G := G) (N := N) (kf := kf) (kP := kP) (kK := kK) (kW := kW) (kC := kC) (kF := kF) (kG := kG) (kN := kN) (xr := xr) (mr := mr) (Ks := Ks) (Z := Z) (hh := hh) (z := z) (E := E) (e := e) (n := n) n8 hRS hI hF hk1 hk2 hk3
  exact ⟨u, v, e1, e2, e3, ⟨i, (sh_all (back_n h89 q) n28 s), r, hT, ⟨hk1, hk2, hk3⟩, hA, hW⟩⟩
theorem C_50 : Case_50 Rel := by
  intro x kf kC kF kK kG kP kW f C F K G P Wt one outs rd by_ xr isR st1 st2 Ks E Z tf tC tF tK tG tP tW two cm ab e fi hh kN mind mv N out mr z tp tl wBy wCell wFaces wFell wSign wTurns words a1 hR
  obtain ⟨hI, hS, hF, hT, ⟨hk1, hk2, hk3⟩, hA, hW⟩ := hR
  obtain ⟨n, n8, h89, hRS⟩ := rel_n hI hS
  obtain ⟨u, v, e1, e2, e3⟩ := case_status (cx := x) (cm := cm) (f := f) (P := P) (K := K) (Wt := Wt) (C := C) (F := F) (G := G) (N := N) (xr := xr) (mr := mr) (rd := rd) (by_ := by_) (tp := tp) (Ks := Ks) (Z := Z) (hh := hh) (z := z) (E := E) (e := e) (n0 := n) hI hF hT hRS a1
  exact ⟨u, v, e1, e2, e3, ⟨hI, hS, hF, hT, ⟨hk1, hk2, hk3⟩, hA, hW⟩⟩
