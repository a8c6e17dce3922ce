-- ===== the model's walker =====
/-- walker i of the model's rows -/
noncomputable def WM (wCell wFaces wTurns wSign wBy wFell : Nat → Int32) (i c f t : Nat) (sg b fl : Int32) : Prop :=
  wCell i = nI c ∧ wFaces i = nI f ∧ wTurns i = nI t ∧ wFell i = fl ∧ (t ≠ 0 → wSign i = sg ∧ wBy i = b)
noncomputable abbrev WMs (wCell wFaces wTurns wSign wBy wFell : Nat → Int32) (i : Nat) (x : WS) : Prop := WM wCell wFaces wTurns wSign wBy wFell i x.1 x.2.1 x.2.2.1 x.2.2.2.1 x.2.2.2.2.1 x.2.2.2.2.2
theorem mkind {t N : Nat → Int32} {p : Nat} (hp : p < 8) : f_X6_kind (nI p) t N = some (N (5 * p)) ∧ f_X6_a (nI p) t N = some (N (5 * p + 1)) ∧ f_X6_cell (nI p) t N = some (N (5 * p + 2)) ∧ f_X6_faces (nI p) t N = some (N (5 * p + 3)) ∧ f_X6_isFor (nI p) t N = some (N (5 * p + 4)) := by
  have e : (5 : Int32) * nI p = nI (5 * p) := pk_mul 5 p
  have e1 : ∀ j : Nat, nI (5 * p) + nI j = nI (5 * p + j) := fun j => nI_add _ _
  unfold f_X6_kind f_X6_a f_X6_cell f_X6_faces f_X6_isFor
  rw [e]
  refine ⟨?_, ?_, ?_, ?_, ?_⟩
  · rw [if_pos (inb_nI (by omega) (by decide)), nI_cl (by omega)]
  · rw [show nI (5 * p) + (1 : Int32) = nI (5 * p + 1) from e1 1, if_pos (inb_nI (by omega) (by decide)), nI_cl (by omega)]
  · rw [show nI (5 * p) + (2 : Int32) = nI (5 * p + 2) from e1 2, if_pos (inb_nI (by omega) (by decide)), nI_cl (by omega)]
  · rw [show nI (5 * p) + (3 : Int32) = nI (5 * p + 3) from e1 3, if_pos (inb_nI (by omega) (by decide)), nI_cl (by omega)]
  · rw [show nI (5 * p) + (4 : Int32) = nI (5 * p + 4) from e1 4, if_pos (inb_nI (by omega) (by decide)), nI_cl (by omega)]
theorem X6_goesBy_eq {ct N P wCell wFaces wTurns wSign wBy wFell : Nat → Int32} {s i p kd c f t : Nat} {left old pl sg b fl sign : Int32} (hs : s ≤ 7) (h0 : N 90 = nI s) (hl : N 91 = left) (ho : N 92 = old) (hp : ∀ k, okc s k → N (pt k) = P k ∧ isB (P k)) (hi : i < 2) (hpp : p < 8) (hkd : kd ≤ 5) (hk : N (5 * p) = nI kd) (hpl : N (5 * p + 4) = pl) (hc : okc s c) (ht : t < 2147483648) (hw : WM wCell wFaces wTurns wSign wBy wFell i c f t sg b fl) : f_X6_goesBy (nI i) (nI p) sign ct N wBy wCell wSign wTurns = some (goesS s P left old pl kd c t sg b sign) := by
  obtain ⟨w1, w2, w3, w4, w5⟩ := hw
  have hin : inb (nI i) 2 := inb_nI hi (by decide)
  have hcl : (nI i).toNatClampNeg = i := nI_cl (by omega)
  unfold f_X6_goesBy
  rw [(mkind hpp).1, hk, (mkind hpp).2.2.2.2, hpl, hl, ho]
  simp only [hcl, w1, w3, if_pos hin, Option.bind_some]
  rcases (show kd = 0 ∨ kd = 1 ∨ kd = 2 ∨ kd = 3 ∨ kd = 4 ∨ kd = 5 by omega) with rfl | rfl | rfl | rfl | rfl | rfl
  · rw [if_pos (by decide)]; rfl
  · rw [if_neg (by decide), if_pos (by decide)]; rfl
  · rw [if_neg (by decide), if_neg (by decide), if_pos (by decide)]
    have e : nI t - nI t / (2 : Int32) * (2 : Int32) = nI (t % 2) := pk_rem ht (by decide) (by decide)
    rw [e]
    by_cases q : t % 2 = 0
    · rw [q, if_pos (by decide)]
      simp only [goesS, q, if_true]; rfl
    · rw [show t % 2 = 1 by omega, if_neg (by decide)]
      simp only [goesS, q, if_false]; rfl
  · rw [if_neg (by decide), if_neg (by decide), if_neg (by decide), if_pos (by decide)]; rfl
  · rw [if_neg (by decide), if_neg (by decide), if_neg (by decide), if_neg (by decide), if_pos (by decide), shore_X6 hs h0 hp hc]
    simp only [Option.bind_some]
    by_cases q : pbf s P c 4 = true
    · rw [if_pos q, if_neg (by decide)]
      simp only [goesS, q, if_true]; rfl
    · rw [if_neg q, if_pos rfl]
      simp only [goesS, q, if_false]; rfl
  · rw [if_neg (by decide), if_neg (by decide), if_neg (by decide), if_neg (by decide), if_neg (by decide)]
    by_cases q : t = 0
    · rw [q, if_pos (by decide)]
      simp only [goesS, if_true]; rfl
    · obtain ⟨e9, e10⟩ := w5 q
      have q0 : ¬ nI t = (0 : Int32) := fun z => q (nI_inj (b := 0) ht (by decide) z)
      rw [e9, e10, if_neg q0]
      by_cases q2 : sg = sign
      · rw [if_pos q2]
        simp only [goesS, q, q2, if_true, if_false]; rfl
      · rw [if_neg q2]
        simp only [goesS, q, q2, if_false]; rfl
noncomputable abbrev R7 : Type := (Nat → Int32) × (Nat → Int32) × (Nat → Int32) × (Nat → Int32) × (Nat → Int32) × (Nat → Int32) × (Nat → Int32)
/-- the model's rows behind some signs: only walker i's places, and where it was dry -/
noncomputable def keepM (ct wBy wCell wFaces wFell wSign wTurns : Nat → Int32) (i : Nat) (r : R7) : Prop :=
  (∀ j, j ≠ 17 → r.1 j = ct j) ∧ (∀ j, j ≠ i → r.2.1 j = wBy j ∧ r.2.2.1 j = wCell j ∧ r.2.2.2.1 j = wFaces j ∧ r.2.2.2.2.1 j = wFell j ∧ r.2.2.2.2.2.1 j = wSign j ∧ r.2.2.2.2.2.2 j = wTurns j)
theorem turnM {wBy wCell wFaces wFell wSign wTurns ct N : Nat → Int32} {i c f t : Nat} {sg b fl sign b2 : Int32} (hi : i < 2) (hf : f < 4) (hsg : sign = 1 ∨ sign = 2) (hw : WM wCell wFaces wTurns wSign wBy wFell i c f t sg b fl) :
    ∃ r : R7, (if b2 = (1 : Int32) then (f_X6_step_b115 N ct wBy wCell wFaces wFell wSign wTurns (nI i) sign b2 (1 : Int32) (nI f) (nI i)) else (f_X6_step_b115 N ct wBy wCell wFaces wFell wSign wTurns (nI i) sign b2 (0 : Int32) (nI f) (nI i))) = some r ∧ r.1 = ct ∧ keepM ct wBy wCell wFaces wFell wSign wTurns i r ∧ WM r.2.2.1 r.2.2.2.1 r.2.2.2.2.2.2 r.2.2.2.2.2.1 r.2.1 r.2.2.2.2.1 i c ((f + turnQ sign b2) % 4) (t + 1) sign b2 fl := by
  obtain ⟨w1, w2, w3, w4, w5⟩ := hw
  have hin : inb (nI i) 2 := inb_nI hi (by decide)
  have hcl : (nI i).toNatClampNeg = i := nI_cl (by omega)
  have fin : ∀ (z : Int32) , (nI f + z) - (nI f + z) / (4 : Int32) * (4 : Int32) = nI ((f + turnQ sign b2) % 4) → ∃ r : R7, f_X6_step_b133 N ct wBy wCell wFaces wFell wSign wTurns (nI i) sign b2 z (nI f) (nI i) = some r ∧ r.1 = ct ∧ keepM ct wBy wCell wFaces wFell wSign wTurns i r ∧ WM r.2.2.1 r.2.2.2.1 r.2.2.2.2.2.2 r.2.2.2.2.2.1 r.2.1 r.2.2.2.2.1 i c ((f + turnQ sign b2) % 4) (t + 1) sign b2 fl := by
    intro z hz
    unfold f_X6_step_b133
    simp only [if_pos hin, hcl, hz]
    refine ⟨_, rfl, rfl, ⟨fun j _ => rfl, fun j hj => ?_⟩, ?_⟩
    · simp [upd, hj]
    · refine ⟨w1, ?_, ?_, w4, fun _ => ?_⟩
      · simp [upd]
      · simp only [upd, if_true, w3]; exact nI_1 t
      · simp [upd]
  rcases hsg with rfl | rfl
  · by_cases q : b2 = 1
    · rw [if_pos q]
      unfold f_X6_step_b115
      rw [if_pos rfl]
      unfold f_X6_step_b125
      rw [if_pos rfl]
      exact fin 1 (by rw [(rem4_fin f hf).1]; simp [turnQ, q])
    · rw [if_neg q]
      unfold f_X6_step_b115
      rw [if_pos rfl]
      unfold f_X6_step_b125
      rw [if_neg (by decide)]
      exact fin 3 (by rw [(rem4_fin f hf).2]; simp [turnQ, q])
  · by_cases q : b2 = 1
    · rw [if_pos q]
      unfold f_X6_step_b115
      rw [if_neg (by decide)]
      unfold f_X6_step_b125
      rw [if_neg (by decide)]
      exact fin 3 (by rw [(rem4_fin f hf).2]; simp [turnQ, q])
    · rw [if_neg q]
      unfold f_X6_step_b115
      rw [if_neg (by decide)]
      unfold f_X6_step_b125
      rw [if_pos rfl]
      exact fin 1 (by rw [(rem4_fin f hf).1]; simp [turnQ, q])
theorem X6_step_eq {ct N P wBy wCell wFaces wFell wSign wTurns : Nat → Int32} {s i p kd : Nat} {left old pl sign k : Int32} {x : WS} (hs : s ≤ 7) (h0 : N 90 = nI s) (hl : N 91 = left) (ho : N 92 = old) (hp : ∀ k, okc s k → N (pt k) = P k ∧ isB (P k)) (hi : i < 2) (hpp : p < 8) (hkd : kd ≤ 5) (hk : N (5 * p) = nI kd) (hpl : N (5 * p + 4) = pl) (hsg : sign = 0 ∨ sign = 1 ∨ sign = 2 ∨ sign = 3) (hok : okw s x) (ht : x.2.2.1 < 2147483647) (hw : WMs wCell wFaces wTurns wSign wBy wFell i x) :
    ∃ r : R7, f_X6_step (nI i) (nI p) sign k ct N wBy wCell wFaces wFell wSign wTurns = some r ∧ keepM ct wBy wCell wFaces wFell wSign wTurns i r ∧ WMs r.2.2.1 r.2.2.2.1 r.2.2.2.2.2.2 r.2.2.2.2.2.1 r.2.1 r.2.2.2.2.1 i (stepS s P left old pl kd x sign k) ∧ (x.2.2.2.2.2 ≠ -1 → r.1 = ct) ∧ ((stepS s P left old pl kd x sign k).2.2.2.2.2 ≠ -1 → x.2.2.2.2.2 = -1 → r.1 17 = nI x.1) := by
  have hw0 := hw
  obtain ⟨w1, w2, w3, w4, w5⟩ := hw
  have hin : inb (nI i) 2 := inb_nI hi (by decide)
  have hcl : (nI i).toNatClampNeg = i := nI_cl (by omega)
  have same : ∀ y : WS, y = x → ∃ r : R7, some (ct, wBy, wCell, wFaces, wFell, wSign, wTurns) = some r ∧ keepM ct wBy wCell wFaces wFell wSign wTurns i r ∧ WMs r.2.2.1 r.2.2.2.1 r.2.2.2.2.2.2 r.2.2.2.2.2.1 r.2.1 r.2.2.2.2.1 i y ∧ (x.2.2.2.2.2 ≠ -1 → r.1 = ct) ∧ (y.2.2.2.2.2 ≠ -1 → x.2.2.2.2.2 = -1 → r.1 17 = nI x.1) := by
    intro y hy
    subst hy
    exact ⟨_, rfl, ⟨fun _ _ => rfl, fun _ _ => ⟨rfl, rfl, rfl, rfl, rfl, rfl⟩⟩, hw0, fun _ => rfl, fun a b => absurd b a⟩
  unfold f_X6_step
  simp only [if_pos hin, hcl, w1, w2, w4]
  by_cases q : x.2.2.2.2.2 = -1
  · rw [if_pos q]
    rcases hsg with rfl | rfl | rfl | rfl
    · rw [if_neg (by decide), if_pos rfl]
      cases hx : nxt s x.1 x.2.1 with
      | none =>
        rw [beside_none hs h0 hok.1 hok.2 hx]
        simp only [Option.bind_some, if_true]
        exact same _ (by simp [stepS, q, hx])
      | some c' =>
        have hc' := nxt_ok hs hok.1 hx
        rw [beside_some hs h0 hok.1 hok.2 hx]
        simp only [Option.bind_some]
        have hc1 := hc'.1
        rw [if_neg (nI_ne1 (by omega)), hasPond_X6 hs hc', (hp c' hc').1]
        simp only [Option.bind_some]
        have e : stepS s P left old pl kd x 0 k = (c', x.2.1, x.2.2.1, x.2.2.2.1, x.2.2.2.2.1, if P c' = 0 then -1 else k) := by simp [stepS, q, hx]
        rw [e]
        have fin : ∀ z : Int32, ∃ r : R7, f_X6_step_b82 N (upd ct 17 (nI x.1)) wBy (upd wCell i (nI c')) wFaces wFell wSign wTurns z (nI i) = some r ∧ keepM ct wBy wCell wFaces wFell wSign wTurns i r ∧ WMs r.2.2.1 r.2.2.2.1 r.2.2.2.2.2.2 r.2.2.2.2.2.1 r.2.1 r.2.2.2.2.1 i (c', x.2.1, x.2.2.1, x.2.2.2.1, x.2.2.2.2.1, z) ∧ (x.2.2.2.2.2 ≠ -1 → r.1 = ct) ∧ (z ≠ -1 → x.2.2.2.2.2 = -1 → r.1 17 = nI x.1) := by
          intro z
          unfold f_X6_step_b82
          simp only [if_pos hin, hcl]
          refine ⟨_, rfl, ⟨fun j hj => by simp [upd, hj], fun j hj => by simp [upd, hj]⟩, ⟨by simp [upd], w2, w3, by simp [upd], w5⟩, fun h => absurd q h, fun _ _ => by simp [upd]⟩
        rcases (hp c' hc').2 with qp | qp
        · have := fin (-1)
          simpa [qp] using this
        · have := fin k
          simpa [qp] using this
    · rw [if_neg (by decide), if_neg (by decide), X6_goesBy_eq hs h0 hl ho hp hi hpp hkd hk hpl hok.1 (by omega) hw0]
      obtain ⟨r, e1, e2, e3, e4⟩ := turnM (ct := ct) (N := N) (b2 := goesS s P left old pl kd x.1 x.2.2.1 x.2.2.2.1 x.2.2.2.2.1 1) hi hok.2 (Or.inl rfl) hw0
      have e : stepS s P left old pl kd x 1 k = (x.1, (x.2.1 + turnQ 1 (goesS s P left old pl kd x.1 x.2.2.1 x.2.2.2.1 x.2.2.2.2.1 1)) % 4, x.2.2.1 + 1, 1, goesS s P left old pl kd x.1 x.2.2.1 x.2.2.2.1 x.2.2.2.2.1 1, x.2.2.2.2.2) := by simp [stepS, q]
      rw [e]
      exact ⟨r, e1, e3, e4, fun _ => e2, fun a b => absurd b a⟩
    · rw [if_neg (by decide), if_neg (by decide), X6_goesBy_eq hs h0 hl ho hp hi hpp hkd hk hpl hok.1 (by omega) hw0]
      obtain ⟨r, e1, e2, e3, e4⟩ := turnM (ct := ct) (N := N) (b2 := goesS s P left old pl kd x.1 x.2.2.1 x.2.2.2.1 x.2.2.2.2.1 2) hi hok.2 (Or.inr rfl) hw0
      have e : stepS s P left old pl kd x 2 k = (x.1, (x.2.1 + turnQ 2 (goesS s P left old pl kd x.1 x.2.2.1 x.2.2.2.1 x.2.2.2.2.1 2)) % 4, x.2.2.1 + 1, 2, goesS s P left old pl kd x.1 x.2.2.1 x.2.2.2.1 x.2.2.2.2.1 2, x.2.2.2.2.2) := by simp [stepS, q]
      rw [e]
      exact ⟨r, e1, e3, e4, fun _ => e2, fun a b => absurd b a⟩
    · rw [if_pos rfl]
      exact same _ (by simp [stepS, q])
  · rw [if_neg q]
    exact same _ (by simp [stepS, q])
