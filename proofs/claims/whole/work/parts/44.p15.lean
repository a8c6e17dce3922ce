-- ===== all of them come out: who, lonely, crowd =====
noncomputable abbrev outC (s : Nat) (P : Nat → Int32) (left old : Int32) (K C F G tl : Nat → Int32) (m p : Nat) : Int32 := nI (finS s P left old K C F G tl m p).1
theorem comeL {cx cm f P K Wt C F G N tl : Nat → Int32} {E : Nat → Int64} {s n q m : Nat} (h : IRn s n f P K Wt C F G N) (hq : q < 8) (hm : m ≤ 40) (htl : ∀ i, i < m → isSg (E (40 * q + i)) ∧ tl i = (E (40 * q + i)).toInt32) : ∀ (j a b : Nat) (w outs ct out wBy wCell wFaces wFell wSign wTurns : Nat → Int32), j ≤ n → j < a → j < b → (∀ i, i ≠ 17 → ct i = cm i) →
    ∃ u v, f_X5_allComeOut_b2 cx f C F K G P E a w outs (nI q) (nI m) (nI (n - j)) = some u ∧ f_X6_comeOut_b2 N tl b ct out wBy wCell wFaces wFell wSign wTurns (nI m) (nI (n - j)) = some v ∧ (∀ i, i ≠ 17 → v.1 i = cm i) ∧ (∀ i, n - j ≤ i → i < n → u.2 i = outC s P (f 1) (f 2) K C F G tl m i ∧ v.2.1 i = outC s P (f 1) (f 2) K C F G tl m i) ∧ (∀ i, i < n - j → u.2 i = outs i ∧ v.2.1 i = out i) := by
  obtain ⟨q1, q2, q3, q4, q5, q6, q7, q8⟩ := h.1
  intro j
  induction j with
  | zero =>
    intro a b w outs ct out wBy wCell wFaces wFell wSign wTurns _ ha hb hct
    obtain ⟨k, rfl⟩ : ∃ k, a = k + 1 := ⟨a - 1, by omega⟩
    obtain ⟨k2, rfl⟩ : ∃ k, b = k + 1 := ⟨b - 1, by omega⟩
    rw [f_X5_allComeOut_b2, f_X6_comeOut_b2]
    simp only [f_X6_many, Option.bind_some, q6, q7]
    rw [if_pos ((nI_leI (by omega) (by omega)).mpr (by omega)), if_pos ((nI_leI (by omega) (by omega)).mpr (by omega))]
    exact ⟨_, _, rfl, rfl, hct, fun i h1 h2 => by omega, fun i _ => ⟨rfl, rfl⟩⟩
  | succ j ih =>
    intro a b w outs ct out wBy wCell wFaces wFell wSign wTurns hj ha hb hct
    obtain ⟨k, rfl⟩ : ∃ k, a = k + 1 := ⟨a - 1, by omega⟩
    obtain ⟨k2, rfl⟩ : ∃ k, b = k + 1 := ⟨b - 1, by omega⟩
    have hno : ¬ nI n ≤ nI (n - (j + 1)) := fun z => by have := (nI_leI (by omega) (by omega)).mp z; omega
    obtain ⟨w1, w2, r, kd, t1, t2, t3, t4, t5, t6, t7⟩ := per_both (ct := cx) (cm := ct) (w := w) (wBy := wBy) (wCell := wCell) (wFaces := wFaces) (wFell := wFell) (wSign := wSign) (wTurns := wTurns) h (show n - (j + 1) < n by omega) hq hm htl
    have e : nI (n - (j + 1)) + (1 : Int32) = nI (n - j) := by rw [nI_1]; congr 1; omega
    have h8 : n - (j + 1) < 8 := by omega
    rw [f_X5_allComeOut_b2, f_X6_comeOut_b2]
    simp only [f_X6_many, Option.bind_some, q6, q7]
    rw [if_neg hno, if_neg hno, t1, t3]
    simp only [Option.bind_some]
    rw [t2]
    simp only [Option.bind_some, if_pos (ix8 h8).1, (ix8 h8).2, e]
    have hct2 : ∀ i, i ≠ 17 → r.1 i = cm i := fun i hi => (t7 i hi).trans (hct i hi)
    obtain ⟨u, v, g1, g2, g3, g4, g5⟩ := ih k k2 w2 (upd outs (n - (j + 1)) (w2 4)) r.1 (upd out (n - (j + 1)) (r.2.2.1 0)) r.2.1 r.2.2.1 r.2.2.2.1 r.2.2.2.2.1 r.2.2.2.2.2.1 r.2.2.2.2.2.2 (by omega) (by omega) (by omega) hct2
    refine ⟨u, v, g1, g2, g3, fun i h1 h2 => ?_, fun i hi => ?_⟩
    · by_cases z : n - j ≤ i
      · exact g4 i z h2
      · have zi : i = n - (j + 1) := by omega
        obtain ⟨y1, y2⟩ := g5 i (by omega)
        rw [y1, y2, zi, upd_eq, upd_eq]
        exact ⟨t5.2.2.2.1, t6.1⟩
    · obtain ⟨y1, y2⟩ := g5 i (by omega)
      rw [y1, y2, upd_ne (by omega), upd_ne (by omega)]
      exact ⟨rfl, rfl⟩
theorem come_both {cx cm f P K Wt C F G N tl : Nat → Int32} {E : Nat → Int64} {s n q m : Nat} (h : IRn s n f P K Wt C F G N) (hq : q < 8) (hm : m ≤ 40) (htl : ∀ i, i < m → isSg (E (40 * q + i)) ∧ tl i = (E (40 * q + i)).toInt32) (w outs out wBy wCell wFaces wFell wSign wTurns : Nat → Int32) :
    ∃ u v, f_X5_allComeOut (nI q) (nI m) cx f C F K G P w outs E = some u ∧ f_X6_comeOut (nI m) cm N out tl wBy wCell wFaces wFell wSign wTurns = some v ∧ (∀ i, i ≠ 17 → v.1 i = cm i) ∧ (∀ i, i < n → u.2 i = outC s P (f 1) (f 2) K C F G tl m i ∧ v.2.1 i = outC s P (f 1) (f 2) K C F G tl m i) := by
  obtain ⟨k, hk⟩ := FU_s
  have hn8 := h.1.2.2.1
  obtain ⟨u, v, g1, g2, g3, g4, g5⟩ := comeL (cx := cx) (cm := cm) h hq hm htl n FU FU w outs cm out wBy wCell wFaces wFell wSign wTurns (Nat.le_refl _) (by omega) (by omega) (fun _ _ => rfl)
  rw [Nat.sub_self] at g1 g2 g4
  exact ⟨u, v, g1, g2, g3, fun i hi => g4 i (by omega) hi⟩
noncomputable def cnt (O : Nat → Int32) (c : Int32) (n : Nat) : Nat → Nat
  | 0 => 0
  | j + 1 => (if O (n - (j + 1)) = c then 1 else 0) + cnt O c n j
theorem cnt_le {O : Nat → Int32} {c : Int32} {n : Nat} : ∀ j, cnt O c n j ≤ j := by
  intro j
  induction j with
  | zero => exact Nat.le_refl _
  | succ j ih =>
    unfold cnt
    by_cases z : O (n - (j + 1)) = c
    · rw [if_pos z]; omega
    · rw [if_neg z]; omega
theorem cnt_congr {O O2 : Nat → Int32} {c : Int32} {n : Nat} (h : ∀ i, i < n → O i = O2 i) : ∀ j, j ≤ n → cnt O c n j = cnt O2 c n j := by
  intro j
  induction j with
  | zero => intro _; rfl
  | succ j ih =>
    intro hj
    unfold cnt
    rw [h (n - (j + 1)) (by omega), ih (by omega)]
theorem howX {cx f O : Nat → Int32} {n : Nat} (hn : n ≤ 8) (h7 : f 7 = nI n) (c : Int32) : ∀ (j a acc : Nat), j ≤ n → j < a → acc + j < 100 → f_X5_howManyOutIn_b4 cx f O a c (nI acc) (nI (n - j)) = some (nI (acc + cnt O c n j)) := by
  intro j
  induction j with
  | zero =>
    intro a acc _ ha _
    obtain ⟨k, rfl⟩ : ∃ k, a = k + 1 := ⟨a - 1, by omega⟩
    rw [f_X5_howManyOutIn_b4, h7, if_pos ((nI_leI (by omega) (by omega)).mpr (by omega))]
    rfl
  | succ j ih =>
    intro a acc hj ha hacc
    obtain ⟨k, rfl⟩ : ∃ k, a = k + 1 := ⟨a - 1, by omega⟩
    have h8 : n - (j + 1) < 8 := by omega
    have e : nI (n - (j + 1)) + (1 : Int32) = nI (n - j) := by rw [nI_1]; congr 1; omega
    rw [f_X5_howManyOutIn_b4, h7, if_neg (fun z => by have := (nI_leI (by omega) (by omega)).mp z; omega)]
    simp only [if_pos (ix8 h8).1, (ix8 h8).2, f_X5_howManyOutIn_b31, asNumber_eq, Option.bind_some, e]
    unfold cnt
    by_cases z : O (n - (j + 1)) = c
    · rw [if_pos z, if_pos z, if_neg one_ne0, show nI acc + (1 : Int32) = nI (acc + 1) from nI_1 acc, ih k (acc + 1) (by omega) (by omega) (by omega), Nat.add_assoc]
    · rw [if_neg z, if_neg z, if_true, show nI acc + (0 : Int32) = nI acc from nI_add acc 0, ih k acc (by omega) (by omega) (by omega), Nat.zero_add]
theorem howM {ct N O : Nat → Int32} {n : Nat} (hn : n ≤ 8) (h7 : N 89 = nI n) (c : Int32) : ∀ (j a acc : Nat), j ≤ n → j < a → acc + j < 100 → f_X6_outIn_b4 ct N O a c (nI acc) (nI (n - j)) = some (nI (acc + cnt O c n j)) := by
  intro j
  induction j with
  | zero =>
    intro a acc _ ha _
    obtain ⟨k, rfl⟩ : ∃ k, a = k + 1 := ⟨a - 1, by omega⟩
    rw [f_X6_outIn_b4]
    simp only [f_X6_many, Option.bind_some, h7]
    rw [if_pos ((nI_leI (by omega) (by omega)).mpr (by omega))]
    rfl
  | succ j ih =>
    intro a acc hj ha hacc
    obtain ⟨k, rfl⟩ : ∃ k, a = k + 1 := ⟨a - 1, by omega⟩
    have h8 : n - (j + 1) < 8 := by omega
    have e : nI (n - (j + 1)) + (1 : Int32) = nI (n - j) := by rw [nI_1]; congr 1; omega
    rw [f_X6_outIn_b4]
    simp only [f_X6_many, Option.bind_some, h7]
    rw [if_neg (fun z => by have := (nI_leI (by omega) (by omega)).mp z; omega)]
    simp only [if_pos (ix8 h8).1, (ix8 h8).2, f_X6_outIn_b28, e]
    unfold cnt
    by_cases z : O (n - (j + 1)) = c
    · rw [if_pos z, if_pos z, show nI acc + (1 : Int32) = nI (acc + 1) from nI_1 acc, ih k (acc + 1) (by omega) (by omega) (by omega), Nat.add_assoc]
    · rw [if_neg z, if_neg z, show nI acc + (0 : Int32) = nI acc from nI_add acc 0, ih k acc (by omega) (by omega) (by omega), Nat.zero_add]
theorem how_X {cx f O : Nat → Int32} {n : Nat} (hn : n ≤ 8) (h7 : f 7 = nI n) (c : Int32) : f_X5_howManyOutIn c cx f O = some (nI (cnt O c n n)) := by
  obtain ⟨k, hk⟩ := FU_s
  have a := howX (cx := cx) (O := O) hn h7 c n FU 0 (Nat.le_refl _) (by omega) (by omega)
  rw [Nat.sub_self, Nat.zero_add] at a
  exact a
theorem how_M {ct N O : Nat → Int32} {n : Nat} (hn : n ≤ 8) (h7 : N 89 = nI n) (c : Int32) : f_X6_outIn c ct N O = some (nI (cnt O c n n)) := by
  obtain ⟨k, hk⟩ := FU_s
  have a := howM (ct := ct) (O := O) hn h7 c n FU 0 (Nat.le_refl _) (by omega) (by omega)
  rw [Nat.sub_self, Nat.zero_add] at a
  exact a
theorem lonelyL {cx f P K Wt C F G N tl xr mr Ks Z hh z O out : Nat → Int32} {E e : Nat → Int64} {s n : Nat} (h : IRn s n f P K Wt C F G N) (hO : ∀ i, i < n → out i = O i) (w ct wBy wCell wFaces wFell wSign wTurns : Nat → Int32) : ∀ (j a b : Nat) (acc : Int32), j ≤ n → j < a → j < b →
    ∃ u v, f_X5_lonely_b30 cx f C F K G P Ks E Z a w O xr acc (nI (n - j)) = some u ∧ f_X6_lonely_b29 e hh N z b ct out mr tl wBy wCell wFaces wFell wSign wTurns acc (nI (n - j)) = some v ∧ u.1 = v.1 ∧ u.2.2.2 = xr ∧ v.2.2.2.1 = mr ∧ v.2.1 = ct := by
  obtain ⟨q1, q2, q3, q4, q5, q6, q7, q8⟩ := h.1
  intro j
  induction j with
  | zero =>
    intro a b acc _ ha hb
    obtain ⟨k, rfl⟩ : ∃ k, a = k + 1 := ⟨a - 1, by omega⟩
    obtain ⟨k2, rfl⟩ : ∃ k, b = k + 1 := ⟨b - 1, by omega⟩
    rw [f_X5_lonely_b30, f_X6_lonely_b29]
    simp only [f_X6_many, Option.bind_some, q6, q7]
    rw [if_pos ((nI_leI (by omega) (by omega)).mpr (by omega)), if_pos ((nI_leI (by omega) (by omega)).mpr (by omega))]
    exact ⟨_, _, rfl, rfl, rfl, rfl, rfl, rfl⟩
  | succ j ih =>
    intro a b acc hj ha hb
    obtain ⟨k, rfl⟩ : ∃ k, a = k + 1 := ⟨a - 1, by omega⟩
    obtain ⟨k2, rfl⟩ : ∃ k, b = k + 1 := ⟨b - 1, by omega⟩
    have hno : ¬ nI n ≤ nI (n - (j + 1)) := fun z => by have := (nI_leI (by omega) (by omega)).mp z; omega
    have e : nI (n - (j + 1)) + (1 : Int32) = nI (n - j) := by rw [nI_1]; congr 1; omega
    have h8 : n - (j + 1) < 8 := by omega
    rw [f_X5_lonely_b30, f_X6_lonely_b29]
    simp only [f_X6_many, Option.bind_some, q6, q7]
    rw [if_neg hno, if_neg hno]
    simp only [if_pos (ix8 h8).1, (ix8 h8).2, how_X (cx := cx) (O := O) q3 q6, how_M (ct := ct) (O := out) q3 q7, Option.bind_some, f_X5_lonely_b66, f_X6_lonely_b63, e]
    rw [hO _ (by omega), cnt_congr hO n (Nat.le_refl _)]
    by_cases y : nI (cnt O (O (n - (j + 1))) n n) = (1 : Int32)
    · rw [if_pos y, if_pos y]
      exact ih k k2 _ (by omega) (by omega) (by omega)
    · rw [if_neg y, if_neg y, show acc ||| (0 : Int32) = acc from Int32.or_zero]
      exact ih k k2 _ (by omega) (by omega) (by omega)
theorem case_lonely {cx cm f P K Wt C F G N w xr mr Ks Z hh z tl wBy wCell wFaces wFell wSign wTurns O out : Nat → Int32} {E e : Nat → Int64} (h : IRel f P K Wt C F G N) (hr : RRef xr mr) (hsh : ∀ n, N 89 = nI n → n ≤ 8 → RSh Ks Z hh z E e n) (a1 a2 : Int32) :
    ∃ u v, f_X5_lonely a1 a2 cx f C F K G P w O xr Ks E Z = some u ∧ f_X6_lonely a1 a2 cm e hh N out mr z tl wBy wCell wFaces wFell wSign wTurns = some v ∧ u.1 = v.1 ∧ RRef u.2.2.2 v.2.2.2.1 ∧ (∀ j, j ≠ 17 → v.2.1 j = cm j) := by
  obtain ⟨s, n, hn⟩ := h
  obtain ⟨q1, q2, q3, q4, q5, q6, q7, q8⟩ := hn.1
  have hS := hsh n q7 q3
  unfold f_X5_lonely f_X6_lonely
  rcases tell_both (ct := cx) (ct2 := cm) (tl := tl) hS q3 a1 a2 1 (Or.inr rfl) with ⟨code, tl', c1, c2, c3⟩ | ⟨q, m, tl', c1, c2, rfl, rfl, _, c3, c4, c5⟩
  · obtain ⟨u, v, r1, r2, r3, r4, r5⟩ := refT (cx := cx) (cm := cm) c1 hr
    rw [c2, c3]
    simp only [Option.bind_some]
    rw [if_neg r4, if_neg r5, r1, r2]
    exact ⟨_, _, rfl, rfl, rfl, r3, fun _ _ => rfl⟩
  · obtain ⟨k, hk⟩ := FU_s
    rw [c3, c4]
    simp only [Option.bind_some, if_true]
    obtain ⟨u0, v0, b1, b2, b3, b4⟩ := come_both (cx := cx) (cm := cm) hn c1 c2 c5 w O out wBy wCell wFaces wFell wSign wTurns
    rw [if_pos (show (0 : Int32) ≤ 1 by decide), b1, b2]
    simp only [Option.bind_some]
    obtain ⟨u, v, g1, g2, g3, g4, g5, g6⟩ := lonelyL (cx := cx) (tl := tl') (xr := xr) (mr := mr) (Ks := Ks) (Z := Z) (hh := hh) (z := z) (E := E) (e := e) hn (fun i hi => ((b4 i hi).2).trans ((b4 i hi).1).symm) u0.1 v0.1 v0.2.2.1 v0.2.2.2.1 v0.2.2.2.2.1 v0.2.2.2.2.2.1 v0.2.2.2.2.2.2.1 v0.2.2.2.2.2.2.2 n FU FU 0 (Nat.le_refl _) (by omega) (by omega)
    rw [Nat.sub_self] at g1 g2
    exact ⟨u, v, g1, g2, g3, by rw [g4, g5]; exact hr, fun j hj => by rw [g6]; exact b3 j hj⟩
theorem whoL {cx cm f P K Wt C F G N tl xr mr Ks Z hh z O : Nat → Int32} {E e : Nat → Int64} {s n q m : Nat} (h : IRn s n f P K Wt C F G N) (hq : q < 8) (hm : m ≤ 40) (htl : ∀ i, i < m → isSg (E (40 * q + i)) ∧ tl i = (E (40 * q + i)).toInt32) (hO : ∀ i, i < n → O i = outC s P (f 1) (f 2) K C F G tl m i) (c : Int32) (w : Nat → Int32) : ∀ (j a b : Nat) (ct wBy wCell wFaces wFell wSign wTurns : Nat → Int32) (acc : Int32), j ≤ n → j < a → j < b → (∀ i, i ≠ 17 → ct i = cm i) →
    ∃ u v, f_X5_who_b40 cx f C F K G P Ks E Z a w O xr c acc (nI (n - j)) = some u ∧ f_X6_who_b31 e hh N z b ct mr tl wBy wCell wFaces wFell wSign wTurns (nI m) c acc (nI (n - j)) = some v ∧ u.1 = v.1 ∧ u.2.2.2 = xr ∧ v.2.2.1 = mr ∧ (∀ i, i ≠ 17 → v.2.1 i = cm i) := by
  obtain ⟨q1, q2, q3, q4, q5, q6, q7, q8⟩ := h.1
  intro j
  induction j with
  | zero =>
    intro a b ct wBy wCell wFaces wFell wSign wTurns acc _ ha hb hct
    obtain ⟨k, rfl⟩ : ∃ k, a = k + 1 := ⟨a - 1, by omega⟩
    obtain ⟨k2, rfl⟩ : ∃ k, b = k + 1 := ⟨b - 1, by omega⟩
    rw [f_X5_who_b40, f_X6_who_b31]
    simp only [f_X6_many, Option.bind_some, q6, q7]
    rw [if_pos ((nI_leI (by omega) (by omega)).mpr (by omega)), if_pos ((nI_leI (by omega) (by omega)).mpr (by omega))]
    exact ⟨_, _, rfl, rfl, rfl, rfl, rfl, hct⟩
  | succ j ih =>
    intro a b ct wBy wCell wFaces wFell wSign wTurns acc hj ha hb hct
    obtain ⟨k, rfl⟩ : ∃ k, a = k + 1 := ⟨a - 1, by omega⟩
    obtain ⟨k2, rfl⟩ : ∃ k, b = k + 1 := ⟨b - 1, by omega⟩
    have hno : ¬ nI n ≤ nI (n - (j + 1)) := fun z => by have := (nI_leI (by omega) (by omega)).mp z; omega
    obtain ⟨w1, w2, r, kd, t1, t2, t3, t4, t5, t6, t7⟩ := per_both (ct := cx) (cm := ct) (w := w) (wBy := wBy) (wCell := wCell) (wFaces := wFaces) (wFell := wFell) (wSign := wSign) (wTurns := wTurns) h (show n - (j + 1) < n by omega) hq hm htl
    have e : nI (n - (j + 1)) + (1 : Int32) = nI (n - j) := by rw [nI_1]; congr 1; omega
    have h8 : n - (j + 1) < 8 := by omega
    rw [f_X5_who_b40, f_X6_who_b31]
    simp only [f_X6_many, Option.bind_some, q6, q7]
    rw [if_neg hno, if_neg hno, t3]
    simp only [Option.bind_some, if_pos (ix8 h8).1, (ix8 h8).2, f_X5_who_b72, f_X6_who_b67, e]
    rw [hO _ (by omega), t6.1]
    have hct2 : ∀ i, i ≠ 17 → r.1 i = cm i := fun i hi => (t7 i hi).trans (hct i hi)
    have go := fun acc => ih k k2 r.1 r.2.1 r.2.2.1 r.2.2.2.1 r.2.2.2.2.1 r.2.2.2.2.2.1 r.2.2.2.2.2.2 acc (by omega) (by omega) (by omega) hct2
    by_cases y : nI (finS s P (f 1) (f 2) K C F G tl m (n - (j + 1))).1 = c
    · rw [if_pos y, if_pos y]
      exact go _
    · rw [if_neg y, if_neg y, show acc ||| (0 : Int32) = acc from Int32.or_zero]
      exact go _
theorem case_who {cx cm f P K Wt C F G N w xr mr Ks Z hh z tl wBy wCell wFaces wFell wSign wTurns O : Nat → Int32} {E e : Nat → Int64} (h : IRel f P K Wt C F G N) (hr : RRef xr mr) (hsh : ∀ n, N 89 = nI n → n ≤ 8 → RSh Ks Z hh z E e n) (a1 a2 a3 : Int32) :
    ∃ u v, f_X5_who a1 a2 a3 cx f C F K G P w O xr Ks E Z = some u ∧ f_X6_who a1 a2 a3 cm e hh N mr z tl wBy wCell wFaces wFell wSign wTurns = some v ∧ u.1 = v.1 ∧ RRef u.2.2.2 v.2.2.1 ∧ (∀ j, j ≠ 17 → v.2.1 j = cm j) := by
  obtain ⟨s, n, hn⟩ := h
  obtain ⟨q1, q2, q3, q4, q5, q6, q7, q8⟩ := hn.1
  have hS := hsh n q7 q3
  have main : ∀ wl : Int32, isB wl → ∃ u v, ((f_X5_tellingFault a1 a2 wl cx Ks E Z).bind fun v2 => (if v2 = 0 then ((f_X5_allComeOut a1 a2 cx f C F K G P w O E).bind fun v3 => (f_X5_who_b40 cx f C F K G P Ks E Z FU (v3.1) (v3.2) xr a3 (0 : Int32) (0 : Int32))) else ((f_X5_refuse v2 cx xr).bind fun v4 => (some ((v4.1), w, O, (v4.2)))))) = some u ∧ ((f_X6_loadIf wl a1 a2 cm e hh z tl).bind fun v2 => (if 0 ≤ (v2.1) then (f_X6_who_b31 e hh N z FU cm mr (v2.2) wBy wCell wFaces wFell wSign wTurns a2 a3 (0 : Int32) (0 : Int32)) else ((f_X6_refuse (v2.1) cm mr).bind fun v3 => (some ((v3.1), cm, (v3.2), (v2.2), wBy, wCell, wFaces, wFell, wSign, wTurns))))) = some v ∧ u.1 = v.1 ∧ RRef u.2.2.2 v.2.2.1 ∧ (∀ j, j ≠ 17 → v.2.1 j = cm j) := by
    intro wl hwl
    rcases tell_both (ct := cx) (ct2 := cm) (tl := tl) hS q3 a1 a2 wl hwl with ⟨code, tl', c1, c2, c3⟩ | ⟨q, m, tl', c1, c2, rfl, rfl, _, c3, c4, c5⟩
    · obtain ⟨u, v, r1, r2, r3, r4, r5⟩ := refT (cx := cx) (cm := cm) c1 hr
      rw [c2, c3]
      simp only [Option.bind_some]
      rw [if_neg r4, if_neg r5, r1, r2]
      exact ⟨_, _, rfl, rfl, rfl, r3, fun _ _ => rfl⟩
    · obtain ⟨k, hk⟩ := FU_s
      rw [c3, c4]
      simp only [Option.bind_some, if_true]
      obtain ⟨u0, v0, b1, b2, b3, b4⟩ := come_both (cx := cx) (cm := cm) hn c1 c2 c5 w O O wBy wCell wFaces wFell wSign wTurns
      rw [if_pos (show (0 : Int32) ≤ 1 by decide), b1]
      simp only [Option.bind_some]
      obtain ⟨u, v, g1, g2, g3, g4, g5, g6⟩ := whoL (cx := cx) (cm := cm) (xr := xr) (mr := mr) (Ks := Ks) (Z := Z) (hh := hh) (z := z) (e := e) hn c1 c2 c5 (fun i hi => (b4 i hi).1) a3 u0.1 n FU FU cm wBy wCell wFaces wFell wSign wTurns 0 (Nat.le_refl _) (by omega) (by omega) (fun _ _ => rfl)
      rw [Nat.sub_self] at g1 g2
      exact ⟨u, v, g1, g2, g3, by rw [g4, g5]; exact hr, g6⟩
  unfold f_X5_who f_X6_who
  rcases isCell_both (t := cm) q2 q4 q5 a3 with ⟨k, hk70, hk, hka, k1, k2⟩ | ⟨k1, k2⟩
  · rw [k1, k2]
    simp only [Option.bind_some]
    exact main 1 (Or.inr rfl)
  · rw [k1, k2]
    simp only [Option.bind_some]
    exact main 0 (Or.inl rfl)
