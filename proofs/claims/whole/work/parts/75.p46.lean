-- ===== reach: the cells as bits =====
noncomputable def bset (m : Int64) (j : Nat) : Bool := m.toBitVec.getLsbD j
theorem sh_fin : ∀ j, j < 49 → (((nI j).toInt64 &&& 63).toBitVec.smod 64).toNat = j := by decide +kernel
theorem bset_get {m : Int64} {j : Nat} (h : j < 49) : (((m >>> ((nI j).toInt64 &&& 63)) &&& 1).toInt32) = if bset m j = true then 1 else 0 := by
  have e : (m >>> ((nI j).toInt64 &&& 63)) &&& 1 = Int64.ofBitVec (BitVec.setWidth 64 (BitVec.ofBool (bset m j))) := by
    apply Int64.toBitVec_inj.mp
    rw [Int64.toBitVec_and, Int64.toBitVec_shiftRight, show (1 : Int64).toBitVec = 1#64 from rfl, BitVec.and_one_eq_setWidth_ofBool_getLsbD]
    show _ = BitVec.setWidth 64 (BitVec.ofBool (bset m j))
    congr 2
    rw [BitVec.sshiftRight', sh_fin j h, BitVec.getLsbD_sshiftRight]
    unfold bset
    simp [show j < 64 by omega]
  rw [e]
  cases bset m j <;> decide
theorem bset_or {m : Int64} {x j : Nat} (hx : x < 49) (hj : j < 49) : bset (m ||| (1 <<< ((nI x).toInt64 &&& 63))) j = (bset m j || decide (j = x)) := by
  unfold bset
  rw [Int64.toBitVec_or, BitVec.getLsbD_or, Int64.toBitVec_shiftLeft, BitVec.shiftLeft_eq', sh_fin x hx, BitVec.getLsbD_shiftLeft, show (1 : Int64).toBitVec = 1#64 from rfl, BitVec.getLsbD_one]
  congr 1
  by_cases c : j = x
  · subst c
    simp
    omega
  · by_cases c2 : j < x
    · simp [c, c2]
    · have : ¬ j - x = 0 := by omega
      simp [c, this]
theorem bset_0 {j : Nat} : bset 0 j = false := by
  unfold bset
  rw [show (0 : Int64).toBitVec = 0#64 from rfl, BitVec.getLsbD_zero]
noncomputable def cn49 (b : Nat → Bool) : Nat → Nat
  | 0 => 0
  | k + 1 => (if b (49 - (k + 1)) = true then 1 else 0) + cn49 b k
theorem cn49_le {b : Nat → Bool} : ∀ k, cn49 b k ≤ k := by
  intro k
  induction k with
  | zero => exact Nat.le_refl _
  | succ k ih =>
    unfold cn49
    by_cases c : b (49 - (k + 1)) = true
    · rw [if_pos c]; omega
    · rw [if_neg c]; omega
theorem cn49_congr {b d : Nat → Bool} (h : ∀ j, j < 49 → b j = d j) : ∀ k, k ≤ 49 → cn49 b k = cn49 d k := by
  intro k
  induction k with
  | zero => intro _; rfl
  | succ k ih =>
    intro hk
    unfold cn49
    rw [h _ (by omega), ih (by omega)]
theorem cn49_new {b d : Nat → Bool} {x : Nat} (hx : x < 49) (hb : b x = false) (h : ∀ j, j < 49 → d j = (b j || decide (j = x))) : ∀ k, k ≤ 49 → cn49 d k = cn49 b k + (if 49 - k ≤ x then 1 else 0) := by
  intro k
  induction k with
  | zero => intro _; rw [if_neg (by omega)]; rfl
  | succ k ih =>
    intro hk
    unfold cn49
    rw [ih (by omega), h _ (by omega)]
    by_cases c : 49 - (k + 1) = x
    · rw [c, hb]
      simp
      rw [if_neg (by omega)]
      omega
    · have e : (b (49 - (k + 1)) || decide (49 - (k + 1) = x)) = b (49 - (k + 1)) := by rw [decide_eq_false c, Bool.or_false]
      rw [e]
      by_cases c2 : 49 - k ≤ x
      · rw [if_pos c2, if_pos (show 49 - (k + 1) ≤ x by omega)]; omega
      · rw [if_neg c2, if_neg (show ¬ 49 - (k + 1) ≤ x by omega)]; omega
theorem countL {N mr tl ct wBy wCell wFaces wFell wSign wTurns : Nat → Int32} {m : Int64} : ∀ (k a acc : Nat), k ≤ 49 → k < a → f_X6_reach_b121 N a ct mr tl wBy wCell wFaces wFell wSign wTurns m (nI acc) (nI (49 - k)) = some (nI (acc + cn49 (bset m) k), ct, mr, tl, wBy, wCell, wFaces, wFell, wSign, wTurns) := by
  intro k
  induction k with
  | zero =>
    intro a acc _ ha
    obtain ⟨a, rfl⟩ : ∃ k, a = k + 1 := ⟨a - 1, by omega⟩
    rw [f_X6_reach_b121, if_pos (by decide)]
    rfl
  | succ k ih =>
    intro a acc hk ha
    obtain ⟨a, rfl⟩ : ∃ k, a = k + 1 := ⟨a - 1, by omega⟩
    have e : nI (49 - (k + 1)) + (1 : Int32) = nI (49 - k) := by rw [nI_1]; congr 1; omega
    rw [f_X6_reach_b121, if_neg (fun z => by have := (nI_leI (a := 49) (by omega) (by omega)).mp z; omega), bset_get (show 49 - (k + 1) < 49 by omega), e]
    unfold cn49
    by_cases c : bset m (49 - (k + 1)) = true
    · rw [if_pos c, if_pos c, nI_1, ih a _ (by omega) (by omega), Nat.add_assoc]
    · rw [if_neg c, if_neg c, show nI acc + (0 : Int32) = nI acc from nI_add acc 0, ih a _ (by omega) (by omega), Nat.zero_add]
noncomputable def ix (c : Nat) : Nat := 7 * (c / 10) + c % 10
theorem ix_pt {c : Nat} : pt c = 40 + ix c := by unfold pt ix; omega
theorem ix_lt {s c : Nat} (hs : s ≤ 7) (h : okc s c) : ix c < 49 := by
  have h1 := h.1
  have h2 := h.2
  unfold ix
  omega
theorem ix_inj {s c d : Nat} (hs : s ≤ 7) (h : okc s c) (g : okc s d) (he : ix c = ix d) : c = d := by
  have h1 := h.1
  have h2 := h.2
  have h3 := g.1
  have h4 := g.2
  unfold ix at he
  omega
noncomputable def RR (s : Nat) (rr : Nat → Int32) (m : Int64) : Prop := ∀ c, okc s c → rr c = if bset m (ix c) = true then 1 else 0
noncomputable abbrev K35 : Type := (Nat → Int32) → (Nat → Int32) → (Nat → Int32) → (Nat → Int32) → (Nat → Int32) → (Nat → Int32) → (Nat → Int32) → (Nat → Int32) → (Nat → Int32) → Int32 → Int32 → Int64 → Int32 → Int32 → Option (Int32 × (Nat → Int32) × (Nat → Int32) × (Nat → Int32) × (Nat → Int32) × (Nat → Int32) × (Nat → Int32) × (Nat → Int32) × (Nat → Int32) × (Nat → Int32))
theorem reachIn {cm f P K Wt C F G N mr : Nat → Int32} {s n p kd c0 f0 L lim : Nat} {l2 : Int32} (h : IRn s n f P K Wt C F G N) (hp : p < n) (hkd : kd ≤ 5) (hK : K p = nI kd) (hC : C p = nI c0) (hF : F p = nI f0) (hok : okw s (x0S c0 f0)) (hL : L ≤ 6) (hlim : off (L + 1) ≤ lim) (hlim2 : lim ≤ 1093) (k35 : K35) : ∀ (j a b : Nat) (w st rr ct tl wBy wCell wFaces wFell wSign wTurns : Nat → Int32) (m : Int64), j ≤ p3 L → j < b → GI w kd (f 1) (G p) (x0S c0 f0) (off L + (p3 L - j)) → STI st (tre s P (f 1) (f 2) (G p) kd (x0S c0 f0)) (off L + (p3 L - j)) → RR s rr m → (∀ i, i ≠ 17 → ct i = cm i) →
    ∃ (w' st' rr' ct' tl' b1 b2 b3 b4 b5 b6 : Nat → Int32) (m' : Int64), f_X2_countReached_b55 f C F K G P (a + j) rr w st (nI lim) (nI (cn49 (bset m) 49)) (nI (off L + (p3 L - j))) = f_X2_countReached_b55 f C F K G P a rr' w' st' (nI lim) (nI (cn49 (bset m') 49)) (nI (off (L + 1))) ∧ f_X6_reach_b44 N k35 b ct mr tl wBy wCell wFaces wFell wSign wTurns (nI p) l2 m (nI (p3 L)) (nI L) (nI (p3 L - j)) = k35 ct' mr tl' b1 b2 b3 b4 b5 b6 (nI p) l2 m' (nI (p3 (L + 1))) (nI (L + 1)) ∧ GI w' kd (f 1) (G p) (x0S c0 f0) (off (L + 1)) ∧ STI st' (tre s P (f 1) (f 2) (G p) kd (x0S c0 f0)) (off (L + 1)) ∧ RR s rr' m' ∧ (∀ i, i ≠ 17 → ct' i = cm i) := by
  obtain ⟨q1, q2, q3, q4, q5, q6, q7, ⟨q8, q8b⟩, q9⟩ := h.1
  have hg : isB (G p) := (h.2.2.1 p hp).2.2.2.2
  have h7 := off_7 hL
  intro j
  induction j with
  | zero =>
    intro a b w st rr ct tl wBy wCell wFaces wFell wSign wTurns m _ hb hw1 hs1 hrr hct
    obtain ⟨k, rfl⟩ : ∃ k, b = k + 1 := ⟨b - 1, by omega⟩
    rw [Nat.sub_zero] at hw1 hs1 ⊢
    rw [← off_p3] at hw1 hs1 ⊢
    have e3 : nI (p3 L) * (3 : Int32) = nI (p3 (L + 1)) := by
      rw [show (3 : Int32) = nI 3 from rfl, pk_mul]
      congr 1
      exact Nat.mul_comm _ _
    refine ⟨w, st, rr, ct, tl, wBy, wCell, wFaces, wFell, wSign, wTurns, m, rfl, ?_, hw1, hs1, hrr, hct⟩
    rw [f_X6_reach_b44, if_pos (Int32.le_refl _), e3, nI_1]
  | succ j ih =>
    intro a b w st rr ct tl wBy wCell wFaces wFell wSign wTurns m hj hb hw1 hs1 hrr hct
    obtain ⟨k, rfl⟩ : ∃ k, b = k + 1 := ⟨b - 1, by omega⟩
    obtain ⟨r, hr⟩ : ∃ r, r = p3 L - (j + 1) := ⟨_, rfl⟩
    have hr1 : p3 L - j = r + 1 := by omega
    have hrL : r < p3 L := by omega
    have hofl := off_p3 L
    rw [← hr] at hw1 hs1 ⊢
    rw [hr1] at ih
    obtain ⟨w', v, g1, g2, g3, g4⟩ := grow_eq h hkd q8b hg hok (fun z => absurd rfl z) hL hrL hw1 hs1
    have t1 := tre_ok (P := P) (left := f 1) (old := f 2) (pl := G p) (kd := kd) q2 hok L r
    have hi : off L + r < 1093 := by omega
    have e1 : nI (off L + r) + (1 : Int32) = nI (off L + (r + 1)) := by rw [nI_1]; rfl
    have e2 : nI r + (1 : Int32) = nI (r + 1) := nI_1 r
    obtain ⟨tl', s1, s2⟩ := spell_eq (ct := ct) (tl := tl) hL (show r < 2147483648 by omega)
    obtain ⟨R, x, b1, b2, b3, b4⟩ := go_tree (ct := ct) (wBy := wBy) (wCell := wCell) (wFaces := wFaces) (wFell := wFell) (wSign := wSign) (wTurns := wTurns) (N2 := N) (lf := f 1) h hp hkd hK hC hF hok hL s2 (fun _ _ => rfl) q8
    have hct1 : ∀ i, i ≠ 17 → R.1 i = cm i := fun i hi => (b4 i hi).trans (hct i hi)
    have hc1 := t1.1.1
    have hc2 := t1.1.2
    rw [show a + (j + 1) = (a + j) + 1 from rfl, f_X2_countReached_b55, if_neg (fun z => by have := (nI_leI (by omega) (by omega)).mp z; omega), g1, ob]
    simp only [if_pos (inb_nI hi (show 1093 ≤ 2147483648 by decide)), nI_cl (show off L + r < 2147483648 by omega), upd_eq, f_X2_countReached_b118, e1]
    rw [cellOf_eq q2 g4 t1, ob, isWithin_eq, ob]
    have hno : ¬ nI (p3 L) ≤ nI r := fun z => by have := (nI_leI (by omega) (by omega)).mp z; omega
    rw [f_X6_reach_b44, if_neg hno, s1, ob, b1, ob]
    simp only [f_X6_reach_b95, e2]
    rw [b2.2.2.2.1, b2.1, b3.1]
    by_cases q : (tre s P (f 1) (f 2) (G p) kd (x0S c0 f0) L r).2.2.2.2.2 = -1
    · have hcl : (tre s P (f 1) (f 2) (G p) kd (x0S c0 f0) L r).1 < 70 := by omega
      have hix := ix_lt q2 t1.1
      have hpt : nI (pt (tre s P (f 1) (f 2) (G p) kd (x0S c0 f0) L r).1) - 40 = nI (ix (tre s P (f 1) (f 2) (G p) kd (x0S c0 f0) L r).1) := by
        rw [ix_pt]
        exact (pk_sub (show 40 ≤ 40 + ix (tre s P (f 1) (f 2) (G p) kd (x0S c0 f0) L r).1 by omega)).trans (by congr 1; omega)
      rw [if_pos q, if_pos (b3.2.2.2.2.2.mpr q), if_pos (show (0 : Int32) ≤ nI (tre s P (f 1) (f 2) (G p) kd (x0S c0 f0) L r).1 ∧ nI (tre s P (f 1) (f 2) (G p) kd (x0S c0 f0) L r).1 ≤ 69 from ⟨nI_pos' (by omega), (nI_leI (b := 69) (by omega) (by omega)).mpr (by omega)⟩), if_neg one_ne0]
      simp only [if_pos (inb_nI hcl (show 70 ≤ 2147483648 by decide)), nI_cl (show (tre s P (f 1) (f 2) (G p) kd (x0S c0 f0) L r).1 < 2147483648 by omega)]
      rw [pondAt_eq (by omega), ob, hpt, hrr _ t1.1]
      have hor : ∀ j, j < 49 → bset (m ||| (1 <<< ((nI (ix (tre s P (f 1) (f 2) (G p) kd (x0S c0 f0) L r).1)).toInt64 &&& 63))) j = (bset m j || decide (j = ix (tre s P (f 1) (f 2) (G p) kd (x0S c0 f0) L r).1)) := fun j hj => bset_or hix hj
      by_cases d : bset m (ix (tre s P (f 1) (f 2) (G p) kd (x0S c0 f0) L r).1) = true
      · rw [if_pos d, if_neg one_ne0]
        have hsame : ∀ j, j < 49 → bset m j = bset (m ||| (1 <<< ((nI (ix (tre s P (f 1) (f 2) (G p) kd (x0S c0 f0) L r).1)).toInt64 &&& 63))) j := fun j hj => by
          rw [hor j hj]
          by_cases c : j = ix (tre s P (f 1) (f 2) (G p) kd (x0S c0 f0) L r).1
          · rw [c, d]; rfl
          · simp [c]
        rw [cn49_congr hsame 49 (Nat.le_refl _)]
        exact ih a k w' _ rr _ _ _ _ _ _ _ _ _ (by omega) (by omega) g2 g3 (fun c hc => by rw [hrr c hc, hsame _ (ix_lt q2 hc)]) hct1
      · have d0 : bset m (ix (tre s P (f 1) (f 2) (G p) kd (x0S c0 f0) L r).1) = false := by
          cases z : bset m (ix (tre s P (f 1) (f 2) (G p) kd (x0S c0 f0) L r).1)
          · rfl
          · exact absurd z d
        rw [if_neg d, if_pos rfl, nI_1, show vp_nar .boolean 1 = 1 from nar_B (Or.inr rfl)]
        have hnew := cn49_new hix d0 hor 49 (Nat.le_refl _)
        rw [if_pos (by omega)] at hnew
        rw [← hnew]
        refine ih a k w' _ _ _ _ _ _ _ _ _ _ _ (by omega) (by omega) g2 g3 (fun c hc => ?_) hct1
        rw [hor _ (ix_lt q2 hc)]
        by_cases c9 : c = (tre s P (f 1) (f 2) (G p) kd (x0S c0 f0) L r).1
        · rw [c9, upd_eq]
          simp
        · have : ¬ ix c = ix (tre s P (f 1) (f 2) (G p) kd (x0S c0 f0) L r).1 := fun z => c9 (ix_inj q2 hc t1.1 z)
          rw [upd_ne c9, hrr c hc]
          simp [this]
    · rw [if_neg q, if_neg (fun z => q (b3.2.2.2.2.2.mp z)), if_neg (show ¬ ((0 : Int32) ≤ -1 ∧ (-1 : Int32) ≤ 69) by decide), if_pos rfl, Int64.or_zero]
      exact ih a k w' _ rr _ _ _ _ _ _ _ _ _ (by omega) (by omega) g2 g3 hrr hct1
