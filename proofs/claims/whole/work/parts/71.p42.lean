-- ===== safe, reach: all tellings, as a tree =====
noncomputable def p3 : Nat → Nat
  | 0 => 1
  | L + 1 => 3 * p3 L
noncomputable def off : Nat → Nat
  | 0 => 0
  | L + 1 => 3 * off L + 1
theorem off_p3 : ∀ L, off (L + 1) = off L + p3 L := by
  intro L
  induction L with
  | zero => rfl
  | succ L ih =>
    have h1 : off (L + 1 + 1) = 3 * off (L + 1) + 1 := rfl
    have h2 : off (L + 1) = 3 * off L + 1 := rfl
    have h3 : p3 (L + 1) = 3 * p3 L := rfl
    omega
theorem p3_pos : ∀ L, 1 ≤ p3 L := by
  intro L
  induction L with
  | zero => exact Nat.le_refl _
  | succ L ih =>
    have h3 : p3 (L + 1) = 3 * p3 L := rfl
    omega
theorem off_mono {L M : Nat} (h : L ≤ M) : off L ≤ off M := by
  induction M with
  | zero =>
    have : L = 0 := by omega
    rw [this]
    exact Nat.le_refl _
  | succ M ih =>
    by_cases c : L = M + 1
    · rw [c]; exact Nat.le_refl _
    · have := ih (by omega)
      have h1 := off_p3 M
      omega
theorem off_7 {L : Nat} (h : L ≤ 6) : off L + p3 L ≤ 1093 ∧ p3 L ≤ 729 ∧ off L ≤ 364 := by
  rcases (show L = 0 ∨ L = 1 ∨ L = 2 ∨ L = 3 ∨ L = 4 ∨ L = 5 ∨ L = 6 by omega) with rfl | rfl | rfl | rfl | rfl | rfl | rfl <;> decide
theorem off_uniq {L r M q : Nat} (hr : r < p3 L) (hq : q < p3 M) (h : off L + r = off M + q) : L = M ∧ r = q := by
  rcases Nat.lt_trichotomy L M with c | c | c
  · have h1 := off_mono (show L + 1 ≤ M by omega)
    have h2 := off_p3 L
    omega
  · subst c
    exact ⟨rfl, by omega⟩
  · have h1 := off_mono (show M + 1 ≤ L by omega)
    have h2 := off_p3 M
    omega
theorem p3_div {L r : Nat} (h : r < p3 (L + 1)) : r / 3 < p3 L := by
  have h3 : p3 (L + 1) = 3 * p3 L := rfl
  omega
theorem par_eq {L r : Nat} : (off (L + 1) + r - 1) / 3 = off L + r / 3 ∧ (off (L + 1) + r - 1) % 3 = r % 3 ∧ 1 ≤ off (L + 1) + r := by
  have h2 : off (L + 1) = 3 * off L + 1 := rfl
  omega
/-- the j-th sign of the r-th telling of L signs -/
noncomputable def dg : Nat → Nat → Nat → Int32
  | 0, _, _ => 0
  | L + 1, r, j => if j = L then nI (r % 3) else dg L (r / 3) j
theorem nI3 (r : Nat) : nI (r % 3) = 0 ∨ nI (r % 3) = 1 ∨ nI (r % 3) = 2 := by
  rcases (show r % 3 = 0 ∨ r % 3 = 1 ∨ r % 3 = 2 by omega) with h | h | h
  · rw [h]; exact Or.inl rfl
  · rw [h]; exact Or.inr (Or.inl rfl)
  · rw [h]; exact Or.inr (Or.inr rfl)
theorem dg_is4 : ∀ L r j, is4 (dg L r j) := by
  intro L
  induction L with
  | zero => intro r j; exact Or.inl rfl
  | succ L ih =>
    intro r j
    unfold dg
    by_cases c : j = L
    · rw [if_pos c]
      rcases nI3 r with h | h | h
      · exact Or.inl h
      · exact Or.inr (Or.inl h)
      · exact Or.inr (Or.inr (Or.inl h))
    · rw [if_neg c]; exact ih _ _
theorem spellL {ct : Nat → Int32} : ∀ (L a r : Nat) (tl : Nat → Int32), L ≤ 6 → L < a → r < 2147483648 → ∃ tl', f_X6_spell_b7 ct a tl (nI r) (nI L - 1) = some tl' ∧ (∀ j, j < L → tl' j = dg L r j) ∧ (∀ j, L ≤ j → tl' j = tl j) := by
  intro L
  induction L with
  | zero =>
    intro a r tl _ ha _
    obtain ⟨k, rfl⟩ : ∃ k, a = k + 1 := ⟨a - 1, by omega⟩
    rw [f_X6_spell_b7, if_pos (by decide)]
    exact ⟨tl, rfl, fun j hj => by omega, fun j _ => rfl⟩
  | succ L ih =>
    intro a r tl hL ha hr
    obtain ⟨k, rfl⟩ : ∃ k, a = k + 1 := ⟨a - 1, by omega⟩
    have e1 : nI (L + 1) - 1 = nI L := nI_pred L
    have e2 : nI L + (-1 : Int32) = nI L - 1 := by grind
    have e3 : nI r - nI r / (3 : Int32) * (3 : Int32) = nI (r % 3) := pk_rem (d := 3) hr (by decide) (by decide)
    have e4 : nI r / (3 : Int32) = nI (r / 3) := pk_div (d := 3) hr (by decide) (by decide)
    rw [f_X6_spell_b7, e1, if_neg (nI_pos (by omega)), if_pos (inb_nI (show L < 40 by omega) (by decide)), nI_cl (by omega), e2, e3, e4]
    obtain ⟨tl', r1, r2, r3⟩ := ih k (r / 3) (upd tl L (nI (r % 3))) (by omega) (by omega) (by omega)
    refine ⟨tl', r1, fun j hj => ?_, fun j hj => ?_⟩
    · unfold dg
      by_cases c : j = L
      · rw [if_pos c, c, r3 L (Nat.le_refl _), upd_eq]
      · rw [if_neg c, r2 j (by omega)]
    · rw [r3 j (by omega), upd_ne (by omega)]
theorem spell_eq {ct tl : Nat → Int32} {L r : Nat} (hL : L ≤ 6) (hr : r < 2147483648) : ∃ tl', f_X6_spell (nI r) (nI L) ct tl = some tl' ∧ (∀ j, j < L → tl' j = dg L r j) := by
  obtain ⟨k, hk⟩ := FU_s
  obtain ⟨tl', r1, r2, r3⟩ := spellL (ct := ct) L FU r tl hL (by omega) hr
  exact ⟨tl', r1, r2⟩
theorem runS_snoc {s : Nat} {P : Nat → Int32} {left old pl : Int32} {kd b : Nat} {g : Nat → Int32} : ∀ (j i : Nat) (x : WS), runS s P left old pl kd g b i (j + 1) x = stepS s P left old pl kd (runS s P left old pl kd g b i j x) (g (i + j)) (nI (b + (i + j))) := by
  intro j
  induction j with
  | zero => intro i x; rfl
  | succ j ih =>
    intro i x
    show runS s P left old pl kd g b (i + 1) (j + 1) (stepS s P left old pl kd x (g i) (nI (b + i))) = stepS s P left old pl kd (runS s P left old pl kd g b (i + 1) j (stepS s P left old pl kd x (g i) (nI (b + i)))) (g (i + (j + 1))) (nI (b + (i + (j + 1))))
    rw [ih, show i + 1 + j = i + (j + 1) by omega]
/-- where one is behind the r-th telling of L signs -/
noncomputable def tre (s : Nat) (P : Nat → Int32) (left old pl : Int32) (kd : Nat) (x0 : WS) : Nat → Nat → WS
  | 0, _ => x0
  | L + 1, r => stepS s P left old pl kd (tre s P left old pl kd x0 L (r / 3)) (nI (r % 3)) 0
theorem run_tree {s : Nat} {P : Nat → Int32} {left old pl : Int32} {kd : Nat} {x0 : WS} : ∀ (L r : Nat) (g : Nat → Int32), L ≤ 6 → (∀ j, j < L → g j = dg L r j) → SimW (runS s P left old pl kd g 0 0 L x0) (tre s P left old pl kd x0 L r) := by
  intro L
  induction L with
  | zero => intro r g _ _; exact SimW.refl _
  | succ L ih =>
    intro r g hL hg
    rw [runS_snoc, Nat.zero_add]
    have h1 := ih (r / 3) g (by omega) (fun j hj => by
      rw [hg j (by omega)]
      show (if j = L then nI (r % 3) else dg L (r / 3) j) = _
      rw [if_neg (by omega)])
    have h2 : g L = nI (r % 3) := by
      rw [hg L (by omega)]
      show (if L = L then nI (r % 3) else dg L (r / 3) L) = _
      rw [if_pos rfl]
    rw [h2]
    exact stepS_sim h1 (nI_ne1 (by omega)) (by decide)
theorem tre_ok {s : Nat} {P : Nat → Int32} {left old pl : Int32} {kd : Nat} {x0 : WS} (hs : s ≤ 7) (h : okw s x0) : ∀ L r, okw s (tre s P left old pl kd x0 L r) := by
  intro L
  induction L with
  | zero => intro r; exact h
  | succ L ih => intro r; exact stepS_ok hs (ih _)
noncomputable def okB (x : WS) : Prop := x.2.2.1 ≠ 0 → isB x.2.2.2.2.1
theorem goes_B {s : Nat} {P : Nat → Int32} {left old pl sg b sign : Int32} {kd c t : Nat} (h1 : isB left) (h2 : isB old) (h3 : isB pl) (hb : t ≠ 0 → isB b) : isB (goesS s P left old pl kd c t sg b sign) := by
  have m : ∀ x : Int32, isB x → isB (1 - x) := fun x hx => flip1B hx
  unfold goesS
  by_cases c0 : kd = 0
  · rw [if_pos c0]; exact h1
  · rw [if_neg c0]
    by_cases c1 : kd = 1
    · rw [if_pos c1]; exact h2
    · rw [if_neg c1]
      by_cases c2 : kd = 2
      · rw [if_pos c2]
        by_cases d : t % 2 = 0
        · rw [if_pos d]; exact h1
        · rw [if_neg d]; exact m _ h1
      · rw [if_neg c2]
        by_cases c3 : kd = 3
        · rw [if_pos c3]; exact h3
        · rw [if_neg c3]
          by_cases c4 : kd = 4
          · rw [if_pos c4]
            by_cases d : pbf s P c 4 = true
            · rw [if_pos d]; exact m _ h1
            · rw [if_neg d]; exact h1
          · rw [if_neg c4]
            by_cases d : t = 0
            · rw [if_pos d]; exact h1
            · rw [if_neg d]
              by_cases d2 : sg = sign
              · rw [if_pos d2]; exact m _ (hb d)
              · rw [if_neg d2]; exact hb d
theorem stepS_B {s : Nat} {P : Nat → Int32} {left old pl : Int32} {kd : Nat} {x : WS} {sign k : Int32} (h1 : isB left) (h2 : isB old) (h3 : isB pl) (h : okB x) : okB (stepS s P left old pl kd x sign k) := by
  unfold stepS
  by_cases q : x.2.2.2.2.2 = -1
  · rw [if_pos q]
    by_cases q0 : sign = 0
    · rw [if_pos q0]
      cases nxt s x.1 x.2.1 with
      | none => exact h
      | some c' => exact h
    · rw [if_neg q0]
      by_cases q3 : sign = 3
      · rw [if_pos q3]; exact h
      · rw [if_neg q3]; exact fun _ => goes_B h1 h2 h3 h
  · rw [if_neg q]; exact h
theorem tre_B {s : Nat} {P : Nat → Int32} {left old pl : Int32} {kd : Nat} {x0 : WS} (h1 : isB left) (h2 : isB old) (h3 : isB pl) (h : okB x0) : ∀ L r, okB (tre s P left old pl kd x0 L r) := by
  intro L
  induction L with
  | zero => intro r; exact h
  | succ L ih => intro r; exact stepS_B h1 h2 h3 (ih _)
-- ===== a state as a number =====
noncomputable def stw (c f t b g : Nat) : Int32 := nI (c + 128 * f + 512 * (t + 2 * b + 4 * g))
noncomputable def stB (c f t b g : Nat) : Bool := decide (((nI c ||| (nI f <<< ((7 : Int32) &&& 31))) ||| (((nI t ||| (nI b <<< ((1 : Int32) &&& 31))) ||| (nI g <<< ((2 : Int32) &&& 31))) <<< ((9 : Int32) &&& 31))) = stw c f t b g) && (decide (stw c f t b g &&& 127 = nI c) && (decide ((stw c f t b g >>> ((7 : Int32) &&& 31)) &&& 3 = nI f) && (decide ((stw c f t b g >>> ((9 : Int32) &&& 31)) &&& 1 = nI t) && (decide ((stw c f t b g >>> ((10 : Int32) &&& 31)) &&& 1 = nI b) && decide ((stw c f t b g >>> ((11 : Int32) &&& 31)) &&& 3 = nI g)))))
theorem stB_all : ((List.range 70).all fun c => (List.range 4).all fun f => (List.range 2).all fun t => (List.range 2).all fun b => (List.range 3).all fun g => stB c f t b g) = true := by decide +kernel
theorem st_fin {c f t b g : Nat} (h1 : c < 70) (h2 : f < 4) (h3 : t < 2) (h4 : b < 2) (h5 : g < 3) : ((nI c ||| (nI f <<< ((7 : Int32) &&& 31))) ||| (((nI t ||| (nI b <<< ((1 : Int32) &&& 31))) ||| (nI g <<< ((2 : Int32) &&& 31))) <<< ((9 : Int32) &&& 31))) = stw c f t b g ∧ stw c f t b g &&& 127 = nI c ∧ (stw c f t b g >>> ((7 : Int32) &&& 31)) &&& 3 = nI f ∧ (stw c f t b g >>> ((9 : Int32) &&& 31)) &&& 1 = nI t ∧ (stw c f t b g >>> ((10 : Int32) &&& 31)) &&& 1 = nI b ∧ (stw c f t b g >>> ((11 : Int32) &&& 31)) &&& 3 = nI g ∧ ¬ stw c f t b g = -1 := by
  have a := List.all_eq_true.mp stB_all c (List.mem_range.mpr h1)
  have a := List.all_eq_true.mp a f (List.mem_range.mpr h2)
  have a := List.all_eq_true.mp a t (List.mem_range.mpr h3)
  have a := List.all_eq_true.mp a b (List.mem_range.mpr h4)
  have a := List.all_eq_true.mp a g (List.mem_range.mpr h5)
  unfold stB at a
  rw [Bool.and_eq_true, Bool.and_eq_true, Bool.and_eq_true, Bool.and_eq_true, Bool.and_eq_true] at a
  exact ⟨of_decide_eq_true a.1, of_decide_eq_true a.2.1, of_decide_eq_true a.2.2.1, of_decide_eq_true a.2.2.2.1, of_decide_eq_true a.2.2.2.2.1, of_decide_eq_true a.2.2.2.2.2, nI_ne1 (by omega)⟩
noncomputable def SVr (v : Int32) (x : WS) : Prop := (¬ x.2.2.2.2.2 = -1 ∧ v = -1) ∨ (x.2.2.2.2.2 = -1 ∧ ∃ b g : Nat, b < 2 ∧ g < 3 ∧ v = stw x.1 x.2.1 (x.2.2.1 % 2) b g ∧ (x.2.2.1 = 0 → g = 0) ∧ (x.2.2.1 ≠ 0 → nI g = x.2.2.2.1 ∧ nI b = x.2.2.2.2.1 ∧ (x.2.2.2.1 = 1 ∨ x.2.2.2.1 = 2)))
theorem SVr.sim {v : Int32} {x y : WS} (h : SVr v x) (hs : SimW x y) : SVr v y := by
  obtain ⟨x1, x2, x3, x4, x5, x6⟩ := x
  obtain ⟨y1, y2, y3, y4, y5, y6⟩ := y
  obtain ⟨h1, h2, h3, h4, h5, h6⟩ := hs
  dsimp only at h1 h2 h3 h4 h5 h6
  subst h1 h2 h3 h4 h5
  rcases h with ⟨a, b⟩ | ⟨a, b⟩
  · exact Or.inl ⟨fun z => a (h6.mpr z), b⟩
  · exact Or.inr ⟨h6.mp a, b⟩
theorem isB_n {x : Int32} (h : isB x) : ∃ b : Nat, b < 2 ∧ x = nI b := by
  rcases h with rfl | rfl
  · exact ⟨0, by decide, rfl⟩
  · exact ⟨1, by decide, rfl⟩
theorem state_eq {w : Nat → Int32} {s kd : Nat} {left pl k : Int32} {x : WS} (hs : s ≤ 7) (hw : WXs w kd left pl x k) (hok : okw s x) (hB : isB (w 10)) : ∃ v, f_X4_state w = some v ∧ SVr v x := by
  obtain ⟨w1, w2, w3, w4, w5, w6, w7, w8, w9, w10⟩ := hw
  have hc := hok.1
  have h1 := hc.1
  have h2 := hc.2
  unfold f_X4_state
  rw [isFallen_eq, w7, ob]
  by_cases q : x.2.2.2.2.2 = -1
  · obtain ⟨b, hb, hb2⟩ := isB_n hB
    have hg : ∃ g : Nat, g < 3 ∧ w 9 = nI g ∧ (x.2.2.1 = 0 → g = 0) ∧ (x.2.2.1 ≠ 0 → nI g = x.2.2.2.1 ∧ nI b = x.2.2.2.2.1 ∧ (x.2.2.2.1 = 1 ∨ x.2.2.2.1 = 2)) := by
      by_cases z : x.2.2.1 = 0
      · exact ⟨0, by decide, w9 z, fun _ => rfl, fun y => absurd z y⟩
      · obtain ⟨y1, y2, y3⟩ := w10 z
        rcases y3 with y | y
        · exact ⟨1, by decide, y1.trans y, fun y => absurd y z, fun _ => ⟨y.symm, hb2.symm.trans y2, Or.inl y⟩⟩
        · exact ⟨2, by decide, y1.trans y, fun y => absurd y z, fun _ => ⟨y.symm, hb2.symm.trans y2, Or.inr y⟩⟩
    obtain ⟨g, hg1, hg2, hg3, hg4⟩ := hg
    have hf := st_fin (c := x.1) (f := x.2.1) (t := x.2.2.1 % 2) (b := b) (g := g) (by omega) hok.2 (by omega) hb hg1
    rw [if_pos q, if_pos rfl, asNumber_eq, ob, w4, w5, w8, hb2, hg2]
    have e8 : (if (if x.2.2.1 % 2 = 0 then (0 : Int32) else 1) = 0 then (0 : Int32) else 1) = nI (x.2.2.1 % 2) := by
      rcases (show x.2.2.1 % 2 = 0 ∨ x.2.2.1 % 2 = 1 by omega) with z | z
      · rw [z]; rfl
      · rw [z]; rfl
    rw [e8, hf.1]
    exact ⟨_, rfl, Or.inr ⟨q, b, g, hb, hg1, rfl, hg3, hg4⟩⟩
  · rw [if_neg q, if_neg one_ne0]
    exact ⟨_, rfl, Or.inl ⟨q, rfl⟩⟩
theorem resume_eq {w : Nat → Int32} {s kd : Nat} {left pl k v : Int32} {x : WS} (hs : s ≤ 7) (h : SVr v x) (hfl : x.2.2.2.2.2 = -1) (hok : okw s x) (h1 : w 1 = nI kd) (h2 : w 2 = left) (h3 : w 3 = pl) (h6 : w 6 = k) : ∃ w', f_X4_resume v w = some w' ∧ WXs w' kd left pl x k ∧ isB (w' 10) := by
  rcases h with ⟨a, -⟩ | ⟨-, b, g, hb, hg, hv, hg3, hg4⟩
  · exact absurd hfl a
  · have hc1 := hok.1.1
    have hc2 := hok.1.2
    have hf := st_fin (c := x.1) (f := x.2.1) (t := x.2.2.1 % 2) (b := b) (g := g) (by omega) hok.2 (by omega) hb hg
    rw [← hv] at hf
    obtain ⟨-, f1, f2, f3, f4, f5, f6⟩ := hf
    unfold f_X4_resume f_X4_resume_b34
    rw [f1, f2, f3, f4, f5]
    have hb10 : isB (nI b) := by
      rcases (show b = 0 ∨ b = 1 by omega) with z | z
      · rw [z]; exact Or.inl rfl
      · rw [z]; exact Or.inr rfl
    rcases (show x.2.2.1 % 2 = 0 ∨ x.2.2.1 % 2 = 1 by omega) with z | z
    · rw [z, if_neg (by decide), if_pos (Or.inl rfl)]
      refine ⟨_, rfl, ⟨h1, h2, h3, rfl, rfl, h6, hfl.symm, ?_, fun t0 => ?_, fun t0 => ⟨(hg4 t0).1, (hg4 t0).2.1, (hg4 t0).2.2⟩⟩, hb10⟩
      · rw [z]; rfl
      · show nI g = 0
        rw [hg3 t0]; rfl
    · rw [z, if_pos (by decide), if_pos (Or.inr rfl)]
      refine ⟨_, rfl, ⟨h1, h2, h3, rfl, rfl, h6, hfl.symm, ?_, fun t0 => ?_, fun t0 => ⟨(hg4 t0).1, (hg4 t0).2.1, (hg4 t0).2.2⟩⟩, hb10⟩
      · rw [z]; rfl
      · show nI g = 0
        rw [hg3 t0]; rfl
theorem cellOf_eq {v : Int32} {s : Nat} {x : WS} (hs : s ≤ 7) (h : SVr v x) (hok : okw s x) : f_X4_cellOf v = some (if x.2.2.2.2.2 = -1 then nI x.1 else -1) := by
  unfold f_X4_cellOf
  rcases h with ⟨a, b⟩ | ⟨a, b, g, hb, hg, hv, -⟩
  · rw [if_pos b, if_neg a]
  · have hc1 := hok.1.1
    have hc2 := hok.1.2
    have hf := st_fin (c := x.1) (f := x.2.1) (t := x.2.2.1 % 2) (b := b) (g := g) (by omega) hok.2 (by omega) hb hg
    rw [← hv] at hf
    rw [if_neg hf.2.2.2.2.2.2, hf.2.1, if_pos a]
theorem step_10 {w o P w' : Nat → Int32} (h : f_X4_step 0 w o P = some w') : w' 10 = w 10 := by
  unfold f_X4_step f_X4_goOn f_X4_step_b38 at h
  rw [isFallen_eq, ob] at h
  by_cases q : w 7 = -1
  · rw [if_pos q, if_pos rfl, if_pos rfl] at h
    cases h1 : f_X0_cellAhead (w 4) (w 5) o with
    | none => rw [h1] at h; cases h
    | some c =>
      rw [h1, ob] at h
      by_cases q1 : c = -1
      · rw [if_pos q1, ob] at h
        cases h
        exact upd_ne (by decide)
      · rw [if_neg q1] at h
        cases h2 : f_X0_hasPond c o P with
        | none => rw [h2] at h; cases h
        | some d =>
          rw [h2, ob] at h
          by_cases q2 : d = 0
          · rw [if_pos q2, ob] at h
            cases h
            exact (upd_ne (by decide)).trans (upd_ne (by decide))
          · rw [if_neg q2, ob] at h
            cases h
            exact (upd_ne (by decide)).trans ((upd_ne (by decide)).trans (upd_ne (by decide)))
  · rw [if_neg q, if_neg one_ne0] at h
    cases h
    exact upd_ne (by decide)
