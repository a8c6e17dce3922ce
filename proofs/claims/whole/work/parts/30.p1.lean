-- ===== pure facts: options in step, small ints =====
noncomputable def Sim {α β : Type} (x : Option α) (y : Option β) (Q : α → β → Prop) : Prop := ∃ a b, x = some a ∧ y = some b ∧ Q a b
theorem Sim.ret {α β : Type} {a : α} {b : β} {Q : α → β → Prop} (h : Q a b) : Sim (Option.some a) (Option.some b) Q := ⟨a, b, rfl, rfl, h⟩
theorem Sim.bnd {α β γ δ : Type} {x : Option α} {y : Option β} {Q : α → β → Prop} {f : α → Option γ} {g : β → Option δ} {S : γ → δ → Prop} (h : Sim x y Q) (k : ∀ a b, Q a b → Sim (f a) (g b) S) : Sim (x.bind f) (y.bind g) S := by
  obtain ⟨a, b, rfl, rfl, h⟩ := h
  exact k a b h
theorem Sim.mono {α β : Type} {x : Option α} {y : Option β} {Q S : α → β → Prop} (h : Sim x y Q) (k : ∀ a b, Q a b → S a b) : Sim x y S := by
  obtain ⟨a, b, hx, hy, h⟩ := h
  exact ⟨a, b, hx, hy, k a b h⟩
theorem Sim.bL {α β γ : Type} {x : Option α} {y : Option β} {f : α → Option γ} {S : γ → β → Prop} {a : α} (h : x = Option.some a) (k : Sim (f a) y S) : Sim (x.bind f) y S := by rw [h]; exact k
theorem Sim.bR {α β δ : Type} {x : Option α} {y : Option β} {g : β → Option δ} {S : α → δ → Prop} {b : β} (h : y = Option.some b) (k : Sim x (g b) S) : Sim x (y.bind g) S := by rw [h]; exact k
theorem Sim.iT {α β : Type} {P Q : Prop} [Decidable P] [Decidable Q] {a b : Option α} {c d : Option β} {S : α → β → Prop} (h : P ↔ Q) (kt : P → Q → Sim a c S) (kf : ¬ P → ¬ Q → Sim b d S) : Sim (if P then a else b) (if Q then c else d) S := by
  by_cases hp : P
  · rw [if_pos hp, if_pos (h.mp hp)]; exact kt hp (h.mp hp)
  · rw [if_neg hp, if_neg (fun q => hp (h.mpr q))]; exact kf hp (fun q => hp (h.mpr q))
theorem nI_toI {n : Nat} (h : n < 2147483648) : (nI n).toInt = (n : Int) := nI_toInt h
theorem i32_eq {x y : Int32} (h : x.toInt = y.toInt) : x = y := Int32.toInt_inj.mp h
theorem nI_inj {a b : Nat} (ha : a < 2147483648) (hb : b < 2147483648) (h : nI a = nI b) : a = b := (nI_eq ha hb).mp h
theorem nI_cl {n : Nat} (h : n < 2147483648) : (nI n).toNatClampNeg = n := nI_clamp h
theorem inb_nI {n N : Nat} (h : n < N) (hN : N ≤ 2147483648) : inb (nI n) N := ⟨nI_pos' (by omega), by rw [nI_cl (by omega)]; exact h⟩
theorem i32_nat {x : Int32} {n : Nat} (h0 : 0 ≤ x) (h : x ≤ nI n) (hn : n < 2147483648) : ∃ j, j ≤ n ∧ x = nI j := nI_of2 (nI_toI hn) (Int32.not_lt.mpr h0) h
theorem isWithin_eq (v a b : Int32) : f_X5_isWithin v a b = some (if a ≤ v ∧ v ≤ b then 1 else 0) := by
  unfold f_X5_isWithin
  by_cases h1 : v < a
  · rw [if_pos h1, if_neg (fun q => absurd q.1 (Int32.not_le.mpr h1))]
  · rw [if_neg h1]
    by_cases h2 : b < v
    · rw [if_pos h2, if_neg (fun q => absurd q.2 (Int32.not_le.mpr h2))]
    · rw [if_neg h2, if_pos ⟨Int32.not_lt.mp h1, Int32.not_lt.mp h2⟩]
theorem asNumber_eq (v : Int32) : f_X5_asNumber v = some (if v = 0 then 0 else 1) := by
  unfold f_X5_asNumber
  by_cases h : v = 0
  · rw [if_pos h, if_pos h]
  · rw [if_neg h, if_neg h]
theorem isIn_eq (v a b : Int32) : f_X6_isIn v.toInt64 a.toInt64 b.toInt64 = some (if a ≤ v ∧ v ≤ b then 1 else 0) := by
  have key : ∀ x y : Int64, (lg_cmp x y < 0 ↔ x < y) ∧ (0 < lg_cmp x y ↔ y < x) := by
    intro x y
    unfold lg_cmp
    by_cases h1 : x > y
    · rw [if_pos h1]
      exact ⟨⟨fun h => absurd h (by decide), fun h => absurd h (Int64.lt_asymm h1)⟩, ⟨fun _ => h1, fun _ => by decide⟩⟩
    · rw [if_neg h1]
      by_cases h2 : x = y
      · rw [if_pos h2]
        exact ⟨⟨fun h => absurd h (by decide), fun h => absurd h (by rw [h2]; exact Int64.lt_irrefl)⟩, ⟨fun h => absurd h (by decide), fun h => absurd h h1⟩⟩
      · rw [if_neg h2]
        exact ⟨⟨fun _ => Int64.lt_of_le_of_ne (Int64.not_lt.mp h1) h2, fun _ => by decide⟩, ⟨fun h => absurd h (by decide), fun h => absurd h h1⟩⟩
  unfold f_X6_isIn
  have w : ∀ a b : Int32, a.toInt64 < b.toInt64 ↔ a < b := by
    intro a b
    rw [Int64.lt_iff_toInt_lt, Int32.lt_iff_toInt_lt, Int32.toInt_toInt64, Int32.toInt_toInt64]
  by_cases h1 : v < a
  · rw [if_pos ((key _ _).1.mpr ((w _ _).mpr h1)), if_neg (fun q => absurd q.1 (Int32.not_le.mpr h1))]
  · rw [if_neg (fun q => h1 ((w _ _).mp ((key _ _).1.mp q)))]
    by_cases h2 : b < v
    · rw [if_pos ((key _ _).2.mpr ((w _ _).mpr h2)), if_neg (fun q => absurd q.2 (Int32.not_le.mpr h2))]
    · rw [if_neg (fun q => h2 ((w _ _).mp ((key _ _).2.mp q))), if_pos ⟨Int32.not_lt.mp h1, Int32.not_lt.mp h2⟩]
theorem w01 (p : Prop) [Decidable p] : isB (if p then (1 : Int32) else 0) := by
  by_cases h : p
  · rw [if_pos h]; exact Or.inr rfl
  · rw [if_neg h]; exact Or.inl rfl
theorem w0 {p : Prop} [Decidable p] : (if p then (1 : Int32) else 0) = 0 ↔ ¬ p := by
  by_cases h : p
  · rw [if_pos h]; exact ⟨fun q => absurd q (by decide), fun q => absurd h q⟩
  · rw [if_neg h]; exact ⟨fun _ => h, fun _ => rfl⟩
theorem gr_test1 (x y : Int32) (h : x < y) (h2 : y ≤ 7) (h3 : 0 ≤ x) : x ≤ 6 ∧ ¬ (x = 7) := by grind
