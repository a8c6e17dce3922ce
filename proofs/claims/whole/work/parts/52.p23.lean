-- ===== ponds =====
theorem pondsRun {cx cm f P K Wt C F G N tl xr mr Ks Z hh z : Nat → Int32} {E e : Nat → Int64} {s n q m p : Nat} (h : IRn s n f P K Wt C F G N) (hp : p < n) (hq : q < 8) (hm : m ≤ 40) (htl : ∀ i, i < m → isSg (E (40 * q + i)) ∧ tl i = (E (40 * q + i)).toInt32) (M : Nat) (hM : 71 < M) (w wBy wCell wFaces wFell wSign wTurns : Nat → Int32) :
    ∃ u v, f_X5_ponds_b34 cx f C F K G P Ks E Z M w xr (nI q) (nI m) (nI p) 0 0 = some u ∧ f_X6_ponds_b38 e hh z M cm N mr tl wBy wCell wFaces wFell wSign wTurns (nI m) (nI p) (N (5 * p + 2)) 0 0 = some v ∧ u.1 = v.1 ∧ u.2.2 = xr ∧ v.2.2.2.1 = mr ∧ v.2.2.1 = N ∧ (∀ i, i ≠ 17 → v.2.1 i = cm i) := by
  have a := pondsL (cx := cx) (cm := cm) (xr := xr) (mr := mr) (Ks := Ks) (Z := Z) (hh := hh) (z := z) (e := e) h hp hq hm htl 67 M M w cm N wBy wCell wFaces wFell wSign wTurns 0 (Nat.le_refl _) (by omega) (by omega) (fun _ _ => rfl) (fun _ _ => rfl)
  rw [show nI (67 - 67) = 0 from rfl] at a
  exact a
