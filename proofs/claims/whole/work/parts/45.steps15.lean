/-! the step: fits -/
theorem gFt_no {n : Nat} {B F : Nat → Nat} {y : Nat} (h : y % 100 = 0 ∨ 40 < y % 100) : gFt n B F y = false := by
  cases hc : gFt n B F y with
  | false => rfl
  | true =>
    unfold gFt at hc
    simp only [Bool.and_eq_true, decide_eq_true_eq] at hc
    omega
theorem p_row100 {n : Nat} {B F : Nat → Nat} (b k : Nat) (T : Nat → Nat) : gNk (gFt n B F) 100 (100 * b) k = gNk (gFt n B F) 40 (100 * b + 1) k ∧ gNt (gFt n B F) 100 (100 * b) k T = gNt (gFt n B F) 40 (100 * b + 1) k T := by
  have a0 : gNk (gFt n B F) 1 (100 * b) k = k := gNk_no _ 1 (100 * b) k (fun y h1 h2 => gFt_no (by omega))
  have b0 : gNt (gFt n B F) 1 (100 * b) k T = T := gNt_no _ 1 (100 * b) k T (fun y h1 h2 => gFt_no (by omega))
  have a1 : gNk (gFt n B F) 100 (100 * b) k = gNk (gFt n B F) 99 (100 * b + 1) k := by
    have := gNk_add (gFt n B F) 1 99 (100 * b) k
    rw [a0] at this
    exact this
  have b1 : gNt (gFt n B F) 100 (100 * b) k T = gNt (gFt n B F) 99 (100 * b + 1) k T := by
    have := gNt_add (gFt n B F) 1 99 (100 * b) k T
    rw [a0, b0] at this
    exact this
  have a2 : gNk (gFt n B F) 99 (100 * b + 1) k = gNk (gFt n B F) 40 (100 * b + 1) k := by
    have := gNk_add (gFt n B F) 40 59 (100 * b + 1) k
    rw [gNk_no _ 59 _ _ (fun y h1 h2 => gFt_no (by omega))] at this
    exact this
  have b2 : gNt (gFt n B F) 99 (100 * b + 1) k T = gNt (gFt n B F) 40 (100 * b + 1) k T := by
    have := gNt_add (gFt n B F) 40 59 (100 * b + 1) k T
    rw [gNt_no _ 59 _ _ _ (fun y h1 h2 => gFt_no (by omega))] at this
    exact this
  exact ⟨a1.trans a2, b1.trans b2⟩
