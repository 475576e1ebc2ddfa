/-! the step: fits -/
theorem gFt_no {n : Nat} {B F : Nat → Nat} {y : Nat} (h : y % 100 = 0 ∨ 40 < y % 100) : gFt n B F y = false := by
  cases hc : gFt n B F y with
  | false => rfl
  | true =>
    unfold gFt at hc
    simp only [Bool.and_eq_true, decide_eq_true_eq] at hc
    omega
theorem p_row100 {n : Nat} {B F : Nat → Nat} (b k : Nat) (T : Nat → Nat) : gNk (gFt n B F) 100 (100 * b) k = gNk (gFt n B F) 40 (100 * b + 1) k ∧ gNt (gFt n B F) 100 (100 * b) k T = gNt (gFt n B F) 40 (100 * b + 1) k T := by
  have a0 : gNk (gFt n B F) 1 (100 * b) k = k := gNk_no _ 1 (100 * b) k (fun y h1 h2 => gFt_no (by omega))
  have b0 : gNt (gFt n B F) 1 (100 * b) k T = T := gNt_no _ 1 (100 * b) k T (fun y h1 h2 => gFt_no (by omega))
  have a1 : gNk (gFt n B F) 100 (100 * b) k = gNk (gFt n B F) 99 (100 * b + 1) k := by
    have := gNk_add (gFt n B F) 1 99 (100 * b) k
    rw [a0] at this
    exact this
  have b1 : gNt (gFt n B F) 100 (100 * b) k T = gNt (gFt n B F) 99 (100 * b + 1) k T := by
    have := gNt_add (gFt n B F) 1 99 (100 * b) k T
    rw [a0, b0] at this
    exact this
  have a2 : gNk (gFt n B F) 99 (100 * b + 1) k = gNk (gFt n B F) 40 (100 * b + 1) k := by
    have := gNk_add (gFt n B F) 40 59 (100 * b + 1) k
    rw [gNk_no _ 59 _ _ (fun y h1 h2 => gFt_no (by omega))] at this
    exact this
  have b2 : gNt (gFt n B F) 99 (100 * b + 1) k T = gNt (gFt n B F) 40 (100 * b + 1) k T := by
    have := gNt_add (gFt n B F) 40 59 (100 * b + 1) k T
    rw [gNt_no _ 59 _ _ _ (fun y h1 h2 => gFt_no (by omega))] at this
    exact this
  exact ⟨a1.trans a2, b1.trans b2⟩
theorem p_ga2 {n : Nat} {br fl sb sf : Nat → Int32} {B F : Nat → Nat} (h : SgtN n br fl sb sf B F) : ∀ (e b m k : Nat) (T : Nat → Nat) (twos : Nat → Int32), b + e = 10 → e < m → 1 ≤ b → k ≤ 40 * (b - 1) → (∀ j, j < k → twos j = nI (T j)) → ∃ twos', fX2_gather_b7 (nI n) br fl m (nI k) twos (nI b) = some (nI (gNk (gFt n B F) (100 * e) (100 * b) k), twos') ∧ ∀ j, j < gNk (gFt n B F) (100 * e) (100 * b) k → twos' j = nI (gNt (gFt n B F) (100 * e) (100 * b) k T j)
  | _, _, 0, _, _, _, _, h, _, _, _ => by omega
  | 0, b, m + 1, k, T, twos, h1, _, _, _, h5 => by
    have e : b = 10 := by omega
    subst e
    have hlt : (9 : Int32) < nI 10 := by decide
    refine ⟨twos, ?_, h5⟩
    rw [fX2_gather_b7, if_pos hlt]
    rfl
  | e + 1, b, m + 1, k, T, twos, h1, h2, h3, h4, h5 => by
    have hlt : ¬ (9 : Int32) < nI b := nI_nlt (a := 9) (by omega) (by omega)
    obtain ⟨r1, r2⟩ := p_row100 (n := n) (B := B) (F := F) b k T
    have hge := gNk_ge (gFt n B F) 40 (100 * b + 1) k
    obtain ⟨t1, a1, a2⟩ := p_ga1 h h3 (show b ≤ 9 by omega) (fX2_gather_b7 (nI n) br fl m) 40 1 1000 k T twos (by omega) (by omega) (by omega) (by omega) h5
    have a1' : fX2_gather_b15 (fX2_gather_b7 (nI n) br fl m) (nI n) br fl 1000 (nI k) twos (nI b) 1 = _ := a1
    obtain ⟨t2, b1, b2⟩ := p_ga2 h e (b + 1) m (gNk (gFt n B F) 40 (100 * b + 1) k) (gNt (gFt n B F) 40 (100 * b + 1) k T) t1 (by omega) (by omega) (by omega) (by omega) a2
    have s1 : gNk (gFt n B F) (100 * (e + 1)) (100 * b) k = gNk (gFt n B F) (100 * e) (100 * (b + 1)) (gNk (gFt n B F) 40 (100 * b + 1) k) := by
      rw [show 100 * (e + 1) = 100 + 100 * e by omega, gNk_add, r1, show 100 * b + 100 = 100 * (b + 1) by omega]
    have s2 : gNt (gFt n B F) (100 * (e + 1)) (100 * b) k T = gNt (gFt n B F) (100 * e) (100 * (b + 1)) (gNk (gFt n B F) 40 (100 * b + 1) k) (gNt (gFt n B F) 40 (100 * b + 1) k T) := by
      rw [show 100 * (e + 1) = 100 + 100 * e by omega, gNt_add, r1, r2, show 100 * b + 100 = 100 * (b + 1) by omega]
    refine ⟨t2, ?_, ?_⟩
    · rw [fX2_gather_b7, if_neg hlt, a1', b1, s1]
    · rw [s1, s2]
      exact b2
theorem p_gather {n : Nat} {br fl sb sf : Nat → Int32} {B F : Nat → Nat} (h : SgtN n br fl sb sf B F) (count : Int32) (twos : Nat → Int32) (T : Nat → Nat) : ∃ twos', fX2_gather (nI n) count br fl twos = some (nI (gNk (gFt n B F) 900 100 0), twos') ∧ ∀ j, j < gNk (gFt n B F) 900 100 0 → twos' j = nI (gNt (gFt n B F) 900 100 0 T j) :=
  p_ga2 h 9 1 1000 0 T twos (by omega) (by omega) (by omega) (by omega) (fun j hj => by omega)
