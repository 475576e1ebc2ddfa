/-! the step: fits -/
def gNk (fit : Nat → Bool) : Nat → Nat → Nat → Nat
  | 0, _, k => k
  | d + 1, x, k => gNk fit d (x + 1) (if fit x = true then k + 1 else k)
def gNt (fit : Nat → Bool) : Nat → Nat → Nat → (Nat → Nat) → (Nat → Nat)
  | 0, _, _, T => T
  | d + 1, x, k, T => gNt fit d (x + 1) (if fit x = true then k + 1 else k) (if fit x = true then updN T k x else T)
theorem gNk_s (fit : Nat → Bool) (d x k : Nat) : gNk fit (d + 1) x k = gNk fit d (x + 1) (if fit x = true then k + 1 else k) := rfl
theorem gNt_s (fit : Nat → Bool) (d x k : Nat) (T : Nat → Nat) : gNt fit (d + 1) x k T = gNt fit d (x + 1) (if fit x = true then k + 1 else k) (if fit x = true then updN T k x else T) := rfl
theorem gNk_ge (fit : Nat → Bool) : ∀ (d x k : Nat), k ≤ gNk fit d x k ∧ gNk fit d x k ≤ k + d
  | 0, x, k => ⟨Nat.le_refl _, Nat.le_refl _⟩
  | d + 1, x, k => by
    rw [gNk_s]
    by_cases h : fit x = true
    · rw [if_pos h]
      have := gNk_ge fit d (x + 1) (k + 1)
      omega
    · rw [if_neg h]
      have := gNk_ge fit d (x + 1) k
      omega
theorem gNt_old (fit : Nat → Bool) : ∀ (d x k : Nat) (T : Nat → Nat) (j : Nat), j < k → gNt fit d x k T j = T j
  | 0, x, k, T, j, h => rfl
  | d + 1, x, k, T, j, h => by
    rw [gNt_s]
    by_cases hf : fit x = true
    · rw [if_pos hf, if_pos hf, gNt_old fit d (x + 1) (k + 1) _ j (by omega), updN_n (by omega)]
    · rw [if_neg hf, if_neg hf, gNt_old fit d (x + 1) k T j h]
theorem gNk_add (fit : Nat → Bool) : ∀ (d e x k : Nat), gNk fit (d + e) x k = gNk fit e (x + d) (gNk fit d x k)
  | 0, e, x, k => by rw [Nat.zero_add]; rfl
  | d + 1, e, x, k => by
    rw [show d + 1 + e = (d + e) + 1 by omega, gNk_s, gNk_s, gNk_add fit d e (x + 1), show x + 1 + d = x + (d + 1) by omega]
theorem gNt_add (fit : Nat → Bool) : ∀ (d e x k : Nat) (T : Nat → Nat), gNt fit (d + e) x k T = gNt fit e (x + d) (gNk fit d x k) (gNt fit d x k T)
  | 0, e, x, k, T => by rw [Nat.zero_add]; rfl
  | d + 1, e, x, k, T => by
    rw [show d + 1 + e = (d + e) + 1 by omega, gNt_s, gNt_s, gNk_s, gNt_add fit d e (x + 1), show x + 1 + d = x + (d + 1) by omega]
theorem gNk_no (fit : Nat → Bool) : ∀ (d x k : Nat), (∀ y, x ≤ y → y < x + d → fit y = false) → gNk fit d x k = k
  | 0, x, k, _ => rfl
  | d + 1, x, k, h => by
    rw [gNk_s, if_neg (by rw [h x (Nat.le_refl _) (by omega)]; decide)]
    exact gNk_no fit d (x + 1) k (fun y h1 h2 => h y (by omega) (by omega))
theorem gNt_no (fit : Nat → Bool) : ∀ (d x k : Nat) (T : Nat → Nat), (∀ y, x ≤ y → y < x + d → fit y = false) → gNt fit d x k T = T
  | 0, x, k, T, _ => rfl
  | d + 1, x, k, T, h => by
    have hx := h x (Nat.le_refl _) (by omega)
    rw [gNt_s, if_neg (by rw [hx]; decide), if_neg (by rw [hx]; decide)]
    exact gNt_no fit d (x + 1) k T (fun y h1 h2 => h y (by omega) (by omega))
def gFt (n : Nat) (B F : Nat → Nat) (x : Nat) : Bool := decide (1 ≤ x % 100) && decide (x % 100 ≤ 40) && gSu B F (x / 100) (x % 100) n 0
theorem p_isFit {n : Nat} {br fl sb sf : Nat → Int32} {B F : Nat → Nat} (h : SgtN n br fl sb sf B F) {x : Nat} (hx : x < 1000) : fX11_isFit (nI n) sb sf (nI x) = some (if gFt n B F x = true then 1 else 0) := by
  have e1 : nI x % 100 = nI (x % 100) := p_mod (b := 100) (by omega) (by omega)
  have hn := h.1
  have hin := p_inl (c := x % 100) (lo := 1) (hi := 40) (a := 1) (b := 40) (by decide) (by decide) (by omega) (by omega) (by omega)
  unfold fX11_isFit gFt
  rw [e1, hin, Option.bind_some]
  by_cases hr : 1 ≤ x % 100 ∧ x % 100 ≤ 40
  · have h1 := p_isf h hx n 0 1000 true (by omega) (by omega)
    rw [if_pos rfl] at h1
    rw [if_pos hr]
    simp only [hr.1, hr.2, decide_true, Bool.true_and] at h1 ⊢
    exact h1
  · have h1 := p_isf h hx n 0 1000 false (by omega) (by omega)
    rw [if_neg (by decide)] at h1
    rw [if_neg hr]
    have : (decide (1 ≤ x % 100) && decide (x % 100 ≤ 40)) = false := by
      cases hd : (decide (1 ≤ x % 100) && decide (x % 100 ≤ 40)) with
      | false => rfl
      | true =>
        simp only [Bool.and_eq_true, decide_eq_true_eq] at hd
        exact absurd hd hr
    rw [this]
    simp only [Bool.false_and, Bool.false_eq_true, ↓reduceIte] at h1 ⊢
    exact h1
