/-! the step: tries -/
def gMx (fit : Nat → Bool) (u : Nat) : Nat → Nat → (Nat → Nat) → Nat → Nat
  | 0, _, _, mx => mx
  | d + 1, x, L, mx => if fit x = true then gMx fit u d (x + 1) (updN L (min (x % 100) (x / 100 * u)) (L (min (x % 100) (x / 100 * u)) + 1)) (if mx < L (min (x % 100) (x / 100 * u)) + 1 then L (min (x % 100) (x / 100 * u)) + 1 else mx) else gMx fit u d (x + 1) L mx
theorem gMx_s (fit : Nat → Bool) (u d x : Nat) (L : Nat → Nat) (mx : Nat) : gMx fit u (d + 1) x L mx = if fit x = true then gMx fit u d (x + 1) (updN L (min (x % 100) (x / 100 * u)) (L (min (x % 100) (x / 100 * u)) + 1)) (if mx < L (min (x % 100) (x / 100 * u)) + 1 then L (min (x % 100) (x / 100 * u)) + 1 else mx) else gMx fit u d (x + 1) L mx := rfl
theorem gMx_ge (fit : Nat → Bool) (u : Nat) : ∀ (d x : Nat) (L : Nat → Nat) (mx k : Nat), mx ≤ gMx fit u d x L mx ∧ (gNk fit d x k = k → gMx fit u d x L mx = mx) ∧ (k < gNk fit d x k → 1 ≤ gMx fit u d x L mx)
  | 0, x, L, mx, k => ⟨Nat.le_refl _, fun _ => rfl, fun h => absurd h (Nat.lt_irrefl k)⟩
  | d + 1, x, L, mx, k => by
    rw [gMx_s, gNk_s]
    by_cases hf : fit x = true
    · rw [if_pos hf, if_pos hf]
      have hk := (gNk_ge fit d (x + 1) (k + 1)).1
      have ih := gMx_ge fit u d (x + 1) (updN L (min (x % 100) (x / 100 * u)) (L (min (x % 100) (x / 100 * u)) + 1)) (if mx < L (min (x % 100) (x / 100 * u)) + 1 then L (min (x % 100) (x / 100 * u)) + 1 else mx) (k + 1)
      by_cases hm : mx < L (min (x % 100) (x / 100 * u)) + 1
      · rw [if_pos hm] at ih ⊢
        exact ⟨by omega, fun h => by omega, fun _ => by omega⟩
      · rw [if_neg hm] at ih ⊢
        exact ⟨by omega, fun h => by omega, fun _ => by omega⟩
    · rw [if_neg hf, if_neg hf]
      exact gMx_ge fit u d (x + 1) L mx k
theorem gMx_le (fit : Nat → Bool) (u : Nat) : ∀ (d x c : Nat) (L : Nat → Nat) (mx : Nat), (∀ j, L j ≤ c) → mx ≤ c → gMx fit u d x L mx ≤ c + d
  | 0, x, c, L, mx, _, h => h
  | d + 1, x, c, L, mx, hL, h => by
    rw [gMx_s]
    have h1 := hL (min (x % 100) (x / 100 * u))
    by_cases hf : fit x = true
    · rw [if_pos hf]
      have hL' : ∀ j, updN L (min (x % 100) (x / 100 * u)) (L (min (x % 100) (x / 100 * u)) + 1) j ≤ c + 1 := by
        intro j
        by_cases e : j = min (x % 100) (x / 100 * u)
        · rw [e, updN_s]; omega
        · rw [updN_n e]; have := hL j; omega
      have hm : (if mx < L (min (x % 100) (x / 100 * u)) + 1 then L (min (x % 100) (x / 100 * u)) + 1 else mx) ≤ c + 1 := by
        by_cases hm : mx < L (min (x % 100) (x / 100 * u)) + 1
        · rw [if_pos hm]; omega
        · rw [if_neg hm]; omega
      have := gMx_le fit u d (x + 1) (c + 1) _ _ hL' hm
      omega
    · rw [if_neg hf]
      have := gMx_le fit u d (x + 1) (c + 1) L mx (fun j => by have := hL j; omega) (by omega)
      omega
theorem p_mlM {n : Nat} {br fl sb sf : Nat → Int32} {B F : Nat → Nat} (h : SgtN n br fl sb sf B F) {u : Nat} (hu : u ≤ 9) : ∀ (d x m : Nat) (L : Nat → Nat) (mx : Nat) (by' : Nat → Int32), x + d = 1000 → d < m → 100 ≤ x → (∀ j, L j ≤ x - 100) → mx ≤ x - 100 → (∀ j, j < 82 → by' j = nI (L j)) → ∃ by1, fX11_mostLeft_b26 (nI n) sb sf m by' (nI u) (nI mx) (nI x) = some (nI (gMx (gFt n B F) u d x L mx), by1)
  | _, _, 0, _, _, _, _, h, _, _, _, _ => by omega
  | 0, x, m + 1, L, mx, by', h1, _, _, _, _, _ => by
    have e : x = 1000 := by omega
    subst e
    have hle : (1000 : Int32) ≤ nI 1000 := by decide
    exact ⟨by', by rw [fX11_mostLeft_b26, if_pos hle]; rfl⟩
  | d + 1, x, m + 1, L, mx, by', h1, h2, h3, h4, h5, h6 => by
    have hlt : ¬ (1000 : Int32) ≤ nI x := nI_ge (b := 1000) (by omega) (by omega)
    have hfit := p_isFit h (show x < 1000 by omega)
    have hfl := p_fly0 (show x < 1000 by omega) hu
    have hmu := p_mul99 (show x / 100 ≤ 9 by omega) hu
    rw [gMx_s]
    by_cases hf : gFt n B F x = true
    · generalize he : min (x % 100) (x / 100 * u) = e at hfl
      have he82 : e < 82 := by omega
      have hE := fun {α : Type} (K : Option α) => p_gA he82 (show 82 < 2 ^ 31 by omega) K
      have hcl := p_cl (show e < 2 ^ 31 by omega)
      have h4e := h4 e
      have hv : by' e + 1 = nI (L e + 1) := by rw [h6 e he82, nI_1]
      have hL' : ∀ j, updN L e (L e + 1) j ≤ x + 1 - 100 := by
        intro j
        by_cases ej : j = e
        · rw [ej, updN_s]; omega
        · rw [updN_n ej]; have := h4 j; omega
      obtain ⟨by1, a1⟩ := p_mlM h hu d (x + 1) m (updN L e (L e + 1)) (if mx < L e + 1 then L e + 1 else mx) (upd by' e (nI (L e + 1))) (by omega) (by omega) (by omega) hL' (by
        by_cases hm : mx < L e + 1
        · rw [if_pos hm]; omega
        · rw [if_neg hm]; omega) (fun j hj => by
        by_cases ej : j = e
        · rw [ej, p_upS, updN_s]
        · rw [p_upN ej, updN_n ej]; exact h6 j hj)
      refine ⟨by1, ?_⟩
      rw [if_pos hf, fX11_mostLeft_b26, if_neg hlt, hfit, Option.bind_some, if_pos hf, if_neg (by decide), hfl, Option.bind_some, hE, hE, hE, hcl, hv, p_upS]
      by_cases hm : mx < L e + 1
      · rw [if_pos hm] at a1 ⊢
        rw [if_neg (nI_ge hm (by omega)), hE, fX11_mostLeft_b81, fX11_mostLeft_b82, nI_1]
        exact a1
      · rw [if_neg hm] at a1 ⊢
        rw [if_pos (nI_le (by omega) (by omega)), fX11_mostLeft_b81, fX11_mostLeft_b82, nI_1]
        exact a1
    · obtain ⟨by1, a1⟩ := p_mlM h hu d (x + 1) m L mx by' (by omega) (by omega) (by omega) (fun j => by have := h4 j; omega) (by omega) h6
      refine ⟨by1, ?_⟩
      rw [if_neg hf, fX11_mostLeft_b26, if_neg hlt, hfit, Option.bind_some, if_neg hf, if_pos rfl, fX11_mostLeft_b82, nI_1]
      exact a1
