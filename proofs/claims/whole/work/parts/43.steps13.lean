/-! the step: fits, the class's list and the reference's walk -/
theorem p_mf {n : Nat} {br fl sb sf : Nat → Int32} {B F : Nat → Nat} (h : SgtN n br fl sb sf B F) (x1 : Int32) : ∀ (d x m k : Nat) (T : Nat → Nat), x + d = 1000 → d < m → k + d ≤ 1000 → fX11_fits_b5 (nI n) sb sf m x1 (nI k) (nI x) = some (if x1 = -1 then nI (gNk (gFt n B F) d x k) else if k ≤ x1.toNatClampNeg ∧ x1.toNatClampNeg < gNk (gFt n B F) d x k ∧ x1 = nI x1.toNatClampNeg then nI (gNt (gFt n B F) d x k T x1.toNatClampNeg) else -6)
  | _, _, 0, _, _, _, h, _ => by omega
  | 0, x, m + 1, k, T, h1, _, _ => by
    have e : x = 1000 := by omega
    subst e
    have hle : (1000 : Int32) ≤ nI 1000 := by decide
    have hno : ¬ (k ≤ x1.toNatClampNeg ∧ x1.toNatClampNeg < gNk (gFt n B F) 0 1000 k ∧ x1 = nI x1.toNatClampNeg) := by
      rintro ⟨a, b, -⟩
      have : gNk (gFt n B F) 0 1000 k = k := rfl
      omega
    rw [fX11_fits_b5, if_pos hle]
    by_cases hx : x1 = -1
    · rw [if_pos hx, if_pos hx]
      rfl
    · rw [if_neg hx, if_neg hx, if_neg hno]
      rfl
  | d + 1, x, m + 1, k, T, h1, h2, h3 => by
    have hlt : ¬ (1000 : Int32) ≤ nI x := nI_ge (b := 1000) (by omega) (by omega)
    have hfit := p_isFit h (show x < 1000 by omega)
    rw [fX11_fits_b5, if_neg hlt, hfit, Option.bind_some, gNk_s, gNt_s]
    by_cases hf : gFt n B F x = true
    · have ih := p_mf h x1 d (x + 1) m (k + 1) (updN T k x) (by omega) (by omega) (by omega)
      rw [if_pos hf, if_pos hf, if_pos hf, if_neg (by decide)]
      by_cases hk : nI k = x1
      · have hc : x1.toNatClampNeg = k := by rw [← hk]; exact p_cl (by omega)
        have hx : ¬ x1 = -1 := by rw [← hk]; exact p_m1 (by omega)
        have hg := (gNk_ge (gFt n B F) d (x + 1) (k + 1)).1
        rw [if_pos hk, if_neg hx, if_pos ⟨by omega, by omega, by rw [hc]; exact hk.symm⟩, hc, gNt_old _ d (x + 1) (k + 1) _ k (by omega), updN_s]
      · rw [if_neg hk, fX11_fits_b30, nI_1, nI_1, ih]
        by_cases hx : x1 = -1
        · rw [if_pos hx, if_pos hx]
        · rw [if_neg hx, if_neg hx]
          congr 1
          refine p_ite ?_ _ _
          constructor
          · rintro ⟨a, b, c⟩
            exact ⟨by omega, b, c⟩
          · rintro ⟨a, b, c⟩
            refine ⟨?_, b, c⟩
            have : x1.toNatClampNeg ≠ k := fun e => hk (by rw [c, e])
            omega
    · have ih := p_mf h x1 d (x + 1) m k T (by omega) (by omega) (by omega)
      rw [if_neg hf, if_neg hf, if_neg hf, if_pos rfl, fX11_fits_b30, nI_1, ih]
