/-! the step: tries, the class's most left -/
theorem gFt_40 {n : Nat} {B F : Nat → Nat} {x : Nat} (h : gFt n B F x = true) : 1 ≤ x % 100 ∧ x % 100 ≤ 40 := by
  by_cases h1 : x % 100 = 0
  · rw [gFt_no (Or.inl h1)] at h; exact absurd h (by decide)
  · by_cases h2 : 40 < x % 100
    · rw [gFt_no (Or.inr h2)] at h; exact absurd h (by decide)
    · omega
theorem p_mlC {n : Nat} {B F : Nat → Nat} {N : Nat} (hN : N ≤ 360) (twos : Nat → Int32) {u : Nat} (hu : u ≤ 9) : ∀ (d x m k : Nat) (T : Nat → Nat) (L : Nat → Nat) (mx : Nat) (left : Nat → Int32), x + d = 1000 → 100 ≤ x → gNk (gFt n B F) d x k = N → N < k + m → (∀ j, j < N → twos j = nI (gNt (gFt n B F) d x k T j)) → (∀ j, L j ≤ x - 100) → mx ≤ x - 100 → (∀ j, j < 41 → left j = nI (L j)) → ∃ left1, fX2_mostLeft_b11 (nI N) twos m left (nI u) (nI mx) (nI k) = some (nI (gMx (gFt n B F) u d x L mx), left1)
  | 0, x, 0, k, T, L, mx, left, h1, h3, hk, hm, _, _, _, _ => by
    have : k = N := hk
    omega
  | 0, x, m + 1, k, T, L, mx, left, h1, h3, hk, hm, _, _, _, _ => by
    have e : k = N := hk
    subst e
    refine ⟨left, ?_⟩
    rw [fX2_mostLeft_b11, if_pos (Int32.le_refl _)]
    rfl
  | d + 1, x, 0, k, T, L, mx, left, h1, h3, hk, hm, hT, h4, h5, h6 => by
    have := (gNk_ge (gFt n B F) (d + 1) x k).1
    omega
  | d + 1, x, m + 1, k, T, L, mx, left, h1, h3, hk, hm, hT, h4, h5, h6 => by
    rw [gMx_s]
    rw [gNk_s] at hk
    rw [gNt_s] at hT
    by_cases hf : gFt n B F x = true
    · rw [if_pos hf] at hk ⊢
      rw [if_pos hf, if_pos hf] at hT
      have hkk := (gNk_ge (gFt n B F) d (x + 1) (k + 1)).1
      have hkN : k < N := by omega
      have h40 := gFt_40 hf
      have hx : twos k = nI x := by rw [hT k hkN, gNt_old _ _ _ _ _ _ (Nat.lt_succ_self k), updN_s]
      have e1 : nI x % 100 = nI (x % 100) := p_mod (b := 100) (by omega) (by omega)
      have e2 : nI x / 100 = nI (x / 100) := pk_div (d := 100) (by omega) (by omega) (by omega)
      have hmu : u * (x / 100) ≤ 81 := p_mul99 hu (by omega)
      have hmin : (if nI x % 100 < nI u * (nI x / 100) then nI x % 100 else nI u * (nI x / 100)) = nI (min (x % 100) (x / 100 * u)) := by
        rw [e1, e2, pk_mul, Nat.mul_comm (x / 100) u]
        exact p_minC (by omega) (by omega)
      have hle : min (x % 100) (x / 100 * u) ≤ 40 := by omega
      generalize min (x % 100) (x / 100 * u) = e at hmin hle
      have hw : fX10_within (nI e) 0 40 = some 1 := by
        rw [p_within, if_pos ⟨nI_le (a := 0) (by omega) (by omega), nI_le (b := 40) hle (by omega)⟩]
      have hlt : ¬ nI N ≤ nI k := nI_ge hkN (by omega)
      have h360 : ¬ Int32.ofNat 360 ≤ nI k := nI_ge (b := 360) (by omega) (by omega)
      have hA := fun {α : Type} (K : Option α) => p_gA (show k < 360 by omega) (show 360 < 2 ^ 31 by omega) K
      have hE := fun {α : Type} (K : Option α) => p_gA (show e < 41 by omega) (show 41 < 2 ^ 31 by omega) K
      have hcl := p_cl (show e < 2 ^ 31 by omega)
      have hck := p_cl (show k < 2 ^ 31 by omega)
      have h4e := h4 e
      have hv : left e + 1 = nI (L e + 1) := by rw [h6 e (by omega), nI_1]
      have hL' : ∀ j, updN L e (L e + 1) j ≤ x + 1 - 100 := by
        intro j
        by_cases ej : j = e
        · rw [ej, updN_s]; omega
        · rw [updN_n ej]; have := h4 j; omega
      have hM : (if nI mx < nI (L e + 1) then nI (L e + 1) else nI mx) = nI (if mx < L e + 1 then L e + 1 else mx) := by
        by_cases hq : mx < L e + 1
        · rw [if_pos hq, if_pos (nI_lt hq (by omega))]
        · rw [if_neg hq, if_neg (nI_nlt (by omega) (by omega))]
      obtain ⟨left1, a1⟩ := p_mlC hN twos hu d (x + 1) m (k + 1) (updN T k x) (updN L e (L e + 1)) (if mx < L e + 1 then L e + 1 else mx) (upd left e (nI (L e + 1))) (by omega) (by omega) hk (by omega) hT hL' (by
        by_cases hq : mx < L e + 1
        · rw [if_pos hq]; omega
        · rw [if_neg hq]; omega) (fun j hj => by
        by_cases ej : j = e
        · rw [ej, p_upS, updN_s]
        · rw [p_upN ej, updN_n ej]; exact h6 j hj)
      refine ⟨left1, ?_⟩
      rw [fX2_mostLeft_b11, if_neg hlt, if_neg h360, hA, hA, hck, hx, hmin, hw, Option.bind_some, if_neg (by decide), hE, hE, hE, hcl, hv, p_upS, hM, fX2_mostLeft_b87, nI_1]
      exact a1
    · rw [if_neg hf] at hk ⊢
      rw [if_neg hf, if_neg hf] at hT
      exact p_mlC hN twos hu d (x + 1) (m + 1) k T L mx left (by omega) (by omega) hk hm hT (fun j => by have := h4 j; omega) (by omega) h6
def gMt (n : Nat) (B F : Nat → Nat) (u : Nat) : Nat := gMx (gFt n B F) u 900 100 (fun _ => 0) 0
theorem p_mlC0 {n : Nat} {B F : Nat → Nat} (twos : Nat → Int32) (T : Nat → Nat) (hT : ∀ j, j < gNk (gFt n B F) 900 100 0 → twos j = nI (gNt (gFt n B F) 900 100 0 T j)) (left : Nat → Int32) {u : Nat} (hu : u ≤ 9) : ∃ left1, fX2_mostLeft (nI (gNk (gFt n B F) 900 100 0)) twos left (nI u) = some (nI (gMt n B F u), left1) := by
  obtain ⟨l0, c1, c2⟩ := p_clearRow (show 41 < 1000 by omega) left
  have hN := p_gN360 n B F
  obtain ⟨l1, a1⟩ := p_mlC hN twos hu 900 100 1000 0 T (fun _ => 0) 0 l0 (by omega) (by omega) rfl (by omega) hT (fun _ => by omega) (by omega) (fun j hj => c2 j hj)
  refine ⟨l1, ?_⟩
  unfold fX2_mostLeft
  rw [c1, Option.bind_some]
  exact a1
theorem p_mlZ (sights : Int32) (sb sf : Nat → Int32) (x1 : Int32) (R : Int32) (hR : ∀ by' : Nat → Int32, (∀ j, j < 82 → by' j = 0) → ∃ by1, fX11_mostLeft_b26 sights sb sf 1000 by' x1 0 100 = some (R, by1)) : ∀ (d i m : Nat) (by' : Nat → Int32), i + d = 82 → d < m → (∀ j, j < i → by' j = 0) → ∃ by1, fX11_mostLeft_b4 sights sb sf m by' x1 0 (nI i) = some (R, by1)
  | _, _, 0, _, _, h, _ => by omega
  | 0, i, m + 1, by', h1, _, h3 => by
    have e : i = 82 := by omega
    subst e
    obtain ⟨by1, a1⟩ := hR by' h3
    refine ⟨by1, ?_⟩
    have hle : (82 : Int32) ≤ nI 82 := by decide
    rw [fX11_mostLeft_b4, if_pos hle]
    exact a1
  | d + 1, i, m + 1, by', h1, h2, h3 => by
    have hlt : ¬ (82 : Int32) ≤ nI i := nI_ge (b := 82) (by omega) (by omega)
    obtain ⟨by1, a1⟩ := p_mlZ sights sb sf x1 R hR d (i + 1) m (upd by' i 0) (by omega) (by omega) (fun j hj => by
      by_cases e : j = i
      · rw [e, p_upS]
      · rw [p_upN e]; exact h3 j (by omega))
    refine ⟨by1, ?_⟩
    rw [fX11_mostLeft_b4, if_neg hlt, p_gA (show i < 82 by omega) (show 82 < 2 ^ 31 by omega), p_cl (by omega), nI_1]
    exact a1
theorem p_mlM0 {n : Nat} {br fl sb sf : Nat → Int32} {B F : Nat → Nat} (h : SgtN n br fl sb sf B F) (by' : Nat → Int32) {u : Nat} (hu : u ≤ 9) : ∃ by1, fX11_mostLeft (nI n) sb sf by' (nI u) = some (nI (gMt n B F u), by1) := by
  have := p_mlZ (nI n) sb sf (nI u) (nI (gMt n B F u)) (fun by2 hb => p_mlM h hu 900 100 1000 (fun _ => 0) 0 by2 (by omega) (by omega) (by omega) (fun _ => by omega) (by omega) (fun j hj => hb j hj)) 82 0 1000 by' (by omega) (by omega) (fun j hj => by omega)
  exact this
