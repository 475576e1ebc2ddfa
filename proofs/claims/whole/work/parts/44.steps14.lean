/-! the step: fits, the class's list -/
theorem p_ga1 {n : Nat} {br fl sb sf : Nat → Int32} {B F : Nat → Nat} (h : SgtN n br fl sb sf B F) {b : Nat} (hb1 : 1 ≤ b) (hb : b ≤ 9) (K : Int32 → (Nat → Int32) → Int32 → Option (Int32 × (Nat → Int32))) : ∀ (e f m k : Nat) (T : Nat → Nat) (twos : Nat → Int32), f + e = 41 → e < m → 1 ≤ f → k + 1 ≤ 40 * (b - 1) + f → (∀ j, j < k → twos j = nI (T j)) → ∃ twos', fX2_gather_b15 K (nI n) br fl m (nI k) twos (nI b) (nI f) = K (nI (gNk (gFt n B F) e (100 * b + f) k)) twos' (nI (b + 1)) ∧ ∀ j, j < gNk (gFt n B F) e (100 * b + f) k → twos' j = nI (gNt (gFt n B F) e (100 * b + f) k T j)
  | _, _, 0, _, _, _, _, h, _, _, _ => by omega
  | 0, f, m + 1, k, T, twos, h1, _, _, _, h5 => by
    have e : f = 41 := by omega
    subst e
    have hlt : (40 : Int32) < nI 41 := by decide
    refine ⟨twos, ?_, h5⟩
    rw [fX2_gather_b15, if_pos hlt, nI_1]
    rfl
  | e + 1, f, m + 1, k, T, twos, h1, h2, h3, h4, h5 => by
    have hlt : ¬ (40 : Int32) < nI f := nI_nlt (a := 40) (by omega) (by omega)
    have h360 : ¬ Int32.ofNat 360 ≤ nI k := nI_ge (b := 360) (by omega) (by omega)
    have hn := h.1
    have hA : fX9_allAreBy (nI n) br fl (nI b) (nI f) = some (if gSu B F b f n 0 = true then 1 else 0) := p_aab h hb (show f ≤ 40 by omega) n 0 1000 (by omega) (by omega)
    have hft : gFt n B F (100 * b + f) = gSu B F b f n 0 := by
      unfold gFt
      rw [show (100 * b + f) / 100 = b by omega, show (100 * b + f) % 100 = f by omega, decide_eq_true h3, decide_eq_true (show f ≤ 40 by omega)]
      rfl
    have hx : (100 : Int32) * nI b = nI (100 * b) := pk_mul 100 b
    rw [gNk_s, hft]
    rw [fX2_gather_b15, if_neg hlt, if_neg h360, hA, Option.bind_some]
    by_cases hg : gSu B F b f n 0 = true
    · obtain ⟨twos', e1, e2⟩ := p_ga1 h hb1 hb K e (f + 1) m (k + 1) (updN T k (100 * b + f)) (upd twos k (nI (100 * b + f))) (by omega) (by omega) (by omega) (by omega) (fun j hj => by
        by_cases e : j = k
        · subst e; rw [p_upS, updN_s]
        · rw [p_upN e, updN_n e]; exact h5 j (by omega))
      refine ⟨twos', ?_, ?_⟩
      · rw [if_pos hg, if_pos hg, if_neg (by decide), p_gA (show k < 360 by omega) (show 360 < 2 ^ 31 by omega), p_cl (by omega), fX2_gather_b67, hx, nI_add, nI_1, nI_1]
        exact e1
      · rw [if_pos hg]
        intro j hj
        rw [gNt_s, hft, if_pos hg, if_pos hg]
        exact e2 j hj
    · obtain ⟨twos', e1, e2⟩ := p_ga1 h hb1 hb K e (f + 1) m k T twos (by omega) (by omega) (by omega) (by omega) h5
      refine ⟨twos', ?_, ?_⟩
      · rw [if_neg hg, if_neg hg, if_pos rfl, fX2_gather_b67, nI_1]
        exact e1
      · rw [if_neg hg]
        intro j hj
        rw [gNt_s, hft, if_neg hg, if_neg hg]
        exact e2 j hj
