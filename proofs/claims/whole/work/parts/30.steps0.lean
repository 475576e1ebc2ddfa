/-! pure facts: bits and ranges for the steps -/
theorem p_rg {x : Int32} {lo hi : Nat} (hl : lo < 2 ^ 31) (hh : hi + 1 < 2 ^ 31) (h : nI lo ≤ x ∧ x ≤ nI hi) : ∃ k : Nat, lo ≤ k ∧ k ≤ hi ∧ x = nI k := by
  have h1 := Int32.le_iff_toInt_le.mp h.1
  have h2 := Int32.le_iff_toInt_le.mp h.2
  rw [nI_toInt hl] at h1
  rw [nI_toInt (by omega)] at h2
  rcases p_ix x (n := hi + 1) hh with ⟨k, hk, rfl⟩ | h3 | h3
  · rw [nI_toInt (by omega)] at h1
    exact ⟨k, by omega, by omega, rfl⟩
  · have := Int32.lt_iff_toInt_lt.mp h3
    rw [Int32.toInt_zero] at this
    omega
  · have := Int32.le_iff_toInt_le.mp h3
    rw [nI_toInt hh] at this
    omega
theorem p_out {x : Int32} {lo hi : Nat} (hl : lo < 2 ^ 31) (hh : hi + 1 < 2 ^ 31) (h : ¬ (nI lo ≤ x ∧ x ≤ nI hi)) : ∀ k : Nat, lo ≤ k → k ≤ hi → ¬ x = nI k := by
  rintro k h1 h2 rfl
  exact h ⟨nI_le h1 (by omega), nI_le h2 (by omega)⟩
theorem p_fld {x : Int32} : (0 ≤ x ∧ x < 36) ↔ ∃ j : Nat, j < 36 ∧ x = nI j := by
  constructor
  · intro h
    obtain ⟨k, _, h2, h3⟩ := p_rg (x := x) (lo := 0) (hi := 35) (by omega) (by omega) ⟨h.1, (p_36 x).mp h.2⟩
    exact ⟨k, by omega, h3⟩
  · rintro ⟨j, hj, rfl⟩
    exact ⟨nI_pos' (by omega), p36l hj⟩
theorem p_or : (List.range 64).all (fun n => (List.range 6).all (fun k => decide (n ||| 2 ^ k < 64) && decide (nI n ||| (1 <<< (nI k &&& 31)) = nI (n ||| 2 ^ k)) && (List.range 6).all (fun j => gP (nI (n ||| 2 ^ k)) j == (gP (nI n) j || decide (j = k))))) = true := by decide +kernel
theorem p_andn : (List.range 64).all (fun n => (List.range 6).all (fun k => decide (n &&& (2 ^ k ^^^ 63) < 64) && decide (nI n &&& ((1 <<< (nI k &&& 31)) ^^^ (-1)) = nI (n &&& (2 ^ k ^^^ 63))) && (List.range 6).all (fun j => gP (nI (n &&& (2 ^ k ^^^ 63))) j == (gP (nI n) j && !decide (j = k))))) = true := by decide +kernel
theorem p_bc : (List.range 64).all (fun n => fJ6_bitCount_0f7a4 (nI n) == fX11_bitsOf (nI n) && (fX11_bitsOf (nI n)).isSome) = true := by decide +kernel
theorem p_bitc {t : Int32} (ht : ∃ n, n < 64 ∧ t = nI n) : ∃ c, fX6_howManyFamilies t = some c ∧ fX11_bitsOf t = some c := by
  obtain ⟨n, hn, rfl⟩ := ht
  have h := List.all_eq_true.mp p_bc n (List.mem_range.mpr hn)
  simp only [Bool.and_eq_true, beq_iff_eq] at h
  obtain ⟨c, hc⟩ := Option.isSome_iff_exists.mp h.2
  refine ⟨c, ?_, hc⟩
  unfold fX6_howManyFamilies
  rw [h.1, hc, Option.bind_some]
theorem p_add1 {t : Int32} (ht : ∃ n, n < 64 ∧ t = nI n) {k : Nat} (hk : k < 6) : (∃ n, n < 64 ∧ t ||| (1 <<< (nI k &&& 31)) = nI n) ∧ ∀ j, j < 6 → gP (t ||| (1 <<< (nI k &&& 31))) j = (gP t j || decide (j = k)) := by
  obtain ⟨n, hn, rfl⟩ := ht
  have h := List.all_eq_true.mp (List.all_eq_true.mp p_or n (List.mem_range.mpr hn)) k (List.mem_range.mpr hk)
  simp only [Bool.and_eq_true, decide_eq_true_eq, List.all_eq_true, List.mem_range, beq_iff_eq] at h
  obtain ⟨⟨h1, h2⟩, h3⟩ := h
  rw [h2]
  exact ⟨⟨_, h1, rfl⟩, h3⟩
theorem p_sub1 {t : Int32} (ht : ∃ n, n < 64 ∧ t = nI n) {k : Nat} (hk : k < 6) : (∃ n, n < 64 ∧ t &&& ((1 <<< (nI k &&& 31)) ^^^ (-1)) = nI n) ∧ ∀ j, j < 6 → gP (t &&& ((1 <<< (nI k &&& 31)) ^^^ (-1))) j = (gP t j && !decide (j = k)) := by
  obtain ⟨n, hn, rfl⟩ := ht
  have h := List.all_eq_true.mp (List.all_eq_true.mp p_andn n (List.mem_range.mpr hn)) k (List.mem_range.mpr hk)
  simp only [Bool.and_eq_true, decide_eq_true_eq, List.all_eq_true, List.mem_range, beq_iff_eq] at h
  obtain ⟨⟨h1, h2⟩, h3⟩ := h
  rw [h2]
  exact ⟨⟨_, h1, rfl⟩, h3⟩
