/-! pure facts: numbers, guards, families -/
theorem p_gA {α : Type} {j n : Nat} (h : j < n) (hn : n < 2 ^ 31) (K : Option α) : gA (nI j) n K = K := by
  unfold gA
  rw [if_pos]
  exact decide_eq_true (nI_in h hn)
theorem p_gZ0 {α : Type} (K : Option α) : gZ 0 K = K := if_pos (by decide)
theorem p_gZ1 {α : Type} (K : Option α) : gZ 1 K = K := if_pos (by decide)
theorem p_cl {j : Nat} (h : j < 2 ^ 31) : (nI j).toNatClampNeg = j := nI_clamp h
def p_b (c : Prop) [Decidable c] : Int32 := if c then 1 else 0
theorem p_gZb (c : Prop) [Decidable c] {α : Type} (K : Option α) : gZ (if c then (1 : Int32) else 0) K = K := by
  by_cases h : c
  · rw [if_pos h]; exact p_gZ1 K
  · rw [if_neg h]; exact p_gZ0 K
theorem p_ite {c d : Prop} [Decidable c] [Decidable d] {α : Type} (h : c ↔ d) (a b : α) : (if c then a else b) = if d then a else b := by
  by_cases hc : c
  · rw [if_pos hc, if_pos (h.mp hc)]
  · rw [if_neg hc, if_neg (fun q => hc (h.mpr q))]
theorem p_within (x a b : Int32) : fX10_within x a b = some (if a ≤ x ∧ x ≤ b then 1 else 0) := by
  unfold fX10_within fX10_within_b14 fX10_within_b15
  rw [p_gZ0, p_gZ1]
  by_cases h1 : x < a
  · rw [if_pos h1, if_neg (fun h => absurd h.1 (Int32.not_le.mpr h1))]
  · rw [if_neg h1]
    by_cases h2 : b < x
    · rw [if_pos h2, if_neg (fun h => absurd h.2 (Int32.not_le.mpr h2))]
    · rw [if_neg h2, if_pos ⟨Int32.not_lt.mp h1, Int32.not_lt.mp h2⟩]
theorem p_isField (x : Int32) : fX10_isField x = some (if 0 ≤ x ∧ x < 36 then 1 else 0) := by
  unfold fX10_isField fX10_isField_b14 fX10_isField_b15
  rw [p_gZ0, p_gZ1]
  by_cases h1 : x < 0
  · rw [if_pos h1, if_neg (fun h => absurd h.1 (Int32.not_le.mpr h1))]
  · rw [if_neg h1]
    by_cases h2 : 36 ≤ x
    · rw [if_pos h2, if_neg (fun h => absurd h2 (Int32.not_le.mpr h.2))]
    · rw [if_neg h2, if_pos ⟨Int32.not_lt.mp h1, Int32.not_le.mp h2⟩]
theorem p_in (x a b : Int64) : fX11_in x a b = some (if a ≤ x ∧ x ≤ b then 1 else 0) := by
  unfold fX11_in fX11_in_b17 fX11_in_b18
  simp only [lg_cmp_lt, lg_cmp_gt]
  rw [p_gZ0, p_gZ1]
  by_cases h1 : x < a
  · rw [if_pos h1, if_neg (fun h => absurd h.1 (Int64.not_le.mpr h1))]
  · rw [if_neg h1]
    by_cases h2 : b < x
    · rw [if_pos h2, if_neg (fun h => absurd h.2 (Int64.not_le.mpr h2))]
    · rw [if_neg h2, if_pos ⟨Int64.not_lt.mp h1, Int64.not_lt.mp h2⟩]
theorem p_l32 (x : Int32) (a : Int64) (b : Int32) (h : b.toInt64 = a) : (a ≤ x.toInt64 ↔ b ≤ x) ∧ (x.toInt64 ≤ a ↔ x ≤ b) := by
  subst h
  constructor
  · rw [Int64.le_iff_toInt_le, Int32.le_iff_toInt_le, Int32.toInt_toInt64, Int32.toInt_toInt64]
  · rw [Int64.le_iff_toInt_le, Int32.le_iff_toInt_le, Int32.toInt_toInt64, Int32.toInt_toInt64]
theorem p_in32 (x : Int32) (a b : Int64) (a' b' : Int32) (ha : a'.toInt64 = a) (hb : b'.toInt64 = b) : fX11_in x.toInt64 a b = some (if a' ≤ x ∧ x ≤ b' then 1 else 0) := by
  rw [p_in]
  congr 1
  exact p_ite (and_congr (p_l32 x a a' ha).1 (p_l32 x b b' hb).2) _ _
theorem p_36 (x : Int32) : x < 36 ↔ x ≤ 35 := by
  rw [Int32.lt_iff_toInt_lt, Int32.le_iff_toInt_le, show (36 : Int32).toInt = 36 from by decide, show (35 : Int32).toInt = 35 from by decide]
  omega
theorem p_isFieldM (x : Int32) : fX11_isField x = some (if 0 ≤ x ∧ x < 36 then 1 else 0) := by
  unfold fX11_isField
  rw [p_in32 x 0 35 0 35 (by decide) (by decide)]
  show gZ (if 0 ≤ x ∧ x ≤ 35 then (1 : Int32) else 0) (some (if 0 ≤ x ∧ x ≤ 35 then (1 : Int32) else 0)) = _
  rw [p_gZb]
  congr 1
  exact p_ite (and_congr Iff.rfl (p_36 x).symm) _ _
/-- an index of n rows, or none -/
theorem p_ix (x : Int32) {n : Nat} (hn : n < 2 ^ 31) : (∃ k : Nat, k < n ∧ x = nI k) ∨ x < 0 ∨ nI n ≤ x := by
  rcases pk_ix x hn with h | h | h
  · exact Or.inr (Or.inl h)
  · exact Or.inr (Or.inr h)
  · exact Or.inl h
/-- is family k there -/
def gP (t : Int32) (k : Nat) : Bool := decide (¬ (t &&& (1 <<< (nI k &&& 31))) = 0)
theorem p_isThere (t : Int32) {k : Nat} (hk : k < 6) : fX6_isThere t (nI k) = some (if gP t k = true then 1 else 0) := by
  unfold fX6_isThere fX6_isThere_b25 fX6_isThere_b26
  rw [if_neg (nI_pos (by omega)), if_neg (show ¬ (6 : Int32) ≤ nI k from nI_ge (b := 6) hk (by omega)), p_gZ0, p_gZ1]
  unfold gP
  by_cases h : (t &&& (1 <<< (nI k &&& 31))) = 0
  · rw [if_pos h, if_neg (by simp [h])]
  · rw [if_neg h, if_pos (by simp [h])]
theorem p_isThereN (t : Int32) {x : Int32} (h : x < 0 ∨ nI 6 ≤ x) : fX6_isThere t x = some 0 := by
  unfold fX6_isThere fX6_isThere_b25 fX6_isThere_b26
  rw [p_gZ0]
  rcases h with h | h
  · rw [if_pos h]
  · by_cases h0 : x < 0
    · rw [if_pos h0]
    · rw [if_neg h0, if_pos (show (6 : Int32) ≤ x from h)]
theorem p_bits : ∀ n, n < 64 → ∀ k, k < 6 → (((nI n >>> (nI k &&& 31)) &&& 1) = 1 ↔ gP (nI n) k = true) := by decide +kernel
theorem p_isFamily {t : Int32} (ht : ∃ n, n < 64 ∧ t = nI n) {k : Nat} (hk : k < 6) : fX11_isFamily t (nI k) = some (if gP t k = true then 1 else 0) := by
  obtain ⟨n, hn, rfl⟩ := ht
  unfold fX11_isFamily fX11_isFamily_b28 fX11_isFamily_b29
  rw [p_in32 (nI k) 0 5 0 5 (by decide) (by decide), p_gZ0, p_gZ1, if_pos ⟨nI_pos' (by omega), show nI k ≤ nI 5 from nI_le (by omega) (by omega)⟩]
  rw [Option.bind_some, if_neg (by decide)]
  by_cases h : gP (nI n) k = true
  · rw [if_pos h, if_pos ((p_bits n hn k hk).mpr h)]
  · rw [if_neg h, if_neg (fun q => h ((p_bits n hn k hk).mp q))]
theorem p_isFamilyN (t : Int32) {x : Int32} (h : x < 0 ∨ nI 6 ≤ x) : fX11_isFamily t x = some 0 := by
  unfold fX11_isFamily fX11_isFamily_b28 fX11_isFamily_b29
  rw [p_in32 x 0 5 0 5 (by decide) (by decide), p_gZ0, if_neg]
  · rw [Option.bind_some, if_pos rfl]
  · intro q
    rcases h with h | h
    · exact absurd q.1 (Int32.not_le.mpr h)
    · have h5 := Int32.le_iff_toInt_le.mp q.2
      have h6 := Int32.le_iff_toInt_le.mp h
      rw [show (5 : Int32).toInt = 5 from by decide] at h5
      rw [show (nI 6).toInt = 6 from by decide] at h6
      omega
theorem p_at (n : Nat) (hn : n < 2 ^ 31) (f : Nat → Int32) {k : Nat} (hk : k < n) : fX10_at n f (nI k) = some (f k) := by
  unfold fX10_at fX10_at_b16 fX10_at_b17
  rw [if_neg (nI_pos (by omega)), if_neg (show ¬ Int32.ofNat n ≤ nI k from nI_ge hk hn), p_gA hk hn, p_cl (by omega)]
theorem p_atN (n : Nat) (f : Nat → Int32) {x : Int32} (h : x < 0 ∨ nI n ≤ x) : fX10_at n f x = some 0 := by
  unfold fX10_at fX10_at_b16 fX10_at_b17
  rcases h with h | h
  · rw [if_pos h]
  · by_cases h0 : x < 0
    · rw [if_pos h0]
    · rw [if_neg h0, if_pos (show Int32.ofNat n ≤ x from h)]
/-- whither the wind carries: a check of all fields, winds, forces -/
def p_wchk (j w n : Nat) : Bool := match fX10_downwind (nI j) (nI w) (nI n), fX11_onBy (nI j) (nI w) (nI n) with
  | some a, some b => (decide (a = -1) && decide (b = -6)) || (decide (a = b) && (List.range 36).any (fun i => decide (a = nI i) && decide ((i : Int) = (j : Int) + (if w = 0 then 6 * (n : Int) else if w = 1 then (n : Int) else if w = 2 then -(6 * (n : Int)) else -(n : Int)))))
  | _, _ => false
theorem p_wall : (List.range 36).all (fun j => (List.range 4).all (fun w => (List.range 6).all (fun n => p_wchk j w n))) = true := by decide +kernel
