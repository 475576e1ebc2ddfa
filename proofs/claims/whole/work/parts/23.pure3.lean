/-! pure facts: rows cleared, sheep, hours; what an act is, whether it can be, what it does -/
theorem p_clear {N : Nat} (hN : N < 2 ^ 31) : ∀ (d i n : Nat) (f : Nat → Int32), i + d = N → d < n → ∃ f', fX10_clearRow_b2 N n f (nI i) = some f' ∧ (∀ k, i ≤ k → k < N → f' k = 0) ∧ (∀ k, k < i → f' k = f k)
  | _, _, 0, _, _, h => by omega
  | 0, i, n + 1, f, h1, _ => by
    have e : i = N := by omega
    subst e
    refine ⟨f, ?_, fun k a b => by omega, fun k _ => rfl⟩
    unfold fX10_clearRow_b2
    exact if_pos (show Int32.ofNat i ≤ nI i from nI_le (Nat.le_refl _) hN)
  | d + 1, i, n + 1, f, h1, h2 => by
    have hi : i < N := by omega
    obtain ⟨f', e1, e2, e3⟩ := p_clear hN d (i + 1) n (upd f i 0) (by omega) (by omega)
    refine ⟨f', ?_, fun k a b => ?_, fun k a => ?_⟩
    · unfold fX10_clearRow_b2
      rw [if_neg (show ¬ Int32.ofNat N ≤ nI i from nI_ge hi hN), p_gA hi hN, p_cl (by omega), nI_1]
      exact e1
    · by_cases hk : k = i
      · subst hk
        rw [e3 k (by omega)]
        unfold upd
        rw [if_pos rfl]
      · exact e2 k (by omega) b
    · rw [e3 k (by omega)]
      unfold upd
      rw [if_neg (by omega)]
theorem p_clearRow {N : Nat} (hN : N < 1000) (f : Nat → Int32) : ∃ f', fX10_clearRow N f = some f' ∧ ∀ k, k < N → f' k = 0 := by
  obtain ⟨f', h1, h2, -⟩ := p_clear (N := N) (by omega) N 0 1000 f (by omega) hN
  exact ⟨f', h1, fun k hk => h2 k (Nat.zero_le _) hk⟩
theorem p_pass : ∀ (d i n : Nat) (ho : Int32) (f : Nat → Int32), i + d = 6 → d < n → ∃ f', fX11_passHour_b2 n ho f (nI i) = some (ho + 1, f') ∧ (∀ k, i ≤ k → k < 6 → f' k = 0) ∧ (∀ k, k < i → f' k = f k)
  | _, _, 0, _, _, _, h => by omega
  | 0, i, n + 1, ho, f, h1, _ => by
    have e : i = 6 := by omega
    subst e
    refine ⟨f, ?_, fun k a b => by omega, fun k _ => rfl⟩
    unfold fX11_passHour_b2
    exact if_pos p6y
  | d + 1, i, n + 1, ho, f, h1, h2 => by
    have hi : i < 6 := by omega
    obtain ⟨f', e1, e2, e3⟩ := p_pass d (i + 1) n ho (upd f i 0) (by omega) (by omega)
    refine ⟨f', ?_, fun k a b => ?_, fun k a => ?_⟩
    · unfold fX11_passHour_b2
      rw [if_neg (p6n hi), p_gA hi (by omega), p_cl (by omega), nI_1]
      exact e1
    · by_cases hk : k = i
      · subst hk
        rw [e3 k (by omega)]
        unfold upd
        rw [if_pos rfl]
      · exact e2 k (by omega) b
    · rw [e3 k (by omega)]
      unfold upd
      rw [if_neg (by omega)]
theorem p_half {g : Nat} (hg : g ≤ 999) : nI g / (2 : Int32) = nI (g / 2) ∧ nI g - nI (g / 2) = nI (g - g / 2) := ⟨pk_div (d := 2) (by omega) (by omega) (by omega), pk_sub (by omega)⟩
theorem p_eat : ∀ (d i n n' : Nat) (lost : Int32) (ground heap : Nat → Int32), i + d = 36 → d < n → d < n' → (∀ j, j < 36 → gI 999 (ground j)) → (∀ j, j < 36 → heap j = ground j) → ∃ lost' ground' heap', fX6_graze_b2 n lost ground (nI i) = some (lost', ground') ∧ fX11_eat_b2 n' lost heap (nI i) = some (lost', heap') ∧ (∀ j, j < 36 → gI 999 (ground' j)) ∧ (∀ j, j < 36 → heap' j = ground' j)
  | _, _, 0, _, _, _, _, _, h, _, _, _ => by omega
  | _, _, _, 0, _, _, _, _, _, h, _, _ => by omega
  | 0, i, n + 1, n' + 1, lost, ground, heap, h1, _, _, hg, hh => by
    have e : i = 36 := by omega
    subst e
    refine ⟨lost, ground, heap, ?_, ?_, hg, hh⟩
    · unfold fX6_graze_b2; exact if_pos p36y
    · unfold fX11_eat_b2; exact if_pos p36y
  | d + 1, i, n + 1, n' + 1, lost, ground, heap, h1, h2, h3, hg, hh => by
    have hi : i < 36 := by omega
    obtain ⟨g, hg1, hg2⟩ := hg i hi
    have e1 := (p_half hg1).1
    have e2 := (p_half hg1).2
    obtain ⟨lost', ground', heap', a1, a2, a3, a4⟩ := p_eat d (i + 1) n n' (lost + ground i / 2) (upd ground i (ground i - ground i / 2)) (upd heap i (ground i - ground i / 2)) (by omega) (by omega) (by omega) (p_updI hg (by rw [hg2, e1, e2]; exact ⟨_, by omega, rfl⟩)) (p_upd hh rfl)
    refine ⟨lost', ground', heap', ?_, ?_, a3, a4⟩
    · unfold fX6_graze_b2
      rw [if_neg (p36n hi), p_gA hi (by omega), p_gA hi (by omega), p_gA hi (by omega), p_cl (by omega), nI_1]
      exact a1
    · unfold fX11_eat_b2
      rw [if_neg (p36n hi), p_gA hi (by omega), p_gA hi (by omega), p_gA hi (by omega), p_gA hi (by omega), p_cl (by omega), nI_1, hh i hi]
      exact a2
def ActOK (c a n n' : Int32) : Prop := (c = 0 ∧ (∃ k d : Nat, k < 6 ∧ 1 ≤ d ∧ d ≤ 9 ∧ a = nI k ∧ n = nI d ∧ n' = n)) ∨ (c = 1 ∧ ∃ k : Nat, k < 6 ∧ a = nI k) ∨ (c = 2 ∧ ∃ k : Nat, k < 6 ∧ a = nI k) ∨ (c = 3 ∧ gI 3 a ∧ gI 5 n ∧ n' = n) ∨ c = 4 ∨ c = 5 ∨ c = 6
def ActCan (t ho : Int32) (seeds lungs blown : Nat → Int32) (c a n n' : Int32) : Prop := (c = 0 ∧ (∃ k d : Nat, k < 6 ∧ d ≤ 9 ∧ a = nI k ∧ n = nI d ∧ n' = n ∧ gP t k = true ∧ nI d ≤ seeds k ∧ blown k + nI d ≤ lungs k)) ∨ (c = 1 ∧ ∃ k : Nat, k < 6 ∧ a = nI k ∧ gP t k = true) ∨ (c = 2 ∧ ∃ k : Nat, k < 6 ∧ a = nI k ∧ gP t k = true) ∨ (c = 3 ∧ gI 3 a ∧ gI 5 n ∧ n' = n) ∨ c = 4 ∨ c = 5 ∨ (c = 6 ∧ ho < 99)
theorem p_gIn {n : Nat} {x : Int32} (h : gI n x) : ∃ k : Nat, k ≤ n ∧ x = nI k := h
theorem p_why {t w fo ra ho : Int32} {home seeds lungs blown ground at' stem lungs' blown' heap : Nat → Int32} (hI : MInv t w fo ra ho home seeds lungs blown ground) (hR : MRel t home seeds lungs blown ground at' stem lungs' blown' heap) {c a n n' : Int32} (hok : ActOK c a n n') :
    ∃ y : Nat, y ≤ 5 ∧ fX0_whyNot t ra ho home seeds lungs blown ground c a n = some (nI y) ∧ fX11_whyNot t ra ho at' stem lungs' blown' heap c a n' = some (nI y) ∧ (y = 0 → ActCan t ho seeds lungs blown c a n n') := by
  obtain ⟨ht, hw, hf, hr, hh, hho, hse, hlu, hbl, hgr, hd⟩ := hI
  obtain ⟨ha, hst, hlr, hbr, hhe⟩ := hR
  rcases hok with ⟨rfl, k, d, hk, hd1, hd2, rfl, rfl, rfl⟩ | ⟨rfl, k, hk, rfl⟩ | ⟨rfl, k, hk, rfl⟩ | ⟨rfl, h3, h4, rfl⟩ | rfl | rfl | rfl
  · -- a puff
    have hA := fun (K : Option Int32) => p_gA hk (show 6 < 2 ^ 31 by omega) K
    cases hg : gP t k with
    | false => exact ⟨1, by omega, by simp only [fX0_whyNot, fX0_whyNot_b44, fX0_whyNotOfFamily, p_isThere t hk, hg, q_ne, Option.bind_some, ↓reduceIte, Bool.false_eq_true]; rfl, by simp only [fX11_whyNot, p_isFamily ht hk, hg, q_ne, q_leT, Option.bind_some, ↓reduceIte, Bool.false_eq_true]; rfl, fun h => by omega⟩
    | true =>
      by_cases hra : ra = 1
      · exact ⟨2, by omega, by simp only [fX0_whyNot, fX0_whyNot_b44, fX0_whyNotOfFamily, p_isThere t hk, hg, q_ne, Option.bind_some, ↓reduceIte, hra]; rfl, by simp only [fX11_whyNot, fX11_whyNotPuff, p_isFamily ht hk, hg, q_ne, q_leT, Option.bind_some, ↓reduceIte, hra]; rfl, fun h => by omega⟩
      · by_cases h1 : nI d ≤ seeds k
        · by_cases h2 : blown k + nI d ≤ lungs k
          · exact ⟨0, by omega, by simp only [fX0_whyNot, fX0_whyNot_b44, fX0_whyNotOfFamily, fX0_whyNotOfFamily_b56, fX0_whyNotOfFamily_b96, fX0_whyNotOfFamily_b97, fX0_whyNotOfFamily_b109, p_isThere t hk, hg, q_ne, Option.bind_some, ↓reduceIte, hra, hA, p_cl (show k < 2 ^ 31 by omega), h1, h2]; rfl, by simp only [fX11_whyNot, fX11_whyNotPuff, fX11_whyNotPuff_b46, p_isFamily ht hk, hg, q_ne, q_leT, Option.bind_some, ↓reduceIte, hra, hA, p_cl (show k < 2 ^ 31 by omega), hst k hk hg, hbr k hk, hlr k hk, h1, h2]; rfl, fun _ => Or.inl ⟨rfl, k, d, hk, hd2, rfl, rfl, rfl, hg, h1, h2⟩⟩
          · exact ⟨4, by omega, by simp only [fX0_whyNot, fX0_whyNot_b44, fX0_whyNotOfFamily, fX0_whyNotOfFamily_b56, fX0_whyNotOfFamily_b96, fX0_whyNotOfFamily_b97, fX0_whyNotOfFamily_b109, p_isThere t hk, hg, q_ne, Option.bind_some, ↓reduceIte, hra, hA, p_cl (show k < 2 ^ 31 by omega), h1, h2]; rfl, by simp only [fX11_whyNot, fX11_whyNotPuff, fX11_whyNotPuff_b46, p_isFamily ht hk, hg, q_ne, q_leT, Option.bind_some, ↓reduceIte, hra, hA, p_cl (show k < 2 ^ 31 by omega), hst k hk hg, hbr k hk, hlr k hk, h1, h2]; rfl, fun h => by omega⟩
        · exact ⟨3, by omega, by simp only [fX0_whyNot, fX0_whyNot_b44, fX0_whyNotOfFamily, fX0_whyNotOfFamily_b56, p_isThere t hk, hg, q_ne, Option.bind_some, ↓reduceIte, hra, hA, p_cl (show k < 2 ^ 31 by omega), h1]; rfl, by simp only [fX11_whyNot, fX11_whyNotPuff, fX11_whyNotPuff_b46, p_isFamily ht hk, hg, q_ne, q_leT, Option.bind_some, ↓reduceIte, hra, hA, p_cl (show k < 2 ^ 31 by omega), hst k hk hg, h1]; rfl, fun h => by omega⟩
  · -- a cough
    have hA := fun (K : Option Int32) => p_gA hk (show 6 < 2 ^ 31 by omega) K
    cases hg : gP t k with
    | false => exact ⟨1, by omega, by simp only [fX0_whyNot, fX0_whyNot_b44, fX0_whyNotOfFamily, p_isThere t hk, hg, q_ne, Option.bind_some, ↓reduceIte, Bool.false_eq_true]; rfl, by simp only [fX11_whyNot, p_isFamily ht hk, hg, q_ne, q_leT, Option.bind_some, ↓reduceIte, Bool.false_eq_true]; rfl, fun h => by omega⟩
    | true =>
      by_cases hra : ra = 1
      · exact ⟨2, by omega, by simp only [fX0_whyNot, fX0_whyNot_b44, fX0_whyNotOfFamily, p_isThere t hk, hg, q_ne, Option.bind_some, ↓reduceIte, hra]; rfl, by simp only [fX11_whyNot, fX11_whyNot_b97, p_isFamily ht hk, hg, q_ne, q_leT, Option.bind_some, ↓reduceIte, hra]; rfl, fun h => by omega⟩
      · obtain ⟨q, hq1, hq2⟩ := hse k hk
        by_cases h1 : q = 0
        · subst h1
          have hz : seeds k = 0 := hq2
          exact ⟨3, by omega, by simp only [fX0_whyNot, fX0_whyNot_b44, fX0_whyNotOfFamily, fX0_whyNotOfFamily_b56, p_isThere t hk, hg, q_ne, q_le, Option.bind_some, ↓reduceIte, hra, hA, p_cl (show k < 2 ^ 31 by omega), hz]; rfl, by simp only [fX11_whyNot, fX11_whyNot_b97, p_isFamily ht hk, hg, q_ne, q_leT, Option.bind_some, ↓reduceIte, hra, hA, p_cl (show k < 2 ^ 31 by omega), hst k hk hg, hz]; rfl, fun h => by omega⟩
        · have hz1 : (1 : Int32) ≤ seeds k := by rw [hq2]; exact nI_le (a := 1) (by omega) (by omega)
          have hz2 : ¬ seeds k = 0 := by rw [hq2]; exact nI_ne0 (by omega) (by omega)
          exact ⟨0, by omega, by simp only [fX0_whyNot, fX0_whyNot_b44, fX0_whyNotOfFamily, fX0_whyNotOfFamily_b56, fX0_whyNotOfFamily_b96, fX0_whyNotOfFamily_b97, fX0_whyNotOfFamily_b109, p_isThere t hk, hg, q_ne, Option.bind_some, ↓reduceIte, hra, hA, p_cl (show k < 2 ^ 31 by omega), hz1]; rfl, by simp only [fX11_whyNot, fX11_whyNot_b97, p_isFamily ht hk, hg, q_ne, q_leT, Option.bind_some, ↓reduceIte, hra, hA, p_cl (show k < 2 ^ 31 by omega), hst k hk hg, hz2]; rfl, fun _ => Or.inr (Or.inl ⟨rfl, k, hk, rfl, hg⟩)⟩
  · -- it mows
    have hA := fun (K : Option Int32) => p_gA hk (show 6 < 2 ^ 31 by omega) K
    cases hg : gP t k with
    | false => exact ⟨1, by omega, by simp only [fX0_whyNot, fX0_whyNot_b44, fX0_whyNotOfFamily, p_isThere t hk, hg, q_ne, Option.bind_some, ↓reduceIte, Bool.false_eq_true]; rfl, by simp only [fX11_whyNot, p_isFamily ht hk, hg, q_ne, q_leT, Option.bind_some, ↓reduceIte, Bool.false_eq_true]; rfl, fun h => by omega⟩
    | true =>
      obtain ⟨j, hj1, hj2⟩ := hho k hk
      have hB := fun (K : Option Int32) => p_gA (show j < 36 by omega) (show 36 < 2 ^ 31 by omega) K
      by_cases h1 : ground j = 0
      · exact ⟨3, by omega, by simp only [fX0_whyNot, fX0_whyNot_b44, fX0_whyNotOfFamily, fX0_whyNotOfFamily_b36, p_isThere t hk, hg, q_ne, Option.bind_some, ↓reduceIte, hA, p_cl (show k < 2 ^ 31 by omega), hj2, p_at 36 (by omega) ground (show j < 36 by omega), h1]; rfl, by simp only [fX11_whyNot, fX11_whyNot_b117, p_isFamily ht hk, hg, q_ne, q_leT, Option.bind_some, ↓reduceIte, hA, p_cl (show k < 2 ^ 31 by omega), ha k hk, hj2, hB, p_cl (show j < 2 ^ 31 by omega), hhe j (by omega), h1]; rfl, fun h => by omega⟩
      · exact ⟨0, by omega, by simp only [fX0_whyNot, fX0_whyNot_b44, fX0_whyNotOfFamily, fX0_whyNotOfFamily_b36, p_isThere t hk, hg, q_ne, Option.bind_some, ↓reduceIte, hA, p_cl (show k < 2 ^ 31 by omega), hj2, p_at 36 (by omega) ground (show j < 36 by omega), h1]; rfl, by simp only [fX11_whyNot, fX11_whyNot_b117, p_isFamily ht hk, hg, q_ne, q_leT, Option.bind_some, ↓reduceIte, hA, p_cl (show k < 2 ^ 31 by omega), ha k hk, hj2, hB, p_cl (show j < 2 ^ 31 by omega), hhe j (by omega), h1]; rfl, fun _ => Or.inr (Or.inr (Or.inl ⟨rfl, k, hk, rfl, hg⟩))⟩
  · exact ⟨0, by omega, by simp only [fX0_whyNot, fX0_whyNot_b67, q_ne, ↓reduceIte]; rfl, by simp only [fX11_whyNot, q_ne, q_le, ↓reduceIte]; rfl, fun _ => Or.inr (Or.inr (Or.inr (Or.inl ⟨rfl, h3, h4, rfl⟩)))⟩
  · exact ⟨0, by omega, by simp only [fX0_whyNot, fX0_whyNot_b67, q_ne, ↓reduceIte]; rfl, by simp only [fX11_whyNot, q_ne, q_le, ↓reduceIte]; rfl, fun _ => Or.inr (Or.inr (Or.inr (Or.inr (Or.inl rfl))))⟩
  · exact ⟨0, by omega, by simp only [fX0_whyNot, fX0_whyNot_b67, q_ne, ↓reduceIte]; rfl, by simp only [fX11_whyNot, q_ne, q_le, ↓reduceIte]; rfl, fun _ => Or.inr (Or.inr (Or.inr (Or.inr (Or.inr (Or.inl rfl)))))⟩
  · obtain ⟨q, hq1, hq2⟩ := hh
    by_cases h1 : q < 99
    · have hlt : ho < 99 := by rw [hq2]; exact nI_lt (b := 99) h1 (by omega)
      have hne : ¬ ho = 99 := fun e => by rw [e] at hlt; exact absurd hlt (by decide)
      exact ⟨0, by omega, by simp only [fX0_whyNot, fX0_whyNot_b66, q_ne, ↓reduceIte, hlt]; rfl, by simp only [fX11_whyNot, fX11_whyNot_b20, ↓reduceIte, hne]; rfl, fun _ => Or.inr (Or.inr (Or.inr (Or.inr (Or.inr (Or.inr ⟨rfl, hlt⟩)))))⟩
    · have e : ho = 99 := by rw [hq2, show q = 99 by omega]; rfl
      have hnl : ¬ (99 : Int32) < 99 := by decide
      exact ⟨5, by omega, by simp only [fX0_whyNot, fX0_whyNot_b66, q_ne, ↓reduceIte, e, hnl]; rfl, by simp only [fX11_whyNot, fX11_whyNot_b20, ↓reduceIte, e]; rfl, fun h => by omega⟩
