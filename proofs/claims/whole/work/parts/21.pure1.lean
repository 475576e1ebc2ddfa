/-! pure facts: who lives where, what lies, what comes -/
theorem p6n {i : Nat} (h : i < 6) : ¬ (6 : Int32) ≤ nI i := nI_ge (b := 6) h (by omega)
theorem p6y : (6 : Int32) ≤ nI 6 := nI_le (a := 6) (b := 6) (by omega) (by omega)
theorem p36n {i : Nat} (h : i < 36) : ¬ (36 : Int32) ≤ nI i := nI_ge (b := 36) h (by omega)
theorem p36y : (36 : Int32) ≤ nI 36 := nI_le (a := 36) (b := 36) (by omega) (by omega)
theorem p6l {i : Nat} (h : i < 6) : nI i < (6 : Int32) := nI_lt (b := 6) h (by omega)
theorem p36l {i : Nat} (h : i < 36) : nI i < (36 : Int32) := nI_lt (b := 36) h (by omega)
theorem p_gPf {t : Int32} {k : Nat} (h : gP t k = false) : (t &&& (1 <<< (nI k &&& 31))) = 0 := Decidable.not_not.mp (of_decide_eq_false h)
theorem p_gPt {t : Int32} {k : Nat} (h : gP t k = true) : ¬ (t &&& (1 <<< (nI k &&& 31))) = 0 := of_decide_eq_true h
def gFst (p : Nat → Bool) : Nat → Nat → Int32
  | 0, _ => -1
  | d + 1, i => if p i = true then nI i else gFst p d (i + 1)
def gLst (p : Nat → Bool) : Nat → Nat → Int32 → Int32
  | 0, _, acc => acc
  | d + 1, i, acc => gLst p d (i + 1) (if p i = true then nI i else acc)
theorem gFst_no (p : Nat → Bool) : ∀ d i, (∀ k, i ≤ k → k < i + d → p k = false) → gFst p d i = -1
  | 0, _, _ => rfl
  | d + 1, i, h => by
    unfold gFst
    rw [if_neg (by rw [h i (Nat.le_refl _) (by omega)]; decide)]
    exact gFst_no p d (i + 1) (fun k h1 h2 => h k (by omega) (by omega))
theorem gLst_no (p : Nat → Bool) : ∀ d i acc, (∀ k, i ≤ k → k < i + d → p k = false) → gLst p d i acc = acc
  | 0, _, _, _ => rfl
  | d + 1, i, acc, h => by
    unfold gLst
    rw [if_neg (by rw [h i (Nat.le_refl _) (by omega)]; decide)]
    exact gLst_no p d (i + 1) acc (fun k h1 h2 => h k (by omega) (by omega))
theorem gFst_one (p : Nat → Bool) : ∀ d i k, i ≤ k → k < i + d → p k = true → (∀ j, i ≤ j → j < i + d → p j = true → j = k) → gFst p d i = nI k
  | 0, _, _, h1, h2, _, _ => by omega
  | d + 1, i, k, h1, h2, h3, h4 => by
    unfold gFst
    by_cases hi : p i = true
    · rw [if_pos hi, h4 i (Nat.le_refl _) (by omega) hi]
    · rw [if_neg hi]
      have hne : i ≠ k := fun e => hi (by rw [e]; exact h3)
      exact gFst_one p d (i + 1) k (by omega) (by omega) h3 (fun j a b c => h4 j (by omega) (by omega) c)
theorem gLst_one (p : Nat → Bool) : ∀ d i k acc, i ≤ k → k < i + d → p k = true → (∀ j, i ≤ j → j < i + d → p j = true → j = k) → gLst p d i acc = nI k
  | 0, _, _, _, h1, h2, _, _ => by omega
  | d + 1, i, k, acc, h1, h2, h3, h4 => by
    unfold gLst
    by_cases hi : p i = true
    · rw [if_pos hi]
      have e := h4 i (Nat.le_refl _) (by omega) hi
      subst e
      refine gLst_no p d (i + 1) (nI i) (fun j a b => ?_)
      cases hj : p j with
      | false => rfl
      | true => have := h4 j (by omega) (by omega) hj; omega
    · rw [if_neg hi]
      have hne : i ≠ k := fun e => hi (by rw [e]; exact h3)
      exact gLst_one p d (i + 1) k acc (by omega) (by omega) h3 (fun j a b c => h4 j (by omega) (by omega) c)
def p_m (t : Int32) (f : Nat → Int32) (x : Int32) (k : Nat) : Bool := gP t k && decide (f k = x)
theorem p_fAt (t : Int32) (home : Nat → Int32) (x : Int32) : ∀ d i n, i + d = 6 → d < n → fX6_familyAt_b2 t home n x (nI i) = some (gFst (p_m t home x) d i)
  | _, _, 0, _, h => by omega
  | 0, i, n + 1, h1, _ => by
    have e : i = 6 := by omega
    subst e
    unfold fX6_familyAt_b2
    rw [if_pos p6y]
    rfl
  | d + 1, i, n + 1, h1, h2 => by
    have hi : i < 6 := by omega
    have ih := p_fAt t home x d (i + 1) n (by omega) (by omega)
    unfold fX6_familyAt_b2 gFst fX6_familyAt_b31
    rw [if_neg (p6n hi), p_gA hi (by omega), p_cl (by omega), nI_1, ih]
    cases hg : gP t i with
    | false => rw [if_pos (p_gPf hg), if_neg (by simp [p_m, hg])]
    | true =>
      rw [if_neg (p_gPt hg)]
      by_cases hh : home i = x
      · rw [if_pos hh, if_pos (by simp [p_m, hg, hh])]
      · rw [if_neg hh, if_neg (by simp [p_m, hg, hh])]
theorem p_fOn {t : Int32} (ht : ∃ n, n < 64 ∧ t = nI n) (at' : Nat → Int32) (x : Int32) : ∀ d i n acc, i + d = 6 → d < n → fX11_familyOn_b5 t at' n x acc (nI i) = some (gLst (p_m t at' x) d i acc)
  | _, _, 0, _, _, h => by omega
  | 0, i, n + 1, acc, h1, _ => by
    have e : i = 6 := by omega
    subst e
    unfold fX11_familyOn_b5
    rw [if_pos p6y]
    rfl
  | d + 1, i, n + 1, acc, h1, h2 => by
    have hi : i < 6 := by omega
    have ih := fun a => p_fOn ht at' x d (i + 1) n a (by omega) (by omega)
    unfold fX11_familyOn_b5 gLst fX11_familyOn_b33 fX11_familyOn_b34
    rw [if_neg (p6n hi), p_isFamily ht hi, Option.bind_some, p_gA hi (by omega), p_cl (by omega), nI_1]
    cases hg : gP t i with
    | false =>
      rw [if_neg (by decide : ¬ (false = true)), if_pos rfl, ih, if_neg (by simp [p_m, hg])]
    | true =>
      rw [if_pos rfl, if_neg (by decide)]
      by_cases hh : at' i = x
      · rw [if_pos hh, ih, if_pos (by simp [p_m, hg, hh])]
      · rw [if_neg hh, ih, if_neg (by simp [p_m, hg, hh])]
def gI (n : Nat) (x : Int32) : Prop := ∃ k : Nat, k ≤ n ∧ x = nI k
def MInv (t w fo ra ho : Int32) (home seeds lungs blown ground : Nat → Int32) : Prop :=
  (∃ n, n < 64 ∧ t = nI n) ∧ gI 3 w ∧ gI 5 fo ∧ gI 1 ra ∧ gI 99 ho ∧ (∀ k, k < 6 → gI 35 (home k)) ∧ (∀ k, k < 6 → gI 60 (seeds k)) ∧ (∀ k, k < 6 → gI 9 (lungs k)) ∧ (∀ k, k < 6 → gI 9 (blown k)) ∧ (∀ j, j < 36 → gI 999 (ground j)) ∧ (∀ j k, j < 6 → k < 6 → gP t j = true → gP t k = true → home j = home k → j = k)
def MRel (t : Int32) (home seeds lungs blown ground at' stem lungs' blown' heap : Nat → Int32) : Prop :=
  (∀ k, k < 6 → at' k = home k) ∧ (∀ k, k < 6 → gP t k = true → stem k = seeds k) ∧ (∀ k, k < 6 → lungs' k = lungs k) ∧ (∀ k, k < 6 → blown' k = blown k) ∧ (∀ j, j < 36 → heap j = ground j)
/-- who lives on a field: both say the same -/
theorem p_who {t : Int32} {home at' : Nat → Int32} (ht : ∃ n, n < 64 ∧ t = nI n) (hd : ∀ j k, j < 6 → k < 6 → gP t j = true → gP t k = true → home j = home k → j = k) (ha : ∀ k, k < 6 → at' k = home k) (x : Int32) :
    (∃ k, k < 6 ∧ gP t k = true ∧ home k = x ∧ fX6_familyAt t home x = some (nI k) ∧ fX11_familyOn t at' x = some (nI k)) ∨ ((∀ k, k < 6 → gP t k = true → ¬ home k = x) ∧ fX6_familyAt t home x = some (-1) ∧ fX11_familyOn t at' x = some (-6)) := by
  have h1 : fX6_familyAt t home x = some (gFst (p_m t home x) 6 0) := p_fAt t home x 6 0 1000 (by omega) (by omega)
  have h2 : fX11_familyOn t at' x = some (gLst (p_m t at' x) 6 0 (-6)) := p_fOn ht at' x 6 0 1000 (-6) (by omega) (by omega)
  have hp : ∀ k, k < 6 → p_m t at' x k = p_m t home x k := fun k hk => by unfold p_m; rw [ha k hk]
  by_cases h : ∃ k, k < 6 ∧ p_m t home x k = true
  · obtain ⟨k, hk, hm⟩ := h
    have hm' := hm
    unfold p_m at hm'
    simp only [Bool.and_eq_true, decide_eq_true_eq] at hm'
    have huni : ∀ j, 0 ≤ j → j < 0 + 6 → p_m t home x j = true → j = k := by
      intro j _ hj hjm
      unfold p_m at hjm
      simp only [Bool.and_eq_true, decide_eq_true_eq] at hjm
      exact hd j k (by omega) hk hjm.1 hm'.1 (hjm.2.trans hm'.2.symm)
    refine Or.inl ⟨k, hk, hm'.1, hm'.2, ?_, ?_⟩
    · rw [h1, gFst_one _ 6 0 k (Nat.zero_le _) (by omega) hm huni]
    · rw [h2, gLst_one _ 6 0 k _ (Nat.zero_le _) (by omega) (by rw [hp k hk]; exact hm) (fun j a b c => huni j a b (by rw [← hp j (by omega)]; exact c))]
  · have hno : ∀ k, k < 6 → p_m t home x k = false := fun k hk => by
      cases hc : p_m t home x k with
      | false => rfl
      | true => exact absurd ⟨k, hk, hc⟩ h
    refine Or.inr ⟨fun k hk hg hx => ?_, ?_, ?_⟩
    · have := hno k hk
      unfold p_m at this
      simp [hg, hx] at this
    · rw [h1, gFst_no _ 6 0 (fun k _ b => hno k (by omega))]
    · rw [h2, gLst_no _ 6 0 _ (fun k _ b => by rw [hp k (by omega)]; exact hno k (by omega))]
/-! what lies -/
def gCap (m a : Int32) : Int32 := if a ≤ m then a else m
def gOver (m a : Int32) : Int32 := if a ≤ m then 0 else a - m
theorem gSub (m a : Int32) : a - gOver m a = gCap m a := by
  unfold gOver gCap
  split
  · exact Int32.sub_zero a
  · grind
theorem p_lie (lost : Int32) (ground : Nat → Int32) {j : Nat} (hj : j < 36) (x : Int32) : fX6_lieDown lost ground (nI j) x = some (lost + gOver 999 (ground j + x), upd ground j (gCap 999 (ground j + x))) := by
  have hs := gSub 999 (ground j + x)
  unfold fX6_lieDown fX6_lieDown_b46
  rw [if_neg (nI_pos (by omega)), if_pos (p36l hj), p_gA hj (by omega), p_gA hj (by omega), p_gA hj (by omega), p_cl (by omega)]
  by_cases h : ground j + x ≤ 999
  · have e : gOver 999 (ground j + x) = 0 := if_pos h
    rw [e] at hs
    rw [if_pos h, e, hs]
  · have e : gOver 999 (ground j + x) = ground j + x - 999 := if_neg h
    rw [e] at hs
    rw [if_neg h, e, hs]
theorem p_lieN (lost : Int32) (ground : Nat → Int32) (x : Int32) : fX6_lieDown lost ground (-1) x = some (lost + x, ground) := by
  unfold fX6_lieDown fX6_lieDown_b10
  rw [if_pos (by decide)]
theorem p_fall (lost : Int32) (heap : Nat → Int32) {j : Nat} (hj : j < 36) (x : Int32) : fX11_fall lost heap (nI j) x = some (lost + gOver 999 (heap j + x), upd heap j (gCap 999 (heap j + x))) := by
  unfold fX11_fall fX11_fall_b30 fX11_fall_b53 gOver gCap
  simp only [p_gA hj (show 36 < 2 ^ 31 by omega), p_cl (show j < 2 ^ 31 by omega)]
  by_cases h : heap j + x ≤ 999
  · simp only [if_pos h]
  · simp only [if_neg h]
theorem p_upd {f g : Nat → Int32} {n j : Nat} (h : ∀ k, k < n → f k = g k) {x y : Int32} (hx : x = y) : ∀ k, k < n → upd f j x k = upd g j y k := by
  intro k hk
  subst hx
  unfold upd
  by_cases e : k = j
  · rw [if_pos e, if_pos e]
  · rw [if_neg e, if_neg e, h k hk]
