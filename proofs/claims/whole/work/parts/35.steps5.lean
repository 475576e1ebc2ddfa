/-! the steps: lovers, pays -/
theorem p_mod {a b : Nat} (ha : a < 2 ^ 31) (hb : b < 2 ^ 31) : nI a % nI b = nI (a % b) := by
  apply Int32.toInt_inj.mp
  have h : a % b ≤ a := Nat.mod_le a b
  rw [Int32.toInt_mod, nI_toInt ha, nI_toInt hb, nI_toInt (by omega)]
  exact (Int.ofNat_tmod a b).symm
theorem p_gD {α : Type} {n : Nat} (h0 : 0 < n) (h : n < 2 ^ 31) (K : Option α) : gD (nI n) K = K := if_neg (nI_ne0 h0 h)
theorem co_lovers (x1 x2 x3 : Int32) : ∃ r, fX10_lovers x1 x2 x3 = some r ∧ fX11_lovers x1 x2 x3 = some r := by
  rcases p_both x1 0 99 (l := 0) (h := 99) (a := 0) (b := 99) rfl rfl (by decide) (by decide) (by omega) (by omega) with ⟨w1, w2, -⟩ | ⟨k, -, hk, rfl, w1, w2⟩
  · exact ⟨_, by (simp only [fX10_lovers, fX10_lovers_b29, w1, Option.bind_some, ↓reduceIte] <;> rfl), by (simp only [fX11_lovers, fX11_lovers_b34, w2, Option.bind_some, ↓reduceIte] <;> rfl)⟩
  rcases p_both x2 1 9 (l := 1) (h := 9) (a := 1) (b := 9) rfl rfl (by decide) (by decide) (by omega) (by omega) with ⟨w3, w4, -⟩ | ⟨m, hm1, hm, rfl, w3, w4⟩
  · exact ⟨_, by (simp only [fX10_lovers, fX10_lovers_b29, w1, w3, Option.bind_some, ↓reduceIte, q_ne] <;> rfl), by (simp only [fX11_lovers, fX11_lovers_b34, w2, w4, Option.bind_some, ↓reduceIte, q_ne] <;> rfl)⟩
  rcases p_both x3 0 1 (l := 0) (h := 1) (a := 0) (b := 1) rfl rfl (by decide) (by decide) (by omega) (by omega) with ⟨w5, w6, -⟩ | ⟨q, -, hq, rfl, w5, w6⟩
  · exact ⟨_, by (simp only [fX10_lovers, fX10_lovers_b29, w1, w3, w5, Option.bind_some, ↓reduceIte, q_ne] <;> rfl), by (simp only [fX11_lovers, fX11_lovers_b34, w2, w4, w6, Option.bind_some, ↓reduceIte, q_ne] <;> rfl)⟩
  have hD := fun (K : Option Int32) => p_gD (show 0 < m + 1 by omega) (show m + 1 < 2 ^ 31 by omega) K
  have hM : nI k % nI (m + 1) = nI (k % (m + 1)) := p_mod (by omega) (by omega)
  have hlt : k % (m + 1) ≤ k := Nat.mod_le _ _
  obtain rfl | rfl : q = 0 ∨ q = 1 := by omega
  · rw [show nI 0 = 0 from rfl] at w5 w6 ⊢
    by_cases h0 : k % (m + 1) = 0
    · have z : nI (k % (m + 1)) = 0 := by rw [h0]; rfl
      exact ⟨_, by (simp only [fX10_lovers, fX10_lovers_b53, w1, w3, w5, Option.bind_some, ↓reduceIte, q_ne, nI_1, hD, hM, z] <;> rfl), by (simp only [fX11_lovers, fX11_lovers_b73, w2, w4, w6, Option.bind_some, ↓reduceIte, q_ne, nI_1, hD, hM, z, Int32.le_refl] <;> rfl)⟩
    · have z : ¬ nI (k % (m + 1)) = 0 := nI_ne0 (by omega) (by omega)
      have z2 : ¬ nI (k % (m + 1)) ≤ 0 := nI_nle (by omega) (by omega)
      exact ⟨_, by (simp only [fX10_lovers, fX10_lovers_b53, w1, w3, w5, Option.bind_some, ↓reduceIte, q_ne, nI_1, hD, hM, z] <;> rfl), by (simp only [fX11_lovers, fX11_lovers_b73, w2, w4, w6, Option.bind_some, ↓reduceIte, q_ne, nI_1, hD, hM, z2] <;> rfl)⟩
  · rw [show nI 1 = 1 from rfl] at w5 w6 ⊢
    by_cases h0 : k % (m + 1) = 0
    · have z : nI (k % (m + 1)) = 0 := by rw [h0]; rfl
      exact ⟨_, by (simp only [fX10_lovers, fX10_lovers_b66, w1, w3, w5, Option.bind_some, ↓reduceIte, q_ne, nI_1, hD, hM, z] <;> rfl), by (simp only [fX11_lovers, fX11_lovers_b73, w2, w4, w6, Option.bind_some, ↓reduceIte, q_ne, nI_1, hD, hM, z, Int32.le_refl] <;> rfl)⟩
    · have z : ¬ nI (k % (m + 1)) = 0 := nI_ne0 (by omega) (by omega)
      have z2 : ¬ nI (k % (m + 1)) ≤ 0 := nI_nle (by omega) (by omega)
      exact ⟨_, by (simp only [fX10_lovers, fX10_lovers_b66, w1, w3, w5, Option.bind_some, ↓reduceIte, q_ne, nI_1, hD, hM, z] <;> rfl), by (simp only [fX11_lovers, fX11_lovers_b73, w2, w4, w6, Option.bind_some, ↓reduceIte, q_ne, nI_1, hD, hM, z2] <;> rfl)⟩
theorem st_lovers : gStep_lovers gRel := by
  intro v_x_imagesKept v_x_firstImage_meadow_families v_x_firstImage_meadow_wind v_x_firstImage_meadow_force v_x_firstImage_meadow_rain v_x_firstImage_meadow_lost v_x_firstImage_meadow_hour v_x_firstImage_sights_count v_x_now_meadow_families v_x_now_meadow_wind v_x_now_meadow_force v_x_now_meadow_rain v_x_now_meadow_lost v_x_now_meadow_hour v_x_now_sights_count v_x_pad_signs v_x_pad_acts v_x_pad_reading v_x_pad_begun v_x_pad_brokenAt v_x_secondImage_meadow_families v_x_secondImage_meadow_wind v_x_secondImage_meadow_force v_x_secondImage_meadow_rain v_x_secondImage_meadow_lost v_x_secondImage_meadow_hour v_x_secondImage_sights_count f_x_firstImage_meadow_home f_x_firstImage_meadow_seeds f_x_firstImage_meadow_lungs f_x_firstImage_meadow_blown f_x_firstImage_meadow_ground f_x_firstImage_sights_breaths f_x_firstImage_sights_flews f_x_now_meadow_home f_x_now_meadow_seeds f_x_now_meadow_lungs f_x_now_meadow_blown f_x_now_meadow_ground f_x_now_sights_breaths f_x_now_sights_flews f_x_pad_kinds f_x_pad_firsts f_x_pad_seconds f_x_secondImage_meadow_home f_x_secondImage_meadow_seeds f_x_secondImage_meadow_lungs f_x_secondImage_meadow_blown f_x_secondImage_meadow_ground f_x_secondImage_sights_breaths f_x_secondImage_sights_flews v_m_there v_m_wind v_m_force v_m_rains v_m_lost v_m_hours v_m_sights v_m_padMany f_m_at f_m_stem f_m_lungs f_m_blown f_m_heap f_m_sightBreath f_m_sightFlew f_m_pad f_m_kept f_m_isKept a0 a1 a2 hRel
  obtain ⟨hN, hS, hP, hI⟩ := hRel
  obtain ⟨r, e1, e2⟩ := co_lovers a0 a1 a2
  exact ⟨_, e1, e2, hN, hS, hP, hI⟩

/-- the wind that pays: a check of all pairs of fields -/
def p_paychk (i j : Nat) : Bool := match fX8_windBetween_b22 1000 (nI i) (nI j) 0, fX11_paysBy (nI i) (nI j) with
  | some a, some b => decide (a = b) && (decide (a = -6) || (List.range 46).any (fun c => decide (a = nI c)))
  | _, _ => false
theorem p_payall : (List.range 36).all (fun i => (List.range 36).all (fun j => p_paychk i j)) = true := by decide +kernel
theorem p_pay {i j : Nat} (hi : i < 36) (hj : j < 36) : (fX8_windBetween_b22 1000 (nI i) (nI j) 0 = some (-6) ∧ fX11_paysBy (nI i) (nI j) = some (-6)) ∨ ∃ c : Nat, c < 46 ∧ fX8_windBetween_b22 1000 (nI i) (nI j) 0 = some (nI c) ∧ fX11_paysBy (nI i) (nI j) = some (nI c) := by
  have h := List.all_eq_true.mp (List.all_eq_true.mp p_payall i (List.mem_range.mpr hi)) j (List.mem_range.mpr hj)
  unfold p_paychk at h
  generalize fX8_windBetween_b22 1000 (nI i) (nI j) 0 = a at h ⊢
  generalize fX11_paysBy (nI i) (nI j) = b at h ⊢
  cases a with
  | none => simp at h
  | some a =>
    cases b with
    | none => simp at h
    | some b =>
      simp only [Bool.or_eq_true, Bool.and_eq_true, decide_eq_true_eq, List.any_eq_true, List.mem_range] at h
      obtain ⟨rfl, h | ⟨c, hc, h⟩⟩ := h
      · exact Or.inl ⟨by rw [h], by rw [h]⟩
      · exact Or.inr ⟨c, hc, by rw [h], by rw [h]⟩
theorem p_bothTwo {t : Int32} (ht : ∃ n, n < 64 ∧ t = nI n) (x y : Int32) : (fX10_areTwo t x y = some 0 ∧ (fX11_isFamily t x = some 0 ∨ (fX11_isFamily t x = some 1 ∧ (fX11_isFamily t y = some 0 ∨ (fX11_isFamily t y = some 1 ∧ x = y))))) ∨ ∃ a b : Nat, a < 6 ∧ b < 6 ∧ a ≠ b ∧ x = nI a ∧ y = nI b ∧ gP t a = true ∧ gP t b = true ∧ ¬ x = y ∧ fX10_areTwo t x y = some 1 ∧ fX11_isFamily t x = some 1 ∧ fX11_isFamily t y = some 1 := by
  have g0 : gZ 0 (some (0 : Int32)) = some 0 := p_gZ0 _
  have g1 : gZ 1 (some (1 : Int32)) = some 1 := p_gZ1 _
  rcases p_bothT ht x with ⟨w1, w2⟩ | ⟨a, ha, rfl, hga, w1, w2⟩
  · refine Or.inl ⟨?_, Or.inl w2⟩
    by_cases e : x = y
    · simp only [fX10_areTwo, fX10_areTwo_b37, fX10_areTwo_b38, e, ↓reduceIte, g0]
    · simp only [fX10_areTwo, fX10_areTwo_b37, fX10_areTwo_b38, e, ↓reduceIte, g0, w1, Option.bind_some]
  · rcases p_bothT ht y with ⟨w3, w4⟩ | ⟨b, hb, rfl, hgb, w3, w4⟩
    · refine Or.inl ⟨?_, Or.inr ⟨w2, Or.inl w4⟩⟩
      by_cases e : nI a = y
      · simp only [fX10_areTwo, fX10_areTwo_b37, fX10_areTwo_b38, e, ↓reduceIte, g0]
      · simp only [fX10_areTwo, fX10_areTwo_b37, fX10_areTwo_b38, e, ↓reduceIte, g0, w1, w3, Option.bind_some, q_ne]
    · by_cases e : a = b
      · subst e
        refine Or.inl ⟨?_, Or.inr ⟨w2, Or.inr ⟨w4, rfl⟩⟩⟩
        simp only [fX10_areTwo, fX10_areTwo_b37, fX10_areTwo_b38, ↓reduceIte, g0]
      · have e2 : ¬ nI a = nI b := fun h => e ((nI_eq (by omega) (by omega)).mp h)
        refine Or.inr ⟨a, b, ha, hb, e, rfl, rfl, hga, hgb, e2, ?_, w2, w4⟩
        simp only [fX10_areTwo, fX10_areTwo_b38, e2, ↓reduceIte, g1, w1, w3, Option.bind_some, q_ne]
theorem st_pays : gStep_pays gRel := by
  intro v_x_imagesKept v_x_firstImage_meadow_families v_x_firstImage_meadow_wind v_x_firstImage_meadow_force v_x_firstImage_meadow_rain v_x_firstImage_meadow_lost v_x_firstImage_meadow_hour v_x_firstImage_sights_count v_x_now_meadow_families v_x_now_meadow_wind v_x_now_meadow_force v_x_now_meadow_rain v_x_now_meadow_lost v_x_now_meadow_hour v_x_now_sights_count v_x_pad_signs v_x_pad_acts v_x_pad_reading v_x_pad_begun v_x_pad_brokenAt v_x_secondImage_meadow_families v_x_secondImage_meadow_wind v_x_secondImage_meadow_force v_x_secondImage_meadow_rain v_x_secondImage_meadow_lost v_x_secondImage_meadow_hour v_x_secondImage_sights_count f_x_firstImage_meadow_home f_x_firstImage_meadow_seeds f_x_firstImage_meadow_lungs f_x_firstImage_meadow_blown f_x_firstImage_meadow_ground f_x_firstImage_sights_breaths f_x_firstImage_sights_flews f_x_now_meadow_home f_x_now_meadow_seeds f_x_now_meadow_lungs f_x_now_meadow_blown f_x_now_meadow_ground f_x_now_sights_breaths f_x_now_sights_flews f_x_pad_kinds f_x_pad_firsts f_x_pad_seconds f_x_secondImage_meadow_home f_x_secondImage_meadow_seeds f_x_secondImage_meadow_lungs f_x_secondImage_meadow_blown f_x_secondImage_meadow_ground f_x_secondImage_sights_breaths f_x_secondImage_sights_flews v_m_there v_m_wind v_m_force v_m_rains v_m_lost v_m_hours v_m_sights v_m_padMany f_m_at f_m_stem f_m_lungs f_m_blown f_m_heap f_m_sightBreath f_m_sightFlew f_m_pad f_m_kept f_m_isKept a0 a1 hRel
  obtain ⟨hN, hS, hP, hI⟩ := hRel
  have hN0 := hN
  obtain ⟨⟨e1, e2, e3, e4, e5, e6⟩, ⟨ht, hw, hf, hr, hh, hho, hse, hlu, hbl, hgr, hd⟩, ⟨ha, hst, hlr, hbr, hhe⟩⟩ := hN
  subst e1
  rcases p_bothTwo ht a0 a1 with ⟨w1, w2⟩ | ⟨a, b, ha6, hb6, hab, rfl, rfl, hga, hgb, hne, w1, w2, w3⟩
  · have w4 : fX11_pays v_m_there f_m_at a0 a1 = some (-1) := by
      rcases w2 with w2 | ⟨w2, w3 | ⟨w3, w4⟩⟩
      · simp only [fX11_pays, fX11_pays_b40, fX11_pays_b41, w2, Option.bind_some, ↓reduceIte]
      · simp only [fX11_pays, fX11_pays_b40, fX11_pays_b41, w2, w3, Option.bind_some, ↓reduceIte, q_ne]
      · simp only [fX11_pays, fX11_pays_b40, fX11_pays_b41, w2, w3, w4, Option.bind_some, ↓reduceIte, q_ne]
    exact ⟨_, by (simp only [fX10_pays, w1, Option.bind_some, ↓reduceIte] <;> rfl), w4, hN0, hS, hP, hI⟩
  obtain ⟨i, hi, hi2⟩ := hho a ha6
  obtain ⟨j, hj, hj2⟩ := hho b hb6
  have hA := fun {α : Type} (K : Option α) => p_gA ha6 (show 6 < 2 ^ 31 by omega) K
  have hB := fun {α : Type} (K : Option α) => p_gA hb6 (show 6 < 2 ^ 31 by omega) K
  have hX : ∃ v, fX8_windBetween_b22 1000 (nI i) (nI j) 0 = some v ∧ fX11_paysBy (nI i) (nI j) = some v := by
    rcases p_pay (show i < 36 by omega) (show j < 36 by omega) with ⟨h1, h2⟩ | ⟨c, hc, h1, h2⟩
    · exact ⟨_, h1, h2⟩
    · exact ⟨_, h1, h2⟩
  obtain ⟨v, v1, v2⟩ := hX
  have z1 : fX8_windBetween f_x_now_meadow_home (nI a) (nI b) = some v := by
    unfold fX8_windBetween
    rw [p_at 6 (by omega) f_x_now_meadow_home ha6, Option.bind_some, p_at 6 (by omega) f_x_now_meadow_home hb6, Option.bind_some, hi2, hj2]
    exact v1
  have z2 : fX11_paysBy (f_m_at a) (f_m_at b) = some v := by rw [ha a ha6, ha b hb6, hi2, hj2]; exact v2
  have q1 : fX10_pays v_m_there f_x_now_meadow_home (nI a) (nI b) = some v := by
    unfold fX10_pays
    rw [w1, Option.bind_some, if_neg (by decide), z1, Option.bind_some]
  have q2 : fX11_pays v_m_there f_m_at (nI a) (nI b) = some v := by
    unfold fX11_pays fX11_pays_b41
    rw [w2, Option.bind_some, if_neg (by decide), w3, Option.bind_some, if_neg (by decide), if_neg hne, hA, hB, p_cl (show a < 2 ^ 31 by omega), p_cl (show b < 2 ^ 31 by omega), z2, Option.bind_some]
  exact ⟨_, q1, q2, hN0, hS, hP, hI⟩

/-- the tax, told by one count -/
def gRem (t : Int32) (seeds : Nat → Int32) (x2 x3 : Int32) : Nat → Nat → Int32 → Int32
  | 0, _, x => x
  | d + 1, i, x => gRem t seeds x2 x3 d (i + 1) (x - if gP t i = true then (x2 * seeds i) / x3 else 0)
def gRic (t : Int32) (seeds : Nat → Int32) (k : Nat) : Nat → Nat → Int32 → Int32
  | 0, _, x => x
  | d + 1, i, x => gRic t seeds k d (i + 1) (x + if gP t i = true ∧ (seeds k < seeds i ∨ (seeds i = seeds k ∧ i < k)) then 1 else 0)
theorem p_ric (t : Int32) (seeds : Nat → Int32) {k : Nat} (hk : k < 6) : ∀ (d i n : Nat) (x : Int32), i + d = 6 → d < n → fX8_richerThan_b14 t seeds n (nI k) (seeds k) x (nI i) = some (gRic t seeds k d i x)
  | _, _, 0, _, _, h => by omega
  | 0, i, n + 1, x, h1, _ => by
    have e : i = 6 := by omega
    subst e
    simp only [fX8_richerThan_b14, p6y, ↓reduceIte, gRic]
  | d + 1, i, n + 1, x, h1, h2 => by
    have hi : i < 6 := by omega
    have hA := fun {α : Type} (K : Option α) => p_gA hi (show 6 < 2 ^ 31 by omega) K
    have hcl := p_cl (show i < 2 ^ 31 by omega)
    have ih := fun y => p_ric t seeds hk d (i + 1) n y (by omega) (by omega)
    have hle : (nI k ≤ nI i) ↔ k ≤ i := nI_leI (by omega) (by omega)
    unfold gRic
    simp only [fX8_richerThan_b14, p6n hi, ↓reduceIte, hA, hcl]
    have h54 : ∀ s0 : Int32, (s0 = 0 ∨ s0 = 1) → fX8_richerThan_b54 (fX8_richerThan_b14 t seeds n) t seeds (nI k) (seeds k) x (nI i) s0 = some (gRic t seeds k d (i + 1) (x + if gP t i = true ∧ s0 = 1 then 1 else 0)) := by
      intro s0 hs0
      cases hg : gP t i with
      | false => simp only [fX8_richerThan_b54, fX8_richerThan_b75, fX8_richerThan_b76, p_isThere t hi, hg, Bool.false_eq_true, Option.bind_some, ↓reduceIte, false_and, nI_1, ih]
      | true =>
        rcases hs0 with rfl | rfl
        · simp only [fX8_richerThan_b54, fX8_richerThan_b75, fX8_richerThan_b76, p_isThere t hi, hg, Option.bind_some, ↓reduceIte, q_ne, and_false, nI_1, ih]
        · simp only [fX8_richerThan_b54, fX8_richerThan_b76, p_isThere t hi, hg, Option.bind_some, ↓reduceIte, q_ne, and_self, nI_1, ih]
    by_cases h1 : seeds k < seeds i
    · simp only [h1, ↓reduceIte, fX8_richerThan_b49, h54 1 (Or.inr rfl), true_or, and_true]
    · by_cases h2 : seeds i = seeds k
      · by_cases h3 : k ≤ i
        · have h4 : ¬ i < k := by omega
          have h1' : ¬ seeds k < seeds k := by rw [h2] at h1; exact h1
          simp only [h2, h1', hle.mpr h3, h4, ↓reduceIte, fX8_richerThan_b53, h54 0 (Or.inl rfl), and_false, or_self, q_ne]
        · have h4 : i < k := by omega
          have h1' : ¬ seeds k < seeds k := by rw [h2] at h1; exact h1
          have h5 : ¬ nI k ≤ nI i := fun h => h3 (hle.mp h)
          simp only [h2, h1', h5, h4, ↓reduceIte, fX8_richerThan_b49, h54 1 (Or.inr rfl), and_true, or_true]
      · simp only [h1, h2, ↓reduceIte, fX8_richerThan_b53, h54 0 (Or.inl rfl), false_and, or_self, and_false, q_ne]
theorem p_rem (t : Int32) (seeds : Nat → Int32) {k : Nat} (hk : k < 6) (x2 : Int32) {v : Nat} (hv0 : 0 < v) (hv : v < 2 ^ 31) : ∀ (d i n : Nat) (x : Int32), i + d = 6 → d < n → fX8_taxOf_b17 t seeds n (nI k) x2 (nI v) x (nI i) = some (if gRem t seeds x2 (nI v) d i x ≤ gRic t seeds k 6 0 0 then (x2 * seeds k) / nI v else (x2 * seeds k) / nI v + 1)
  | _, _, 0, _, _, h => by omega
  | 0, i, n + 1, x, h1, _ => by
    have e : i = 6 := by omega
    subst e
    have hr : fX8_richerThan t seeds (nI k) = some (gRic t seeds k 6 0 0) := by
      simp only [fX8_richerThan, p_at 6 (by omega) seeds hk, Option.bind_some]
      exact p_ric t seeds hk 6 0 1000 0 (by omega) (by omega)
    by_cases hle : x ≤ gRic t seeds k 6 0 0
    · simp only [fX8_taxOf_b17, fX8_taxOf_b92, p6y, ↓reduceIte, p_at 6 (by omega) seeds hk, Option.bind_some, p_gD hv0 hv, hr, gRem, hle]
    · simp only [fX8_taxOf_b17, fX8_taxOf_b92, p6y, ↓reduceIte, p_at 6 (by omega) seeds hk, Option.bind_some, p_gD hv0 hv, hr, gRem, hle]
  | d + 1, i, n + 1, x, h1, h2 => by
    have hi : i < 6 := by omega
    have hA := fun {α : Type} (K : Option α) => p_gA hi (show 6 < 2 ^ 31 by omega) K
    have hcl := p_cl (show i < 2 ^ 31 by omega)
    have ih := fun y => p_rem t seeds hk x2 hv0 hv d (i + 1) n y (by omega) (by omega)
    cases hg : gP t i with
    | false => simp only [fX8_taxOf_b17, fX8_taxOf_b50, p6n hi, p_isThere t hi, hg, Bool.false_eq_true, ↓reduceIte, Option.bind_some, nI_1, ih, gRem]
    | true => simp only [fX8_taxOf_b17, fX8_taxOf_b50, p6n hi, p_isThere t hi, hg, ↓reduceIte, Option.bind_some, q_ne, hA, hcl, p_gD hv0 hv, nI_1, ih, gRem]
theorem p_taxM {t : Int32} (ht : ∃ n, n < 64 ∧ t = nI n) {seeds stem : Nat → Int32} (hst : ∀ k, k < 6 → gP t k = true → stem k = seeds k) {k : Nat} (hk : k < 6) (hgk : gP t k = true) (x2 : Int32) {v : Nat} (hv0 : 0 < v) (hv : v < 2 ^ 31) : ∀ (d i n : Nat) (x c : Int32), i + d = 6 → d < n → fX11_tax_b45 t stem n (nI k) x2 (nI v) x c (nI i) = some (if gRem t seeds x2 (nI v) d i x ≤ gRic t seeds k d i c then (x2 * seeds k) / nI v else (x2 * seeds k) / nI v + 1)
  | _, _, 0, _, _, _, h => by omega
  | 0, i, n + 1, x, c, h1, _ => by
    have e : i = 6 := by omega
    subst e
    have hK := fun {α : Type} (K : Option α) => p_gA hk (show 6 < 2 ^ 31 by omega) K
    by_cases hle : x ≤ c
    · simp only [fX11_tax_b45, fX11_tax_b178, p6y, ↓reduceIte, hK, p_cl (show k < 2 ^ 31 by omega), hst k hk hgk, p_gD hv0 hv, gRem, gRic, hle, Int32.add_zero]
    · simp only [fX11_tax_b45, fX11_tax_b178, p6y, ↓reduceIte, hK, p_cl (show k < 2 ^ 31 by omega), hst k hk hgk, p_gD hv0 hv, gRem, gRic, hle]
  | d + 1, i, n + 1, x, c, h1, h2 => by
    have hi : i < 6 := by omega
    have hA := fun {α : Type} (K : Option α) => p_gA hi (show 6 < 2 ^ 31 by omega) K
    have hK := fun {α : Type} (K : Option α) => p_gA hk (show 6 < 2 ^ 31 by omega) K
    have hcl := p_cl (show i < 2 ^ 31 by omega)
    have hck := p_cl (show k < 2 ^ 31 by omega)
    have ih := fun y z => p_taxM ht hst hk hgk x2 hv0 hv d (i + 1) n y z (by omega) (by omega)
    have hle : (nI k ≤ nI i) ↔ k ≤ i := nI_leI (by omega) (by omega)
    unfold gRem gRic
    cases hg : gP t i with
    | false =>
      have h124 : ∀ y s0, fX11_tax_b124 (fX11_tax_b45 t stem n) t stem (nI k) x2 (nI v) y c (nI i) s0 = some (if gRem t seeds x2 (nI v) d (i + 1) y ≤ gRic t seeds k d (i + 1) (c + 0) then (x2 * seeds k) / nI v else (x2 * seeds k) / nI v + 1) := by
        intro y s0
        simp only [fX11_tax_b124, fX11_tax_b146, fX11_tax_b147, p_isFamily ht hi, hg, Bool.false_eq_true, Option.bind_some, ↓reduceIte, nI_1, ih]
      simp only [fX11_tax_b45, fX11_tax_b78, fX11_tax_b119, fX11_tax_b123, p6n hi, p_isFamily ht hi, hg, Bool.false_eq_true, ↓reduceIte, Option.bind_some, hA, hK, h124, ite_self, false_and]
    | true =>
      have h124 : ∀ y s0, (s0 = 0 ∨ s0 = 1) → fX11_tax_b124 (fX11_tax_b45 t stem n) t stem (nI k) x2 (nI v) y c (nI i) s0 = some (if gRem t seeds x2 (nI v) d (i + 1) y ≤ gRic t seeds k d (i + 1) (c + s0) then (x2 * seeds k) / nI v else (x2 * seeds k) / nI v + 1) := by
        intro y s0 hs0
        rcases hs0 with rfl | rfl
        · simp only [fX11_tax_b124, fX11_tax_b146, fX11_tax_b147, p_isFamily ht hi, hg, Option.bind_some, ↓reduceIte, q_ne, nI_1, ih]
        · simp only [fX11_tax_b124, fX11_tax_b147, p_isFamily ht hi, hg, Option.bind_some, ↓reduceIte, q_ne, nI_1, ih]
      have hb := hst i hi hg
      have hb2 := hst k hk hgk
      simp only [fX11_tax_b45, fX11_tax_b78, p6n hi, p_isFamily ht hi, hg, ↓reduceIte, Option.bind_some, q_ne, hA, hK, hcl, hck, hb, hb2, p_gD hv0 hv, true_and]
      by_cases h1 : seeds k < seeds i
      · simp only [h1, ↓reduceIte, fX11_tax_b119, h124 _ 1 (Or.inr rfl), true_or]
      · by_cases h2 : seeds i = seeds k
        · have h1' : ¬ seeds k < seeds k := by rw [h2] at h1; exact h1
          by_cases h3 : k ≤ i
          · have h4 : ¬ i < k := by omega
            simp only [h2, h1', hle.mpr h3, h4, ↓reduceIte, fX11_tax_b123, h124 _ 0 (Or.inl rfl), and_false, or_self]
          · have h4 : i < k := by omega
            have h5 : ¬ nI k ≤ nI i := fun h => h3 (hle.mp h)
            simp only [h2, h1', h5, h4, ↓reduceIte, fX11_tax_b119, h124 _ 1 (Or.inr rfl), and_true, or_true]
        · simp only [h1, h2, ↓reduceIte, fX11_tax_b123, h124 _ 0 (Or.inl rfl), false_and, or_self]
theorem p_sumSN {t : Int32} (ht : ∃ n, n < 64 ∧ t = nI n) {seeds stem : Nat → Int32} (hse : ∀ k, k < 6 → gI 60 (seeds k)) (hst : ∀ k, k < 6 → gP t k = true → stem k = seeds k) : ∀ (d i n n' a : Nat), i + d = 6 → d < n → d < n' → ∃ v, v ≤ a + 60 * d ∧ fX6_allSeeds_b4 t seeds n (nI a) (nI i) = some (nI v) ∧ fX11_allSeeds_b4 t stem n' (nI a) (nI i) = some (nI v)
  | _, _, 0, _, _, _, h, _ => by omega
  | _, _, _, 0, _, _, _, h => by omega
  | 0, i, n + 1, n' + 1, a, h1, _, _ => by
    have e : i = 6 := by omega
    subst e
    exact ⟨a, by omega, by simp only [fX6_allSeeds_b4, p6y, ↓reduceIte], by simp only [fX11_allSeeds_b4, p6y, ↓reduceIte]⟩
  | d + 1, i, n + 1, n' + 1, a, h1, h2, h3 => by
    have hi : i < 6 := by omega
    have hA := fun {α : Type} (K : Option α) => p_gA hi (show 6 < 2 ^ 31 by omega) K
    have hcl := p_cl (show i < 2 ^ 31 by omega)
    cases hg : gP t i with
    | false =>
      obtain ⟨v, hv, e1, e2⟩ := p_sumSN ht hse hst d (i + 1) n n' a (by omega) (by omega) (by omega)
      exact ⟨v, by omega, by simp only [fX6_allSeeds_b4, fX6_allSeeds_b29, p6n hi, p_isThere t hi, hg, Bool.false_eq_true, Option.bind_some, ↓reduceIte, nI_1, Int32.add_zero, e1], by simp only [fX11_allSeeds_b4, fX11_allSeeds_b29, p6n hi, p_isFamily ht hi, hg, Bool.false_eq_true, Option.bind_some, ↓reduceIte, nI_1, Int32.add_zero, e2]⟩
    | true =>
      obtain ⟨s, hs, hs2⟩ := hse i hi
      obtain ⟨v, hv, e1, e2⟩ := p_sumSN ht hse hst d (i + 1) n n' (a + s) (by omega) (by omega) (by omega)
      exact ⟨v, by omega, by simp only [fX6_allSeeds_b4, fX6_allSeeds_b29, p6n hi, p_isThere t hi, hg, Option.bind_some, ↓reduceIte, q_ne, hA, hcl, hs2, nI_add, nI_1, e1], by simp only [fX11_allSeeds_b4, fX11_allSeeds_b29, p6n hi, p_isFamily ht hi, hg, Option.bind_some, ↓reduceIte, q_ne, hA, hcl, hst i hi hg, hs2, nI_add, nI_1, e2]⟩
theorem st_tax : gStep_tax gRel := by
  intro v_x_imagesKept v_x_firstImage_meadow_families v_x_firstImage_meadow_wind v_x_firstImage_meadow_force v_x_firstImage_meadow_rain v_x_firstImage_meadow_lost v_x_firstImage_meadow_hour v_x_firstImage_sights_count v_x_now_meadow_families v_x_now_meadow_wind v_x_now_meadow_force v_x_now_meadow_rain v_x_now_meadow_lost v_x_now_meadow_hour v_x_now_sights_count v_x_pad_signs v_x_pad_acts v_x_pad_reading v_x_pad_begun v_x_pad_brokenAt v_x_secondImage_meadow_families v_x_secondImage_meadow_wind v_x_secondImage_meadow_force v_x_secondImage_meadow_rain v_x_secondImage_meadow_lost v_x_secondImage_meadow_hour v_x_secondImage_sights_count f_x_firstImage_meadow_home f_x_firstImage_meadow_seeds f_x_firstImage_meadow_lungs f_x_firstImage_meadow_blown f_x_firstImage_meadow_ground f_x_firstImage_sights_breaths f_x_firstImage_sights_flews f_x_now_meadow_home f_x_now_meadow_seeds f_x_now_meadow_lungs f_x_now_meadow_blown f_x_now_meadow_ground f_x_now_sights_breaths f_x_now_sights_flews f_x_pad_kinds f_x_pad_firsts f_x_pad_seconds f_x_secondImage_meadow_home f_x_secondImage_meadow_seeds f_x_secondImage_meadow_lungs f_x_secondImage_meadow_blown f_x_secondImage_meadow_ground f_x_secondImage_sights_breaths f_x_secondImage_sights_flews v_m_there v_m_wind v_m_force v_m_rains v_m_lost v_m_hours v_m_sights v_m_padMany f_m_at f_m_stem f_m_lungs f_m_blown f_m_heap f_m_sightBreath f_m_sightFlew f_m_pad f_m_kept f_m_isKept a0 a1 hRel
  obtain ⟨hN, hS, hP, hI⟩ := hRel
  have hN0 := hN
  obtain ⟨⟨e1, e2, e3, e4, e5, e6⟩, ⟨ht, hw, hf, hr, hh, hho, hse, hlu, hbl, hgr, hd⟩, ⟨ha, hst, hlr, hbr, hhe⟩⟩ := hN
  subst e1
  rcases p_bothT ht a0 with ⟨w1, w2⟩ | ⟨k, hk, rfl, hg, w1, w2⟩
  · exact ⟨_, by (simp only [fX10_tax, w1, Option.bind_some, ↓reduceIte] <;> rfl), by (simp only [fX11_tax, w2, Option.bind_some, ↓reduceIte] <;> rfl), hN0, hS, hP, hI⟩
  rcases p_both a1 0 999 (l := 0) (h := 999) (a := 0) (b := 999) rfl rfl (by decide) (by decide) (by omega) (by omega) with ⟨w3, w4, -⟩ | ⟨m, -, hm, rfl, w3, w4⟩
  · exact ⟨_, by (simp only [fX10_tax, w1, w3, Option.bind_some, ↓reduceIte, q_ne] <;> rfl), by (simp only [fX11_tax, w2, w4, Option.bind_some, ↓reduceIte, q_ne] <;> rfl), hN0, hS, hP, hI⟩
  obtain ⟨v, hv, v1, v2⟩ := p_sumSN ht hse hst 6 0 1000 1000 0 (by omega) (by omega) (by omega)
  have v1' : fX6_allSeeds v_m_there f_x_now_meadow_seeds = some (nI v) := v1
  have v2' : fX11_allSeeds v_m_there f_m_stem = some (nI v) := v2
  by_cases hv0 : v = 0
  · subst hv0
    have z : ¬ (0 : Int32) < nI 0 := by decide
    have z2 : nI 0 = 0 := rfl
    exact ⟨_, by (simp only [fX10_tax, fX8_taxOf, w1, w3, v1', z, Option.bind_some, ↓reduceIte, q_ne] <;> rfl), by (simp only [fX11_tax, w2, w4, v2', eq_true z2, Option.bind_some, ↓reduceIte, q_ne] <;> rfl), hN0, hS, hP, hI⟩
  have z : (0 : Int32) < nI v := nI_lt (a := 0) (by omega) (by omega)
  have z2 : ¬ nI v = 0 := nI_ne0 (by omega) (by omega)
  have u1 := p_rem v_m_there f_x_now_meadow_seeds hk (nI m) (show 0 < v by omega) (show v < 2 ^ 31 by omega) 6 0 1000 (nI m) (by omega) (by omega)
  have u2 := p_taxM ht hst hk hg (nI m) (show 0 < v by omega) (show v < 2 ^ 31 by omega) 6 0 1000 (nI m) 0 (by omega) (by omega)
  have u1' : fX8_taxOf_b17 v_m_there f_x_now_meadow_seeds 1000 (nI k) (nI m) (nI v) (nI m) 0 = _ := u1
  have u2' : fX11_tax_b45 v_m_there f_m_stem 1000 (nI k) (nI m) (nI v) (nI m) 0 0 = _ := u2
  exact ⟨_, by (simp only [fX10_tax, fX8_taxOf, w1, w3, v1', z, u1', Option.bind_some, ↓reduceIte, q_ne] <;> rfl), by (simp only [fX11_tax, w2, w4, v2', z2, u2', Option.bind_some, ↓reduceIte, q_ne] <;> rfl), hN0, hS, hP, hI⟩

