/-! the steps: behind, lies, total, ruined, done -/
theorem st_behind : gStep_behind gRel := by
  intro v_x_imagesKept v_x_firstImage_meadow_families v_x_firstImage_meadow_wind v_x_firstImage_meadow_force v_x_firstImage_meadow_rain v_x_firstImage_meadow_lost v_x_firstImage_meadow_hour v_x_firstImage_sights_count v_x_now_meadow_families v_x_now_meadow_wind v_x_now_meadow_force v_x_now_meadow_rain v_x_now_meadow_lost v_x_now_meadow_hour v_x_now_sights_count v_x_pad_signs v_x_pad_acts v_x_pad_reading v_x_pad_begun v_x_pad_brokenAt v_x_secondImage_meadow_families v_x_secondImage_meadow_wind v_x_secondImage_meadow_force v_x_secondImage_meadow_rain v_x_secondImage_meadow_lost v_x_secondImage_meadow_hour v_x_secondImage_sights_count f_x_firstImage_meadow_home f_x_firstImage_meadow_seeds f_x_firstImage_meadow_lungs f_x_firstImage_meadow_blown f_x_firstImage_meadow_ground f_x_firstImage_sights_breaths f_x_firstImage_sights_flews f_x_now_meadow_home f_x_now_meadow_seeds f_x_now_meadow_lungs f_x_now_meadow_blown f_x_now_meadow_ground f_x_now_sights_breaths f_x_now_sights_flews f_x_pad_kinds f_x_pad_firsts f_x_pad_seconds f_x_secondImage_meadow_home f_x_secondImage_meadow_seeds f_x_secondImage_meadow_lungs f_x_secondImage_meadow_blown f_x_secondImage_meadow_ground f_x_secondImage_sights_breaths f_x_secondImage_sights_flews v_m_there v_m_wind v_m_force v_m_rains v_m_lost v_m_hours v_m_sights v_m_padMany f_m_at f_m_stem f_m_lungs f_m_blown f_m_heap f_m_sightBreath f_m_sightFlew f_m_pad f_m_kept f_m_isKept v_x_hours_barredAct v_x_hours_barredWhy v_x_hours_flown v_x_hours_ruinAct v_x_hours_ruinFamily v_x_hours_meadow_families v_x_hours_meadow_wind v_x_hours_meadow_force v_x_hours_meadow_rain v_x_hours_meadow_lost v_x_hours_meadow_hour f_x_hours_meadow_home f_x_hours_meadow_seeds f_x_hours_meadow_lungs f_x_hours_meadow_blown f_x_hours_meadow_ground v_m_acts v_m_blownMany v_m_badAct v_m_badWhy v_m_ruinAct v_m_ruinWho f_m_act f_m_who f_m_much f_m_had a0 a1 hRel
  obtain ⟨hN, hS, hP, hI⟩ := hRel
  obtain ⟨⟨e1, e2, e3, e4, e5, e6⟩, hMI, hMR⟩ := hN
  subst e1 e2 e3 e4 e5 e6
  rcases p_bothT hMI.1 a0 with ⟨w1, w2⟩ | ⟨k, hk, rfl, hg, w1, w2⟩
  · exact ⟨_, _, _, _, _, _, _, _, _, _, _, _, _, _, _, _, _, _, _, _, _, _, _, _, _, _, _, _, _, _, _, _, _, _, _, by (simp only [fX10_behind, w1, Option.bind_some, ↓reduceIte, q_ne] <;> rfl), by (simp only [fX11_behind, w2, Option.bind_some, ↓reduceIte, q_ne] <;> rfl), ⟨⟨rfl, rfl, rfl, rfl, rfl, rfl⟩, hMI, hMR⟩, hS, hP, hI⟩
  rcases p_both a1 0 1 (l := 0) (h := 1) (a := 0) (b := 1) rfl rfl (by decide) (by decide) (by omega) (by omega) with ⟨w3, w4, -⟩ | ⟨q, -, hq, rfl, w3, w4⟩
  · exact ⟨_, _, _, _, _, _, _, _, _, _, _, _, _, _, _, _, _, _, _, _, _, _, _, _, _, _, _, _, _, _, _, _, _, _, _, by (simp only [fX10_behind, w1, w3, Option.bind_some, ↓reduceIte, q_ne] <;> rfl), by (simp only [fX11_behind, w2, w4, Option.bind_some, ↓reduceIte, q_ne] <;> rfl), ⟨⟨rfl, rfl, rfl, rfl, rfl, rfl⟩, hMI, hMR⟩, hS, hP, hI⟩
  have hA := fun {α : Type} (K : Option α) => p_gA hk (show 6 < 2 ^ 31 by omega) K
  have hcl := p_cl (show k < 2 ^ 31 by omega)
  obtain ⟨ac, A, W, M, had, k1, hk2⟩ := p_run (lost := v_m_lost) hMI hMR hP v_x_hours_barredAct v_x_hours_barredWhy v_x_hours_flown v_x_hours_ruinAct v_x_hours_ruinFamily v_x_hours_meadow_families v_x_hours_meadow_wind v_x_hours_meadow_force v_x_hours_meadow_rain v_x_hours_meadow_lost v_x_hours_meadow_hour f_x_hours_meadow_home f_x_hours_meadow_seeds f_x_hours_meadow_lungs f_x_hours_meadow_blown f_x_hours_meadow_ground v_m_acts v_m_blownMany v_m_badAct v_m_badWhy v_m_ruinAct v_m_ruinWho f_m_act f_m_who f_m_much f_m_had
  rcases hk2 with ⟨r1, r2⟩ | ⟨rfl, s0, s1, ba, bw, fl, rA, rF, w1', fo1, ra1, lost1, ho1, seeds1, blown1, ground1, stem1, blown2, heap1, r1, r2, hMI1, hMR1, r3⟩
  · obtain ⟨stem', blown', heap', b1, b2, b3, b4⟩ := p_back k1 v_m_wind v_m_force v_m_rains v_m_lost v_m_hours (-5) f_m_stem f_m_blown f_m_heap
    exact ⟨_, _, _, _, _, _, _, _, _, _, _, _, _, _, _, _, _, _, _, _, _, _, _, _, _, _, _, _, _, _, _, _, _, _, _, by (simp only [fX10_behind, w1, w3, r1, Option.bind_some, ↓reduceIte, q_ne] <;> rfl), by (simp only [fX11_behind, fX11_behind_b58, w2, w4, r2, b1, Option.bind_some, ↓reduceIte, q_ne] <;> rfl), ⟨⟨rfl, rfl, rfl, rfl, rfl, rfl⟩, hMI, p_mcongr hMR b2 b3 b4⟩, hS, hP, hI⟩
  · rcases r3 with ⟨rfl, rfl⟩ | ⟨rfl, rfl⟩
    · obtain rfl | rfl : q = 0 ∨ q = 1 := by omega
      · rw [show nI 0 = 0 from rfl] at w3 w4 ⊢
        obtain ⟨stem', blown', heap', b1, b2, b3, b4⟩ := p_back k1 w1' fo1 ra1 lost1 ho1 (seeds1 k) stem1 blown2 heap1
        exact ⟨_, _, _, _, _, _, _, _, _, _, _, _, _, _, _, _, _, _, _, _, _, _, _, _, _, _, _, _, _, _, _, _, _, _, _, by (simp only [fX10_behind, fX10_behind_b84, w1, w3, r1, hA, hcl, Option.bind_some, ↓reduceIte, q_ne] <;> rfl), by (simp only [fX11_behind, fX11_behind_b58, w2, w4, r2, hA, hcl, hMR1.2.1 k hk hg, b1, Option.bind_some, ↓reduceIte, q_ne] <;> rfl), ⟨⟨rfl, rfl, rfl, rfl, rfl, rfl⟩, hMI, p_mcongr hMR b2 b3 b4⟩, hS, hP, hI⟩
      · rw [show nI 1 = 1 from rfl] at w3 w4 ⊢
        obtain ⟨stem', blown', heap', b1, b2, b3, b4⟩ := p_back k1 w1' fo1 ra1 lost1 ho1 (blown1 k) stem1 blown2 heap1
        exact ⟨_, _, _, _, _, _, _, _, _, _, _, _, _, _, _, _, _, _, _, _, _, _, _, _, _, _, _, _, _, _, _, _, _, _, _, by (simp only [fX10_behind, fX10_behind_b84, w1, w3, r1, hA, hcl, Option.bind_some, ↓reduceIte, q_ne] <;> rfl), by (simp only [fX11_behind, fX11_behind_b58, w2, w4, r2, hA, hcl, hMR1.2.2.2.1 k hk, b1, Option.bind_some, ↓reduceIte, q_ne] <;> rfl), ⟨⟨rfl, rfl, rfl, rfl, rfl, rfl⟩, hMI, p_mcongr hMR b2 b3 b4⟩, hS, hP, hI⟩
    · obtain ⟨stem', blown', heap', b1, b2, b3, b4⟩ := p_back k1 w1' fo1 ra1 lost1 ho1 (-3) stem1 blown2 heap1
      exact ⟨_, _, _, _, _, _, _, _, _, _, _, _, _, _, _, _, _, _, _, _, _, _, _, _, _, _, _, _, _, _, _, _, _, _, _, by (simp only [fX10_behind, fX10_behind_b84, w1, w3, r1, Option.bind_some, ↓reduceIte, q_ne] <;> rfl), by (simp only [fX11_behind, fX11_behind_b58, w2, w4, r2, b1, Option.bind_some, ↓reduceIte, q_ne] <;> rfl), ⟨⟨rfl, rfl, rfl, rfl, rfl, rfl⟩, hMI, p_mcongr hMR b2 b3 b4⟩, hS, hP, hI⟩

theorem st_lies : gStep_lies gRel := by
  intro v_x_imagesKept v_x_firstImage_meadow_families v_x_firstImage_meadow_wind v_x_firstImage_meadow_force v_x_firstImage_meadow_rain v_x_firstImage_meadow_lost v_x_firstImage_meadow_hour v_x_firstImage_sights_count v_x_now_meadow_families v_x_now_meadow_wind v_x_now_meadow_force v_x_now_meadow_rain v_x_now_meadow_lost v_x_now_meadow_hour v_x_now_sights_count v_x_pad_signs v_x_pad_acts v_x_pad_reading v_x_pad_begun v_x_pad_brokenAt v_x_secondImage_meadow_families v_x_secondImage_meadow_wind v_x_secondImage_meadow_force v_x_secondImage_meadow_rain v_x_secondImage_meadow_lost v_x_secondImage_meadow_hour v_x_secondImage_sights_count f_x_firstImage_meadow_home f_x_firstImage_meadow_seeds f_x_firstImage_meadow_lungs f_x_firstImage_meadow_blown f_x_firstImage_meadow_ground f_x_firstImage_sights_breaths f_x_firstImage_sights_flews f_x_now_meadow_home f_x_now_meadow_seeds f_x_now_meadow_lungs f_x_now_meadow_blown f_x_now_meadow_ground f_x_now_sights_breaths f_x_now_sights_flews f_x_pad_kinds f_x_pad_firsts f_x_pad_seconds f_x_secondImage_meadow_home f_x_secondImage_meadow_seeds f_x_secondImage_meadow_lungs f_x_secondImage_meadow_blown f_x_secondImage_meadow_ground f_x_secondImage_sights_breaths f_x_secondImage_sights_flews v_m_there v_m_wind v_m_force v_m_rains v_m_lost v_m_hours v_m_sights v_m_padMany f_m_at f_m_stem f_m_lungs f_m_blown f_m_heap f_m_sightBreath f_m_sightFlew f_m_pad f_m_kept f_m_isKept v_x_hours_barredAct v_x_hours_barredWhy v_x_hours_flown v_x_hours_ruinAct v_x_hours_ruinFamily v_x_hours_meadow_families v_x_hours_meadow_wind v_x_hours_meadow_force v_x_hours_meadow_rain v_x_hours_meadow_lost v_x_hours_meadow_hour f_x_hours_meadow_home f_x_hours_meadow_seeds f_x_hours_meadow_lungs f_x_hours_meadow_blown f_x_hours_meadow_ground v_m_acts v_m_blownMany v_m_badAct v_m_badWhy v_m_ruinAct v_m_ruinWho f_m_act f_m_who f_m_much f_m_had a0 hRel
  obtain ⟨hN, hS, hP, hI⟩ := hRel
  obtain ⟨⟨e1, e2, e3, e4, e5, e6⟩, hMI, hMR⟩ := hN
  subst e1 e2 e3 e4 e5 e6
  rcases p_bothF a0 with ⟨w1, w2⟩ | ⟨k, hk, rfl, w1, w2⟩
  · exact ⟨_, _, _, _, _, _, _, _, _, _, _, _, _, _, _, _, _, _, _, _, _, _, _, _, _, _, _, _, _, _, _, _, _, _, _, by (simp only [fX10_lies, w1, Option.bind_some, ↓reduceIte, q_ne] <;> rfl), by (simp only [fX11_lies, w2, Option.bind_some, ↓reduceIte, q_ne] <;> rfl), ⟨⟨rfl, rfl, rfl, rfl, rfl, rfl⟩, hMI, hMR⟩, hS, hP, hI⟩
  have hA := fun {α : Type} (K : Option α) => p_gA hk (show 36 < 2 ^ 31 by omega) K
  have hcl := p_cl (show k < 2 ^ 31 by omega)
  obtain ⟨ac, A, W, M, had, k1, hk2⟩ := p_run (lost := v_m_lost) hMI hMR hP v_x_hours_barredAct v_x_hours_barredWhy v_x_hours_flown v_x_hours_ruinAct v_x_hours_ruinFamily v_x_hours_meadow_families v_x_hours_meadow_wind v_x_hours_meadow_force v_x_hours_meadow_rain v_x_hours_meadow_lost v_x_hours_meadow_hour f_x_hours_meadow_home f_x_hours_meadow_seeds f_x_hours_meadow_lungs f_x_hours_meadow_blown f_x_hours_meadow_ground v_m_acts v_m_blownMany v_m_badAct v_m_badWhy v_m_ruinAct v_m_ruinWho f_m_act f_m_who f_m_much f_m_had
  rcases hk2 with ⟨r1, r2⟩ | ⟨rfl, s0, s1, ba, bw, fl, rA, rF, w1', fo1, ra1, lost1, ho1, seeds1, blown1, ground1, stem1, blown2, heap1, r1, r2, hMI1, hMR1, r3⟩
  · obtain ⟨stem', blown', heap', b1, b2, b3, b4⟩ := p_back k1 v_m_wind v_m_force v_m_rains v_m_lost v_m_hours (-5) f_m_stem f_m_blown f_m_heap
    exact ⟨_, _, _, _, _, _, _, _, _, _, _, _, _, _, _, _, _, _, _, _, _, _, _, _, _, _, _, _, _, _, _, _, _, _, _, by (simp only [fX10_lies, fX10_lies_b49, w1, r1, Option.bind_some, ↓reduceIte, q_ne] <;> rfl), by (simp only [fX11_lies, fX11_lies_b32, w2, r2, b1, Option.bind_some, ↓reduceIte, q_ne] <;> rfl), ⟨⟨rfl, rfl, rfl, rfl, rfl, rfl⟩, hMI, p_mcongr hMR b2 b3 b4⟩, hS, hP, hI⟩
  · rcases r3 with ⟨rfl, rfl⟩ | ⟨rfl, rfl⟩
    · obtain ⟨stem', blown', heap', b1, b2, b3, b4⟩ := p_back k1 w1' fo1 ra1 lost1 ho1 (ground1 k) stem1 blown2 heap1
      exact ⟨_, _, _, _, _, _, _, _, _, _, _, _, _, _, _, _, _, _, _, _, _, _, _, _, _, _, _, _, _, _, _, _, _, _, _, by (simp only [fX10_lies, fX10_lies_b49, w1, r1, hA, hcl, Option.bind_some, ↓reduceIte, q_ne] <;> rfl), by (simp only [fX11_lies, fX11_lies_b32, w2, r2, hA, hcl, hMR1.2.2.2.2 k hk, b1, Option.bind_some, ↓reduceIte, q_ne] <;> rfl), ⟨⟨rfl, rfl, rfl, rfl, rfl, rfl⟩, hMI, p_mcongr hMR b2 b3 b4⟩, hS, hP, hI⟩
    · obtain ⟨stem', blown', heap', b1, b2, b3, b4⟩ := p_back k1 w1' fo1 ra1 lost1 ho1 (-3) stem1 blown2 heap1
      exact ⟨_, _, _, _, _, _, _, _, _, _, _, _, _, _, _, _, _, _, _, _, _, _, _, _, _, _, _, _, _, _, _, _, _, _, _, by (simp only [fX10_lies, fX10_lies_b49, w1, r1, Option.bind_some, ↓reduceIte, q_ne] <;> rfl), by (simp only [fX11_lies, fX11_lies_b32, w2, r2, b1, Option.bind_some, ↓reduceIte, q_ne] <;> rfl), ⟨⟨rfl, rfl, rfl, rfl, rfl, rfl⟩, hMI, p_mcongr hMR b2 b3 b4⟩, hS, hP, hI⟩

theorem p_sumS {t : Int32} (ht : ∃ n, n < 64 ∧ t = nI n) {seeds stem : Nat → Int32} (hst : ∀ k, k < 6 → gP t k = true → stem k = seeds k) : ∀ (d i n n' : Nat) (x : Int32), i + d = 6 → d < n → d < n' → ∃ v, fX6_allSeeds_b4 t seeds n x (nI i) = some v ∧ fX11_allSeeds_b4 t stem n' x (nI i) = some v
  | _, _, 0, _, _, _, h, _ => by omega
  | _, _, _, 0, _, _, _, h => by omega
  | 0, i, n + 1, n' + 1, x, h1, _, _ => by
    have e : i = 6 := by omega
    subst e
    exact ⟨x, by simp only [fX6_allSeeds_b4, p6y, ↓reduceIte], by simp only [fX11_allSeeds_b4, p6y, ↓reduceIte]⟩
  | d + 1, i, n + 1, n' + 1, x, h1, h2, h3 => by
    have hi : i < 6 := by omega
    have hA := fun {α : Type} (K : Option α) => p_gA hi (show 6 < 2 ^ 31 by omega) K
    have hcl := p_cl (show i < 2 ^ 31 by omega)
    cases hg : gP t i with
    | false =>
      obtain ⟨v, e1, e2⟩ := p_sumS ht hst d (i + 1) n n' (x + 0) (by omega) (by omega) (by omega)
      exact ⟨v, by simp only [fX6_allSeeds_b4, fX6_allSeeds_b29, p6n hi, p_isThere t hi, hg, Bool.false_eq_true, Option.bind_some, ↓reduceIte, nI_1, e1], by simp only [fX11_allSeeds_b4, fX11_allSeeds_b29, p6n hi, p_isFamily ht hi, hg, Bool.false_eq_true, Option.bind_some, ↓reduceIte, nI_1, e2]⟩
    | true =>
      obtain ⟨v, e1, e2⟩ := p_sumS ht hst d (i + 1) n n' (x + seeds i) (by omega) (by omega) (by omega)
      exact ⟨v, by simp only [fX6_allSeeds_b4, fX6_allSeeds_b29, p6n hi, p_isThere t hi, hg, Option.bind_some, ↓reduceIte, q_ne, hA, hcl, nI_1, e1], by simp only [fX11_allSeeds_b4, fX11_allSeeds_b29, p6n hi, p_isFamily ht hi, hg, Option.bind_some, ↓reduceIte, q_ne, hA, hcl, hst i hi hg, nI_1, e2]⟩
theorem p_sumR {N : Nat} (hN : N < 1000) {f : Nat → Int32} : ∀ (d i n : Nat) (x : Int32), i + d = N → d < n → ∃ v, fX10_sumOfRow_b4 N f n x (nI i) = some v
  | _, _, 0, _, _, h => by omega
  | 0, i, n + 1, x, h1, _ => by
    have e : i = N := by omega
    subst e
    exact ⟨x, by simp only [fX10_sumOfRow_b4, show Int32.ofNat i ≤ nI i from nI_le (Nat.le_refl _) (by omega), ↓reduceIte]⟩
  | d + 1, i, n + 1, x, h1, h2 => by
    have hi : i < N := by omega
    obtain ⟨v, e1⟩ := p_sumR hN (f := f) d (i + 1) n (x + f i) (by omega) (by omega)
    exact ⟨v, by simp only [fX10_sumOfRow_b4, show ¬ Int32.ofNat N ≤ nI i from nI_ge hi (by omega), ↓reduceIte, p_gA hi (show N < 2 ^ 31 by omega), p_cl (show i < 2 ^ 31 by omega), nI_1, e1]⟩
theorem p_sumL {ground heap : Nat → Int32} (hh : ∀ j, j < 36 → heap j = ground j) : ∀ (d i n n' : Nat) (x : Int32), i + d = 36 → d < n → d < n' → ∃ v, fX10_sumOfRow_b4 36 ground n x (nI i) = some v ∧ fX11_allLies_b4 heap n' x (nI i) = some v
  | _, _, 0, _, _, _, h, _ => by omega
  | _, _, _, 0, _, _, _, h => by omega
  | 0, i, n + 1, n' + 1, x, h1, _, _ => by
    have e : i = 36 := by omega
    subst e
    exact ⟨x, by simp only [fX10_sumOfRow_b4, show Int32.ofNat 36 ≤ nI 36 from nI_le (Nat.le_refl _) (by omega), ↓reduceIte], by simp only [fX11_allLies_b4, p36y, ↓reduceIte]⟩
  | d + 1, i, n + 1, n' + 1, x, h1, h2, h3 => by
    have hi : i < 36 := by omega
    have hA := fun {α : Type} (K : Option α) => p_gA hi (show 36 < 2 ^ 31 by omega) K
    have hcl := p_cl (show i < 2 ^ 31 by omega)
    obtain ⟨v, e1, e2⟩ := p_sumL hh d (i + 1) n n' (x + ground i) (by omega) (by omega) (by omega)
    exact ⟨v, by simp only [fX10_sumOfRow_b4, show ¬ Int32.ofNat 36 ≤ nI i from nI_ge hi (by omega), ↓reduceIte, hA, hcl, nI_1, e1], by simp only [fX11_allLies_b4, p36n hi, ↓reduceIte, hA, hcl, hh i hi, nI_1, e2]⟩
theorem st_total : gStep_total gRel := by
  intro v_x_imagesKept v_x_firstImage_meadow_families v_x_firstImage_meadow_wind v_x_firstImage_meadow_force v_x_firstImage_meadow_rain v_x_firstImage_meadow_lost v_x_firstImage_meadow_hour v_x_firstImage_sights_count v_x_now_meadow_families v_x_now_meadow_wind v_x_now_meadow_force v_x_now_meadow_rain v_x_now_meadow_lost v_x_now_meadow_hour v_x_now_sights_count v_x_pad_signs v_x_pad_acts v_x_pad_reading v_x_pad_begun v_x_pad_brokenAt v_x_secondImage_meadow_families v_x_secondImage_meadow_wind v_x_secondImage_meadow_force v_x_secondImage_meadow_rain v_x_secondImage_meadow_lost v_x_secondImage_meadow_hour v_x_secondImage_sights_count f_x_firstImage_meadow_home f_x_firstImage_meadow_seeds f_x_firstImage_meadow_lungs f_x_firstImage_meadow_blown f_x_firstImage_meadow_ground f_x_firstImage_sights_breaths f_x_firstImage_sights_flews f_x_now_meadow_home f_x_now_meadow_seeds f_x_now_meadow_lungs f_x_now_meadow_blown f_x_now_meadow_ground f_x_now_sights_breaths f_x_now_sights_flews f_x_pad_kinds f_x_pad_firsts f_x_pad_seconds f_x_secondImage_meadow_home f_x_secondImage_meadow_seeds f_x_secondImage_meadow_lungs f_x_secondImage_meadow_blown f_x_secondImage_meadow_ground f_x_secondImage_sights_breaths f_x_secondImage_sights_flews v_m_there v_m_wind v_m_force v_m_rains v_m_lost v_m_hours v_m_sights v_m_padMany f_m_at f_m_stem f_m_lungs f_m_blown f_m_heap f_m_sightBreath f_m_sightFlew f_m_pad f_m_kept f_m_isKept v_x_hours_barredAct v_x_hours_barredWhy v_x_hours_flown v_x_hours_ruinAct v_x_hours_ruinFamily v_x_hours_meadow_families v_x_hours_meadow_wind v_x_hours_meadow_force v_x_hours_meadow_rain v_x_hours_meadow_lost v_x_hours_meadow_hour f_x_hours_meadow_home f_x_hours_meadow_seeds f_x_hours_meadow_lungs f_x_hours_meadow_blown f_x_hours_meadow_ground v_m_acts v_m_blownMany v_m_badAct v_m_badWhy v_m_ruinAct v_m_ruinWho f_m_act f_m_who f_m_much f_m_had a0 hRel
  obtain ⟨hN, hS, hP, hI⟩ := hRel
  obtain ⟨⟨e1, e2, e3, e4, e5, e6⟩, hMI, hMR⟩ := hN
  subst e1 e2 e3 e4 e5 e6
  rcases p_both a0 0 3 (l := 0) (h := 3) (a := 0) (b := 3) rfl rfl (by decide) (by decide) (by omega) (by omega) with ⟨w1, w2, -⟩ | ⟨q, -, hq, rfl, w1, w2⟩
  · exact ⟨_, _, _, _, _, _, _, _, _, _, _, _, _, _, _, _, _, _, _, _, _, _, _, _, _, _, _, _, _, _, _, _, _, _, _, by (simp only [fX10_total, w1, Option.bind_some, ↓reduceIte, q_ne] <;> rfl), by (simp only [fX11_total, w2, Option.bind_some, ↓reduceIte, q_ne] <;> rfl), ⟨⟨rfl, rfl, rfl, rfl, rfl, rfl⟩, hMI, hMR⟩, hS, hP, hI⟩
  obtain ⟨ac, A, W, M, had, k1, hk2⟩ := p_run (lost := v_m_lost) hMI hMR hP v_x_hours_barredAct v_x_hours_barredWhy v_x_hours_flown v_x_hours_ruinAct v_x_hours_ruinFamily v_x_hours_meadow_families v_x_hours_meadow_wind v_x_hours_meadow_force v_x_hours_meadow_rain v_x_hours_meadow_lost v_x_hours_meadow_hour f_x_hours_meadow_home f_x_hours_meadow_seeds f_x_hours_meadow_lungs f_x_hours_meadow_blown f_x_hours_meadow_ground v_m_acts v_m_blownMany v_m_badAct v_m_badWhy v_m_ruinAct v_m_ruinWho f_m_act f_m_who f_m_much f_m_had
  rcases hk2 with ⟨r1, r2⟩ | ⟨rfl, s0, s1, ba, bw, fl, rA, rF, w1', fo1, ra1, lost1, ho1, seeds1, blown1, ground1, stem1, blown2, heap1, r1, r2, hMI1, hMR1, r3⟩
  · obtain ⟨stem', blown', heap', b1, b2, b3, b4⟩ := p_back k1 v_m_wind v_m_force v_m_rains v_m_lost v_m_hours (-5) f_m_stem f_m_blown f_m_heap
    exact ⟨_, _, _, _, _, _, _, _, _, _, _, _, _, _, _, _, _, _, _, _, _, _, _, _, _, _, _, _, _, _, _, _, _, _, _, by (simp only [fX10_total, w1, r1, Option.bind_some, ↓reduceIte, q_ne] <;> rfl), by (simp only [fX11_total, fX11_total_b70, w2, r2, b1, Option.bind_some, ↓reduceIte, q_ne] <;> rfl), ⟨⟨rfl, rfl, rfl, rfl, rfl, rfl⟩, hMI, p_mcongr hMR b2 b3 b4⟩, hS, hP, hI⟩
  · rcases r3 with ⟨rfl, rfl⟩ | ⟨rfl, rfl⟩
    · obtain rfl | rfl | rfl | rfl : q = 0 ∨ q = 1 ∨ q = 2 ∨ q = 3 := by omega
      · rw [show nI 0 = 0 from rfl] at w1 w2 ⊢
        obtain ⟨v, v1, v2⟩ := p_sumS hMI1.1 hMR1.2.1 6 0 1000 1000 0 (by omega) (by omega) (by omega)
        have v1' : fX6_allSeeds v_m_there seeds1 = some v := v1
        have v2' : fX11_allSeeds v_m_there stem1 = some v := v2
        obtain ⟨stem', blown', heap', b1, b2, b3, b4⟩ := p_back k1 w1' fo1 ra1 lost1 ho1 v stem1 blown2 heap1
        exact ⟨_, _, _, _, _, _, _, _, _, _, _, _, _, _, _, _, _, _, _, _, _, _, _, _, _, _, _, _, _, _, _, _, _, _, _, by (simp only [fX10_total, fX10_total_b66, fX10_sumOf, w1, r1, v1', Option.bind_some, ↓reduceIte, q_ne] <;> rfl), by (simp only [fX11_total, fX11_total_b70, w2, r2, v2', b1, Option.bind_some, ↓reduceIte, q_ne] <;> rfl), ⟨⟨rfl, rfl, rfl, rfl, rfl, rfl⟩, hMI, p_mcongr hMR b2 b3 b4⟩, hS, hP, hI⟩
      · rw [show nI 1 = 1 from rfl] at w1 w2 ⊢
        obtain ⟨v, v1, v2⟩ := p_sumL hMR1.2.2.2.2 36 0 1000 1000 0 (by omega) (by omega) (by omega)
        have v1' : fX6_allLying ground1 = some v := by rw [fX6_allLying, show fX10_sumOfRow 36 ground1 = some v from v1, Option.bind_some]
        have v2' : fX11_allLies heap1 = some v := v2
        obtain ⟨stem', blown', heap', b1, b2, b3, b4⟩ := p_back k1 w1' fo1 ra1 lost1 ho1 v stem1 blown2 heap1
        exact ⟨_, _, _, _, _, _, _, _, _, _, _, _, _, _, _, _, _, _, _, _, _, _, _, _, _, _, _, _, _, _, _, _, _, _, _, by (simp only [fX10_total, fX10_total_b66, fX10_sumOf, w1, r1, v1', Option.bind_some, ↓reduceIte, q_ne] <;> rfl), by (simp only [fX11_total, fX11_total_b70, w2, r2, v2', b1, Option.bind_some, ↓reduceIte, q_ne] <;> rfl), ⟨⟨rfl, rfl, rfl, rfl, rfl, rfl⟩, hMI, p_mcongr hMR b2 b3 b4⟩, hS, hP, hI⟩
      · rw [show nI 2 = 2 from rfl] at w1 w2 ⊢
        obtain ⟨stem', blown', heap', b1, b2, b3, b4⟩ := p_back k1 w1' fo1 ra1 lost1 ho1 lost1 stem1 blown2 heap1
        exact ⟨_, _, _, _, _, _, _, _, _, _, _, _, _, _, _, _, _, _, _, _, _, _, _, _, _, _, _, _, _, _, _, _, _, _, _, by (simp only [fX10_total, fX10_total_b66, fX10_sumOf, w1, r1, Option.bind_some, ↓reduceIte, q_ne] <;> rfl), by (simp only [fX11_total, fX11_total_b70, w2, r2, b1, Option.bind_some, ↓reduceIte, q_ne] <;> rfl), ⟨⟨rfl, rfl, rfl, rfl, rfl, rfl⟩, hMI, p_mcongr hMR b2 b3 b4⟩, hS, hP, hI⟩
      · rw [show nI 3 = 3 from rfl] at w1 w2 ⊢
        obtain ⟨stem', blown', heap', b1, b2, b3, b4⟩ := p_back k1 w1' fo1 ra1 lost1 ho1 ho1 stem1 blown2 heap1
        exact ⟨_, _, _, _, _, _, _, _, _, _, _, _, _, _, _, _, _, _, _, _, _, _, _, _, _, _, _, _, _, _, _, _, _, _, _, by (simp only [fX10_total, fX10_total_b66, fX10_sumOf, w1, r1, Option.bind_some, ↓reduceIte, q_ne] <;> rfl), by (simp only [fX11_total, fX11_total_b70, w2, r2, b1, Option.bind_some, ↓reduceIte, q_ne] <;> rfl), ⟨⟨rfl, rfl, rfl, rfl, rfl, rfl⟩, hMI, p_mcongr hMR b2 b3 b4⟩, hS, hP, hI⟩
    · obtain ⟨stem', blown', heap', b1, b2, b3, b4⟩ := p_back k1 w1' fo1 ra1 lost1 ho1 (-3) stem1 blown2 heap1
      exact ⟨_, _, _, _, _, _, _, _, _, _, _, _, _, _, _, _, _, _, _, _, _, _, _, _, _, _, _, _, _, _, _, _, _, _, _, by (simp only [fX10_total, w1, r1, Option.bind_some, ↓reduceIte, q_ne] <;> rfl), by (simp only [fX11_total, fX11_total_b70, w2, r2, b1, Option.bind_some, ↓reduceIte, q_ne] <;> rfl), ⟨⟨rfl, rfl, rfl, rfl, rfl, rfl⟩, hMI, p_mcongr hMR b2 b3 b4⟩, hS, hP, hI⟩

theorem st_ruined : gStep_ruined gRel := by
  intro v_x_imagesKept v_x_firstImage_meadow_families v_x_firstImage_meadow_wind v_x_firstImage_meadow_force v_x_firstImage_meadow_rain v_x_firstImage_meadow_lost v_x_firstImage_meadow_hour v_x_firstImage_sights_count v_x_now_meadow_families v_x_now_meadow_wind v_x_now_meadow_force v_x_now_meadow_rain v_x_now_meadow_lost v_x_now_meadow_hour v_x_now_sights_count v_x_pad_signs v_x_pad_acts v_x_pad_reading v_x_pad_begun v_x_pad_brokenAt v_x_secondImage_meadow_families v_x_secondImage_meadow_wind v_x_secondImage_meadow_force v_x_secondImage_meadow_rain v_x_secondImage_meadow_lost v_x_secondImage_meadow_hour v_x_secondImage_sights_count f_x_firstImage_meadow_home f_x_firstImage_meadow_seeds f_x_firstImage_meadow_lungs f_x_firstImage_meadow_blown f_x_firstImage_meadow_ground f_x_firstImage_sights_breaths f_x_firstImage_sights_flews f_x_now_meadow_home f_x_now_meadow_seeds f_x_now_meadow_lungs f_x_now_meadow_blown f_x_now_meadow_ground f_x_now_sights_breaths f_x_now_sights_flews f_x_pad_kinds f_x_pad_firsts f_x_pad_seconds f_x_secondImage_meadow_home f_x_secondImage_meadow_seeds f_x_secondImage_meadow_lungs f_x_secondImage_meadow_blown f_x_secondImage_meadow_ground f_x_secondImage_sights_breaths f_x_secondImage_sights_flews v_m_there v_m_wind v_m_force v_m_rains v_m_lost v_m_hours v_m_sights v_m_padMany f_m_at f_m_stem f_m_lungs f_m_blown f_m_heap f_m_sightBreath f_m_sightFlew f_m_pad f_m_kept f_m_isKept v_x_hours_barredAct v_x_hours_barredWhy v_x_hours_flown v_x_hours_ruinAct v_x_hours_ruinFamily v_x_hours_meadow_families v_x_hours_meadow_wind v_x_hours_meadow_force v_x_hours_meadow_rain v_x_hours_meadow_lost v_x_hours_meadow_hour f_x_hours_meadow_home f_x_hours_meadow_seeds f_x_hours_meadow_lungs f_x_hours_meadow_blown f_x_hours_meadow_ground v_m_acts v_m_blownMany v_m_badAct v_m_badWhy v_m_ruinAct v_m_ruinWho f_m_act f_m_who f_m_much f_m_had a0 hRel
  obtain ⟨hN, hS, hP, hI⟩ := hRel
  obtain ⟨⟨e1, e2, e3, e4, e5, e6⟩, hMI, hMR⟩ := hN
  subst e1 e2 e3 e4 e5 e6
  rcases p_both a0 0 1 (l := 0) (h := 1) (a := 0) (b := 1) rfl rfl (by decide) (by decide) (by omega) (by omega) with ⟨w1, w2, -⟩ | ⟨q, -, hq, rfl, w1, w2⟩
  · exact ⟨_, _, _, _, _, _, _, _, _, _, _, _, _, _, _, _, _, _, _, _, _, _, _, _, _, _, _, _, _, _, _, _, _, _, _, by (simp only [fX10_ruined, w1, Option.bind_some, ↓reduceIte, q_ne] <;> rfl), by (simp only [fX11_ruined, w2, Option.bind_some, ↓reduceIte, q_ne] <;> rfl), ⟨⟨rfl, rfl, rfl, rfl, rfl, rfl⟩, hMI, hMR⟩, hS, hP, hI⟩
  obtain ⟨ac, A, W, M, had, k1, hk2⟩ := p_run (lost := v_m_lost) hMI hMR hP v_x_hours_barredAct v_x_hours_barredWhy v_x_hours_flown v_x_hours_ruinAct v_x_hours_ruinFamily v_x_hours_meadow_families v_x_hours_meadow_wind v_x_hours_meadow_force v_x_hours_meadow_rain v_x_hours_meadow_lost v_x_hours_meadow_hour f_x_hours_meadow_home f_x_hours_meadow_seeds f_x_hours_meadow_lungs f_x_hours_meadow_blown f_x_hours_meadow_ground v_m_acts v_m_blownMany v_m_badAct v_m_badWhy v_m_ruinAct v_m_ruinWho f_m_act f_m_who f_m_much f_m_had
  rcases hk2 with ⟨r1, r2⟩ | ⟨rfl, s0, s1, ba, bw, fl, rA, rF, w1', fo1, ra1, lost1, ho1, seeds1, blown1, ground1, stem1, blown2, heap1, r1, r2, hMI1, hMR1, r3⟩
  · obtain ⟨stem', blown', heap', b1, b2, b3, b4⟩ := p_back k1 v_m_wind v_m_force v_m_rains v_m_lost v_m_hours (-5) f_m_stem f_m_blown f_m_heap
    exact ⟨_, _, _, _, _, _, _, _, _, _, _, _, _, _, _, _, _, _, _, _, _, _, _, _, _, _, _, _, _, _, _, _, _, _, _, by (simp only [fX10_ruined, w1, r1, Option.bind_some, ↓reduceIte, q_ne] <;> rfl), by (simp only [fX11_ruined, fX11_ruined_b47, w2, r2, b1, Option.bind_some, ↓reduceIte, q_ne] <;> rfl), ⟨⟨rfl, rfl, rfl, rfl, rfl, rfl⟩, hMI, p_mcongr hMR b2 b3 b4⟩, hS, hP, hI⟩
  · rcases r3 with ⟨rfl, rfl⟩ | ⟨rfl, rfl⟩
    · obtain rfl | rfl : q = 0 ∨ q = 1 := by omega
      · rw [show nI 0 = 0 from rfl] at w1 w2 ⊢
        obtain ⟨stem', blown', heap', b1, b2, b3, b4⟩ := p_back k1 w1' fo1 ra1 lost1 ho1 (-6) stem1 blown2 heap1
        exact ⟨_, _, _, _, _, _, _, _, _, _, _, _, _, _, _, _, _, _, _, _, _, _, _, _, _, _, _, _, _, _, _, _, _, _, _, by (simp only [fX10_ruined, fX10_ruined_b58, w1, r1, Option.bind_some, ↓reduceIte, q_ne] <;> rfl), by (simp only [fX11_ruined, fX11_ruined_b47, w2, r2, b1, Option.bind_some, ↓reduceIte, q_ne] <;> rfl), ⟨⟨rfl, rfl, rfl, rfl, rfl, rfl⟩, hMI, p_mcongr hMR b2 b3 b4⟩, hS, hP, hI⟩
      · rw [show nI 1 = 1 from rfl] at w1 w2 ⊢
        obtain ⟨stem', blown', heap', b1, b2, b3, b4⟩ := p_back k1 w1' fo1 ra1 lost1 ho1 (-6) stem1 blown2 heap1
        exact ⟨_, _, _, _, _, _, _, _, _, _, _, _, _, _, _, _, _, _, _, _, _, _, _, _, _, _, _, _, _, _, _, _, _, _, _, by (simp only [fX10_ruined, fX10_ruined_b58, w1, r1, Option.bind_some, ↓reduceIte, q_ne] <;> rfl), by (simp only [fX11_ruined, fX11_ruined_b47, w2, r2, b1, Option.bind_some, ↓reduceIte, q_ne] <;> rfl), ⟨⟨rfl, rfl, rfl, rfl, rfl, rfl⟩, hMI, p_mcongr hMR b2 b3 b4⟩, hS, hP, hI⟩
    · obtain ⟨stem', blown', heap', b1, b2, b3, b4⟩ := p_back k1 w1' fo1 ra1 lost1 ho1 (-3) stem1 blown2 heap1
      exact ⟨_, _, _, _, _, _, _, _, _, _, _, _, _, _, _, _, _, _, _, _, _, _, _, _, _, _, _, _, _, _, _, _, _, _, _, by (simp only [fX10_ruined, w1, r1, Option.bind_some, ↓reduceIte, q_ne] <;> rfl), by (simp only [fX11_ruined, fX11_ruined_b47, w2, r2, b1, Option.bind_some, ↓reduceIte, q_ne] <;> rfl), ⟨⟨rfl, rfl, rfl, rfl, rfl, rfl⟩, hMI, p_mcongr hMR b2 b3 b4⟩, hS, hP, hI⟩

theorem st_done : gStep_done gRel := by
  intro v_x_imagesKept v_x_firstImage_meadow_families v_x_firstImage_meadow_wind v_x_firstImage_meadow_force v_x_firstImage_meadow_rain v_x_firstImage_meadow_lost v_x_firstImage_meadow_hour v_x_firstImage_sights_count v_x_now_meadow_families v_x_now_meadow_wind v_x_now_meadow_force v_x_now_meadow_rain v_x_now_meadow_lost v_x_now_meadow_hour v_x_now_sights_count v_x_pad_signs v_x_pad_acts v_x_pad_reading v_x_pad_begun v_x_pad_brokenAt v_x_secondImage_meadow_families v_x_secondImage_meadow_wind v_x_secondImage_meadow_force v_x_secondImage_meadow_rain v_x_secondImage_meadow_lost v_x_secondImage_meadow_hour v_x_secondImage_sights_count f_x_firstImage_meadow_home f_x_firstImage_meadow_seeds f_x_firstImage_meadow_lungs f_x_firstImage_meadow_blown f_x_firstImage_meadow_ground f_x_firstImage_sights_breaths f_x_firstImage_sights_flews f_x_now_meadow_home f_x_now_meadow_seeds f_x_now_meadow_lungs f_x_now_meadow_blown f_x_now_meadow_ground f_x_now_sights_breaths f_x_now_sights_flews f_x_pad_kinds f_x_pad_firsts f_x_pad_seconds f_x_secondImage_meadow_home f_x_secondImage_meadow_seeds f_x_secondImage_meadow_lungs f_x_secondImage_meadow_blown f_x_secondImage_meadow_ground f_x_secondImage_sights_breaths f_x_secondImage_sights_flews v_m_there v_m_wind v_m_force v_m_rains v_m_lost v_m_hours v_m_sights v_m_padMany f_m_at f_m_stem f_m_lungs f_m_blown f_m_heap f_m_sightBreath f_m_sightFlew f_m_pad f_m_kept f_m_isKept v_x_hours_barredAct v_x_hours_barredWhy v_x_hours_flown v_x_hours_ruinAct v_x_hours_ruinFamily v_x_hours_meadow_families v_x_hours_meadow_wind v_x_hours_meadow_force v_x_hours_meadow_rain v_x_hours_meadow_lost v_x_hours_meadow_hour f_x_hours_meadow_home f_x_hours_meadow_seeds f_x_hours_meadow_lungs f_x_hours_meadow_blown f_x_hours_meadow_ground v_m_acts v_m_blownMany v_m_badAct v_m_badWhy v_m_ruinAct v_m_ruinWho f_m_act f_m_who f_m_much f_m_had hRel
  obtain ⟨hN, hS, hP, hI⟩ := hRel
  obtain ⟨⟨e1, e2, e3, e4, e5, e6⟩, hMI, hMR⟩ := hN
  subst e1 e2 e3 e4 e5 e6
  obtain ⟨ac, A, W, M, had, k1, hk2⟩ := p_run (lost := v_m_lost) hMI hMR hP v_x_hours_barredAct v_x_hours_barredWhy v_x_hours_flown v_x_hours_ruinAct v_x_hours_ruinFamily v_x_hours_meadow_families v_x_hours_meadow_wind v_x_hours_meadow_force v_x_hours_meadow_rain v_x_hours_meadow_lost v_x_hours_meadow_hour f_x_hours_meadow_home f_x_hours_meadow_seeds f_x_hours_meadow_lungs f_x_hours_meadow_blown f_x_hours_meadow_ground v_m_acts v_m_blownMany v_m_badAct v_m_badWhy v_m_ruinAct v_m_ruinWho f_m_act f_m_who f_m_much f_m_had
  rcases hk2 with ⟨r1, r2⟩ | ⟨rfl, s0, s1, ba, bw, fl, rA, rF, w1', fo1, ra1, lost1, ho1, seeds1, blown1, ground1, stem1, blown2, heap1, r1, r2, hMI1, hMR1, r3⟩
  · obtain ⟨stem', blown', heap', b1, b2, b3, b4⟩ := p_back k1 v_m_wind v_m_force v_m_rains v_m_lost v_m_hours (-5) f_m_stem f_m_blown f_m_heap
    exact ⟨_, _, _, _, _, _, _, _, _, _, _, _, _, _, _, _, _, _, _, _, _, _, _, _, _, _, _, _, _, _, _, _, _, _, _, _, _, _, _, _, _, _, _, _, _, _, _, _, _, _, by (simp only [fX10_done, r1, Option.bind_some, ↓reduceIte, q_ne] <;> rfl), by (simp only [fX11_done, r2, b1, Option.bind_some, ↓reduceIte, q_ne] <;> rfl), ⟨⟨rfl, rfl, rfl, rfl, rfl, rfl⟩, hMI, p_mcongr hMR b2 b3 b4⟩, hS, hP, hI⟩
  · rcases r3 with ⟨rfl, rfl⟩ | ⟨rfl, rfl⟩
    · exact ⟨_, _, _, _, _, _, _, _, _, _, _, _, _, _, _, _, _, _, _, _, _, _, _, _, _, _, _, _, _, _, _, _, _, _, _, _, _, _, _, _, _, _, _, _, _, _, _, _, _, _, by (simp only [fX10_done, fX6_copyFrom, fX7_clear, r1, Option.bind_some, ↓reduceIte, q_ne] <;> rfl), by (simp only [fX11_done, r2, Option.bind_some, ↓reduceIte, q_ne] <;> rfl), ⟨⟨rfl, rfl, rfl, rfl, rfl, rfl⟩, hMI1, hMR1⟩, hS, p_pad0 _ _ _ _ _ _, hI⟩
    · obtain ⟨stem', blown', heap', b1, b2, b3, b4⟩ := p_back k1 w1' fo1 ra1 lost1 ho1 (-3) stem1 blown2 heap1
      exact ⟨_, _, _, _, _, _, _, _, _, _, _, _, _, _, _, _, _, _, _, _, _, _, _, _, _, _, _, _, _, _, _, _, _, _, _, _, _, _, _, _, _, _, _, _, _, _, _, _, _, _, by (simp only [fX10_done, r1, Option.bind_some, ↓reduceIte, q_ne] <;> rfl), by (simp only [fX11_done, r2, b1, Option.bind_some, ↓reduceIte, q_ne] <;> rfl), ⟨⟨rfl, rfl, rfl, rfl, rfl, rfl⟩, hMI, p_mcongr hMR b2 b3 b4⟩, hS, hP, hI⟩

