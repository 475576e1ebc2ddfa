/-! the steps: family, leave, lay, set, say, wipe, fault, seen, forget, told -/
theorem p_both (x : Int32) (lo hi : Nat) {l h : Int32} {a b : Int64} (hl : nI lo = l) (hh : nI hi = h) (ha : l.toInt64 = a) (hb : h.toInt64 = b) (hl2 : lo < 2 ^ 31) (hh2 : hi + 1 < 2 ^ 31) : (fX10_within x l h = some 0 ∧ fX11_in x.toInt64 a b = some 0 ∧ ∀ k : Nat, lo ≤ k → k ≤ hi → ¬ x = nI k) ∨ ∃ k : Nat, lo ≤ k ∧ k ≤ hi ∧ x = nI k ∧ fX10_within x l h = some 1 ∧ fX11_in x.toInt64 a b = some 1 := by
  by_cases hx : l ≤ x ∧ x ≤ h
  · obtain ⟨k, h1, h2, h3⟩ := p_rg hl2 hh2 (show nI lo ≤ x ∧ x ≤ nI hi by rw [hl, hh]; exact hx)
    exact Or.inr ⟨k, h1, h2, h3, by rw [p_within, if_pos hx], by rw [p_in32 x a b l h ha hb, if_pos hx]⟩
  · exact Or.inl ⟨by rw [p_within, if_neg hx], by rw [p_in32 x a b l h ha hb, if_neg hx], p_out hl2 hh2 (by rw [hl, hh]; exact hx)⟩
theorem p_bothF (x : Int32) : (fX10_isField x = some 0 ∧ fX11_isField x = some 0) ∨ ∃ j : Nat, j < 36 ∧ x = nI j ∧ fX10_isField x = some 1 ∧ fX11_isField x = some 1 := by
  by_cases hx : 0 ≤ x ∧ x < 36
  · obtain ⟨j, hj, h3⟩ := p_fld.mp hx
    exact Or.inr ⟨j, hj, h3, by rw [p_isField, if_pos hx], by rw [p_isFieldM, if_pos hx]⟩
  · exact Or.inl ⟨by rw [p_isField, if_neg hx], by rw [p_isFieldM, if_neg hx]⟩
theorem p_bothT {t : Int32} (ht : ∃ n, n < 64 ∧ t = nI n) (x : Int32) : (fX6_isThere t x = some 0 ∧ fX11_isFamily t x = some 0) ∨ ∃ k : Nat, k < 6 ∧ x = nI k ∧ gP t k = true ∧ fX6_isThere t x = some 1 ∧ fX11_isFamily t x = some 1 := by
  rcases p_ix x (n := 6) (by omega) with ⟨k, hk, rfl⟩ | h
  · rw [p_isThere t hk, p_isFamily ht hk]
    cases hg : gP t k with
    | false => exact Or.inl ⟨by rw [if_neg (by decide)], by rw [if_neg (by decide)]⟩
    | true => exact Or.inr ⟨k, hk, rfl, hg, by rw [if_pos rfl], by rw [if_pos rfl]⟩
  · exact Or.inl ⟨p_isThereN t h, p_isFamilyN t h⟩
theorem p_n1l {k : Nat} (hk : k < 2 ^ 31) : ¬ nI k = -1 := p_m1 hk
theorem co_family {t w fo ra lost ho : Int32} {home seeds lungs blown ground : Nat → Int32} {there wind force rains lost' hours : Int32} {at' stem lungs' blown' heap : Nat → Int32} (hN : NowRel t w fo ra lost ho home seeds lungs blown ground there wind force rains lost' hours at' stem lungs' blown' heap) (x1 x2 x3 x4 : Int32) :
    ∃ r t1 home1 seeds1 lungs1 blown1 at1 stem1 lungs2 blown2, fX10_family t home seeds lungs blown x1 x2 x3 x4 = some (r, t1, home1, seeds1, lungs1, blown1) ∧ fX11_family there at' stem lungs' blown' x1 x2 x3 x4 = some (r, t1, at1, stem1, lungs2, blown2) ∧ NowRel t1 w fo ra lost ho home1 seeds1 lungs1 blown1 ground t1 wind force rains lost' hours at1 stem1 lungs2 blown2 heap := by
  obtain ⟨⟨rfl, e2, e3, e4, e5, e6⟩, hI, hR⟩ := hN
  have hsame : NowRel there w fo ra lost ho home seeds lungs blown ground there wind force rains lost' hours at' stem lungs' blown' heap := ⟨⟨rfl, e2, e3, e4, e5, e6⟩, hI, hR⟩
  rcases p_both x1 0 5 (l := 0) (h := 5) (a := 0) (b := 5) rfl rfl (by decide) (by decide) (by omega) (by omega) with ⟨w1, w2, -⟩ | ⟨k, -, hk, rfl, w1, w2⟩
  · exact ⟨_, _, _, _, _, _, _, _, _, _, by (simp only [fX10_family, w1, Option.bind_some, ↓reduceIte] <;> rfl), by (simp only [fX11_family, w2, Option.bind_some, ↓reduceIte] <;> rfl), hsame⟩
  rcases p_bothF x2 with ⟨w3, w4⟩ | ⟨j, hj, rfl, w3, w4⟩
  · exact ⟨_, _, _, _, _, _, _, _, _, _, by (simp only [fX10_family, fX10_family_b39, w1, w3, Option.bind_some, ↓reduceIte, q_ne] <;> rfl), by (simp only [fX11_family, fX11_family_b46, w2, w4, Option.bind_some, ↓reduceIte, q_ne] <;> rfl), hsame⟩
  rcases p_both x3 0 60 (l := 0) (h := 60) (a := 0) (b := 60) rfl rfl (by decide) (by decide) (by omega) (by omega) with ⟨w5, w6, -⟩ | ⟨s, -, hs, rfl, w5, w6⟩
  · exact ⟨_, _, _, _, _, _, _, _, _, _, by (simp only [fX10_family, fX10_family_b39, w1, w3, w5, Option.bind_some, ↓reduceIte, q_ne] <;> rfl), by (simp only [fX11_family, fX11_family_b46, w2, w4, w6, Option.bind_some, ↓reduceIte, q_ne] <;> rfl), hsame⟩
  rcases p_both x4 1 9 (l := 1) (h := 9) (a := 1) (b := 9) rfl rfl (by decide) (by decide) (by omega) (by omega) with ⟨w7, w8, -⟩ | ⟨u, -, hu, rfl, w7, w8⟩
  · exact ⟨_, _, _, _, _, _, _, _, _, _, by (simp only [fX10_family, fX10_family_b39, w1, w3, w5, w7, Option.bind_some, ↓reduceIte, q_ne] <;> rfl), by (simp only [fX11_family, fX11_family_b46, w2, w4, w6, w8, Option.bind_some, ↓reduceIte, q_ne] <;> rfl), hsame⟩
  obtain ⟨ht, hw, hf, hr, hh, hho, hse, hlu, hbl, hgr, hd⟩ := hI
  obtain ⟨ha, hst, hlr, hbr, hhe⟩ := hR
  have hk6 : k < 6 := by omega
  obtain ⟨ht1, hp1⟩ := p_add1 ht hk6
  obtain ⟨c, hc1, hc2⟩ := p_bitc ht1
  have hA := fun {α : Type} (K : Option α) => p_gA hk6 (show 6 < 2 ^ 31 by omega) K
  have hcl := p_cl (show k < 2 ^ 31 by omega)
  have set1 : fX10_family_b70 there home seeds lungs blown (nI k) (nI j) (nI s) (nI u) = some (c, there ||| (1 <<< (nI k &&& 31)), upd home k (nI j), upd seeds k (nI s), upd lungs k (nI u), upd blown k 0) := by
    simp only [fX10_family_b70, fX6_settle, nI_pos (show k < 2 ^ 31 by omega), p6l hk6, ↓reduceIte, hA, hcl, Option.bind_some, hc1]
  have set2 : fX11_family_b70 there at' stem lungs' blown' (nI k) (nI j) (nI s) (nI u) = some (c, there ||| (1 <<< (nI k &&& 31)), upd at' k (nI j), upd stem k (nI s), upd lungs' k (nI u), upd blown' k 0) := by
    simp only [fX11_family_b70, hA, hcl, Option.bind_some, hc2]
  have hset : (∀ i, i < 6 → gP there i = true → home i = nI j → i = k) → NowRel (there ||| (1 <<< (nI k &&& 31))) w fo ra lost ho (upd home k (nI j)) (upd seeds k (nI s)) (upd lungs k (nI u)) (upd blown k 0) ground (there ||| (1 <<< (nI k &&& 31))) wind force rains lost' hours (upd at' k (nI j)) (upd stem k (nI s)) (upd lungs' k (nI u)) (upd blown' k 0) heap := by
    intro hno
    refine ⟨⟨rfl, e2, e3, e4, e5, e6⟩, ⟨ht1, hw, hf, hr, hh, p_updI hho ⟨j, by omega, rfl⟩, p_updI hse ⟨s, hs, rfl⟩, p_updI hlu ⟨u, hu, rfl⟩, p_updI hbl ⟨0, by omega, rfl⟩, hgr, ?_⟩, ⟨p_upd ha rfl, ?_, p_upd hlr rfl, p_upd hbr rfl, hhe⟩⟩
    · intro a b ha6 hb6 hga hgb hab
      rw [hp1 a ha6] at hga
      rw [hp1 b hb6] at hgb
      simp only [Bool.or_eq_true, decide_eq_true_eq] at hga hgb
      by_cases hak : a = k
      · subst hak
        rw [p_upS] at hab
        by_cases hbk : b = a
        · exact hbk.symm
        · rw [p_upN hbk] at hab
          rcases hgb with hgb | hgb
          · exact (hno b hb6 hgb hab.symm).symm
          · exact hgb.symm
      · rw [p_upN hak] at hab
        rcases hga with hga | hga
        · by_cases hbk : b = k
          · subst hbk
            rw [p_upS] at hab
            exact hno a ha6 hga hab
          · rw [p_upN hbk] at hab
            rcases hgb with hgb | hgb
            · exact hd a b ha6 hb6 hga hgb hab
            · exact absurd hgb hbk
        · exact absurd hga hak
    · intro i hi hg
      rw [hp1 i hi] at hg
      simp only [Bool.or_eq_true, decide_eq_true_eq] at hg
      by_cases hik : i = k
      · subst hik
        rw [p_upS, p_upS]
      · rw [p_upN hik, p_upN hik]
        rcases hg with hg | hg
        · exact hst i hi hg
        · exact absurd hg hik
  rcases p_who ht hd ha (nI j) with ⟨q, hq, hgq, hhq, h1, h2⟩ | ⟨hno, h1, h2⟩
  · have hq1 : ¬ nI q = -1 := p_m1 (by omega)
    have hq2 : ¬ nI q < 0 := nI_pos (by omega)
    by_cases hqk : q = k
    · subst hqk
      exact ⟨_, _, _, _, _, _, _, _, _, _, by simp only [fX10_family, w1, w3, w5, w7, h1, hq1, Option.bind_some, ↓reduceIte, q_ne]; exact set1, by simp only [fX11_family, w2, w4, w6, w8, h2, hq2, Option.bind_some, ↓reduceIte, q_ne]; exact set2, hset (fun i hi hgi hhi => hd i q hi hq hgi hgq (hhi.trans hhq.symm))⟩
    · have hqk2 : ¬ nI q = nI k := fun e => hqk ((nI_eq (by omega) (by omega)).mp e)
      exact ⟨_, _, _, _, _, _, _, _, _, _, by (simp only [fX10_family, w1, w3, w5, w7, h1, hq1, hqk2, Option.bind_some, ↓reduceIte, q_ne] <;> rfl), by (simp only [fX11_family, w2, w4, w6, w8, h2, hq2, hqk2, Option.bind_some, ↓reduceIte, q_ne] <;> rfl), hsame⟩
  · exact ⟨_, _, _, _, _, _, _, _, _, _, by simp only [fX10_family, w1, w3, w5, w7, h1, Option.bind_some, ↓reduceIte, q_ne]; exact set1, by simp only [fX11_family, w2, w4, w6, w8, h2, q_ltT, Option.bind_some, ↓reduceIte, q_ne]; exact set2, hset (fun i hi hgi hhi => absurd hhi (hno i hi hgi))⟩
theorem st_family : gStep_family gRel := by
  intro v_x_imagesKept v_x_firstImage_meadow_families v_x_firstImage_meadow_wind v_x_firstImage_meadow_force v_x_firstImage_meadow_rain v_x_firstImage_meadow_lost v_x_firstImage_meadow_hour v_x_firstImage_sights_count v_x_now_meadow_families v_x_now_meadow_wind v_x_now_meadow_force v_x_now_meadow_rain v_x_now_meadow_lost v_x_now_meadow_hour v_x_now_sights_count v_x_pad_signs v_x_pad_acts v_x_pad_reading v_x_pad_begun v_x_pad_brokenAt v_x_secondImage_meadow_families v_x_secondImage_meadow_wind v_x_secondImage_meadow_force v_x_secondImage_meadow_rain v_x_secondImage_meadow_lost v_x_secondImage_meadow_hour v_x_secondImage_sights_count f_x_firstImage_meadow_home f_x_firstImage_meadow_seeds f_x_firstImage_meadow_lungs f_x_firstImage_meadow_blown f_x_firstImage_meadow_ground f_x_firstImage_sights_breaths f_x_firstImage_sights_flews f_x_now_meadow_home f_x_now_meadow_seeds f_x_now_meadow_lungs f_x_now_meadow_blown f_x_now_meadow_ground f_x_now_sights_breaths f_x_now_sights_flews f_x_pad_kinds f_x_pad_firsts f_x_pad_seconds f_x_secondImage_meadow_home f_x_secondImage_meadow_seeds f_x_secondImage_meadow_lungs f_x_secondImage_meadow_blown f_x_secondImage_meadow_ground f_x_secondImage_sights_breaths f_x_secondImage_sights_flews v_m_there v_m_wind v_m_force v_m_rains v_m_lost v_m_hours v_m_sights v_m_padMany f_m_at f_m_stem f_m_lungs f_m_blown f_m_heap f_m_sightBreath f_m_sightFlew f_m_pad f_m_kept f_m_isKept a0 a1 a2 a3 hRel
  obtain ⟨hN, hS, hP, hI⟩ := hRel
  obtain ⟨r, t1, home1, seeds1, lungs1, blown1, at1, stem1, lungs2, blown2, e1, e2, e3⟩ := co_family hN a0 a1 a2 a3
  exact ⟨_, _, _, _, _, _, _, _, _, _, _, e1, e2, e3, hS, hP, hI⟩

theorem co_leave {t w fo ra lost ho : Int32} {home seeds lungs blown ground : Nat → Int32} {there wind force rains lost' hours : Int32} {at' stem lungs' blown' heap : Nat → Int32} (hN : NowRel t w fo ra lost ho home seeds lungs blown ground there wind force rains lost' hours at' stem lungs' blown' heap) (x1 : Int32) :
    ∃ r t1 lost1 seeds1 ground1 heap1, fX10_leave t lost home seeds ground x1 = some (r, t1, lost1, seeds1, ground1) ∧ fX11_leave there lost' at' stem heap x1 = some (r, t1, lost1, heap1) ∧ NowRel t1 w fo ra lost1 ho home seeds1 lungs blown ground1 t1 wind force rains lost1 hours at' stem lungs' blown' heap1 := by
  obtain ⟨⟨rfl, e2, e3, e4, rfl, e6⟩, hI, hR⟩ := hN
  have hsame : NowRel there w fo ra lost' ho home seeds lungs blown ground there wind force rains lost' hours at' stem lungs' blown' heap := ⟨⟨rfl, e2, e3, e4, rfl, e6⟩, hI, hR⟩
  obtain ⟨ht, hw, hf, hr, hh, hho, hse, hlu, hbl, hgr, hd⟩ := hI
  obtain ⟨ha, hst, hlr, hbr, hhe⟩ := hR
  rcases p_bothT ht x1 with ⟨w1, w2⟩ | ⟨k, hk, rfl, hg, w1, w2⟩
  · exact ⟨_, _, _, _, _, _, by (simp only [fX10_leave, w1, Option.bind_some, ↓reduceIte] <;> rfl), by (simp only [fX11_leave, w2, Option.bind_some, ↓reduceIte] <;> rfl), hsame⟩
  obtain ⟨ht1, hp1⟩ := p_sub1 ht hk
  obtain ⟨c, hc1, hc2⟩ := p_bitc ht1
  obtain ⟨j, hj, hjh⟩ := hho k hk
  obtain ⟨s, hs, hsh⟩ := hse k hk
  obtain ⟨g, hg1, hg2⟩ := hgr j (by omega)
  have hA := fun {α : Type} (K : Option α) => p_gA hk (show 6 < 2 ^ 31 by omega) K
  have hcl := p_cl (show k < 2 ^ 31 by omega)
  have e5 : gCap 999 (ground j + seeds k) = nI (min (g + s) 999) := by
    rw [hg2, hsh, nI_add]
    exact p_cap (m := 999) (by omega) (by omega)
  refine ⟨c, there &&& ((1 <<< (nI k &&& 31)) ^^^ (-1)), lost' + gOver 999 (ground j + seeds k), upd seeds k 0, upd ground j (gCap 999 (ground j + seeds k)), upd heap j (gCap 999 (ground j + seeds k)), ?_, ?_, ⟨rfl, e2, e3, e4, rfl, e6⟩, ⟨ht1, hw, hf, hr, hh, hho, p_updI hse ⟨0, by omega, rfl⟩, hlu, hbl, p_updI hgr (by rw [e5]; exact ⟨_, by omega, rfl⟩), ?_⟩, ⟨ha, ?_, hlr, hbr, p_upd hhe rfl⟩⟩
  · simp only [fX10_leave, fX6_moveOut, w1, Option.bind_some, ↓reduceIte, q_ne, hA, hcl, hjh, p_lie lost' ground (show j < 36 by omega), hc1]
  · simp only [fX11_leave, w2, Option.bind_some, ↓reduceIte, q_ne, hA, hcl, ha k hk, hjh, hst k hk hg, p_fall lost' heap (show j < 36 by omega), hhe j (show j < 36 by omega), hc2]
  · intro a b ha6 hb6 hga hgb hab
    rw [hp1 a ha6] at hga
    rw [hp1 b hb6] at hgb
    simp only [Bool.and_eq_true] at hga hgb
    exact hd a b ha6 hb6 hga.1 hgb.1 hab
  · intro i hi hgi
    rw [hp1 i hi] at hgi
    simp only [Bool.and_eq_true, Bool.not_eq_true', decide_eq_false_iff_not] at hgi
    rw [p_upN hgi.2]
    exact hst i hi hgi.1
theorem st_leave : gStep_leave gRel := by
  intro v_x_imagesKept v_x_firstImage_meadow_families v_x_firstImage_meadow_wind v_x_firstImage_meadow_force v_x_firstImage_meadow_rain v_x_firstImage_meadow_lost v_x_firstImage_meadow_hour v_x_firstImage_sights_count v_x_now_meadow_families v_x_now_meadow_wind v_x_now_meadow_force v_x_now_meadow_rain v_x_now_meadow_lost v_x_now_meadow_hour v_x_now_sights_count v_x_pad_signs v_x_pad_acts v_x_pad_reading v_x_pad_begun v_x_pad_brokenAt v_x_secondImage_meadow_families v_x_secondImage_meadow_wind v_x_secondImage_meadow_force v_x_secondImage_meadow_rain v_x_secondImage_meadow_lost v_x_secondImage_meadow_hour v_x_secondImage_sights_count f_x_firstImage_meadow_home f_x_firstImage_meadow_seeds f_x_firstImage_meadow_lungs f_x_firstImage_meadow_blown f_x_firstImage_meadow_ground f_x_firstImage_sights_breaths f_x_firstImage_sights_flews f_x_now_meadow_home f_x_now_meadow_seeds f_x_now_meadow_lungs f_x_now_meadow_blown f_x_now_meadow_ground f_x_now_sights_breaths f_x_now_sights_flews f_x_pad_kinds f_x_pad_firsts f_x_pad_seconds f_x_secondImage_meadow_home f_x_secondImage_meadow_seeds f_x_secondImage_meadow_lungs f_x_secondImage_meadow_blown f_x_secondImage_meadow_ground f_x_secondImage_sights_breaths f_x_secondImage_sights_flews v_m_there v_m_wind v_m_force v_m_rains v_m_lost v_m_hours v_m_sights v_m_padMany f_m_at f_m_stem f_m_lungs f_m_blown f_m_heap f_m_sightBreath f_m_sightFlew f_m_pad f_m_kept f_m_isKept a0 hRel
  obtain ⟨hN, hS, hP, hI⟩ := hRel
  obtain ⟨r, t1, lost1, seeds1, ground1, heap1, e1, e2, e3⟩ := co_leave hN a0
  exact ⟨_, _, _, _, _, _, _, _, e1, e2, e3, hS, hP, hI⟩

theorem co_lay {t w fo ra lost ho : Int32} {home seeds lungs blown ground : Nat → Int32} {there wind force rains lost' hours : Int32} {at' stem lungs' blown' heap : Nat → Int32} (hN : NowRel t w fo ra lost ho home seeds lungs blown ground there wind force rains lost' hours at' stem lungs' blown' heap) (x1 x2 : Int32) :
    ∃ r ground1 heap1, fX10_lay ground x1 x2 = some (r, ground1) ∧ fX11_lay heap x1 x2 = some (r, heap1) ∧ NowRel t w fo ra lost ho home seeds lungs blown ground1 there wind force rains lost' hours at' stem lungs' blown' heap1 := by
  rcases p_bothF x1 with ⟨w1, w2⟩ | ⟨j, hj, rfl, w1, w2⟩
  · exact ⟨_, _, _, by (simp only [fX10_lay, fX10_lay_b18, w1, Option.bind_some, ↓reduceIte] <;> rfl), by (simp only [fX11_lay, fX11_lay_b19, w2, Option.bind_some, ↓reduceIte] <;> rfl), hN⟩
  rcases p_both x2 0 999 (l := 0) (h := 999) (a := 0) (b := 999) rfl rfl (by decide) (by decide) (by omega) (by omega) with ⟨w3, w4, -⟩ | ⟨s, -, hs, rfl, w3, w4⟩
  · exact ⟨_, _, _, by (simp only [fX10_lay, fX10_lay_b18, w1, w3, Option.bind_some, ↓reduceIte, q_ne] <;> rfl), by (simp only [fX11_lay, fX11_lay_b19, w2, w4, Option.bind_some, ↓reduceIte, q_ne] <;> rfl), hN⟩
  obtain ⟨he, ⟨ht, hw, hf, hr, hh, hho, hse, hlu, hbl, hgr, hd⟩, ⟨ha, hst, hlr, hbr, hhe⟩⟩ := hN
  have hB := fun {α : Type} (K : Option α) => p_gA hj (show 36 < 2 ^ 31 by omega) K
  have hcl := p_cl (show j < 2 ^ 31 by omega)
  exact ⟨_, _, _, by (simp only [fX10_lay, w1, w3, Option.bind_some, ↓reduceIte, q_ne, hB, hcl] <;> rfl), by (simp only [fX11_lay, w2, w4, Option.bind_some, ↓reduceIte, q_ne, hB, hcl, hhe j hj] <;> rfl), he, ⟨ht, hw, hf, hr, hh, hho, hse, hlu, hbl, p_updI hgr ⟨s, hs, rfl⟩, hd⟩, ⟨ha, hst, hlr, hbr, p_upd hhe rfl⟩⟩
theorem st_lay : gStep_lay gRel := by
  intro v_x_imagesKept v_x_firstImage_meadow_families v_x_firstImage_meadow_wind v_x_firstImage_meadow_force v_x_firstImage_meadow_rain v_x_firstImage_meadow_lost v_x_firstImage_meadow_hour v_x_firstImage_sights_count v_x_now_meadow_families v_x_now_meadow_wind v_x_now_meadow_force v_x_now_meadow_rain v_x_now_meadow_lost v_x_now_meadow_hour v_x_now_sights_count v_x_pad_signs v_x_pad_acts v_x_pad_reading v_x_pad_begun v_x_pad_brokenAt v_x_secondImage_meadow_families v_x_secondImage_meadow_wind v_x_secondImage_meadow_force v_x_secondImage_meadow_rain v_x_secondImage_meadow_lost v_x_secondImage_meadow_hour v_x_secondImage_sights_count f_x_firstImage_meadow_home f_x_firstImage_meadow_seeds f_x_firstImage_meadow_lungs f_x_firstImage_meadow_blown f_x_firstImage_meadow_ground f_x_firstImage_sights_breaths f_x_firstImage_sights_flews f_x_now_meadow_home f_x_now_meadow_seeds f_x_now_meadow_lungs f_x_now_meadow_blown f_x_now_meadow_ground f_x_now_sights_breaths f_x_now_sights_flews f_x_pad_kinds f_x_pad_firsts f_x_pad_seconds f_x_secondImage_meadow_home f_x_secondImage_meadow_seeds f_x_secondImage_meadow_lungs f_x_secondImage_meadow_blown f_x_secondImage_meadow_ground f_x_secondImage_sights_breaths f_x_secondImage_sights_flews v_m_there v_m_wind v_m_force v_m_rains v_m_lost v_m_hours v_m_sights v_m_padMany f_m_at f_m_stem f_m_lungs f_m_blown f_m_heap f_m_sightBreath f_m_sightFlew f_m_pad f_m_kept f_m_isKept a0 a1 hRel
  obtain ⟨hN, hS, hP, hI⟩ := hRel
  obtain ⟨r, ground1, heap1, e1, e2, e3⟩ := co_lay hN a0 a1
  exact ⟨_, _, _, e1, e2, e3, hS, hP, hI⟩

theorem co_set {t w fo ra lost ho : Int32} {home seeds lungs blown ground : Nat → Int32} {there wind force rains lost' hours : Int32} {at' stem lungs' blown' heap : Nat → Int32} (hN : NowRel t w fo ra lost ho home seeds lungs blown ground there wind force rains lost' hours at' stem lungs' blown' heap) (x1 x2 : Int32) :
    ∃ r w1 fo1 ra1, fX10_set w fo ra x1 x2 = some (r, w1, fo1, ra1) ∧ fX11_set wind force rains x1 x2 = some (r, w1, fo1, ra1) ∧ NowRel t w1 fo1 ra1 lost ho home seeds lungs blown ground there w1 fo1 ra1 lost' hours at' stem lungs' blown' heap := by
  obtain ⟨⟨e1, rfl, rfl, rfl, e5, e6⟩, hI, hR⟩ := hN
  have hsame : NowRel t wind force rains lost ho home seeds lungs blown ground there wind force rains lost' hours at' stem lungs' blown' heap := ⟨⟨e1, rfl, rfl, rfl, e5, e6⟩, hI, hR⟩
  obtain ⟨ht, hw, hf, hr, hh, hrest⟩ := hI
  rcases p_both x1 0 2 (l := 0) (h := 2) (a := 0) (b := 2) rfl rfl (by decide) (by decide) (by omega) (by omega) with ⟨-, w2, w3⟩ | ⟨k, -, hk, rfl, -, w2⟩
  · have n0 : ¬ x1 = 0 := w3 0 (by omega) (by omega)
    have n1 : ¬ x1 = 1 := w3 1 (by omega) (by omega)
    have n2 : ¬ x1 = 2 := w3 2 (by omega) (by omega)
    exact ⟨_, _, _, _, by (simp only [fX10_set, n0, n1, n2, ↓reduceIte] <;> rfl), by (simp only [fX11_set, fX11_set_b43, w2, Option.bind_some, ↓reduceIte] <;> rfl), hsame⟩
  obtain rfl | rfl | rfl : k = 0 ∨ k = 1 ∨ k = 2 := by omega
  · have z : nI 0 = 0 := rfl
    rw [z] at w2 ⊢
    rcases p_both x2 0 3 (l := 0) (h := 3) (a := 0) (b := 3) rfl rfl (by decide) (by decide) (by omega) (by omega) with ⟨w3, w4, -⟩ | ⟨s, -, hs, rfl, w3, w4⟩
    · exact ⟨_, _, _, _, by (simp only [fX10_set, fX10_set_b47, w3, Option.bind_some, ↓reduceIte] <;> rfl), by (simp only [fX11_set, fX11_set_b37, fX11_set_b43, w2, w4, Option.bind_some, ↓reduceIte, q_ne] <;> rfl), hsame⟩
    · exact ⟨_, _, _, _, by (simp only [fX10_set, fX10_set_b47, fX10_turnWind, w3, Option.bind_some, ↓reduceIte, q_ne] <;> rfl), by (simp only [fX11_set, fX11_set_b37, fX11_set_b73, fX11_set_b87, fX11_set_b104, fX11_set_b121, w2, w4, Option.bind_some, ↓reduceIte, q_ne] <;> rfl), ⟨e1, rfl, rfl, rfl, e5, e6⟩, ⟨ht, ⟨s, hs, rfl⟩, hf, hr, hh, hrest⟩, hR⟩
  · have z : nI 1 = 1 := rfl
    rw [z] at w2 ⊢
    rcases p_both x2 0 5 (l := 0) (h := 5) (a := 0) (b := 5) rfl rfl (by decide) (by decide) (by omega) (by omega) with ⟨w3, w4, -⟩ | ⟨s, -, hs, rfl, w3, w4⟩
    · exact ⟨_, _, _, _, by (simp only [fX10_set, fX10_set_b67, w3, Option.bind_some, ↓reduceIte, q_ne] <;> rfl), by (simp only [fX11_set, fX11_set_b37, fX11_set_b43, w2, w4, Option.bind_some, ↓reduceIte, q_ne] <;> rfl), hsame⟩
    · exact ⟨_, _, _, _, by (simp only [fX10_set, fX10_set_b67, fX10_changeForce, w3, Option.bind_some, ↓reduceIte, q_ne] <;> rfl), by (simp only [fX11_set, fX11_set_b37, fX11_set_b73, fX11_set_b87, fX11_set_b104, fX11_set_b121, w2, w4, Option.bind_some, ↓reduceIte, q_ne] <;> rfl), ⟨e1, rfl, rfl, rfl, e5, e6⟩, ⟨ht, hw, ⟨s, hs, rfl⟩, hr, hh, hrest⟩, hR⟩
  · have z : nI 2 = 2 := rfl
    rw [z] at w2 ⊢
    rcases p_both x2 0 1 (l := 0) (h := 1) (a := 0) (b := 1) rfl rfl (by decide) (by decide) (by omega) (by omega) with ⟨w3, w4, -⟩ | ⟨s, -, hs, rfl, w3, w4⟩
    · exact ⟨_, _, _, _, by (simp only [fX10_set, fX10_set_b87, w3, Option.bind_some, ↓reduceIte, q_ne] <;> rfl), by (simp only [fX11_set, fX11_set_b37, fX11_set_b43, w2, w4, Option.bind_some, ↓reduceIte, q_ne] <;> rfl), hsame⟩
    · exact ⟨_, _, _, _, by (simp only [fX10_set, fX10_set_b87, fX10_changeRain, w3, Option.bind_some, ↓reduceIte, q_ne] <;> rfl), by (simp only [fX11_set, fX11_set_b37, fX11_set_b73, fX11_set_b87, fX11_set_b104, fX11_set_b121, w2, w4, Option.bind_some, ↓reduceIte, q_ne] <;> rfl), ⟨e1, rfl, rfl, rfl, e5, e6⟩, ⟨ht, hw, hf, ⟨s, hs, rfl⟩, hh, hrest⟩, hR⟩
theorem st_set : gStep_set gRel := by
  intro v_x_imagesKept v_x_firstImage_meadow_families v_x_firstImage_meadow_wind v_x_firstImage_meadow_force v_x_firstImage_meadow_rain v_x_firstImage_meadow_lost v_x_firstImage_meadow_hour v_x_firstImage_sights_count v_x_now_meadow_families v_x_now_meadow_wind v_x_now_meadow_force v_x_now_meadow_rain v_x_now_meadow_lost v_x_now_meadow_hour v_x_now_sights_count v_x_pad_signs v_x_pad_acts v_x_pad_reading v_x_pad_begun v_x_pad_brokenAt v_x_secondImage_meadow_families v_x_secondImage_meadow_wind v_x_secondImage_meadow_force v_x_secondImage_meadow_rain v_x_secondImage_meadow_lost v_x_secondImage_meadow_hour v_x_secondImage_sights_count f_x_firstImage_meadow_home f_x_firstImage_meadow_seeds f_x_firstImage_meadow_lungs f_x_firstImage_meadow_blown f_x_firstImage_meadow_ground f_x_firstImage_sights_breaths f_x_firstImage_sights_flews f_x_now_meadow_home f_x_now_meadow_seeds f_x_now_meadow_lungs f_x_now_meadow_blown f_x_now_meadow_ground f_x_now_sights_breaths f_x_now_sights_flews f_x_pad_kinds f_x_pad_firsts f_x_pad_seconds f_x_secondImage_meadow_home f_x_secondImage_meadow_seeds f_x_secondImage_meadow_lungs f_x_secondImage_meadow_blown f_x_secondImage_meadow_ground f_x_secondImage_sights_breaths f_x_secondImage_sights_flews v_m_there v_m_wind v_m_force v_m_rains v_m_lost v_m_hours v_m_sights v_m_padMany f_m_at f_m_stem f_m_lungs f_m_blown f_m_heap f_m_sightBreath f_m_sightFlew f_m_pad f_m_kept f_m_isKept a0 a1 hRel
  obtain ⟨hN, hS, hP, hI⟩ := hRel
  obtain ⟨r, w1, fo1, ra1, e1, e2, e3⟩ := co_set hN a0 a1
  exact ⟨_, _, _, _, _, _, _, e1, e2, e3, hS, hP, hI⟩

theorem co_say {signs acts reading begun brokenAt : Int32} {kinds firsts seconds : Nat → Int32} {padMany : Int32} {pad : Nat → Int32} (hP : PadRel signs acts reading begun brokenAt kinds firsts seconds padMany pad) (x1 : Int32) :
    ∃ r signs1 acts1 reading1 begun1 broken1 kinds1 firsts1 seconds1 padMany1 pad1, fX10_say signs acts reading begun brokenAt kinds firsts seconds x1 = some (r, signs1, acts1, reading1, begun1, broken1, kinds1, firsts1, seconds1) ∧ fX11_say padMany pad x1 = some (r, padMany1, pad1) ∧ PadRel signs1 acts1 reading1 begun1 broken1 kinds1 firsts1 seconds1 padMany1 pad1 := by
  rcases p_both x1 33 126 (l := 33) (h := 126) (a := 33) (b := 126) rfl rfl (by decide) (by decide) (by omega) (by omega) with ⟨w1, w2, -⟩ | ⟨c, hc1, hc2, rfl, w1, w2⟩
  · exact ⟨_, _, _, _, _, _, _, _, _, _, _, by (simp only [fX10_say, w1, Option.bind_some, ↓reduceIte] <;> rfl), by (simp only [fX11_say, w2, Option.bind_some, ↓reduceIte] <;> rfl), hP⟩
  obtain ⟨s, a, hs, has, rfl, rfl, -⟩ := id hP
  by_cases h60 : s < 60
  · obtain ⟨acts1, reading1, begun1, broken1, kinds1, firsts1, seconds1, e1, e2⟩ := p_write hP rfl h60 hc1 hc2
    have h1 : nI s < 60 := nI_lt (b := 60) h60 (by omega)
    have h2 : ¬ nI s = 60 := fun e => by
      have := (nI_eq (b := 60) (show s < 2 ^ 31 by omega) (by omega)).mp e
      omega
    exact ⟨_, _, _, _, _, _, _, _, _, _, _, by (simp only [fX10_say, w1, Option.bind_some, ↓reduceIte, q_ne, h1, e1] <;> rfl), by (simp only [fX11_say, w2, Option.bind_some, ↓reduceIte, q_ne, h2, p_gA h60 (show 60 < 2 ^ 31 by omega), p_cl (show s < 2 ^ 31 by omega), nI_1] <;> rfl), e2⟩
  · have e : s = 60 := by omega
    subst e
    have h1 : ¬ nI 60 < 60 := by decide
    have h2 : nI 60 = 60 := rfl
    exact ⟨_, _, _, _, _, _, _, _, _, _, _, by (simp only [fX10_say, w1, Option.bind_some, ↓reduceIte, q_ne, h1] <;> rfl), by (simp only [fX11_say, w2, Option.bind_some, ↓reduceIte, q_ne, eq_true h2] <;> rfl), hP⟩
theorem st_say : gStep_say gRel := by
  intro v_x_imagesKept v_x_firstImage_meadow_families v_x_firstImage_meadow_wind v_x_firstImage_meadow_force v_x_firstImage_meadow_rain v_x_firstImage_meadow_lost v_x_firstImage_meadow_hour v_x_firstImage_sights_count v_x_now_meadow_families v_x_now_meadow_wind v_x_now_meadow_force v_x_now_meadow_rain v_x_now_meadow_lost v_x_now_meadow_hour v_x_now_sights_count v_x_pad_signs v_x_pad_acts v_x_pad_reading v_x_pad_begun v_x_pad_brokenAt v_x_secondImage_meadow_families v_x_secondImage_meadow_wind v_x_secondImage_meadow_force v_x_secondImage_meadow_rain v_x_secondImage_meadow_lost v_x_secondImage_meadow_hour v_x_secondImage_sights_count f_x_firstImage_meadow_home f_x_firstImage_meadow_seeds f_x_firstImage_meadow_lungs f_x_firstImage_meadow_blown f_x_firstImage_meadow_ground f_x_firstImage_sights_breaths f_x_firstImage_sights_flews f_x_now_meadow_home f_x_now_meadow_seeds f_x_now_meadow_lungs f_x_now_meadow_blown f_x_now_meadow_ground f_x_now_sights_breaths f_x_now_sights_flews f_x_pad_kinds f_x_pad_firsts f_x_pad_seconds f_x_secondImage_meadow_home f_x_secondImage_meadow_seeds f_x_secondImage_meadow_lungs f_x_secondImage_meadow_blown f_x_secondImage_meadow_ground f_x_secondImage_sights_breaths f_x_secondImage_sights_flews v_m_there v_m_wind v_m_force v_m_rains v_m_lost v_m_hours v_m_sights v_m_padMany f_m_at f_m_stem f_m_lungs f_m_blown f_m_heap f_m_sightBreath f_m_sightFlew f_m_pad f_m_kept f_m_isKept a0 hRel
  obtain ⟨hN, hS, hP, hI⟩ := hRel
  obtain ⟨r, signs1, acts1, reading1, begun1, broken1, kinds1, firsts1, seconds1, padMany1, pad1, e1, e2, e3⟩ := co_say hP a0
  exact ⟨_, _, _, _, _, _, _, _, _, _, _, e1, e2, hN, hS, e3, hI⟩

theorem st_wipe : gStep_wipe gRel := by
  intro v_x_imagesKept v_x_firstImage_meadow_families v_x_firstImage_meadow_wind v_x_firstImage_meadow_force v_x_firstImage_meadow_rain v_x_firstImage_meadow_lost v_x_firstImage_meadow_hour v_x_firstImage_sights_count v_x_now_meadow_families v_x_now_meadow_wind v_x_now_meadow_force v_x_now_meadow_rain v_x_now_meadow_lost v_x_now_meadow_hour v_x_now_sights_count v_x_pad_signs v_x_pad_acts v_x_pad_reading v_x_pad_begun v_x_pad_brokenAt v_x_secondImage_meadow_families v_x_secondImage_meadow_wind v_x_secondImage_meadow_force v_x_secondImage_meadow_rain v_x_secondImage_meadow_lost v_x_secondImage_meadow_hour v_x_secondImage_sights_count f_x_firstImage_meadow_home f_x_firstImage_meadow_seeds f_x_firstImage_meadow_lungs f_x_firstImage_meadow_blown f_x_firstImage_meadow_ground f_x_firstImage_sights_breaths f_x_firstImage_sights_flews f_x_now_meadow_home f_x_now_meadow_seeds f_x_now_meadow_lungs f_x_now_meadow_blown f_x_now_meadow_ground f_x_now_sights_breaths f_x_now_sights_flews f_x_pad_kinds f_x_pad_firsts f_x_pad_seconds f_x_secondImage_meadow_home f_x_secondImage_meadow_seeds f_x_secondImage_meadow_lungs f_x_secondImage_meadow_blown f_x_secondImage_meadow_ground f_x_secondImage_sights_breaths f_x_secondImage_sights_flews v_m_there v_m_wind v_m_force v_m_rains v_m_lost v_m_hours v_m_sights v_m_padMany f_m_at f_m_stem f_m_lungs f_m_blown f_m_heap f_m_sightBreath f_m_sightFlew f_m_pad f_m_kept f_m_isKept hRel
  obtain ⟨hN, hS, hP, hI⟩ := hRel
  obtain ⟨s, a, hs, has, e1, e2, -⟩ := id hP
  subst e1 e2
  exact ⟨_, _, _, _, _, by (simp only [fX10_wipe, fX7_clear, Option.bind_some] <;> rfl), by (simp only [fX11_wipe] <;> rfl), hN, hS, p_pad0 _ _ _ _ _ _, hI⟩

theorem st_fault : gStep_fault gRel := by
  intro v_x_imagesKept v_x_firstImage_meadow_families v_x_firstImage_meadow_wind v_x_firstImage_meadow_force v_x_firstImage_meadow_rain v_x_firstImage_meadow_lost v_x_firstImage_meadow_hour v_x_firstImage_sights_count v_x_now_meadow_families v_x_now_meadow_wind v_x_now_meadow_force v_x_now_meadow_rain v_x_now_meadow_lost v_x_now_meadow_hour v_x_now_sights_count v_x_pad_signs v_x_pad_acts v_x_pad_reading v_x_pad_begun v_x_pad_brokenAt v_x_secondImage_meadow_families v_x_secondImage_meadow_wind v_x_secondImage_meadow_force v_x_secondImage_meadow_rain v_x_secondImage_meadow_lost v_x_secondImage_meadow_hour v_x_secondImage_sights_count f_x_firstImage_meadow_home f_x_firstImage_meadow_seeds f_x_firstImage_meadow_lungs f_x_firstImage_meadow_blown f_x_firstImage_meadow_ground f_x_firstImage_sights_breaths f_x_firstImage_sights_flews f_x_now_meadow_home f_x_now_meadow_seeds f_x_now_meadow_lungs f_x_now_meadow_blown f_x_now_meadow_ground f_x_now_sights_breaths f_x_now_sights_flews f_x_pad_kinds f_x_pad_firsts f_x_pad_seconds f_x_secondImage_meadow_home f_x_secondImage_meadow_seeds f_x_secondImage_meadow_lungs f_x_secondImage_meadow_blown f_x_secondImage_meadow_ground f_x_secondImage_sights_breaths f_x_secondImage_sights_flews v_m_there v_m_wind v_m_force v_m_rains v_m_lost v_m_hours v_m_sights v_m_padMany f_m_at f_m_stem f_m_lungs f_m_blown f_m_heap f_m_sightBreath f_m_sightFlew f_m_pad f_m_kept f_m_isKept v_m_acts f_m_act f_m_who f_m_much hRel
  obtain ⟨hN, hS, hP, hI⟩ := hRel
  obtain ⟨v, ac, A, W, M, e1, e2, -⟩ := p_fault hP v_m_acts f_m_act f_m_who f_m_much
  exact ⟨_, _, _, _, _, by (simp only [fX10_fault, e1, Option.bind_some] <;> rfl), e2, hN, hS, hP, hI⟩

theorem co_seen {cnt : Int32} {br fl : Nat → Int32} {sights : Int32} {sb sf : Nat → Int32} (hS : SgtRel cnt br fl sights sb sf) (x1 x2 : Int32) :
    ∃ r cnt1 br1 fl1 sights1 sb1 sf1, fX10_seen cnt br fl x1 x2 = some (r, cnt1, br1, fl1) ∧ fX11_seen sights sb sf x1 x2 = some (r, sights1, sb1, sf1) ∧ SgtRel cnt1 br1 fl1 sights1 sb1 sf1 := by
  rcases p_both x1 1 9 (l := 1) (h := 9) (a := 1) (b := 9) rfl rfl (by decide) (by decide) (by omega) (by omega) with ⟨w1, w2, -⟩ | ⟨b, hb1, hb2, rfl, w1, w2⟩
  · exact ⟨_, _, _, _, _, _, _, by (simp only [fX10_seen, fX10_seen_b20, w1, Option.bind_some, ↓reduceIte] <;> rfl), by (simp only [fX11_seen, fX11_seen_b24, w2, Option.bind_some, ↓reduceIte] <;> rfl), hS⟩
  rcases p_both x2 0 81 (l := 0) (h := 81) (a := 0) (b := 81) rfl rfl (by decide) (by decide) (by omega) (by omega) with ⟨w3, w4, -⟩ | ⟨f, -, hf, rfl, w3, w4⟩
  · exact ⟨_, _, _, _, _, _, _, by (simp only [fX10_seen, fX10_seen_b20, w1, w3, Option.bind_some, ↓reduceIte, q_ne] <;> rfl), by (simp only [fX11_seen, fX11_seen_b24, w2, w4, Option.bind_some, ↓reduceIte, q_ne] <;> rfl), hS⟩
  obtain ⟨n, hn, rfl, rfl, h1, h2⟩ := id hS
  by_cases h8 : n < 8
  · have q1 : nI n < 8 := nI_lt (b := 8) h8 (by omega)
    have q2 : ¬ nI n = 8 := fun e => by
      have := (nI_eq (b := 8) (show n < 2 ^ 31 by omega) (by omega)).mp e
      omega
    refine ⟨_, _, _, _, _, _, _, by (simp only [fX10_seen, fX9_note, w1, w3, Option.bind_some, ↓reduceIte, q_ne, q1, nI_pos (show n < 2 ^ 31 by omega), p_gA h8 (show 8 < 2 ^ 31 by omega), p_cl (show n < 2 ^ 31 by omega), nI_1] <;> rfl), by (simp only [fX11_seen, w2, w4, Option.bind_some, ↓reduceIte, q_ne, q2, p_gA h8 (show 8 < 2 ^ 31 by omega), p_cl (show n < 2 ^ 31 by omega), nI_1] <;> rfl), n + 1, by omega, rfl, rfl, fun i hi => ⟨p_upd (n := 8) (fun k hk => (h1 k hk).1) rfl i hi, p_upd (n := 8) (fun k hk => (h1 k hk).2) rfl i hi⟩, fun i hi => ?_⟩
    by_cases e : i = n
    · subst e
      rw [p_upS, p_upS]
      exact ⟨⟨b, hb1, hb2, rfl⟩, ⟨f, hf, rfl⟩⟩
    · rw [p_upN e, p_upN e]
      exact h2 i (by omega)
  · have e : n = 8 := by omega
    subst e
    have q1 : ¬ nI 8 < 8 := by decide
    have q2 : nI 8 = 8 := rfl
    exact ⟨_, _, _, _, _, _, _, by (simp only [fX10_seen, w1, w3, Option.bind_some, ↓reduceIte, q_ne, q1] <;> rfl), by (simp only [fX11_seen, w2, w4, Option.bind_some, ↓reduceIte, q_ne, eq_true q2] <;> rfl), hS⟩
theorem st_seen : gStep_seen gRel := by
  intro v_x_imagesKept v_x_firstImage_meadow_families v_x_firstImage_meadow_wind v_x_firstImage_meadow_force v_x_firstImage_meadow_rain v_x_firstImage_meadow_lost v_x_firstImage_meadow_hour v_x_firstImage_sights_count v_x_now_meadow_families v_x_now_meadow_wind v_x_now_meadow_force v_x_now_meadow_rain v_x_now_meadow_lost v_x_now_meadow_hour v_x_now_sights_count v_x_pad_signs v_x_pad_acts v_x_pad_reading v_x_pad_begun v_x_pad_brokenAt v_x_secondImage_meadow_families v_x_secondImage_meadow_wind v_x_secondImage_meadow_force v_x_secondImage_meadow_rain v_x_secondImage_meadow_lost v_x_secondImage_meadow_hour v_x_secondImage_sights_count f_x_firstImage_meadow_home f_x_firstImage_meadow_seeds f_x_firstImage_meadow_lungs f_x_firstImage_meadow_blown f_x_firstImage_meadow_ground f_x_firstImage_sights_breaths f_x_firstImage_sights_flews f_x_now_meadow_home f_x_now_meadow_seeds f_x_now_meadow_lungs f_x_now_meadow_blown f_x_now_meadow_ground f_x_now_sights_breaths f_x_now_sights_flews f_x_pad_kinds f_x_pad_firsts f_x_pad_seconds f_x_secondImage_meadow_home f_x_secondImage_meadow_seeds f_x_secondImage_meadow_lungs f_x_secondImage_meadow_blown f_x_secondImage_meadow_ground f_x_secondImage_sights_breaths f_x_secondImage_sights_flews v_m_there v_m_wind v_m_force v_m_rains v_m_lost v_m_hours v_m_sights v_m_padMany f_m_at f_m_stem f_m_lungs f_m_blown f_m_heap f_m_sightBreath f_m_sightFlew f_m_pad f_m_kept f_m_isKept a0 a1 hRel
  obtain ⟨hN, hS, hP, hI⟩ := hRel
  obtain ⟨r, cnt1, br1, fl1, sights1, sb1, sf1, e1, e2, e3⟩ := co_seen hS a0 a1
  exact ⟨_, _, _, _, _, _, _, e1, e2, hN, e3, hP, hI⟩

theorem st_forget : gStep_forget gRel := by
  intro v_x_imagesKept v_x_firstImage_meadow_families v_x_firstImage_meadow_wind v_x_firstImage_meadow_force v_x_firstImage_meadow_rain v_x_firstImage_meadow_lost v_x_firstImage_meadow_hour v_x_firstImage_sights_count v_x_now_meadow_families v_x_now_meadow_wind v_x_now_meadow_force v_x_now_meadow_rain v_x_now_meadow_lost v_x_now_meadow_hour v_x_now_sights_count v_x_pad_signs v_x_pad_acts v_x_pad_reading v_x_pad_begun v_x_pad_brokenAt v_x_secondImage_meadow_families v_x_secondImage_meadow_wind v_x_secondImage_meadow_force v_x_secondImage_meadow_rain v_x_secondImage_meadow_lost v_x_secondImage_meadow_hour v_x_secondImage_sights_count f_x_firstImage_meadow_home f_x_firstImage_meadow_seeds f_x_firstImage_meadow_lungs f_x_firstImage_meadow_blown f_x_firstImage_meadow_ground f_x_firstImage_sights_breaths f_x_firstImage_sights_flews f_x_now_meadow_home f_x_now_meadow_seeds f_x_now_meadow_lungs f_x_now_meadow_blown f_x_now_meadow_ground f_x_now_sights_breaths f_x_now_sights_flews f_x_pad_kinds f_x_pad_firsts f_x_pad_seconds f_x_secondImage_meadow_home f_x_secondImage_meadow_seeds f_x_secondImage_meadow_lungs f_x_secondImage_meadow_blown f_x_secondImage_meadow_ground f_x_secondImage_sights_breaths f_x_secondImage_sights_flews v_m_there v_m_wind v_m_force v_m_rains v_m_lost v_m_hours v_m_sights v_m_padMany f_m_at f_m_stem f_m_lungs f_m_blown f_m_heap f_m_sightBreath f_m_sightFlew f_m_pad f_m_kept f_m_isKept hRel
  obtain ⟨hN, hS, hP, hI⟩ := hRel
  obtain ⟨n, hn, e1, e2, h1, h2⟩ := hS
  subst e1 e2
  exact ⟨_, _, _, by (simp only [fX10_forget] <;> rfl), by (simp only [fX11_forget] <;> rfl), hN, ⟨0, by omega, rfl, rfl, h1, fun i hi => by omega⟩, hP, hI⟩

