/-! the steps: told, judge, behind, lies, total, ruined, done -/
theorem p_dm : ∀ k, k < 140 → nI k % 10 = nI (k % 10) ∧ nI k / 10 = nI (k / 10) := by decide +kernel
theorem p_ne {a b : Nat} {y : Int32} (hy : nI b = y) (ha : a < 2 ^ 31) (hb : b < 2 ^ 31) (h : ¬ a = b) : ¬ nI a = y := by
  rw [← hy]
  exact fun e => h ((nI_eq ha hb).mp e)
theorem co_told {t w fo ra lost ho : Int32} {home seeds lungs blown ground : Nat → Int32} {there wind force rains lost' hours : Int32} {at' stem lungs' blown' heap : Nat → Int32} (hN : NowRel t w fo ra lost ho home seeds lungs blown ground there wind force rains lost' hours at' stem lungs' blown' heap) {cnt sights signs padMany : Int32} (hc : sights = cnt) (hs : padMany = signs) (x1 : Int32) :
    ∃ r, fX10_told t w fo ra lost ho cnt signs home seeds lungs blown ground x1 = some r ∧ fX11_told there wind force rains lost' hours sights padMany at' stem lungs' blown' heap x1 = some r := by
  obtain ⟨⟨rfl, rfl, rfl, rfl, rfl, rfl⟩, ⟨ht, hw, hf, hr, hh, hho, hse, hlu, hbl, hgr, hd⟩, ⟨ha, hst, hlr, hbr, hhe⟩⟩ := hN
  subst hc hs
  rcases p_both x1 0 7 (l := 0) (h := 7) (a := 0) (b := 7) rfl rfl (by decide) (by decide) (by omega) (by omega) with ⟨w1, -, n1⟩ | ⟨k, -, hk, rfl, w1, -⟩
  · rcases p_both x1 10 69 (l := 10) (h := 69) (a := 10) (b := 69) rfl rfl (by decide) (by decide) (by omega) (by omega) with ⟨w3, w4, -⟩ | ⟨k, hk1, hk2, rfl, w3, w4⟩
    · rcases p_both x1 100 135 (l := 100) (h := 135) (a := 100) (b := 135) rfl rfl (by decide) (by decide) (by omega) (by omega) with ⟨w5, w6, -⟩ | ⟨k, hk1, hk2, rfl, w5, w6⟩
      · have z0 : ¬ x1 = 0 := n1 0 (by omega) (by omega)
        have z1 : ¬ x1 = 1 := n1 1 (by omega) (by omega)
        have z2 : ¬ x1 = 2 := n1 2 (by omega) (by omega)
        have z3 : ¬ x1 = 3 := n1 3 (by omega) (by omega)
        have z4 : ¬ x1 = 4 := n1 4 (by omega) (by omega)
        have z5 : ¬ x1 = 5 := n1 5 (by omega) (by omega)
        have z6 : ¬ x1 = 6 := n1 6 (by omega) (by omega)
        have z7 : ¬ x1 = 7 := n1 7 (by omega) (by omega)
        exact ⟨-2, by simp only [fX10_told, w1, w3, w5, Option.bind_some, ↓reduceIte], by simp only [fX11_told, w4, w6, z0, z1, z2, z3, z4, z5, z6, z7, Option.bind_some, ↓reduceIte]⟩
      · have e : nI k - 100 = nI (k - 100) := pk_sub (b := 100) hk1
        exact ⟨ground (k - 100), by simp only [fX10_told, w1, w3, w5, Option.bind_some, ↓reduceIte, q_ne, e, p_at 36 (by omega) ground (show k - 100 < 36 by omega)], by simp only [fX11_told, w6, Option.bind_some, ↓reduceIte, q_ne, e, p_gA (show k - 100 < 36 by omega) (show 36 < 2 ^ 31 by omega), p_cl (show k - 100 < 2 ^ 31 by omega), hhe (k - 100) (show k - 100 < 36 by omega)]⟩
    · rcases p_both (nI k) 100 135 (l := 100) (h := 135) (a := 100) (b := 135) rfl rfl (by decide) (by decide) (by omega) (by omega) with ⟨w5, w6, -⟩ | ⟨k', hk3, hk4, hkk, -, -⟩
      · have e1 := (p_dm k (by omega)).1
        have e2 := (p_dm k (by omega)).2
        have e3 : nI (k / 10) - 1 = nI (k / 10 - 1) := pk_sub (b := 1) (by omega)
        have key : ∀ q m, q < 6 → m < 10 → ∃ r, fX10_toldOfFamily there home seeds lungs blown (nI q) (nI m) = some r ∧ fX11_toldOf there at' stem lungs' blown' (nI q) (nI m) = some r := by
          intro q m hq hm
          have hA := fun {α : Type} (K : Option α) => p_gA hq (show 6 < 2 ^ 31 by omega) K
          have hcl := p_cl (show q < 2 ^ 31 by omega)
          cases hg : gP there q with
          | false => exact ⟨-2, by simp only [fX10_toldOfFamily, p_isThere there hq, hg, Bool.false_eq_true, Option.bind_some, ↓reduceIte], by simp only [fX11_toldOf, p_isFamily ht hq, hg, Bool.false_eq_true, Option.bind_some, ↓reduceIte]⟩
          | true =>
            by_cases m0 : m = 0
            · subst m0
              have z : nI 0 = 0 := rfl
              exact ⟨home q, by simp only [fX10_toldOfFamily, p_isThere there hq, hg, Option.bind_some, ↓reduceIte, q_ne, z, hA, hcl], by simp only [fX11_toldOf, fX11_toldOf_b68, p_isFamily ht hq, hg, Option.bind_some, ↓reduceIte, q_ne, z, hA, hcl, ha q hq]⟩
            by_cases m1 : m = 1
            · subst m1
              have z : nI 1 = 1 := rfl
              exact ⟨seeds q, by simp only [fX10_toldOfFamily, p_isThere there hq, hg, Option.bind_some, ↓reduceIte, q_ne, z, hA, hcl], by simp only [fX11_toldOf, fX11_toldOf_b68, p_isFamily ht hq, hg, Option.bind_some, ↓reduceIte, q_ne, z, hA, hcl, hst q hq hg]⟩
            by_cases m2 : m = 2
            · subst m2
              have z : nI 2 = 2 := rfl
              exact ⟨lungs q, by simp only [fX10_toldOfFamily, p_isThere there hq, hg, Option.bind_some, ↓reduceIte, q_ne, z, hA, hcl], by simp only [fX11_toldOf, fX11_toldOf_b68, p_isFamily ht hq, hg, Option.bind_some, ↓reduceIte, q_ne, z, hA, hcl, hlr q hq]⟩
            by_cases m3 : m = 3
            · subst m3
              have z : nI 3 = 3 := rfl
              exact ⟨blown q, by simp only [fX10_toldOfFamily, p_isThere there hq, hg, Option.bind_some, ↓reduceIte, q_ne, z, hA, hcl], by simp only [fX11_toldOf, fX11_toldOf_b68, p_isFamily ht hq, hg, Option.bind_some, ↓reduceIte, q_ne, z, hA, hcl, hbr q hq]⟩
            have z0 : ¬ nI m = 0 := p_ne (b := 0) rfl (by omega) (by omega) m0
            have z1 : ¬ nI m = 1 := p_ne (b := 1) rfl (by omega) (by omega) m1
            have z2 : ¬ nI m = 2 := p_ne (b := 2) rfl (by omega) (by omega) m2
            have z3 : ¬ nI m = 3 := p_ne (b := 3) rfl (by omega) (by omega) m3
            exact ⟨-2, by simp only [fX10_toldOfFamily, p_isThere there hq, hg, Option.bind_some, ↓reduceIte, q_ne, z0, z1, z2, z3], by simp only [fX11_toldOf, fX11_toldOf_b68, p_isFamily ht hq, hg, Option.bind_some, ↓reduceIte, q_ne, z0, z1, z2, z3]⟩
        obtain ⟨r, r1, r2⟩ := key (k / 10 - 1) (k % 10) (by omega) (by omega)
        exact ⟨r, by simp only [fX10_told, w1, w3, Option.bind_some, ↓reduceIte, q_ne, e1, e2, e3, r1], by simp only [fX11_told, w4, w6, Option.bind_some, ↓reduceIte, q_ne, e1, e2, e3, r2]⟩
      · have := (nI_eq (by omega) (by omega)).mp hkk
        omega
  · rcases p_both (nI k) 10 69 (l := 10) (h := 69) (a := 10) (b := 69) rfl rfl (by decide) (by decide) (by omega) (by omega) with ⟨w3, w4, -⟩ | ⟨k', hk3, hk4, hkk, -, -⟩
    · rcases p_both (nI k) 100 135 (l := 100) (h := 135) (a := 100) (b := 135) rfl rfl (by decide) (by decide) (by omega) (by omega) with ⟨w5, w6, -⟩ | ⟨k', hk3, hk4, hkk, -, -⟩
      · obtain rfl | rfl | rfl | rfl | rfl | rfl | rfl | rfl : k = 0 ∨ k = 1 ∨ k = 2 ∨ k = 3 ∨ k = 4 ∨ k = 5 ∨ k = 6 ∨ k = 7 := by omega
        · rw [show nI 0 = 0 from rfl] at *
          exact ⟨_, by (simp only [fX10_told, fX10_toldOfAll, w1, Option.bind_some, ↓reduceIte, q_ne] <;> rfl), by (simp only [fX11_told, w4, w6, Option.bind_some, ↓reduceIte, q_ne] <;> rfl)⟩
        · rw [show nI 1 = 1 from rfl] at *
          exact ⟨_, by (simp only [fX10_told, fX10_toldOfAll, w1, Option.bind_some, ↓reduceIte, q_ne] <;> rfl), by (simp only [fX11_told, w4, w6, Option.bind_some, ↓reduceIte, q_ne] <;> rfl)⟩
        · rw [show nI 2 = 2 from rfl] at *
          exact ⟨_, by (simp only [fX10_told, fX10_toldOfAll, w1, Option.bind_some, ↓reduceIte, q_ne] <;> rfl), by (simp only [fX11_told, w4, w6, Option.bind_some, ↓reduceIte, q_ne] <;> rfl)⟩
        · rw [show nI 3 = 3 from rfl] at *
          exact ⟨_, by (simp only [fX10_told, fX10_toldOfAll, w1, Option.bind_some, ↓reduceIte, q_ne] <;> rfl), by (simp only [fX11_told, w4, w6, Option.bind_some, ↓reduceIte, q_ne] <;> rfl)⟩
        · rw [show nI 4 = 4 from rfl] at *
          exact ⟨_, by (simp only [fX10_told, fX10_toldOfAll, w1, Option.bind_some, ↓reduceIte, q_ne] <;> rfl), by (simp only [fX11_told, w4, w6, Option.bind_some, ↓reduceIte, q_ne] <;> rfl)⟩
        · rw [show nI 5 = 5 from rfl] at *
          exact ⟨_, by (simp only [fX10_told, fX10_toldOfAll, w1, Option.bind_some, ↓reduceIte, q_ne] <;> rfl), by (simp only [fX11_told, w4, w6, Option.bind_some, ↓reduceIte, q_ne] <;> rfl)⟩
        · rw [show nI 6 = 6 from rfl] at *
          exact ⟨_, by (simp only [fX10_told, fX10_toldOfAll, w1, Option.bind_some, ↓reduceIte, q_ne] <;> rfl), by (simp only [fX11_told, w4, w6, Option.bind_some, ↓reduceIte, q_ne] <;> rfl)⟩
        · rw [show nI 7 = 7 from rfl] at *
          exact ⟨_, by (simp only [fX10_told, fX10_toldOfAll, w1, Option.bind_some, ↓reduceIte, q_ne] <;> rfl), by (simp only [fX11_told, w4, w6, Option.bind_some, ↓reduceIte, q_ne] <;> rfl)⟩
      · have := (nI_eq (by omega) (by omega)).mp hkk
        omega
    · have := (nI_eq (by omega) (by omega)).mp hkk
      omega
theorem st_told : gStep_told gRel := by
  intro v_x_imagesKept v_x_firstImage_meadow_families v_x_firstImage_meadow_wind v_x_firstImage_meadow_force v_x_firstImage_meadow_rain v_x_firstImage_meadow_lost v_x_firstImage_meadow_hour v_x_firstImage_sights_count v_x_now_meadow_families v_x_now_meadow_wind v_x_now_meadow_force v_x_now_meadow_rain v_x_now_meadow_lost v_x_now_meadow_hour v_x_now_sights_count v_x_pad_signs v_x_pad_acts v_x_pad_reading v_x_pad_begun v_x_pad_brokenAt v_x_secondImage_meadow_families v_x_secondImage_meadow_wind v_x_secondImage_meadow_force v_x_secondImage_meadow_rain v_x_secondImage_meadow_lost v_x_secondImage_meadow_hour v_x_secondImage_sights_count f_x_firstImage_meadow_home f_x_firstImage_meadow_seeds f_x_firstImage_meadow_lungs f_x_firstImage_meadow_blown f_x_firstImage_meadow_ground f_x_firstImage_sights_breaths f_x_firstImage_sights_flews f_x_now_meadow_home f_x_now_meadow_seeds f_x_now_meadow_lungs f_x_now_meadow_blown f_x_now_meadow_ground f_x_now_sights_breaths f_x_now_sights_flews f_x_pad_kinds f_x_pad_firsts f_x_pad_seconds f_x_secondImage_meadow_home f_x_secondImage_meadow_seeds f_x_secondImage_meadow_lungs f_x_secondImage_meadow_blown f_x_secondImage_meadow_ground f_x_secondImage_sights_breaths f_x_secondImage_sights_flews v_m_there v_m_wind v_m_force v_m_rains v_m_lost v_m_hours v_m_sights v_m_padMany f_m_at f_m_stem f_m_lungs f_m_blown f_m_heap f_m_sightBreath f_m_sightFlew f_m_pad f_m_kept f_m_isKept a0 hRel
  obtain ⟨hN, hS, hP, hI⟩ := hRel
  obtain ⟨n, hn, s1, s2, -⟩ := id hS
  obtain ⟨s, a, hs, has, s3, s4, -⟩ := id hP
  obtain ⟨r, e1, e2⟩ := co_told hN (s2.trans s1.symm) (s4.trans s3.symm) a0
  exact ⟨_, e1, e2, hN, hS, hP, hI⟩

theorem st_judge : gStep_judge gRel := by
  intro v_x_imagesKept v_x_firstImage_meadow_families v_x_firstImage_meadow_wind v_x_firstImage_meadow_force v_x_firstImage_meadow_rain v_x_firstImage_meadow_lost v_x_firstImage_meadow_hour v_x_firstImage_sights_count v_x_now_meadow_families v_x_now_meadow_wind v_x_now_meadow_force v_x_now_meadow_rain v_x_now_meadow_lost v_x_now_meadow_hour v_x_now_sights_count v_x_pad_signs v_x_pad_acts v_x_pad_reading v_x_pad_begun v_x_pad_brokenAt v_x_secondImage_meadow_families v_x_secondImage_meadow_wind v_x_secondImage_meadow_force v_x_secondImage_meadow_rain v_x_secondImage_meadow_lost v_x_secondImage_meadow_hour v_x_secondImage_sights_count f_x_firstImage_meadow_home f_x_firstImage_meadow_seeds f_x_firstImage_meadow_lungs f_x_firstImage_meadow_blown f_x_firstImage_meadow_ground f_x_firstImage_sights_breaths f_x_firstImage_sights_flews f_x_now_meadow_home f_x_now_meadow_seeds f_x_now_meadow_lungs f_x_now_meadow_blown f_x_now_meadow_ground f_x_now_sights_breaths f_x_now_sights_flews f_x_pad_kinds f_x_pad_firsts f_x_pad_seconds f_x_secondImage_meadow_home f_x_secondImage_meadow_seeds f_x_secondImage_meadow_lungs f_x_secondImage_meadow_blown f_x_secondImage_meadow_ground f_x_secondImage_sights_breaths f_x_secondImage_sights_flews v_m_there v_m_wind v_m_force v_m_rains v_m_lost v_m_hours v_m_sights v_m_padMany f_m_at f_m_stem f_m_lungs f_m_blown f_m_heap f_m_sightBreath f_m_sightFlew f_m_pad f_m_kept f_m_isKept v_x_hours_barredAct v_x_hours_barredWhy v_x_hours_flown v_x_hours_ruinAct v_x_hours_ruinFamily v_x_hours_meadow_families v_x_hours_meadow_wind v_x_hours_meadow_force v_x_hours_meadow_rain v_x_hours_meadow_lost v_x_hours_meadow_hour f_x_hours_meadow_home f_x_hours_meadow_seeds f_x_hours_meadow_lungs f_x_hours_meadow_blown f_x_hours_meadow_ground v_m_acts v_m_blownMany v_m_badAct v_m_badWhy v_m_ruinAct v_m_ruinWho f_m_act f_m_who f_m_much f_m_had a0 hRel
  obtain ⟨hN, hS, hP, hI⟩ := hRel
  obtain ⟨⟨e1, e2, e3, e4, e5, e6⟩, hMI, hMR⟩ := hN
  subst e1 e2 e3 e4 e5 e6
  rcases p_both a0 0 2 (l := 0) (h := 2) (a := 0) (b := 2) rfl rfl (by decide) (by decide) (by omega) (by omega) with ⟨w1, w2, -⟩ | ⟨k, -, hk, rfl, w1, w2⟩
  · exact ⟨_, _, _, _, _, _, _, _, _, _, _, _, _, _, _, _, _, _, _, _, _, _, _, _, _, _, _, _, _, _, _, _, _, _, _, by (simp only [fX10_judge, w1, Option.bind_some, ↓reduceIte] <;> rfl), by (simp only [fX11_judge, w2, Option.bind_some, ↓reduceIte] <;> rfl), ⟨⟨rfl, rfl, rfl, rfl, rfl, rfl⟩, hMI, hMR⟩, hS, hP, hI⟩
  obtain ⟨ac, A, W, M, had, k1, hk2⟩ := p_run (lost := v_m_lost) hMI hMR hP v_x_hours_barredAct v_x_hours_barredWhy v_x_hours_flown v_x_hours_ruinAct v_x_hours_ruinFamily v_x_hours_meadow_families v_x_hours_meadow_wind v_x_hours_meadow_force v_x_hours_meadow_rain v_x_hours_meadow_lost v_x_hours_meadow_hour f_x_hours_meadow_home f_x_hours_meadow_seeds f_x_hours_meadow_lungs f_x_hours_meadow_blown f_x_hours_meadow_ground v_m_acts v_m_blownMany v_m_badAct v_m_badWhy v_m_ruinAct v_m_ruinWho f_m_act f_m_who f_m_much f_m_had
  rcases hk2 with ⟨r1, r2⟩ | ⟨rfl, s0, s1, ba, bw, fl, rA, rF, w1', fo1, ra1, lost1, ho1, seeds1, blown1, ground1, stem1, blown2, heap1, r1, r2, -, -, r3⟩
  · obtain ⟨stem', blown', heap', b1, b2, b3, b4⟩ := p_back k1 v_m_wind v_m_force v_m_rains v_m_lost v_m_hours (-5) f_m_stem f_m_blown f_m_heap
    exact ⟨_, _, _, _, _, _, _, _, _, _, _, _, _, _, _, _, _, _, _, _, _, _, _, _, _, _, _, _, _, _, _, _, _, _, _, by (simp only [fX10_judge, w1, r1, Option.bind_some, ↓reduceIte, q_ne] <;> rfl), by (simp only [fX11_judge, fX11_judge_b41, w2, r2, b1, Option.bind_some, ↓reduceIte, q_ne] <;> rfl), ⟨⟨rfl, rfl, rfl, rfl, rfl, rfl⟩, hMI, p_mcongr hMR b2 b3 b4⟩, hS, hP, hI⟩
  · obtain ⟨stem', blown', heap', b1, b2, b3, b4⟩ := p_back k1 w1' fo1 ra1 lost1 ho1 s1 stem1 blown2 heap1
    have hN2 := p_mcongr hMR b2 b3 b4
    rcases r3 with ⟨rfl, rfl⟩ | ⟨rfl, rfl⟩
    · obtain rfl | rfl | rfl : k = 0 ∨ k = 1 ∨ k = 2 := by omega
      · rw [show nI 0 = 0 from rfl] at w1 w2 ⊢
        exact ⟨_, _, _, _, _, _, _, _, _, _, _, _, _, _, _, _, _, _, _, _, _, _, _, _, _, _, _, _, _, _, _, _, _, _, _, by (simp only [fX10_judge, w1, r1, Option.bind_some, ↓reduceIte, q_ne] <;> rfl), by (simp only [fX11_judge, fX11_judge_b43, fX11_judge_b70, w2, r2, b1, Option.bind_some, ↓reduceIte, q_ne, q_leT] <;> rfl), ⟨⟨rfl, rfl, rfl, rfl, rfl, rfl⟩, hMI, hN2⟩, hS, hP, hI⟩
      · rw [show nI 1 = 1 from rfl] at w1 w2 ⊢
        exact ⟨_, _, _, _, _, _, _, _, _, _, _, _, _, _, _, _, _, _, _, _, _, _, _, _, _, _, _, _, _, _, _, _, _, _, _, by (simp only [fX10_judge, w1, r1, Option.bind_some, ↓reduceIte, q_ne] <;> rfl), by (simp only [fX11_judge, fX11_judge_b43, fX11_judge_b70, w2, r2, b1, Option.bind_some, ↓reduceIte, q_ne, q_leT] <;> rfl), ⟨⟨rfl, rfl, rfl, rfl, rfl, rfl⟩, hMI, hN2⟩, hS, hP, hI⟩
      · rw [show nI 2 = 2 from rfl] at w1 w2 ⊢
        exact ⟨_, _, _, _, _, _, _, _, _, _, _, _, _, _, _, _, _, _, _, _, _, _, _, _, _, _, _, _, _, _, _, _, _, _, _, by (simp only [fX10_judge, fX10_judge_b99, w1, r1, Option.bind_some, ↓reduceIte, q_ne] <;> rfl), by (simp only [fX11_judge, fX11_judge_b43, fX11_judge_b70, w2, r2, b1, Option.bind_some, ↓reduceIte, q_ne, q_le] <;> rfl), ⟨⟨rfl, rfl, rfl, rfl, rfl, rfl⟩, hMI, hN2⟩, hS, hP, hI⟩
    · obtain rfl | rfl | rfl : k = 0 ∨ k = 1 ∨ k = 2 := by omega
      · rw [show nI 0 = 0 from rfl] at w1 w2 ⊢
        exact ⟨_, _, _, _, _, _, _, _, _, _, _, _, _, _, _, _, _, _, _, _, _, _, _, _, _, _, _, _, _, _, _, _, _, _, _, by (simp only [fX10_judge, w1, r1, Option.bind_some, ↓reduceIte, q_ne] <;> rfl), by (simp only [fX11_judge, fX11_judge_b43, fX11_judge_b70, w2, r2, b1, Option.bind_some, ↓reduceIte, q_ne, q_leT] <;> rfl), ⟨⟨rfl, rfl, rfl, rfl, rfl, rfl⟩, hMI, hN2⟩, hS, hP, hI⟩
      · rw [show nI 1 = 1 from rfl] at w1 w2 ⊢
        exact ⟨_, _, _, _, _, _, _, _, _, _, _, _, _, _, _, _, _, _, _, _, _, _, _, _, _, _, _, _, _, _, _, _, _, _, _, by (simp only [fX10_judge, w1, r1, Option.bind_some, ↓reduceIte, q_ne] <;> rfl), by (simp only [fX11_judge, fX11_judge_b43, fX11_judge_b70, w2, r2, b1, Option.bind_some, ↓reduceIte, q_ne, q_leT] <;> rfl), ⟨⟨rfl, rfl, rfl, rfl, rfl, rfl⟩, hMI, hN2⟩, hS, hP, hI⟩
      · rw [show nI 2 = 2 from rfl] at w1 w2 ⊢
        exact ⟨_, _, _, _, _, _, _, _, _, _, _, _, _, _, _, _, _, _, _, _, _, _, _, _, _, _, _, _, _, _, _, _, _, _, _, by (simp only [fX10_judge, fX10_judge_b99, w1, r1, Option.bind_some, ↓reduceIte, q_ne] <;> rfl), by (simp only [fX11_judge, fX11_judge_b41, w2, r2, b1, Option.bind_some, ↓reduceIte, q_ne, q_le] <;> rfl), ⟨⟨rfl, rfl, rfl, rfl, rfl, rfl⟩, hMI, hN2⟩, hS, hP, hI⟩

