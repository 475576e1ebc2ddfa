/-! the step: year -/
theorem p_dr {x : Nat} (hx : x < 65537) : (nI x / 6) % 8 = nI ((x / 6) % 8) ∧ nI x % 6 = nI (x % 6) ∧ (nI x / 48) % 4 = nI ((x / 48) % 4) ∧ (nI x / 192) % 6 = nI ((x / 192) % 6) ∧ (1 : Int32) + (nI x / 48) % 9 = nI (1 + (x / 48) % 9) := by
  have d6 : nI x / 6 = nI (x / 6) := pk_div (d := 6) (by omega) (by omega) (by omega)
  have d48 : nI x / 48 = nI (x / 48) := pk_div (d := 48) (by omega) (by omega) (by omega)
  have d192 : nI x / 192 = nI (x / 192) := pk_div (d := 192) (by omega) (by omega) (by omega)
  have m8 : nI (x / 6) % 8 = nI ((x / 6) % 8) := p_mod (b := 8) (by omega) (by omega)
  have m6 : nI x % 6 = nI (x % 6) := p_mod (b := 6) (by omega) (by omega)
  have m4 : nI (x / 48) % 4 = nI ((x / 48) % 4) := p_mod (b := 4) (by omega) (by omega)
  have m6' : nI (x / 192) % 6 = nI ((x / 192) % 6) := p_mod (b := 6) (by omega) (by omega)
  have m9 : nI (x / 48) % 9 = nI ((x / 48) % 9) := p_mod (b := 9) (by omega) (by omega)
  rw [d6, d48, d192, m8, m6, m4, m6', m9]
  exact ⟨rfl, rfl, rfl, rfl, nI_add 1 _⟩
theorem p_draw {x : Nat} (hx : x < 65537) (k f s : Int32) : ∃ c a n n', fX1_drawAct k f s (nI x) = some (c, a, n) ∧ ActOK c a n n' ∧ fX11_actBy ((nI x / 6) % 8) = some c ∧ (c = 3 → (nI x / 48) % 4 = a ∧ (nI x / 192) % 6 = n') ∧ (¬ c = 3 → nI x % 6 = a ∧ 1 + (nI x / 48) % 9 = n') := by
  obtain ⟨e1, e2, e3, e4, e5⟩ := p_dr hx
  unfold fX1_drawAct fX1_drawAct_b137 fX11_actBy fX11_actBy_b48
  rw [e1, e2, e3, e4, e5]
  have hm : (x / 6) % 8 < 8 := Nat.mod_lt _ (by omega)
  generalize (x / 6) % 8 = m at hm
  obtain rfl | rfl | rfl | rfl | rfl | rfl | rfl | rfl : m = 0 ∨ m = 1 ∨ m = 2 ∨ m = 3 ∨ m = 4 ∨ m = 5 ∨ m = 6 ∨ m = 7 := by omega
  · exact ⟨0, nI (x % 6), nI (1 + (x / 48) % 9), nI (1 + (x / 48) % 9), by rw [if_neg (by decide), if_neg (by decide), if_neg (by decide), if_neg (by decide), if_neg (by decide)], Or.inl ⟨rfl, x % 6, 1 + (x / 48) % 9, by omega, by omega, by omega, rfl, rfl, rfl⟩, by rw [if_neg (by decide)], fun h => absurd h (by decide), fun _ => ⟨rfl, rfl⟩⟩
  · exact ⟨0, nI (x % 6), nI (1 + (x / 48) % 9), nI (1 + (x / 48) % 9), by rw [if_neg (by decide), if_neg (by decide), if_neg (by decide), if_neg (by decide), if_neg (by decide)], Or.inl ⟨rfl, x % 6, 1 + (x / 48) % 9, by omega, by omega, by omega, rfl, rfl, rfl⟩, by rw [if_neg (by decide)], fun h => absurd h (by decide), fun _ => ⟨rfl, rfl⟩⟩
  · exact ⟨0, nI (x % 6), nI (1 + (x / 48) % 9), nI (1 + (x / 48) % 9), by rw [if_neg (by decide), if_neg (by decide), if_neg (by decide), if_neg (by decide), if_neg (by decide)], Or.inl ⟨rfl, x % 6, 1 + (x / 48) % 9, by omega, by omega, by omega, rfl, rfl, rfl⟩, by rw [if_neg (by decide)], fun h => absurd h (by decide), fun _ => ⟨rfl, rfl⟩⟩
  · exact ⟨2, nI (x % 6), 0, nI (1 + (x / 48) % 9), by rw [if_pos (by decide)], Or.inr (Or.inr (Or.inl ⟨rfl, x % 6, by omega, rfl⟩)), by rw [if_pos (by decide), if_pos (by decide)], fun h => absurd h (by decide), fun _ => ⟨rfl, rfl⟩⟩
  · exact ⟨1, nI (x % 6), 0, nI (1 + (x / 48) % 9), by rw [if_neg (by decide), if_pos (by decide)], Or.inr (Or.inl ⟨rfl, x % 6, by omega, rfl⟩), by rw [if_pos (by decide), if_neg (by decide), if_pos (by decide)], fun h => absurd h (by decide), fun _ => ⟨rfl, rfl⟩⟩
  · exact ⟨3, nI ((x / 48) % 4), nI ((x / 192) % 6), nI ((x / 192) % 6), by rw [if_neg (by decide), if_neg (by decide), if_pos (by decide)], Or.inr (Or.inr (Or.inr (Or.inl ⟨rfl, ⟨(x / 48) % 4, by omega, rfl⟩, ⟨(x / 192) % 6, by omega, rfl⟩, rfl⟩))), by rw [if_pos (by decide), if_neg (by decide), if_neg (by decide), if_pos (by decide)], fun _ => ⟨rfl, rfl⟩, fun h => absurd rfl h⟩
  · exact ⟨5, nI (x % 6), 0, nI (1 + (x / 48) % 9), by rw [if_neg (by decide), if_neg (by decide), if_neg (by decide), if_pos (by decide)], Or.inr (Or.inr (Or.inr (Or.inr (Or.inr (Or.inl rfl))))), by rw [if_pos (by decide), if_neg (by decide), if_neg (by decide), if_neg (by decide), if_pos (by decide)], fun h => absurd h (by decide), fun _ => ⟨rfl, rfl⟩⟩
  · exact ⟨6, nI (x % 6), 0, nI (1 + (x / 48) % 9), by rw [if_neg (by decide), if_neg (by decide), if_neg (by decide), if_neg (by decide), if_pos (by decide)], Or.inr (Or.inr (Or.inr (Or.inr (Or.inr (Or.inr rfl))))), by rw [if_pos (by decide), if_neg (by decide), if_neg (by decide), if_neg (by decide), if_neg (by decide)], fun h => absurd h (by decide), fun _ => ⟨rfl, rfl⟩⟩
theorem p_next {v : Nat} (hv : v < 65537) : ((75 * nI v) + 74) % 65537 = nI ((75 * v + 74) % 65537) ∧ Int64.toInt32 (((75 * (Int32.toInt64 (nI v))) + 74) - ((75 * (Int32.toInt64 (nI v))) + 74) / 65537 * 65537) = nI ((75 * v + 74) % 65537) := by
  constructor
  · have e1 : (75 : Int32) * nI v = nI (75 * v) := pk_mul 75 v
    have e2 : nI (75 * v) + 74 = nI (75 * v + 74) := nI_add (75 * v) 74
    have e3 : nI (75 * v + 74) % 65537 = nI ((75 * v + 74) % 65537) := p_mod (b := 65537) (by omega) (by omega)
    rw [e1, e2, e3]
  · have e1 : (75 : Int64) * lN v = lN (75 * v) := (Int64.ofNat_mul 75 v).symm
    have e2 : lN (75 * v) + 74 = lN (75 * v + 74) := (Int64.ofNat_add (75 * v) 74).symm
    have e3 : lN (75 * v + 74) - lN (75 * v + 74) / 65537 * 65537 = lN ((75 * v + 74) % 65537) := pk_lRem (b := 65537) (by omega) (by omega) (by omega)
    rw [nI_l (by omega), e1, e2, e3, ← nI_l (by omega), lg_l2i_i2l]
theorem p_loopY {t : Int32} {home lungs at' lungs' had : Nat → Int32} {Y : Nat} (hY : Y ≤ 99) (q : Int32) : ∀ (d i m m' v : Nat) (k0 f0 s0 w fo ra ho lost bm : Int32) (seeds blown ground stem blown' heap : Nat → Int32), i + d = Y → d < m → d < m' → v < 65537 → MInv t w fo ra ho home seeds lungs blown ground → MRel t home seeds lungs blown ground at' stem lungs' blown' heap → ∃ k1 f1 s1 w1 fo1 ra1 lost1 ho1 bm1 seeds1 blown1 ground1 stem1 blown2 heap1 v1, fX1_run_b14 m k0 f0 s0 t w fo ra lost ho home seeds lungs blown ground (nI Y) (nI v) (nI i) = some (k1, f1, s1, t, w1, fo1, ra1, lost1, ho1, home, seeds1, lungs, blown1, ground1) ∧ fX11_year_b54 t at' lungs' m' w fo ra lost ho bm stem blown' heap had (nI Y) q (nI v) (nI i) = fX11_year_b54 t at' lungs' 1 w1 fo1 ra1 lost1 ho1 bm1 stem1 blown2 heap1 had (nI Y) q v1 (nI Y) ∧ MInv t w1 fo1 ra1 ho1 home seeds1 lungs blown1 ground1 ∧ MRel t home seeds1 lungs blown1 ground1 at' stem1 lungs' blown2 heap1
  | _, _, 0, _, _, _, _, _, _, _, _, _, _, _, _, _, _, _, _, _, _, h, _, _, _, _ => by omega
  | _, _, _, 0, _, _, _, _, _, _, _, _, _, _, _, _, _, _, _, _, _, _, h, _, _, _ => by omega
  | 0, i, m + 1, m' + 1, v, k0, f0, s0, w, fo, ra, ho, lost, bm, seeds, blown, ground, stem, blown', heap, h1, _, _, _, hI, hR => by
    have e : i = Y := by omega
    subst e
    exact ⟨k0, f0, s0, w, fo, ra, lost, ho, bm, seeds, blown, ground, stem, blown', heap, nI v, by simp only [fX1_run_b14, Int32.le_refl, ↓reduceIte], by simp only [fX11_year_b54, Int32.le_refl, ↓reduceIte], hI, hR⟩
  | d + 1, i, m + 1, m' + 1, v, k0, f0, s0, w, fo, ra, ho, lost, bm, seeds, blown, ground, stem, blown', heap, h1, h2, h3, hv, hI, hR => by
    have hlt : ¬ nI Y ≤ nI i := nI_ge (by omega) (by omega)
    obtain ⟨n1, n2⟩ := p_next hv
    have hx : (75 * v + 74) % 65537 < 65537 := Nat.mod_lt _ (by omega)
    generalize (75 * v + 74) % 65537 = x at n1 n2 hx
    obtain ⟨c, a, n, n', d1, d2, d3, d4, d5⟩ := p_draw hx k0 f0 s0
    obtain ⟨y, hy, w1, w2, w3⟩ := p_why hI hR d2
    have hM : fX11_year_b54 t at' lungs' (m' + 1) w fo ra lost ho bm stem blown' heap had (nI Y) q (nI v) (nI i) = fX11_year_b142 (fX11_year_b54 t at' lungs' m') t at' lungs' w fo ra lost ho bm stem blown' heap had (nI Y) q (nI x) (nI i) c a n' := by
      by_cases hc : c = 3
      · obtain ⟨z1, z2⟩ := d4 hc
        subst hc
        simp only [fX11_year_b54, fX11_year_b112, hlt, ↓reduceIte, n2, d3, Option.bind_some, z1, z2]
      · obtain ⟨z1, z2⟩ := d5 hc
        simp only [fX11_year_b54, fX11_year_b112, hlt, ↓reduceIte, n2, d3, Option.bind_some, hc, z1, z2]
    by_cases hy0 : y = 0
    · subst hy0
      have hz : (nI 0 : Int32) = 0 := rfl
      obtain ⟨wx, fox, rax, lostx, hox, seedsx, blownx, groundx, stemx, blownx', heapx, b, a1, a2, a3, a4, a5⟩ := p_act (lost := lost) (bm := bm) hI hR (w3 rfl)
      obtain ⟨k1, f1, s1, w9, fo9, ra9, lost9, ho9, bm9, seeds9, blown9, ground9, stem9, blown8, heap9, v9, i1, i2, i3, i4⟩ := p_loopY hY q d (i + 1) m m' x c a n wx fox rax hox lostx (bm + b) seedsx blownx groundx stemx blownx' heapx (by omega) (by omega) (by omega) hx a4 a5
      refine ⟨k1, f1, s1, w9, fo9, ra9, lost9, ho9, bm9, seeds9, blown9, ground9, stem9, blown8, heap9, v9, ?_, ?_, i3, i4⟩
      · simp only [fX1_run_b14, fX1_run_b80, hlt, ↓reduceIte, n1, d1, Option.bind_some, w1, hz, a1, nI_1, i1]
      · rw [hM, ← i2]
        simp only [fX11_year_b142, fX11_year_b167, w2, hz, ↓reduceIte, a2, Option.bind_some, nI_1]
    · have hyn : ¬ nI y = 0 := nI_ne0 (by omega) (by omega)
      obtain ⟨k1, f1, s1, w9, fo9, ra9, lost9, ho9, bm9, seeds9, blown9, ground9, stem9, blown8, heap9, v9, i1, i2, i3, i4⟩ := p_loopY hY q d (i + 1) m m' x c a n w fo ra ho lost bm seeds blown ground stem blown' heap (by omega) (by omega) (by omega) hx hI hR
      refine ⟨k1, f1, s1, w9, fo9, ra9, lost9, ho9, bm9, seeds9, blown9, ground9, stem9, blown8, heap9, v9, ?_, ?_, i3, i4⟩
      · simp only [fX1_run_b14, fX1_run_b80, hlt, ↓reduceIte, n1, d1, Option.bind_some, w1, hyn, nI_1, i1]
      · rw [hM, ← i2]
        simp only [fX11_year_b142, fX11_year_b167, w2, hyn, ↓reduceIte, Option.bind_some, nI_1]
theorem p_sumOf {t w fo ra ho lost : Int32} {home seeds lungs blown ground at' stem lungs' blown' heap : Nat → Int32} (hI : MInv t w fo ra ho home seeds lungs blown ground) (hR : MRel t home seeds lungs blown ground at' stem lungs' blown' heap) : ∃ a b, fX6_allSeeds t seeds = some a ∧ fX11_allSeeds t stem = some a ∧ fX6_allLying ground = some b ∧ fX11_allLies heap = some b := by
  obtain ⟨a, a1, a2⟩ := p_sumS hI.1 hR.2.1 6 0 1000 1000 0 (by omega) (by omega) (by omega)
  obtain ⟨b, b1, b2⟩ := p_sumL hR.2.2.2.2 36 0 1000 1000 0 (by omega) (by omega) (by omega)
  exact ⟨a, b, a1, a2, by rw [fX6_allLying, show fX10_sumOfRow 36 ground = some b from b1, Option.bind_some], b2⟩
theorem st_year : gStep_year gRel := by
  intro v_x_imagesKept v_x_firstImage_meadow_families v_x_firstImage_meadow_wind v_x_firstImage_meadow_force v_x_firstImage_meadow_rain v_x_firstImage_meadow_lost v_x_firstImage_meadow_hour v_x_firstImage_sights_count v_x_now_meadow_families v_x_now_meadow_wind v_x_now_meadow_force v_x_now_meadow_rain v_x_now_meadow_lost v_x_now_meadow_hour v_x_now_sights_count v_x_pad_signs v_x_pad_acts v_x_pad_reading v_x_pad_begun v_x_pad_brokenAt v_x_secondImage_meadow_families v_x_secondImage_meadow_wind v_x_secondImage_meadow_force v_x_secondImage_meadow_rain v_x_secondImage_meadow_lost v_x_secondImage_meadow_hour v_x_secondImage_sights_count f_x_firstImage_meadow_home f_x_firstImage_meadow_seeds f_x_firstImage_meadow_lungs f_x_firstImage_meadow_blown f_x_firstImage_meadow_ground f_x_firstImage_sights_breaths f_x_firstImage_sights_flews f_x_now_meadow_home f_x_now_meadow_seeds f_x_now_meadow_lungs f_x_now_meadow_blown f_x_now_meadow_ground f_x_now_sights_breaths f_x_now_sights_flews f_x_pad_kinds f_x_pad_firsts f_x_pad_seconds f_x_secondImage_meadow_home f_x_secondImage_meadow_seeds f_x_secondImage_meadow_lungs f_x_secondImage_meadow_blown f_x_secondImage_meadow_ground f_x_secondImage_sights_breaths f_x_secondImage_sights_flews v_m_there v_m_wind v_m_force v_m_rains v_m_lost v_m_hours v_m_sights v_m_padMany f_m_at f_m_stem f_m_lungs f_m_blown f_m_heap f_m_sightBreath f_m_sightFlew f_m_pad f_m_kept f_m_isKept v_x_draws_kind v_x_draws_first v_x_draws_second v_x_draws_meadow_families v_x_draws_meadow_wind v_x_draws_meadow_force v_x_draws_meadow_rain v_x_draws_meadow_lost v_x_draws_meadow_hour f_x_draws_meadow_home f_x_draws_meadow_seeds f_x_draws_meadow_lungs f_x_draws_meadow_blown f_x_draws_meadow_ground v_m_blownMany f_m_had a0 a1 a2 hRel
  obtain ⟨hN, hS, hP, hI⟩ := hRel
  obtain ⟨⟨e1, e2, e3, e4, e5, e6⟩, hMI, hMR⟩ := hN
  subst e1 e2 e3 e4 e5 e6
  rcases p_both a0 0 9999 (l := 0) (h := 9999) (a := 0) (b := 9999) rfl rfl (by decide) (by decide) (by omega) (by omega) with ⟨w1, w2, -⟩ | ⟨v, -, hv, rfl, w1, w2⟩
  · exact ⟨_, _, _, _, _, _, _, _, _, _, _, _, _, _, _, _, _, _, _, _, _, _, _, _, _, by (simp only [fX10_year, fX10_year_b30, w1, Option.bind_some, ↓reduceIte] <;> rfl), by (simp only [fX11_year, fX11_year_b36, w2, Option.bind_some, ↓reduceIte] <;> rfl), ⟨⟨rfl, rfl, rfl, rfl, rfl, rfl⟩, hMI, hMR⟩, hS, hP, hI⟩
  rcases p_both a1 1 99 (l := 1) (h := 99) (a := 1) (b := 99) rfl rfl (by decide) (by decide) (by omega) (by omega) with ⟨w3, w4, -⟩ | ⟨Y, hY1, hY, rfl, w3, w4⟩
  · exact ⟨_, _, _, _, _, _, _, _, _, _, _, _, _, _, _, _, _, _, _, _, _, _, _, _, _, by (simp only [fX10_year, fX10_year_b30, w1, w3, Option.bind_some, ↓reduceIte, q_ne] <;> rfl), by (simp only [fX11_year, fX11_year_b36, w2, w4, Option.bind_some, ↓reduceIte, q_ne] <;> rfl), ⟨⟨rfl, rfl, rfl, rfl, rfl, rfl⟩, hMI, hMR⟩, hS, hP, hI⟩
  rcases p_both a2 0 2 (l := 0) (h := 2) (a := 0) (b := 2) rfl rfl (by decide) (by decide) (by omega) (by omega) with ⟨w5, w6, -⟩ | ⟨q, -, hq, rfl, w5, w6⟩
  · exact ⟨_, _, _, _, _, _, _, _, _, _, _, _, _, _, _, _, _, _, _, _, _, _, _, _, _, by (simp only [fX10_year, fX10_year_b30, w1, w3, w5, Option.bind_some, ↓reduceIte, q_ne] <;> rfl), by (simp only [fX11_year, fX11_year_b36, w2, w4, w6, Option.bind_some, ↓reduceIte, q_ne] <;> rfl), ⟨⟨rfl, rfl, rfl, rfl, rfl, rfl⟩, hMI, hMR⟩, hS, hP, hI⟩
  obtain ⟨had, k1, k2⟩ := p_keep v_m_wind v_m_force v_m_rains v_m_lost v_m_hours f_m_stem f_m_blown f_m_heap f_m_had
  obtain ⟨c1, c2, c3, w9, fo9, ra9, lost9, ho9, bm9, seeds9, blown9, ground9, stem9, blown8, heap9, v9, i1, i2, i3, i4⟩ := p_loopY (had := had) hY (nI q) Y 0 1000 1000 v v_x_draws_kind v_x_draws_first v_x_draws_second v_m_wind v_m_force v_m_rains v_m_hours v_m_lost 0 f_x_now_meadow_seeds f_x_now_meadow_blown f_x_now_meadow_ground f_m_stem f_m_blown f_m_heap (by omega) (by omega) (by omega) (by omega) hMI hMR
  obtain ⟨sa, sb, s1, s2, s3, s4⟩ := p_sumOf (lost := lost9) i3 i4
  have hC : fX1_run v_m_there v_m_wind v_m_force v_m_rains v_m_lost v_m_hours v_x_draws_kind v_x_draws_first v_x_draws_second v_x_draws_meadow_families v_x_draws_meadow_wind v_x_draws_meadow_force v_x_draws_meadow_rain v_x_draws_meadow_lost v_x_draws_meadow_hour f_x_now_meadow_home f_x_now_meadow_seeds f_x_now_meadow_lungs f_x_now_meadow_blown f_x_now_meadow_ground f_x_draws_meadow_home f_x_draws_meadow_seeds f_x_draws_meadow_lungs f_x_draws_meadow_blown f_x_draws_meadow_ground (nI v) (nI Y) = some (c1, c2, c3, v_m_there, w9, fo9, ra9, lost9, ho9, f_x_now_meadow_home, seeds9, f_x_now_meadow_lungs, blown9, ground9) := by
    unfold fX1_run fX6_copyFrom
    exact i1
  have hMd : fX11_year v_m_there v_m_wind v_m_force v_m_rains v_m_lost v_m_hours v_m_blownMany f_m_at f_m_stem f_m_lungs f_m_blown f_m_heap f_m_had (nI v) (nI Y) (nI q) = fX11_year_b54 v_m_there f_m_at f_m_lungs 1 w9 fo9 ra9 lost9 ho9 bm9 stem9 blown8 heap9 had (nI Y) (nI q) v9 (nI Y) := by
    unfold fX11_year
    rw [w2, Option.bind_some, if_neg (by decide), w4, Option.bind_some, if_neg (by decide), w6, Option.bind_some, if_neg (by decide), k1, Option.bind_some]
    exact i2
  obtain rfl | rfl | rfl : q = 0 ∨ q = 1 ∨ q = 2 := by omega
  · obtain ⟨stem', blown', heap', b1, b2, b3, b4⟩ := p_back k2 w9 fo9 ra9 lost9 ho9 sa stem9 blown8 heap9
    rw [show nI 0 = 0 from rfl] at w5 hMd ⊢
    exact ⟨_, _, _, _, _, _, _, _, _, _, _, _, _, _, _, _, _, _, _, _, _, _, _, _, _, by (simp only [fX10_year, fX10_sumOf, w1, w3, w5, hC, s1, Option.bind_some, ↓reduceIte, q_ne] <;> rfl), by (simp only [hMd, fX11_year_b54, fX11_year_b200, Int32.le_refl, s2, b1, Option.bind_some, ↓reduceIte, q_ne] <;> rfl), ⟨⟨rfl, rfl, rfl, rfl, rfl, rfl⟩, hMI, p_mcongr hMR b2 b3 b4⟩, hS, hP, hI⟩
  · obtain ⟨stem', blown', heap', b1, b2, b3, b4⟩ := p_back k2 w9 fo9 ra9 lost9 ho9 sb stem9 blown8 heap9
    rw [show nI 1 = 1 from rfl] at w5 hMd ⊢
    exact ⟨_, _, _, _, _, _, _, _, _, _, _, _, _, _, _, _, _, _, _, _, _, _, _, _, _, by (simp only [fX10_year, fX10_sumOf, w1, w3, w5, hC, s3, Option.bind_some, ↓reduceIte, q_ne] <;> rfl), by (simp only [hMd, fX11_year_b54, fX11_year_b200, Int32.le_refl, s4, b1, Option.bind_some, ↓reduceIte, q_ne] <;> rfl), ⟨⟨rfl, rfl, rfl, rfl, rfl, rfl⟩, hMI, p_mcongr hMR b2 b3 b4⟩, hS, hP, hI⟩
  · obtain ⟨stem', blown', heap', b1, b2, b3, b4⟩ := p_back k2 w9 fo9 ra9 lost9 ho9 lost9 stem9 blown8 heap9
    rw [show nI 2 = 2 from rfl] at w5 hMd ⊢
    exact ⟨_, _, _, _, _, _, _, _, _, _, _, _, _, _, _, _, _, _, _, _, _, _, _, _, _, by (simp only [fX10_year, fX10_sumOf, w1, w3, w5, hC, Option.bind_some, ↓reduceIte, q_ne] <;> rfl), by (simp only [hMd, fX11_year_b54, fX11_year_b200, Int32.le_refl, b1, Option.bind_some, ↓reduceIte, q_ne] <;> rfl), ⟨⟨rfl, rfl, rfl, rfl, rfl, rfl⟩, hMI, p_mcongr hMR b2 b3 b4⟩, hS, hP, hI⟩

