/-! the steps: over and tries -/
def gEe (t : Int32) (home : Nat → Int32) (a b : Nat) : Bool := gP t a && (gP t b && decide (¬ fX11_paysBy (home a) (home b) = some (-6)))
theorem p_self : ∀ i, i < 36 → fX11_paysBy (nI i) (nI i) = some (-6) := by decide +kernel
theorem p_onePuff {t : Int32} {home : Nat → Int32} (hho : ∀ k, k < 6 → gI 35 (home k)) (a b : Nat) (ha : a < 6) (hb : b < 6) : fX8_isOnePuff t home (nI a) (nI b) = some (if gEe t home a b = true then 1 else 0) := by
  obtain ⟨i, hi, hi2⟩ := hho a ha
  obtain ⟨j, hj, hj2⟩ := hho b hb
  have g0 : gZ 0 (some (0 : Int32)) = some 0 := p_gZ0 _
  have g1 : gZ 1 (some (1 : Int32)) = some 1 := p_gZ1 _
  have z1 : fX8_windBetween home (nI a) (nI b) = fX8_windBetween_b22 1000 (nI i) (nI j) 0 := by
    unfold fX8_windBetween
    rw [p_at 6 (by omega) home ha, Option.bind_some, p_at 6 (by omega) home hb, Option.bind_some, hi2, hj2]
  unfold fX8_isOnePuff gEe
  rw [p_isThere t ha, Option.bind_some]
  by_cases ga : gP t a = true
  · rw [if_pos ga, if_neg (by decide), p_isThere t hb, Option.bind_some]
    by_cases gb : gP t b = true
    · rw [if_pos gb, if_neg (by decide), z1]
      rcases p_pay (show i < 36 by omega) (show j < 36 by omega) with ⟨h1, h2⟩ | ⟨c, hc, h1, h2⟩
      · rw [h1, Option.bind_some, if_pos rfl, fX8_isOnePuff_b31, fX8_isOnePuff_b32, g0, ga, gb, hi2, hj2, h2, decide_eq_false (fun h => h rfl)]
        rfl
      · have hc6 : ¬ nI c = (-6 : Int32) := p_m6 (by omega)
        rw [h1, Option.bind_some, if_neg hc6, fX8_isOnePuff_b32, g1, ga, gb, hi2, hj2, h2, decide_eq_true (show ¬ (some (nI c) = some (-6)) from fun h => hc6 (Option.some.inj h))]
        rfl
    · rw [if_neg gb, if_pos rfl, fX8_isOnePuff_b31, fX8_isOnePuff_b32, g0, ga, (Bool.not_eq_true _).mp gb]
      rfl
  · rw [if_neg ga, if_pos rfl, fX8_isOnePuff_b31, fX8_isOnePuff_b32, g0, (Bool.not_eq_true _).mp ga]
    rfl
theorem p_canPay {t : Int32} (ht : ∃ n, n < 64 ∧ t = nI n) {home at' : Nat → Int32} (hho : ∀ k, k < 6 → gI 35 (home k)) (hat : ∀ k, k < 6 → at' k = home k) (a b : Nat) (ha : a < 6) (hb : b < 6) : fX11_canPay t at' (nI a) (nI b) = some (if gEe t home a b = true then 1 else 0) := by
  obtain ⟨i, hi, hi2⟩ := hho a ha
  obtain ⟨j, hj, hj2⟩ := hho b hb
  have hA := fun {α : Type} (K : Option α) => p_gA ha (show 6 < 2 ^ 31 by omega) K
  have hB := fun {α : Type} (K : Option α) => p_gA hb (show 6 < 2 ^ 31 by omega) K
  have g0 : gZ 0 (some (0 : Int32)) = some 0 := p_gZ0 _
  have g1 : gZ 1 (some (1 : Int32)) = some 1 := p_gZ1 _
  unfold fX11_canPay gEe
  rw [p_isFamily ht ha, Option.bind_some]
  by_cases ga : gP t a = true
  · rw [if_pos ga, if_neg (by decide), p_isFamily ht hb, Option.bind_some]
    by_cases gb : gP t b = true
    · rw [if_pos gb, if_neg (by decide)]
      by_cases e : a = b
      · subst e
        rw [if_pos rfl, fX11_canPay_b44, fX11_canPay_b45, g0, ga, hi2, p_self i (by omega), decide_eq_false (fun h => h rfl)]
        rfl
      · have hne : ¬ nI a = nI b := fun h => e ((nI_eq (by omega) (by omega)).mp h)
        rw [if_neg hne, hA, hB, p_cl (show a < 2 ^ 31 by omega), p_cl (show b < 2 ^ 31 by omega), hat a ha, hat b hb, hi2, hj2]
        rcases p_pay (show i < 36 by omega) (show j < 36 by omega) with ⟨h1, h2⟩ | ⟨c, hc, h1, h2⟩
        · have h6 : (-6 : Int32) < 0 := by decide
          rw [h2, Option.bind_some, if_pos h6, fX11_canPay_b44, fX11_canPay_b45, g0, ga, gb, decide_eq_false (fun h => h rfl)]
          rfl
        · have hc6 : ¬ nI c = (-6 : Int32) := p_m6 (by omega)
          have hc0 : ¬ nI c < (0 : Int32) := nI_nlt (b := 0) (Nat.zero_le _) (by omega)
          rw [h2, Option.bind_some, if_neg hc0, fX11_canPay_b45, g1, ga, gb, decide_eq_true (show ¬ (some (nI c) = some (-6)) from fun h => hc6 (Option.some.inj h))]
          rfl
    · rw [if_neg gb, if_pos rfl, fX11_canPay_b44, fX11_canPay_b45, g0, ga, (Bool.not_eq_true _).mp gb]
      rfl
  · rw [if_neg ga, if_pos rfl, fX11_canPay_b44, fX11_canPay_b45, g0, (Bool.not_eq_true _).mp ga]
    rfl
theorem co_over {t : Int32} (ht : ∃ n, n < 64 ∧ t = nI n) {home at' : Nat → Int32} (hho : ∀ k, k < 6 → gI 35 (home k)) (hat : ∀ k, k < 6 → at' k = home k) (off : Nat → Int32) (x1 x2 x3 : Int32) : ∃ r off', fX10_over t home x1 x2 x3 = some r ∧ fX11_over t at' off x1 x2 x3 = some (r, off') := by
  rcases p_bothTwo ht x1 x2 with ⟨w1, w2⟩ | ⟨a, b, ha, hb, hab, rfl, rfl, hga, hgb, hne, w1, w2, w3⟩
  · refine ⟨-1, off, ?_, ?_⟩
    · unfold fX10_over
      rw [w1, Option.bind_some, if_pos rfl]
    · unfold fX11_over fX11_over_b21
      rcases w2 with w2 | ⟨w2, w3 | ⟨w3, w4⟩⟩
      · rw [w2, Option.bind_some, if_pos rfl]
      · rw [w2, Option.bind_some, if_neg (by decide), w3, Option.bind_some, if_pos rfl]
      · rw [w2, Option.bind_some, if_neg (by decide), w3, Option.bind_some, if_neg (by decide), if_pos w4]
  · rcases p_both x3 0 1 (l := 0) (h := 1) (a := 0) (b := 1) rfl rfl (by decide) (by decide) (by omega) (by omega) with ⟨w5, w6, -⟩ | ⟨k, -, hk, rfl, w5, w6⟩
    · refine ⟨-2, off, ?_, ?_⟩
      · unfold fX10_over
        rw [w1, Option.bind_some, if_neg (by decide), w5, Option.bind_some, if_pos rfl]
      · unfold fX11_over
        rw [w2, Option.bind_some, if_neg (by decide), w3, Option.bind_some, if_neg (by decide), if_neg hne, w6, Option.bind_some, if_pos rfl]
    · have hE := p_onePuff (t := t) hho
      have hC := p_canPay ht hho hat
      have hA := fun {α : Type} (K : Option α) => p_gA ha (show 6 < 2 ^ 31 by omega) K
      have clA := p_cl (show a < 2 ^ 31 by omega)
      obtain ⟨off1, f1, f2⟩ := p_fo hC hb off
      have hm : fX11_over t at' off (nI a) (nI b) (nI k) = if off1 a < 0 then some (off1 a, off1) else if nI k = 0 then some (off1 a, off1) else fX11_over_b68 t at' 1000 off1 (nI a) (-6) 5 := by
        unfold fX11_over fX11_over_b54
        rw [w2, Option.bind_some, if_neg (by decide), w3, Option.bind_some, if_neg (by decide), if_neg hne, w6, Option.bind_some, if_neg (by decide), f1, Option.bind_some, hA, hA, clA]
      by_cases hk0 : k = 0
      · subst hk0
        obtain ⟨r, b1, b2⟩ := p_pb0 hE ha hb hab
        have hc : fX10_over t home (nI a) (nI b) (nI 0) = some r := by
          unfold fX10_over fX10_over_b54
          rw [w1, Option.bind_some, if_neg (by decide), w5, Option.bind_some, if_neg (by decide), if_pos (show nI 0 = 0 from rfl), b1, Option.bind_some]
        have hr : off1 a = r := by
          rcases b2 with ⟨b2, b3⟩ | ⟨j, j1, j2, b2, b3⟩
          · rcases f2 a ha with ⟨g1, g2⟩ | ⟨D, d1, d2, d3⟩
            · rw [g1, b2]
            · exact absurd (gWk_le d3.1 (gDi_5 ha d3)) b3
          · rcases f2 a ha with ⟨g1, g2⟩ | ⟨D, d1, d2, d3⟩
            · exact absurd (gWk_le b3.1 (by omega)) g2
            · rw [d2, b2, gDi_u d3 b3]
        refine ⟨r, off1, hc, ?_⟩
        rw [hm, hr, if_pos (show nI 0 = 0 from rfl)]
        by_cases h0 : r < 0
        · rw [if_pos h0]
        · rw [if_neg h0]
      · have hk1 : k = 1 := by omega
        subst hk1
        obtain ⟨r, b1, b2⟩ := p_fw0 hE ha hb hab
        have hc : fX10_over t home (nI a) (nI b) (nI 1) = some r := by
          unfold fX10_over fX10_over_b54
          rw [w1, Option.bind_some, if_neg (by decide), w5, Option.bind_some, if_neg (by decide), if_neg (by decide), b1, Option.bind_some]
        refine ⟨r, off1, hc, ?_⟩
        rcases b2 with ⟨b2, b3⟩ | ⟨D, c, D1, D5, hDi, b2, b3⟩
        · have g1 : off1 a = -6 := by
            rcases f2 a ha with ⟨g1, g2⟩ | ⟨D, d1, d2, d3⟩
            · exact g1
            · exact absurd (gWk_le d3.1 (gDi_5 ha d3)) b3
          have h6 : (-6 : Int32) < 0 := by decide
          rw [hm, g1, if_pos h6, b2]
        · have hoa : off1 a = nI D := by
            rcases f2 a ha with ⟨g1, g2⟩ | ⟨k, d1, d2, d3⟩
            · exact absurd (gWk_le hDi.1 (by omega)) g2
            · rw [d2, gDi_u d3 hDi]
          have hn : ¬ nI D < (0 : Int32) := nI_nlt (b := 0) (Nat.zero_le _) (by omega)
          obtain ⟨c', e1, e2⟩ := p_ov68 hC ha hb D1 D5 off1 f2 hDi hoa 6 1000 (-6) (by omega) (by omega) (Or.inl ⟨rfl, fun c h1 h2 => by omega⟩)
          rw [hm, hoa, if_neg hn, if_neg (by decide), b2, gQm_u b3 e2]
          exact e1

theorem st_over : gStep_over gRel := by
  intro v_x_imagesKept v_x_firstImage_meadow_families v_x_firstImage_meadow_wind v_x_firstImage_meadow_force v_x_firstImage_meadow_rain v_x_firstImage_meadow_lost v_x_firstImage_meadow_hour v_x_firstImage_sights_count v_x_now_meadow_families v_x_now_meadow_wind v_x_now_meadow_force v_x_now_meadow_rain v_x_now_meadow_lost v_x_now_meadow_hour v_x_now_sights_count v_x_pad_signs v_x_pad_acts v_x_pad_reading v_x_pad_begun v_x_pad_brokenAt v_x_secondImage_meadow_families v_x_secondImage_meadow_wind v_x_secondImage_meadow_force v_x_secondImage_meadow_rain v_x_secondImage_meadow_lost v_x_secondImage_meadow_hour v_x_secondImage_sights_count f_x_firstImage_meadow_home f_x_firstImage_meadow_seeds f_x_firstImage_meadow_lungs f_x_firstImage_meadow_blown f_x_firstImage_meadow_ground f_x_firstImage_sights_breaths f_x_firstImage_sights_flews f_x_now_meadow_home f_x_now_meadow_seeds f_x_now_meadow_lungs f_x_now_meadow_blown f_x_now_meadow_ground f_x_now_sights_breaths f_x_now_sights_flews f_x_pad_kinds f_x_pad_firsts f_x_pad_seconds f_x_secondImage_meadow_home f_x_secondImage_meadow_seeds f_x_secondImage_meadow_lungs f_x_secondImage_meadow_blown f_x_secondImage_meadow_ground f_x_secondImage_sights_breaths f_x_secondImage_sights_flews v_m_there v_m_wind v_m_force v_m_rains v_m_lost v_m_hours v_m_sights v_m_padMany f_m_at f_m_stem f_m_lungs f_m_blown f_m_heap f_m_sightBreath f_m_sightFlew f_m_pad f_m_kept f_m_isKept f_m_off a0 a1 a2 hRel
  obtain ⟨hN, hS, hP, hI⟩ := hRel
  have hN0 := hN
  obtain ⟨⟨e1, e2, e3, e4, e5, e6⟩, ⟨ht, hw, hf, hr, hh, hho, hse, hlu, hbl, hgr, hd⟩, ⟨ha, hst, hlr, hbr, hhe⟩⟩ := hN
  subst e1
  obtain ⟨r, off', q1, q2⟩ := co_over ht hho ha f_m_off a0 a1 a2
  exact ⟨_, _, q1, q2, hN0, hS, hP, hI⟩

def gBb (n : Nat) (B F : Nat → Nat) : Nat → Nat → Nat → Nat
  | 0, _, best => best
  | d + 1, u, best => gBb n B F d (u + 1) (if gMt n B F best ≤ gMt n B F u then best else u)
theorem gBb_s (n : Nat) (B F : Nat → Nat) (d u best : Nat) : gBb n B F (d + 1) u best = gBb n B F d (u + 1) (if gMt n B F best ≤ gMt n B F u then best else u) := rfl
theorem gMt_le (n : Nat) (B F : Nat → Nat) (u : Nat) : gMt n B F u ≤ 900 := by
  have := gMx_le (gFt n B F) u 900 100 0 (fun _ => 0) 0 (fun _ => Nat.le_refl _) (Nat.le_refl _)
  have h : gMt n B F u ≤ 0 + 900 := this
  omega
theorem gBb_9 (n : Nat) (B F : Nat → Nat) : ∀ (d u best : Nat), u + d ≤ 10 → best ≤ 9 → gBb n B F d u best ≤ 9
  | 0, u, best, _, h => h
  | d + 1, u, best, h1, h => by
    rw [gBb_s]
    by_cases hq : gMt n B F best ≤ gMt n B F u
    · rw [if_pos hq]; exact gBb_9 n B F d (u + 1) best (by omega) h
    · rw [if_neg hq]; exact gBb_9 n B F d (u + 1) u (by omega) (by omega)
theorem p_bbC {n : Nat} {B F : Nat → Nat} (twos : Nat → Int32) (T : Nat → Nat) (hT : ∀ j, j < gNk (gFt n B F) 900 100 0 → twos j = nI (gNt (gFt n B F) 900 100 0 T j)) : ∀ (d u m best : Nat) (left : Nat → Int32), u + d = 10 → d < m → ∃ left1, fX2_bestBreath_b10 (nI (gNk (gFt n B F) 900 100 0)) twos m left (nI best) (nI (gMt n B F best)) (nI u) = some (nI (gBb n B F d u best), left1)
  | _, _, 0, _, _, _, h => by omega
  | 0, u, m + 1, best, left, h1, _ => by
    have e : u = 10 := by omega
    subst e
    have h9 : (9 : Int32) < nI 10 := by decide
    refine ⟨left, ?_⟩
    rw [fX2_bestBreath_b10, if_pos h9]
    rfl
  | d + 1, u, m + 1, best, left, h1, h2 => by
    have h9 : ¬ (9 : Int32) < nI u := nI_nlt (a := 9) (by omega) (by omega)
    obtain ⟨l1, a1⟩ := p_mlC0 twos T hT left (show u ≤ 9 by omega)
    have b1 := gMt_le n B F best
    have b2 := gMt_le n B F u
    rw [gBb_s]
    by_cases hq : gMt n B F best ≤ gMt n B F u
    · obtain ⟨l2, c1⟩ := p_bbC twos T hT d (u + 1) m best l1 (by omega) (by omega)
      refine ⟨l2, ?_⟩
      rw [if_pos hq, fX2_bestBreath_b10, if_neg h9, a1, Option.bind_some]
      dsimp only
      rw [if_pos (nI_le hq (by omega)), fX2_bestBreath_b34, nI_1]
      exact c1
    · obtain ⟨l2, c1⟩ := p_bbC twos T hT d (u + 1) m u l1 (by omega) (by omega)
      refine ⟨l2, ?_⟩
      rw [if_neg hq, fX2_bestBreath_b10, if_neg h9, a1, Option.bind_some]
      dsimp only
      rw [if_neg (nI_ge (by omega) (by omega)), fX2_bestBreath_b34, nI_1]
      exact c1
theorem p_trM {n : Nat} {br fl sb sf : Nat → Int32} {B F : Nat → Nat} (h : SgtN n br fl sb sf B F) (x1 : Int32) : ∀ (d u m best : Nat) (by' : Nat → Int32), u + d = 10 → d < m → ∃ by1, fX11_tries_b24 (nI n) sb sf m by' x1 (nI best) (nI (gMt n B F best)) (nI u) = some (if nI (gMt n B F (gBb n B F d u best)) = 0 then -6 else if x1 = 0 then nI (gBb n B F d u best) else nI (gMt n B F (gBb n B F d u best)), by1)
  | _, _, 0, _, _, _, h => by omega
  | 0, u, m + 1, best, by', h1, _ => by
    have e : u = 10 := by omega
    subst e
    have h9 : (9 : Int32) < nI 10 := by decide
    refine ⟨by', ?_⟩
    rw [fX11_tries_b24, if_pos h9, show gBb n B F 0 10 best = best from rfl]
    by_cases c1 : nI (gMt n B F best) = 0
    · rw [if_pos c1, if_pos c1]; rfl
    · rw [if_neg c1, if_neg c1]
      by_cases c2 : x1 = 0
      · rw [if_pos c2, if_pos c2]; rfl
      · rw [if_neg c2, if_neg c2]; rfl
  | d + 1, u, m + 1, best, by', h1, h2 => by
    have h9 : ¬ (9 : Int32) < nI u := nI_nlt (a := 9) (by omega) (by omega)
    obtain ⟨l1, a1⟩ := p_mlM0 h by' (show u ≤ 9 by omega)
    have b1 := gMt_le n B F best
    have b2 := gMt_le n B F u
    rw [gBb_s]
    by_cases hq : gMt n B F best ≤ gMt n B F u
    · obtain ⟨l2, c1⟩ := p_trM h x1 d (u + 1) m best l1 (by omega) (by omega)
      refine ⟨l2, ?_⟩
      rw [if_pos hq, fX11_tries_b24, if_neg h9, a1, Option.bind_some]
      dsimp only
      rw [if_pos (nI_le hq (by omega)), fX11_tries_b51, if_pos (nI_le hq (by omega)), fX11_tries_b64, nI_1]
      exact c1
    · obtain ⟨l2, c1⟩ := p_trM h x1 d (u + 1) m u l1 (by omega) (by omega)
      refine ⟨l2, ?_⟩
      have hq2 : ¬ nI (gMt n B F best) ≤ nI (gMt n B F u) := nI_ge (by omega) (by omega)
      rw [if_neg hq, fX11_tries_b24, if_neg h9, a1, Option.bind_some]
      dsimp only
      rw [if_neg hq2, fX11_tries_b51, if_neg hq2, fX11_tries_b64, nI_1]
      exact c1
theorem co_tries {cnt : Int32} {br fl : Nat → Int32} {sights : Int32} {sb sf : Nat → Int32} (hS : SgtRel cnt br fl sights sb sf) (count : Int32) (twos left by' : Nat → Int32) (x1 : Int32) : ∃ r c1 t1 l1 by1, fX10_tries count cnt twos left br fl x1 = some (r, c1, t1, l1) ∧ fX11_tries sights sb sf by' x1 = some (r, by1) := by
  obtain ⟨n, B, F, rfl, rfl, h⟩ := p_sgtN hS
  rcases p_both x1 0 1 (l := 0) (h := 1) (a := 0) (b := 1) rfl rfl (by decide) (by decide) (by omega) (by omega) with ⟨w1, w2, -⟩ | ⟨q, -, hq, rfl, w1, w2⟩
  · refine ⟨-2, count, twos, left, by', ?_, ?_⟩
    · unfold fX10_tries
      rw [w1, Option.bind_some, if_pos rfl]
    · unfold fX11_tries
      rw [w2, Option.bind_some, if_pos rfl]
  · obtain ⟨t1, g1, g2⟩ := p_gather h count twos (fun _ => 0)
    obtain ⟨m1, m2⟩ := p_mlM0 h by' (show 1 ≤ 9 by omega)
    obtain ⟨m3, m4⟩ := p_trM h (nI q) 8 2 1000 1 m1 (by omega) (by omega)
    have hM : fX11_tries (nI n) sb sf by' (nI q) = some (if nI (gMt n B F (gBb n B F 8 2 1)) = 0 then -6 else if nI q = 0 then nI (gBb n B F 8 2 1) else nI (gMt n B F (gBb n B F 8 2 1)), m3) := by
      unfold fX11_tries
      rw [w2, Option.bind_some, if_neg (by decide)]
      rw [show (fX11_mostLeft (nI n) sb sf by' 1) = some (nI (gMt n B F 1), m1) from m2, Option.bind_some]
      exact m4
    have hb := p_gN360 n B F
    have hb9 := gBb_9 n B F 8 2 1 (by omega) (by omega)
    obtain ⟨o1, o2, o3⟩ := gMx_ge (gFt n B F) (gBb n B F 8 2 1) 900 100 (fun _ => 0) 0 0
    have o2' : gNk (gFt n B F) 900 100 0 = 0 → gMt n B F (gBb n B F 8 2 1) = 0 := o2
    have o3' : 0 < gNk (gFt n B F) 900 100 0 → 1 ≤ gMt n B F (gBb n B F 8 2 1) := o3
    have hle := gMt_le n B F (gBb n B F 8 2 1)
    by_cases h0 : gNk (gFt n B F) 900 100 0 = 0
    · refine ⟨-6, nI (gNk (gFt n B F) 900 100 0), t1, left, m3, ?_, ?_⟩
      · unfold fX10_tries
        rw [w1, Option.bind_some, if_neg (by decide), g1, Option.bind_some]
        dsimp only
        rw [if_pos (by rw [h0]; rfl)]
      · rw [hM, if_pos (by rw [o2' h0]; rfl)]
    · have hn0 : ¬ nI (gNk (gFt n B F) 900 100 0) = 0 := nI_ne0 (by omega) (by omega)
      have hv0 : ¬ nI (gMt n B F (gBb n B F 8 2 1)) = 0 := nI_ne0 (o3' (by omega)) (by omega)
      obtain ⟨l1, c1⟩ := p_mlC0 t1 (fun _ => 0) g2 left (show 1 ≤ 9 by omega)
      obtain ⟨l2, c2⟩ := p_bbC t1 (fun _ => 0) g2 8 2 1000 1 l1 (by omega) (by omega)
      obtain ⟨l3, c3⟩ := p_mlC0 t1 (fun _ => 0) g2 l2 hb9
      have hB : fX2_bestBreath (nI (gNk (gFt n B F) 900 100 0)) t1 left = some (nI (gBb n B F 8 2 1), l2) := by
        unfold fX2_bestBreath
        rw [show (fX2_mostLeft (nI (gNk (gFt n B F) 900 100 0)) t1 left 1) = some (nI (gMt n B F 1), l1) from c1, Option.bind_some]
        exact c2
      rw [if_neg hv0] at hM
      by_cases hq0 : nI q = 0
      · rw [if_pos hq0] at hM
        refine ⟨nI (gBb n B F 8 2 1), nI (gNk (gFt n B F) 900 100 0), t1, l2, m3, ?_, hM⟩
        unfold fX10_tries
        rw [w1, Option.bind_some, if_neg (by decide), g1, Option.bind_some]
        dsimp only
        rw [if_neg hn0, hB, Option.bind_some]
        dsimp only
        rw [if_pos hq0, fX10_tries_b63]
      · rw [if_neg hq0] at hM
        refine ⟨nI (gMt n B F (gBb n B F 8 2 1)), nI (gNk (gFt n B F) 900 100 0), t1, l3, m3, ?_, hM⟩
        unfold fX10_tries
        rw [w1, Option.bind_some, if_neg (by decide), g1, Option.bind_some]
        dsimp only
        rw [if_neg hn0, hB, Option.bind_some]
        dsimp only
        rw [if_neg hq0, c3, Option.bind_some, fX10_tries_b63]

theorem st_tries : gStep_tries gRel := by
  intro v_x_imagesKept v_x_firstImage_meadow_families v_x_firstImage_meadow_wind v_x_firstImage_meadow_force v_x_firstImage_meadow_rain v_x_firstImage_meadow_lost v_x_firstImage_meadow_hour v_x_firstImage_sights_count v_x_now_meadow_families v_x_now_meadow_wind v_x_now_meadow_force v_x_now_meadow_rain v_x_now_meadow_lost v_x_now_meadow_hour v_x_now_sights_count v_x_pad_signs v_x_pad_acts v_x_pad_reading v_x_pad_begun v_x_pad_brokenAt v_x_secondImage_meadow_families v_x_secondImage_meadow_wind v_x_secondImage_meadow_force v_x_secondImage_meadow_rain v_x_secondImage_meadow_lost v_x_secondImage_meadow_hour v_x_secondImage_sights_count f_x_firstImage_meadow_home f_x_firstImage_meadow_seeds f_x_firstImage_meadow_lungs f_x_firstImage_meadow_blown f_x_firstImage_meadow_ground f_x_firstImage_sights_breaths f_x_firstImage_sights_flews f_x_now_meadow_home f_x_now_meadow_seeds f_x_now_meadow_lungs f_x_now_meadow_blown f_x_now_meadow_ground f_x_now_sights_breaths f_x_now_sights_flews f_x_pad_kinds f_x_pad_firsts f_x_pad_seconds f_x_secondImage_meadow_home f_x_secondImage_meadow_seeds f_x_secondImage_meadow_lungs f_x_secondImage_meadow_blown f_x_secondImage_meadow_ground f_x_secondImage_sights_breaths f_x_secondImage_sights_flews v_m_there v_m_wind v_m_force v_m_rains v_m_lost v_m_hours v_m_sights v_m_padMany f_m_at f_m_stem f_m_lungs f_m_blown f_m_heap f_m_sightBreath f_m_sightFlew f_m_pad f_m_kept f_m_isKept v_x_flight_count f_x_flight_twos f_x_flight_left f_m_byFlew a0 hRel
  obtain ⟨hN, hS, hP, hI⟩ := hRel
  obtain ⟨r, c1, t1, l1, by1, q1, q2⟩ := co_tries hS v_x_flight_count f_x_flight_twos f_x_flight_left f_m_byFlew a0
  exact ⟨_, _, _, _, _, q1, q2, hN, hS, hP, hI⟩

