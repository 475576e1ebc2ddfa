/-! the step: fits -/
theorem gFt_no {n : Nat} {B F : Nat → Nat} {y : Nat} (h : y % 100 = 0 ∨ 40 < y % 100) : gFt n B F y = false := by
  cases hc : gFt n B F y with
  | false => rfl
  | true =>
    unfold gFt at hc
    simp only [Bool.and_eq_true, decide_eq_true_eq] at hc
    omega
theorem p_row100 {n : Nat} {B F : Nat → Nat} (b k : Nat) (T : Nat → Nat) : gNk (gFt n B F) 100 (100 * b) k = gNk (gFt n B F) 40 (100 * b + 1) k ∧ gNt (gFt n B F) 100 (100 * b) k T = gNt (gFt n B F) 40 (100 * b + 1) k T := by
  have a0 : gNk (gFt n B F) 1 (100 * b) k = k := gNk_no _ 1 (100 * b) k (fun y h1 h2 => gFt_no (by omega))
  have b0 : gNt (gFt n B F) 1 (100 * b) k T = T := gNt_no _ 1 (100 * b) k T (fun y h1 h2 => gFt_no (by omega))
  have a1 : gNk (gFt n B F) 100 (100 * b) k = gNk (gFt n B F) 99 (100 * b + 1) k := by
    have := gNk_add (gFt n B F) 1 99 (100 * b) k
    rw [a0] at this
    exact this
  have b1 : gNt (gFt n B F) 100 (100 * b) k T = gNt (gFt n B F) 99 (100 * b + 1) k T := by
    have := gNt_add (gFt n B F) 1 99 (100 * b) k T
    rw [a0, b0] at this
    exact this
  have a2 : gNk (gFt n B F) 99 (100 * b + 1) k = gNk (gFt n B F) 40 (100 * b + 1) k := by
    have := gNk_add (gFt n B F) 40 59 (100 * b + 1) k
    rw [gNk_no _ 59 _ _ (fun y h1 h2 => gFt_no (by omega))] at this
    exact this
  have b2 : gNt (gFt n B F) 99 (100 * b + 1) k T = gNt (gFt n B F) 40 (100 * b + 1) k T := by
    have := gNt_add (gFt n B F) 40 59 (100 * b + 1) k T
    rw [gNt_no _ 59 _ _ _ (fun y h1 h2 => gFt_no (by omega))] at this
    exact this
  exact ⟨a1.trans a2, b1.trans b2⟩
theorem p_ga2 {n : Nat} {br fl sb sf : Nat → Int32} {B F : Nat → Nat} (h : SgtN n br fl sb sf B F) : ∀ (e b m k : Nat) (T : Nat → Nat) (twos : Nat → Int32), b + e = 10 → e < m → 1 ≤ b → k ≤ 40 * (b - 1) → (∀ j, j < k → twos j = nI (T j)) → ∃ twos', fX2_gather_b7 (nI n) br fl m (nI k) twos (nI b) = some (nI (gNk (gFt n B F) (100 * e) (100 * b) k), twos') ∧ ∀ j, j < gNk (gFt n B F) (100 * e) (100 * b) k → twos' j = nI (gNt (gFt n B F) (100 * e) (100 * b) k T j)
  | _, _, 0, _, _, _, _, h, _, _, _ => by omega
  | 0, b, m + 1, k, T, twos, h1, _, _, _, h5 => by
    have e : b = 10 := by omega
    subst e
    have hlt : (9 : Int32) < nI 10 := by decide
    refine ⟨twos, ?_, h5⟩
    rw [fX2_gather_b7, if_pos hlt]
    rfl
  | e + 1, b, m + 1, k, T, twos, h1, h2, h3, h4, h5 => by
    have hlt : ¬ (9 : Int32) < nI b := nI_nlt (a := 9) (by omega) (by omega)
    obtain ⟨r1, r2⟩ := p_row100 (n := n) (B := B) (F := F) b k T
    have hge := gNk_ge (gFt n B F) 40 (100 * b + 1) k
    obtain ⟨t1, a1, a2⟩ := p_ga1 h h3 (show b ≤ 9 by omega) (fX2_gather_b7 (nI n) br fl m) 40 1 1000 k T twos (by omega) (by omega) (by omega) (by omega) h5
    have a1' : fX2_gather_b15 (fX2_gather_b7 (nI n) br fl m) (nI n) br fl 1000 (nI k) twos (nI b) 1 = _ := a1
    obtain ⟨t2, b1, b2⟩ := p_ga2 h e (b + 1) m (gNk (gFt n B F) 40 (100 * b + 1) k) (gNt (gFt n B F) 40 (100 * b + 1) k T) t1 (by omega) (by omega) (by omega) (by omega) a2
    have s1 : gNk (gFt n B F) (100 * (e + 1)) (100 * b) k = gNk (gFt n B F) (100 * e) (100 * (b + 1)) (gNk (gFt n B F) 40 (100 * b + 1) k) := by
      rw [show 100 * (e + 1) = 100 + 100 * e by omega, gNk_add, r1, show 100 * b + 100 = 100 * (b + 1) by omega]
    have s2 : gNt (gFt n B F) (100 * (e + 1)) (100 * b) k T = gNt (gFt n B F) (100 * e) (100 * (b + 1)) (gNk (gFt n B F) 40 (100 * b + 1) k) (gNt (gFt n B F) 40 (100 * b + 1) k T) := by
      rw [show 100 * (e + 1) = 100 + 100 * e by omega, gNt_add, r1, r2, show 100 * b + 100 = 100 * (b + 1) by omega]
    refine ⟨t2, ?_, ?_⟩
    · rw [fX2_gather_b7, if_neg hlt, a1', b1, s1]
    · rw [s1, s2]
      exact b2
theorem p_gather {n : Nat} {br fl sb sf : Nat → Int32} {B F : Nat → Nat} (h : SgtN n br fl sb sf B F) (count : Int32) (twos : Nat → Int32) (T : Nat → Nat) : ∃ twos', fX2_gather (nI n) count br fl twos = some (nI (gNk (gFt n B F) 900 100 0), twos') ∧ ∀ j, j < gNk (gFt n B F) 900 100 0 → twos' j = nI (gNt (gFt n B F) 900 100 0 T j) :=
  p_ga2 h 9 1 1000 0 T twos (by omega) (by omega) (by omega) (by omega) (fun j hj => by omega)
theorem p_gN40 (n : Nat) (B F : Nat → Nat) : ∀ (e b k : Nat), gNk (gFt n B F) (100 * e) (100 * b) k ≤ k + 40 * e
  | 0, b, k => Nat.le_refl _
  | e + 1, b, k => by
    have hge := gNk_ge (gFt n B F) 40 (100 * b + 1) k
    rw [show 100 * (e + 1) = 100 + 100 * e by omega, gNk_add, (p_row100 (n := n) (B := B) (F := F) b k (fun _ => 0)).1, show 100 * b + 100 = 100 * (b + 1) by omega]
    have := p_gN40 n B F e (b + 1) (gNk (gFt n B F) 40 (100 * b + 1) k)
    omega
theorem p_gN360 (n : Nat) (B F : Nat → Nat) : gNk (gFt n B F) 900 100 0 ≤ 360 := by
  have := p_gN40 n B F 9 1 0
  exact this
theorem co_fits {cnt : Int32} {br fl : Nat → Int32} {sights : Int32} {sb sf : Nat → Int32} (hS : SgtRel cnt br fl sights sb sf) (count : Int32) (twos : Nat → Int32) (x1 : Int32) : ∃ r c1 t1, fX10_fits count cnt twos br fl x1 = some (r, c1, t1) ∧ fX11_fits sights sb sf x1 = some r := by
  obtain ⟨n, B, F, rfl, rfl, h⟩ := p_sgtN hS
  obtain ⟨t1, g1, g2⟩ := p_gather h count twos (fun _ => 0)
  have hb := p_gN360 n B F
  have hm := p_mf h x1 900 100 1000 0 (fun _ => 0) (by omega) (by omega) (by omega)
  have hm' : fX11_fits (nI n) sb sf x1 = _ := hm
  generalize gNk (gFt n B F) 900 100 0 = N at g1 g2 hb hm'
  generalize gNt (gFt n B F) 900 100 0 (fun _ => 0) = TT at g2 hm'
  by_cases hx : x1 = -1
  · rw [if_pos hx] at hm'
    refine ⟨nI N, nI N, t1, ?_, hm'⟩
    unfold fX10_fits
    rw [g1, Option.bind_some]
    dsimp only
    rw [if_pos hx]
  · rw [if_neg hx] at hm'
    by_cases hq : ∃ q : Nat, q < N ∧ x1 = nI q
    · obtain ⟨q, hq1, rfl⟩ := hq
      have hc := p_cl (show q < 2 ^ 31 by omega)
      rw [hc, if_pos ⟨Nat.zero_le _, hq1, rfl⟩] at hm'
      refine ⟨nI (TT q), nI N, t1, ?_, hm'⟩
      have e1 : nI N - 1 = nI (N - 1) := pk_sub (b := 1) (by omega)
      have hw : fX10_within (nI q) 0 (nI (N - 1)) = some 1 := by
        rw [p_within, if_pos ⟨nI_pos' (by omega), nI_le (by omega) (by omega)⟩]
      unfold fX10_fits
      rw [g1, Option.bind_some]
      dsimp only
      rw [if_neg hx, e1, hw, Option.bind_some, if_neg (by decide), p_at 360 (by omega) t1 (show q < 360 by omega), Option.bind_some, fX10_fits_b60, g2 q hq1]
    · have hno : ¬ (0 ≤ x1.toNatClampNeg ∧ x1.toNatClampNeg < N ∧ x1 = nI x1.toNatClampNeg) := fun hh => hq ⟨_, hh.2.1, hh.2.2⟩
      rw [if_neg hno] at hm'
      refine ⟨-6, nI N, t1, ?_, hm'⟩
      have hw : fX10_within x1 0 (nI N - 1) = some 0 := by
        rw [p_within, if_neg]
        rintro ⟨a, b⟩
        obtain ⟨q, hq2, rfl⟩ := nI_of (x := x1) (Int32.not_lt.mpr a)
        apply hq
        refine ⟨q, ?_, rfl⟩
        by_cases h0 : N = 0
        · subst h0
          have := Int32.le_iff_toInt_le.mp b
          rw [nI_toInt hq2, show (nI 0 - 1 : Int32).toInt = -1 from by decide] at this
          omega
        · have e1 : nI N - 1 = nI (N - 1) := pk_sub (b := 1) (by omega)
          rw [e1] at b
          have := p_le_of (by omega) (by omega) b
          omega
      unfold fX10_fits
      rw [g1, Option.bind_some]
      dsimp only
      rw [if_neg hx, hw, Option.bind_some, if_pos rfl, fX10_fits_b60]
theorem st_fits : gStep_fits gRel := by
  intro v_x_imagesKept v_x_firstImage_meadow_families v_x_firstImage_meadow_wind v_x_firstImage_meadow_force v_x_firstImage_meadow_rain v_x_firstImage_meadow_lost v_x_firstImage_meadow_hour v_x_firstImage_sights_count v_x_now_meadow_families v_x_now_meadow_wind v_x_now_meadow_force v_x_now_meadow_rain v_x_now_meadow_lost v_x_now_meadow_hour v_x_now_sights_count v_x_pad_signs v_x_pad_acts v_x_pad_reading v_x_pad_begun v_x_pad_brokenAt v_x_secondImage_meadow_families v_x_secondImage_meadow_wind v_x_secondImage_meadow_force v_x_secondImage_meadow_rain v_x_secondImage_meadow_lost v_x_secondImage_meadow_hour v_x_secondImage_sights_count f_x_firstImage_meadow_home f_x_firstImage_meadow_seeds f_x_firstImage_meadow_lungs f_x_firstImage_meadow_blown f_x_firstImage_meadow_ground f_x_firstImage_sights_breaths f_x_firstImage_sights_flews f_x_now_meadow_home f_x_now_meadow_seeds f_x_now_meadow_lungs f_x_now_meadow_blown f_x_now_meadow_ground f_x_now_sights_breaths f_x_now_sights_flews f_x_pad_kinds f_x_pad_firsts f_x_pad_seconds f_x_secondImage_meadow_home f_x_secondImage_meadow_seeds f_x_secondImage_meadow_lungs f_x_secondImage_meadow_blown f_x_secondImage_meadow_ground f_x_secondImage_sights_breaths f_x_secondImage_sights_flews v_m_there v_m_wind v_m_force v_m_rains v_m_lost v_m_hours v_m_sights v_m_padMany f_m_at f_m_stem f_m_lungs f_m_blown f_m_heap f_m_sightBreath f_m_sightFlew f_m_pad f_m_kept f_m_isKept v_x_flight_count f_x_flight_twos a0 hRel
  obtain ⟨hN, hS, hP, hI⟩ := hRel
  obtain ⟨r, c1, t1, e1, e2⟩ := co_fits hS v_x_flight_count f_x_flight_twos a0
  exact ⟨_, _, _, e1, e2, hN, hS, hP, hI⟩

