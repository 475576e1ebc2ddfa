/-! pure facts: what an act does -/
theorem p_gI_add {a b m : Nat} {x y : Int32} (hx : gI a x) (hy : gI b y) (hm : a + b ≤ m) : gI m (x + y) := by
  obtain ⟨p, hp, rfl⟩ := hx
  obtain ⟨q, hq, rfl⟩ := hy
  exact ⟨p + q, by omega, nI_add p q⟩
theorem p_le_of {a b : Nat} (ha : a < 2 ^ 31) (hb : b < 2 ^ 31) (h : nI a ≤ nI b) : a ≤ b := (nI_leI ha hb).mp h
theorem p_act {t w fo ra ho lost bm : Int32} {home seeds lungs blown ground at' stem lungs' blown' heap : Nat → Int32} (hI : MInv t w fo ra ho home seeds lungs blown ground) (hR : MRel t home seeds lungs blown ground at' stem lungs' blown' heap) {c a n n' : Int32} (hok : ActCan t ho seeds lungs blown c a n n') :
    ∃ w1 fo1 ra1 lost1 ho1 seeds1 blown1 ground1 stem1 blown2 heap1 b, fX0_carryOut t w fo ra lost ho home seeds blown ground c a n = some (w1, fo1, ra1, lost1, ho1, seeds1, blown1, ground1) ∧ fX11_happen t w fo ra lost ho bm at' stem blown' heap c a n' = some (w1, fo1, ra1, lost1, ho1, bm + b, stem1, blown2, heap1) ∧ fX0_blownBy seeds c a n = some b ∧ MInv t w1 fo1 ra1 ho1 home seeds1 lungs blown1 ground1 ∧ MRel t home seeds1 lungs blown1 ground1 at' stem1 lungs' blown2 heap1 := by
  obtain ⟨ht, hw, hf, hr, hh, hho, hse, hlu, hbl, hgr, hd⟩ := id hI
  obtain ⟨ha, hst, hlr, hbr, hhe⟩ := id hR
  rcases hok with ⟨rfl, k, d, hk, hd2, rfl, rfl, rfl, hg, h1, h2⟩ | ⟨rfl, k, hk, rfl, hg⟩ | ⟨rfl, k, hk, rfl, hg⟩ | ⟨rfl, h3, h4, rfl⟩ | rfl | rfl | ⟨rfl, h5⟩
  · -- a puff
    obtain ⟨s, hs1, hs2⟩ := hse k hk
    obtain ⟨bl, hb1, hb2⟩ := hbl k hk
    obtain ⟨lu, hl1, hl2⟩ := hlu k hk
    rw [hs2] at h1
    have hds := p_le_of (by omega) (by omega) h1
    rw [hb2, hl2, nI_add] at h2
    have hbd := p_le_of (by omega) (by omega) h2
    have hsub : seeds k - nI d = nI (s - d) := by rw [hs2, pk_sub hds]
    obtain ⟨lost1, seeds1, ground1, stem1, heap1, ⟨r, e1, e2⟩, e3, e4, e5⟩ := p_fly (lost := lost) (bm := bm) (ho := ho) hI hR hk hg (a := d) (by omega) (sd := nI (s - d)) ⟨_, by omega, rfl⟩ (by rw [hst k hk hg, hsub])
    have hA := fun {α : Type} (K : Option α) => p_gA hk (show 6 < 2 ^ 31 by omega) K
    have hz : ¬ (1 : Int32) = 0 := by decide
    obtain ⟨i1, i2, i3, i4, i5, i6, i7, i8, i9, i10, i11⟩ := e4
    obtain ⟨r1, r2, r3, r4, r5⟩ := e5
    refine ⟨w, fo, ra, lost1, ho, seeds1, upd blown k (blown k + nI d), ground1, stem1, upd blown' k (blown k + nI d), heap1, nI d, ?_, ?_, ?_, ⟨i1, i2, i3, i4, i5, i6, i7, i8, p_updI hbl (by rw [hb2, nI_add]; exact ⟨_, by omega, rfl⟩), i10, i11⟩, ⟨r1, r2, r3, p_upd hbr rfl, r5⟩⟩
    · simp only [fX0_carryOut, fX0_carryOut_b102, fX6_puff, fX6_puff_b50, p_isThere t hk, hg, ↓reduceIte, Option.bind_some, hA, p_cl (show k < 2 ^ 31 by omega), hz, e1, hsub, e2]
    · simp only [fX11_happen, fX11_happen_b118, ↓reduceIte, Option.bind_some, hA, p_cl (show k < 2 ^ 31 by omega), e3, hbr k hk]
    · simp only [fX0_blownBy, ↓reduceIte]
  · -- a cough
    obtain ⟨s, hs1, hs2⟩ := hse k hk
    have hsub : seeds k - nI s = nI 0 := by rw [hs2, pk_sub (Nat.le_refl s), Nat.sub_self]
    obtain ⟨lost1, seeds1, ground1, stem1, heap1, ⟨r, e1, e2⟩, e3, e4, e5⟩ := p_fly (lost := lost) (bm := bm) (ho := ho) hI hR hk hg (a := s) hs1 (sd := nI 0) ⟨0, by omega, rfl⟩ (by rw [hst k hk hg, hsub])
    have hA := fun {α : Type} (K : Option α) => p_gA hk (show 6 < 2 ^ 31 by omega) K
    have e2' : fX6_arrive t lost home (upd seeds k 0) ground r (seeds k) = some (lost1, seeds1, ground1) := by rw [hs2]; exact e2
    have e3' : fX11_blow t w fo lost bm at' stem heap (nI k) (stem k) = some (lost1, bm + nI s, stem1, heap1) := by rw [hst k hk hg, hs2]; exact e3
    refine ⟨w, fo, ra, lost1, ho, seeds1, blown, ground1, stem1, blown', heap1, nI s, ?_, ?_, ?_, e4, e5⟩
    · simp only [fX0_carryOut, fX0_carryOut_b102, fX6_cough, fX6_cough_b44, p_isThere t hk, hg, ↓reduceIte, Option.bind_some, hA, p_cl (show k < 2 ^ 31 by omega), q_ne, e1, e2']
    · simp only [fX11_happen, fX11_happen_b118, ↓reduceIte, q_ne, Option.bind_some, hA, p_cl (show k < 2 ^ 31 by omega), e3']
    · simp only [fX0_blownBy, ↓reduceIte, q_ne, p_at 6 (by omega) seeds hk, Option.bind_some, hs2]
  · -- it mows
    obtain ⟨s, hs1, hs2⟩ := hse k hk
    obtain ⟨j, hj1, hj2⟩ := hho k hk
    have hj : j < 36 := by omega
    obtain ⟨g, hg1, hg2⟩ := hgr j hj
    have hA := fun {α : Type} (K : Option α) => p_gA hk (show 6 < 2 ^ 31 by omega) K
    have hB := fun {α : Type} (K : Option α) => p_gA hj (show 36 < 2 ^ 31 by omega) K
    have hroom : (60 : Int32) - seeds k = nI (60 - s) := by rw [hs2]; exact pk_sub (a := 60) hs1
    have hin : (0 : Int32) ≤ nI j ∧ nI j < 36 := ⟨nI_pos' (by omega), p36l hj⟩
    -- what is taken
    have htk : (if nI g < nI (60 - s) then nI g else nI (60 - s)) = nI (min g (60 - s)) := by
      by_cases hlt : g < 60 - s
      · rw [if_pos (nI_lt hlt (by omega)), Nat.min_eq_left (by omega)]
      · rw [if_neg (nI_nlt (by omega) (by omega)), Nat.min_eq_right (by omega)]
    have e1 : seeds k + nI (min g (60 - s)) = nI (s + min g (60 - s)) := by rw [hs2, nI_add]
    have e2 : ground j - nI (min g (60 - s)) = nI (g - min g (60 - s)) := by rw [hg2, pk_sub (by omega)]
    refine ⟨w, fo, ra, lost, ho, upd seeds k (nI (s + min g (60 - s))), blown, upd ground j (nI (g - min g (60 - s))), upd stem k (nI (s + min g (60 - s))), blown', upd heap j (nI (g - min g (60 - s))), 0, ?_, ?_, ?_, ⟨ht, hw, hf, hr, hh, hho, p_updI hse ⟨_, by omega, rfl⟩, hlu, hbl, p_updI hgr ⟨_, by omega, rfl⟩, hd⟩, ⟨ha, p_updP hst rfl, hlr, hbr, p_upd hhe rfl⟩⟩
    · simp only [fX0_carryOut, fX0_carryOut_b102, fX6_mow, p_isThere t hk, hg, ↓reduceIte, Option.bind_some, hA, p_cl (show k < 2 ^ 31 by omega), q_ne, p_isField, hj2, hin, and_self, hB, p_cl (show j < 2 ^ 31 by omega), hroom, hg2, htk]
      rw [← hg2, e1, e2]
    · have e1' : stem k + nI (min g (60 - s)) = nI (s + min g (60 - s)) := by rw [hst k hk hg, e1]
      have e2' : heap j - nI (min g (60 - s)) = nI (g - min g (60 - s)) := by rw [hhe j hj, e2]
      have hroom' : (60 : Int32) - stem k = nI (60 - s) := by rw [hst k hk hg, hroom]
      have hg2' : heap j = nI g := by rw [hhe j hj, hg2]
      simp only [fX11_happen, fX11_happen_b118, fX11_mow, fX11_mow_b37, ↓reduceIte, q_ne, Option.bind_some, hA, p_cl (show k < 2 ^ 31 by omega), ha k hk, hj2, hB, p_cl (show j < 2 ^ 31 by omega), hroom']
      by_cases hlt : 60 - s ≤ g
      · have : min g (60 - s) = 60 - s := Nat.min_eq_right hlt
        rw [this] at e1' e2'
        rw [if_pos (by rw [hg2']; exact nI_le hlt (by omega)), this, e1', e2', Option.bind_some, Int32.add_zero]
      · have : min g (60 - s) = g := Nat.min_eq_left (by omega)
        rw [this] at e1' e2'
        rw [if_neg (by rw [hg2']; exact nI_ge (by omega) (by omega)), this, hg2', e1', Option.bind_some, Int32.add_zero]
        rw [hg2'] at e2'
        rw [e2']
    · simp only [fX0_blownBy, ↓reduceIte, q_ne]
  · refine ⟨a, n', ra, lost, ho, seeds, blown, ground, stem, blown', heap, 0, ?_, ?_, ?_, ⟨ht, h3, h4, hr, hh, hho, hse, hlu, hbl, hgr, hd⟩, ⟨ha, hst, hlr, hbr, hhe⟩⟩
    · simp only [fX0_carryOut, fX0_carryOut_b102, ↓reduceIte, q_ne]
    · simp only [fX11_happen, fX11_happen_b118, ↓reduceIte, q_ne, Int32.add_zero]
    · simp only [fX0_blownBy, ↓reduceIte, q_ne]
  · refine ⟨w, fo, 1 - ra, lost, ho, seeds, blown, ground, stem, blown', heap, 0, ?_, ?_, ?_, ⟨ht, hw, hf, ?_, hh, hho, hse, hlu, hbl, hgr, hd⟩, ⟨ha, hst, hlr, hbr, hhe⟩⟩
    · simp only [fX0_carryOut, fX0_carryOut_b102, ↓reduceIte, q_ne]
    · simp only [fX11_happen, fX11_happen_b118, ↓reduceIte, q_ne, Int32.add_zero]
    · simp only [fX0_blownBy, ↓reduceIte, q_ne]
    · obtain ⟨q, hq1, rfl⟩ := hr
      exact ⟨1 - q, by omega, pk_sub (a := 1) hq1⟩
  · obtain ⟨lost1, ground1, heap1, e1, e2, e3, e4⟩ := p_eat 36 0 1000 1000 lost ground heap (by omega) (by omega) (by omega) hgr hhe
    have e1' : fX6_graze lost ground = some (lost1, ground1) := e1
    have e2' : fX11_eat lost heap = some (lost1, heap1) := e2
    refine ⟨w, fo, ra, lost1, ho, seeds, blown, ground1, stem, blown', heap1, 0, ?_, ?_, ?_, ⟨ht, hw, hf, hr, hh, hho, hse, hlu, hbl, e3, hd⟩, ⟨ha, hst, hlr, hbr, e4⟩⟩
    · simp only [fX0_carryOut, fX0_carryOut_b102, ↓reduceIte, q_ne, e1', Option.bind_some]
    · simp only [fX11_happen, fX11_happen_b118, ↓reduceIte, q_ne, Int32.add_zero, e2', Option.bind_some]
    · simp only [fX0_blownBy, ↓reduceIte, q_ne]
  · obtain ⟨f1, e1, e2⟩ := p_clearRow (N := 6) (by omega) blown
    obtain ⟨f2, e3, e4, -⟩ := p_pass 6 0 1000 ho blown' (by omega) (by omega)
    have e3' : fX11_passHour ho blown' = some (ho + 1, f2) := e3
    obtain ⟨q, hq1, rfl⟩ := hh
    have hq2 : q < 99 := (nI_ltI (b := 99) (by omega) (by omega)).mp h5
    refine ⟨w, fo, ra, lost, nI q + 1, seeds, f1, ground, stem, f2, heap, 0, ?_, ?_, ?_, ⟨ht, hw, hf, hr, ⟨q + 1, by omega, nI_1 q⟩, hho, hse, hlu, fun k hk => ⟨0, by omega, e2 k hk⟩, hgr, hd⟩, ⟨ha, hst, hlr, fun k hk => by rw [e4 k (Nat.zero_le _) hk, e2 k hk], hhe⟩⟩
    · simp only [fX0_carryOut, fX0_carryOut_b102, fX6_strikeHour, ↓reduceIte, q_ne, e1, Option.bind_some]
    · simp only [fX11_happen, fX11_happen_b118, ↓reduceIte, q_ne, Int32.add_zero, e3', Option.bind_some]
    · simp only [fX0_blownBy, ↓reduceIte, q_ne]
