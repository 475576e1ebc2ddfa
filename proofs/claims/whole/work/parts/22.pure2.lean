/-! pure facts: the acts -/
theorem p_cap {m z : Nat} (hm : m < 2 ^ 31) (hz : z < 2 ^ 31) : gCap (nI m) (nI z) = nI (min z m) := by
  unfold gCap
  by_cases h : z ≤ m
  · rw [if_pos (nI_le h hm), Nat.min_eq_left h]
  · rw [if_neg (nI_ge (by omega) hz), Nat.min_eq_right (by omega)]
theorem p_over {m z : Nat} (hm : m < 2 ^ 31) (hz : z < 2 ^ 31) : gOver (nI m) (nI z) = nI (z - m) := by
  unfold gOver
  by_cases h : z ≤ m
  · rw [if_pos (nI_le h hm), show z - m = 0 by omega]
    rfl
  · rw [if_neg (nI_ge (by omega) hz), pk_sub (by omega)]
theorem p_updP {f g : Nat → Int32} {n j : Nat} {P : Nat → Prop} (h : ∀ k, k < n → P k → f k = g k) {x y : Int32} (hx : x = y) : ∀ k, k < n → P k → upd f j x k = upd g j y k := by
  intro k hk hp
  subst hx
  unfold upd
  by_cases e : k = j
  · rw [if_pos e, if_pos e]
  · rw [if_neg e, if_neg e, h k hk hp]
theorem p_updI {f : Nat → Int32} {n m j : Nat} (h : ∀ k, k < n → gI m (f k)) {x : Int32} (hx : gI m x) : ∀ k, k < n → gI m (upd f j x k) := by
  intro k hk
  unfold upd
  by_cases e : k = j
  · rw [if_pos e]; exact hx
  · rw [if_neg e]; exact h k hk
theorem p_wind {j w n : Nat} (hj : j < 36) (hw : w < 4) (hn : n < 6) : (fX10_downwind (nI j) (nI w) (nI n) = some (-1) ∧ fX11_onBy (nI j) (nI w) (nI n) = some (-6)) ∨ ∃ i, i < 36 ∧ fX10_downwind (nI j) (nI w) (nI n) = some (nI i) ∧ fX11_onBy (nI j) (nI w) (nI n) = some (nI i) ∧ (i : Int) = (j : Int) + (if w = 0 then 6 * (n : Int) else if w = 1 then (n : Int) else if w = 2 then -(6 * (n : Int)) else -(n : Int)) := by
  have h := p_wall
  have h1 := List.all_eq_true.mp (List.all_eq_true.mp (List.all_eq_true.mp h j (List.mem_range.mpr hj)) w (List.mem_range.mpr hw)) n (List.mem_range.mpr hn)
  unfold p_wchk at h1
  generalize hA : fX10_downwind (nI j) (nI w) (nI n) = a at h1
  generalize hB : fX11_onBy (nI j) (nI w) (nI n) = b at h1
  cases a with
  | none => simp at h1
  | some a =>
    cases b with
    | none => simp at h1
    | some b =>
      simp only [Bool.or_eq_true, Bool.and_eq_true, decide_eq_true_eq, List.any_eq_true, List.mem_range] at h1
      rcases h1 with ⟨h1, h2⟩ | ⟨h1, i, hi, h2, h3⟩
      · exact Or.inl ⟨by rw [h1], by rw [h2]⟩
      · exact Or.inr ⟨i, hi, by rw [h2], by rw [← h1, h2], h3⟩
theorem p_arr {t lost : Int32} {home seeds ground at' stem heap : Nat → Int32} (ht : ∃ n, n < 64 ∧ t = nI n) (hd : ∀ j k, j < 6 → k < 6 → gP t j = true → gP t k = true → home j = home k → j = k) (ha : ∀ k, k < 6 → at' k = home k) (hs : ∀ k, k < 6 → gI 60 (seeds k)) (hg : ∀ j, j < 36 → gI 999 (ground j)) (hst : ∀ k, k < 6 → gP t k = true → stem k = seeds k) (hhe : ∀ j, j < 36 → heap j = ground j) {j a : Nat} (hj : j < 36) (hak : a ≤ 60) :
    ∃ lost' seeds' ground' stem' heap', fX6_arrive t lost home seeds ground (nI j) (nI a) = some (lost', seeds', ground') ∧ fX11_come t lost at' stem heap (nI j) (nI a) = some (lost', stem', heap') ∧ (∀ k, k < 6 → gI 60 (seeds' k)) ∧ (∀ j, j < 36 → gI 999 (ground' j)) ∧ (∀ k, k < 6 → gP t k = true → stem' k = seeds' k) ∧ (∀ j, j < 36 → heap' j = ground' j) := by
  obtain ⟨g, hg1, hg2⟩ := hg j hj
  unfold fX6_arrive fX11_come
  rcases p_who ht hd ha (nI j) with ⟨k, hk, hgk, hhk, h1, h2⟩ | ⟨hno, h1, h2⟩
  · obtain ⟨q, hq1, hq2⟩ := hs k hk
    have hkst := hst k hk hgk
    have e1 : seeds k + nI a = nI (q + a) := by rw [hq2, nI_add]
    have e2 : stem k + nI a = nI (q + a) := by rw [hkst, e1]
    have e3 : gOver 60 (nI (q + a)) = nI (q + a - 60) := p_over (m := 60) (by omega) (by omega)
    have e4 : gCap 60 (nI (q + a)) = nI (min (q + a) 60) := p_cap (m := 60) (by omega) (by omega)
    have e5 : gCap 999 (ground j + nI (q + a - 60)) = nI (min (g + (q + a - 60)) 999) := by
      rw [hg2, nI_add]
      exact p_cap (m := 999) (by omega) (by omega)
    refine ⟨lost + gOver 999 (ground j + nI (q + a - 60)), upd seeds k (nI (min (q + a) 60)), upd ground j (gCap 999 (ground j + nI (q + a - 60))), upd stem k (nI (min (q + a) 60)), upd heap j (gCap 999 (ground j + nI (q + a - 60))), ?_, ?_, p_updI hs ⟨_, by omega, rfl⟩, p_updI hg ⟨_, by omega, e5⟩, p_updP hst rfl, p_upd hhe rfl⟩
    · rw [h1, Option.bind_some, if_neg (nI_pos (by omega)), if_pos (p6l hk), p_gA hk (by omega), p_cl (by omega), e1]
      have key : ∀ s0, s0 = gOver 60 (nI (q + a)) → fX6_arrive_b49 lost seeds ground (nI j) (nI k) (nI (q + a)) s0 = some (lost + gOver 999 (ground j + nI (q + a - 60)), upd seeds k (nI (min (q + a) 60)), upd ground j (gCap 999 (ground j + nI (q + a - 60)))) := by
        intro s0 hs0
        subst hs0
        unfold fX6_arrive_b49
        rw [p_gA hk (by omega), p_cl (by omega), gSub, e3, e4, p_lie lost ground hj, Option.bind_some]
      by_cases hc : nI (q + a) ≤ 60
      · rw [if_pos hc]
        exact key 0 (show (0 : Int32) = if nI (q + a) ≤ 60 then 0 else nI (q + a) - 60 by rw [if_pos hc])
      · rw [if_neg hc]
        exact key _ (show nI (q + a) - 60 = if nI (q + a) ≤ 60 then 0 else nI (q + a) - 60 by rw [if_neg hc])
    · rw [h2, Option.bind_some, if_pos (nI_pos' (by omega)), p_gA hk (by omega), p_cl (by omega), e2]
      have key : ∀ s2 o, s2 = gCap 60 (nI (q + a)) → o = gOver 60 (nI (q + a)) → gA (nI k) 6 (fX11_come_b65 lost (upd stem k s2) heap (nI j) o) = some (lost + gOver 999 (ground j + nI (q + a - 60)), upd stem k (nI (min (q + a) 60)), upd heap j (gCap 999 (ground j + nI (q + a - 60)))) := by
        intro s2 o h3 h4
        subst h3 h4
        unfold fX11_come_b65
        rw [p_gA hk (by omega), e3, e4, p_fall lost heap hj, Option.bind_some, hhe j hj]
      unfold fX11_come_b46
      simp only [p_cl (show k < 2 ^ 31 by omega)]
      by_cases hc : nI (q + a) ≤ 60
      · rw [if_pos hc, if_pos hc]
        exact key _ _ (by unfold gCap; rw [if_pos hc]) (by unfold gOver; rw [if_pos hc])
      · rw [if_neg hc, if_neg hc]
        exact key _ _ (by unfold gCap; rw [if_neg hc]) (by unfold gOver; rw [if_neg hc])
  · have e5 : gCap 999 (ground j + nI a) = nI (min (g + a) 999) := by
      rw [hg2, nI_add]
      exact p_cap (m := 999) (by omega) (by omega)
    refine ⟨lost + gOver 999 (ground j + nI a), seeds, upd ground j (gCap 999 (ground j + nI a)), stem, upd heap j (gCap 999 (ground j + nI a)), ?_, ?_, hs, p_updI hg ⟨_, by omega, e5⟩, hst, p_upd hhe rfl⟩
    · rw [h1, Option.bind_some, if_pos (by decide)]
      unfold fX6_arrive_b16
      rw [p_lie lost ground hj, Option.bind_some]
    · rw [h2, Option.bind_some, if_neg (by decide), p_fall lost heap hj, Option.bind_some, hhe j hj]
theorem p_m1 {k : Nat} (hk : k < 2 ^ 31) : nI k ≠ -1 := by
  intro h
  have := nI_pos (n := k) hk
  rw [h] at this
  exact this (by decide)
theorem p_arrN {t lost : Int32} {home seeds ground : Nat → Int32} (ht : ∃ n, n < 64 ∧ t = nI n) (hd : ∀ j k, j < 6 → k < 6 → gP t j = true → gP t k = true → home j = home k → j = k) (hh : ∀ k, k < 6 → gI 35 (home k)) (x : Int32) : fX6_arrive t lost home seeds ground (-1) x = some (lost + x, seeds, ground) := by
  rcases p_who ht hd (fun k _ => rfl) (-1) with ⟨k, hk, hgk, hhk, h1, h2⟩ | ⟨hno, h1, h2⟩
  · obtain ⟨q, hq1, hq2⟩ := hh k hk
    rw [hq2] at hhk
    exact absurd hhk (p_m1 (by omega))
  · unfold fX6_arrive fX6_arrive_b16
    rw [h1, Option.bind_some, if_pos (by decide), p_lieN, Option.bind_some]
/-- what is blown, from a family that is there: a puff's or a cough's way -/
theorem p_fly {t w fo ra ho lost bm : Int32} {home seeds lungs blown ground at' stem lungs' blown' heap : Nat → Int32} (hI : MInv t w fo ra ho home seeds lungs blown ground) (hR : MRel t home seeds lungs blown ground at' stem lungs' blown' heap) {k a : Nat} (hk : k < 6) (hgk : gP t k = true) (hak : a ≤ 60) {sd : Int32} (hsd : gI 60 sd) (hsm : stem k - nI a = sd) :
    ∃ lost' seeds' ground' stem' heap', (∃ r, fX10_downwind (home k) w fo = some r ∧ fX6_arrive t lost home (upd seeds k sd) ground r (nI a) = some (lost', seeds', ground')) ∧ fX11_blow t w fo lost bm at' stem heap (nI k) (nI a) = some (lost', bm + nI a, stem', heap') ∧ MInv t w fo ra ho home seeds' lungs blown ground' ∧ MRel t home seeds' lungs blown ground' at' stem' lungs' blown' heap' := by
  obtain ⟨ht, ⟨w', hw1, hw2⟩, ⟨f', hf1, hf2⟩, hr, hh, hho, hse, hlu, hbl, hgr, hd⟩ := hI
  obtain ⟨ha, hst, hlr, hbr, hhe⟩ := hR
  obtain ⟨j, hj1, hj2⟩ := hho k hk
  unfold fX11_blow fX11_blow_b61
  simp only [p_gA hk (show 6 < 2 ^ 31 by omega), p_cl (show k < 2 ^ 31 by omega), ha k hk, hsm]
  rcases p_wind (j := j) (w := w') (n := f') (by omega) (by omega) (by omega) with ⟨h1, h2⟩ | ⟨i, hi, h1, h2, h3⟩
  · refine ⟨lost + nI a, upd seeds k sd, ground, upd stem k sd, heap, ⟨-1, by rw [hj2, hw2, hf2, h1], p_arrN ht hd hho (nI a)⟩, ?_, ⟨ht, ⟨w', hw1, hw2⟩, ⟨f', hf1, hf2⟩, hr, hh, hho, p_updI hse hsd, hlu, hbl, hgr, hd⟩, ⟨ha, p_updP hst rfl, hlr, hbr, hhe⟩⟩
    rw [hj2, hw2, hf2, h2, Option.bind_some, if_neg (by decide)]
  · obtain ⟨lost', seeds', ground', stem', heap', h4, h5, h6, h7, h8, h9⟩ := p_arr (lost := lost) ht hd ha (p_updI (j := k) hse hsd) hgr (p_updP (j := k) (x := sd) hst rfl) hhe hi hak
    refine ⟨lost', seeds', ground', stem', heap', ⟨nI i, by rw [hj2, hw2, hf2, h1], h4⟩, ?_, ⟨ht, ⟨w', hw1, hw2⟩, ⟨f', hf1, hf2⟩, hr, hh, hho, h6, hlu, hbl, h7, hd⟩, ⟨ha, h8, hlr, hbr, h9⟩⟩
    rw [hj2, hw2, hf2, h2, Option.bind_some, if_pos (nI_pos' (by omega)), h5, Option.bind_some]
