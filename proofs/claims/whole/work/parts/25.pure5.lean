/-! pure facts: who has seeds, who was ruined, a text's acts one by one -/
theorem p_orbit : ∀ m, m < 64 → ∀ i, i < 6 → (m ||| 2 ^ i < 64 ∧ nI m ||| (1 <<< (nI i &&& 31)) = nI (m ||| 2 ^ i)) := by decide +kernel
theorem p_own {t : Int32} (ht : ∃ n, n < 64 ∧ t = nI n) {seeds stem : Nat → Int32} (hst : ∀ k, k < 6 → gP t k = true → stem k = seeds k) : ∀ (d i n n' m : Nat), i + d = 6 → d < n → d < n' → m < 64 → ∃ v, v < 64 ∧ fX6_owners_b4 t seeds n (nI m) (nI i) = some (nI v) ∧ fX11_rich_b4 t stem n' (nI m) (nI i) = some (nI v)
  | _, _, 0, _, _, _, h, _, _ => by omega
  | _, _, _, 0, _, _, _, h, _ => by omega
  | 0, i, n + 1, n' + 1, m, h1, _, _, hm => by
    have e : i = 6 := by omega
    subst e
    refine ⟨m, hm, ?_, ?_⟩
    · unfold fX6_owners_b4; exact if_pos p6y
    · unfold fX11_rich_b4; exact if_pos p6y
  | d + 1, i, n + 1, n' + 1, m, h1, h2, h3, hm => by
    have hi : i < 6 := by omega
    have hA := fun (K : Option Int32) => p_gA hi (show 6 < 2 ^ 31 by omega) K
    have hc := p_cl (show i < 2 ^ 31 by omega)
    obtain ⟨v, hv, e1, e2⟩ := p_own ht hst d (i + 1) n n' m (by omega) (by omega) (by omega) hm
    obtain ⟨hb1, hb2⟩ := p_orbit m hm i hi
    obtain ⟨v', hv', e3, e4⟩ := p_own ht hst d (i + 1) n n' (m ||| 2 ^ i) (by omega) (by omega) (by omega) hb1
    cases hg : gP t i with
    | false => exact ⟨v, hv, by simp only [fX6_owners_b4, fX6_owners_b33, p6n hi, p_isThere t hi, hg, Option.bind_some, ↓reduceIte, Bool.false_eq_true, nI_1, e1], by simp only [fX11_rich_b4, fX11_rich_b34, fX11_rich_b35, p6n hi, p_isFamily ht hi, hg, Option.bind_some, ↓reduceIte, Bool.false_eq_true, nI_1, Int32.or_zero, e2]⟩
    | true =>
      by_cases hs : seeds i ≤ 0
      · exact ⟨v, hv, by simp only [fX6_owners_b4, fX6_owners_b33, p6n hi, p_isThere t hi, hg, q_ne, Option.bind_some, ↓reduceIte, hA, hc, hs, nI_1, e1], by simp only [fX11_rich_b4, fX11_rich_b34, fX11_rich_b35, p6n hi, p_isFamily ht hi, hg, q_ne, Option.bind_some, ↓reduceIte, hA, hc, hst i hi hg, hs, nI_1, Int32.or_zero, e2]⟩
      · exact ⟨v', hv', by simp only [fX6_owners_b4, fX6_owners_b33, p6n hi, p_isThere t hi, hg, q_ne, Option.bind_some, ↓reduceIte, hA, hc, hs, nI_1, hb2, e3], by simp only [fX11_rich_b4, fX11_rich_b34, fX11_rich_b35, p6n hi, p_isFamily ht hi, hg, q_ne, Option.bind_some, ↓reduceIte, hA, hc, hst i hi hg, hs, nI_1, hb2, e4]⟩
theorem p_owners {t : Int32} (ht : ∃ n, n < 64 ∧ t = nI n) {seeds stem : Nat → Int32} (hst : ∀ k, k < 6 → gP t k = true → stem k = seeds k) : ∃ v, v < 64 ∧ fX6_owners t seeds = some (nI v) ∧ fX11_rich t stem = some (nI v) := p_own ht hst 6 0 1000 1000 0 (by omega) (by omega) (by omega) (by omega)
theorem p_gone : (List.range 64).all (fun a => (List.range 64).all (fun b => decide (a &&& (b ^^^ 63) < 64) && decide (nI a &&& (nI b ^^^ (-1)) = nI (a &&& (b ^^^ 63))))) = true := by decide +kernel
theorem p_gone' {a b : Nat} (ha : a < 64) (hb : b < 64) : ∃ w, w < 64 ∧ nI a &&& (nI b ^^^ (-1)) = nI w := by
  have h := List.all_eq_true.mp (List.all_eq_true.mp p_gone a (List.mem_range.mpr ha)) b (List.mem_range.mpr hb)
  simp only [Bool.and_eq_true, decide_eq_true_eq] at h
  exact ⟨_, h.1, h.2⟩
theorem p_least : (List.range 64).all (fun w => if w = 0 then decide (gFst (gP (nI w)) 6 0 = -1) else (List.range 6).any (fun k => decide (gFst (gP (nI w)) 6 0 = nI k) && decide (fX11_leastOf (nI w) = some (nI k)))) = true := by decide +kernel
theorem p_note (rf x1 : Int32) (hx : ¬ x1 = -6) (w : Int32) : ∀ (d i n : Nat), i + d = 6 → d < n → fX5_noteRuin_b2 n (-6) rf x1 w (nI i) = some (if gFst (gP w) d i = -1 then (-6, rf) else (x1, gFst (gP w) d i))
  | _, _, 0, _, h => by omega
  | 0, i, n + 1, h1, _ => by
    have e : i = 6 := by omega
    subst e
    simp only [fX5_noteRuin_b2, fX5_noteRuin_b41, p6y, ↓reduceIte, gFst]
  | d + 1, i, n + 1, h1, h2 => by
    have hi : i < 6 := by omega
    have ih := p_note rf x1 hx w d (i + 1) n (by omega) (by omega)
    cases hg : gP w i with
    | false => simp only [fX5_noteRuin_b2, fX5_noteRuin_b35, p6n hi, p_gPf hg, ↓reduceIte, nI_1, ih, gFst, hg, Bool.false_eq_true]
    | true =>
      have hne : ¬ nI i = -1 := p_m1 (by omega)
      obtain ⟨n, rfl⟩ : ∃ q, n = q + 1 := ⟨n - 1, by omega⟩
      by_cases h6 : (6 : Int32) ≤ nI (i + 1)
      · simp only [fX5_noteRuin_b2, fX5_noteRuin_b35, fX5_noteRuin_b41, p6n hi, p_gPt hg, ↓reduceIte, nI_1, gFst, hg, hne, h6]
      · simp only [fX5_noteRuin_b2, fX5_noteRuin_b35, fX5_noteRuin_b41, p6n hi, p_gPt hg, ↓reduceIte, nI_1, gFst, hg, hne, h6, hx]
theorem p_noteN {k : Nat} (hk : k < 2 ^ 31) (rf x1 w : Int32) : fX5_noteRuin (nI k) rf x1 w = some (nI k, rf) := by
  have hne : ¬ nI k = -6 := by
    intro h
    have := nI_pos (n := k) hk
    rw [h] at this
    exact this (by decide)
  have : ¬ (6 : Int32) ≤ nI 0 := p6n (by omega)
  show fX5_noteRuin_b2 1000 (nI k) rf x1 w (nI 0) = _
  simp only [fX5_noteRuin_b2, fX5_noteRuin_b41, this, hne, ↓reduceIte]
theorem p_n6 {k : Nat} (hk : k < 2 ^ 31) : ¬ nI k = -6 := by
  intro h
  have := nI_pos (n := k) hk
  rw [h] at this
  exact this (by decide)
theorem p_n6' {k : Nat} (hk : k < 2 ^ 31) : (0 : Int32) ≤ nI k := nI_pos' hk
/-- nobody yet, or act k was the first that ruined somebody -/
def gNone (x : Int32) : Prop := x = -6 ∨ ∃ k : Nat, k < 60 ∧ x = nI k
theorem q_06 : ¬ (0 : Int32) ≤ -6 := by decide
theorem p_hours {a : Nat} (ha60 : a ≤ 60) {t : Int32} {home lungs at' lungs' kinds firsts seconds act who much : Nat → Int32} (hok : ∀ i, i < a → ActOK (kinds i) (firsts i) (seconds i) (seconds i)) (hac : ∀ i, i < a → act i = kinds i ∧ who i = firsts i ∧ much i = seconds i) :
    ∀ (d i n n' : Nat) (w fo ra ho lost fl rA rF : Int32) (seeds blown ground stem blown' heap : Nat → Int32), i + d = a → d < n → d < n' → gNone rA → MInv t w fo ra ho home seeds lungs blown ground → MRel t home seeds lungs blown ground at' stem lungs' blown' heap →
      ∃ s0 ba bw fl1 rA1 rF1 w1 fo1 ra1 lost1 ho1 seeds1 blown1 ground1 stem1 blown2 heap1, fX5_run_b51 (nI a) kinds firsts seconds n (-6) (-6) fl rA rF t w fo ra lost ho home seeds lungs blown ground (nI i) = some (s0, ba, bw, fl1, rA1, rF1, t, w1, fo1, ra1, lost1, ho1, home, seeds1, lungs, blown1, ground1) ∧ fX11_goHours_b31 t (nI a) at' lungs' act who much n' w fo ra lost ho fl (-6) (-6) rA rF stem blown' heap (nI i) = some (w1, fo1, ra1, lost1, ho1, fl1, ba, bw, rA1, rF1, stem1, blown2, heap1) ∧ MInv t w1 fo1 ra1 ho1 home seeds1 lungs blown1 ground1 ∧ MRel t home seeds1 lungs blown1 ground1 at' stem1 lungs' blown2 heap1 ∧ ((ba = -6 ∧ s0 = 0) ∨ ((∃ k : Nat, k < 60 ∧ ba = nI k) ∧ s0 = -3))
  | _, _, 0, _, _, _, _, _, _, _, _, _, _, _, _, _, _, _, _, h, _, _, _, _ => by omega
  | _, _, _, 0, _, _, _, _, _, _, _, _, _, _, _, _, _, _, _, _, h, _, _, _ => by omega
  | 0, i, n + 1, n' + 1, w, fo, ra, ho, lost, fl, rA, rF, seeds, blown, ground, stem, blown', heap, h1, _, _, hrA, hI, hR => by
    have e : i = a := by omega
    subst e
    have hle : nI i ≤ nI i := nI_le (Nat.le_refl _) (by omega)
    exact ⟨0, -6, -6, fl, rA, rF, w, fo, ra, lost, ho, seeds, blown, ground, stem, blown', heap, by simp only [fX5_run_b51, fX5_run_b103, fX5_run_b118, hle, ↓reduceIte], by simp only [fX11_goHours_b31, fX11_goHours_b112, hle, ↓reduceIte], hI, hR, Or.inl ⟨rfl, rfl⟩⟩
  | d + 1, i, n + 1, n' + 1, w, fo, ra, ho, lost, fl, rA, rF, seeds, blown, ground, stem, blown', heap, h1, h2, h3, hrA, hI, hR => by
    have hi : i < a := by omega
    have hlt : ¬ nI a ≤ nI i := nI_ge hi (by omega)
    obtain ⟨e1, e2, e3⟩ := hac i hi
    have hc := p_cl (show i < 2 ^ 31 by omega)
    obtain ⟨y, hy, w1, w2, w3⟩ := p_why hI hR (hok i hi)
    obtain ⟨ht, -⟩ := id hI
    by_cases hy0 : y = 0
    · subst hy0
      obtain ⟨wx, fox, rax, lostx, hox, seedsx, blownx, groundx, stemx, blownx', heapx, b, a1, a2, a3, a4, a5⟩ := p_act (lost := lost) (bm := fl) hI hR (w3 rfl)
      obtain ⟨v1, hv1, o1, o2⟩ := p_owners ht hR.2.1
      obtain ⟨v2, hv2, o3, o4⟩ := p_owners ht a5.2.1
      obtain ⟨g, hg, hge⟩ := p_gone' hv1 hv2
      -- the ruin
      have hru : ∃ rA1 rF1, gNone rA1 ∧ fX5_noteRuin rA rF (nI i) (nI g) = some (rA1, rF1) ∧ ((nI g = 0 ∧ rA1 = rA ∧ rF1 = rF) ∨ (¬ nI g = 0 ∧ (0 : Int32) ≤ rA ∧ rA1 = rA ∧ rF1 = rF) ∨ (¬ nI g = 0 ∧ ¬ (0 : Int32) ≤ rA ∧ rA1 = nI i ∧ fX11_leastOf (nI g) = some rF1)) := by
        have hl := List.all_eq_true.mp p_least g (List.mem_range.mpr hg)
        rcases hrA with rfl | ⟨k, hk, rfl⟩
        · have hn := p_note rF (nI i) (p_n6 (by omega)) (nI g) 6 0 1000 (by omega) (by omega)
          by_cases hg0 : g = 0
          · rw [if_pos hg0, decide_eq_true_eq] at hl
            rw [if_pos hl] at hn
            exact ⟨-6, rF, Or.inl rfl, hn, Or.inl ⟨by rw [hg0]; rfl, rfl, rfl⟩⟩
          · rw [if_neg hg0, List.any_eq_true] at hl
            obtain ⟨k, hk, hl⟩ := hl
            simp only [Bool.and_eq_true, decide_eq_true_eq] at hl
            rw [List.mem_range] at hk
            rw [hl.1, if_neg (p_m1 (by omega))] at hn
            exact ⟨nI i, nI k, Or.inr ⟨i, by omega, rfl⟩, hn, Or.inr (Or.inr ⟨nI_ne0 (by omega) (by omega), by decide, rfl, hl.2⟩)⟩
        · refine ⟨nI k, rF, Or.inr ⟨k, hk, rfl⟩, p_noteN (by omega) _ _ _, ?_⟩
          by_cases hg0 : nI g = 0
          · exact Or.inl ⟨hg0, rfl, rfl⟩
          · exact Or.inr (Or.inl ⟨hg0, nI_pos' (by omega), rfl, rfl⟩)
      obtain ⟨rA1, rF1, hrA1, hn, hr3⟩ := hru
      obtain ⟨s0, ba, bw, fl1, rA2, rF2, w5, fo5, ra5, lost5, ho5, seeds5, blown5, ground5, stem5, blown6, heap5, i1, i2, i3, i4, i5⟩ := p_hours ha60 hok hac d (i + 1) n n' wx fox rax hox lostx (fl + b) rA1 rF1 seedsx blownx groundx stemx blownx' heapx (by omega) (by omega) (by omega) hrA1 a4 a5
      refine ⟨s0, ba, bw, fl1, rA2, rF2, w5, fo5, ra5, lost5, ho5, seeds5, blown5, ground5, stem5, blown6, heap5, ?_, ?_, i3, i4, i5⟩
      · have hz : (nI 0 : Int32) = 0 := rfl
        simp only [fX5_run_b51, hlt, ↓reduceIte, p_at 60 (by omega) kinds (show i < 60 by omega), p_at 60 (by omega) firsts (show i < 60 by omega), p_at 60 (by omega) seconds (show i < 60 by omega), Option.bind_some, fX5_runAct, w1, hz, o1, a3, a1, o3, hge, hn, nI_1, i1]
      · have hz : (nI 0 : Int32) = 0 := rfl
        have hgo : fX11_goOne t w fo ra lost ho fl rA rF at' stem blown' heap act who much (nI i) = some (wx, fox, rax, lostx, hox, fl + b, rA1, rF1, stemx, blownx', heapx) := by
          rcases hr3 with ⟨g1, g2, g3⟩ | ⟨g1, g2, g3, g4⟩ | ⟨g1, g2, g3, g4⟩
          · simp only [fX11_goOne, fX11_goOne_b60, o2, Option.bind_some, p_gA (show i < 60 by omega) (show 60 < 2 ^ 31 by omega), hc, e1, e2, e3, a2, o4, hge, g1, g2, g3, ↓reduceIte]
          · simp only [fX11_goOne, fX11_goOne_b60, o2, Option.bind_some, p_gA (show i < 60 by omega) (show 60 < 2 ^ 31 by omega), hc, e1, e2, e3, a2, o4, hge, g1, g2, g3, g4, ↓reduceIte]
          · simp only [fX11_goOne, fX11_goOne_b60, o2, Option.bind_some, p_gA (show i < 60 by omega) (show 60 < 2 ^ 31 by omega), hc, e1, e2, e3, a2, o4, hge, g1, g2, g3, g4, ↓reduceIte]
        simp only [fX11_goHours_b31, hlt, q_06, ↓reduceIte, p_gA (show i < 60 by omega) (show 60 < 2 ^ 31 by omega), hc, e1, e2, e3, w2, Option.bind_some, hz, Int32.le_refl, fX11_goHours_b80, fX11_goHours_b94, fX11_goHours_b106, hgo, nI_1, i2]
    · -- the act that can not be
      have hyn : ¬ nI y = 0 := nI_ne0 (by omega) (by omega)
      have hyl : ¬ nI y ≤ 0 := nI_nle (by omega) (by omega)
      obtain ⟨n, rfl⟩ : ∃ q, n = q + 1 := ⟨n - 1, by omega⟩
      obtain ⟨n', rfl⟩ : ∃ q, n' = q + 1 := ⟨n' - 1, by omega⟩
      have hb : ¬ nI i = -6 := p_n6 (by omega)
      have hb2 : (0 : Int32) ≤ nI i := nI_pos' (by omega)
      refine ⟨-3, nI i, nI y, fl, rA, rF, w, fo, ra, lost, ho, seeds, blown, ground, stem, blown', heap, ?_, ?_, hI, hR, Or.inr ⟨⟨i, by omega, rfl⟩, rfl⟩⟩
      · simp only [fX5_run_b51, hlt, ↓reduceIte, p_at 60 (by omega) kinds (show i < 60 by omega), p_at 60 (by omega) firsts (show i < 60 by omega), p_at 60 (by omega) seconds (show i < 60 by omega), Option.bind_some, fX5_runAct, w1, hyn, hb, fX5_run_b103, fX5_run_b118, ite_self]
      · simp only [fX11_goHours_b31, hlt, q_06, ↓reduceIte, p_gA (show i < 60 by omega) (show 60 < 2 ^ 31 by omega), hc, e1, e2, e3, w2, Option.bind_some, hyl, hyn, fX11_goHours_b80, fX11_goHours_b94, fX11_goHours_b106, fX11_goHours_b112, hb2, ite_self]
