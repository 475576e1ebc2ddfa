/-! the step: bellows -/
theorem p_worth {t w fo ra ho : Int32} {home seeds lungs blown ground at' stem lungs' blown' heap : Nat → Int32} (hI : MInv t w fo ra ho home seeds lungs blown ground) (hR : MRel t home seeds lungs blown ground at' stem lungs' blown' heap) (j : Nat) : ∃ v, v ≤ 1059 ∧ (j < 36 → fX8_fieldWorth t home seeds ground (nI j) = some (nI v) ∧ fX11_worthOf t at' stem heap (nI j) = some (nI v)) := by
  by_cases hj : j < 36
  · obtain ⟨ht, hw, hf, hr, hh, hho, hse, hlu, hbl, hgr, hd⟩ := hI
    obtain ⟨ha, hst, hlr, hbr, hhe⟩ := hR
    obtain ⟨g, hg1, hg2⟩ := hgr j hj
    have hB := fun {α : Type} (K : Option α) => p_gA hj (show 36 < 2 ^ 31 by omega) K
    have hbl := p_cl (show j < 2 ^ 31 by omega)
    rcases p_who ht hd ha (nI j) with ⟨k, hk, hgk, hhk, h1, h2⟩ | ⟨hno, h1, h2⟩
    · obtain ⟨s, hs1, hs2⟩ := hse k hk
      have hA := fun {α : Type} (K : Option α) => p_gA hk (show 6 < 2 ^ 31 by omega) K
      refine ⟨g + s, by omega, fun _ => ⟨?_, ?_⟩⟩
      · simp only [fX8_fieldWorth, h1, p_at 36 (by omega) ground hj, p_at 6 (by omega) seeds hk, Option.bind_some, hg2, hs2, nI_add]
      · simp only [fX11_worthOf, fX11_worthOf_b26, h2, Option.bind_some, nI_pos' (show k < 2 ^ 31 by omega), ↓reduceIte, hA, hB, hbl, p_cl (show k < 2 ^ 31 by omega), hhe j hj, hst k hk hgk, hg2, hs2, nI_add]
    · refine ⟨g, by omega, fun _ => ⟨?_, ?_⟩⟩
      · simp only [fX8_fieldWorth, h1, p_at 36 (by omega) ground hj, p_atN 6 seeds (x := -1) (Or.inl (by decide)), Option.bind_some, hg2, Int32.add_zero]
      · simp only [fX11_worthOf, fX11_worthOf_b26, h2, Option.bind_some, q_06, ↓reduceIte, hB, hbl, hhe j hj, hg2, Int32.add_zero]
  · exact ⟨0, by omega, fun h => absurd h hj⟩
def gSq (W : Nat → Nat) (c s : Nat) : Nat → Nat → Nat → Nat
  | 0, _, a => a
  | d + 1, i, a => gSq W c s d (i + 1) (a + W (c + 6 * (i / s) + i % s))
theorem gSq_s (W : Nat → Nat) (c s d i a : Nat) : gSq W c s (d + 1) i a = gSq W c s d (i + 1) (a + W (c + 6 * (i / s) + i % s)) := rfl
theorem gSq_add (W : Nat → Nat) (c s : Nat) : ∀ (d e i a : Nat), gSq W c s (d + e) i a = gSq W c s e (i + d) (gSq W c s d i a)
  | 0, e, i, a => by rw [Nat.zero_add]; rfl
  | d + 1, e, i, a => by
    rw [show d + 1 + e = (d + e) + 1 by omega, gSq_s, gSq_s, gSq_add W c s d e (i + 1), show i + 1 + d = i + (d + 1) by omega]
theorem gSq_le {W : Nat → Nat} (hW : ∀ j, W j ≤ 1059) (c s : Nat) : ∀ (d i a : Nat), gSq W c s d i a ≤ a + 1059 * d
  | 0, i, a => Nat.le_refl _
  | d + 1, i, a => by
    rw [gSq_s]
    have := gSq_le hW c s d (i + 1) (a + W (c + 6 * (i / s) + i % s))
    have := hW (c + 6 * (i / s) + i % s)
    omega
def gFitB (s i : Nat) : Bool := decide (i % 6 + s ≤ 6) && decide (i / 6 + s ≤ 6)
abbrev gFit (s i : Nat) : Prop := gFitB s i = true
theorem gFit_e {s i : Nat} (h : gFit s i) : i % 6 + s ≤ 6 ∧ i / 6 + s ≤ 6 := by
  unfold gFit gFitB at h
  simp only [Bool.and_eq_true, decide_eq_true_eq] at h
  exact h
theorem gFit_m {s i : Nat} (h1 : i % 6 + s ≤ 6) (h2 : i / 6 + s ≤ 6) : gFit s i := by
  unfold gFit gFitB
  simp only [Bool.and_eq_true, decide_eq_true_eq]
  exact ⟨h1, h2⟩
theorem p_sqM {t : Int32} {at' stem heap : Nat → Int32} {W : Nat → Nat} (hW : ∀ j, W j ≤ 1059) (hw : ∀ j, j < 36 → fX11_worthOf t at' stem heap (nI j) = some (nI (W j))) {c s : Nat} (hs : 1 ≤ s) (hs6 : s ≤ 6) (hf : gFit s c) : ∀ (d i n a : Nat), i + d = s * s → d < n → a ≤ 1059 * i → fX11_squareAt_b5 t at' stem heap n (nI c) (nI s) (nI a) (nI i) = some (nI (gSq W c s d i a))
  | _, _, 0, _, _, h, _ => by omega
  | 0, i, n + 1, a, h1, _, _ => by
    have hss : s * s ≤ 36 := Nat.mul_le_mul hs6 hs6
    have hle : nI (s * s) ≤ nI i := nI_le (by omega) (by omega)
    simp only [fX11_squareAt_b5, pk_mul, hle, ↓reduceIte, gSq]
  | d + 1, i, n + 1, a, h1, h2, h3 => by
    have hss : s * s ≤ 36 := Nat.mul_le_mul hs6 hs6
    have hi : i < s * s := by omega
    have hle : ¬ nI (s * s) ≤ nI i := nI_ge hi (by omega)
    have hq : i / s < s := Nat.div_lt_of_lt_mul hi
    have hr : i % s < s := Nat.mod_lt _ (by omega)
    obtain ⟨hf1, hf2⟩ := gFit_e hf
    have hix : c + 6 * (i / s) + i % s < 36 := by omega
    have hD := fun {α : Type} (K : Option α) => p_gD (α := α) (show 0 < s by omega) (show s < 2 ^ 31 by omega) K
    have e1 : nI i / nI s = nI (i / s) := pk_div (by omega) (by omega) (by omega)
    have e2 : nI i % nI s = nI (i % s) := p_mod (by omega) (by omega)
    have e3 : (6 : Int32) * nI (i / s) = nI (6 * (i / s)) := pk_mul 6 _
    have hb := hW (c + 6 * (i / s) + i % s)
    have ih := p_sqM hW hw hs hs6 hf d (i + 1) n (a + W (c + 6 * (i / s) + i % s)) (by omega) (by omega) (by omega)
    simp only [fX11_squareAt_b5, pk_mul, hle, ↓reduceIte, hD, e1, e2, e3, nI_add, hw _ hix, Option.bind_some, nI_1, ih, gSq_s]
theorem p_sqC1 {t : Int32} {home seeds ground : Nat → Int32} {W : Nat → Nat} (hw : ∀ j, j < 36 → fX8_fieldWorth t home seeds ground (nI j) = some (nI (W j))) {c s r : Nat} (hs : 1 ≤ s) (hs6 : s ≤ 6) (hf : gFit s c) (hr : r < s) (K : Int32 → Int32 → Int32 → Int32 → Option Int32) : ∀ (e q m a : Nat), q + e = s → e < m → fX8_squareWorth_b14 K t home seeds ground m (nI c) (nI s) (nI a) (nI r) (nI q) = K (nI c) (nI s) (nI (gSq W c s e (r * s + q) a)) (nI (r + 1))
  | _, _, 0, _, _, h => by omega
  | 0, q, m + 1, a, h1, _ => by
    have hle : nI s ≤ nI q := nI_le (by omega) (by omega)
    simp only [fX8_squareWorth_b14, hle, ↓reduceIte, nI_1, gSq]
  | e + 1, q, m + 1, a, h1, h2 => by
    have hq : q < s := by omega
    have hle : ¬ nI s ≤ nI q := nI_ge hq (by omega)
    obtain ⟨hf1, hf2⟩ := gFit_e hf
    have hix : c + 6 * r + q < 36 := by omega
    have d1 : (r * s + q) / s = r := by rw [Nat.add_comm, Nat.add_mul_div_right _ _ (by omega), Nat.div_eq_of_lt hq, Nat.zero_add]
    have d2 : (r * s + q) % s = q := by rw [Nat.add_comm, Nat.add_mul_mod_self_right, Nat.mod_eq_of_lt hq]
    have e3 : (6 : Int32) * nI r = nI (6 * r) := pk_mul 6 _
    have ih := p_sqC1 hw hs hs6 hf hr K e (q + 1) m (a + W (c + 6 * r + q)) (by omega) (by omega)
    rw [← Nat.add_assoc (r * s) q 1] at ih
    simp only [fX8_squareWorth_b14, hle, ↓reduceIte, e3, nI_add, hw _ hix, Option.bind_some, nI_1, ih, gSq_s, d1, d2]
theorem p_sqC {t : Int32} {home seeds ground : Nat → Int32} {W : Nat → Nat} (hw : ∀ j, j < 36 → fX8_fieldWorth t home seeds ground (nI j) = some (nI (W j))) {c s : Nat} (hs : 1 ≤ s) (hs6 : s ≤ 6) (hf : gFit s c) : ∀ (e r m a : Nat), r + e = s → e < m → fX8_squareWorth_b5 t home seeds ground m (nI c) (nI s) (nI a) (nI r) = some (nI (gSq W c s (e * s) (r * s) a))
  | _, _, 0, _, _, h => by omega
  | 0, r, m + 1, a, h1, _ => by
    have hle : nI s ≤ nI r := nI_le (by omega) (by omega)
    simp only [fX8_squareWorth_b5, hle, ↓reduceIte, Nat.zero_mul, gSq]
  | e + 1, r, m + 1, a, h1, h2 => by
    have hr : r < s := by omega
    have hle : ¬ nI s ≤ nI r := nI_ge hr (by omega)
    have h14 := p_sqC1 hw hs hs6 hf hr (fX8_squareWorth_b5 t home seeds ground m) s 0 1000 a (by omega) (by omega)
    have ih := p_sqC hw hs hs6 hf e (r + 1) m (gSq W c s s (r * s) a) (by omega) (by omega)
    have h14' : fX8_squareWorth_b14 (fX8_squareWorth_b5 t home seeds ground m) t home seeds ground 1000 (nI c) (nI s) (nI a) (nI r) 0 = fX8_squareWorth_b5 t home seeds ground m (nI c) (nI s) (nI (gSq W c s s (r * s) a)) (nI (r + 1)) := h14
    simp only [fX8_squareWorth_b5, hle, ↓reduceIte, h14', ih]
    rw [show (e + 1) * s = s + e * s by rw [Nat.add_mul, Nat.one_mul, Nat.add_comm], gSq_add, show (r + 1) * s = r * s + s by rw [Nat.add_mul, Nat.one_mul]]
def gBc (s : Nat) (S : Nat → Nat) : Nat → Nat → Nat → Nat
  | 0, _, b => b
  | d + 1, i, b => gBc s S d (i + 1) (if gFit s i ∧ S b < S i then i else b)
theorem gBc_s (s : Nat) (S : Nat → Nat) (d i b : Nat) : gBc s S (d + 1) i b = gBc s S d (i + 1) (if gFit s i ∧ S b < S i then i else b) := rfl
theorem gBc_add (s : Nat) (S : Nat → Nat) : ∀ (d e i b : Nat), gBc s S (d + e) i b = gBc s S e (i + d) (gBc s S d i b)
  | 0, e, i, b => by rw [Nat.zero_add]; rfl
  | d + 1, e, i, b => by
    rw [show d + 1 + e = (d + e) + 1 by omega, gBc_s, gBc_s, gBc_add s S d e (i + 1), show i + 1 + d = i + (d + 1) by omega]
theorem gBc_no (s : Nat) (S : Nat → Nat) : ∀ (d i b : Nat), (∀ k, i ≤ k → k < i + d → ¬ gFit s k) → gBc s S d i b = b
  | 0, i, b, _ => rfl
  | d + 1, i, b, h => by
    rw [gBc_s, if_neg (fun q => h i (Nat.le_refl _) (by omega) q.1)]
    exact gBc_no s S d (i + 1) b (fun k h1 h2 => h k (by omega) (by omega))
theorem gBc_fit (s : Nat) (S : Nat → Nat) : ∀ (d i b : Nat), gFit s b → gFit s (gBc s S d i b)
  | 0, i, b, h => h
  | d + 1, i, b, h => by
    rw [gBc_s]
    refine gBc_fit s S d (i + 1) _ ?_
    by_cases q : gFit s i ∧ S b < S i
    · rw [if_pos q]; exact q.1
    · rw [if_neg q]; exact h
theorem gBc_0 (s : Nat) (S : Nat → Nat) : gBc s S 36 0 0 = gBc s S 35 1 0 := by
  rw [gBc_s s S 35 0 0, ite_self]
theorem p_bcM {t : Int32} {at' stem heap : Nat → Int32} {s : Nat} (hs : 1 ≤ s) (hs6 : s ≤ 6) {S : Nat → Nat} (hS : ∀ c, gFit s c → fX11_squareAt t at' stem heap (nI c) (nI s) = some (nI (S c))) (hB : ∀ c, S c < 100000) (q : Int32) : ∀ (d i n b : Nat), i + d = 36 → d < n → b < 36 → fX11_bellows_b38 t at' stem heap n (nI s) q (nI b) (nI (S b)) (nI i) = some (if q = 0 then nI (S (gBc s S d i b)) else nI (gBc s S d i b))
  | _, _, 0, _, _, h, _ => by omega
  | 0, i, n + 1, b, h1, _, _ => by
    have e : i = 36 := by omega
    subst e
    by_cases hq : q = 0
    · simp only [fX11_bellows_b38, fX11_bellows_b141, p36y, ↓reduceIte, hq, gBc]
    · simp only [fX11_bellows_b38, fX11_bellows_b141, p36y, ↓reduceIte, hq, gBc]
  | d + 1, i, n + 1, b, h1, h2, h3 => by
    have hi : i < 36 := by omega
    have e1 : nI i % 6 = nI (i % 6) := p_mod (b := 6) (by omega) (by omega)
    have e2 : nI i / 6 = nI (i / 6) := pk_div (d := 6) (by omega) (by omega) (by omega)
    have g1 : ((6 : Int32) < nI (i % 6) + nI s) ↔ 6 < i % 6 + s := by
      rw [nI_add]
      exact nI_ltI (a := 6) (by omega) (by omega)
    have g2 : ((6 : Int32) < nI (i / 6) + nI s) ↔ 6 < i / 6 + s := by
      rw [nI_add]
      exact nI_ltI (a := 6) (by omega) (by omega)
    have ih := fun b' hb' => p_bcM hs hs6 hS hB q d (i + 1) n b' (by omega) (by omega) hb'
    have hbS := hB b
    have hiS := hB i
    have hm6 : (-6 : Int32) ≤ nI (S b) := by
      rw [Int32.le_iff_toInt_le, nI_toInt (by omega)]
      have : (-6 : Int32).toInt = -6 := by decide
      omega
    by_cases hf : gFit s i
    · have n1 : ¬ (6 : Int32) < nI (i % 6) + nI s := fun h => by have := g1.mp h; have := (gFit_e hf).1; omega
      have n2 : ¬ (6 : Int32) < nI (i / 6) + nI s := fun h => by have := g2.mp h; have := (gFit_e hf).2; omega
      by_cases hlt : S b < S i
      · have n3 : ¬ nI (S i) ≤ nI (S b) := nI_ge hlt (by omega)
        have hc : (if gFit s i ∧ S b < S i then i else b) = i := if_pos ⟨hf, hlt⟩
        simp only [fX11_bellows_b38, fX11_bellows_b74, fX11_bellows_b93, fX11_bellows_b108, fX11_bellows_b123, p36n hi, ↓reduceIte, e1, e2, n1, n2, q_ne, hS i hf, Option.bind_some, n3, nI_1, gBc_s, hc, ih i hi]
      · have n3 : nI (S i) ≤ nI (S b) := nI_le (by omega) (by omega)
        simp only [fX11_bellows_b38, fX11_bellows_b74, fX11_bellows_b93, fX11_bellows_b108, fX11_bellows_b123, p36n hi, ↓reduceIte, e1, e2, n1, n2, q_ne, hS i hf, Option.bind_some, n3, nI_1, gBc_s, hlt, and_false, ih b h3]
    · have hr : fX11_bellows_b73 (fX11_bellows_b38 t at' stem heap n) t at' stem heap (nI s) q (nI b) (nI (S b)) (nI i) = some (if q = 0 then nI (S (gBc s S (d + 1) i b)) else nI (gBc s S (d + 1) i b)) := by
        simp only [fX11_bellows_b73, fX11_bellows_b74, fX11_bellows_b93, fX11_bellows_b108, fX11_bellows_b123, ↓reduceIte, hm6, nI_1, gBc_s, hf, false_and, ih b h3]
      by_cases n1 : (6 : Int32) < nI (i % 6) + nI s
      · simp only [fX11_bellows_b38, p36n hi, ↓reduceIte, e1, n1, hr]
      · have n2 : (6 : Int32) < nI (i / 6) + nI s := by
          refine g2.mpr (Nat.lt_of_not_le (fun h => hf (gFit_m (Nat.le_of_not_lt (fun h' => n1 (g1.mpr h'))) h)))
        simp only [fX11_bellows_b38, p36n hi, ↓reduceIte, e1, e2, n1, n2, hr]
theorem p_bcC1 {t : Int32} {home seeds ground : Nat → Int32} {s r : Nat} (hs : 1 ≤ s) (hs6 : s ≤ 6) (hr : r + s ≤ 6) {S : Nat → Nat} (hS : ∀ c, gFit s c → fX8_squareWorth t home seeds ground (nI c) (nI s) = some (nI (S c))) (hB : ∀ c, S c < 100000) (K : Int32 → Int32 → Int32 → Option Int32) : ∀ (e c m b : Nat), c + e = 7 - s → e < m → gFit s b → fX8_richestCorner_b15 K t home seeds ground m (nI s) (nI b) (nI r) (nI c) = K (nI s) (nI (gBc s S (6 - c) (6 * r + c) b)) (nI (r + 1))
  | _, _, 0, _, _, h, _ => by omega
  | 0, c, m + 1, b, h1, _, _ => by
    have e1 : (6 : Int32) - nI s = nI (6 - s) := pk_sub (a := 6) hs6
    have hlt : nI (6 - s) < nI c := nI_lt (by omega) (by omega)
    rw [gBc_no s S (6 - c) (6 * r + c) b (fun k h2 h3 hf => by have := (gFit_e hf).1; omega)]
    simp only [fX8_richestCorner_b15, e1, hlt, ↓reduceIte, nI_1]
  | e + 1, c, m + 1, b, h1, h2, h3 => by
    have e1 : (6 : Int32) - nI s = nI (6 - s) := pk_sub (a := 6) hs6
    have hlt : ¬ nI (6 - s) < nI c := nI_nlt (by omega) (by omega)
    have hf : gFit s (6 * r + c) := gFit_m (by omega) (by omega)
    have e2 : (6 : Int32) * nI r = nI (6 * r) := pk_mul 6 r
    have hbS := hB b
    have hiS := hB (6 * r + c)
    rw [show 6 - c = (6 - (c + 1)) + 1 by omega, gBc_s]
    have ih := fun b' hb' => p_bcC1 hs hs6 hr hS hB K e (c + 1) m b' (by omega) (by omega) hb'
    by_cases hl : S b < S (6 * r + c)
    · have n3 : ¬ nI (S (6 * r + c)) ≤ nI (S b) := nI_ge hl (by omega)
      have hc : (if gFit s (6 * r + c) ∧ S b < S (6 * r + c) then 6 * r + c else b) = 6 * r + c := if_pos ⟨hf, hl⟩
      simp only [fX8_richestCorner_b15, fX8_richestCorner_b52, e1, e2, hlt, ↓reduceIte, nI_add, hS _ hf, hS b h3, Option.bind_some, n3, nI_1, ih _ hf, hc, Nat.add_assoc]
    · have n3 : nI (S (6 * r + c)) ≤ nI (S b) := nI_le (by omega) (by omega)
      simp only [fX8_richestCorner_b15, fX8_richestCorner_b52, e1, e2, hlt, ↓reduceIte, nI_add, hS _ hf, hS b h3, Option.bind_some, n3, nI_1, ih _ h3, hl, and_false, Nat.add_assoc]
theorem p_bcC {t : Int32} {home seeds ground : Nat → Int32} {s : Nat} (hs : 1 ≤ s) (hs6 : s ≤ 6) {S : Nat → Nat} (hS : ∀ c, gFit s c → fX8_squareWorth t home seeds ground (nI c) (nI s) = some (nI (S c))) (hB : ∀ c, S c < 100000) : ∀ (e r m b : Nat), r + e = 7 - s → e < m → gFit s b → fX8_richestCorner_b4 t home seeds ground m (nI s) (nI b) (nI r) = some (nI (gBc s S (36 - 6 * r) (6 * r) b))
  | _, _, 0, _, _, h, _ => by omega
  | 0, r, m + 1, b, h1, _, _ => by
    have e1 : (6 : Int32) - nI s = nI (6 - s) := pk_sub (a := 6) hs6
    have hlt : nI (6 - s) < nI r := nI_lt (by omega) (by omega)
    rw [gBc_no s S (36 - 6 * r) (6 * r) b (fun k h2 h3 hf => by have := (gFit_e hf).2; omega)]
    simp only [fX8_richestCorner_b4, e1, hlt, ↓reduceIte]
  | e + 1, r, m + 1, b, h1, h2, h3 => by
    have e1 : (6 : Int32) - nI s = nI (6 - s) := pk_sub (a := 6) hs6
    have hlt : ¬ nI (6 - s) < nI r := nI_nlt (by omega) (by omega)
    have h15 := p_bcC1 hs hs6 (show r + s ≤ 6 by omega) hS hB (fX8_richestCorner_b4 t home seeds ground m) (7 - s) 0 1000 b (by omega) (by omega) h3
    have h15' : fX8_richestCorner_b15 (fX8_richestCorner_b4 t home seeds ground m) t home seeds ground 1000 (nI s) (nI b) (nI r) 0 = _ := h15
    have ih := p_bcC hs hs6 hS hB e (r + 1) m (gBc s S 6 (6 * r) b) (by omega) (by omega) (gBc_fit s S 6 (6 * r) b h3)
    simp only [fX8_richestCorner_b4, e1, hlt, ↓reduceIte, h15', Nat.sub_zero, Nat.add_zero, ih]
    rw [show 36 - 6 * r = 6 + (36 - 6 * (r + 1)) by omega, gBc_add, show 6 * r + 6 = 6 * (r + 1) by omega]
theorem co_bellows {t w fo ra ho : Int32} {home seeds lungs blown ground at' stem lungs' blown' heap : Nat → Int32} (hI : MInv t w fo ra ho home seeds lungs blown ground) (hR : MRel t home seeds lungs blown ground at' stem lungs' blown' heap) (x1 x2 : Int32) : ∃ r, fX10_bellows t home seeds ground x1 x2 = some r ∧ fX11_bellows t at' stem heap x1 x2 = some r := by
  rcases p_both x1 1 6 (l := 1) (h := 6) (a := 1) (b := 6) rfl rfl (by decide) (by decide) (by omega) (by omega) with ⟨w1, w2, -⟩ | ⟨s, hs, hs6, rfl, w1, w2⟩
  · exact ⟨_, by (simp only [fX10_bellows, fX10_bellows_b19, w1, Option.bind_some, ↓reduceIte] <;> rfl), by (simp only [fX11_bellows, fX11_bellows_b22, w2, Option.bind_some, ↓reduceIte] <;> rfl)⟩
  rcases p_both x2 0 1 (l := 0) (h := 1) (a := 0) (b := 1) rfl rfl (by decide) (by decide) (by omega) (by omega) with ⟨w3, w4, -⟩ | ⟨q, -, hq, rfl, w3, w4⟩
  · exact ⟨_, by (simp only [fX10_bellows, fX10_bellows_b19, w1, w3, Option.bind_some, ↓reduceIte, q_ne] <;> rfl), by (simp only [fX11_bellows, fX11_bellows_b22, w2, w4, Option.bind_some, ↓reduceIte, q_ne] <;> rfl)⟩
  have hWe : ∃ W : Nat → Nat, ∀ j, W j ≤ 1059 ∧ (j < 36 → fX8_fieldWorth t home seeds ground (nI j) = some (nI (W j)) ∧ fX11_worthOf t at' stem heap (nI j) = some (nI (W j))) :=
    ⟨fun j => Classical.choose (p_worth hI hR j), fun j => Classical.choose_spec (p_worth hI hR j)⟩
  obtain ⟨W, hW⟩ := hWe
  have hss : s * s ≤ 36 := Nat.mul_le_mul hs6 hs6
  have hSC : ∀ c, gFit s c → fX8_squareWorth t home seeds ground (nI c) (nI s) = some (nI (gSq W c s (s * s) 0 0)) := by
    intro c hf
    have h := p_sqC (fun j hj => ((hW j).2 hj).1) hs hs6 hf s 0 1000 0 (by omega) (by omega)
    rw [Nat.zero_mul] at h
    exact h
  have hSM : ∀ c, gFit s c → fX11_squareAt t at' stem heap (nI c) (nI s) = some (nI (gSq W c s (s * s) 0 0)) := by
    intro c hf
    exact p_sqM (fun j => (hW j).1) (fun j hj => ((hW j).2 hj).2) hs hs6 hf (s * s) 0 1000 0 (by omega) (by omega) (by omega)
  have hB : ∀ c, gSq W c s (s * s) 0 0 < 100000 := by
    intro c
    have := gSq_le (fun j => (hW j).1) c s (s * s) 0 0
    omega
  have h00 : gFit s 0 := gFit_m (by omega) (by omega)
  have hM := p_bcM hs hs6 hSM hB (nI q) 35 1 1000 0 (by omega) (by omega) (by omega)
  have hC : fX8_richestCorner t home seeds ground (nI s) = some (nI (gBc s (fun c => gSq W c s (s * s) 0 0) 36 0 0)) := by
    have h := p_bcC hs hs6 hSC hB (7 - s) 0 1000 0 (by omega) (by omega) h00
    exact h
  rw [gBc_0] at hC
  have hfit := gBc_fit s (fun c => gSq W c s (s * s) 0 0) 35 1 0 h00
  generalize hbest : gBc s (fun c => gSq W c s (s * s) 0 0) 35 1 0 = best at hM hC hfit
  refine ⟨if nI q = 0 then nI (gSq W best s (s * s) 0 0) else nI best, ?_, ?_⟩
  · unfold fX10_bellows
    rw [w1, Option.bind_some, if_neg (by decide), w3, Option.bind_some, if_neg (by decide), hC, Option.bind_some]
    by_cases h : nI q = 0
    · simp only [h, ↓reduceIte, hSC best hfit, Option.bind_some, fX10_bellows_b54]
    · simp only [h, ↓reduceIte, fX10_bellows_b54]
  · have h0 := hSM 0 h00
    unfold fX11_bellows
    rw [w2, Option.bind_some, if_neg (by decide), w4, Option.bind_some, if_neg (by decide), show fX11_squareAt t at' stem heap 0 (nI s) = _ from h0, Option.bind_some]
    exact hM
theorem st_bellows : gStep_bellows gRel := by
  intro v_x_imagesKept v_x_firstImage_meadow_families v_x_firstImage_meadow_wind v_x_firstImage_meadow_force v_x_firstImage_meadow_rain v_x_firstImage_meadow_lost v_x_firstImage_meadow_hour v_x_firstImage_sights_count v_x_now_meadow_families v_x_now_meadow_wind v_x_now_meadow_force v_x_now_meadow_rain v_x_now_meadow_lost v_x_now_meadow_hour v_x_now_sights_count v_x_pad_signs v_x_pad_acts v_x_pad_reading v_x_pad_begun v_x_pad_brokenAt v_x_secondImage_meadow_families v_x_secondImage_meadow_wind v_x_secondImage_meadow_force v_x_secondImage_meadow_rain v_x_secondImage_meadow_lost v_x_secondImage_meadow_hour v_x_secondImage_sights_count f_x_firstImage_meadow_home f_x_firstImage_meadow_seeds f_x_firstImage_meadow_lungs f_x_firstImage_meadow_blown f_x_firstImage_meadow_ground f_x_firstImage_sights_breaths f_x_firstImage_sights_flews f_x_now_meadow_home f_x_now_meadow_seeds f_x_now_meadow_lungs f_x_now_meadow_blown f_x_now_meadow_ground f_x_now_sights_breaths f_x_now_sights_flews f_x_pad_kinds f_x_pad_firsts f_x_pad_seconds f_x_secondImage_meadow_home f_x_secondImage_meadow_seeds f_x_secondImage_meadow_lungs f_x_secondImage_meadow_blown f_x_secondImage_meadow_ground f_x_secondImage_sights_breaths f_x_secondImage_sights_flews v_m_there v_m_wind v_m_force v_m_rains v_m_lost v_m_hours v_m_sights v_m_padMany f_m_at f_m_stem f_m_lungs f_m_blown f_m_heap f_m_sightBreath f_m_sightFlew f_m_pad f_m_kept f_m_isKept a0 a1 hRel
  obtain ⟨hN, hS, hP, hI⟩ := hRel
  have hN0 := hN
  obtain ⟨⟨e1, e2, e3, e4, e5, e6⟩, hMI, hMR⟩ := hN
  subst e1
  obtain ⟨r, q1, q2⟩ := co_bellows hMI hMR a0 a1
  exact ⟨_, q1, q2, hN0, hS, hP, hI⟩

