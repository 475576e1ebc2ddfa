/-! the step: principal -/
theorem p_tgt {w n r i i' : Nat} (hw : w < 4) (hn : n < 6) (hi : i < 36) (hi' : i' < 36) (hr : r < 36) (h : fX10_downwind (nI i) (nI w) (nI n) = some (nI r)) (h' : fX10_downwind (nI i') (nI w) (nI n) = some (nI r)) : i = i' := by
  have key : ∀ j, j < 36 → fX10_downwind (nI j) (nI w) (nI n) = some (nI r) → (r : Int) = (j : Int) + (if w = 0 then 6 * (n : Int) else if w = 1 then (n : Int) else if w = 2 then -(6 * (n : Int)) else -(n : Int)) := by
    intro j hj hd
    rcases p_wind hj hw hn with ⟨h1, -⟩ | ⟨q, hq, h1, -, h3⟩
    · rw [h1] at hd
      injection hd with hd
      exact absurd hd.symm (p_m1 (by omega))
    · rw [h1] at hd
      injection hd with hd
      have : q = r := (nI_eq (by omega) (by omega)).mp hd
      subst this
      exact h3
  have a := key i hi h
  have b := key i' hi' h'
  omega
theorem p_yr {w n : Nat} (hw : w < 4) (hn : n < 6) {lying grown : Nat → Int32} (hl : ∀ j, j < 36 → gI 999 (lying j)) (hg : ∀ j, j < 36 → grown j = lying j) : ∀ (d i m m' : Nat) (landed then' : Nat → Int32), i + d = 36 → d < m → d < m' → (∀ j, j < 36 → then' j = landed j) → (∀ j, j < 36 → gI 999 (landed j)) → (∀ i', i ≤ i' → i' < 36 → ∀ r, r < 36 → fX10_downwind (nI i') (nI w) (nI n) = some (nI r) → landed r = 0) → ∃ landed1 then1, fX3_runYear_b9 m lying landed (nI w) (nI n) (nI i) = some (landed1, landed1) ∧ fX11_passYear_b23 (nI w) (nI n) m' grown then' (nI i) = fX11_passYear_b93 1000 grown then1 0 ∧ (∀ j, j < 36 → then1 j = landed1 j) ∧ (∀ j, j < 36 → gI 999 (landed1 j))
  | _, _, 0, _, _, _, _, h, _, _, _, _ => by omega
  | _, _, _, 0, _, _, _, _, h, _, _, _ => by omega
  | 0, i, m + 1, m' + 1, landed, then', h1, _, _, h4, h5, _ => by
    have e : i = 36 := by omega
    subst e
    exact ⟨landed, then', by simp only [fX3_runYear_b9, p36y, ↓reduceIte], by simp only [fX11_passYear_b23, p36y, ↓reduceIte], h4, h5⟩
  | d + 1, i, m + 1, m' + 1, landed, then', h1, h2, h3, h4, h5, h6 => by
    have hi : i < 36 := by omega
    have hA := fun {α : Type} (K : Option α) => p_gA hi (show 36 < 2 ^ 31 by omega) K
    have hcl := p_cl (show i < 2 ^ 31 by omega)
    obtain ⟨a, ha1, ha2⟩ := hl i hi
    have hga : grown i = nI a := by rw [hg i hi, ha2]
    have h2a : (2 : Int32) * nI a = nI (2 * a) := pk_mul 2 a
    have hcap : (if nI (2 * a) < 999 then nI (2 * a) else 999) = nI (min (2 * a) 999) := by
      by_cases h : 2 * a < 999
      · have h9 : nI (2 * a) < 999 := nI_lt (b := 999) h (by omega)
        rw [if_pos h9, Nat.min_eq_left (by omega)]
      · have h9 : ¬ nI (2 * a) < 999 := nI_nlt (b := 999) (by omega) (by omega)
        rw [if_neg h9, Nat.min_eq_right (by omega)]
        rfl
    have hstep : ∀ s0, s0 = nI (min (2 * a) 999) → ∃ landed1 then1, fX3_runYear_b9 (m + 1) lying landed (nI w) (nI n) (nI i) = some (landed1, landed1) ∧ fX11_passYear_b57 (fX11_passYear_b23 (nI w) (nI n) m') (nI w) (nI n) grown then' (nI i) s0 = fX11_passYear_b93 1000 grown then1 0 ∧ (∀ j, j < 36 → then1 j = landed1 j) ∧ (∀ j, j < 36 → gI 999 (landed1 j)) := by
      intro s0 hs0
      subst hs0
      rcases p_wind hi hw hn with ⟨d1, d2⟩ | ⟨r, hr, d1, d2, -⟩
      · obtain ⟨landed1, then1, e1, e2, e3, e4⟩ := p_yr hw hn hl hg d (i + 1) m m' landed then' (by omega) (by omega) (by omega) h4 h5 (fun i' q1 q2 => h6 i' (by omega) q2)
        have hnf : ¬ ((0 : Int32) ≤ -1 ∧ (-1 : Int32) < 36) := by decide
        exact ⟨landed1, then1, by simp only [fX3_runYear_b9, fX3_runYear_b70, p36n hi, ↓reduceIte, hA, d1, Option.bind_some, p_isField, hnf, nI_1, e1], by simp only [fX11_passYear_b57, fX11_passYear_b85, d2, Option.bind_some, q_ltT, ↓reduceIte, nI_1, e2], e3, e4⟩
      · have hB := fun {α : Type} (K : Option α) => p_gA hr (show 36 < 2 ^ 31 by omega) K
        have hbl := p_cl (show r < 2 ^ 31 by omega)
        have z : landed r = 0 := h6 i (Nat.le_refl _) hi r hr d1
        have zt : then' r = 0 := (h4 r hr).trans z
        have zs : (0 : Int32) + nI (min (2 * a) 999) = nI (min (2 * a) 999) := Int32.zero_add _
        have zc : (if nI (min (2 * a) 999) < 999 then nI (min (2 * a) 999) else 999) = nI (min (2 * a) 999) := by
          by_cases h : min (2 * a) 999 < 999
          · have h9 : nI (min (2 * a) 999) < 999 := nI_lt (b := 999) h (by omega)
            rw [if_pos h9]
          · have h9 : ¬ nI (min (2 * a) 999) < 999 := nI_nlt (b := 999) (by omega) (by omega)
            rw [if_neg h9, show min (2 * a) 999 = 999 by omega]
            rfl
        obtain ⟨landed1, then1, e1, e2, e3, e4⟩ := p_yr hw hn hl hg d (i + 1) m m' (upd landed r (nI (min (2 * a) 999))) (upd then' r (nI (min (2 * a) 999))) (by omega) (by omega) (by omega) (p_upd h4 rfl) (p_updI h5 ⟨_, by omega, rfl⟩) (fun i' q1 q2 r' hr' hd' => by
          have hne : r' ≠ r := by
            rintro rfl
            have := p_tgt hw hn hi q2 hr d1 hd'
            omega
          rw [p_upN hne]
          exact h6 i' (by omega) q2 r' hr' hd')
        have hf : (0 : Int32) ≤ nI r ∧ nI r < 36 := ⟨nI_pos' (by omega), p36l hr⟩
        refine ⟨landed1, then1, ?_, ?_, e3, e4⟩
        · simp only [fX3_runYear_b9, fX3_runYear_b70, p36n hi, ↓reduceIte, hA, hB, d1, Option.bind_some, p_isField, hf, and_self, q_ne, hcl, hbl, ha2, h2a, hcap, z, zs, zc, nI_1, e1]
        · simp only [fX11_passYear_b57, fX11_passYear_b85, d2, Option.bind_some, nI_pos (show r < 2 ^ 31 by omega), ↓reduceIte, hB, hbl, zt, zs, nI_1, e2]
    obtain ⟨landed1, then1, e1, e2, e3, e4⟩ := hstep _ rfl
    refine ⟨landed1, then1, e1, ?_, e3, e4⟩
    by_cases h : 2 * a ≤ 999
    · have hle : nI (2 * a) ≤ 999 := nI_le (b := 999) h (by omega)
      rw [Nat.min_eq_left h] at e2
      simp only [fX11_passYear_b23, p36n hi, ↓reduceIte, hA, hcl, hga, h2a, hle]
      exact e2
    · have hle : ¬ nI (2 * a) ≤ 999 := nI_ge (a := 999) (by omega) (by omega)
      rw [Nat.min_eq_right (by omega)] at e2
      simp only [fX11_passYear_b23, p36n hi, ↓reduceIte, hA, hcl, hga, h2a, hle]
      exact e2
theorem p_zero (w n : Int32) (grown : Nat → Int32) : ∀ (d i m : Nat) (then' : Nat → Int32), i + d = 36 → d < m → (∀ j, j < i → then' j = 0) → ∃ then1, fX11_passYear_b2 w n m grown then' (nI i) = fX11_passYear_b23 w n 1000 grown then1 0 ∧ (∀ j, j < 36 → then1 j = 0)
  | _, _, 0, _, _, h, _ => by omega
  | 0, i, m + 1, then', h1, _, h3 => by
    have e : i = 36 := by omega
    subst e
    exact ⟨then', by simp only [fX11_passYear_b2, p36y, ↓reduceIte], h3⟩
  | d + 1, i, m + 1, then', h1, h2, h3 => by
    have hi : i < 36 := by omega
    obtain ⟨then1, e1, e2⟩ := p_zero w n grown d (i + 1) m (upd then' i 0) (by omega) (by omega) (fun j hj => by
      by_cases e : j = i
      · subst e; exact p_upS
      · rw [p_upN e]; exact h3 j (by omega))
    exact ⟨then1, by simp only [fX11_passYear_b2, p36n hi, ↓reduceIte, p_gA hi (show 36 < 2 ^ 31 by omega), p_cl (show i < 2 ^ 31 by omega), nI_1, e1], e2⟩
theorem p_copyT {then' : Nat → Int32} : ∀ (d i m : Nat) (grown : Nat → Int32), i + d = 36 → d < m → (∀ j, j < i → grown j = then' j) → ∃ grown1, fX11_passYear_b93 m grown then' (nI i) = some (grown1, then') ∧ (∀ j, j < 36 → grown1 j = then' j)
  | _, _, 0, _, _, h, _ => by omega
  | 0, i, m + 1, grown, h1, _, h3 => by
    have e : i = 36 := by omega
    subst e
    exact ⟨grown, by simp only [fX11_passYear_b93, p36y, ↓reduceIte], h3⟩
  | d + 1, i, m + 1, grown, h1, h2, h3 => by
    have hi : i < 36 := by omega
    obtain ⟨grown1, e1, e2⟩ := p_copyT (then' := then') d (i + 1) m (upd grown i (then' i)) (by omega) (by omega) (fun j hj => by
      by_cases e : j = i
      · subst e; exact p_upS
      · rw [p_upN e]; exact h3 j (by omega))
    exact ⟨grown1, by simp only [fX11_passYear_b93, p36n hi, ↓reduceIte, p_gA hi (show 36 < 2 ^ 31 by omega), p_cl (show i < 2 ^ 31 by omega), nI_1, e1], e2⟩
theorem p_year1 {w n : Nat} (hw : w < 4) (hn : n < 6) {lying grown : Nat → Int32} (hl : ∀ j, j < 36 → gI 999 (lying j)) (hg : ∀ j, j < 36 → grown j = lying j) (landed then' : Nat → Int32) : ∃ lying1 landed1 grown1 then1, fX3_runYear lying landed (nI w) (nI n) = some (lying1, landed1) ∧ fX11_passYear (nI w) (nI n) grown then' = some (grown1, then1) ∧ (∀ j, j < 36 → gI 999 (lying1 j)) ∧ (∀ j, j < 36 → grown1 j = lying1 j) := by
  obtain ⟨l0, a1, a2⟩ := p_clearRow (N := 36) (by omega) landed
  obtain ⟨t0, b1, b2⟩ := p_zero (nI w) (nI n) grown 36 0 1000 then' (by omega) (by omega) (fun j hj => by omega)
  obtain ⟨landed1, then1, c1, c2, c3, c4⟩ := p_yr hw hn hl hg 36 0 1000 1000 l0 t0 (by omega) (by omega) (by omega) (fun j hj => by rw [a2 j hj, b2 j hj]) (fun j hj => ⟨0, by omega, a2 j hj⟩) (fun i' _ _ r hr _ => a2 r hr)
  obtain ⟨grown1, d1, d2⟩ := p_copyT (then' := then1) 36 0 1000 grown (by omega) (by omega) (fun j hj => by omega)
  refine ⟨landed1, landed1, grown1, then1, ?_, ?_, c4, fun j hj => (d2 j hj).trans (c3 j hj)⟩
  · unfold fX3_runYear
    rw [a1, Option.bind_some]
    exact c1
  · unfold fX11_passYear
    exact (b1.trans c2).trans d1
def gSm (f : Nat → Int32) : Nat → Nat → Int32 → Int32
  | 0, _, s => s
  | d + 1, i, s => gSm f d (i + 1) (s + f i)
def gBs (f : Nat → Int32) : Nat → Nat → Nat → Nat
  | 0, _, b => b
  | d + 1, i, b => gBs f d (i + 1) (if f i ≤ f b then b else i)
theorem gBs_s (f : Nat → Int32) (d i b : Nat) : gBs f (d + 1) i b = gBs f d (i + 1) (if f i ≤ f b then b else i) := rfl
theorem gBs_0 (f : Nat → Int32) : gBs f 36 0 0 = gBs f 35 1 0 := by
  rw [gBs_s f 35 0 0, ite_self]
theorem p_sm (f : Nat → Int32) : ∀ (d i n : Nat) (s : Int32), i + d = 36 → d < n → fX10_sumOfRow_b4 36 f n s (nI i) = some (gSm f d i s)
  | _, _, 0, _, _, h => by omega
  | 0, i, n + 1, s, h1, _ => by
    have e : i = 36 := by omega
    subst e
    simp only [fX10_sumOfRow_b4, show Int32.ofNat 36 ≤ nI 36 from nI_le (Nat.le_refl _) (by omega), ↓reduceIte, gSm]
  | d + 1, i, n + 1, s, h1, h2 => by
    have hi : i < 36 := by omega
    simp only [fX10_sumOfRow_b4, show ¬ Int32.ofNat 36 ≤ nI i from nI_ge hi (by omega), ↓reduceIte, p_gA hi (show 36 < 2 ^ 31 by omega), p_cl (show i < 2 ^ 31 by omega), nI_1, gSm, p_sm f d (i + 1) n (s + f i) (by omega) (by omega)]
theorem p_bs (f : Nat → Int32) : ∀ (d i n b : Nat), i + d = 36 → d < n → b < 36 → fX3_fullestField_b4 f n (nI b) (nI i) = some (nI (gBs f d i b))
  | _, _, 0, _, _, h, _ => by omega
  | 0, i, n + 1, b, h1, _, _ => by
    have e : i = 36 := by omega
    subst e
    simp only [fX3_fullestField_b4, p36y, ↓reduceIte, gBs]
  | d + 1, i, n + 1, b, h1, h2, h3 => by
    have hi : i < 36 := by omega
    have hB := fun {α : Type} (K : Option α) => p_gA h3 (show 36 < 2 ^ 31 by omega) K
    by_cases h : f i ≤ f b
    · simp only [fX3_fullestField_b4, fX3_fullestField_b27, p36n hi, ↓reduceIte, p_gA hi (show 36 < 2 ^ 31 by omega), hB, p_cl (show i < 2 ^ 31 by omega), p_cl (show b < 2 ^ 31 by omega), h, nI_1, gBs, p_bs f d (i + 1) n b (by omega) (by omega) h3]
    · simp only [fX3_fullestField_b4, fX3_fullestField_b27, p36n hi, ↓reduceIte, p_gA hi (show 36 < 2 ^ 31 by omega), hB, p_cl (show i < 2 ^ 31 by omega), p_cl (show b < 2 ^ 31 by omega), h, nI_1, gBs, p_bs f d (i + 1) n i (by omega) (by omega) hi]
theorem p_mb {f grown : Nat → Int32} (hg : ∀ j, j < 36 → grown j = f j) (then' : Nat → Int32) (q : Int32) : ∀ (d i n b : Nat) (s : Int32), i + d = 36 → d < n → b < 36 → fX11_principal_b76 n grown then' q s (nI b) (nI i) = some (if q = 0 then gSm f d i s else nI (gBs f d i b), grown, then')
  | _, _, 0, _, _, _, h, _ => by omega
  | 0, i, n + 1, b, s, h1, _, _ => by
    have e : i = 36 := by omega
    subst e
    by_cases hq : q = 0
    · simp only [fX11_principal_b76, fX11_principal_b135, p36y, ↓reduceIte, gSm, hq]
    · simp only [fX11_principal_b76, fX11_principal_b135, p36y, ↓reduceIte, gBs, hq]
  | d + 1, i, n + 1, b, s, h1, h2, h3 => by
    have hi : i < 36 := by omega
    have hB := fun {α : Type} (K : Option α) => p_gA h3 (show 36 < 2 ^ 31 by omega) K
    by_cases h : f i ≤ f b
    · simp only [fX11_principal_b76, fX11_principal_b117, p36n hi, ↓reduceIte, p_gA hi (show 36 < 2 ^ 31 by omega), hB, p_cl (show i < 2 ^ 31 by omega), p_cl (show b < 2 ^ 31 by omega), hg i hi, hg b h3, h, nI_1, gBs, gSm, p_mb hg then' q d (i + 1) n b (s + f i) (by omega) (by omega) h3]
    · simp only [fX11_principal_b76, fX11_principal_b117, p36n hi, ↓reduceIte, p_gA hi (show 36 < 2 ^ 31 by omega), hB, p_cl (show i < 2 ^ 31 by omega), p_cl (show b < 2 ^ 31 by omega), hg i hi, hg b h3, h, nI_1, gBs, gSm, p_mb hg then' q d (i + 1) n i (s + f i) (by omega) (by omega) hi]
theorem p_years {w n : Nat} (hw : w < 4) (hn : n < 6) {Y : Nat} (hY : Y ≤ 12) (q : Int32) : ∀ (d i m m' : Nat) (lying landed grown then' : Nat → Int32), i + d = Y → d < m → d < m' → (∀ j, j < 36 → gI 999 (lying j)) → (∀ j, j < 36 → grown j = lying j) → ∃ lying1 landed1 grown1 then1, fX3_run_b17 (nI w) (nI n) m lying landed (nI Y) (nI i) = some (lying1, landed1) ∧ fX11_principal_b53 (nI w) (nI n) m' grown then' (nI Y) q (nI i) = fX11_principal_b76 1000 grown1 then1 q 0 0 0 ∧ (∀ j, j < 36 → grown1 j = lying1 j)
  | _, _, 0, _, _, _, _, _, _, h, _, _, _ => by omega
  | _, _, _, 0, _, _, _, _, _, _, h, _, _ => by omega
  | 0, i, m + 1, m' + 1, lying, landed, grown, then', h1, _, _, _, h5 => by
    have e : i = Y := by omega
    subst e
    exact ⟨lying, landed, grown, then', by simp only [fX3_run_b17, Int32.le_refl, ↓reduceIte], by simp only [fX11_principal_b53, Int32.le_refl, ↓reduceIte], h5⟩
  | d + 1, i, m + 1, m' + 1, lying, landed, grown, then', h1, h2, h3, h4, h5 => by
    obtain ⟨lying1, landed1, grown1, then1, a1, a2, a3, a4⟩ := p_year1 hw hn h4 h5 landed then'
    obtain ⟨lying2, landed2, grown2, then2, b1, b2, b3⟩ := p_years hw hn hY q d (i + 1) m m' lying1 landed1 grown1 then1 (by omega) (by omega) (by omega) a3 a4
    have hlt : ¬ nI Y ≤ nI i := nI_ge (by omega) (by omega)
    exact ⟨lying2, landed2, grown2, then2, by simp only [fX3_run_b17, hlt, ↓reduceIte, a1, Option.bind_some, nI_1, b1], by simp only [fX11_principal_b53, hlt, ↓reduceIte, a2, Option.bind_some, nI_1, b2], b3⟩
theorem p_cpH (w n : Int32) {heap : Nat → Int32} (x1 x2 : Int32) (then' : Nat → Int32) : ∀ (d i m : Nat) (grown : Nat → Int32), i + d = 36 → d < m → (∀ j, j < i → grown j = heap j) → ∃ grown1, fX11_principal_b27 w n heap m grown then' x1 x2 (nI i) = fX11_principal_b53 w n 1000 grown1 then' x1 x2 0 ∧ (∀ j, j < 36 → grown1 j = heap j)
  | _, _, 0, _, _, h, _ => by omega
  | 0, i, m + 1, grown, h1, _, h3 => by
    have e : i = 36 := by omega
    subst e
    exact ⟨grown, by simp only [fX11_principal_b27, p36y, ↓reduceIte], h3⟩
  | d + 1, i, m + 1, grown, h1, h2, h3 => by
    have hi : i < 36 := by omega
    obtain ⟨grown1, e1, e2⟩ := p_cpH w n (heap := heap) x1 x2 then' d (i + 1) m (upd grown i (heap i)) (by omega) (by omega) (fun j hj => by
      by_cases e : j = i
      · subst e; exact p_upS
      · rw [p_upN e]; exact h3 j (by omega))
    exact ⟨grown1, by simp only [fX11_principal_b27, p36n hi, ↓reduceIte, p_gA hi (show 36 < 2 ^ 31 by omega), p_cl (show i < 2 ^ 31 by omega), nI_1, e1], e2⟩
theorem co_principal {w n : Nat} (hw : w < 4) (hn : n < 6) {ground heap : Nat → Int32} (hl : ∀ j, j < 36 → gI 999 (ground j)) (hg : ∀ j, j < 36 → heap j = ground j) (lying landed grown then' : Nat → Int32) (x1 x2 : Int32) : ∃ r lying1 landed1 grown1 then1, fX10_principal (nI w) (nI n) lying landed ground x1 x2 = some (r, lying1, landed1) ∧ fX11_principal (nI w) (nI n) heap grown then' x1 x2 = some (r, grown1, then1) := by
  rcases p_both x1 0 12 (l := 0) (h := 12) (a := 0) (b := 12) rfl rfl (by decide) (by decide) (by omega) (by omega) with ⟨w1, w2, -⟩ | ⟨Y, -, hY, rfl, w1, w2⟩
  · exact ⟨_, _, _, _, _, by (simp only [fX10_principal, fX10_principal_b19, w1, Option.bind_some, ↓reduceIte] <;> rfl), by (simp only [fX11_principal, fX11_principal_b22, w2, Option.bind_some, ↓reduceIte] <;> rfl)⟩
  rcases p_both x2 0 1 (l := 0) (h := 1) (a := 0) (b := 1) rfl rfl (by decide) (by decide) (by omega) (by omega) with ⟨w3, w4, -⟩ | ⟨q, -, hq, rfl, w3, w4⟩
  · exact ⟨_, _, _, _, _, by (simp only [fX10_principal, fX10_principal_b19, w1, w3, Option.bind_some, ↓reduceIte, q_ne] <;> rfl), by (simp only [fX11_principal, fX11_principal_b22, w2, w4, Option.bind_some, ↓reduceIte, q_ne] <;> rfl)⟩
  obtain ⟨g0, a1, a2⟩ := p_cpH (nI w) (nI n) (heap := heap) (nI Y) (nI q) then' 36 0 1000 grown (by omega) (by omega) (fun j hj => by omega)
  obtain ⟨lying1, landed1, grown1, then1, b1, b2, b3⟩ := p_years hw hn hY (nI q) Y 0 1000 1000 ground landed g0 then' (by omega) (by omega) (by omega) hl (fun j hj => (a2 j hj).trans (hg j hj))
  have c1 := p_mb b3 then1 (nI q) 36 0 1000 0 0 (by omega) (by omega) (by omega)
  have hM : fX11_principal (nI w) (nI n) heap grown then' (nI Y) (nI q) = some (if nI q = 0 then gSm lying1 36 0 0 else nI (gBs lying1 36 0 0), grown1, then1) := by
    unfold fX11_principal
    rw [w2, Option.bind_some, if_neg (by decide), w4, Option.bind_some, if_neg (by decide)]
    exact (a1.trans b2).trans c1
  have hC1 : fX3_run (nI w) (nI n) ground lying landed (nI Y) = some (lying1, landed1) := b1
  have hS : fX3_sum lying1 = some (gSm lying1 36 0 0) := by
    unfold fX3_sum fX10_sumOfRow
    have h1 : fX10_sumOfRow_b4 36 lying1 1000 0 0 = some (gSm lying1 36 0 0) := p_sm lying1 36 0 1000 0 (by omega) (by omega)
    rw [h1, Option.bind_some]
  have hF : fX3_fullestField lying1 = some (nI (gBs lying1 36 0 0)) := by
    have h0 : gBs lying1 36 0 0 = gBs lying1 35 1 0 := gBs_0 lying1
    rw [h0]
    have h1 := p_bs lying1 35 1 1000 0 (by omega) (by omega) (by omega)
    unfold fX3_fullestField
    exact h1
  refine ⟨if nI q = 0 then gSm lying1 36 0 0 else nI (gBs lying1 36 0 0), lying1, landed1, grown1, then1, ?_, hM⟩
  unfold fX10_principal
  rw [w1, Option.bind_some, if_neg (by decide), w3, Option.bind_some, if_neg (by decide), hC1, Option.bind_some]
  by_cases h : nI q = 0
  · simp only [h, ↓reduceIte, hS, Option.bind_some, fX10_principal_b58]
  · simp only [h, ↓reduceIte, hF, Option.bind_some, fX10_principal_b58]
theorem st_principal : gStep_principal gRel := by
  intro v_x_imagesKept v_x_firstImage_meadow_families v_x_firstImage_meadow_wind v_x_firstImage_meadow_force v_x_firstImage_meadow_rain v_x_firstImage_meadow_lost v_x_firstImage_meadow_hour v_x_firstImage_sights_count v_x_now_meadow_families v_x_now_meadow_wind v_x_now_meadow_force v_x_now_meadow_rain v_x_now_meadow_lost v_x_now_meadow_hour v_x_now_sights_count v_x_pad_signs v_x_pad_acts v_x_pad_reading v_x_pad_begun v_x_pad_brokenAt v_x_secondImage_meadow_families v_x_secondImage_meadow_wind v_x_secondImage_meadow_force v_x_secondImage_meadow_rain v_x_secondImage_meadow_lost v_x_secondImage_meadow_hour v_x_secondImage_sights_count f_x_firstImage_meadow_home f_x_firstImage_meadow_seeds f_x_firstImage_meadow_lungs f_x_firstImage_meadow_blown f_x_firstImage_meadow_ground f_x_firstImage_sights_breaths f_x_firstImage_sights_flews f_x_now_meadow_home f_x_now_meadow_seeds f_x_now_meadow_lungs f_x_now_meadow_blown f_x_now_meadow_ground f_x_now_sights_breaths f_x_now_sights_flews f_x_pad_kinds f_x_pad_firsts f_x_pad_seconds f_x_secondImage_meadow_home f_x_secondImage_meadow_seeds f_x_secondImage_meadow_lungs f_x_secondImage_meadow_blown f_x_secondImage_meadow_ground f_x_secondImage_sights_breaths f_x_secondImage_sights_flews v_m_there v_m_wind v_m_force v_m_rains v_m_lost v_m_hours v_m_sights v_m_padMany f_m_at f_m_stem f_m_lungs f_m_blown f_m_heap f_m_sightBreath f_m_sightFlew f_m_pad f_m_kept f_m_isKept f_x_growth_lying f_x_growth_landed f_m_grown f_m_grownThen a0 a1 hRel
  obtain ⟨hN, hS, hP, hI⟩ := hRel
  have hN0 := hN
  obtain ⟨⟨e1, e2, e3, e4, e5, e6⟩, ⟨ht, ⟨w, hw1, hw2⟩, ⟨n, hn1, hn2⟩, hr, hh, hho, hse, hlu, hbl, hgr, hd⟩, ⟨ha, hst, hlr, hbr, hhe⟩⟩ := hN
  obtain ⟨r, lying1, landed1, grown1, then1, q1, q2⟩ := co_principal (show w < 4 by omega) (show n < 6 by omega) hgr hhe f_x_growth_lying f_x_growth_landed f_m_grown f_m_grownThen a0 a1
  rw [← hw2, ← hn2] at q1 q2
  rw [← e2, ← e3] at q2
  exact ⟨_, _, _, _, _, q1, q2, hN0, hS, hP, hI⟩

