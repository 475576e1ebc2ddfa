/-! the step: over, the reference's side -/
theorem p_m6 {k : Nat} (hk : k < 2 ^ 31) : ¬ nI k = (-6 : Int32) := fun e => by
  have h : ¬ (0 : Int32) ≤ nI k := by rw [e]; decide
  exact h (nI_le (a := 0) (by omega) hk)
theorem p_updId (f : Nat → Int32) (k : Nat) : upd f k (f k) = f := by
  funext j
  by_cases e : j = k
  · rw [e, p_upS]
  · rw [p_upN e]
def gO (E : Nat → Nat → Bool) (b L : Nat) (x : Int32) (v : Nat) : Prop := (x = -6 ∧ ¬ gWk E L v b) ∨ ∃ k, k ≤ L ∧ x = nI k ∧ gDi E k v b
theorem gO_no {E : Nat → Nat → Bool} {b L v : Nat} {x : Int32} (hL : L ≤ 7) (h : gO E b L x v) (hx : x = -6) : ¬ gWk E L v b := by
  rcases h with h | ⟨k, h1, h2, h3⟩
  · exact h.2
  · exact absurd (h2.symm.trans hx) (p_m6 (by omega))
theorem gO_eq {E : Nat → Nat → Bool} {b L l v : Nat} {x : Int32} (hL : L ≤ 7) (hl : l ≤ 7) (h : gO E b L x v) (hx : x = nI l) : gDi E l v b := by
  rcases h with h | ⟨k, h1, h2, h3⟩
  · exact absurd (hx.symm.trans h.1) (p_m6 (by omega))
  · have e : k = l := (nI_eq (by omega) (by omega)).mp (h2.symm.trans hx)
    exact e ▸ h3
theorem gO_lt {E : Nat → Nat → Bool} {b L l v : Nat} {x : Int32} (hLl : l ≤ L) (h : gO E b L x v) (hw : gWk E l v b) : ∃ k, k ≤ l ∧ x = nI k ∧ gDi E k v b := by
  rcases h with h | ⟨k, h1, h2, h3⟩
  · exact absurd (gWk_le hw hLl) h.2
  · by_cases hk : k ≤ l
    · exact ⟨k, hk, h2, h3⟩
    · exact absurd hw (h3.2 l (by omega))
theorem p_b98 {t : Int32} {at' : Nat → Int32} (K : (Nat → Int32) → Int32 → Int32 → Int32 → Option (Nat → Int32)) (off : Nat → Int32) (x2 x4 : Int32) {v : Nat} (hv : v < 6) : fX11_findOff_b98 K t at' off x2 (nI v) x4 (nI v) = K off x2 (nI v) (x4 + 1) := by
  have hV := fun {α : Type} (K : Option α) => p_gA hv (show 6 < 2 ^ 31 by omega) K
  rw [fX11_findOff_b98, hV, fX11_findOff_b104, hV, p_cl (by omega), p_updId]
theorem p_fo50 {t : Int32} {at' : Nat → Int32} {E : Nat → Nat → Bool} (hC : ∀ a b, a < 6 → b < 6 → fX11_canPay t at' (nI a) (nI b) = some (if E a b = true then 1 else 0)) (K : (Nat → Int32) → Int32 → Int32 → Option (Nat → Int32)) {b L v : Nat} (hL : L < 6) (hv : v < 6) : ∀ (d w m : Nat) (off : Nat → Int32), w + d = 6 → d < m → (∀ u, u < 6 → u < v → gO E b (L + 1) (off u) u) → (∀ u, u < 6 → v < u → gO E b L (off u) u) → ((gO E b L (off v) v ∧ (off v = -6 → ∀ w', w' < w → ¬ (E v w' = true ∧ gWk E L w' b))) ∨ (off v = nI (L + 1) ∧ gDi E (L + 1) v b)) → ∃ off', fX11_findOff_b50 K t at' m off (nI L) (nI v) (nI w) = K off' (nI L) (nI (v + 1)) ∧ (∀ u, u < 6 → u ≤ v → gO E b (L + 1) (off' u) u) ∧ (∀ u, u < 6 → v < u → gO E b L (off' u) u)
  | _, _, 0, _, _, h, _, _, _ => by omega
  | 0, w, m + 1, off, h0, _, h1, h2, h3 => by
    have e : w = 6 := by omega
    subst e
    refine ⟨off, by rw [fX11_findOff_b50, if_pos p6y, nI_1], fun u hu huv => ?_, h2⟩
    by_cases e : u = v
    · subst e
      rcases h3 with ⟨g, no⟩ | ⟨e1, e2⟩
      · by_cases h6 : off u = -6
        · refine Or.inl ⟨h6, fun hw => ?_⟩
          rcases hw with hw | ⟨c, c1, c2, c3⟩
          · exact gO_no (by omega) g h6 hw
          · exact no h6 c c1 ⟨c2, c3⟩
        · rcases g with g | ⟨k, k1, k2, k3⟩
          · exact absurd g.1 h6
          · exact Or.inr ⟨k, by omega, k2, k3⟩
      · exact Or.inr ⟨L + 1, Nat.le_refl _, e1, e2⟩
    · exact h1 u hu (by omega)
  | d + 1, w, m + 1, off, h0, hm, h1, h2, h3 => by
    have hw : w < 6 := by omega
    have hV := fun {α : Type} (K : Option α) => p_gA hv (show 6 < 2 ^ 31 by omega) K
    have hW := fun {α : Type} (K : Option α) => p_gA hw (show 6 < 2 ^ 31 by omega) K
    have clV := p_cl (show v < 2 ^ 31 by omega)
    have clW := p_cl (show w < 2 ^ 31 by omega)
    have go := fun off2 a1 a2 a3 => p_fo50 hC K (b := b) hL hv d (w + 1) m off2 (by omega) (by omega) a1 a2 a3
    rcases h3 with ⟨g, no⟩ | ⟨e1, e2⟩
    · by_cases h6 : off v = -6
      · have hn0 : ¬ (0 : Int32) ≤ off v := by rw [h6]; decide
        have hnv : ¬ gWk E L v b := gO_no (by omega) g h6
        have hx : nI L + 1 = nI (L + 1) := nI_1 L
        have hno : ¬ (E v w = true ∧ gWk E L w b) → off v = -6 → ∀ w', w' < w + 1 → ¬ (E v w' = true ∧ gWk E L w' b) := fun hq _ w' hw' => by
          by_cases e : w' = w
          · subst e; exact hq
          · exact no h6 w' (by omega)
        by_cases hwL : off w = nI L
        · have hwv : w ≠ v := fun e => p_m6 (show L < 2 ^ 31 by omega) (by rw [← hwL, e, h6])
          by_cases he : E v w = true
          · have hDw : gDi E L w b := by
              by_cases l : w < v
              · exact gO_eq (by omega) (by omega) (h1 w hw l) hwL
              · exact gO_eq (by omega) (by omega) (h2 w hw (by omega)) hwL
            obtain ⟨off', g1, g2, g3⟩ := go (upd off v (nI (L + 1))) (fun u hu huv => by
              rw [p_upN (by omega)]; exact h1 u hu huv) (fun u hu huv => by
              rw [p_upN (by omega)]; exact h2 u hu huv) (Or.inr ⟨p_upS, Or.inr ⟨w, hw, he, hDw.1⟩, fun j hj hwj => hnv (gWk_le hwj (by omega))⟩)
            refine ⟨off', ?_, g2, g3⟩
            rw [fX11_findOff_b50, if_neg (p6n hw), hV, clV, if_neg hn0, hW, clW, if_pos hwL, hC v w hv hw, Option.bind_some, if_pos he, if_neg (by decide), fX11_findOff_b104, hV, clV, hx, nI_1]
            exact g1
          · obtain ⟨off', g1, g2, g3⟩ := go off h1 h2 (Or.inl ⟨g, hno (fun h => he h.1)⟩)
            refine ⟨off', ?_, g2, g3⟩
            rw [fX11_findOff_b50, if_neg (p6n hw), hV, clV, if_neg hn0, hW, clW, if_pos hwL, hC v w hv hw, Option.bind_some, if_neg he, if_pos rfl, p_b98 _ _ _ _ hv, nI_1]
            exact g1
        · have hq : ¬ (E v w = true ∧ gWk E L w b) := by
            rintro ⟨q1, q2⟩
            by_cases e : w = v
            · subst e; exact hnv q2
            · have hk : ∃ k, k ≤ L ∧ off w = nI k ∧ gDi E k w b := by
                by_cases l : w < v
                · exact gO_lt (by omega) (h1 w hw l) q2
                · exact gO_lt (by omega) (h2 w hw (by omega)) q2
              obtain ⟨k, k1, k2, k3⟩ := hk
              by_cases e2 : k = L
              · subst e2; exact hwL k2
              · have : gWk E (k + 1) v b := Or.inr ⟨w, hw, q1, k3.1⟩
                exact hnv (gWk_le this (by omega))
          obtain ⟨off', g1, g2, g3⟩ := go off h1 h2 (Or.inl ⟨g, hno hq⟩)
          refine ⟨off', ?_, g2, g3⟩
          rw [fX11_findOff_b50, if_neg (p6n hw), hV, clV, if_neg hn0, hW, clW, if_neg hwL, p_b98 _ _ _ _ hv, nI_1]
          exact g1
      · have hp0 : (0 : Int32) ≤ off v := by
          rcases g with g | ⟨k, k1, k2, k3⟩
          · exact absurd g.1 h6
          · rw [k2]; exact nI_le (a := 0) (by omega) (by omega)
        obtain ⟨off', g1, g2, g3⟩ := go off h1 h2 (Or.inl ⟨g, fun h => absurd h h6⟩)
        refine ⟨off', ?_, g2, g3⟩
        rw [fX11_findOff_b50, if_neg (p6n hw), hV, clV, if_pos hp0, p_b98 _ _ _ _ hv, nI_1]
        exact g1
    · have hp0 : (0 : Int32) ≤ off v := by rw [e1]; exact nI_le (a := 0) (by omega) (by omega)
      obtain ⟨off', g1, g2, g3⟩ := go off h1 h2 (Or.inr ⟨e1, e2⟩)
      refine ⟨off', ?_, g2, g3⟩
      rw [fX11_findOff_b50, if_neg (p6n hw), hV, clV, if_pos hp0, p_b98 _ _ _ _ hv, nI_1]
      exact g1
theorem gO_up {E : Nat → Nat → Bool} {b L v : Nat} {x : Int32} (hx : ¬ x = -6) (h : gO E b L x v) : gO E b (L + 1) x v := by
  rcases h with h | ⟨k, h1, h2, h3⟩
  · exact absurd h.1 hx
  · exact Or.inr ⟨k, by omega, h2, h3⟩
theorem p_fo41 {t : Int32} {at' : Nat → Int32} {E : Nat → Nat → Bool} (hC : ∀ a b, a < 6 → b < 6 → fX11_canPay t at' (nI a) (nI b) = some (if E a b = true then 1 else 0)) (K : (Nat → Int32) → Int32 → Option (Nat → Int32)) {b L : Nat} (hL : L < 6) : ∀ (d v m : Nat) (off : Nat → Int32), v + d = 6 → d < m → (∀ u, u < 6 → u < v → gO E b (L + 1) (off u) u) → (∀ u, u < 6 → v ≤ u → gO E b L (off u) u) → ∃ off', fX11_findOff_b41 K t at' m off (nI L) (nI v) = K off' (nI (L + 1)) ∧ (∀ u, u < 6 → gO E b (L + 1) (off' u) u)
  | _, _, 0, _, _, h, _, _ => by omega
  | 0, v, m + 1, off, h0, _, h1, h2 => by
    have e : v = 6 := by omega
    subst e
    exact ⟨off, by rw [fX11_findOff_b41, if_pos p6y, nI_1], fun u hu => h1 u hu hu⟩
  | d + 1, v, m + 1, off, h0, hm, h1, h2 => by
    have hv : v < 6 := by omega
    obtain ⟨off1, a1, a2, a3⟩ := p_fo50 hC (fX11_findOff_b41 K t at' m) hL hv 6 0 1000 off (by omega) (by omega) h1 (fun u hu huv => h2 u hu (by omega)) (Or.inl ⟨h2 v hv (Nat.le_refl _), fun _ w' hw' => by omega⟩)
    obtain ⟨off2, b1, b2⟩ := p_fo41 hC K hL d (v + 1) m off1 (by omega) (by omega) (fun u hu huv => a2 u hu (by omega)) (fun u hu huv => a3 u hu (by omega))
    refine ⟨off2, ?_, b2⟩
    rw [fX11_findOff_b41, if_neg (p6n hv)]
    exact a1.trans b1
theorem p_fo33 {t : Int32} {at' : Nat → Int32} {E : Nat → Nat → Bool} (hC : ∀ a b, a < 6 → b < 6 → fX11_canPay t at' (nI a) (nI b) = some (if E a b = true then 1 else 0)) {b : Nat} : ∀ (d L m : Nat) (off : Nat → Int32), L + d = 6 → d < m → (∀ u, u < 6 → gO E b L (off u) u) → ∃ off', fX11_findOff_b33 t at' m off (nI L) = some off' ∧ (∀ u, u < 6 → gO E b 6 (off' u) u)
  | _, _, 0, _, _, h, _ => by omega
  | 0, L, m + 1, off, h0, _, h1 => by
    have e : L = 6 := by omega
    subst e
    exact ⟨off, by rw [fX11_findOff_b33, if_pos p6y], h1⟩
  | d + 1, L, m + 1, off, h0, hm, h1 => by
    have hL : L < 6 := by omega
    obtain ⟨off1, a1, a2⟩ := p_fo41 hC (fX11_findOff_b33 t at' m) hL 6 0 1000 off (by omega) (by omega) (fun u hu huv => by omega) (fun u hu _ => h1 u hu)
    obtain ⟨off2, b1, b2⟩ := p_fo33 hC d (L + 1) m off1 (by omega) (by omega) a2
    refine ⟨off2, ?_, b2⟩
    rw [fX11_findOff_b33, if_neg (p6n hL)]
    exact a1.trans b1
theorem p_fo2 {t : Int32} {at' : Nat → Int32} {E : Nat → Nat → Bool} (hC : ∀ a b, a < 6 → b < 6 → fX11_canPay t at' (nI a) (nI b) = some (if E a b = true then 1 else 0)) {b : Nat} (hb : b < 6) : ∀ (d i m : Nat) (off : Nat → Int32), i + d = 6 → d < m → (∀ u, u < 6 → u < i → gO E b 0 (off u) u) → ∃ off', fX11_findOff_b2 t at' m off (nI b) (nI i) = some off' ∧ (∀ u, u < 6 → gO E b 6 (off' u) u)
  | _, _, 0, _, _, h, _ => by omega
  | 0, i, m + 1, off, h0, _, h1 => by
    have e : i = 6 := by omega
    subst e
    obtain ⟨off1, a1, a2⟩ := p_fo33 hC (b := b) 6 0 1000 off (by omega) (by omega) (fun u hu => h1 u hu hu)
    refine ⟨off1, ?_, a2⟩
    rw [fX11_findOff_b2, if_pos p6y]
    exact a1
  | d + 1, i, m + 1, off, h0, hm, h1 => by
    have hi : i < 6 := by omega
    have hI := fun {α : Type} (K : Option α) => p_gA hi (show 6 < 2 ^ 31 by omega) K
    have clI := p_cl (show i < 2 ^ 31 by omega)
    by_cases e : i = b
    · subst e
      obtain ⟨off1, a1, a2⟩ := p_fo2 hC hb d (i + 1) m (upd off i 0) (by omega) (by omega) (fun u hu hui => by
        by_cases e : u = i
        · subst e
          exact Or.inr ⟨0, Nat.le_refl _, p_upS, rfl, fun j hj => by omega⟩
        · rw [p_upN e]; exact h1 u hu (by omega))
      refine ⟨off1, ?_, a2⟩
      rw [fX11_findOff_b2, if_neg (p6n hi), if_pos rfl, fX11_findOff_b24, hI, clI, nI_1]
      exact a1
    · have hne : ¬ nI i = nI b := fun h => e ((nI_eq (by omega) (by omega)).mp h)
      obtain ⟨off1, a1, a2⟩ := p_fo2 hC hb d (i + 1) m (upd off i (-6)) (by omega) (by omega) (fun u hu hui => by
        by_cases e2 : u = i
        · subst e2
          exact Or.inl ⟨p_upS, fun h => e h⟩
        · rw [p_upN e2]; exact h1 u hu (by omega))
      refine ⟨off1, ?_, a2⟩
      rw [fX11_findOff_b2, if_neg (p6n hi), if_neg hne, fX11_findOff_b24, hI, clI, nI_1]
      exact a1
theorem p_fo {t : Int32} {at' : Nat → Int32} {E : Nat → Nat → Bool} (hC : ∀ a b, a < 6 → b < 6 → fX11_canPay t at' (nI a) (nI b) = some (if E a b = true then 1 else 0)) {b : Nat} (hb : b < 6) (off : Nat → Int32) : ∃ off', fX11_findOff t at' off (nI b) = some off' ∧ (∀ u, u < 6 → gO E b 6 (off' u) u) :=
  p_fo2 hC hb 6 0 1000 off (by omega) (by omega) (fun u hu hui => by omega)
theorem p_dec2 : ∀ d, d < 6 → nI (d + 1) - 1 = nI d ∧ nI d + (-1) = nI d - 1 := by decide
theorem p_ov68 {t : Int32} {at' : Nat → Int32} {E : Nat → Nat → Bool} (hC : ∀ a b, a < 6 → b < 6 → fX11_canPay t at' (nI a) (nI b) = some (if E a b = true then 1 else 0)) {a b D : Nat} (ha : a < 6) (hb : b < 6) (hD : 1 ≤ D) (hD5 : D ≤ 5) (off : Nat → Int32) (hoff : ∀ u, u < 6 → gO E b 6 (off u) u) (hDi : gDi E D a b) (hoa : off a = nI D) : ∀ (d m : Nat) (x4 : Int32), d ≤ 6 → d < m → ((x4 = -6 ∧ ∀ c, d ≤ c → c < 6 → ¬ gQ E D a b c) ∨ ∃ c, d ≤ c ∧ c < 6 ∧ x4 = nI c ∧ gQ E D a b c ∧ ∀ c', d ≤ c' → c' < c → ¬ gQ E D a b c') → ∃ c, fX11_over_b68 t at' m off (nI a) x4 (nI d - 1) = some (nI c, off) ∧ gQm E D a b c
  | _, 0, _, _, h, _ => by omega
  | 0, m + 1, x4, _, _, h => by
    have h0 : nI 0 - 1 < (0 : Int32) := by decide
    rcases h with ⟨h1, h2⟩ | ⟨c, h1, h2, h3, h4, h5⟩
    · obtain ⟨c, g1, g2⟩ := gQ_ex hD hDi
      exact absurd g2 (h2 c (Nat.zero_le _) g1)
    · refine ⟨c, ?_, h2, h4, fun c' hc' => h5 c' (Nat.zero_le _) hc'⟩
      rw [fX11_over_b68, if_pos h0, h3]
  | d + 1, m + 1, x4, hd, hm, h => by
    have hc : d < 6 := by omega
    obtain ⟨z1, z2⟩ := p_dec2 d hc
    have hn : ¬ nI d < (0 : Int32) := nI_nlt (b := 0) (Nat.zero_le _) (by omega)
    have hX := fun {α : Type} (K : Option α) => p_gA hc (show 6 < 2 ^ 31 by omega) K
    have hA := fun {α : Type} (K : Option α) => p_gA ha (show 6 < 2 ^ 31 by omega) K
    have clX := p_cl (show d < 2 ^ 31 by omega)
    have clA := p_cl (show a < 2 ^ 31 by omega)
    have hsub : nI D - 1 = nI (D - 1) := pk_sub (b := 1) (by omega)
    have go : ¬ gQ E D a b d → ∃ c, fX11_over_b68 t at' m off (nI a) x4 (nI d - 1) = some (nI c, off) ∧ gQm E D a b c := fun hq =>
      p_ov68 hC ha hb hD hD5 off hoff hDi hoa d m x4 (by omega) (by omega) (by
        rcases h with ⟨h1, h2⟩ | ⟨c, h1, h2, h3, h4, h5⟩
        · refine Or.inl ⟨h1, fun c hdc hc6 => ?_⟩
          by_cases e : c = d
          · subst e; exact hq
          · exact h2 c (by omega) hc6
        · refine Or.inr ⟨c, by omega, h2, h3, h4, fun c' hdc hc6 => ?_⟩
          by_cases e : c' = d
          · subst e; exact hq
          · exact h5 c' (by omega) hc6)
    by_cases ho : off d = nI (D - 1)
    · have hDd : gDi E (D - 1) d b := gO_eq (by omega) (by omega) (hoff d hc) ho
      by_cases he : E a d = true
      · obtain ⟨c, g1, g2⟩ := p_ov68 hC ha hb hD hD5 off hoff hDi hoa d m (nI d) (by omega) (by omega) (Or.inr ⟨d, Nat.le_refl _, hc, rfl, ⟨he, hDd⟩, fun c' h1 h2 => by omega⟩)
        refine ⟨c, ?_, g2⟩
        rw [fX11_over_b68, z1, if_neg hn, hX, hA, clX, clA, hoa, hsub, if_pos ho, hC a d ha hc, Option.bind_some, if_pos he, if_neg (by decide), fX11_over_b108, z2]
        exact g1
      · obtain ⟨c, g1, g2⟩ := go (fun hq => he hq.1)
        refine ⟨c, ?_, g2⟩
        rw [fX11_over_b68, z1, if_neg hn, hX, hA, clX, clA, hoa, hsub, if_pos ho, hC a d ha hc, Option.bind_some, if_neg he, if_pos rfl, fX11_over_b106, fX11_over_b108, z2]
        exact g1
    · obtain ⟨c, g1, g2⟩ := go (fun hq => ho (by
        obtain ⟨k, k1, k2, k3⟩ := gO_lt (show D - 1 ≤ 6 by omega) (hoff d hc) hq.2.1
        rw [k2, gDi_u k3 hq.2]))
      refine ⟨c, ?_, g2⟩
      rw [fX11_over_b68, z1, if_neg hn, hX, hA, clX, clA, hoa, hsub, if_neg ho, fX11_over_b106, fX11_over_b108, z2]
      exact g1
