/-! walks over puffs between six families -/
def gWk (E : Nat → Nat → Bool) : Nat → Nat → Nat → Prop
  | 0, a, b => a = b
  | k + 1, a, b => gWk E k a b ∨ ∃ c, c < 6 ∧ E a c = true ∧ gWk E k c b
theorem gWk_s (E : Nat → Nat → Bool) (k a b : Nat) : gWk E (k + 1) a b = (gWk E k a b ∨ ∃ c, c < 6 ∧ E a c = true ∧ gWk E k c b) := rfl
theorem gWk_mono (E : Nat → Nat → Bool) (k a b : Nat) (h : gWk E k a b) : ∀ d, gWk E (k + d) a b
  | 0 => h
  | d + 1 => by
    rw [show k + (d + 1) = k + d + 1 from rfl, gWk_s]
    exact Or.inl (gWk_mono E k a b h d)
theorem gWk_le {E : Nat → Nat → Bool} {j k a b : Nat} (h : gWk E j a b) (hjk : j ≤ k) : gWk E k a b := by
  have := gWk_mono E j a b h (k - j)
  rw [show j + (k - j) = k by omega] at this
  exact this
theorem gWk_r (E : Nat → Nat → Bool) : ∀ (k a b : Nat), a < 6 → b < 6 → (gWk E (k + 1) a b ↔ gWk E k a b ∨ ∃ c, c < 6 ∧ gWk E k a c ∧ E c b = true)
  | 0, a, b, ha, hb => by
    constructor
    · rintro (h | ⟨c, h1, h2, h3⟩)
      · exact Or.inl h
      · have h3' : c = b := h3
        subst h3'
        exact Or.inr ⟨a, ha, rfl, h2⟩
    · rintro (h | ⟨c, h1, h2, h3⟩)
      · exact Or.inl h
      · have h2' : a = c := h2
        subst h2'
        exact Or.inr ⟨b, hb, h3, rfl⟩
  | k + 1, a, b, ha, hb => by
    constructor
    · rintro (h | ⟨c, h1, h2, h3⟩)
      · exact Or.inl h
      · rcases (gWk_r E k c b h1 hb).mp h3 with h4 | ⟨c', h5, h6, h7⟩
        · exact Or.inl (Or.inr ⟨c, h1, h2, h4⟩)
        · exact Or.inr ⟨c', h5, Or.inr ⟨c, h1, h2, h6⟩, h7⟩
    · rintro (h | ⟨c, h1, h2, h3⟩)
      · exact Or.inl h
      · rcases h2 with h2 | ⟨c', h4, h5, h6⟩
        · exact Or.inl ((gWk_r E k a b ha hb).mpr (Or.inr ⟨c, h1, h2, h3⟩))
        · exact Or.inr ⟨c', h4, h5, (gWk_r E k c' b h4 hb).mpr (Or.inr ⟨c, h1, h6, h3⟩)⟩
def gDi (E : Nat → Nat → Bool) (k a b : Nat) : Prop := gWk E k a b ∧ ∀ j, j < k → ¬ gWk E j a b
theorem gDi_u {E : Nat → Nat → Bool} {j k a b : Nat} (h1 : gDi E j a b) (h2 : gDi E k a b) : j = k := by
  by_cases e : j = k
  · exact e
  · by_cases l : j < k
    · exact absurd h1.1 (h2.2 j l)
    · exact absurd h2.1 (h1.2 k (by omega))
theorem gDi_dn {E : Nat → Nat → Bool} {k a b : Nat} (h : gDi E (k + 1) a b) : ∃ c, c < 6 ∧ E a c = true ∧ gDi E k c b := by
  obtain ⟨h1, h2⟩ := h
  rcases h1 with h1 | ⟨c, h3, h4, h5⟩
  · exact absurd h1 (h2 k (Nat.lt_succ_self k))
  · exact ⟨c, h3, h4, h5, fun j hj hw => h2 (j + 1) (by omega) (Or.inr ⟨c, h3, h4, hw⟩)⟩
theorem gDi_all {E : Nat → Nat → Bool} {b : Nat} : ∀ (k a : Nat), a < 6 → gDi E k a b → ∀ j, j ≤ k → ∃ c, c < 6 ∧ gDi E j c b
  | 0, a, ha, h, j, hj => by
    have : j = 0 := by omega
    subst this
    exact ⟨a, ha, h⟩
  | k + 1, a, ha, h, j, hj => by
    by_cases e : j = k + 1
    · subst e; exact ⟨a, ha, h⟩
    · obtain ⟨c, h1, _, h2⟩ := gDi_dn h
      exact gDi_all k c h1 h2 j (by omega)
theorem p_ph : ∀ (n : Nat) (f : Nat → Nat), (∀ i, i ≤ n → f i < n) → ∃ i j, i < j ∧ j ≤ n ∧ f i = f j
  | 0, f, h => absurd (h 0 (Nat.le_refl 0)) (Nat.not_lt_zero _)
  | n + 1, f, h => by
    by_cases he : ∃ i, i ≤ n ∧ f i = f (n + 1)
    · obtain ⟨i, h1, h2⟩ := he
      exact ⟨i, n + 1, by omega, by omega, h2⟩
    · have hne : ∀ i, i ≤ n → f i ≠ f (n + 1) := fun i h1 h2 => he ⟨i, h1, h2⟩
      obtain ⟨i, j, h1, h2, h3⟩ := p_ph n (fun i => if f i < f (n + 1) then f i else f i - 1) (fun i hi => by
        have a1 := h i (by omega)
        have a2 := hne i hi
        have a3 := h (n + 1) (by omega)
        by_cases c : f i < f (n + 1)
        · rw [if_pos c]; omega
        · rw [if_neg c]; omega)
      refine ⟨i, j, h1, by omega, ?_⟩
      have a1 := hne i (by omega)
      have a2 := hne j h2
      by_cases c1 : f i < f (n + 1)
      · by_cases c2 : f j < f (n + 1)
        · rw [if_pos c1, if_pos c2] at h3; exact h3
        · rw [if_pos c1, if_neg c2] at h3; omega
      · by_cases c2 : f j < f (n + 1)
        · rw [if_neg c1, if_pos c2] at h3; omega
        · rw [if_neg c1, if_neg c2] at h3; omega
theorem gDi_5 {E : Nat → Nat → Bool} {k a b : Nat} (ha : a < 6) (h : gDi E k a b) : k ≤ 5 := by
  by_cases hk : k ≤ 5
  · exact hk
  · have hc : ∀ j, ∃ c, j ≤ 6 → c < 6 ∧ gDi E j c b := by
      intro j
      by_cases hj : j ≤ 6
      · obtain ⟨c, h1, h2⟩ := gDi_all k a ha h j (by omega)
        exact ⟨c, fun _ => ⟨h1, h2⟩⟩
      · exact ⟨0, fun h => absurd h hj⟩
    obtain ⟨i, j, h1, h2, h3⟩ := p_ph 6 (fun j => Classical.choose (hc j)) (fun i hi => (Classical.choose_spec (hc i) hi).1)
    have s1 := (Classical.choose_spec (hc i) (by omega)).2
    have s2 := (Classical.choose_spec (hc j) h2).2
    rw [h3] at s1
    have := gDi_u s1 s2
    omega
theorem gWk_65 {E : Nat → Nat → Bool} {a b : Nat} (ha : a < 6) (h : ¬ gWk E 5 a b) : ¬ gWk E 6 a b := by
  intro h6
  have : gDi E 6 a b := ⟨h6, fun j hj hw => h (gWk_le hw (by omega))⟩
  have := gDi_5 ha this
  omega
/-! the class's puffs between two -/
theorem p_one : ∀ a, a < 6 → (1 : Int32) <<< (nI a &&& 31) = nI (2 ^ a) ∧ 2 ^ a < 64 ∧ ∀ v, v < 6 → gP (nI (2 ^ a)) v = decide (v = a) := by decide
theorem p_wn1 {t : Int32} {home : Nat → Int32} {E : Nat → Nat → Bool} (hE : ∀ a b, a < 6 → b < 6 → fX8_isOnePuff t home (nI a) (nI b) = some (if E a b = true then 1 else 0)) (s : Int32) {i : Nat} (hi : i < 6) (K : Int32 → Int32 → Int32 → Option Int32) : ∀ (d j m : Nat) (x : Int32), j + d = 6 → d < m → (∃ n, n < 64 ∧ x = nI n) → ∃ x', (∃ n, n < 64 ∧ x' = nI n) ∧ fX8_withNeighbours_b13 K t home m s x (nI i) (nI j) = K s x' (nI (i + 1)) ∧ ∀ v, v < 6 → (gP x' v = true ↔ gP x v = true ∨ (j ≤ v ∧ gP s i = true ∧ E i v = true))
  | _, _, 0, _, _, h, _ => by omega
  | 0, j, m + 1, x, h1, _, hx => by
    have e : j = 6 := by omega
    subst e
    refine ⟨x, hx, ?_, ?_⟩
    · rw [fX8_withNeighbours_b13, if_pos p6y, nI_1]
    · intro v hv
      exact ⟨Or.inl, fun h => h.elim id (fun h => by omega)⟩
  | d + 1, j, m + 1, x, h1, h2, hx => by
    have hj : j < 6 := by omega
    by_cases hs : gP s i = true
    · by_cases he : E i j = true
      · obtain ⟨hx2, hx3⟩ := p_add1 hx hj
        obtain ⟨x', a1, a2, a3⟩ := p_wn1 hE s hi K d (j + 1) m (x ||| (1 <<< (nI j &&& 31))) (by omega) (by omega) hx2
        refine ⟨x', a1, ?_, ?_⟩
        · rw [fX8_withNeighbours_b13, if_neg (p6n hj), if_neg (p_gPt hs), hE i j hi hj, Option.bind_some, if_pos he, if_neg (by decide), fX8_withNeighbours_b45, nI_1]
          exact a2
        · intro v hv
          rw [a3 v hv, hx3 v hv, Bool.or_eq_true, decide_eq_true_eq]
          constructor
          · rintro ((h | h) | ⟨h, h', h''⟩)
            · exact Or.inl h
            · subst h; exact Or.inr ⟨Nat.le_refl _, hs, he⟩
            · exact Or.inr ⟨by omega, h', h''⟩
          · rintro (h | ⟨h, h', h''⟩)
            · exact Or.inl (Or.inl h)
            · by_cases e : v = j
              · exact Or.inl (Or.inr e)
              · exact Or.inr ⟨by omega, h', h''⟩
      · obtain ⟨x', a1, a2, a3⟩ := p_wn1 hE s hi K d (j + 1) m x (by omega) (by omega) hx
        refine ⟨x', a1, ?_, ?_⟩
        · rw [fX8_withNeighbours_b13, if_neg (p6n hj), if_neg (p_gPt hs), hE i j hi hj, Option.bind_some, if_neg he, if_pos rfl, fX8_withNeighbours_b45, nI_1]
          exact a2
        · intro v hv
          rw [a3 v hv]
          constructor
          · rintro (h | ⟨h, h', h''⟩)
            · exact Or.inl h
            · exact Or.inr ⟨by omega, h', h''⟩
          · rintro (h | ⟨h, h', h''⟩)
            · exact Or.inl h
            · by_cases e : v = j
              · subst e; exact absurd h'' he
              · exact Or.inr ⟨by omega, h', h''⟩
    · obtain ⟨x', a1, a2, a3⟩ := p_wn1 hE s hi K d (j + 1) m x (by omega) (by omega) hx
      refine ⟨x', a1, ?_, ?_⟩
      · rw [fX8_withNeighbours_b13, if_neg (p6n hj), if_pos (p_gPf (by rw [Bool.not_eq_true] at hs; exact hs)), fX8_withNeighbours_b45, nI_1]
        exact a2
      · intro v hv
        rw [a3 v hv]
        constructor
        · rintro (h | ⟨h, h', h''⟩)
          · exact Or.inl h
          · exact absurd h' hs
        · rintro (h | ⟨h, h', h''⟩)
          · exact Or.inl h
          · exact absurd h' hs
theorem p_wn2 {t : Int32} {home : Nat → Int32} {E : Nat → Nat → Bool} (hE : ∀ a b, a < 6 → b < 6 → fX8_isOnePuff t home (nI a) (nI b) = some (if E a b = true then 1 else 0)) (s : Int32) : ∀ (d i m : Nat) (x : Int32), i + d = 6 → d < m → (∃ n, n < 64 ∧ x = nI n) → ∃ x', (∃ n, n < 64 ∧ x' = nI n) ∧ fX8_withNeighbours_b4 t home m s x (nI i) = some x' ∧ ∀ v, v < 6 → (gP x' v = true ↔ gP x v = true ∨ ∃ w, i ≤ w ∧ w < 6 ∧ gP s w = true ∧ E w v = true)
  | _, _, 0, _, _, h, _ => by omega
  | 0, i, m + 1, x, h1, _, hx => by
    have e : i = 6 := by omega
    subst e
    refine ⟨x, hx, ?_, ?_⟩
    · rw [fX8_withNeighbours_b4, if_pos p6y]
    · intro v hv
      exact ⟨Or.inl, fun h => h.elim id (fun ⟨w, h1, h2, _⟩ => by omega)⟩
  | d + 1, i, m + 1, x, h1, h2, hx => by
    have hi : i < 6 := by omega
    obtain ⟨x1, a1, a2, a3⟩ := p_wn1 hE s hi (fX8_withNeighbours_b4 t home m) 6 0 1000 x (by omega) (by omega) hx
    obtain ⟨x2, b1, b2, b3⟩ := p_wn2 hE s d (i + 1) m x1 (by omega) (by omega) a1
    refine ⟨x2, b1, ?_, ?_⟩
    · rw [fX8_withNeighbours_b4, if_neg (p6n hi)]
      exact a2.trans b2
    · intro v hv
      rw [b3 v hv, a3 v hv]
      constructor
      · rintro ((h | ⟨_, h, h'⟩) | ⟨w, h3, h4, h5, h6⟩)
        · exact Or.inl h
        · exact Or.inr ⟨i, Nat.le_refl _, hi, h, h'⟩
        · exact Or.inr ⟨w, by omega, h4, h5, h6⟩
      · rintro (h | ⟨w, h3, h4, h5, h6⟩)
        · exact Or.inl (Or.inl h)
        · by_cases e : w = i
          · subst e; exact Or.inl (Or.inr ⟨Nat.zero_le _, h5, h6⟩)
          · exact Or.inr ⟨w, by omega, h4, h5, h6⟩
theorem p_wn {t : Int32} {home : Nat → Int32} {E : Nat → Nat → Bool} (hE : ∀ a b, a < 6 → b < 6 → fX8_isOnePuff t home (nI a) (nI b) = some (if E a b = true then 1 else 0)) {s : Int32} (hs : ∃ n, n < 64 ∧ s = nI n) {a k : Nat} (ha : a < 6) (h : ∀ v, v < 6 → (gP s v = true ↔ gWk E k a v)) : ∃ s', (∃ n, n < 64 ∧ s' = nI n) ∧ fX8_withNeighbours t home s = some s' ∧ ∀ v, v < 6 → (gP s' v = true ↔ gWk E (k + 1) a v) := by
  obtain ⟨s', a1, a2, a3⟩ := p_wn2 hE s 6 0 1000 s (by omega) (by omega) hs
  refine ⟨s', a1, a2, ?_⟩
  intro v hv
  rw [a3 v hv, gWk_r E k a v ha hv, h v hv]
  constructor
  · rintro (h1 | ⟨w, _, h2, h3, h4⟩)
    · exact Or.inl h1
    · exact Or.inr ⟨w, h2, (h w h2).mp h3, h4⟩
  · rintro (h1 | ⟨w, h2, h3, h4⟩)
    · exact Or.inl h1
    · exact Or.inr ⟨w, Nat.zero_le _, h2, (h w h2).mpr h3, h4⟩
theorem p_pb {t : Int32} {home : Nat → Int32} {E : Nat → Nat → Bool} (hE : ∀ a b, a < 6 → b < 6 → fX8_isOnePuff t home (nI a) (nI b) = some (if E a b = true then 1 else 0)) {a b : Nat} (ha : a < 6) (hb : b < 6) : ∀ (d k m : Nat) (s : Int32), k + d = 5 → d + 1 < m → (∃ n, n < 64 ∧ s = nI n) → (∀ v, v < 6 → (gP s v = true ↔ gWk E k a v)) → ¬ gWk E k a b → ∃ r, fX8_puffsBetween_b7 t home m (nI b) s (nI (k + 1)) = some r ∧ ((r = -6 ∧ ¬ gWk E 5 a b) ∨ ∃ j, 1 ≤ j ∧ j ≤ 5 ∧ r = nI j ∧ gDi E j a b)
  | _, _, 0, _, _, h, _, _, _ => by omega
  | 0, k, m + 1, s, h1, _, hs, h, hn => by
    have e : k = 5 := by omega
    subst e
    refine ⟨-6, ?_, Or.inl ⟨rfl, hn⟩⟩
    rw [fX8_puffsBetween_b7, if_pos p6y]
  | d + 1, k, m + 1, s, h1, h2, hs, h, hn => by
    obtain ⟨s', a1, a2, a3⟩ := p_wn hE hs ha h
    by_cases hg : gP s' b = true
    · refine ⟨nI (k + 1), ?_, Or.inr ⟨k + 1, by omega, by omega, rfl, (a3 b hb).mp hg, fun j hj hw => hn (gWk_le hw (by omega))⟩⟩
      rw [fX8_puffsBetween_b7, if_neg (p6n (show k + 1 < 6 by omega)), a2, Option.bind_some, if_neg (p_gPt hg)]
    · obtain ⟨r, b1, b2⟩ := p_pb hE ha hb d (k + 1) m s' (by omega) (by omega) a1 a3 (fun hw => hg ((a3 b hb).mpr hw))
      refine ⟨r, ?_, b2⟩
      rw [fX8_puffsBetween_b7, if_neg (p6n (show k + 1 < 6 by omega)), a2, Option.bind_some, if_pos (p_gPf (by rw [Bool.not_eq_true] at hg; exact hg)), nI_1]
      exact b1
theorem p_pb0 {t : Int32} {home : Nat → Int32} {E : Nat → Nat → Bool} (hE : ∀ a b, a < 6 → b < 6 → fX8_isOnePuff t home (nI a) (nI b) = some (if E a b = true then 1 else 0)) {a b : Nat} (ha : a < 6) (hb : b < 6) (hab : a ≠ b) : ∃ r, fX8_puffsBetween t home (nI a) (nI b) = some r ∧ ((r = -6 ∧ ¬ gWk E 5 a b) ∨ ∃ j, 1 ≤ j ∧ j ≤ 5 ∧ r = nI j ∧ gDi E j a b) := by
  obtain ⟨o1, o2, o3⟩ := p_one a ha
  have := p_pb hE ha hb 5 0 1000 (1 <<< (nI a &&& 31)) (by omega) (by omega) ⟨2 ^ a, o2, o1⟩ (fun v hv => by
    rw [o1, o3 v hv, decide_eq_true_eq]
    exact ⟨fun e => e.symm, fun e => Eq.symm e⟩) hab
  exact this
/-! the class's first on the way -/
def gQ (E : Nat → Nat → Bool) (D a b c : Nat) : Prop := E a c = true ∧ gDi E (D - 1) c b
def gQm (E : Nat → Nat → Bool) (D a b c : Nat) : Prop := c < 6 ∧ gQ E D a b c ∧ ∀ c', c' < c → ¬ gQ E D a b c'
theorem gQm_u {E : Nat → Nat → Bool} {D a b c c' : Nat} (h : gQm E D a b c) (h' : gQm E D a b c') : c = c' := by
  by_cases e : c = c'
  · exact e
  · by_cases l : c < c'
    · exact absurd h.2.1 (h'.2.2 c l)
    · exact absurd h'.2.1 (h.2.2 c' (by omega))
theorem gQ_ex {E : Nat → Nat → Bool} {D a b : Nat} (hD : 1 ≤ D) (h : gDi E D a b) : ∃ c, c < 6 ∧ gQ E D a b c := by
  rw [show D = (D - 1) + 1 by omega] at h
  obtain ⟨c, h1, h2, h3⟩ := gDi_dn h
  exact ⟨c, h1, h2, h3⟩
theorem p_fw {t : Int32} {home : Nat → Int32} {E : Nat → Nat → Bool} (hE : ∀ a b, a < 6 → b < 6 → fX8_isOnePuff t home (nI a) (nI b) = some (if E a b = true then 1 else 0)) {a b D : Nat} (ha : a < 6) (hb : b < 6) (hD : 2 ≤ D) (hD5 : D ≤ 5) (hDi : gDi E D a b) (hnE : ¬ E a b = true) : ∀ (d c m : Nat), c + d = 6 → d < m → (∀ c', c' < c → ¬ gQ E D a b c') → ∃ c', fX8_firstOnTheWay_b21 t home m (nI a) (nI b) (nI D) (nI c) = some (nI c') ∧ gQm E D a b c'
  | _, _, 0, _, h, _ => by omega
  | 0, c, m + 1, h1, _, h3 => by
    obtain ⟨c', h4, h5⟩ := gQ_ex (by omega) hDi
    exact absurd h5 (h3 c' (by omega))
  | d + 1, c, m + 1, h1, h2, h3 => by
    have hc : c < 6 := by omega
    have hD6 : ¬ nI D = (-6 : Int32) := fun e => by
      have : ¬ (0 : Int32) ≤ nI D := by rw [e]; decide
      exact this (nI_le (a := 0) (by omega) (by omega))
    have go : ¬ gQ E D a b c → ∃ c', fX8_firstOnTheWay_b21 t home m (nI a) (nI b) (nI D) (nI (c + 1)) = some (nI c') ∧ gQm E D a b c' := fun hq =>
      p_fw hE ha hb hD hD5 hDi hnE d (c + 1) m (by omega) (by omega) (fun c' hc' => by
        by_cases e : c' = c
        · subst e; exact hq
        · exact h3 c' (by omega))
    by_cases he : E a c = true
    · have hcb : c ≠ b := fun e => hnE (e ▸ he)
      have hsub : nI D - 1 = nI (D - 1) := pk_sub (b := 1) (by omega)
      obtain ⟨r, b1, b2⟩ := p_pb0 hE hc hb hcb
      rcases b2 with ⟨b2, b3⟩ | ⟨j, j1, j2, b2, b3⟩
      · obtain ⟨c', g1, g2⟩ := go (fun hq => b3 (gWk_le hq.2.1 (by omega)))
        refine ⟨c', ?_, g2⟩
        have hne : ¬ r = nI (D - 1) := fun e => by
          have h6 : ¬ (0 : Int32) ≤ nI (D - 1) := by rw [← e, b2]; decide
          exact h6 (nI_le (a := 0) (by omega) (by omega))
        rw [fX8_firstOnTheWay_b21, if_neg (p6n hc), if_neg hD6, hE a c ha hc, Option.bind_some, if_pos he, if_neg (by decide), b1, Option.bind_some, hsub, if_neg hne, fX8_firstOnTheWay_b60, nI_1]
        exact g1
      · by_cases e : j = D - 1
        · subst e
          refine ⟨c, ?_, hc, ⟨he, b3⟩, h3⟩
          rw [fX8_firstOnTheWay_b21, if_neg (p6n hc), if_neg hD6, hE a c ha hc, Option.bind_some, if_pos he, if_neg (by decide), b1, Option.bind_some, hsub, if_pos b2]
        · obtain ⟨c', g1, g2⟩ := go (fun hq => e (gDi_u b3 hq.2))
          refine ⟨c', ?_, g2⟩
          have hne : ¬ r = nI (D - 1) := fun e' => by
            rw [b2] at e'
            exact e ((nI_eq (by omega) (by omega)).mp e')
          rw [fX8_firstOnTheWay_b21, if_neg (p6n hc), if_neg hD6, hE a c ha hc, Option.bind_some, if_pos he, if_neg (by decide), b1, Option.bind_some, hsub, if_neg hne, fX8_firstOnTheWay_b60, nI_1]
          exact g1
    · obtain ⟨c', g1, g2⟩ := go (fun hq => he hq.1)
      refine ⟨c', ?_, g2⟩
      rw [fX8_firstOnTheWay_b21, if_neg (p6n hc), if_neg hD6, hE a c ha hc, Option.bind_some, if_neg he, if_pos rfl, fX8_firstOnTheWay_b60, nI_1]
      exact g1
theorem p_fw0 {t : Int32} {home : Nat → Int32} {E : Nat → Nat → Bool} (hE : ∀ a b, a < 6 → b < 6 → fX8_isOnePuff t home (nI a) (nI b) = some (if E a b = true then 1 else 0)) {a b : Nat} (ha : a < 6) (hb : b < 6) (hab : a ≠ b) : ∃ r, fX8_firstOnTheWay t home (nI a) (nI b) = some r ∧ ((r = -6 ∧ ¬ gWk E 5 a b) ∨ ∃ D c, 1 ≤ D ∧ D ≤ 5 ∧ gDi E D a b ∧ r = nI c ∧ gQm E D a b c) := by
  by_cases he : E a b = true
  · refine ⟨nI b, ?_, Or.inr ⟨1, b, Nat.le_refl _, by omega, ⟨Or.inr ⟨b, hb, he, rfl⟩, fun j hj => ?_⟩, rfl, hb, ⟨he, rfl, fun j hj => by omega⟩, fun c' hc' hq => ?_⟩⟩
    · unfold fX8_firstOnTheWay
      rw [hE a b ha hb, Option.bind_some, if_pos he, if_neg (by decide)]
    · have : j = 0 := by omega
      subst this
      exact hab
    · have : c' = b := hq.2.1
      omega
  · obtain ⟨r, b1, b2⟩ := p_pb0 hE ha hb hab
    rcases b2 with ⟨b2, b3⟩ | ⟨j, j1, j2, b2, b3⟩
    · refine ⟨-6, ?_, Or.inl ⟨rfl, b3⟩⟩
      unfold fX8_firstOnTheWay
      rw [hE a b ha hb, Option.bind_some, if_neg he, if_pos rfl, b1, Option.bind_some, b2]
      rfl
    · have hj2 : 2 ≤ j := by
        by_cases e : j = 1
        · subst e
          rcases b3.1 with h | ⟨c, h1, h2, h3⟩
          · exact absurd h hab
          · have h3' : c = b := h3
            subst h3'
            exact absurd h2 he
        · omega
      obtain ⟨c, g1, g2⟩ := p_fw hE ha hb hj2 j2 b3 he 6 0 1000 (by omega) (by omega) (fun c' hc' => by omega)
      refine ⟨nI c, ?_, Or.inr ⟨j, c, j1, j2, b3, rfl, g2⟩⟩
      unfold fX8_firstOnTheWay
      rw [hE a b ha hb, Option.bind_some, if_neg he, if_pos rfl, b1, Option.bind_some, b2]
      exact g1
