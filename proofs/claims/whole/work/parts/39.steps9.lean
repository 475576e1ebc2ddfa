/-! the step: gusts -/
def gTo (f : Nat → Nat) : Nat → Nat
  | 0 => 0
  | n + 1 => gTo f n + f n
def updN (f : Nat → Nat) (k v : Nat) : Nat → Nat := fun j => if j = k then v else f j
theorem updN_s {f : Nat → Nat} {k v : Nat} : updN f k v k = v := if_pos rfl
theorem updN_n {f : Nat → Nat} {k v j : Nat} (h : j ≠ k) : updN f k v j = f j := if_neg h
theorem gTo_out {f : Nat → Nat} {k v : Nat} : ∀ n, n ≤ k → gTo (updN f k v) n = gTo f n
  | 0, _ => rfl
  | n + 1, h => by
    unfold gTo
    rw [gTo_out n (by omega), updN_n (by omega)]
theorem gTo_upd {f : Nat → Nat} {k v : Nat} : ∀ n, k < n → gTo (updN f k (f k + v)) n = gTo f n + v
  | 0, h => by omega
  | n + 1, h => by
    unfold gTo
    by_cases e : k = n
    · subst e
      rw [gTo_out k (Nat.le_refl _), updN_s]
      omega
    · rw [gTo_upd n (by omega), updN_n (fun q => e q.symm)]
      omega
theorem gTo_ge {f : Nat → Nat} : ∀ n k, k < n → f k ≤ gTo f n
  | 0, k, h => by omega
  | n + 1, k, h => by
    unfold gTo
    by_cases e : k = n
    · subst e; omega
    · have := gTo_ge (f := f) n k (by omega)
      omega
theorem p_lNadd (a b : Nat) : lN a + lN b = lN (a + b) := (Int64.ofNat_add a b).symm
theorem p_36a {α : Type} (K : Option α) : gA 36 37 K = K := p_gA (j := 36) (by omega) (by omega) K
theorem p_36c : Int32.toNatClampNeg 36 = 36 := by decide
theorem p_upE {f : Nat → Int32} {c : Nat → Nat} {n k v : Nat} (h : ∀ j, j < n → f j = nI (c j)) : ∀ j, j < n → upd f k (nI v) j = nI (updN c k v j) := by
  intro j hj
  by_cases e : j = k
  · subst e; rw [p_upS, updN_s]
  · rw [p_upN e, updN_n e]; exact h j hj
theorem p_upL {f : Nat → Int64} {c : Nat → Nat} {n k v : Nat} (h : ∀ j, j < n → f j = lN (c j)) : ∀ j, j < n → vp_updL f k (lN v) j = lN (updN c k v j) := by
  intro j hj
  by_cases e : j = k
  · subst e; rw [pk_uLs, updN_s]
  · rw [pk_uLn e, updN_n e]; exact h j hj
theorem p_spr {c : Nat → Nat} {ways : Nat → Int32} {ways' : Nat → Int64} {i : Nat} (hi : i < 36) (hc : ways i = nI (c i)) (hc' : ways' i = lN (c i)) (K : (Nat → Int64) → (Nat → Int64) → Int32 → Option ((Nat → Int64) × (Nat → Int64))) : ∀ (e w m m' : Nat) (cT : Nat → Nat) (waysOn : Nat → Int32) (waysThen : Nat → Int64), w + e = 4 → e < m → e < m' → (∀ j, j < 36 → waysOn j = nI (cT j)) → (∀ j, j < 37 → waysThen j = lN (cT j)) → ∃ cT1 waysOn1 waysThen1, fX2_spread_b2 ways m waysOn (nI i) (nI w) = some waysOn1 ∧ fX11_gust_b50 K m' ways' waysThen (nI i) (nI w) = K ways' waysThen1 (nI (i + 1)) ∧ (∀ j, j < 36 → waysOn1 j = nI (cT1 j)) ∧ (∀ j, j < 37 → waysThen1 j = lN (cT1 j)) ∧ gTo cT1 37 = gTo cT 37 + e * c i
  | _, _, 0, _, _, _, _, _, h, _, _, _ => by omega
  | _, _, _, 0, _, _, _, _, _, h, _, _ => by omega
  | 0, w, m + 1, m' + 1, cT, waysOn, waysThen, h1, _, _, h4, h5 => by
    have e : w = 4 := by omega
    subst e
    have h4' : (4 : Int32) ≤ nI 4 := by decide
    exact ⟨cT, waysOn, waysThen, by simp only [fX2_spread_b2, h4', ↓reduceIte], by simp only [fX11_gust_b50, h4', ↓reduceIte, nI_1], h4, h5, by omega⟩
  | e + 1, w, m + 1, m' + 1, cT, waysOn, waysThen, h1, h2, h3, h4, h5 => by
    have hw : w < 4 := by omega
    have hlt : ¬ (4 : Int32) ≤ nI w := nI_ge (b := 4) hw (by omega)
    have hwin := p_wind (n := 1) hi hw (by omega)
    have h1I : nI 1 = (1 : Int32) := rfl
    rw [h1I] at hwin
    have hA := fun {α : Type} (K : Option α) => p_gA (show i < 37 by omega) (show 37 < 2 ^ 31 by omega) K
    have hcl := p_cl (show i < 2 ^ 31 by omega)
    rcases hwin with ⟨d1, d2⟩ | ⟨r, hr, d1, d2, -⟩
    · have hnf : ¬ ((0 : Int32) ≤ -1 ∧ (-1 : Int32) < 36) := by decide
      obtain ⟨cT1, waysOn1, waysThen1, e1, e2, e3, e4, e5⟩ := p_spr hi hc hc' K e (w + 1) m m' (updN cT 36 (cT 36 + c i)) waysOn (vp_updL waysThen 36 (lN (cT 36 + c i))) (by omega) (by omega) (by omega) (fun j hj => by rw [updN_n (by omega)]; exact h4 j hj) (p_upL h5)
      refine ⟨cT1, waysOn1, waysThen1, ?_, ?_, e3, e4, ?_⟩
      · simp only [fX2_spread_b2, fX2_spread_b38, hlt, ↓reduceIte, d1, Option.bind_some, p_isField, hnf, nI_1, e1]
      · simp only [fX11_gust_b50, fX11_gust_b76, hlt, ↓reduceIte, d2, Option.bind_some, q_06, p_36a, p_36c, hA, hcl, h5 36 (by omega), hc', p_lNadd, nI_1, e2]
      · rw [e5, gTo_upd 37 (by omega), Nat.add_mul, Nat.one_mul]
        omega
    · have hB := fun {α : Type} (K : Option α) => p_gA hr (show 36 < 2 ^ 31 by omega) K
      have hB' := fun {α : Type} (K : Option α) => p_gA (show r < 37 by omega) (show 37 < 2 ^ 31 by omega) K
      have hrl := p_cl (show r < 2 ^ 31 by omega)
      have hf : (0 : Int32) ≤ nI r ∧ nI r < 36 := ⟨nI_pos' (by omega), p36l hr⟩
      obtain ⟨cT1, waysOn1, waysThen1, e1, e2, e3, e4, e5⟩ := p_spr hi hc hc' K e (w + 1) m m' (updN cT r (cT r + c i)) (upd waysOn r (nI (cT r + c i))) (vp_updL waysThen r (lN (cT r + c i))) (by omega) (by omega) (by omega) (p_upE h4) (p_upL h5)
      refine ⟨cT1, waysOn1, waysThen1, ?_, ?_, e3, e4, ?_⟩
      · simp only [fX2_spread_b2, fX2_spread_b38, hlt, ↓reduceIte, d1, Option.bind_some, p_isField, hf, and_self, q_ne, hB, hrl, p_at 36 (by omega) ways hi, hc, h4 r hr, nI_add, nI_1, e1]
      · simp only [fX11_gust_b50, fX11_gust_b76, hlt, ↓reduceIte, d2, Option.bind_some, nI_pos' (show r < 2 ^ 31 by omega), hB', hrl, hA, hcl, h5 r (by omega), hc', p_lNadd, nI_1, e2]
      · rw [e5, gTo_upd 37 (by omega), Nat.add_mul, Nat.one_mul]
        omega
theorem p_gf {c : Nat → Nat} {ways : Nat → Int32} {ways' : Nat → Int64} (hc : ∀ j, j < 36 → ways j = nI (c j)) (hc' : ∀ j, j < 37 → ways' j = lN (c j)) (K : (Nat → Int32) → (Nat → Int32) → Int32 → Int32 → Option ((Nat → Int32) × (Nat → Int32))) (x2 x3 : Int32) : ∀ (d i m m' : Nat) (cT : Nat → Nat) (waysOn : Nat → Int32) (waysThen : Nat → Int64), i + d = 36 → d < m → d < m' → (∀ j, j < 36 → waysOn j = nI (cT j)) → (∀ j, j < 37 → waysThen j = lN (cT j)) → ∃ cT1 waysOn1 waysThen1, fX2_countWays_b38 K m ways waysOn x2 x3 (nI i) = K waysOn1 waysOn1 x2 (x3 + 1) ∧ fX11_gust_b42 m' ways' waysThen (nI i) = fX11_gust_b100 1000 ways' waysThen1 0 ∧ (∀ j, j < 36 → waysOn1 j = nI (cT1 j)) ∧ (∀ j, j < 37 → waysThen1 j = lN (cT1 j)) ∧ gTo cT1 37 + 4 * gTo c i = gTo cT 37 + 4 * gTo c 36
  | _, _, 0, _, _, _, _, _, h, _, _, _ => by omega
  | _, _, _, 0, _, _, _, _, _, h, _, _ => by omega
  | 0, i, m + 1, m' + 1, cT, waysOn, waysThen, h1, _, _, h4, h5 => by
    have e : i = 36 := by omega
    subst e
    exact ⟨cT, waysOn, waysThen, by simp only [fX2_countWays_b38, p36y, ↓reduceIte], by simp only [fX11_gust_b42, p36y, ↓reduceIte], h4, h5, rfl⟩
  | d + 1, i, m + 1, m' + 1, cT, waysOn, waysThen, h1, h2, h3, h4, h5 => by
    have hi : i < 36 := by omega
    obtain ⟨cT1, waysOn1, waysThen1, e1, e2, e3, e4, e5⟩ := p_spr hi (hc i hi) (hc' i (by omega)) (fX11_gust_b42 m') 4 0 1000 1000 cT waysOn waysThen (by omega) (by omega) (by omega) h4 h5
    obtain ⟨cT2, waysOn2, waysThen2, g1, g2, g3, g4, g5⟩ := p_gf hc hc' K x2 x3 d (i + 1) m m' cT1 waysOn1 waysThen1 (by omega) (by omega) (by omega) e3 e4
    have e1' : fX2_spread ways waysOn (nI i) = some waysOn1 := e1
    have e2' : fX11_gust_b50 (fX11_gust_b42 m') 1000 ways' waysThen (nI i) 0 = fX11_gust_b42 m' ways' waysThen1 (nI (i + 1)) := e2
    refine ⟨cT2, waysOn2, waysThen2, by simp only [fX2_countWays_b38, p36n hi, ↓reduceIte, e1', Option.bind_some, nI_1, g1], by simp only [fX11_gust_b42, p36n hi, ↓reduceIte, e2', g2], g3, g4, ?_⟩
    have : gTo c (i + 1) = gTo c i + c i := rfl
    omega
theorem p_gcp {waysThen : Nat → Int64} : ∀ (d i m : Nat) (ways : Nat → Int64), i + d = 37 → d < m → (∀ j, j < i → ways j = waysThen j) → ∃ ways1, fX11_gust_b100 m ways waysThen (nI i) = some (ways1, waysThen) ∧ (∀ j, j < 37 → ways1 j = waysThen j)
  | _, _, 0, _, _, h, _ => by omega
  | 0, i, m + 1, ways, h1, _, h3 => by
    have e : i = 37 := by omega
    subst e
    have hlt : (36 : Int32) < nI 37 := by decide
    exact ⟨ways, by simp only [fX11_gust_b100, hlt, ↓reduceIte], h3⟩
  | d + 1, i, m + 1, ways, h1, h2, h3 => by
    have hi : i < 37 := by omega
    have hlt : ¬ (36 : Int32) < nI i := nI_nlt (a := 36) (by omega) (by omega)
    obtain ⟨ways1, e1, e2⟩ := p_gcp (waysThen := waysThen) d (i + 1) m (vp_updL ways i (waysThen i)) (by omega) (by omega) (fun j hj => by
      by_cases e : j = i
      · subst e; exact pk_uLs
      · rw [pk_uLn e]; exact h3 j (by omega))
    exact ⟨ways1, by simp only [fX11_gust_b100, hlt, ↓reduceIte, p_gA hi (show 37 < 2 ^ 31 by omega), p_cl (show i < 2 ^ 31 by omega), nI_1, e1], e2⟩
theorem p_gz {c : Nat → Nat} {ways : Nat → Int64} (hc : ways 36 = lN (c 36)) : ∀ (d i m : Nat) (waysThen : Nat → Int64), i + d = 37 → d < m → (∀ j, j < i → waysThen j = lN (if j = 36 then 4 * c 36 else 0)) → ∃ then1, fX11_gust_b2 m ways waysThen (nI i) = fX11_gust_b42 1000 ways then1 0 ∧ (∀ j, j < 37 → then1 j = lN (if j = 36 then 4 * c 36 else 0))
  | _, _, 0, _, _, h, _ => by omega
  | 0, i, m + 1, waysThen, h1, _, h3 => by
    have e : i = 37 := by omega
    subst e
    have hlt : (36 : Int32) < nI 37 := by decide
    exact ⟨waysThen, by simp only [fX11_gust_b2, hlt, ↓reduceIte], h3⟩
  | d + 1, i, m + 1, waysThen, h1, h2, h3 => by
    have hi : i < 37 := by omega
    have hlt : ¬ (36 : Int32) < nI i := nI_nlt (a := 36) (by omega) (by omega)
    have hA := fun {α : Type} (K : Option α) => p_gA hi (show 37 < 2 ^ 31 by omega) K
    have hcl := p_cl (show i < 2 ^ 31 by omega)
    obtain ⟨then1, e1, e2⟩ := p_gz (c := c) hc d (i + 1) m (vp_updL waysThen i (lN (if i = 36 then 4 * c 36 else 0))) (by omega) (by omega) (fun j hj => by
      by_cases e : j = i
      · subst e; exact pk_uLs
      · rw [pk_uLn e]; exact h3 j (by omega))
    refine ⟨then1, ?_, e2⟩
    by_cases e : i = 36
    · subst e
      have h36 : nI 36 = 36 := rfl
      have h4 : (4 : Int64) * lN (c 36) = lN (4 * c 36) := (Int64.ofNat_mul 4 _).symm
      rw [if_pos rfl] at e1
      rw [← e1]
      simp only [fX11_gust_b2, fX11_gust_b33, hlt, eq_true h36, ↓reduceIte, hA, hcl, hc, h4, nI_1]
    · have h36 : ¬ nI i = 36 := p_ne (b := 36) rfl (by omega) (by omega) e
      rw [if_neg e] at e1
      rw [← e1]
      simp only [fX11_gust_b2, fX11_gust_b33, hlt, h36, ↓reduceIte, hA, hcl, nI_1]
      rfl
theorem gTo_one (v : Nat) : ∀ n, n ≤ 36 → gTo (fun j => if j = 36 then v else 0) n = 0
  | 0, _ => rfl
  | n + 1, h => by
    unfold gTo
    rw [gTo_one v n (by omega), if_neg (by omega)]
theorem p_gust {c : Nat → Nat} {ways : Nat → Int32} {ways' : Nat → Int64} (hc : ∀ j, j < 36 → ways j = nI (c j)) (hc' : ∀ j, j < 37 → ways' j = lN (c j)) (K : (Nat → Int32) → (Nat → Int32) → Int32 → Int32 → Option ((Nat → Int32) × (Nat → Int32))) (x2 x3 : Int32) {on : Nat → Int32} (hon : ∀ j, j < 36 → on j = 0) (then' : Nat → Int64) : ∃ c1 on1 ways1 then1, fX2_countWays_b38 K 1000 ways on x2 x3 0 = K on1 on1 x2 (x3 + 1) ∧ fX11_gust ways' then' = some (ways1, then1) ∧ (∀ j, j < 36 → on1 j = nI (c1 j)) ∧ (∀ j, j < 37 → ways1 j = lN (c1 j)) ∧ gTo c1 37 = 4 * gTo c 37 := by
  obtain ⟨t0, a1, a2⟩ := p_gz (c := c) (hc' 36 (by omega)) 37 0 1000 then' (by omega) (by omega) (fun j hj => by omega)
  obtain ⟨c1, on1, t1, b1, b2, b3, b4, b5⟩ := p_gf hc hc' K x2 x3 36 0 1000 1000 (fun j => if j = 36 then 4 * c 36 else 0) on t0 (by omega) (by omega) (by omega) (fun j hj => by rw [hon j hj]; show (0 : Int32) = nI (if j = 36 then 4 * c 36 else 0); rw [if_neg (by omega)]; rfl) a2
  obtain ⟨w1, d1, d2⟩ := p_gcp (waysThen := t1) 37 0 1000 ways' (by omega) (by omega) (fun j hj => by omega)
  refine ⟨c1, on1, w1, t1, b1, ?_, b3, fun j hj => (d2 j hj).trans (b4 j hj), ?_⟩
  · unfold fX11_gust
    exact (a1.trans b2).trans d1
  · have h0 : gTo c 0 = 0 := rfl
    have h1 : gTo (fun j => if j = 36 then 4 * c 36 else 0) 37 = 4 * c 36 := by
      show gTo (fun j => if j = 36 then 4 * c 36 else 0) 36 + (if (36 : Nat) = 36 then 4 * c 36 else 0) = _
      rw [gTo_one _ 36 (by omega), if_pos rfl]
      omega
    have h2 : gTo c 37 = gTo c 36 + c 36 := rfl
    omega
