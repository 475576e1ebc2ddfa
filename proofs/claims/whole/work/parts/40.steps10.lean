/-! the step: gusts, its end -/
theorem p_l4 (x : Nat) : lN x * 4 = lN (x * 4) := (Int64.ofNat_mul x 4).symm
theorem p_gusts1 {N i : Nat} (hlt : ¬ nI N ≤ nI i) (x2 x4 : Int32) (m m' : Nat) {c : Nat → Nat} {ways on : Nat → Int32} {ways' then' : Nat → Int64} (h4 : ∀ j, j < 36 → ways j = nI (c j)) (h5 : ∀ j, j < 37 → ways' j = lN (c j)) (P : Nat) : ∃ c1 on1 ways1 then1, fX2_countWays_b23 (m + 1) ways on (nI N) (nI i) = fX2_countWays_b23 m on1 on1 (nI N) (nI i + 1) ∧ fX11_gusts_b88 (m' + 1) ways' then' x2 (nI N) x4 (lN P) (nI i) = fX11_gusts_b88 m' ways1 then1 x2 (nI N) x4 (lN P * 4) (nI i + 1) ∧ (∀ j, j < 36 → on1 j = nI (c1 j)) ∧ (∀ j, j < 37 → ways1 j = lN (c1 j)) ∧ gTo c1 37 = 4 * gTo c 37 := by
  obtain ⟨o0, a1, a2⟩ := p_clearRow (N := 36) (by omega) on
  obtain ⟨c1, on1, ways1, then1, b1, b2, b3, b4, b5⟩ := p_gust h4 h5 (fX2_countWays_b23 m) (nI N) (nI i) a2 then'
  refine ⟨c1, on1, ways1, then1, ?_, ?_, b3, b4, b5⟩
  · rw [← b1, fX2_countWays_b23, if_neg hlt, a1, Option.bind_some]
  · rw [fX11_gusts_b88, if_neg hlt, b2, Option.bind_some]
theorem p_gusts0 {N : Nat} (x2 x4 : Int32) (P : Nat → Nat) (hP : ∀ i, P (i + 1) = P i * 4) (hN : N < 1000) : ∀ (d i m m' : Nat) (c : Nat → Nat) (ways on : Nat → Int32) (ways' then' : Nat → Int64), i + d = N → d < m → d < m' → (∀ j, j < 36 → ways j = nI (c j)) → (∀ j, j < 37 → ways' j = lN (c j)) → gTo c 37 = P i → ∃ c1 ways1 on1 ways1' then1, fX2_countWays_b23 m ways on (nI N) (nI i) = some (ways1, on1) ∧ fX11_gusts_b88 m' ways' then' x2 (nI N) x4 (lN (P i)) (nI i) = fX11_gusts_b88 1 ways1' then1 x2 (nI N) x4 (lN (P N)) (nI N) ∧ (∀ j, j < 36 → ways1 j = nI (c1 j)) ∧ (∀ j, j < 37 → ways1' j = lN (c1 j)) ∧ gTo c1 37 = P N := by
  intro d
  induction d with
  | zero =>
    intro i m m' c ways on ways' then' h1 h2 h3 h4 h5 h6
    have e : i = N := by omega
    subst e
    obtain ⟨m, rfl⟩ : ∃ q, m = q + 1 := ⟨m - 1, by omega⟩
    obtain ⟨m', rfl⟩ : ∃ q, m' = q + 1 := ⟨m' - 1, by omega⟩
    exact ⟨c, ways, on, ways', then', by simp only [fX2_countWays_b23, Int32.le_refl, ↓reduceIte], by simp only [fX11_gusts_b88, Int32.le_refl, ↓reduceIte], h4, h5, h6⟩
  | succ d ih =>
    intro i m m' c ways on ways' then' h1 h2 h3 h4 h5 h6
    obtain ⟨m, rfl⟩ : ∃ q, m = q + 1 := ⟨m - 1, by omega⟩
    obtain ⟨m', rfl⟩ : ∃ q, m' = q + 1 := ⟨m' - 1, by omega⟩
    have hlt : ¬ nI N ≤ nI i := nI_ge (by omega) (by omega)
    obtain ⟨c1, on1, ways1, then1, b1, b2, b3, b4, b5⟩ := p_gusts1 (on := on) (then' := then') hlt x2 x4 m m' h4 h5 (P i)
    rw [nI_1] at b1 b2
    rw [p_l4, ← hP] at b2
    obtain ⟨c2, ways2, on2, ways2', then2, d1, d2, d3, d4, d5⟩ := ih (i + 1) m m' c1 on1 on1 ways1 then1 (by omega) (by omega) (by omega) b3 b4 (by rw [b5, h6, hP, Nat.mul_comm])
    exact ⟨c2, ways2, on2, ways2', then2, b1.trans d1, b2.trans d2, d3, d4, d5⟩
theorem p_ini {a : Nat} (ha : a < 36) (x2 x3 x4 : Int32) (then' : Nat → Int64) : ∀ (d i m : Nat) (ways : Nat → Int64), i + d = 37 → d < m → (∀ j, j < i → ways j = lN (if j = a then 1 else 0)) → ∃ ways1, fX11_gusts_b51 m ways then' (nI a) x2 x3 x4 (nI i) = fX11_gusts_b88 1000 ways1 then' x2 x3 x4 1 0 ∧ (∀ j, j < 37 → ways1 j = lN (if j = a then 1 else 0))
  | _, _, 0, _, _, h, _ => by omega
  | 0, i, m + 1, ways, h1, _, h3 => by
    have e : i = 37 := by omega
    subst e
    have hlt : (36 : Int32) < nI 37 := by decide
    exact ⟨ways, by simp only [fX11_gusts_b51, hlt, ↓reduceIte], h3⟩
  | d + 1, i, m + 1, ways, h1, h2, h3 => by
    have hi : i < 37 := by omega
    have hlt : ¬ (36 : Int32) < nI i := nI_nlt (a := 36) (by omega) (by omega)
    have hA := fun {α : Type} (K : Option α) => p_gA hi (show 37 < 2 ^ 31 by omega) K
    have hcl := p_cl (show i < 2 ^ 31 by omega)
    obtain ⟨ways1, e1, e2⟩ := p_ini ha x2 x3 x4 then' d (i + 1) m (vp_updL ways i (lN (if i = a then 1 else 0))) (by omega) (by omega) (fun j hj => by
      by_cases e : j = i
      · subst e; exact pk_uLs
      · rw [pk_uLn e]; exact h3 j (by omega))
    refine ⟨ways1, ?_, e2⟩
    by_cases e : i = a
    · subst e
      rw [if_pos rfl] at e1
      rw [← e1]
      simp only [fX11_gusts_b51, fX11_gusts_b75, hlt, ↓reduceIte, hA, hcl, nI_1]
      rfl
    · have h36 : ¬ nI i = nI a := fun h => e ((nI_eq (by omega) (by omega)).mp h)
      rw [if_neg e] at e1
      rw [← e1]
      simp only [fX11_gusts_b51, fX11_gusts_b75, hlt, h36, ↓reduceIte, hA, hcl, nI_1]
      rfl
def gHv (q : Int32) : Nat → Int32 → Int32 → Int64
  | 0, x5, x6 => if q = 0 then x6.toInt64 else x5.toInt64
  | d + 1, x5, x6 => if x6 % 2 = 0 then gHv q d (x5 / 2) (x6 / 2) else if q = 0 then x6.toInt64 else x5.toInt64
theorem p_half2 {N : Nat} (hN : N ≤ 5) (q : Int32) (ways on : Nat → Int32) : ∀ (d i m : Nat) (x5 x6 : Int32), i + d = 2 * N → d < m → fX2_chance_b44 m ways on (nI N) q x5 x6 (nI i) = some (gHv q d x5 x6, ways, on)
  | _, _, 0, _, _, _, h => by omega
  | 0, i, m + 1, x5, x6, h1, _ => by
    have e2 : (2 : Int32) * nI N = nI (2 * N) := pk_mul 2 N
    have hle : nI (2 * N) ≤ nI i := nI_le (by omega) (by omega)
    by_cases hq : q = 0
    · simp only [fX2_chance_b44, fX2_chance_b77, fX2_chance_b91, e2, hle, ↓reduceIte, gHv, hq]
    · simp only [fX2_chance_b44, fX2_chance_b77, fX2_chance_b91, e2, hle, ↓reduceIte, gHv, hq]
  | d + 1, i, m + 1, x5, x6, h1, h2 => by
    have e2 : (2 : Int32) * nI N = nI (2 * N) := pk_mul 2 N
    have hle : ¬ nI (2 * N) ≤ nI i := nI_ge (by omega) (by omega)
    by_cases hm : x6 % 2 = 0
    · simp only [fX2_chance_b44, e2, hle, hm, ↓reduceIte, gHv, nI_1, p_half2 hN q ways on d (i + 1) m (x5 / 2) (x6 / 2) (by omega) (by omega)]
    · by_cases hq : q = 0
      · simp only [fX2_chance_b44, fX2_chance_b77, fX2_chance_b91, e2, hle, hm, ↓reduceIte, gHv, hq]
      · simp only [fX2_chance_b44, fX2_chance_b77, fX2_chance_b91, e2, hle, hm, ↓reduceIte, gHv, hq]
theorem p_lowchk : (List.range 6).all (fun N => (List.range (4 ^ N + 1)).all (fun h => (List.range 2).all (fun q => fX11_lowest (lN h) (lN (4 ^ N)) (nI q) == some (gHv (nI q) (2 * N) (nI (4 ^ N)) (nI h))))) = true := by decide +kernel
theorem p_low {N h q : Nat} (hN : N ≤ 5) (hh : h ≤ 4 ^ N) (hq : q ≤ 1) : fX11_lowest (lN h) (lN (4 ^ N)) (nI q) = some (gHv (nI q) (2 * N) (nI (4 ^ N)) (nI h)) := by
  have h1 := List.all_eq_true.mp (List.all_eq_true.mp (List.all_eq_true.mp p_lowchk N (List.mem_range.mpr (by omega))) h (List.mem_range.mpr (by omega))) q (List.mem_range.mpr (by omega))
  exact eq_of_beq h1
theorem p_4N {N : Nat} (hN : N ≤ 5) : (1 : Int32) <<< ((2 * nI N) &&& 31) = nI (4 ^ N) ∧ 4 ^ N ≤ 1024 := by
  have : ∀ n, n < 6 → (1 : Int32) <<< ((2 * nI n) &&& 31) = nI (4 ^ n) ∧ 4 ^ n ≤ 1024 := by decide +kernel
  exact this N (by omega)
theorem p_smN {f : Nat → Int32} {c : Nat → Nat} (hc : ∀ j, j < 36 → f j = nI (c j)) : ∀ (d i n : Nat), i + d = 36 → d < n → fX10_sumOfRow_b4 36 f n (nI (gTo c i)) (nI i) = some (nI (gTo c 36))
  | _, _, 0, _, h => by omega
  | 0, i, n + 1, h1, _ => by
    have e : i = 36 := by omega
    subst e
    simp only [fX10_sumOfRow_b4, show Int32.ofNat 36 ≤ nI 36 from nI_le (Nat.le_refl _) (by omega), ↓reduceIte]
  | d + 1, i, n + 1, h1, h2 => by
    have hi : i < 36 := by omega
    have ih := p_smN hc d (i + 1) n (by omega) (by omega)
    have e : gTo c (i + 1) = gTo c i + c i := rfl
    rw [e] at ih
    simp only [fX10_sumOfRow_b4, show ¬ Int32.ofNat 36 ≤ nI i from nI_ge hi (by omega), ↓reduceIte, p_gA hi (show 36 < 2 ^ 31 by omega), p_cl (show i < 2 ^ 31 by omega), hc i hi, nI_add, nI_1, ih]
theorem gTo_in {a : Nat} : ∀ n, gTo (fun j => if j = a then 1 else 0) n = if a < n then 1 else 0
  | 0 => by rw [if_neg (by omega)]; rfl
  | n + 1 => by
    show gTo (fun j => if j = a then 1 else 0) n + (if n = a then 1 else 0) = _
    rw [gTo_in n]
    by_cases h : n = a
    · subst h
      rw [if_neg (by omega), if_pos rfl, if_pos (by omega)]
    · by_cases h2 : a < n
      · rw [if_pos h2, if_neg h, if_pos (by omega)]
      · rw [if_neg h2, if_neg h, if_neg (by omega)]
theorem p_bothG (x : Int32) : (x = -1 ∧ fX11_in x.toInt64 (-1) 35 = some 1) ∨ (∃ k : Nat, k < 36 ∧ x = nI k ∧ fX10_isField x = some 1 ∧ fX11_in x.toInt64 (-1) 35 = some 1) ∨ (¬ x = -1 ∧ fX10_isField x = some 0 ∧ fX11_in x.toInt64 (-1) 35 = some 0) := by
  have hin := p_in32 x (-1) 35 (-1) 35 (by decide) (by decide)
  by_cases h1 : x = -1
  · subst h1
    exact Or.inl ⟨rfl, by rw [hin, if_pos (by decide)]⟩
  · rcases p_bothF x with ⟨w1, w2⟩ | ⟨j, hj, rfl, w1, w2⟩
    · refine Or.inr (Or.inr ⟨h1, w1, ?_⟩)
      rw [hin, if_neg]
      rintro ⟨a, b⟩
      have hx : ¬ (0 ≤ x ∧ x < 36) := by
        intro h
        rw [p_isField, if_pos h] at w1
        exact absurd w1 (by decide)
      apply hx
      have a' := Int32.le_iff_toInt_le.mp a
      have b' := Int32.le_iff_toInt_le.mp b
      rw [show (-1 : Int32).toInt = -1 from by decide] at a'
      rw [show (35 : Int32).toInt = 35 from by decide] at b'
      have h1' : ¬ x.toInt = -1 := fun e => h1 (Int32.toInt_inj.mp (by rw [e]; decide))
      rw [Int32.le_iff_toInt_le, Int32.lt_iff_toInt_lt, Int32.toInt_zero, show (36 : Int32).toInt = 36 from by decide]
      omega
    · refine Or.inr (Or.inl ⟨j, hj, rfl, w1, ?_⟩)
      rw [hin, if_pos]
      refine ⟨?_, (p_36 _).mp (p36l hj)⟩
      rw [Int32.le_iff_toInt_le, nI_toInt (by omega), show (-1 : Int32).toInt = -1 from by decide]
      omega
theorem co_gusts (ways on : Nat → Int32) (ways' then' : Nat → Int64) (x1 x2 x3 x4 : Int32) : ∃ r ways1 on1 ways1' then1, fX10_gusts ways on x1 x2 x3 x4 = some (r, ways1, on1) ∧ fX11_gusts ways' then' x1 x2 x3 x4 = some (r, ways1', then1) := by
  have h17 : (x2 = -1 → fX10_gusts ways on x1 x2 x3 x4 = fX10_gusts_b17 ways on x1 x2 x3 x4 1) ∧ (¬ x2 = -1 → ∀ s, fX10_isField x2 = some s → fX10_gusts ways on x1 x2 x3 x4 = fX10_gusts_b17 ways on x1 x2 x3 x4 (if s = 0 then 0 else 1)) := by
    refine ⟨fun h => by simp only [fX10_gusts, fX10_gusts_b12, h, ↓reduceIte], fun h s hs => ?_⟩
    by_cases h0 : s = 0
    · simp only [fX10_gusts, h, ↓reduceIte, hs, Option.bind_some, h0]
    · simp only [fX10_gusts, fX10_gusts_b12, h, ↓reduceIte, hs, Option.bind_some, h0]
  rcases p_bothF x1 with ⟨w1, w2⟩ | ⟨a, ha, rfl, w1, w2⟩
  · have hb : ∀ s, fX10_gusts_b17 ways on x1 x2 x3 x4 s = some (-1000000000000000002, ways, on) := fun s => by simp only [fX10_gusts_b17, fX10_gusts_b50, w1, Option.bind_some, ↓reduceIte]
    refine ⟨-1000000000000000002, ways, on, ways', then', ?_, by simp only [fX11_gusts, fX11_gusts_b44, w2, Option.bind_some, ↓reduceIte]⟩
    by_cases h : x2 = -1
    · rw [h17.1 h, hb]
    · rcases p_bothF x2 with ⟨z, -⟩ | ⟨j, hj, e, z, -⟩
      · rw [h17.2 h _ z, hb]
      · rw [h17.2 h _ z, hb]
  rcases p_bothG x2 with hG | hG | ⟨h1, h2, h3⟩
  rotate_left 2
  · exact ⟨-1000000000000000002, ways, on, ways', then', by rw [h17.2 h1 _ h2]; simp only [fX10_gusts_b17, fX10_gusts_b50, w1, Option.bind_some, ↓reduceIte, q_ne], by simp only [fX11_gusts, fX11_gusts_b44, w2, h3, Option.bind_some, ↓reduceIte, q_ne]⟩
  all_goals
    have hx2 : fX10_gusts ways on (nI a) x2 x3 x4 = fX10_gusts_b17 ways on (nI a) x2 x3 x4 1 ∧ fX11_in x2.toInt64 (-1) 35 = some 1 ∧ (x2 = -1 ∨ (¬ x2 = -1 ∧ ∃ k : Nat, k < 36 ∧ x2 = nI k)) := by
      first
        | exact ⟨h17.1 hG.1, hG.2, Or.inl hG.1⟩
        | (obtain ⟨k, hk, e, z1, z2⟩ := hG
           have hm : ¬ x2 = -1 := by rw [e]; exact p_m1 (by omega)
           exact ⟨by rw [h17.2 hm _ z1, if_neg (by decide)], z2, Or.inr ⟨hm, k, hk, e⟩⟩)
    clear hG h17
    obtain ⟨hx2a, w4, hx2b⟩ := hx2
    rw [hx2a]
    rcases p_both x3 0 5 (l := 0) (h := 5) (a := 0) (b := 5) rfl rfl (by decide) (by decide) (by omega) (by omega) with ⟨w5, w6, -⟩ | ⟨N, -, hN, rfl, w5, w6⟩
    · exact ⟨-1000000000000000002, ways, on, ways', then', by simp only [fX10_gusts_b17, fX10_gusts_b50, w1, w5, Option.bind_some, ↓reduceIte, q_ne], by simp only [fX11_gusts, fX11_gusts_b44, w2, w4, w6, Option.bind_some, ↓reduceIte, q_ne]⟩
    rcases p_both x4 0 1 (l := 0) (h := 1) (a := 0) (b := 1) rfl rfl (by decide) (by decide) (by omega) (by omega) with ⟨w7, w8, -⟩ | ⟨q, -, hq, rfl, w7, w8⟩
    · exact ⟨-1000000000000000002, ways, on, ways', then', by simp only [fX10_gusts_b17, fX10_gusts_b50, w1, w5, w7, Option.bind_some, ↓reduceIte, q_ne], by simp only [fX11_gusts, fX11_gusts_b44, w2, w4, w6, w8, Option.bind_some, ↓reduceIte, q_ne]⟩
    obtain ⟨r5, a1, a2⟩ := p_clearRow (N := 36) (by omega) ways
    obtain ⟨u0, b1, b2⟩ := p_ini ha x2 (nI N) (nI q) then' 37 0 1000 ways' (by omega) (by omega) (fun j hj => by omega)
    have hini : ∀ j, j < 36 → upd r5 a 1 j = nI ((fun j => if j = a then 1 else 0) j) := by
      intro j hj
      by_cases e : j = a
      · subst e
        rw [p_upS]
        show (1 : Int32) = nI (if j = j then 1 else 0)
        rw [if_pos rfl]
        rfl
      · rw [p_upN e, a2 j hj]
        show (0 : Int32) = nI (if j = a then 1 else 0)
        rw [if_neg e]
        rfl
    obtain ⟨c1, ways1, on1, ways1', then1, d1, d2, d3, d4, d5⟩ := p_gusts0 x2 (nI q) (fun i => 4 ^ i) (fun i => Nat.pow_succ 4 i) (show N < 1000 by omega) N 0 1000 1000 (fun j => if j = a then 1 else 0) (upd r5 a 1) on u0 then' (by omega) (by omega) (by omega) hini b2 (by rw [gTo_in, if_pos (by omega)])
    obtain ⟨p1, p2⟩ := p_4N hN
    have hcw : fX2_countWays ways on (nI a) (nI N) = some (ways1, on1) := by
      unfold fX2_countWays fX2_countWays_b21
      rw [a1, Option.bind_some, w1, Option.bind_some, if_neg (by decide), p_gA ha (by omega), p_cl (by omega)]
      exact d1
    have hmo : fX11_gusts ways' then' (nI a) x2 (nI N) (nI q) = fX11_gusts_b88 1 ways1' then1 x2 (nI N) (nI q) (lN (4 ^ N)) (nI N) := by
      unfold fX11_gusts
      rw [w2, Option.bind_some, if_neg (by decide), w4, Option.bind_some, if_neg (by decide), w6, Option.bind_some, if_neg (by decide), w8, Option.bind_some, if_neg (by decide)]
      exact b1.trans d2
    have h37 : gTo c1 37 = gTo c1 36 + c1 36 := rfl
    rcases hx2b with rfl | ⟨hm, k, hk, rfl⟩
    · have hh : c1 36 ≤ 4 ^ N := by omega
      have hlow := p_low hN hh hq
      have hs : fX10_sumOfRow 36 ways1 = some (nI (gTo c1 36)) := p_smN d3 36 0 1000 (by omega) (by omega)
      have hsub : nI (4 ^ N) - nI (gTo c1 36) = nI (c1 36) := by
        rw [pk_sub (by omega)]
        congr 1
        omega
      have h44 := p_half2 hN (nI q) ways1 on1 (2 * N) 0 1000 (nI (4 ^ N)) (nI (c1 36)) (by omega) (by omega)
      have h44' : fX2_chance_b44 1000 ways1 on1 (nI N) (nI q) (nI (4 ^ N)) (nI (c1 36)) 0 = _ := h44
      exact ⟨_, _, _, _, _, by (simp only [fX10_gusts_b17, fX2_chance, fX2_chance_b39, w1, w5, w7, Option.bind_some, ↓reduceIte, q_ne, hcw, hs, p1, hsub, h44'] <;> rfl), by (simp only [hmo, fX11_gusts_b88, fX11_gusts_b126, Int32.le_refl, q_le, ↓reduceIte, p_36a, p_36c, d4 36 (by omega), hlow, Option.bind_some] <;> rfl)⟩
    · have hh : c1 k ≤ 4 ^ N := by
        have := gTo_ge (f := c1) 37 k (by omega)
        omega
      have hlow := p_low hN hh hq
      have h44 := p_half2 hN (nI q) ways1 on1 (2 * N) 0 1000 (nI (4 ^ N)) (nI (c1 k)) (by omega) (by omega)
      have h44' : fX2_chance_b44 1000 ways1 on1 (nI N) (nI q) (nI (4 ^ N)) (nI (c1 k)) 0 = _ := h44
      exact ⟨_, _, _, _, _, by (simp only [fX10_gusts_b17, fX2_chance, fX2_chance_b39, w1, w5, w7, Option.bind_some, ↓reduceIte, q_ne, hcw, hm, p_at 36 (by omega) ways1 hk, d3 k hk, p1, h44'] <;> rfl), by (simp only [hmo, fX11_gusts_b88, fX11_gusts_b126, Int32.le_refl, nI_pos' (show k < 2 ^ 31 by omega), ↓reduceIte, p_gA (show k < 37 by omega) (show 37 < 2 ^ 31 by omega), p_cl (show k < 2 ^ 31 by omega), d4 k (by omega), hlow, Option.bind_some] <;> rfl)⟩
theorem st_gusts : gStep_gusts gRel := by
  intro v_x_imagesKept v_x_firstImage_meadow_families v_x_firstImage_meadow_wind v_x_firstImage_meadow_force v_x_firstImage_meadow_rain v_x_firstImage_meadow_lost v_x_firstImage_meadow_hour v_x_firstImage_sights_count v_x_now_meadow_families v_x_now_meadow_wind v_x_now_meadow_force v_x_now_meadow_rain v_x_now_meadow_lost v_x_now_meadow_hour v_x_now_sights_count v_x_pad_signs v_x_pad_acts v_x_pad_reading v_x_pad_begun v_x_pad_brokenAt v_x_secondImage_meadow_families v_x_secondImage_meadow_wind v_x_secondImage_meadow_force v_x_secondImage_meadow_rain v_x_secondImage_meadow_lost v_x_secondImage_meadow_hour v_x_secondImage_sights_count f_x_firstImage_meadow_home f_x_firstImage_meadow_seeds f_x_firstImage_meadow_lungs f_x_firstImage_meadow_blown f_x_firstImage_meadow_ground f_x_firstImage_sights_breaths f_x_firstImage_sights_flews f_x_now_meadow_home f_x_now_meadow_seeds f_x_now_meadow_lungs f_x_now_meadow_blown f_x_now_meadow_ground f_x_now_sights_breaths f_x_now_sights_flews f_x_pad_kinds f_x_pad_firsts f_x_pad_seconds f_x_secondImage_meadow_home f_x_secondImage_meadow_seeds f_x_secondImage_meadow_lungs f_x_secondImage_meadow_blown f_x_secondImage_meadow_ground f_x_secondImage_sights_breaths f_x_secondImage_sights_flews v_m_there v_m_wind v_m_force v_m_rains v_m_lost v_m_hours v_m_sights v_m_padMany f_m_at f_m_stem f_m_lungs f_m_blown f_m_heap f_m_sightBreath f_m_sightFlew f_m_pad f_m_kept f_m_isKept f_x_flight_ways f_x_flight_waysOn f_m_ways f_m_waysThen a0 a1 a2 a3 hRel
  obtain ⟨hN, hS, hP, hI⟩ := hRel
  obtain ⟨r, ways1, on1, ways1', then1, e1, e2⟩ := co_gusts f_x_flight_ways f_x_flight_waysOn f_m_ways f_m_waysThen a0 a1 a2 a3
  exact ⟨_, _, _, _, _, e1, e2, hN, hS, hP, hI⟩

