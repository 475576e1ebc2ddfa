/-! the steps: image, restore -/
theorem p_passW {p : Nat} (hp : p < 180) (kept : Nat → Int32) (x : Int32) : fX11_pass (nI p) 1 kept x = some (x, nI (p + 1), upd kept p x) := by
  simp only [fX11_pass, fX11_pass_b20, q_ne, ↓reduceIte, p_gA hp (show 180 < 2 ^ 31 by omega), p_cl (show p < 2 ^ 31 by omega), nI_1]
theorem p_passR {p : Nat} (hp : p < 180) (kept : Nat → Int32) (x : Int32) : fX11_pass (nI p) 0 kept x = some (kept p, nI (p + 1), upd kept p (kept p)) := by
  simp only [fX11_pass, fX11_pass_b20, q_ne, ↓reduceIte, p_gA hp (show 180 < 2 ^ 31 by omega), p_cl (show p < 2 ^ 31 by omega), nI_1]
theorem p_rowW {p N : Nat} (hp : p + N ≤ 180) : ∀ (d i n : Nat) (kept f : Nat → Int32), i + d = N → d < n → ∃ kept' f', fX11_passRow_b2 1 N n (nI (p + i)) kept f (nI N) (nI i) = some (nI (p + N), kept', f') ∧ (∀ k, k < N → f' k = f k) ∧ (∀ k, i ≤ k → k < N → kept' (p + k) = f k) ∧ (∀ m, (m < p + i ∨ p + N ≤ m) → kept' m = kept m)
  | _, _, 0, _, _, _, h => by omega
  | 0, i, n + 1, kept, f, h1, _ => by
    have e : i = N := by omega
    subst e
    exact ⟨kept, f, by simp only [fX11_passRow_b2, Int32.le_refl, ↓reduceIte], fun k _ => rfl, fun k a b => by omega, fun m _ => rfl⟩
  | d + 1, i, n + 1, kept, f, h1, h2 => by
    have hi : i < N := by omega
    obtain ⟨kept', f', e1, e2, e3, e4⟩ := p_rowW hp d (i + 1) n (upd kept (p + i) (f i)) (upd f i (f i)) (by omega) (by omega)
    have hf : ∀ k, upd f i (f i) k = f k := fun k => by
      by_cases e : k = i
      · subst e; exact p_upS
      · exact p_upN e
    refine ⟨kept', f', ?_, fun k hk => (e2 k hk).trans (hf k), fun k a b => ?_, fun m hm => ?_⟩
    · simp only [fX11_passRow_b2, show ¬ nI N ≤ nI i from nI_ge hi (by omega), ↓reduceIte, p_gA hi (show N < 2 ^ 31 by omega), p_cl (show i < 2 ^ 31 by omega), p_passW (show p + i < 180 by omega), Option.bind_some, nI_1]
      exact e1
    · by_cases e : k = i
      · subst e
        rw [e4 (p + k) (Or.inl (by omega)), p_upS]
      · rw [e3 k (by omega) b, hf k]
    · rw [e4 m (by omega), p_upN (by omega)]
theorem p_rowR {p N : Nat} (hp : p + N ≤ 180) : ∀ (d i n : Nat) (kept f : Nat → Int32), i + d = N → d < n → ∃ kept' f', fX11_passRow_b2 0 N n (nI (p + i)) kept f (nI N) (nI i) = some (nI (p + N), kept', f') ∧ (∀ k, i ≤ k → k < N → f' k = kept (p + k)) ∧ (∀ k, k < i → f' k = f k) ∧ (∀ m, kept' m = kept m)
  | _, _, 0, _, _, _, h => by omega
  | 0, i, n + 1, kept, f, h1, _ => by
    have e : i = N := by omega
    subst e
    exact ⟨kept, f, by simp only [fX11_passRow_b2, Int32.le_refl, ↓reduceIte], fun k a b => by omega, fun k _ => rfl, fun m => rfl⟩
  | d + 1, i, n + 1, kept, f, h1, h2 => by
    have hi : i < N := by omega
    obtain ⟨kept', f', e1, e2, e3, e4⟩ := p_rowR hp d (i + 1) n (upd kept (p + i) (kept (p + i))) (upd f i (kept (p + i))) (by omega) (by omega)
    have hf : ∀ k, upd kept (p + i) (kept (p + i)) k = kept k := fun k => by
      by_cases e : k = p + i
      · subst e; exact p_upS
      · exact p_upN e
    refine ⟨kept', f', ?_, fun k a b => ?_, fun k hk => ?_, fun m => (e4 m).trans (hf m)⟩
    · simp only [fX11_passRow_b2, show ¬ nI N ≤ nI i from nI_ge hi (by omega), ↓reduceIte, p_gA hi (show N < 2 ^ 31 by omega), p_cl (show i < 2 ^ 31 by omega), p_passR (show p + i < 180 by omega), Option.bind_some, nI_1]
      exact e1
    · by_cases e : k = i
      · subst e
        rw [e3 k (by omega), p_upS]
      · rw [e2 k (by omega) b, hf]
    · rw [e3 k (by omega), p_upN (by omega)]
theorem p_rW {p N : Nat} (hp : p + N ≤ 180) (hN : N < 1000) (kept f : Nat → Int32) {y : Int32} (hy : nI N = y) : ∃ kept' f', fX11_passRow (nI p) 1 kept N f y = some (nI (p + N), kept', f') ∧ (∀ k, k < N → f' k = f k) ∧ (∀ k, k < N → kept' (p + k) = f k) ∧ (∀ m, (m < p ∨ p + N ≤ m) → kept' m = kept m) := by
  subst hy
  obtain ⟨kept', f', e1, e2, e3, e4⟩ := p_rowW hp N 0 1000 kept f (by omega) hN
  exact ⟨kept', f', e1, e2, fun k hk => e3 k (Nat.zero_le _) hk, e4⟩
theorem p_rR {p N : Nat} (hp : p + N ≤ 180) (hN : N < 1000) (kept f : Nat → Int32) {y : Int32} (hy : nI N = y) : ∃ kept' f', fX11_passRow (nI p) 0 kept N f y = some (nI (p + N), kept', f') ∧ (∀ k, k < N → f' k = kept (p + k)) ∧ (∀ m, kept' m = kept m) := by
  subst hy
  obtain ⟨kept', f', e1, e2, e3, e4⟩ := p_rowR hp N 0 1000 kept f (by omega) hN
  exact ⟨kept', f', e1, fun k hk => e2 k (Nat.zero_le _) hk, e4⟩
theorem p_allW {o : Nat} (ho : o + 83 ≤ 180) (a b c d e f g : Int32) (at' stem lungs blown heap sb sf kept : Nat → Int32) :
    ∃ at1 stem1 lungs1 blown1 heap1 sb1 sf1 kept1, fX11_passAll a b c d e f g (nI o) 1 at' stem lungs blown heap sb sf kept = some (a, b, c, d, e, f, g, nI (o + 83), at1, stem1, lungs1, blown1, heap1, sb1, sf1, kept1) ∧ (∀ k, k < 6 → at1 k = at' k) ∧ (∀ k, k < 6 → stem1 k = stem k) ∧ (∀ k, k < 6 → lungs1 k = lungs k) ∧ (∀ k, k < 6 → blown1 k = blown k) ∧ (∀ k, k < 36 → heap1 k = heap k) ∧ (∀ k, k < 8 → sb1 k = sb k) ∧ (∀ k, k < 8 → sf1 k = sf k) ∧
      (kept1 o = a ∧ kept1 (o + 1) = b ∧ kept1 (o + 2) = c ∧ kept1 (o + 3) = d ∧ kept1 (o + 4) = e ∧ kept1 (o + 5) = f ∧ kept1 (o + 6) = g) ∧ (∀ k, k < 6 → kept1 (o + 7 + k) = at' k) ∧ (∀ k, k < 6 → kept1 (o + 13 + k) = stem k) ∧ (∀ k, k < 6 → kept1 (o + 19 + k) = lungs k) ∧ (∀ k, k < 6 → kept1 (o + 25 + k) = blown k) ∧ (∀ k, k < 36 → kept1 (o + 31 + k) = heap k) ∧ (∀ k, k < 8 → kept1 (o + 67 + k) = sb k) ∧ (∀ k, k < 8 → kept1 (o + 75 + k) = sf k) ∧ (∀ m, (m < o ∨ o + 83 ≤ m) → kept1 m = kept m) := by
  have s0 := fun K => p_passW (show o < 180 by omega) K a
  have s1 : ∀ K, fX11_pass (nI (o + 1)) 1 K b = some (b, nI (o + 2), upd K (o + 1) b) := fun K => p_passW (by omega) K b
  have s2 : ∀ K, fX11_pass (nI (o + 2)) 1 K c = some (c, nI (o + 3), upd K (o + 2) c) := fun K => p_passW (by omega) K c
  have s3 : ∀ K, fX11_pass (nI (o + 3)) 1 K d = some (d, nI (o + 4), upd K (o + 3) d) := fun K => p_passW (by omega) K d
  have s4 : ∀ K, fX11_pass (nI (o + 4)) 1 K e = some (e, nI (o + 5), upd K (o + 4) e) := fun K => p_passW (by omega) K e
  have s5 : ∀ K, fX11_pass (nI (o + 5)) 1 K f = some (f, nI (o + 6), upd K (o + 5) f) := fun K => p_passW (by omega) K f
  have s6 : ∀ K, fX11_pass (nI (o + 6)) 1 K g = some (g, nI (o + 7), upd K (o + 6) g) := fun K => p_passW (by omega) K g
  generalize hk0 : upd (upd (upd (upd (upd (upd (upd kept o a) (o + 1) b) (o + 2) c) (o + 3) d) (o + 4) e) (o + 5) f) (o + 6) g = k0
  have v0 : k0 o = a := by rw [← hk0, p_upN (by omega), p_upN (by omega), p_upN (by omega), p_upN (by omega), p_upN (by omega), p_upN (by omega), p_upS]
  have v1 : k0 (o + 1) = b := by rw [← hk0, p_upN (by omega), p_upN (by omega), p_upN (by omega), p_upN (by omega), p_upN (by omega), p_upS]
  have v2 : k0 (o + 2) = c := by rw [← hk0, p_upN (by omega), p_upN (by omega), p_upN (by omega), p_upN (by omega), p_upS]
  have v3 : k0 (o + 3) = d := by rw [← hk0, p_upN (by omega), p_upN (by omega), p_upN (by omega), p_upS]
  have v4 : k0 (o + 4) = e := by rw [← hk0, p_upN (by omega), p_upN (by omega), p_upS]
  have v5 : k0 (o + 5) = f := by rw [← hk0, p_upN (by omega), p_upS]
  have v6 : k0 (o + 6) = g := by rw [← hk0, p_upS]
  have v7 : ∀ m, (m < o ∨ o + 83 ≤ m) → k0 m = kept m := fun m hm => by
    rw [← hk0, p_upN (by omega), p_upN (by omega), p_upN (by omega), p_upN (by omega), p_upN (by omega), p_upN (by omega), p_upN (by omega)]
  obtain ⟨k1, at1, a1, a2, a3, a4⟩ := p_rW (p := o + 7) (N := 6) (by omega) (by omega) k0 at' (y := 6) rfl
  obtain ⟨k2, stem1, b1, b2, b3, b4⟩ := p_rW (p := o + 13) (N := 6) (by omega) (by omega) k1 stem (y := 6) rfl
  obtain ⟨k3, lungs1, c1, c2, c3, c4⟩ := p_rW (p := o + 19) (N := 6) (by omega) (by omega) k2 lungs (y := 6) rfl
  obtain ⟨k4, blown1, d1, d2, d3, d4⟩ := p_rW (p := o + 25) (N := 6) (by omega) (by omega) k3 blown (y := 6) rfl
  obtain ⟨k5, heap1, e1, e2, e3, e4⟩ := p_rW (p := o + 31) (N := 36) (by omega) (by omega) k4 heap (y := 36) rfl
  obtain ⟨k6, sb1, f1, f2, f3, f4⟩ := p_rW (p := o + 67) (N := 8) (by omega) (by omega) k5 sb (y := 8) rfl
  obtain ⟨k7, sf1, g1, g2, g3, g4⟩ := p_rW (p := o + 75) (N := 8) (by omega) (by omega) k6 sf (y := 8) rfl
  have a1' : fX11_passRow (nI (o + 7)) 1 k0 6 at' 6 = some (nI (o + 13), k1, at1) := a1
  have b1' : fX11_passRow (nI (o + 13)) 1 k1 6 stem 6 = some (nI (o + 19), k2, stem1) := b1
  have c1' : fX11_passRow (nI (o + 19)) 1 k2 6 lungs 6 = some (nI (o + 25), k3, lungs1) := c1
  have d1' : fX11_passRow (nI (o + 25)) 1 k3 6 blown 6 = some (nI (o + 31), k4, blown1) := d1
  have e1' : fX11_passRow (nI (o + 31)) 1 k4 36 heap 36 = some (nI (o + 67), k5, heap1) := e1
  have f1' : fX11_passRow (nI (o + 67)) 1 k5 8 sb 8 = some (nI (o + 75), k6, sb1) := f1
  have g1' : fX11_passRow (nI (o + 75)) 1 k6 8 sf 8 = some (nI (o + 83), k7, sf1) := g1
  have w0 : ∀ m, m < o + 7 → k7 m = k0 m := fun m hm => by
    rw [g4 m (by omega), f4 m (by omega), e4 m (by omega), d4 m (by omega), c4 m (by omega), b4 m (by omega), a4 m (by omega)]
  refine ⟨at1, stem1, lungs1, blown1, heap1, sb1, sf1, k7, ?_, a2, b2, c2, d2, e2, f2, g2, ⟨(w0 _ (by omega)).trans v0, (w0 _ (by omega)).trans v1, (w0 _ (by omega)).trans v2, (w0 _ (by omega)).trans v3, (w0 _ (by omega)).trans v4, (w0 _ (by omega)).trans v5, (w0 _ (by omega)).trans v6⟩, fun k hk => ?_, fun k hk => ?_, fun k hk => ?_, fun k hk => ?_, fun k hk => ?_, fun k hk => ?_, g3, fun m hm => ?_⟩
  · simp only [fX11_passAll, s0, s1, s2, s3, s4, s5, s6, Option.bind_some, hk0, a1', b1', c1', d1', e1', f1', g1']
  · rw [g4 _ (by omega), f4 _ (by omega), e4 _ (by omega), d4 _ (by omega), c4 _ (by omega), b4 _ (by omega), a3 k hk]
  · rw [g4 _ (by omega), f4 _ (by omega), e4 _ (by omega), d4 _ (by omega), c4 _ (by omega), b3 k hk]
  · rw [g4 _ (by omega), f4 _ (by omega), e4 _ (by omega), d4 _ (by omega), c3 k hk]
  · rw [g4 _ (by omega), f4 _ (by omega), e4 _ (by omega), d3 k hk]
  · rw [g4 _ (by omega), f4 _ (by omega), e3 k hk]
  · rw [g4 _ (by omega), f3 k hk]
  · rw [g4 _ (by omega), f4 _ (by omega), e4 _ (by omega), d4 _ (by omega), c4 _ (by omega), b4 _ (by omega), a4 _ (by omega), v7 m hm]
theorem p_allR {o : Nat} (ho : o + 83 ≤ 180) (a b c d e f g : Int32) (at' stem lungs blown heap sb sf kept : Nat → Int32) :
    ∃ at1 stem1 lungs1 blown1 heap1 sb1 sf1 kept1, fX11_passAll a b c d e f g (nI o) 0 at' stem lungs blown heap sb sf kept = some (kept o, kept (o + 1), kept (o + 2), kept (o + 3), kept (o + 4), kept (o + 5), kept (o + 6), nI (o + 83), at1, stem1, lungs1, blown1, heap1, sb1, sf1, kept1) ∧ (∀ k, k < 6 → at1 k = kept (o + 7 + k)) ∧ (∀ k, k < 6 → stem1 k = kept (o + 13 + k)) ∧ (∀ k, k < 6 → lungs1 k = kept (o + 19 + k)) ∧ (∀ k, k < 6 → blown1 k = kept (o + 25 + k)) ∧ (∀ k, k < 36 → heap1 k = kept (o + 31 + k)) ∧ (∀ k, k < 8 → sb1 k = kept (o + 67 + k)) ∧ (∀ k, k < 8 → sf1 k = kept (o + 75 + k)) ∧ (∀ m, kept1 m = kept m) := by
  have hs : ∀ (K : Nat → Int32) (p : Nat), upd K p (K p) = K := fun K p => by
    funext k
    by_cases e : k = p
    · subst e; exact p_upS
    · exact p_upN e
  have s0 : fX11_pass (nI o) 0 kept a = some (kept o, nI (o + 1), kept) := by rw [p_passR (by omega), hs]
  have s1 : fX11_pass (nI (o + 1)) 0 kept b = some (kept (o + 1), nI (o + 2), kept) := by rw [p_passR (by omega), hs]
  have s2 : fX11_pass (nI (o + 2)) 0 kept c = some (kept (o + 2), nI (o + 3), kept) := by rw [p_passR (by omega), hs]
  have s3 : fX11_pass (nI (o + 3)) 0 kept d = some (kept (o + 3), nI (o + 4), kept) := by rw [p_passR (by omega), hs]
  have s4 : fX11_pass (nI (o + 4)) 0 kept e = some (kept (o + 4), nI (o + 5), kept) := by rw [p_passR (by omega), hs]
  have s5 : fX11_pass (nI (o + 5)) 0 kept f = some (kept (o + 5), nI (o + 6), kept) := by rw [p_passR (by omega), hs]
  have s6 : fX11_pass (nI (o + 6)) 0 kept g = some (kept (o + 6), nI (o + 7), kept) := by rw [p_passR (by omega), hs]
  obtain ⟨k1, at1, a1, a2, a3⟩ := p_rR (p := o + 7) (N := 6) (by omega) (by omega) kept at' (y := 6) rfl
  obtain rfl : k1 = kept := funext a3
  obtain ⟨k2, stem1, b1, b2, b3⟩ := p_rR (p := o + 13) (N := 6) (by omega) (by omega) k1 stem (y := 6) rfl
  obtain rfl : k2 = k1 := funext b3
  obtain ⟨k3, lungs1, c1, c2, c3⟩ := p_rR (p := o + 19) (N := 6) (by omega) (by omega) k2 lungs (y := 6) rfl
  obtain rfl : k3 = k2 := funext c3
  obtain ⟨k4, blown1, d1, d2, d3⟩ := p_rR (p := o + 25) (N := 6) (by omega) (by omega) k3 blown (y := 6) rfl
  obtain rfl : k4 = k3 := funext d3
  obtain ⟨k5, heap1, e1, e2, e3⟩ := p_rR (p := o + 31) (N := 36) (by omega) (by omega) k4 heap (y := 36) rfl
  obtain rfl : k5 = k4 := funext e3
  obtain ⟨k6, sb1, f1, f2, f3⟩ := p_rR (p := o + 67) (N := 8) (by omega) (by omega) k5 sb (y := 8) rfl
  obtain rfl : k6 = k5 := funext f3
  obtain ⟨k7, sf1, g1, g2, g3⟩ := p_rR (p := o + 75) (N := 8) (by omega) (by omega) k6 sf (y := 8) rfl
  obtain rfl : k7 = k6 := funext g3
  have a1' : fX11_passRow (nI (o + 7)) 0 k7 6 at' 6 = some (nI (o + 13), k7, at1) := a1
  have b1' : fX11_passRow (nI (o + 13)) 0 k7 6 stem 6 = some (nI (o + 19), k7, stem1) := b1
  have c1' : fX11_passRow (nI (o + 19)) 0 k7 6 lungs 6 = some (nI (o + 25), k7, lungs1) := c1
  have d1' : fX11_passRow (nI (o + 25)) 0 k7 6 blown 6 = some (nI (o + 31), k7, blown1) := d1
  have e1' : fX11_passRow (nI (o + 31)) 0 k7 36 heap 36 = some (nI (o + 67), k7, heap1) := e1
  have f1' : fX11_passRow (nI (o + 67)) 0 k7 8 sb 8 = some (nI (o + 75), k7, sb1) := f1
  have g1' : fX11_passRow (nI (o + 75)) 0 k7 8 sf 8 = some (nI (o + 83), k7, sf1) := g1
  exact ⟨at1, stem1, lungs1, blown1, heap1, sb1, sf1, k7, by simp only [fX11_passAll, s0, s1, s2, s3, s4, s5, s6, Option.bind_some, a1', b1', c1', d1', e1', f1', g1'], a2, b2, c2, d2, e2, f2, g2, fun m => rfl⟩
/-- the same image in other clothes -/
theorem p_mcongr2 {t : Int32} {home seeds lungs blown ground at' stem lungs' blown' heap at2 stem2 lungs2 blown2 heap2 : Nat → Int32} (h : MRel t home seeds lungs blown ground at' stem lungs' blown' heap) (h0 : ∀ k, k < 6 → at2 k = at' k) (h1 : ∀ k, k < 6 → stem2 k = stem k) (h4 : ∀ k, k < 6 → lungs2 k = lungs' k) (h2 : ∀ k, k < 6 → blown2 k = blown' k) (h3 : ∀ j, j < 36 → heap2 j = heap j) : MRel t home seeds lungs blown ground at2 stem2 lungs2 blown2 heap2 :=
  ⟨fun k hk => (h0 k hk).trans (h.1 k hk), fun k hk hg => (h1 k hk).trans (h.2.1 k hk hg), fun k hk => (h4 k hk).trans (h.2.2.1 k hk), fun k hk => (h2 k hk).trans (h.2.2.2.1 k hk), fun j hj => (h3 j hj).trans (h.2.2.2.2 j hj)⟩
theorem p_scongr {cnt : Int32} {br fl : Nat → Int32} {sights : Int32} {sb sf sb2 sf2 : Nat → Int32} (h : SgtRel cnt br fl sights sb sf) (h1 : ∀ k, k < 8 → sb2 k = sb k) (h2 : ∀ k, k < 8 → sf2 k = sf k) : SgtRel cnt br fl sights sb2 sf2 := by
  obtain ⟨n, hn, a, b, c, d⟩ := h
  exact ⟨n, hn, a, b, fun i hi => ⟨(h1 i hi).trans (c i hi).1, (h2 i hi).trans (c i hi).2⟩, d⟩
theorem p_icongr {o : Nat} {kept kept' : Nat → Int32} {t w fo ra lost ho : Int32} {home seeds lungs blown ground : Nat → Int32} {cnt : Int32} {br fl : Nat → Int32} (h : ImgRel o kept t w fo ra lost ho home seeds lungs blown ground cnt br fl) (hk : ∀ m, o ≤ m → m < o + 83 → kept' m = kept m) : ImgRel o kept' t w fo ra lost ho home seeds lungs blown ground cnt br fl := by
  obtain ⟨⟨⟨e1, e2, e3, e4, e5, e6⟩, hMI, hMR⟩, hS⟩ := h
  refine ⟨⟨⟨(hk _ (by omega) (by omega)).trans e1, (hk _ (by omega) (by omega)).trans e2, (hk _ (by omega) (by omega)).trans e3, (hk _ (by omega) (by omega)).trans e4, (hk _ (by omega) (by omega)).trans e5, (hk _ (by omega) (by omega)).trans e6⟩, hMI, p_mcongr2 hMR (fun k h => hk _ (by omega) (by omega)) (fun k h => hk _ (by omega) (by omega)) (fun k h => hk _ (by omega) (by omega)) (fun k h => hk _ (by omega) (by omega)) (fun k h => hk _ (by omega) (by omega))⟩, ?_⟩
  rw [hk (o + 6) (by omega) (by omega)]
  exact p_scongr hS (fun k h => hk _ (by omega) (by omega)) (fun k h => hk _ (by omega) (by omega))
theorem p_kbits : ∀ n, n < 4 → (nI n ||| (1 <<< ((0 : Int32) &&& 31)) = nI (n ||| 1)) ∧ (nI n ||| (1 <<< ((1 : Int32) &&& 31)) = nI (n ||| 2)) ∧ ((nI n &&& (1 <<< ((0 : Int32) &&& 31)) = 0) ↔ n % 2 = 0) ∧ ((nI n &&& (1 <<< ((1 : Int32) &&& 31)) = 0) ↔ n / 2 = 0) ∧ (n ||| 1) < 4 ∧ (n ||| 2) < 4 ∧ (n ||| 1) % 2 = 1 ∧ (n ||| 1) / 2 = n / 2 ∧ (n ||| 2) / 2 = 1 ∧ (n ||| 2) % 2 = n % 2 := by decide +kernel
theorem p_90 : (90 : Int32) * 0 = nI 0 ∧ (90 : Int32) * 1 = nI 90 := by decide
theorem p_2 {α : Type} (K : Option α) : gA 0 2 K = K ∧ gA 1 2 K = K := ⟨p_gA (j := 0) (by omega) (by omega) K, p_gA (j := 1) (by omega) (by omega) K⟩
theorem p_2c : Int32.toNatClampNeg 0 = 0 ∧ Int32.toNatClampNeg 1 = 1 := by decide
theorem st_image : gStep_image gRel := by
  intro v_x_imagesKept v_x_firstImage_meadow_families v_x_firstImage_meadow_wind v_x_firstImage_meadow_force v_x_firstImage_meadow_rain v_x_firstImage_meadow_lost v_x_firstImage_meadow_hour v_x_firstImage_sights_count v_x_now_meadow_families v_x_now_meadow_wind v_x_now_meadow_force v_x_now_meadow_rain v_x_now_meadow_lost v_x_now_meadow_hour v_x_now_sights_count v_x_pad_signs v_x_pad_acts v_x_pad_reading v_x_pad_begun v_x_pad_brokenAt v_x_secondImage_meadow_families v_x_secondImage_meadow_wind v_x_secondImage_meadow_force v_x_secondImage_meadow_rain v_x_secondImage_meadow_lost v_x_secondImage_meadow_hour v_x_secondImage_sights_count f_x_firstImage_meadow_home f_x_firstImage_meadow_seeds f_x_firstImage_meadow_lungs f_x_firstImage_meadow_blown f_x_firstImage_meadow_ground f_x_firstImage_sights_breaths f_x_firstImage_sights_flews f_x_now_meadow_home f_x_now_meadow_seeds f_x_now_meadow_lungs f_x_now_meadow_blown f_x_now_meadow_ground f_x_now_sights_breaths f_x_now_sights_flews f_x_pad_kinds f_x_pad_firsts f_x_pad_seconds f_x_secondImage_meadow_home f_x_secondImage_meadow_seeds f_x_secondImage_meadow_lungs f_x_secondImage_meadow_blown f_x_secondImage_meadow_ground f_x_secondImage_sights_breaths f_x_secondImage_sights_flews v_m_there v_m_wind v_m_force v_m_rains v_m_lost v_m_hours v_m_sights v_m_padMany f_m_at f_m_stem f_m_lungs f_m_blown f_m_heap f_m_sightBreath f_m_sightFlew f_m_pad f_m_kept f_m_isKept v_m_keptAt v_m_isWriting a0 hRel
  obtain ⟨hN, hS, hP, hI⟩ := hRel
  obtain ⟨⟨e1, e2, e3, e4, e5, e6⟩, hMI, hMR⟩ := hN
  subst e1 e2 e3 e4 e5 e6
  rcases p_both a0 0 1 (l := 0) (h := 1) (a := 0) (b := 1) rfl rfl (by decide) (by decide) (by omega) (by omega) with ⟨w1, w2, -⟩ | ⟨q, -, hq, rfl, w1, w2⟩
  · exact ⟨_, _, _, _, _, _, _, _, _, _, _, _, _, _, _, _, _, _, _, _, _, _, _, _, _, _, _, _, _, _, _, _, _, _, _, _, _, _, _, _, _, _, _, _, _, _, _, _, by (simp only [fX10_image, w1, Option.bind_some, ↓reduceIte] <;> rfl), by (simp only [fX11_image, w2, Option.bind_some, ↓reduceIte] <;> rfl), ⟨⟨rfl, rfl, rfl, rfl, rfl, rfl⟩, hMI, hMR⟩, hS, hP, hI⟩
  obtain ⟨n, hn, rfl, i0, i1, i2, i3⟩ := hI
  obtain ⟨b1, b2, -, -, b5, b6, b7, b8, b9, b10⟩ := p_kbits n hn
  obtain rfl | rfl : q = 0 ∨ q = 1 := by omega
  · rw [show nI 0 = 0 from rfl] at w1 w2 ⊢
    obtain ⟨at1, stem1, lungs1, blown1, heap1, sb1, sf1, kept1, c0, c1, c2, c3, c4, c5, c6, c7, ⟨d0, d1, d2, d3, d4, d5, d6⟩, d7, d8, d9, d10, d11, d12, d13, d14⟩ := p_allW (o := 0) (by omega) v_m_there v_m_wind v_m_force v_m_rains v_m_lost v_m_hours v_m_sights f_m_at f_m_stem f_m_lungs f_m_blown f_m_heap f_m_sightBreath f_m_sightFlew f_m_kept
    have hNow : ImgRel 0 kept1 v_m_there v_m_wind v_m_force v_m_rains v_m_lost v_m_hours f_x_now_meadow_home f_x_now_meadow_seeds f_x_now_meadow_lungs f_x_now_meadow_blown f_x_now_meadow_ground v_x_now_sights_count f_x_now_sights_breaths f_x_now_sights_flews := ⟨⟨⟨d0, d1, d2, d3, d4, d5⟩, hMI, p_mcongr2 hMR d7 d8 d9 d10 d11⟩, by rw [d6]; exact p_scongr hS d12 d13⟩
    exact ⟨_, _, _, _, _, _, _, _, _, _, _, _, _, _, _, _, _, _, _, _, _, _, _, _, _, _, _, _, _, _, _, _, _, _, _, _, _, _, _, _, _, _, _, _, _, _, _, _, by (simp only [fX10_image, fX10_imageOf, fX4_copyFrom, fX6_copyFrom, fX9_copyFrom, w1, b1, Option.bind_some, ↓reduceIte, q_ne] <;> rfl), by (simp only [fX11_image, w2, p_90, c0, (p_2 _).1, p_2c, Option.bind_some, ↓reduceIte, q_ne] <;> rfl), ⟨⟨rfl, rfl, rfl, rfl, rfl, rfl⟩, hMI, p_mcongr2 hMR c1 c2 c3 c4 c5⟩, p_scongr hS c6 c7, hP, ⟨n ||| 1, b5, rfl, fun h => by omega, fun _ => ⟨p_upS, hNow⟩, fun h => by rw [p_upN (by omega)]; exact i2 (by omega), fun h => by rw [p_upN (by omega)]; exact ⟨(i3 (by omega)).1, p_icongr (i3 (by omega)).2 (fun m h1 h2 => d14 m (by omega))⟩⟩⟩
  · rw [show nI 1 = 1 from rfl] at w1 w2 ⊢
    obtain ⟨at1, stem1, lungs1, blown1, heap1, sb1, sf1, kept1, c0, c1, c2, c3, c4, c5, c6, c7, ⟨d0, d1, d2, d3, d4, d5, d6⟩, d7, d8, d9, d10, d11, d12, d13, d14⟩ := p_allW (o := 90) (by omega) v_m_there v_m_wind v_m_force v_m_rains v_m_lost v_m_hours v_m_sights f_m_at f_m_stem f_m_lungs f_m_blown f_m_heap f_m_sightBreath f_m_sightFlew f_m_kept
    have hNow : ImgRel 90 kept1 v_m_there v_m_wind v_m_force v_m_rains v_m_lost v_m_hours f_x_now_meadow_home f_x_now_meadow_seeds f_x_now_meadow_lungs f_x_now_meadow_blown f_x_now_meadow_ground v_x_now_sights_count f_x_now_sights_breaths f_x_now_sights_flews := ⟨⟨⟨d0, d1, d2, d3, d4, d5⟩, hMI, p_mcongr2 hMR d7 d8 d9 d10 d11⟩, by rw [d6]; exact p_scongr hS d12 d13⟩
    exact ⟨_, _, _, _, _, _, _, _, _, _, _, _, _, _, _, _, _, _, _, _, _, _, _, _, _, _, _, _, _, _, _, _, _, _, _, _, _, _, _, _, _, _, _, _, _, _, _, _, by (simp only [fX10_image, fX10_imageOf, fX4_copyFrom, fX6_copyFrom, fX9_copyFrom, w1, b2, Option.bind_some, ↓reduceIte, q_ne] <;> rfl), by (simp only [fX11_image, w2, p_90, c0, (p_2 _).2, p_2c, Option.bind_some, ↓reduceIte, q_ne] <;> rfl), ⟨⟨rfl, rfl, rfl, rfl, rfl, rfl⟩, hMI, p_mcongr2 hMR c1 c2 c3 c4 c5⟩, p_scongr hS c6 c7, hP, ⟨n ||| 2, b6, rfl, fun h => by rw [p_upN (by omega)]; exact i0 (by omega), fun h => by rw [p_upN (by omega)]; exact ⟨(i1 (by omega)).1, p_icongr (i1 (by omega)).2 (fun m h1 h2 => d14 m (by omega))⟩, fun h => by omega, fun _ => ⟨p_upS, hNow⟩⟩⟩

theorem st_restore : gStep_restore gRel := by
  intro v_x_imagesKept v_x_firstImage_meadow_families v_x_firstImage_meadow_wind v_x_firstImage_meadow_force v_x_firstImage_meadow_rain v_x_firstImage_meadow_lost v_x_firstImage_meadow_hour v_x_firstImage_sights_count v_x_now_meadow_families v_x_now_meadow_wind v_x_now_meadow_force v_x_now_meadow_rain v_x_now_meadow_lost v_x_now_meadow_hour v_x_now_sights_count v_x_pad_signs v_x_pad_acts v_x_pad_reading v_x_pad_begun v_x_pad_brokenAt v_x_secondImage_meadow_families v_x_secondImage_meadow_wind v_x_secondImage_meadow_force v_x_secondImage_meadow_rain v_x_secondImage_meadow_lost v_x_secondImage_meadow_hour v_x_secondImage_sights_count f_x_firstImage_meadow_home f_x_firstImage_meadow_seeds f_x_firstImage_meadow_lungs f_x_firstImage_meadow_blown f_x_firstImage_meadow_ground f_x_firstImage_sights_breaths f_x_firstImage_sights_flews f_x_now_meadow_home f_x_now_meadow_seeds f_x_now_meadow_lungs f_x_now_meadow_blown f_x_now_meadow_ground f_x_now_sights_breaths f_x_now_sights_flews f_x_pad_kinds f_x_pad_firsts f_x_pad_seconds f_x_secondImage_meadow_home f_x_secondImage_meadow_seeds f_x_secondImage_meadow_lungs f_x_secondImage_meadow_blown f_x_secondImage_meadow_ground f_x_secondImage_sights_breaths f_x_secondImage_sights_flews v_m_there v_m_wind v_m_force v_m_rains v_m_lost v_m_hours v_m_sights v_m_padMany f_m_at f_m_stem f_m_lungs f_m_blown f_m_heap f_m_sightBreath f_m_sightFlew f_m_pad f_m_kept f_m_isKept v_m_keptAt v_m_isWriting a0 hRel
  obtain ⟨hN, hS, hP, hI⟩ := hRel
  rcases p_both a0 0 1 (l := 0) (h := 1) (a := 0) (b := 1) rfl rfl (by decide) (by decide) (by omega) (by omega) with ⟨w1, w2, -⟩ | ⟨q, -, hq, rfl, w1, w2⟩
  · exact ⟨_, _, _, _, _, _, _, _, _, _, _, _, _, _, _, _, _, _, _, _, _, _, _, _, _, _, _, _, _, _, _, _, by (simp only [fX10_restore, w1, Option.bind_some, ↓reduceIte] <;> rfl), by (simp only [fX11_restore, w2, Option.bind_some, ↓reduceIte] <;> rfl), hN, hS, hP, hI⟩
  obtain ⟨n, hn, rfl, i0, i1, i2, i3⟩ := id hI
  obtain ⟨-, -, b3, b4, -⟩ := p_kbits n hn
  obtain rfl | rfl : q = 0 ∨ q = 1 := by omega
  · rw [show nI 0 = 0 from rfl] at w1 w2 ⊢
    by_cases h : n % 2 = 0
    · exact ⟨_, _, _, _, _, _, _, _, _, _, _, _, _, _, _, _, _, _, _, _, _, _, _, _, _, _, _, _, _, _, _, _, by (simp only [fX10_restore, w1, b3.mpr h, Option.bind_some, ↓reduceIte, q_ne] <;> rfl), by (simp only [fX11_restore, w2, (p_2 _).1, p_2c, i0 h, Option.bind_some, ↓reduceIte, q_ne] <;> rfl), hN, hS, hP, hI⟩
    · obtain ⟨j1, j2, j3⟩ := i1 (by omega)
      obtain ⟨at1, stem1, lungs1, blown1, heap1, sb1, sf1, kept1, c0, c1, c2, c3, c4, c5, c6, c7, c8⟩ := p_allR (o := 0) (by omega) v_m_there v_m_wind v_m_force v_m_rains v_m_lost v_m_hours v_m_sights f_m_at f_m_stem f_m_lungs f_m_blown f_m_heap f_m_sightBreath f_m_sightFlew f_m_kept
      obtain rfl : kept1 = f_m_kept := funext c8
      exact ⟨_, _, _, _, _, _, _, _, _, _, _, _, _, _, _, _, _, _, _, _, _, _, _, _, _, _, _, _, _, _, _, _, by (simp only [fX10_restore, fX10_imageOf, fX4_copyFrom, fX6_copyFrom, fX9_copyFrom, w1, show ¬ _ = _ from fun z => h (b3.mp z), Option.bind_some, ↓reduceIte, q_ne] <;> rfl), by (simp only [fX11_restore, w2, p_90, c0, (p_2 _).1, p_2c, j1, Option.bind_some, ↓reduceIte, q_ne] <;> rfl), ⟨j2.1, j2.2.1, p_mcongr2 j2.2.2 c1 c2 c3 c4 c5⟩, p_scongr j3 c6 c7, hP, hI⟩
  · rw [show nI 1 = 1 from rfl] at w1 w2 ⊢
    by_cases h : n / 2 = 0
    · exact ⟨_, _, _, _, _, _, _, _, _, _, _, _, _, _, _, _, _, _, _, _, _, _, _, _, _, _, _, _, _, _, _, _, by (simp only [fX10_restore, w1, b4.mpr h, Option.bind_some, ↓reduceIte, q_ne] <;> rfl), by (simp only [fX11_restore, w2, (p_2 _).2, p_2c, i2 h, Option.bind_some, ↓reduceIte, q_ne] <;> rfl), hN, hS, hP, hI⟩
    · obtain ⟨j1, j2, j3⟩ := i3 (by omega)
      obtain ⟨at1, stem1, lungs1, blown1, heap1, sb1, sf1, kept1, c0, c1, c2, c3, c4, c5, c6, c7, c8⟩ := p_allR (o := 90) (by omega) v_m_there v_m_wind v_m_force v_m_rains v_m_lost v_m_hours v_m_sights f_m_at f_m_stem f_m_lungs f_m_blown f_m_heap f_m_sightBreath f_m_sightFlew f_m_kept
      obtain rfl : kept1 = f_m_kept := funext c8
      exact ⟨_, _, _, _, _, _, _, _, _, _, _, _, _, _, _, _, _, _, _, _, _, _, _, _, _, _, _, _, _, _, _, _, by (simp only [fX10_restore, fX10_imageOf, fX4_copyFrom, fX6_copyFrom, fX9_copyFrom, w1, show ¬ _ = _ from fun z => h (b4.mp z), Option.bind_some, ↓reduceIte, q_ne] <;> rfl), by (simp only [fX11_restore, w2, p_90, c0, (p_2 _).2, p_2c, j1, Option.bind_some, ↓reduceIte, q_ne] <;> rfl), ⟨j2.1, j2.2.1, p_mcongr2 j2.2.2 c1 c2 c3 c4 c5⟩, p_scongr j3 c6 c7, hP, hI⟩

