/-! pure facts: kept and given back; the hours on trial -/
def gHad (had : Nat → Int32) (w fo ra lost ho : Int32) (stem blown heap : Nat → Int32) : Prop :=
  (∀ k, k < 6 → had k = stem k) ∧ (∀ k, k < 6 → had (6 + k) = blown k) ∧ (∀ j, j < 36 → had (12 + j) = heap j) ∧ had 48 = w ∧ had 49 = fo ∧ had 50 = ra ∧ had 51 = lost ∧ had 52 = ho
theorem p_53 {α : Type} (K : Option α) : gA 48 53 K = K ∧ gA 49 53 K = K ∧ gA 50 53 K = K ∧ gA 51 53 K = K ∧ gA 52 53 K = K :=
  ⟨p_gA (j := 48) (by omega) (by omega) K, p_gA (j := 49) (by omega) (by omega) K, p_gA (j := 50) (by omega) (by omega) K, p_gA (j := 51) (by omega) (by omega) K, p_gA (j := 52) (by omega) (by omega) K⟩
theorem p_53c : Int32.toNatClampNeg 48 = 48 ∧ Int32.toNatClampNeg 49 = 49 ∧ Int32.toNatClampNeg 50 = 50 ∧ Int32.toNatClampNeg 51 = 51 ∧ Int32.toNatClampNeg 52 = 52 := by decide
theorem p_12 (i : Nat) : (12 : Int32) + nI i = nI (12 + i) := nI_add 12 i
theorem p_06 (i : Nat) : (6 : Int32) + nI i = nI (6 + i) := nI_add 6 i
theorem p_keep2 {w fo ra lost ho : Int32} {stem blown heap : Nat → Int32} : ∀ (d i n : Nat) (had : Nat → Int32), i + d = 36 → d < n → (∀ k, k < 6 → had k = stem k) → (∀ k, k < 6 → had (6 + k) = blown k) → (∀ j, j < i → had (12 + j) = heap j) → ∃ had', fX11_keepNow_b43 w fo ra lost ho heap n had (nI i) = some had' ∧ gHad had' w fo ra lost ho stem blown heap
  | _, _, 0, _, _, h, _, _, _ => by omega
  | 0, i, n + 1, had, h1, _, a1, a2, a3 => by
    have e : i = 36 := by omega
    subst e
    refine ⟨upd (upd (upd (upd (upd had 48 w) 49 fo) 50 ra) 51 lost) 52 ho, ?_, ?_⟩
    · simp only [fX11_keepNow_b43, p36y, ↓reduceIte, (p_53 _).1, (p_53 _).2.1, (p_53 _).2.2.1, (p_53 _).2.2.2.1, (p_53 _).2.2.2.2, p_53c]
    · refine ⟨fun k hk => ?_, fun k hk => ?_, fun j hj => ?_, ?_, ?_, ?_, ?_, ?_⟩
      · rw [p_upN (by omega), p_upN (by omega), p_upN (by omega), p_upN (by omega), p_upN (by omega)]; exact a1 k hk
      · rw [p_upN (by omega), p_upN (by omega), p_upN (by omega), p_upN (by omega), p_upN (by omega)]; exact a2 k hk
      · rw [p_upN (by omega), p_upN (by omega), p_upN (by omega), p_upN (by omega), p_upN (by omega)]; exact a3 j hj
      · rw [p_upN (by omega), p_upN (by omega), p_upN (by omega), p_upN (by omega), p_upS]
      · rw [p_upN (by omega), p_upN (by omega), p_upN (by omega), p_upS]
      · rw [p_upN (by omega), p_upN (by omega), p_upS]
      · rw [p_upN (by omega), p_upS]
      · rw [p_upS]
  | d + 1, i, n + 1, had, h1, h2, a1, a2, a3 => by
    have hi : i < 36 := by omega
    obtain ⟨had', e1, e2⟩ := p_keep2 (w := w) (fo := fo) (ra := ra) (lost := lost) (ho := ho) (stem := stem) (blown := blown) (heap := heap) d (i + 1) n (upd had (12 + i) (heap i)) (by omega) (by omega) (fun k hk => by rw [p_upN (by omega)]; exact a1 k hk) (fun k hk => by rw [p_upN (by omega)]; exact a2 k hk) (fun j hj => by
      by_cases e : j = i
      · subst e; exact p_upS
      · rw [p_upN (by omega)]; exact a3 j (by omega))
    refine ⟨had', ?_, e2⟩
    simp only [fX11_keepNow_b43, p36n hi, ↓reduceIte, p_12, p_gA hi (show 36 < 2 ^ 31 by omega), p_gA (show 12 + i < 53 by omega) (show 53 < 2 ^ 31 by omega), p_cl (show i < 2 ^ 31 by omega), p_cl (show 12 + i < 2 ^ 31 by omega), nI_1]
    exact e1
theorem p_keep1 {w fo ra lost ho : Int32} {stem blown heap : Nat → Int32} : ∀ (d i n : Nat) (had : Nat → Int32), i + d = 6 → d < n → (∀ k, k < i → had k = stem k) → (∀ k, k < i → had (6 + k) = blown k) → ∃ had', fX11_keepNow_b2 w fo ra lost ho stem blown heap n had (nI i) = some had' ∧ gHad had' w fo ra lost ho stem blown heap
  | _, _, 0, _, _, h, _, _ => by omega
  | 0, i, n + 1, had, h1, _, a1, a2 => by
    have e : i = 6 := by omega
    subst e
    obtain ⟨had', e1, e2⟩ := p_keep2 (w := w) (fo := fo) (ra := ra) (lost := lost) (ho := ho) (stem := stem) (blown := blown) (heap := heap) 36 0 1000 had (by omega) (by omega) a1 a2 (fun j hj => by omega)
    refine ⟨had', ?_, e2⟩
    simp only [fX11_keepNow_b2, p6y, ↓reduceIte]
    exact e1
  | d + 1, i, n + 1, had, h1, h2, a1, a2 => by
    have hi : i < 6 := by omega
    obtain ⟨had', e1, e2⟩ := p_keep1 (w := w) (fo := fo) (ra := ra) (lost := lost) (ho := ho) (stem := stem) (blown := blown) (heap := heap) d (i + 1) n (upd (upd had i (stem i)) (6 + i) (blown i)) (by omega) (by omega) (fun k hk => by
      rw [p_upN (by omega)]
      by_cases e : k = i
      · subst e; exact p_upS
      · rw [p_upN (by omega)]; exact a1 k (by omega)) (fun k hk => by
      by_cases e : k = i
      · subst e; exact p_upS
      · rw [p_upN (by omega), p_upN (by omega)]; exact a2 k (by omega))
    refine ⟨had', ?_, e2⟩
    simp only [fX11_keepNow_b2, p6n hi, ↓reduceIte, p_06, p_gA hi (show 6 < 2 ^ 31 by omega), p_gA (show i < 53 by omega) (show 53 < 2 ^ 31 by omega), p_gA (show 6 + i < 53 by omega) (show 53 < 2 ^ 31 by omega), p_cl (show i < 2 ^ 31 by omega), p_cl (show 6 + i < 2 ^ 31 by omega), nI_1]
    exact e1
theorem p_keep (w fo ra lost ho : Int32) (stem blown heap had : Nat → Int32) : ∃ had', fX11_keepNow w fo ra lost ho stem blown heap had = some had' ∧ gHad had' w fo ra lost ho stem blown heap :=
  p_keep1 6 0 1000 had (by omega) (by omega) (fun k hk => by omega) (fun k hk => by omega)
theorem p_back2 {had : Nat → Int32} {w fo ra lost ho x : Int32} {stem blown : Nat → Int32} : ∀ (d i n : Nat) (heap : Nat → Int32), i + d = 36 → d < n → (∀ j, j < i → heap j = had (12 + j)) → ∃ heap', fX11_back_b43 had n w fo ra lost ho stem blown heap x (nI i) = some (x, had 48, had 49, had 50, had 51, had 52, stem, blown, heap') ∧ (∀ j, j < 36 → heap' j = had (12 + j))
  | _, _, 0, _, _, h, _ => by omega
  | 0, i, n + 1, heap, h1, _, a1 => by
    have e : i = 36 := by omega
    subst e
    refine ⟨heap, ?_, a1⟩
    simp only [fX11_back_b43, p36y, ↓reduceIte, (p_53 _).1, (p_53 _).2.1, (p_53 _).2.2.1, (p_53 _).2.2.2.1, (p_53 _).2.2.2.2, p_53c]
  | d + 1, i, n + 1, heap, h1, h2, a1 => by
    have hi : i < 36 := by omega
    obtain ⟨heap', e1, e2⟩ := p_back2 (had := had) (w := w) (fo := fo) (ra := ra) (lost := lost) (ho := ho) (x := x) (stem := stem) (blown := blown) d (i + 1) n (upd heap i (had (12 + i))) (by omega) (by omega) (fun j hj => by
      by_cases e : j = i
      · subst e; exact p_upS
      · rw [p_upN (by omega)]; exact a1 j (by omega))
    refine ⟨heap', ?_, e2⟩
    simp only [fX11_back_b43, p36n hi, ↓reduceIte, p_12, p_gA hi (show 36 < 2 ^ 31 by omega), p_gA (show 12 + i < 53 by omega) (show 53 < 2 ^ 31 by omega), p_cl (show i < 2 ^ 31 by omega), p_cl (show 12 + i < 2 ^ 31 by omega), nI_1]
    exact e1
theorem p_back1 {had : Nat → Int32} {w fo ra lost ho x : Int32} {heap : Nat → Int32} : ∀ (d i n : Nat) (stem blown : Nat → Int32), i + d = 6 → d < n → (∀ k, k < i → stem k = had k) → (∀ k, k < i → blown k = had (6 + k)) → ∃ stem' blown' heap', fX11_back_b2 had n w fo ra lost ho stem blown heap x (nI i) = some (x, had 48, had 49, had 50, had 51, had 52, stem', blown', heap') ∧ (∀ k, k < 6 → stem' k = had k) ∧ (∀ k, k < 6 → blown' k = had (6 + k)) ∧ (∀ j, j < 36 → heap' j = had (12 + j))
  | _, _, 0, _, _, _, h, _, _ => by omega
  | 0, i, n + 1, stem, blown, h1, _, a1, a2 => by
    have e : i = 6 := by omega
    subst e
    obtain ⟨heap', e1, e2⟩ := p_back2 (had := had) (w := w) (fo := fo) (ra := ra) (lost := lost) (ho := ho) (x := x) (stem := stem) (blown := blown) 36 0 1000 heap (by omega) (by omega) (fun j hj => by omega)
    refine ⟨stem, blown, heap', ?_, a1, a2, e2⟩
    simp only [fX11_back_b2, p6y, ↓reduceIte]
    exact e1
  | d + 1, i, n + 1, stem, blown, h1, h2, a1, a2 => by
    have hi : i < 6 := by omega
    obtain ⟨stem', blown', heap', e1, e2⟩ := p_back1 (had := had) (w := w) (fo := fo) (ra := ra) (lost := lost) (ho := ho) (x := x) (heap := heap) d (i + 1) n (upd stem i (had i)) (upd blown i (had (6 + i))) (by omega) (by omega) (fun k hk => by
      by_cases e : k = i
      · subst e; exact p_upS
      · rw [p_upN (by omega)]; exact a1 k (by omega)) (fun k hk => by
      by_cases e : k = i
      · subst e; exact p_upS
      · rw [p_upN (by omega)]; exact a2 k (by omega))
    refine ⟨stem', blown', heap', ?_, e2⟩
    simp only [fX11_back_b2, p6n hi, ↓reduceIte, p_06, p_gA hi (show 6 < 2 ^ 31 by omega), p_gA (show i < 53 by omega) (show 53 < 2 ^ 31 by omega), p_gA (show 6 + i < 53 by omega) (show 53 < 2 ^ 31 by omega), p_cl (show i < 2 ^ 31 by omega), p_cl (show 6 + i < 2 ^ 31 by omega), nI_1]
    exact e1
theorem p_back {had : Nat → Int32} {w fo ra lost ho : Int32} {stem blown heap : Nat → Int32} (h : gHad had w fo ra lost ho stem blown heap) (w1 fo1 ra1 lost1 ho1 x : Int32) (stem1 blown1 heap1 : Nat → Int32) : ∃ stem' blown' heap', fX11_back w1 fo1 ra1 lost1 ho1 stem1 blown1 heap1 had x = some (x, w, fo, ra, lost, ho, stem', blown', heap') ∧ (∀ k, k < 6 → stem' k = stem k) ∧ (∀ k, k < 6 → blown' k = blown k) ∧ (∀ j, j < 36 → heap' j = heap j) := by
  obtain ⟨stem', blown', heap', e1, e2, e3, e4⟩ := p_back1 (had := had) (w := w1) (fo := fo1) (ra := ra1) (lost := lost1) (ho := ho1) (x := x) (heap := heap1) 6 0 1000 stem1 blown1 (by omega) (by omega) (fun k hk => by omega) (fun k hk => by omega)
  obtain ⟨a1, a2, a3, rfl, rfl, rfl, rfl, rfl⟩ := h
  exact ⟨stem', blown', heap', e1, fun k hk => (e2 k hk).trans (a1 k hk), fun k hk => (e3 k hk).trans (a2 k hk), fun j hj => (e4 j hj).trans (a3 j hj)⟩
theorem p_mcongr {t : Int32} {home seeds lungs blown ground at' stem lungs' blown' heap stem2 blown2 heap2 : Nat → Int32} (h : MRel t home seeds lungs blown ground at' stem lungs' blown' heap) (h1 : ∀ k, k < 6 → stem2 k = stem k) (h2 : ∀ k, k < 6 → blown2 k = blown' k) (h3 : ∀ j, j < 36 → heap2 j = heap j) : MRel t home seeds lungs blown ground at' stem2 lungs' blown2 heap2 :=
  ⟨h.1, fun k hk hg => (h1 k hk).trans (h.2.1 k hk hg), h.2.2.1, fun k hk => (h2 k hk).trans (h.2.2.2.1 k hk), fun j hj => (h3 j hj).trans (h.2.2.2.2 j hj)⟩
/-- the hours on trial, both sides -/
theorem p_run {t w fo ra lost ho : Int32} {home seeds lungs blown ground at' stem lungs' blown' heap : Nat → Int32} (hI : MInv t w fo ra ho home seeds lungs blown ground) (hR : MRel t home seeds lungs blown ground at' stem lungs' blown' heap) {signs pacts reading begun brokenAt padMany : Int32} {kinds firsts seconds pad : Nat → Int32} (hP : PadRel signs pacts reading begun brokenAt kinds firsts seconds padMany pad) (x1 x2 x3 x4 x5 x6 x7 x8 x9 x10 x11 : Int32) (g1 g2 g3 g4 g5 : Nat → Int32) (y1 y2 y3 y4 y5 y6 : Int32) (A0 W0 M0 had0 : Nat → Int32) :
    ∃ ac A W M had, gHad had w fo ra lost ho stem blown' heap ∧ ((fX5_run t w fo ra lost ho signs pacts reading brokenAt x1 x2 x3 x4 x5 x6 x7 x8 x9 x10 x11 home seeds lungs blown ground kinds firsts seconds g1 g2 g3 g4 g5 = some (-5, x1, x2, x3, x4, x5, x6, x7, x8, x9, x10, x11, g1, g2, g3, g4, g5) ∧ fX11_refusal t w fo ra lost ho padMany y1 y2 y3 y4 y5 y6 at' stem lungs' blown' heap pad A0 W0 M0 had0 = some (-5, w, fo, ra, lost, ho, ac, y2, y3, y4, y5, y6, stem, blown', heap, A, W, M, had)) ∨
      ac = pacts ∧ ∃ s0 s1 ba bw fl rA rF w1 fo1 ra1 lost1 ho1 seeds1 blown1 ground1 stem1 blown2 heap1, fX5_run t w fo ra lost ho signs pacts reading brokenAt x1 x2 x3 x4 x5 x6 x7 x8 x9 x10 x11 home seeds lungs blown ground kinds firsts seconds g1 g2 g3 g4 g5 = some (s0, ba, bw, fl, rA, rF, t, w1, fo1, ra1, lost1, ho1, home, seeds1, lungs, blown1, ground1) ∧ fX11_refusal t w fo ra lost ho padMany y1 y2 y3 y4 y5 y6 at' stem lungs' blown' heap pad A0 W0 M0 had0 = some (s1, w1, fo1, ra1, lost1, ho1, pacts, fl, ba, bw, rA, rF, stem1, blown2, heap1, A, W, M, had) ∧ MInv t w1 fo1 ra1 ho1 home seeds1 lungs blown1 ground1 ∧ MRel t home seeds1 lungs blown1 ground1 at' stem1 lungs' blown2 heap1 ∧ ((s0 = 0 ∧ s1 = -6) ∨ (s0 = -3 ∧ s1 = -3))) := by
  obtain ⟨had, k1, k2⟩ := p_keep w fo ra lost ho stem blown' heap had0
  obtain ⟨v, ac, A, W, M, f1, f2, f3⟩ := p_fault hP y1 A0 W0 M0
  refine ⟨ac, A, W, M, had, k2, ?_⟩
  rcases f3 with ⟨rfl, rfl, a, ha, rfl, f4, f5⟩ | ⟨f3, f4⟩
  · obtain ⟨s0, ba, bw, fl1, rA1, rF1, w1, fo1, ra1, lost1, ho1, seeds1, blown1, ground1, stem1, blown2, heap1, e1, e2, e3, e4, e5⟩ := p_hours ha f5 f4 a 0 1000 1000 w fo ra ho lost 0 (-6) (-6) seeds blown ground stem blown' heap (by omega) (by omega) (by omega) (Or.inl rfl) hI hR
    have e1' : fX5_run_b51 (nI a) kinds firsts seconds 1000 (-6) (-6) 0 (-6) (-6) t w fo ra lost ho home seeds lungs blown ground 0 = some (s0, ba, bw, fl1, rA1, rF1, t, w1, fo1, ra1, lost1, ho1, home, seeds1, lungs, blown1, ground1) := e1
    have e2' : fX11_goHours t w fo ra lost ho (nI a) y2 y3 y4 y5 y6 at' stem lungs' blown' heap A W M = some (w1, fo1, ra1, lost1, ho1, fl1, ba, bw, rA1, rF1, stem1, blown2, heap1) := e2
    refine Or.inr ⟨rfl, s0, if ba < 0 then -6 else -3, ba, bw, fl1, rA1, rF1, w1, fo1, ra1, lost1, ho1, seeds1, blown1, ground1, stem1, blown2, heap1, ?_, ?_, e3, e4, ?_⟩
    · simp only [fX5_run, f1, Option.bind_some, ↓reduceIte, fX6_copyFrom, e1']
    · simp only [fX11_refusal, k1, f2, Option.bind_some, q_ltT, ↓reduceIte, e2', fX11_refusal_b32]
      by_cases h : ba < 0
      · rw [if_pos h, if_pos h]
      · rw [if_neg h, if_neg h]
    · rcases e5 with ⟨rfl, rfl⟩ | ⟨⟨k, hk, rfl⟩, rfl⟩
      · exact Or.inl ⟨rfl, by decide⟩
      · exact Or.inr ⟨rfl, if_neg (nI_pos (by omega))⟩
  · refine Or.inl ⟨?_, ?_⟩
    · simp only [fX5_run, f1, Option.bind_some, f3, ↓reduceIte]
    · simp only [fX11_refusal, k1, f2, Option.bind_some, Int32.not_lt.mpr f4, ↓reduceIte]
