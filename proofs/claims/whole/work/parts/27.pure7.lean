/-! pure facts: the pad -/
def gPar (pad A0 W0 M0 : Nat → Int32) : Nat → Option (Int32 × Int32 × (Nat → Int32) × (Nat → Int32) × (Nat → Int32))
  | 0 => some (0, 0, A0, W0, M0)
  | i + 1 => (gPar pad A0 W0 M0 i).bind fun y => if y.1 < 0 then none else fX11_readOn y.2.1 y.2.2.1 y.2.2.2.1 y.2.2.2.2 y.1 (pad i)
theorem gPar_none {pad A0 W0 M0 : Nat → Int32} {i : Nat} (h : gPar pad A0 W0 M0 i = none) : ∀ d, gPar pad A0 W0 M0 (i + d) = none
  | 0 => h
  | d + 1 => by
    show (gPar pad A0 W0 M0 (i + d)).bind _ = none
    rw [gPar_none h d]
    rfl
theorem gPar_neg {pad A0 W0 M0 : Nat → Int32} {i : Nat} {y : Int32 × Int32 × (Nat → Int32) × (Nat → Int32) × (Nat → Int32)} (h : gPar pad A0 W0 M0 i = some y) (hy : y.1 < 0) : gPar pad A0 W0 M0 (i + 1) = none := by
  show (gPar pad A0 W0 M0 i).bind _ = none
  rw [h, Option.bind_some, if_pos hy]
theorem gPar_step {pad A0 W0 M0 : Nat → Int32} {i : Nat} {du ac : Int32} {A W M : Nat → Int32} (h : gPar pad A0 W0 M0 i = some (du, ac, A, W, M)) (hy : 0 ≤ du) : gPar pad A0 W0 M0 (i + 1) = fX11_readOn ac A W M du (pad i) := by
  show (gPar pad A0 W0 M0 i).bind _ = _
  rw [h, Option.bind_some]
  exact if_neg (Int32.not_lt.mpr hy)
theorem gPar_congr {pad pad' A0 W0 M0 : Nat → Int32} : ∀ (s : Nat), (∀ i, i < s → pad' i = pad i) → gPar pad' A0 W0 M0 s = gPar pad A0 W0 M0 s
  | 0, _ => rfl
  | s + 1, h => by
    show (gPar pad' A0 W0 M0 s).bind _ = (gPar pad A0 W0 M0 s).bind _
    rw [gPar_congr s (fun i hi => h i (by omega)), h s (by omega)]
theorem p_faultA {pad A0 W0 M0 : Nat → Int32} {s : Nat} (hs : s ≤ 60) {du ac : Int32} {A W M : Nat → Int32} (hfin : gPar pad A0 W0 M0 s = some (du, ac, A, W, M)) (hdu : 0 ≤ du) : ∀ (d i n : Nat) (x acts : Int32) (act who much : Nat → Int32), i + d = s → d < n → gPar pad A0 W0 M0 i = some (x, acts, act, who, much) → 0 ≤ x → fX11_fault_b9 (nI s) pad n acts act who much x (nI i) = some (if du = 0 then -6 else nI s, ac, A, W, M)
  | _, _, 0, _, _, _, _, _, _, h, _, _ => by omega
  | 0, i, n + 1, x, acts, act, who, much, h1, _, h3, h4 => by
    have e : i = s := by omega
    subst e
    rw [hfin] at h3
    cases h3
    have hle : nI i ≤ nI i := nI_le (Nat.le_refl _) (by omega)
    by_cases h0 : du = 0
    · simp only [fX11_fault_b9, fX11_fault_b54, hle, ↓reduceIte, h0]
    · simp only [fX11_fault_b9, fX11_fault_b54, hle, ↓reduceIte, h0]
  | d + 1, i, n + 1, x, acts, act, who, much, h1, h2, h3, h4 => by
    have hi : i < s := by omega
    have hst := gPar_step h3 h4
    have hlt : ¬ nI s ≤ nI i := nI_ge hi (by omega)
    cases hr : fX11_readOn acts act who much x (pad i) with
    | none =>
      rw [hr] at hst
      have := gPar_none hst d
      rw [show i + 1 + d = s by omega, hfin] at this
      cases this
    | some y =>
      obtain ⟨y0, y1, y2, y3, y4⟩ := y
      rw [hr] at hst
      have hy : 0 ≤ y0 := by
        refine Int32.not_lt.mp (fun hneg => ?_)
        cases d with
        | zero =>
          rw [show i + 1 = s by omega, hfin] at hst
          cases hst
          exact absurd hneg (Int32.not_lt.mpr hdu)
        | succ d =>
          have := gPar_none (gPar_neg hst hneg) d
          rw [show i + 1 + 1 + d = s by omega, hfin] at this
          cases this
      have ih := p_faultA hs hfin hdu d (i + 1) n y0 y1 y2 y3 y4 (by omega) (by omega) hst hy
      simp only [fX11_fault_b9, hlt, ↓reduceIte, p_gA (show i < 60 by omega) (show 60 < 2 ^ 31 by omega), p_cl (show i < 2 ^ 31 by omega), hr, Option.bind_some, hy, nI_1, ih]
theorem p_faultB {pad A0 W0 M0 : Nat → Int32} {s b : Nat} (hs : s ≤ 60) (hb : b < s) {du ac : Int32} {A W M : Nat → Int32} (hfin : gPar pad A0 W0 M0 (b + 1) = some (du, ac, A, W, M)) (hdu : du < 0) : ∀ (d i n : Nat) (x acts : Int32) (act who much : Nat → Int32), i + d = b → d < n → gPar pad A0 W0 M0 i = some (x, acts, act, who, much) → 0 ≤ x → fX11_fault_b9 (nI s) pad n acts act who much x (nI i) = some (nI b, ac, A, W, M)
  | _, _, 0, _, _, _, _, _, _, h, _, _ => by omega
  | 0, i, n + 1, x, acts, act, who, much, h1, _, h3, h4 => by
    have e : i = b := by omega
    subst e
    have hst := gPar_step h3 h4
    rw [hfin] at hst
    have hlt : ¬ nI s ≤ nI i := nI_ge hb (by omega)
    have hn : ¬ 0 ≤ du := Int32.not_le.mpr hdu
    simp only [fX11_fault_b9, hlt, ↓reduceIte, p_gA (show i < 60 by omega) (show 60 < 2 ^ 31 by omega), p_cl (show i < 2 ^ 31 by omega), ← hst, Option.bind_some, hn]
  | d + 1, i, n + 1, x, acts, act, who, much, h1, h2, h3, h4 => by
    have hst := gPar_step h3 h4
    have hlt : ¬ nI s ≤ nI i := nI_ge (by omega) (by omega)
    cases hr : fX11_readOn acts act who much x (pad i) with
    | none =>
      rw [hr] at hst
      have := gPar_none hst (d + 1)
      rw [show i + 1 + (d + 1) = b + 1 by omega, hfin] at this
      cases this
    | some y =>
      obtain ⟨y0, y1, y2, y3, y4⟩ := y
      rw [hr] at hst
      have hy : 0 ≤ y0 := by
        refine Int32.not_lt.mp (fun hneg => ?_)
        have := gPar_none (gPar_neg hst hneg) d
        rw [show i + 1 + 1 + d = b + 1 by omega, hfin] at this
        cases this
      have ih := p_faultB hs hb hfin hdu d (i + 1) n y0 y1 y2 y3 y4 (by omega) (by omega) hst hy
      simp only [fX11_fault_b9, hlt, ↓reduceIte, p_gA (show i < 60 by omega) (show 60 < 2 ^ 31 by omega), p_cl (show i < 2 ^ 31 by omega), hr, Option.bind_some, hy, nI_1, ih]
def PadRel (signs acts reading begun brokenAt : Int32) (kinds firsts seconds : Nat → Int32) (padMany : Int32) (pad : Nat → Int32) : Prop :=
  ∃ s a : Nat, s ≤ 60 ∧ a ≤ s ∧ signs = nI s ∧ padMany = nI s ∧ acts = nI a ∧ (∀ i, i < s → ∃ c : Nat, 33 ≤ c ∧ c ≤ 126 ∧ pad i = nI c) ∧
    ((∀ A0 W0 M0 : Nat → Int32, ∃ act who much, gPar pad A0 W0 M0 s = some (reading, nI a, act, who, much) ∧ PadSt a reading begun kinds firsts seconds act who much) ∨
      (reading = 4 ∧ ∃ b, b < s ∧ brokenAt = nI b ∧ ∀ A0 W0 M0 : Nat → Int32, ∃ du ac A W M, du < 0 ∧ gPar pad A0 W0 M0 (b + 1) = some (du, ac, A, W, M)))
theorem p_rd {a : Nat} {rd begun : Int32} {kinds firsts seconds act who much : Nat → Int32} (h : PadSt a rd begun kinds firsts seconds act who much) : 0 ≤ rd ∧ ¬ rd = 4 := by
  rcases h.1 with rfl | ⟨rfl, -⟩ | rfl | ⟨rfl, -⟩ <;> decide
theorem p_pad0 (begun brokenAt : Int32) (kinds firsts seconds pad : Nat → Int32) : PadRel 0 0 0 begun brokenAt kinds firsts seconds 0 pad :=
  ⟨0, 0, by omega, by omega, rfl, rfl, rfl, fun i hi => by omega, Or.inl fun A0 W0 M0 => ⟨A0, W0, M0, rfl, Or.inl rfl, fun i hi => by omega, fun i hi => by omega⟩⟩
theorem p_fault {signs acts reading begun brokenAt padMany : Int32} {kinds firsts seconds pad : Nat → Int32} (h : PadRel signs acts reading begun brokenAt kinds firsts seconds padMany pad) (acts0 : Int32) (A0 W0 M0 : Nat → Int32) :
    ∃ v ac A W M, fX7_faultPlace signs reading brokenAt = some v ∧ fX11_fault padMany acts0 pad A0 W0 M0 = some (v, ac, A, W, M) ∧ ((v = -6 ∧ ac = acts ∧ ∃ a : Nat, a ≤ 60 ∧ acts = nI a ∧ (∀ i, i < a → A i = kinds i ∧ W i = firsts i ∧ M i = seconds i) ∧ (∀ i, i < a → ActOK (kinds i) (firsts i) (seconds i) (seconds i))) ∨ (¬ v = -6 ∧ 0 ≤ v)) := by
  obtain ⟨s, a, hs, has, rfl, rfl, rfl, hpad, hor⟩ := h
  unfold fX11_fault
  rcases hor with h1 | ⟨rfl, b, hb, rfl, h1⟩
  · obtain ⟨act, who, much, e1, e2⟩ := h1 A0 W0 M0
    obtain ⟨hr0, hr4⟩ := p_rd e2
    have hf := p_faultA hs e1 hr0 s 0 1000 0 0 A0 W0 M0 (by omega) (by omega) rfl (by decide)
    refine ⟨if reading = 0 then -6 else nI s, nI a, act, who, much, ?_, hf, ?_⟩
    · by_cases h0 : reading = 0
      · subst h0
        simp only [fX7_faultPlace, fX7_faultPlace_b29, q_ne, ↓reduceIte]
      · simp only [fX7_faultPlace, fX7_faultPlace_b29, hr4, h0, ↓reduceIte]
    · by_cases h0 : reading = 0
      · exact Or.inl ⟨if_pos h0, rfl, a, by omega, rfl, e2.2.1, e2.2.2⟩
      · rw [if_neg h0]
        exact Or.inr ⟨p_n6 (by omega), nI_pos' (by omega)⟩
  · obtain ⟨du, ac, A, W, M, hd, e1⟩ := h1 A0 W0 M0
    have hf := p_faultB hs hb e1 hd b 0 1000 0 0 A0 W0 M0 (by omega) (by omega) rfl (by decide)
    exact ⟨nI b, ac, A, W, M, by simp only [fX7_faultPlace, ↓reduceIte], hf, Or.inr ⟨p_n6 (by omega), nI_pos' (by omega)⟩⟩
theorem p_write {signs acts reading begun brokenAt padMany : Int32} {kinds firsts seconds pad : Nat → Int32} {s : Nat} (h : PadRel signs acts reading begun brokenAt kinds firsts seconds padMany pad) (hs : signs = nI s) (hs60 : s < 60) {c : Nat} (hc1 : 33 ≤ c) (hc2 : c ≤ 126) :
    ∃ acts1 reading1 begun1 broken1 kinds1 firsts1 seconds1, fX7_write signs acts reading begun brokenAt kinds firsts seconds (nI c) = some (nI (s + 1), acts1, reading1, begun1, broken1, kinds1, firsts1, seconds1) ∧ PadRel (nI (s + 1)) acts1 reading1 begun1 broken1 kinds1 firsts1 seconds1 (nI (s + 1)) (upd pad s (nI c)) := by
  obtain ⟨s', a, hs', has, e1, rfl, rfl, hpad, hor⟩ := h
  have e : s' = s := (nI_eq (by omega) (by omega)).mp (e1.symm.trans hs)
  subst e
  subst hs
  have hpad1 : ∀ i, i < s' + 1 → ∃ c' : Nat, 33 ≤ c' ∧ c' ≤ 126 ∧ upd pad s' (nI c) i = nI c' := by
    intro i hi
    by_cases e : i = s'
    · subst e
      exact ⟨c, hc1, hc2, p_upS⟩
    · rw [p_upN e]
      exact hpad i (by omega)
  have hcg : ∀ (A0 W0 M0 : Nat → Int32) (j : Nat), j ≤ s' → gPar (upd pad s' (nI c)) A0 W0 M0 j = gPar pad A0 W0 M0 j := fun A0 W0 M0 j hj => gPar_congr j (fun i hi => p_upN (by omega))
  rcases hor with h1 | ⟨rfl, b, hb, rfl, h1⟩
  · obtain ⟨act, who, much, g1, g2⟩ := h1 (fun _ => 0) (fun _ => 0) (fun _ => 0)
    obtain ⟨hr0, hr4⟩ := p_rd g2
    obtain ⟨rd1, du1, begun1, a1, kinds1, firsts1, seconds1, act1, who1, much1, r1, r2, r3, r4⟩ := p_read (show a < 60 by omega) hc1 hc2 g2
    refine ⟨nI a1, rd1, begun1, nI s', kinds1, firsts1, seconds1, ?_, s' + 1, a1, by omega, by omega, rfl, rfl, rfl, hpad1, ?_⟩
    · simp only [fX7_write, fX7_write_b25, hr4, ↓reduceIte, r1, Option.bind_some, nI_1]
    · have hall : ∀ A0 W0 M0 : Nat → Int32, ∃ du2 act2 who2 much2, gPar (upd pad s' (nI c)) A0 W0 M0 (s' + 1) = some (du2, nI a1, act2, who2, much2) ∧ ((rd1 = 4 ∧ du2 = -6) ∨ (du2 = rd1 ∧ PadSt a1 rd1 begun1 kinds1 firsts1 seconds1 act2 who2 much2)) := by
        intro A0 W0 M0
        obtain ⟨act', who', much', g1', g2'⟩ := h1 A0 W0 M0
        obtain ⟨rd2, du2, begun2, a2, kinds2, firsts2, seconds2, act2, who2, much2, q1, q2, q3, q4⟩ := p_read (show a < 60 by omega) hc1 hc2 g2'
        rw [r1] at q1
        simp only [Option.some.injEq, Prod.mk.injEq] at q1
        obtain ⟨z1, z2, z3, z4, z5, z6⟩ := q1
        subst z1 z3 z4 z5 z6
        rw [← z2] at q2
        refine ⟨du2, act2, who2, much2, ?_, ?_⟩
        · rw [gPar_step ((hcg A0 W0 M0 s' (Nat.le_refl _)).trans g1') hr0, p_upS]
          exact q2
        · rcases q4 with h | ⟨h, h5⟩
          · exact Or.inl h
          · rcases r4 with ⟨r5, -⟩ | ⟨-, r5⟩
            · exact absurd r5 (p_rd h5).2
            · by_cases ha : a1 = a2
              · subst ha; exact Or.inr ⟨h, h5⟩
              · have hb1 : a1 < 2 ^ 31 := by omega
                have hb2 : a2 < 2 ^ 31 := by omega
                exact absurd ((nI_eq hb1 hb2).mp z2) ha
      rcases r4 with ⟨rfl, -⟩ | ⟨-, hst⟩
      · refine Or.inr ⟨rfl, s', by omega, rfl, fun A0 W0 M0 => ?_⟩
        obtain ⟨du2, act2, who2, much2, g3, g4⟩ := hall A0 W0 M0
        rcases g4 with ⟨-, rfl⟩ | ⟨-, g4⟩
        · exact ⟨-6, _, _, _, _, by decide, g3⟩
        · exact absurd rfl (p_rd g4).2
      · refine Or.inl fun A0 W0 M0 => ?_
        obtain ⟨du2, act2, who2, much2, g3, g4⟩ := hall A0 W0 M0
        rcases g4 with ⟨h4, -⟩ | ⟨rfl, g4⟩
        · exact absurd h4 (p_rd hst).2
        · exact ⟨act2, who2, much2, g3, g4⟩
  · refine ⟨nI a, 4, begun, nI b, kinds, firsts, seconds, ?_, s' + 1, a, by omega, by omega, rfl, rfl, rfl, hpad1, Or.inr ⟨rfl, b, by omega, rfl, fun A0 W0 M0 => ?_⟩⟩
    · simp only [fX7_write, fX7_write_b25, ↓reduceIte, nI_1]
    · obtain ⟨du, ac, A, W, M, hd, e2⟩ := h1 A0 W0 M0
      exact ⟨du, ac, A, W, M, hd, (hcg A0 W0 M0 (b + 1) (by omega)).trans e2⟩
