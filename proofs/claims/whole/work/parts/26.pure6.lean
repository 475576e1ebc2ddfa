/-! pure facts: a sign is read -/
theorem p_rngC {c lo n : Nat} (hc : c < 1000) (hl : lo < 1000) (hn : n < 1000) : (0 ≤ nI c - nI lo ∧ nI c - nI lo ≤ nI n) ↔ (lo ≤ c ∧ c ≤ lo + n) := by
  rw [Int32.le_iff_toInt_le, Int32.le_iff_toInt_le, pk_sub_toInt (by omega) (by omega), nI_toInt (by omega), Int32.toInt_zero]
  omega
theorem p_rngM {c lo hi : Nat} (hc : c < 1000) (hl : lo < 1000) (hh : hi < 1000) : (nI lo ≤ nI c ∧ nI c ≤ nI hi) ↔ (lo ≤ c ∧ c ≤ hi) := by
  rw [nI_leI (by omega) (by omega), nI_leI (by omega) (by omega)]
theorem p_inl {c lo hi : Nat} {a b : Int64} (ha : (nI lo).toInt64 = a) (hb : (nI hi).toInt64 = b) (hc : c < 1000) (hl : lo < 1000) (hh : hi < 1000) : fX11_in (nI c).toInt64 a b = some (if lo ≤ c ∧ c ≤ hi then 1 else 0) := by
  rw [p_in32 (nI c) a b (nI lo) (nI hi) ha hb]
  congr 1
  exact p_ite (p_rngM hc hl hh) _ _
theorem p_winl {c lo n : Nat} (hc : c < 1000) (hl : lo < 1000) (hn : n < 1000) : fX10_within (nI c - nI lo) 0 (nI n) = some (if lo ≤ c ∧ c ≤ lo + n then 1 else 0) := by
  rw [p_within]
  congr 1
  exact p_ite (p_rngC hc hl hn) _ _
def PadSt (a : Nat) (rd begun : Int32) (kinds firsts seconds act who much : Nat → Int32) : Prop :=
  (rd = 0 ∨ (rd = 1 ∧ (∃ k : Nat, k < 6 ∧ begun = nI k) ∧ who a = begun) ∨ rd = 2 ∨ (rd = 3 ∧ gI 3 begun ∧ who a = begun)) ∧ (∀ i, i < a → act i = kinds i ∧ who i = firsts i ∧ much i = seconds i) ∧ (∀ i, i < a → ActOK (kinds i) (firsts i) (seconds i) (seconds i))
theorem p_upS {f : Nat → Int32} {k : Nat} {x : Int32} : upd f k x k = x := by unfold upd; rw [if_pos rfl]
theorem p_upN {f : Nat → Int32} {k j : Nat} {x : Int32} (h : j ≠ k) : upd f k x j = f j := by unfold upd; rw [if_neg h]
theorem p_endAct {a : Nat} (ha : a < 60) (kinds firsts seconds : Nat → Int32) (x y z : Int32) : fX7_endAct (nI a) kinds firsts seconds x y z = some (0, nI (a + 1), upd kinds a x, upd firsts a y, upd seconds a z) := by
  have h1 : ¬ nI a < 0 := nI_pos (by omega)
  have h2 : nI a < 60 := nI_lt (b := 60) ha (by omega)
  simp only [fX7_endAct, h1, h2, ↓reduceIte, p_gA ha (show 60 < 2 ^ 31 by omega), p_cl (show a < 2 ^ 31 by omega), nI_1]
theorem p_close {a : Nat} (ha : a < 60) (act much : Nat → Int32) (x y : Int32) : fX11_close (nI a) act much x y = some (0, nI (a + 1), upd act a x, upd much a y) := by
  simp only [fX11_close, p_gA ha (show 60 < 2 ^ 31 by omega), p_cl (show a < 2 ^ 31 by omega), nI_1]
/-- an act more on both pads -/
theorem p_more {a : Nat} {kinds firsts seconds act who who' much : Nat → Int32} (h1 : ∀ i, i < a → act i = kinds i ∧ who i = firsts i ∧ much i = seconds i) (h2 : ∀ i, i < a → ActOK (kinds i) (firsts i) (seconds i) (seconds i)) {x y z : Int32} (hw : who' a = y) (hw2 : ∀ i, i < a → who' i = who i) (hok : ActOK x y z z) (b : Int32) : PadSt (a + 1) 0 b (upd kinds a x) (upd firsts a y) (upd seconds a z) (upd act a x) who' (upd much a z) := by
  refine ⟨Or.inl rfl, fun i hi => ?_, fun i hi => ?_⟩
  · by_cases e : i = a
    · subst e
      rw [p_upS, p_upS, p_upS, p_upS, p_upS]
      exact ⟨rfl, hw, rfl⟩
    · rw [p_upN e, p_upN e, p_upN e, p_upN e, p_upN e, hw2 i (by omega)]
      exact h1 i (by omega)
  · by_cases e : i = a
    · subst e
      rw [p_upS, p_upS, p_upS]
      exact hok
    · rw [p_upN e, p_upN e, p_upN e]
      exact h2 i (by omega)
theorem p_read {a c : Nat} (ha : a < 60) (hc1 : 33 ≤ c) (hc2 : c ≤ 126) {rd begun : Int32} {kinds firsts seconds act who much : Nat → Int32} (h : PadSt a rd begun kinds firsts seconds act who much) :
    ∃ (rd1 du1 begun1 : Int32) (a1 : Nat) (kinds1 firsts1 seconds1 act1 who1 much1 : Nat → Int32), fX7_readSign (nI a) rd begun kinds firsts seconds (nI c) = some (rd1, nI a1, begun1, kinds1, firsts1, seconds1) ∧ fX11_readOn (nI a) act who much rd (nI c) = some (du1, nI a1, act1, who1, much1) ∧ a1 ≤ a + 1 ∧ ((rd1 = 4 ∧ du1 = -6) ∨ (du1 = rd1 ∧ PadSt a1 rd1 begun1 kinds1 firsts1 seconds1 act1 who1 much1)) := by
  obtain ⟨hrd, h1, h2⟩ := h
  have hA := fun {α : Type} (K : Option α) => p_gA ha (show 60 < 2 ^ 31 by omega) K
  have hcl := p_cl (show a < 2 ^ 31 by omega)
  have neq : ∀ m : Nat, m < 1000 → c ≠ m → ¬ nI c = nI m := fun m hm hne e => hne ((nI_eq (by omega) (by omega)).mp e)
  have hsub : ∀ m : Nat, m ≤ c → nI c - nI m = nI (c - m) := fun m hm => pk_sub hm
  rcases hrd with rfl | ⟨rfl, ⟨k, hk, rfl⟩, hwa⟩ | rfl | ⟨rfl, hb3, hwa⟩
  · -- ahead of an act
    have w1 : fX10_within (nI c - 65) 0 5 = some (if 65 ≤ c ∧ c ≤ 65 + 5 then 1 else 0) := p_winl (lo := 65) (n := 5) (by omega) (by omega) (by omega)
    have w2 : fX11_in (nI c).toInt64 65 70 = some (if 65 ≤ c ∧ c ≤ 70 then 1 else 0) := p_inl (lo := 65) (hi := 70) (by decide) (by decide) (by omega) (by omega) (by omega)
    by_cases hlet : 65 ≤ c ∧ c ≤ 70
    · have hl2 : 65 ≤ c ∧ c ≤ 65 + 5 := by omega
      have n1 : ¬ nI c = 46 := neq 46 (by omega) (by omega)
      have n2 : ¬ nI c = 114 := neq 114 (by omega) (by omega)
      have n3 : ¬ nI c = 115 := neq 115 (by omega) (by omega)
      have n4 : ¬ nI c = 119 := neq 119 (by omega) (by omega)
      have hs : nI c - 65 = nI (c - 65) := hsub 65 hlet.1
      refine ⟨1, 1, nI (c - 65), a, kinds, firsts, seconds, act, upd who a (nI (c - 65)), much, ?_, ?_, by omega, Or.inr ⟨rfl, Or.inr (Or.inl ⟨rfl, ⟨c - 65, by omega, rfl⟩, p_upS⟩), fun i hi => ?_, h2⟩⟩
      · rw [← hs]
        simp only [fX7_readSign, q_ne, ↓reduceIte, fX7_readBeginning, w1, hl2, and_self, Option.bind_some]
      · rw [← hs]
        simp only [fX11_readOn, ↓reduceIte, fX11_begin, fX11_begin_b32, fX11_begin_b110, w2, hlet, and_self, Option.bind_some, q_ne, hA, hcl, n1, n2, n3, n4]
      · rw [p_upN (show i ≠ a by omega)]
        exact h1 i hi
    · have hl2 : ¬ (65 ≤ c ∧ c ≤ 65 + 5) := by omega
      have hwp : ∀ i, i < a → upd who a 0 i = who i := fun i hi => p_upN (by omega)
      by_cases c1 : c = 46
      · subst c1
        refine ⟨0, 0, begun, a + 1, upd kinds a 6, upd firsts a 0, upd seconds a 0, upd act a 6, upd who a 0, upd much a 0, ?_, ?_, by omega, Or.inr ⟨rfl, p_more h1 h2 p_upS hwp (Or.inr (Or.inr (Or.inr (Or.inr (Or.inr (Or.inr rfl)))))) begun⟩⟩
        · have e : nI 46 = 46 := rfl
          simp only [fX7_readSign, q_ne, ↓reduceIte, fX7_readBeginning, w1, hl2, Option.bind_some, eq_true e, p_endAct ha]
        · have e : nI 46 = 46 := rfl
          simp only [fX11_readOn, ↓reduceIte, fX11_begin, fX11_begin_b32, w2, hlet, Option.bind_some, q_ne, hA, hcl, eq_true e, p_close ha]
      · have n1 : ¬ nI c = 46 := neq 46 (by omega) c1
        by_cases c2 : c = 114
        · subst c2
          refine ⟨0, 0, begun, a + 1, upd kinds a 4, upd firsts a 0, upd seconds a 0, upd act a 4, upd who a 0, upd much a 0, ?_, ?_, by omega, Or.inr ⟨rfl, p_more h1 h2 p_upS hwp (Or.inr (Or.inr (Or.inr (Or.inr (Or.inl rfl))))) begun⟩⟩
          · have e : nI 114 = 114 := rfl
            simp only [fX7_readSign, q_ne, ↓reduceIte, fX7_readBeginning, w1, hl2, Option.bind_some, eq_true e, n1, p_endAct ha]
          · have e : nI 114 = 114 := rfl
            simp only [fX11_readOn, ↓reduceIte, fX11_begin, fX11_begin_b32, w2, hlet, Option.bind_some, q_ne, hA, hcl, eq_true e, n1, p_close ha]
        · have n2 : ¬ nI c = 114 := neq 114 (by omega) c2
          by_cases c3 : c = 115
          · subst c3
            refine ⟨0, 0, begun, a + 1, upd kinds a 5, upd firsts a 0, upd seconds a 0, upd act a 5, upd who a 0, upd much a 0, ?_, ?_, by omega, Or.inr ⟨rfl, p_more h1 h2 p_upS hwp (Or.inr (Or.inr (Or.inr (Or.inr (Or.inr (Or.inl rfl)))))) begun⟩⟩
            · have e : nI 115 = 115 := rfl
              simp only [fX7_readSign, q_ne, ↓reduceIte, fX7_readBeginning, w1, hl2, Option.bind_some, eq_true e, n1, n2, p_endAct ha]
            · have e : nI 115 = 115 := rfl
              simp only [fX11_readOn, ↓reduceIte, fX11_begin, fX11_begin_b32, w2, hlet, Option.bind_some, q_ne, hA, hcl, eq_true e, n1, n2, p_close ha]
          · have n3 : ¬ nI c = 115 := neq 115 (by omega) c3
            by_cases c4 : c = 119
            · subst c4
              have e : nI 119 = 119 := rfl
              refine ⟨2, 2, begun, a, kinds, firsts, seconds, act, upd who a 0, much, ?_, ?_, by omega, Or.inr ⟨rfl, Or.inr (Or.inr (Or.inl rfl)), fun i hi => ?_, h2⟩⟩
              · simp only [fX7_readSign, q_ne, ↓reduceIte, fX7_readBeginning, w1, hl2, Option.bind_some, eq_true e, n1, n2, n3]
              · simp only [fX11_readOn, ↓reduceIte, fX11_begin, fX11_begin_b32, w2, hlet, Option.bind_some, q_ne, hA, hcl, eq_true e, n1, n2, n3]
              · rw [hwp i hi]
                exact h1 i hi
            · have n4 : ¬ nI c = 119 := neq 119 (by omega) c4
              refine ⟨4, -6, begun, a, kinds, firsts, seconds, act, upd who a 0, much, ?_, ?_, by omega, Or.inl ⟨rfl, rfl⟩⟩
              · simp only [fX7_readSign, q_ne, ↓reduceIte, fX7_readBeginning, w1, hl2, Option.bind_some, n1, n2, n3, n4]
              · simp only [fX11_readOn, ↓reduceIte, fX11_begin, fX11_begin_b32, fX11_begin_b110, w2, hlet, Option.bind_some, q_ne, hA, hcl, n1, n2, n3, n4]
  · -- behind a letter
    have w1 : fX10_within (nI c - 48) 1 9 = some (if 49 ≤ c ∧ c ≤ 57 then 1 else 0) := by
      rw [p_within]
      congr 1
      refine p_ite ?_ _ _
      rw [Int32.le_iff_toInt_le, Int32.le_iff_toInt_le, show nI c - 48 = nI c - nI 48 from rfl, pk_sub_toInt (by omega) (by omega), show (1 : Int32).toInt = 1 from by decide, show (9 : Int32).toInt = 9 from by decide]
      omega
    have w2 : fX11_in (nI c).toInt64 49 57 = some (if 49 ≤ c ∧ c ≤ 57 then 1 else 0) := p_inl (lo := 49) (hi := 57) (by decide) (by decide) (by omega) (by omega) (by omega)
    by_cases c1 : c = 99
    · subst c1
      have e : nI 99 = 99 := rfl
      have hn : ¬ (49 ≤ 99 ∧ 99 ≤ 57) := by omega
      refine ⟨0, 0, nI k, a + 1, upd kinds a 1, upd firsts a (nI k), upd seconds a 0, upd act a 1, who, upd much a 0, ?_, ?_, by omega, Or.inr ⟨rfl, p_more h1 h2 hwa (fun _ _ => rfl) (Or.inr (Or.inl ⟨rfl, k, hk, rfl⟩)) (nI k)⟩⟩
      · simp only [fX7_readSign, q_ne, ↓reduceIte, fX7_readDeed, w1, hn, Option.bind_some, eq_true e, p_endAct ha]
      · simp only [fX11_readOn, fX11_readOn_b141, q_ne, ↓reduceIte, eq_true e, p_close ha, Option.bind_some]
    · have n1 : ¬ nI c = 99 := neq 99 (by omega) c1
      by_cases c2 : c = 109
      · subst c2
        have e : nI 109 = 109 := rfl
        have hn : ¬ (49 ≤ 109 ∧ 109 ≤ 57) := by omega
        refine ⟨0, 0, nI k, a + 1, upd kinds a 2, upd firsts a (nI k), upd seconds a 0, upd act a 2, who, upd much a 0, ?_, ?_, by omega, Or.inr ⟨rfl, p_more h1 h2 hwa (fun _ _ => rfl) (Or.inr (Or.inr (Or.inl ⟨rfl, k, hk, rfl⟩))) (nI k)⟩⟩
        · simp only [fX7_readSign, q_ne, ↓reduceIte, fX7_readDeed, w1, hn, Option.bind_some, eq_true e, n1, p_endAct ha]
        · simp only [fX11_readOn, fX11_readOn_b141, q_ne, ↓reduceIte, eq_true e, n1, p_close ha, Option.bind_some]
      · have n2 : ¬ nI c = 109 := neq 109 (by omega) c2
        by_cases hdg : 49 ≤ c ∧ c ≤ 57
        · have hs : nI c - 48 = nI (c - 48) := hsub 48 (by omega)
          refine ⟨0, 0, nI k, a + 1, upd kinds a 0, upd firsts a (nI k), upd seconds a (nI (c - 48)), upd act a 0, who, upd much a (nI (c - 48)), ?_, ?_, by omega, Or.inr ⟨rfl, p_more h1 h2 hwa (fun _ _ => rfl) (Or.inl ⟨rfl, k, c - 48, hk, by omega, by omega, rfl, rfl, rfl⟩) (nI k)⟩⟩
          · rw [← hs]
            simp only [fX7_readSign, q_ne, ↓reduceIte, fX7_readDeed, w1, hdg, and_self, Option.bind_some, p_endAct ha]
          · rw [← hs]
            simp only [fX11_readOn, fX11_readOn_b141, q_ne, ↓reduceIte, n1, n2, w2, hdg, and_self, p_close ha, Option.bind_some]
        · refine ⟨4, -6, nI k, a, kinds, firsts, seconds, act, who, much, ?_, ?_, by omega, Or.inl ⟨rfl, rfl⟩⟩
          · simp only [fX7_readSign, q_ne, ↓reduceIte, fX7_readDeed, w1, hdg, Option.bind_some, n1, n2]
          · simp only [fX11_readOn, fX11_readOn_b141, q_ne, ↓reduceIte, n1, n2, w2, hdg, Option.bind_some]
  · -- behind w
    have w1 : fX10_within (nI c - 48) 0 3 = some (if 48 ≤ c ∧ c ≤ 48 + 3 then 1 else 0) := p_winl (lo := 48) (n := 3) (by omega) (by omega) (by omega)
    have w2 : fX11_in (nI c).toInt64 48 51 = some (if 48 ≤ c ∧ c ≤ 51 then 1 else 0) := p_inl (lo := 48) (hi := 51) (by decide) (by decide) (by omega) (by omega) (by omega)
    have hwp : ∀ (v : Int32) i, i < a → upd who a v i = who i := fun v i hi => p_upN (by omega)
    by_cases hdg : 48 ≤ c ∧ c ≤ 51
    · have hd2 : 48 ≤ c ∧ c ≤ 48 + 3 := by omega
      have hs : nI c - 48 = nI (c - 48) := hsub 48 (by omega)
      refine ⟨3, 3, nI c - 48, a, kinds, firsts, seconds, act, upd who a (nI c - 48), much, ?_, ?_, by omega, Or.inr ⟨rfl, Or.inr (Or.inr (Or.inr ⟨rfl, ⟨c - 48, by omega, hs⟩, p_upS⟩)), fun i hi => ?_, h2⟩⟩
      · simp only [fX7_readSign, fX7_readSign_b63, q_ne, ↓reduceIte, w1, hd2, and_self, Option.bind_some]
      · simp only [fX11_readOn, fX11_readOn_b48, q_ne, ↓reduceIte, w2, hdg, and_self, Option.bind_some, hA, hcl]
      · rw [hwp _ i hi]
        exact h1 i hi
    · have hd2 : ¬ (48 ≤ c ∧ c ≤ 48 + 3) := by omega
      refine ⟨4, -6, nI c - 48, a, kinds, firsts, seconds, act, upd who a (nI c - 48), much, ?_, ?_, by omega, Or.inl ⟨rfl, rfl⟩⟩
      · simp only [fX7_readSign, fX7_readSign_b63, q_ne, ↓reduceIte, w1, hd2, Option.bind_some]
      · simp only [fX11_readOn, fX11_readOn_b48, q_ne, ↓reduceIte, w2, hdg, Option.bind_some, hA, hcl]
  · -- behind the wind
    have w1 : fX10_within (nI c - 48) 0 5 = some (if 48 ≤ c ∧ c ≤ 48 + 5 then 1 else 0) := p_winl (lo := 48) (n := 5) (by omega) (by omega) (by omega)
    have w2 : fX11_in (nI c).toInt64 48 53 = some (if 48 ≤ c ∧ c ≤ 53 then 1 else 0) := p_inl (lo := 48) (hi := 53) (by decide) (by decide) (by omega) (by omega) (by omega)
    by_cases hdg : 48 ≤ c ∧ c ≤ 53
    · have hd2 : 48 ≤ c ∧ c ≤ 48 + 5 := by omega
      have hs : nI c - 48 = nI (c - 48) := hsub 48 (by omega)
      refine ⟨0, 0, begun, a + 1, upd kinds a 3, upd firsts a begun, upd seconds a (nI c - 48), upd act a 3, who, upd much a (nI c - 48), ?_, ?_, by omega, Or.inr ⟨rfl, p_more h1 h2 hwa (fun _ _ => rfl) (Or.inr (Or.inr (Or.inr (Or.inl ⟨rfl, hb3, ⟨c - 48, by omega, hs⟩, rfl⟩)))) begun⟩⟩
      · simp only [fX7_readSign, fX7_readSign_b93, q_ne, ↓reduceIte, w1, hd2, and_self, Option.bind_some, p_endAct ha]
      · simp only [fX11_readOn, fX11_readOn_b82, q_ne, ↓reduceIte, w2, hdg, and_self, Option.bind_some, p_close ha]
    · have hd2 : ¬ (48 ≤ c ∧ c ≤ 48 + 5) := by omega
      refine ⟨4, -6, begun, a, kinds, firsts, seconds, act, who, much, ?_, ?_, by omega, Or.inl ⟨rfl, rfl⟩⟩
      · simp only [fX7_readSign, fX7_readSign_b93, q_ne, ↓reduceIte, w1, hd2, Option.bind_some]
      · simp only [fX11_readOn, fX11_readOn_b82, q_ne, ↓reduceIte, w2, hdg, Option.bind_some]
