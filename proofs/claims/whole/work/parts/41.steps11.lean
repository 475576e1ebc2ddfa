/-! what suits the sights: both say the same -/
def gSu (B F : Nat → Nat) (b f : Nat) : Nat → Nat → Bool
  | 0, _ => true
  | d + 1, i => decide (min f (B i * b) = F i) && gSu B F b f d (i + 1)
def SgtN (n : Nat) (br fl sb sf : Nat → Int32) (B F : Nat → Nat) : Prop := n ≤ 8 ∧ ∀ i, i < n → br i = nI (B i) ∧ fl i = nI (F i) ∧ sb i = nI (B i) ∧ sf i = nI (F i) ∧ 1 ≤ B i ∧ B i ≤ 9 ∧ F i ≤ 81
theorem p_sgtN {cnt : Int32} {br fl : Nat → Int32} {sights : Int32} {sb sf : Nat → Int32} (h : SgtRel cnt br fl sights sb sf) : ∃ n B F, cnt = nI n ∧ sights = nI n ∧ SgtN n br fl sb sf B F := by
  obtain ⟨n, hn, e1, e2, h1, h2⟩ := h
  refine ⟨n, fun i => (br i).toNatClampNeg, fun i => (fl i).toNatClampNeg, e1, e2, hn, fun i hi => ?_⟩
  obtain ⟨⟨b, hb1, hb2, hb3⟩, ⟨f, hf1, hf2⟩⟩ := h2 i hi
  obtain ⟨s1, s2⟩ := h1 i (by omega)
  have c1 : (br i).toNatClampNeg = b := by rw [hb3]; exact p_cl (by omega)
  have c2 : (fl i).toNatClampNeg = f := by rw [hf2]; exact p_cl (by omega)
  show br i = nI (br i).toNatClampNeg ∧ fl i = nI (fl i).toNatClampNeg ∧ sb i = nI (br i).toNatClampNeg ∧ sf i = nI (fl i).toNatClampNeg ∧ 1 ≤ (br i).toNatClampNeg ∧ (br i).toNatClampNeg ≤ 9 ∧ (fl i).toNatClampNeg ≤ 81
  rw [c1, c2, s1, s2]
  exact ⟨hb3, hf2, hb3, hf2, hb1, hb2, hf1⟩
theorem p_minC {f y : Nat} (hf : f < 2 ^ 31) (hy : y < 2 ^ 31) : (if nI f < nI y then nI f else nI y) = nI (min f y) := by
  by_cases h : f < y
  · rw [if_pos (nI_lt h hy), Nat.min_eq_left (by omega)]
  · rw [if_neg (nI_nlt (by omega) (by omega)), Nat.min_eq_right (by omega)]
theorem p_mul99 {a b : Nat} (ha : a ≤ 9) (hb : b ≤ 9) : a * b ≤ 81 := Nat.mul_le_mul ha hb
theorem p_aab {n : Nat} {br fl sb sf : Nat → Int32} {B F : Nat → Nat} (h : SgtN n br fl sb sf B F) {b f : Nat} (hb : b ≤ 9) (hf : f ≤ 40) : ∀ (d i m : Nat), i + d = n → d < m → fX9_allAreBy_b2 (nI n) br fl m (nI b) (nI f) (nI i) = some (if gSu B F b f d i = true then 1 else 0)
  | _, _, 0, _, h => by omega
  | 0, i, m + 1, h1, _ => by
    have e : i = n := by omega
    subst e
    simp only [fX9_allAreBy_b2, fX9_allAreBy_b45, Int32.le_refl, ↓reduceIte, p_gZ1, gSu]
  | d + 1, i, m + 1, h1, h2 => by
    obtain ⟨hn, hs⟩ := id h
    have hi : i < n := by omega
    obtain ⟨q1, q2, -, -, q5, q6, q7⟩ := hs i hi
    have hlt : ¬ nI n ≤ nI i := nI_ge hi (by omega)
    have h8 : ¬ (8 : Int32) ≤ nI i := nI_ge (b := 8) (by omega) (by omega)
    have hA := fun {α : Type} (K : Option α) => p_gA (show i < 8 by omega) (show 8 < 2 ^ 31 by omega) K
    have hcl := p_cl (show i < 2 ^ 31 by omega)
    have hm := p_mul99 q6 hb
    have ih := p_aab h hb hf d (i + 1) m (by omega) (by omega)
    have hmin : (if nI f < br i * nI b then nI f else br i * nI b) = nI (min f (B i * b)) := by
      rw [q1, pk_mul]
      exact p_minC (by omega) (by omega)
    unfold gSu
    by_cases he : min f (B i * b) = F i
    · have he2 : nI (min f (B i * b)) = fl i := by rw [q2, he]
      rw [fX9_allAreBy_b2, if_neg hlt, if_neg h8, hA, hA, hcl, hmin, if_pos he2, nI_1, ih]
      simp only [he, decide_true, Bool.true_and]
    · have he2 : ¬ nI (min f (B i * b)) = fl i := by
        rw [q2]
        exact fun e => he ((nI_eq (by omega) (by omega)).mp e)
      rw [fX9_allAreBy_b2, if_neg hlt, if_neg h8, hA, hA, hcl, hmin, if_neg he2, p_gZ0]
      simp only [he, decide_false, Bool.false_and, Bool.false_eq_true, ↓reduceIte]
theorem p_fly0 {x y : Nat} (hx : x < 1000) (hy : y ≤ 9) : fX11_fliesBy (nI x) (nI y) = some (nI (min (x % 100) (x / 100 * y))) := by
  have e1 : nI x % 100 = nI (x % 100) := p_mod (b := 100) (by omega) (by omega)
  have e2 : nI x / 100 = nI (x / 100) := pk_div (d := 100) (by omega) (by omega) (by omega)
  have hm : x / 100 * y ≤ 81 := p_mul99 (by omega) hy
  unfold fX11_fliesBy fX11_fliesBy_b23
  rw [e1, e2, pk_mul]
  by_cases h : x % 100 ≤ x / 100 * y
  · rw [if_pos (nI_le h (by omega)), Nat.min_eq_left h]
  · rw [if_neg (nI_ge (by omega) (by omega)), Nat.min_eq_right (by omega)]
theorem p_isf {n : Nat} {br fl sb sf : Nat → Int32} {B F : Nat → Nat} (h : SgtN n br fl sb sf B F) {x : Nat} (hx : x < 1000) : ∀ (d i m : Nat) (g : Bool), i + d = n → d < m → fX11_isFit_b15 (nI n) sb sf m (nI x) (if g = true then 1 else 0) (nI i) = some (if (g && gSu B F (x / 100) (x % 100) d i) = true then 1 else 0)
  | _, _, 0, _, _, h => by omega
  | 0, i, m + 1, g, h1, _ => by
    have e : i = n := by omega
    subst e
    cases g with
    | true => rw [fX11_isFit_b15, if_pos (Int32.le_refl _), if_pos rfl, p_gZ1]; rfl
    | false => rw [fX11_isFit_b15, if_pos (Int32.le_refl _), if_neg (by decide), p_gZ0]; rfl
  | d + 1, i, m + 1, g, h1, h2 => by
    obtain ⟨hn, hs⟩ := id h
    have hi : i < n := by omega
    obtain ⟨-, -, q3, q4, q5, q6, q7⟩ := hs i hi
    have hlt : ¬ nI n ≤ nI i := nI_ge hi (by omega)
    have hA := fun {α : Type} (K : Option α) => p_gA (show i < 8 by omega) (show 8 < 2 ^ 31 by omega) K
    have hcl := p_cl (show i < 2 ^ 31 by omega)
    have ih := fun g => p_isf h hx d (i + 1) m g (by omega) (by omega)
    cases g with
    | false =>
      have ih0 := ih false
      rw [if_neg (by decide)] at ih0 ⊢
      rw [fX11_isFit_b15, if_neg hlt, if_pos rfl, fX11_isFit_b50, fX11_isFit_b51, nI_1, ih0]
      simp only [Bool.false_and]
    | true =>
      rw [if_pos rfl, fX11_isFit_b15, if_neg hlt, if_neg (by decide), hA, hcl, q3, p_fly0 hx q6, Option.bind_some, hA, q4]
      unfold gSu
      rw [Nat.mul_comm (x / 100) (B i)]
      have hm := p_mul99 q6 (show x / 100 ≤ 9 by omega)
      by_cases he : min (x % 100) (B i * (x / 100)) = F i
      · have ih1 := ih true
        rw [if_pos rfl] at ih1
        rw [if_pos (by rw [he]), fX11_isFit_b51, nI_1, ih1]
        simp only [he, decide_true, Bool.true_and]
      · have ih0 := ih false
        rw [if_neg (by decide)] at ih0
        rw [if_neg (fun e => he ((nI_eq (by omega) (by omega)).mp e)), fX11_isFit_b50, fX11_isFit_b51, nI_1, ih0]
        simp only [he, decide_false, Bool.false_and, Bool.and_false]
