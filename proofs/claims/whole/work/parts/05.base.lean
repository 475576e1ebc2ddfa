/-! environment: the classes' numbers and slots, the three classes of arrays; contracts in one form -/
abbrev gE : Type := va_G × (ClassId × (ClassId × ClassId))
abbrev gTy (E : gE) : List (ClassId × FieldType) := [(E.2.1, .int), (E.2.2.1, .long), (E.2.2.2, .boolean)]
def gNest : List (String × (Nat × (MethodName × String))) := [
  (RX10, 9, yX4_init, "SeedBank"),
  (RX4, 9, yX6_init, "SeedBank"),
  (RX4, 18, yX9_init, "SeedBank"),
  (RX10, 28, yX7_init, "SeedBank"),
  (RX10, 35, yX5_init, "SeedBank"),
  (RX5, 11, yX6_init, "SeedBank"),
  (RX10, 42, yX3_init, "SeedBank"),
  (RX10, 49, yX2_init, "SeedBank"),
  (RX10, 56, yX1_init, "SeedBank"),
  (RX1, 11, yX6_init, "SeedBank"),
  (RX7, 44, yX10_within, "SeedBank"),
  (RX5, 51, yX10_at, "SeedBank"),
  (RX0, 32, yX10_at, "SeedBank"),
  (RX6, 69, yX10_downwind, "SeedBank"),
  (RX6, 76, yX10_isField, "SeedBank"),
  (RX6, 85, yX10_clearRow, "SeedBank"),
  (RX6, 89, yX10_sumOfRow, "SeedBank"),
  (RX8, 15, yX10_at, "SeedBank"),
  (RX8, 19, yX10_downwind, "SeedBank"),
  (RX3, 40, yX10_clearRow, "SeedBank"),
  (RX3, 50, yX10_downwind, "SeedBank"),
  (RX3, 54, yX10_isField, "SeedBank"),
  (RX3, 58, yX10_sumOfRow, "SeedBank"),
  (RX2, 38, yX10_clearRow, "SeedBank"),
  (RX2, 48, yX10_within, "SeedBank"),
  (RX2, 67, yX10_isField, "SeedBank"),
  (RX2, 81, yX10_downwind, "SeedBank"),
  (RX2, 63, yX10_at, "SeedBank"),
  (RX2, 59, yX10_sumOfRow, "SeedBank")]
def gN (U : State) : Prop := ∀ q ∈ gNest, va_Nw (.methodLinkNest q.1 q.2.1 q.2.2.1 q.2.2.2) U
def gK (E : gE) (U : State) : Prop := va_K E.1 vwCl (gTy E) U ∧ gN U
theorem gK_warm {E : gE} {s U : State} (hW : s.WarmedH U.vm) (h : gK E s) : gK E U := ⟨va_K.moved hW.alike h.1, fun q hq => va_Nw.warmM hW (h.2 q hq)⟩
theorem gK_call {E : gE} {U : State} (g : JFrame) (mk : MethodId) (a : Array Value) (h : gK E U) : gK E (U.calling g mk a) := ⟨va_K.moved (u := U) (U := U.calling g mk a) (Vm.Alike.refl U.vm) h.1, fun q hq => va_Nw.same rfl rfl (h.2 q hq)⟩
def gS (E : gE) (A : Nat → Prop) (H0 : Heap) (ws : va_W) (H : Heap) (locs : List Loc) : Prop := va_P E.1 vwCl ws H ∧ va_D A ws ∧ va_S A H0 H locs
def gPc (E : gE) (av : List Value) (ws : va_W) (sz : Nat) : Array Value → State → Prop := va_Pc av (fun U => U.heap.size = sz ∧ va_P E.1 vwCl ws U.heap ∧ gK E U ∧ va_D (fun _ => True) ws)
def gB (E : gE) (ws0 : va_W) (sz : Nat) (ws1 : va_W) : Unit → State → Prop := fun _ t => va_P E.1 vwCl ws1 t.heap ∧ va_D (va_A ws0 sz) ws1
abbrev gMi (l : Launch) (y : MethodName) (ws : List Cond) (rm : Room) (E : gE) (av : List Value) (ws0 : va_W) (sz : Nat) (r : Int32) (ws1 : va_W) : Prop := Met l y ws rm (gPc E av ws0 sz) (va_Qi (fun (v : Int32) (_ : Unit) => v = r) (gB E ws0 sz ws1) (va_A ws0 sz)) 0 0 (va_A ws0 sz)
abbrev gMl (l : Launch) (y : MethodName) (ws : List Cond) (rm : Room) (E : gE) (av : List Value) (ws0 : va_W) (sz : Nat) (r : Int64) (ws1 : va_W) : Prop := Met l y ws rm (gPc E av ws0 sz) (va_Ql (fun (v : Int64) (_ : Unit) => v = r) (gB E ws0 sz ws1) (va_A ws0 sz)) 0 0 (va_A ws0 sz)
abbrev gMv (l : Launch) (y : MethodName) (ws : List Cond) (rm : Room) (E : gE) (av : List Value) (ws0 : va_W) (sz : Nat) (ws1 : va_W) : Prop := Met l y ws rm (gPc E av ws0 sz) (va_Qv (fun (_ : Unit) => True) (gB E ws0 sz ws1) (va_A ws0 sz)) 0 0 (va_A ws0 sz)
abbrev gMr (l : Launch) (y : MethodName) (ws : List Cond) (rm : Room) (E : gE) (av : List Value) (ws0 : va_W) (sz : Nat) (r : Nat) (ws1 : va_W) : Prop := Met l y ws rm (gPc E av ws0 sz) (va_Qr (fun (_ : Unit) => True) (fun u b t => b = r ∧ gB E ws0 sz ws1 u t) (va_A ws0 sz)) 0 0 (va_A ws0 sz)
abbrev gW (y : MethodName) (c : ByteArray) (n : Nat) (ret : Option FieldType) : List Cond := Cond.code y c n ret :: wsL_law
/-! guards of the functions that the methods are read as -/
def gok (i : Int32) (n : Nat) : Bool := decide (¬ (i < 0 ∨ n ≤ i.toNatClampNeg))
def gA {α : Type} (i : Int32) (n : Nat) (k : Option α) : Option α := if gok i n = true then k else none
def gD {α : Type} (y : Int32) (k : Option α) : Option α := if y = 0 then none else k
def gDl {α : Type} (y : Int64) (k : Option α) : Option α := if y = 0 then none else k
def gZ {α : Type} (v : Int32) (k : Option α) : Option α := if v &&& 1 = v then k else none
theorem gA_s {α : Type} {i : Int32} {n : Nat} {k : Option α} {r : α} (h : gA i n k = some r) : vp_in i n ∧ k = some r := by
  unfold gA at h
  split at h
  · next h1 => exact ⟨of_decide_eq_true (p := ¬ (i < 0 ∨ n ≤ i.toNatClampNeg)) h1, h⟩
  · cases h
theorem gD_s {α : Type} {y : Int32} {k : Option α} {r : α} (h : gD y k = some r) : (¬ y = 0) ∧ k = some r := by
  unfold gD at h
  split at h
  · cases h
  · next h1 => exact ⟨h1, h⟩
theorem gDl_s {α : Type} {y : Int64} {k : Option α} {r : α} (h : gDl y k = some r) : (¬ y = 0) ∧ k = some r := by
  unfold gDl at h
  split at h
  · cases h
  · next h1 => exact ⟨h1, h⟩
theorem gZ_s {α : Type} {v : Int32} {k : Option α} {r : α} (h : gZ v k = some r) : v &&& 1 = v ∧ k = some r := by
  unfold gZ at h
  split at h
  · next h1 => exact ⟨h1, h⟩
  · cases h
theorem gB_s {α β : Type} {x : Option α} {k : α → Option β} {r : β} (h : x.bind k = some r) : ∃ a, x = some a ∧ k a = some r := by
  cases x with
  | none => cases h
  | some a => exact ⟨a, rfl, h⟩
theorem g_t {c : Prop} [Decidable c] {α : Type} {x y r : α} (hc : c) (h : (if c then x else y) = r) : x = r := by rw [if_pos hc] at h; exact h
theorem g_f {c : Prop} [Decidable c] {α : Type} {x y r : α} (hc : ¬ c) (h : (if c then x else y) = r) : y = r := by rw [if_neg hc] at h; exact h
theorem g_no {α : Type} {r : α} {P : Prop} (h : (none : Option α) = some r) : P := by cases h
/-! rows, over gS -/
section GROWS
variable {p : Program} {l : Launch} {e : Env} {R : Room} {s : State} {m : MethodId} {args : Array Value} {below : List Frame} {meth : Method} {cd : Code} {H : Heap} {locs : List Loc} {cells slots : Nat} {Q : State → Prop}
variable {cc : ByteArray} {pc : Nat} {ls : Array Slot} {rest : List Value} {E : gE} {A : Nat → Prop} {H0 : Heap} {ws : va_W} {a : Nat}
theorem g_get (hx : p.tables.exec = Jvm.exec) (hb : cd.code = cc) (hG : ∀ w ∈ wsL_law, w.before args s = true) {own : String} (hown : s.vm.findClass own = some m.cls) (hK : gK E s) (hw : gS E A H0 ws H locs) {C : String} {T : u_T} {N ci index : Nat} (hin : ∀ w ∈ u_ws C T N, w ∈ wsL_law) (hc : vwCl[ci]? = some (C, T, N)) (q0 k : Nat) (hk : k < N) {fs : List Value} {v : Value} (he : ws[q0]? = some (a, .inr (ci, fs))) (hv : fs[k]? = some v) (hlink : Cond.fieldLink own index (T k).1 (T k).2.1 (T k).2.2.1 ∈ wsL_law) (hdg : decode cc pc = .ok (.getfield index, 3))
    (kk : W p l e R s m args below meth cd H locs cells slots Q (F0 m (pc + 3) ls (v :: rest))) : W p l e R s m args below meth cd H locs cells slots Q (F0 m pc ls (.ref a :: rest)) :=
  va_get hx hb hG hin hown hK.1 hw.1 q0 he hc k hk (hG _ hlink) (fun _ h => h) hv hdg kk
theorem g_put (hx : p.tables.exec = Jvm.exec) (hb : cd.code = cc) (hG : ∀ w ∈ wsL_law, w.before args s = true) {own : String} (hown : s.vm.findClass own = some m.cls) (hK : gK E s) (hw : gS E A H0 ws H locs) {C : String} {T : u_T} {N ci index : Nat} (hin : ∀ w ∈ u_ws C T N, w ∈ wsL_law) {tyf : Nat → FieldType} (hty : ∀ k, k < N → parseFieldDescriptor (T k).2.2.1 = some (tyf k)) (hnm : ∀ a, a < N → ∀ b, b < N → a ≠ b → (T a).2.1 ≠ (T b).2.1) (hc : vwCl[ci]? = some (C, T, N)) (q0 k : Nat) (hk : k < N) {fs : List Value} {v : Value} (he : ws[q0]? = some (a, .inr (ci, fs))) (hlink : Cond.fieldLink own index (T k).1 (T k).2.1 (T k).2.2.1 ∈ wsL_law) (hfin : (T k).2.2.2 = false) (hn : narrow (tyf k) v = v) (hfit : fits (tyf k) v = true) (hl : k < fs.length) {ws' : va_W} (hw' : ws.set q0 (a, .inr (ci, fs.set k v)) = ws') (hdg : decode cc pc = .ok (.putfield index, 3))
    (kk : ∀ (H1 : Heap) (locs1 : List Loc), gS E A H0 ws' H1 locs1 → W p l e R s m args below meth cd H1 locs1 cells slots Q (F0 m (pc + 3) ls rest)) : W p l e R s m args below meth cd H locs cells slots Q (F0 m pc ls (v :: .ref a :: rest)) := by
  subst hw'
  exact va_put hx hb hG hin tyf hty hnm hown hK.1 hw.1 hw.2.1 hw.2.2 q0 he hc k hk (hG _ hlink) (fun _ h => h) hfin (hty k hk) hn hfit hl hdg (fun H1 locs1 a b c => kk H1 locs1 ⟨a, b, c⟩)
theorem g_iald (hx : p.tables.exec = Jvm.exec) (hb : cd.code = cc) (hK : gK E s) (hw : gS E A H0 ws H locs) (q0 : Nat) {n : Nat} {f : Nat → Int32} (he : ws[q0]? = some (a, .inl (E.2.1, n, .inl f))) {i : Int32} (hin : vp_in i n) (hdg : decode cc pc = .ok (.iaload, 1))
    (kk : W p l e R s m args below meth cd H locs cells slots Q (F0 m (pc + 1) ls (.int (f i.toNatClampNeg) :: rest))) : W p l e R s m args below meth cd H locs cells slots Q (F0 m pc ls (.int i :: .ref a :: rest)) :=
  va_iald hx hb hK.1 hw.1 q0 0 he rfl hin hdg kk
theorem g_iast (hx : p.tables.exec = Jvm.exec) (hb : cd.code = cc) (hK : gK E s) (hw : gS E A H0 ws H locs) (q0 : Nat) {n : Nat} {f : Nat → Int32} (he : ws[q0]? = some (a, .inl (E.2.1, n, .inl f))) {i x : Int32} (hin : vp_in i n) {ws' : va_W} (hw' : ws.set q0 (a, .inl (E.2.1, n, .inl (upd f i.toNatClampNeg x))) = ws') (hdg : decode cc pc = .ok (.iastore, 1))
    (kk : ∀ (H1 : Heap) (locs1 : List Loc), gS E A H0 ws' H1 locs1 → W p l e R s m args below meth cd H1 locs1 cells slots Q (F0 m (pc + 1) ls rest)) : W p l e R s m args below meth cd H locs cells slots Q (F0 m pc ls (.int x :: .int i :: .ref a :: rest)) := by
  subst hw'
  exact va_iast hx hb hK.1 hw.1 hw.2.1 hw.2.2 q0 0 he rfl hin hdg (fun H1 locs1 a b c => kk H1 locs1 ⟨a, b, c⟩)
theorem g_lald (hx : p.tables.exec = Jvm.exec) (hb : cd.code = cc) (hK : gK E s) (hw : gS E A H0 ws H locs) (q0 : Nat) {n : Nat} {f : Nat → Int64} (he : ws[q0]? = some (a, .inl (E.2.2.1, n, .inr (.inl f)))) {i : Int32} (hin : vp_in i n) (hdg : decode cc pc = .ok (.laload, 1))
    (kk : W p l e R s m args below meth cd H locs cells slots Q (F0 m (pc + 1) ls (.long (f i.toNatClampNeg) :: rest))) : W p l e R s m args below meth cd H locs cells slots Q (F0 m pc ls (.int i :: .ref a :: rest)) :=
  va_lald hx hb hK.1 hw.1 q0 1 he rfl hin hdg kk
theorem g_last (hx : p.tables.exec = Jvm.exec) (hb : cd.code = cc) (hK : gK E s) (hw : gS E A H0 ws H locs) (q0 : Nat) {n : Nat} {f : Nat → Int64} (he : ws[q0]? = some (a, .inl (E.2.2.1, n, .inr (.inl f)))) {i : Int32} {x : Int64} (hin : vp_in i n) {ws' : va_W} (hw' : ws.set q0 (a, .inl (E.2.2.1, n, .inr (.inl (vp_updL f i.toNatClampNeg x)))) = ws') (hdg : decode cc pc = .ok (.lastore, 1))
    (kk : ∀ (H1 : Heap) (locs1 : List Loc), gS E A H0 ws' H1 locs1 → W p l e R s m args below meth cd H1 locs1 cells slots Q (F0 m (pc + 1) ls rest)) : W p l e R s m args below meth cd H locs cells slots Q (F0 m pc ls (.long x :: .int i :: .ref a :: rest)) := by
  subst hw'
  exact va_last hx hb hK.1 hw.1 hw.2.1 hw.2.2 q0 1 he rfl hin hdg (fun H1 locs1 a b c => kk H1 locs1 ⟨a, b, c⟩)
theorem g_zald (hx : p.tables.exec = Jvm.exec) (hb : cd.code = cc) (hK : gK E s) (hw : gS E A H0 ws H locs) (q0 : Nat) {n : Nat} {f : Nat → Int32} (he : ws[q0]? = some (a, .inl (E.2.2.2, n, .inl f))) {i : Int32} (hin : vp_in i n) (hdg : decode cc pc = .ok (.baload, 1))
    (kk : W p l e R s m args below meth cd H locs cells slots Q (F0 m (pc + 1) ls (.int (f i.toNatClampNeg) :: rest))) : W p l e R s m args below meth cd H locs cells slots Q (F0 m pc ls (.int i :: .ref a :: rest)) :=
  va_zald hx hb hK.1 hw.1 q0 2 he rfl hin hdg kk
theorem g_zast (hx : p.tables.exec = Jvm.exec) (hb : cd.code = cc) (hK : gK E s) (hw : gS E A H0 ws H locs) (q0 : Nat) {n : Nat} {f : Nat → Int32} (he : ws[q0]? = some (a, .inl (E.2.2.2, n, .inl f))) {i x : Int32} (hin : vp_in i n) (hz : vp_nar .boolean x = x) {ws' : va_W} (hw' : ws.set q0 (a, .inl (E.2.2.2, n, .inl (upd f i.toNatClampNeg x))) = ws') (hdg : decode cc pc = .ok (.bastore, 1))
    (kk : ∀ (H1 : Heap) (locs1 : List Loc), gS E A H0 ws' H1 locs1 → W p l e R s m args below meth cd H1 locs1 cells slots Q (F0 m (pc + 1) ls rest)) : W p l e R s m args below meth cd H locs cells slots Q (F0 m pc ls (.int x :: .int i :: .ref a :: rest)) := by
  subst hw'
  refine va_zast hx hb hK.1 hw.1 hw.2.1 hw.2.2 q0 2 he rfl hin hdg (fun H1 locs1 a b c => kk H1 locs1 ?_)
  rw [hz] at a b
  exact ⟨a, b, c⟩
theorem g_alen (hx : p.tables.exec = Jvm.exec) (hb : cd.code = cc) (hK : gK E s) (hw : gS E A H0 ws H locs) (q0 : Nat) {n : Nat} {f : Nat → Int32} (he : ws[q0]? = some (a, .inl (E.2.1, n, .inl f))) (hdg : decode cc pc = .ok (.arraylength, 1))
    (kk : W p l e R s m args below meth cd H locs cells slots Q (F0 m (pc + 1) ls (.int (Int32.ofNat n) :: rest))) : W p l e R s m args below meth cd H locs cells slots Q (F0 m pc ls (.ref a :: rest)) :=
  va_alen hx hb hK.1 hw.1 q0 0 (x := (n, .inl f)) he rfl rfl hdg kk
theorem g_irem (hx : p.tables.exec = Jvm.exec) (hb : cd.code = cc) {x y : Int32} (hdg : decode cc pc = .ok (.irem, 1)) (hne : ¬ y = 0)
    (kk : W p l e R s m args below meth cd H locs cells slots Q (F0 m (pc + 1) ls (.int (x % y) :: rest))) : W p l e R s m args below meth cd H locs cells slots Q (F0 m pc ls (.int y :: .int x :: rest)) := by
  refine lv_irem hx hb hdg hne ?_
  rw [irem_eq_mod]
  exact kk
theorem g_cell_eq (cA : ClassId) {n : Nat} {f g : Nat → Int32} (h : ∀ j, j < n → f j = g j) : vp_cell cA (n, .inl f) = vp_cell cA (n, .inl g) := by
  rw [vp_cell_i, vp_cell_i]
  unfold arrV
  congr 1
  apply Array.ext
  · simp
  · intro i h1 h2
    simp at h1
    simp [h i h1]
theorem g_acpy {own : String} {index : Nat} (hx : p.tables.exec = Jvm.exec) (hb : cd.code = cc) (hml : cd.maxLocals = ls.size) (hG : ∀ w ∈ wsL_law, w.before args s = true) (hown : s.vm.findClass own = some m.cls) (hlink : Cond.methodLink own index arraycopyName ∈ wsL_law) (hnat : Cond.native arraycopyName ∈ wsL_law) (hstat : Cond.static arraycopyName ∈ wsL_law) (hini : Cond.initialized "java/lang/System" ∈ wsL_law) (hK : gK E s) (hw : gS E A H0 ws H locs) (q0 q1 : Nat) {a0 n : Nat} {f g : Nat → Int32} {N : Int32} (he0 : ws[q0]? = some (a0, .inl (E.2.1, n, .inl f))) (he1 : ws[q1]? = some (a, .inl (E.2.1, n, .inl g))) (hN : ¬ N < 0) (hn : N.toNatClampNeg = n) {ws' : va_W} (hw' : ws.set q1 (a, .inl (E.2.1, n, .inl f)) = ws') (hR : 1 ≤ R.frames ∧ 18 ≤ R.locals) (hrest : rest = []) (hdg : decode cc pc = .ok (.invokestatic index, 3))
    (kk : ∀ (H1 : Heap) (locs1 : List Loc), gS E A H0 ws' H1 locs1 → W p l e R s m args below meth cd H1 locs1 cells slots Q (F0 m (pc + 3) ls rest)) : W p l e R s m args below meth cd H locs cells slots Q (F0 m pc ls (.int N :: .int 0 :: .ref a :: .int 0 :: .ref a0 :: rest)) := by
  subst hw' hrest
  have hz : (0 : Int32).toNatClampNeg = 0 := by decide
  refine va_copyi hx hb hml hown (hG _ hlink) (hG _ hnat) (hG _ hstat) (hG _ hini) hK.1 hw.1 hw.2.1 hw.2.2 q0 q1 0 0 he0 he1 rfl rfl rfl (by decide) (by decide) hN (by rw [hz, hn]; omega) (by rw [hz, hn]; omega) (fun _ _ => rfl) hR.1 ?_ hdg (fun H1 locs1 hP hD hS => kk H1 locs1 ⟨?_, ?_, hS⟩)
  · have : nativeFrameWords "java/lang/System" "arraycopy" 5 + 11 = 18 := by decide
    rw [this]
    have := hR.2
    simpa using this
  · intro k q hk
    rw [hz, hn] at hP
    have hl := (List.getElem?_eq_some_iff.mp he1).1
    by_cases hkq : k = q1
    · subst hkq
      rw [List.getElem?_set_self hl] at hk
      cases hk
      have h1 := hP k _ (List.getElem?_set_self hl)
      show H1[a]? = some (vp_cell _ _)
      rw [show H1[a]? = some (vp_cell E.2.1 (n, .inl (va_cpy f g 0 0 n))) from h1]
      congr 1
      refine g_cell_eq _ (fun j hj => ?_)
      show (if 0 ≤ j ∧ j < 0 + n then f (0 + (j - 0)) else g j) = f j
      rw [if_pos ⟨Nat.zero_le _, by omega⟩]
      congr 1
      omega
    · rw [List.getElem?_set_ne (Ne.symm hkq)] at hk
      exact hP k q (by rw [List.getElem?_set_ne (Ne.symm hkq)]; exact hk)
  · have h1 := hD.set (p := q1) (a := a) (e := .inl (E.2.1, n, .inl f)) (List.getElem?_set_self (List.getElem?_eq_some_iff.mp he1).1)
    rw [List.set_set] at h1
    exact h1
end GROWS
/-! a world whose part is put anew by a callee -/
def g_same : List Nat → va_W → va_W → Prop
  | [], _, _ => True
  | i :: is, ws, ws' => (∃ c, ws[i]? = some c ∧ ws'[i]? = some c) ∧ g_same is ws ws'
theorem g_same_at : ∀ {is : List Nat} {ws ws' : va_W} {k : Nat}, g_same is ws ws' → k ∈ is → ∃ c, ws[k]? = some c ∧ ws'[k]? = some c
  | [], _, _, _, _, hm => by cases hm
  | i :: is, ws, ws', k, h, hm => by
    rcases List.mem_cons.mp hm with rfl | hm
    · exact h.1
    · exact g_same_at h.2 hm
theorem g_at {is : List Nat} {ws wc : va_W} (hC : is.map (fun i => ws[i]?) = wc.map some) {j : Nat} {q : Nat × va_E} (hq : wc[j]? = some q) : ∃ i, is[j]? = some i ∧ ws[i]? = some q := by
  have h1 : (is.map (fun i => ws[i]?))[j]? = some (some q) := by rw [hC, List.getElem?_map, hq]; rfl
  rw [List.getElem?_map] at h1
  cases hi : is[j]? with
  | none => rw [hi] at h1; cases h1
  | some i => rw [hi] at h1; exact ⟨i, rfl, Option.some.inj h1⟩
theorem g_at2 {is : List Nat} {ws wc : va_W} (hC : is.map (fun i => ws[i]?) = wc.map some) {j i : Nat} (hq : is[j]? = some i) : ∃ q, wc[j]? = some q ∧ ws[i]? = some q := by
  have h1 : (is.map (fun i => ws[i]?))[j]? = some (ws[i]?) := by rw [List.getElem?_map, hq]; rfl
  rw [hC, List.getElem?_map] at h1
  cases hi : wc[j]? with
  | none => rw [hi] at h1; cases h1
  | some q => rw [hi] at h1; exact ⟨q, rfl, (Option.some.inj h1).symm⟩
theorem g_frame {D : va_G} {cl : List vw_C} {A : Nat → Prop} {ws wc w1 ws' : va_W} {H H1 : Heap} {is isR : List Nat} {n : Nat} (hP : va_P D cl ws H) (hD : va_D A ws) (hC : is.map (fun i => ws[i]?) = wc.map some) (hC' : is.map (fun i => ws'[i]?) = w1.map some) (hsame : g_same isR ws ws') (hl1 : ws.length = n) (hl2 : ws'.length = n) (hcov : (List.range n).all (fun k => is.contains k || isR.contains k) = true) (had : w1.map (·.1) = wc.map (·.1))
    (hk : ∀ q : Nat, q < H.size → ¬ va_A wc H.size q → H1[q]? = H[q]?) (hP1 : va_P D cl w1 H1) : va_P D cl ws' H1 ∧ va_D A ws' := by
  have hcase : ∀ (k : Nat) (q : Nat × va_E), ws'[k]? = some q → (∃ j : Nat, is[j]? = some k ∧ w1[j]? = some q) ∨ (k ∉ is ∧ ws[k]? = some q) := by
    intro k q hq
    by_cases hm : k ∈ is
    · obtain ⟨j, hj⟩ := List.getElem?_of_mem hm
      obtain ⟨q2, h3, h4⟩ := g_at2 hC' hj
      rw [hq] at h4
      cases h4
      exact Or.inl ⟨j, hj, h3⟩
    · refine Or.inr ⟨hm, ?_⟩
      have hlt : k < n := by rw [← hl2]; exact (List.getElem?_eq_some_iff.mp hq).1
      have hc := List.all_eq_true.mp hcov k (List.mem_range.mpr hlt)
      simp only [Bool.or_eq_true, List.contains_iff_mem] at hc
      rcases hc with hc | hc
      · exact absurd hc hm
      · obtain ⟨c, h1, h2⟩ := g_same_at hsame hc
        rw [hq] at h2
        rw [h1, h2]
  have key : ∀ (k : Nat) (q : Nat × va_E), ws'[k]? = some q → ∃ q0, ws[k]? = some q0 ∧ q0.1 = q.1 := by
    intro k q hq
    rcases hcase k q hq with ⟨j, h1, h2⟩ | ⟨h1, h2⟩
    · obtain ⟨q0, h3, h4⟩ := g_at2 hC h1
      refine ⟨q0, h4, ?_⟩
      have e1 : (w1.map (·.1))[j]? = some q.1 := by rw [List.getElem?_map, h2]; rfl
      rw [had, List.getElem?_map, h3] at e1
      exact Option.some.inj e1
    · exact ⟨q, h2, rfl⟩
  refine ⟨fun k q hq => ?_, fun i j x y hi hj hxy => ?_, fun k q hq => ?_⟩
  · rcases hcase k q hq with ⟨j, h1, h2⟩ | ⟨h1, h2⟩
    · exact hP1 j q h2
    · refine (hP k q h2).kept (hk q.1 (hP k q h2).lt (fun h => ?_))
      rcases h with ⟨k2, e, h⟩ | h
      · obtain ⟨i, h3, h4⟩ := g_at hC h
        have hki := hD.1 k i q (q.1, e) h2 h4 rfl
        subst hki
        exact h1 (List.mem_of_getElem? h3)
      · have := (hP k q h2).lt
        omega
  · obtain ⟨x0, a1, a2⟩ := key i x hi
    obtain ⟨y0, b1, b2⟩ := key j y hj
    exact hD.1 i j x0 y0 a1 b1 (a2.trans (hxy.trans b2.symm))
  · obtain ⟨q0, h1, h2⟩ := key k q hq
    rw [← h2]
    exact hD.2 k q0 h1
theorem g_frame0 {D : va_G} {cl : List vw_C} {A : Nat → Prop} {ws wc : va_W} {H H1 : Heap} {is : List Nat} (hP : va_P D cl ws H) (hD : va_D A ws) (hC : is.map (fun i => ws[i]?) = wc.map some)
    (hk : ∀ q : Nat, q < H.size → ¬ va_A wc H.size q → H1[q]? = H[q]?) (hP1 : va_P D cl wc H1) : va_P D cl ws H1 := by
  intro k q hq
  by_cases hm : k ∈ is
  · obtain ⟨j, hj⟩ := List.getElem?_of_mem hm
    obtain ⟨q2, h3, h4⟩ := g_at2 hC hj
    rw [hq] at h4
    cases h4
    exact hP1 j _ h3
  · refine (hP k q hq).kept (hk q.1 (hP k q hq).lt (fun h => ?_))
    rcases h with ⟨k2, e, h⟩ | h
    · obtain ⟨i, h3, h4⟩ := g_at hC h
      have hki := hD.1 k i q (q.1, e) hq h4 rfl
      subst hki
      exact hm (List.mem_of_getElem? h3)
    · have := (hP k q hq).lt
      omega
/-! words of a call -/
theorem g_had {w1 wc : va_W} (as : List Nat) (h1 : w1.map (·.1) = as) (h2 : wc.map (·.1) = as) : w1.map (·.1) = wc.map (·.1) := h1.trans h2.symm
theorem g_good1 {w : Cond} (h : w ∈ wsL_law) (hg : goodWord w = true) : w ∈ wsL_law ∧ ((w.onTables && w.keeps) = true ∨ ∃ ty, w = .arrayClass ty) := ⟨h, good_of_word hg⟩
/-! calls -/
section GCALLS
variable {p : Program} {l : Launch} {e : Env} {R : Room} {s : State} {m : MethodId} {args : Array Value} {below : List Frame} {meth : Method} {cd : Code} {H : Heap} {locs : List Loc} {cells slots : Nat} {Q : State → Prop}
variable {cc : ByteArray} {pc : Nat} {ls : Array Slot} {rest : List Value} {E : gE} {A : Nat → Prop} {H0 : Heap} {ws : va_W} {a : Nat}
variable {y : MethodName} {cB : ByteArray} {nB nL n index : Nat} {retB : Option FieldType} {rm : Room} {own C : String} {b : Nat} {As st : List Value} {wc w1 ws' : va_W} {is : List Nat} {Pc : Array Value → State → Prop} {Qc : Array Value → State → Outcome → State → Prop} {free : Addr → Prop}
theorem g_wc (hw : gS E A H0 ws H locs) (hC : is.map (fun i => ws[i]?) = wc.map some) : va_P E.1 vwCl wc H := fun k q hq => by
  obtain ⟨i, -, h⟩ := g_at hC hq
  exact hw.1 i q h
theorem g_pre (hK : gK E s) (hw : gS E A H0 ws H locs) (hC : is.map (fun i => ws[i]?) = wc.map some) (hnd : va_nd is = true) {av : List Value} : FrameBlind (gPc E av wc H.size) ∧ ∀ U : State, U.heap = H → s.WarmedH U.vm → gPc E av wc H.size av.toArray U :=
  ⟨fun a U g mk q => ⟨q.1, q.2.1, q.2.2.1, gK_call g mk a q.2.2.2.1, q.2.2.2.2⟩, fun U hU hW => ⟨rfl, by rw [hU], by rw [hU]; exact g_wc hw hC, gK_warm hW hK, (hw.2.1.sub is hnd hC).weaken (fun _ _ _ _ => trivial)⟩⟩
theorem g_rV (hx : p.tables.exec = Jvm.exec) (hb : cd.code = cc) (hml : cd.maxLocals = nL) (hG : ∀ w ∈ wsL_law, w.before args s = true) (hown : s.vm.findClass own = some m.cls) (hK : gK E s) (hw : gS E A H0 ws H locs) (hC : is.map (fun i => ws[i]?) = wc.map some) (hnd : va_nd is = true)
    (hM : Met l y (gW y cB nB retB) rm (gPc E (.ref b :: As) wc H.size) Qc 0 0 free) (h1 : Cond.methodLink own index y ∈ wsL_law) (h2 : Cond.instanceMethod y ∈ wsL_law) (h3 : Cond.selects C y y ∈ wsL_law) (h4 : Cond.initialized C ∈ wsL_law) (h5 : Cond.code y cB nB retB ∈ wsL_law)
    (hd : y.cls = C ∧ y.cls ≠ "java/lang/invoke/MethodHandle" ∧ y.cls ≠ "java/lang/invoke/VarHandle" ∧ (parseMethodDescriptor y.desc).map (fun d => d.parameters.length) = some n)
    (hg : wsL_law.all goodWord = true) (hrm : rm.cells = 0 ∧ rm.slots = 0) (hR : rm.frames + 1 ≤ R.frames ∧ 8 + (nB + 11) + rm.locals ≤ R.locals) (hcs : cells ≤ R.cells ∧ slots ≤ R.slots)
    {ci q0 : Nat} {q : vw_C} {fs : List Value} (hcl : vwCl[ci]? = some q) (hqC : q.1 = C) (he : wc[q0]? = some (b, .inr (ci, fs))) (hn : As.length = n) (hsz : ls.size = nL) (hst : st = As.reverse ++ .ref b :: rest) (hroom : (rest.map fun v => v.category).sum ≤ 8) (hdg : decode cc pc = .ok (.invokevirtual index, 3)) :
    va_Run p l e R s m args below meth cd H locs cells slots 0 0 (F0 m pc ls st) rest (Qc (Value.ref b :: As).toArray) free := by
  have hgl : ∀ w ∈ wsL_law, w ∈ wsL_law ∧ ((w.onTables && w.keeps) = true ∨ ∃ ty, w = .arrayClass ty) := fun w h => ⟨h, good_of_word (List.all_eq_true.mp hg w h)⟩
  have hT : GoodIn wsL_law (wsV own index C y (gW y cB nB retB)) := by
    intro w hw2
    simp only [wsV, gW, List.cons_append, List.nil_append, List.mem_cons] at hw2
    rcases hw2 with rfl | rfl | rfl | rfl | rfl | h
    · exact hgl _ h1
    · exact hgl _ h2
    · exact hgl _ h3
    · exact hgl _ h4
    · exact hgl _ h5
    · exact hgl _ h
  have hpre := g_pre (av := .ref b :: As) hK hw hC hnd
  subst hqC
  exact va_runV (As := As) (rest := rest) ⟨hx, hb, hml, hown, hG⟩ hM (cwV n hG hT rfl hrm.1 hrm.2 hd hR) ⟨hpre.1, va_recv hK.1 (g_wc hw hC) hcl he, hpre.2⟩ rfl hn hsz hst (lv_room hroom) hdg ⟨hcs.1, hcs.2⟩
theorem g_rS (hx : p.tables.exec = Jvm.exec) (hb : cd.code = cc) (hml : cd.maxLocals = nL) (hG : ∀ w ∈ wsL_law, w.before args s = true) (hown : s.vm.findClass own = some m.cls) (hK : gK E s) (hw : gS E A H0 ws H locs) (hC : is.map (fun i => ws[i]?) = wc.map some) (hnd : va_nd is = true)
    (hM : Met l y (gW y cB nB retB) rm (gPc E As wc H.size) Qc 0 0 free) (h1 : Cond.methodLink own index y ∈ wsL_law) (h2 : Cond.static y ∈ wsL_law) (h4 : Cond.initialized y.cls ∈ wsL_law) (h5 : Cond.code y cB nB retB ∈ wsL_law)
    (hd : y.cls ≠ "java/lang/invoke/MethodHandle" ∧ y.cls ≠ "java/lang/invoke/VarHandle" ∧ (parseMethodDescriptor y.desc).map (fun d => d.parameters.length) = some n)
    (hg : wsL_law.all goodWord = true) (hrm : rm.cells = 0 ∧ rm.slots = 0) (hR : rm.frames + 1 ≤ R.frames ∧ 8 + (nB + 11) + rm.locals ≤ R.locals) (hcs : cells ≤ R.cells ∧ slots ≤ R.slots)
    (hn : As.length = n) (hsz : ls.size = nL) (hst : st = As.reverse ++ rest) (hroom : (rest.map fun v => v.category).sum ≤ 8) (hdg : decode cc pc = .ok (.invokestatic index, 3)) :
    va_Run p l e R s m args below meth cd H locs cells slots 0 0 (F0 m pc ls st) rest (Qc As.toArray) free := by
  have hgl : ∀ w ∈ wsL_law, w ∈ wsL_law ∧ ((w.onTables && w.keeps) = true ∨ ∃ ty, w = .arrayClass ty) := fun w h => ⟨h, good_of_word (List.all_eq_true.mp hg w h)⟩
  have hT : GoodIn wsL_law (va_wsS own index y (gW y cB nB retB)) := by
    intro w hw2
    simp only [va_wsS, gW, List.cons_append, List.nil_append, List.mem_cons] at hw2
    rcases hw2 with rfl | rfl | rfl | rfl | h
    · exact hgl _ h1
    · exact hgl _ h2
    · exact hgl _ h4
    · exact hgl _ h5
    · exact hgl _ h
  have hpre := g_pre (av := As) hK hw hC hnd
  exact va_runS (As := As) (rest := rest) ⟨hx, hb, hml, hown, hG⟩ hM (va_cwS n hG hT rfl hrm.1 hrm.2 hd hR) ⟨hpre.1, hpre.2⟩ rfl hn hsz hst (lv_room hroom) hdg ⟨hcs.1, hcs.2⟩
theorem g_rN {host : String} (hx : p.tables.exec = Jvm.exec) (hb : cd.code = cc) (hml : cd.maxLocals = nL) (hG : ∀ w ∈ wsL_law, w.before args s = true) (hown : s.vm.findClass own = some m.cls) (hK : gK E s) (hw : gS E A H0 ws H locs) (hC : is.map (fun i => ws[i]?) = wc.map some) (hnd : va_nd is = true)
    (hM : Met l y (gW y cB nB retB) rm (gPc E As wc H.size) Qc 0 0 free) (h1 : (own, (index, (y, host))) ∈ gNest) (h2 : Cond.static y ∈ wsL_law) (h4 : Cond.initialized y.cls ∈ wsL_law) (h5 : Cond.code y cB nB retB ∈ wsL_law)
    (hd : y.cls ≠ "java/lang/invoke/MethodHandle" ∧ y.cls ≠ "java/lang/invoke/VarHandle" ∧ (parseMethodDescriptor y.desc).map (fun d => d.parameters.length) = some n)
    (hg : wsL_law.all goodWord = true) (hrm : rm.cells = 0 ∧ rm.slots = 0) (hR : rm.frames + 1 ≤ R.frames ∧ 8 + (nB + 11) + rm.locals ≤ R.locals) (hcs : cells ≤ R.cells ∧ slots ≤ R.slots)
    (hn : As.length = n) (hsz : ls.size = nL) (hst : st = As.reverse ++ rest) (hroom : (rest.map fun v => v.category).sum ≤ 8) (hdg : decode cc pc = .ok (.invokestatic index, 3)) :
    va_Run p l e R s m args below meth cd H locs cells slots 0 0 (F0 m pc ls st) rest (Qc As.toArray) free := by
  have hgl : ∀ w ∈ wsL_law, w ∈ wsL_law ∧ ((w.onTables && w.keeps) = true ∨ ∃ ty, w = .arrayClass ty) := fun w h => ⟨h, good_of_word (List.all_eq_true.mp hg w h)⟩
  have hT : GoodIn wsL_law (gW y cB nB retB) := by
    intro w hw2
    simp only [gW, List.mem_cons] at hw2
    rcases hw2 with rfl | h
    · exact hgl _ h5
    · exact hgl _ h
  have hpre := g_pre (av := As) hK hw hC hnd
  exact va_runSN (As := As) (rest := rest) ⟨hx, hb, hml, hown, hG⟩ hM ⟨va_cnB n hG hT rfl hrm.1 hrm.2 (hK.2 _ h1) (hG _ h4) hd hR, hG _ h2, trivial⟩ ⟨hpre.1, hpre.2⟩ rfl hn hsz hst (lv_room hroom) hdg ⟨hcs.1, hcs.2⟩
theorem g_ki {rv : Int32} {aa : Array Value} (hw : gS E A H0 ws H locs) (hA : ∀ q : Nat, H0.size ≤ q → A q) (hr : va_Run p l e R s m args below meth cd H locs cells slots 0 0 (F0 m pc ls st) rest (va_Qi (fun (v : Int32) (_ : Unit) => v = rv) (gB E wc H.size w1) (va_A wc H.size) aa) (va_A wc H.size)) (hC : is.map (fun i => ws[i]?) = wc.map some) (had : w1.map (·.1) = wc.map (·.1)) (hC' : is.map (fun i => ws'[i]?) = w1.map some) {isR : List Nat} {nW : Nat} (hsame : g_same isR ws ws') (hl1 : ws.length = nW) (hl2 : ws'.length = nW) (hcov : (List.range nW).all (fun k => is.contains k || isR.contains k) = true)
    (kk : ∀ (H1 : Heap) (locs1 : List Loc), gS E A H0 ws' H1 locs1 → W p l e R s m args below meth cd H1 locs1 cells slots Q (F0 m (pc + 3) ls (.int rv :: rest))) : W p l e R s m args below meth cd H locs cells slots Q (F0 m pc ls st) := by
  have hFc := va_free hw.2.1 hw.2.2 hA is hC
  refine va_calli hr hw.2.2 (fun q _ h => hFc q h) hFc (fun r u t H1 locs1 ht hvm hpost hB hz1 hk1 hS1 => ?_)
  obtain ⟨hP1, hD1⟩ := hB
  rw [ht] at hP1
  obtain ⟨hP2, hD2⟩ := g_frame hw.1 hw.2.1 hC hC' hsame hl1 hl2 hcov had hk1 hP1
  rw [hpost]
  exact kk _ _ ⟨hP2, hD2, hS1⟩
theorem g_kl {rv : Int64} {aa : Array Value} (hw : gS E A H0 ws H locs) (hA : ∀ q : Nat, H0.size ≤ q → A q) (hr : va_Run p l e R s m args below meth cd H locs cells slots 0 0 (F0 m pc ls st) rest (va_Ql (fun (v : Int64) (_ : Unit) => v = rv) (gB E wc H.size w1) (va_A wc H.size) aa) (va_A wc H.size)) (hC : is.map (fun i => ws[i]?) = wc.map some) (had : w1.map (·.1) = wc.map (·.1)) (hC' : is.map (fun i => ws'[i]?) = w1.map some) {isR : List Nat} {nW : Nat} (hsame : g_same isR ws ws') (hl1 : ws.length = nW) (hl2 : ws'.length = nW) (hcov : (List.range nW).all (fun k => is.contains k || isR.contains k) = true)
    (kk : ∀ (H1 : Heap) (locs1 : List Loc), gS E A H0 ws' H1 locs1 → W p l e R s m args below meth cd H1 locs1 cells slots Q (F0 m (pc + 3) ls (.long rv :: rest))) : W p l e R s m args below meth cd H locs cells slots Q (F0 m pc ls st) := by
  have hFc := va_free hw.2.1 hw.2.2 hA is hC
  refine va_calll hr hw.2.2 (fun q _ h => hFc q h) hFc (fun r u t H1 locs1 ht hvm hpost hB hz1 hk1 hS1 => ?_)
  obtain ⟨hP1, hD1⟩ := hB
  rw [ht] at hP1
  obtain ⟨hP2, hD2⟩ := g_frame hw.1 hw.2.1 hC hC' hsame hl1 hl2 hcov had hk1 hP1
  rw [hpost]
  exact kk _ _ ⟨hP2, hD2, hS1⟩
theorem g_kv {aa : Array Value} (hw : gS E A H0 ws H locs) (hA : ∀ q : Nat, H0.size ≤ q → A q) (hr : va_Run p l e R s m args below meth cd H locs cells slots 0 0 (F0 m pc ls st) rest (va_Qv (fun (_ : Unit) => True) (gB E wc H.size w1) (va_A wc H.size) aa) (va_A wc H.size)) (hC : is.map (fun i => ws[i]?) = wc.map some) (had : w1.map (·.1) = wc.map (·.1)) (hC' : is.map (fun i => ws'[i]?) = w1.map some) {isR : List Nat} {nW : Nat} (hsame : g_same isR ws ws') (hl1 : ws.length = nW) (hl2 : ws'.length = nW) (hcov : (List.range nW).all (fun k => is.contains k || isR.contains k) = true)
    (kk : ∀ (H1 : Heap) (locs1 : List Loc), gS E A H0 ws' H1 locs1 → W p l e R s m args below meth cd H1 locs1 cells slots Q (F0 m (pc + 3) ls rest)) : W p l e R s m args below meth cd H locs cells slots Q (F0 m pc ls st) := by
  have hFc := va_free hw.2.1 hw.2.2 hA is hC
  refine va_callv hr hw.2.2 (fun q _ h => hFc q h) hFc (fun u t H1 locs1 ht hvm hpost hB hz1 hk1 hS1 => ?_)
  obtain ⟨hP1, hD1⟩ := hB
  rw [ht] at hP1
  obtain ⟨hP2, hD2⟩ := g_frame hw.1 hw.2.1 hC hC' hsame hl1 hl2 hcov had hk1 hP1
  exact kk _ _ ⟨hP2, hD2, hS1⟩
theorem g_kr {rv : Nat} {aa : Array Value} (hw : gS E A H0 ws H locs) (hA : ∀ q : Nat, H0.size ≤ q → A q) (hr : va_Run p l e R s m args below meth cd H locs cells slots 0 0 (F0 m pc ls st) rest (va_Qr (fun (_ : Unit) => True) (fun u b t => b = rv ∧ gB E wc H.size w1 u t) (va_A wc H.size) aa) (va_A wc H.size)) (hC : is.map (fun i => ws[i]?) = wc.map some) (had : w1.map (·.1) = wc.map (·.1)) (hC' : is.map (fun i => ws'[i]?) = w1.map some) {isR : List Nat} {nW : Nat} (hsame : g_same isR ws ws') (hl1 : ws.length = nW) (hl2 : ws'.length = nW) (hcov : (List.range nW).all (fun k => is.contains k || isR.contains k) = true)
    (kk : ∀ (H1 : Heap) (locs1 : List Loc), gS E A H0 ws' H1 locs1 → W p l e R s m args below meth cd H1 locs1 cells slots Q (F0 m (pc + 3) ls (.ref rv :: rest))) : W p l e R s m args below meth cd H locs cells slots Q (F0 m pc ls st) := by
  have hFc := va_free hw.2.1 hw.2.2 hA is hC
  refine va_callr hr hw.2.2 (fun q _ h => hFc q h) hFc (fun u ra t H1 locs1 ht hvm hpost hB hz1 hk1 hS1 => ?_)
  obtain ⟨hra, hP1, hD1⟩ := hB
  rw [ht] at hP1
  obtain ⟨hP2, hD2⟩ := g_frame hw.1 hw.2.1 hC hC' hsame hl1 hl2 hcov had hk1 hP1
  rw [hra]
  exact kk _ _ ⟨hP2, hD2, hS1⟩
theorem g_ki0 {rv : Int32} {aa : Array Value} (hw : gS E A H0 ws H locs) (hA : ∀ q : Nat, H0.size ≤ q → A q) (hr : va_Run p l e R s m args below meth cd H locs cells slots 0 0 (F0 m pc ls st) rest (va_Qi (fun (v : Int32) (_ : Unit) => v = rv) (gB E wc H.size wc) (va_A wc H.size) aa) (va_A wc H.size)) (hC : is.map (fun i => ws[i]?) = wc.map some)
    (kk : ∀ (H1 : Heap) (locs1 : List Loc), gS E A H0 ws H1 locs1 → W p l e R s m args below meth cd H1 locs1 cells slots Q (F0 m (pc + 3) ls (.int rv :: rest))) : W p l e R s m args below meth cd H locs cells slots Q (F0 m pc ls st) := by
  have hFc := va_free hw.2.1 hw.2.2 hA is hC
  refine va_calli hr hw.2.2 (fun q _ h => hFc q h) hFc (fun r u t H1 locs1 ht hvm hpost hB hz1 hk1 hS1 => ?_)
  obtain ⟨hP1, hD1⟩ := hB
  rw [ht] at hP1
  have hP2 := g_frame0 hw.1 hw.2.1 hC hk1 hP1
  rw [hpost]
  exact kk _ _ ⟨hP2, hw.2.1, hS1⟩
theorem g_kl0 {rv : Int64} {aa : Array Value} (hw : gS E A H0 ws H locs) (hA : ∀ q : Nat, H0.size ≤ q → A q) (hr : va_Run p l e R s m args below meth cd H locs cells slots 0 0 (F0 m pc ls st) rest (va_Ql (fun (v : Int64) (_ : Unit) => v = rv) (gB E wc H.size wc) (va_A wc H.size) aa) (va_A wc H.size)) (hC : is.map (fun i => ws[i]?) = wc.map some)
    (kk : ∀ (H1 : Heap) (locs1 : List Loc), gS E A H0 ws H1 locs1 → W p l e R s m args below meth cd H1 locs1 cells slots Q (F0 m (pc + 3) ls (.long rv :: rest))) : W p l e R s m args below meth cd H locs cells slots Q (F0 m pc ls st) := by
  have hFc := va_free hw.2.1 hw.2.2 hA is hC
  refine va_calll hr hw.2.2 (fun q _ h => hFc q h) hFc (fun r u t H1 locs1 ht hvm hpost hB hz1 hk1 hS1 => ?_)
  obtain ⟨hP1, hD1⟩ := hB
  rw [ht] at hP1
  have hP2 := g_frame0 hw.1 hw.2.1 hC hk1 hP1
  rw [hpost]
  exact kk _ _ ⟨hP2, hw.2.1, hS1⟩
theorem g_kv0 {aa : Array Value} (hw : gS E A H0 ws H locs) (hA : ∀ q : Nat, H0.size ≤ q → A q) (hr : va_Run p l e R s m args below meth cd H locs cells slots 0 0 (F0 m pc ls st) rest (va_Qv (fun (_ : Unit) => True) (gB E wc H.size wc) (va_A wc H.size) aa) (va_A wc H.size)) (hC : is.map (fun i => ws[i]?) = wc.map some)
    (kk : ∀ (H1 : Heap) (locs1 : List Loc), gS E A H0 ws H1 locs1 → W p l e R s m args below meth cd H1 locs1 cells slots Q (F0 m (pc + 3) ls rest)) : W p l e R s m args below meth cd H locs cells slots Q (F0 m pc ls st) := by
  have hFc := va_free hw.2.1 hw.2.2 hA is hC
  refine va_callv hr hw.2.2 (fun q _ h => hFc q h) hFc (fun u t H1 locs1 ht hvm hpost hB hz1 hk1 hS1 => ?_)
  obtain ⟨hP1, hD1⟩ := hB
  rw [ht] at hP1
  have hP2 := g_frame0 hw.1 hw.2.1 hC hk1 hP1
  exact kk _ _ ⟨hP2, hw.2.1, hS1⟩
theorem g_kr0 {rv : Nat} {aa : Array Value} (hw : gS E A H0 ws H locs) (hA : ∀ q : Nat, H0.size ≤ q → A q) (hr : va_Run p l e R s m args below meth cd H locs cells slots 0 0 (F0 m pc ls st) rest (va_Qr (fun (_ : Unit) => True) (fun u b t => b = rv ∧ gB E wc H.size wc u t) (va_A wc H.size) aa) (va_A wc H.size)) (hC : is.map (fun i => ws[i]?) = wc.map some)
    (kk : ∀ (H1 : Heap) (locs1 : List Loc), gS E A H0 ws H1 locs1 → W p l e R s m args below meth cd H1 locs1 cells slots Q (F0 m (pc + 3) ls (.ref rv :: rest))) : W p l e R s m args below meth cd H locs cells slots Q (F0 m pc ls st) := by
  have hFc := va_free hw.2.1 hw.2.2 hA is hC
  refine va_callr hr hw.2.2 (fun q _ h => hFc q h) hFc (fun u ra t H1 locs1 ht hvm hpost hB hz1 hk1 hS1 => ?_)
  obtain ⟨hra, hP1, hD1⟩ := hB
  rw [ht] at hP1
  have hP2 := g_frame0 hw.1 hw.2.1 hC hk1 hP1
  rw [hra]
  exact kk _ _ ⟨hP2, hw.2.1, hS1⟩
end GCALLS
/-! a method's beginning, and its ends -/
section GOPEN
variable {l : Launch} {y : MethodName} {c : ByteArray} {n : Nat} {rm : Room} {E : gE} {av : List Value} {ws0 ws1 : va_W} {sz : Nat} {own : String}
theorem g_openI {rv : Int32} (hy : plainName y.cls = true) (hyo : y.cls = own) (hav : (lg_sl av).length ≤ n)
    (body : ∀ (p : Program) (e : Env) (s : State) (m : MethodId) (args : Array Value) (below : List Frame) (meth : Method) (cd : Code) (Q : State → Prop) (A : Nat → Prop), p.tables.exec = Jvm.exec → cd.code = c → cd.maxLocals = n → s.vm.findClass own = some m.cls → (∀ w ∈ wsL_law, w.before args s = true) → gK E s → (∀ q : Nat, s.heap.size ≤ q → A q) →
      (∀ (H : Heap) (locs : List Loc) (pc : Nat) (ls : Array Slot), gS E A s.heap ws1 H locs → decode c pc = .ok (.ireturn, 1) → W p l e rm s m args below meth cd H locs 0 0 Q (F0 m pc ls [.int rv])) →
      gS E A s.heap ws0 s.heap [] → ∀ ls : Array Slot, lv_has ls n (lv_args 0 av) → W p l e rm s m args below meth cd s.heap [] 0 0 Q (F0 m 0 ls [])) : gMi l y (gW y c n (some .int)) rm E av ws0 sz rv ws1 := by
  refine Met.ofW (cc := c) (maxL := n) (ret := some .int) hy rfl ?_
  intro p e s m args below meth cd s₁ B hml hv
  obtain ⟨rfl, hsz, hP, hK, hD0⟩ := hv
  have hts := atoms_spec (ws := gW y c n (some .int)) B.pre
  have hD := hD0.self (sz := s.heap.size)
  have hown : s.vm.findClass own = some m.cls := by rw [← hyo]; exact findClass_of_methodNamed B.named
  have hx := B.exec
  have hb := B.bytes
  have hr := B.returns
  have hlk := B.notSynchronized
  rw [lg_entry_eq]
  subst hsz
  refine body p e s m av.toArray below meth cd _ (va_A ws0 s.heap.size) hx hb hml hown (fun w h => hts w (List.mem_cons_of_mem _ h)) hK (fun q h => Or.inr h) ?_ ⟨hP, hD, va_S.rf⟩ _ (lv_entry av (n := n) hav)
  intro H locs pc ls hw hdg
  exact W.iret (v := rv) hx hb hr (fun t ht hW => ⟨⟨rv, (), rfl, rfl, by rw [ht]; exact hw.1, hw.2.1⟩, hw.2.2.F ht⟩) hw.2.2.2.2 hdg hlk
theorem g_openZ {rv : Int32} (hy : plainName y.cls = true) (hyo : y.cls = own) (hav : (lg_sl av).length ≤ n)
    (body : ∀ (p : Program) (e : Env) (s : State) (m : MethodId) (args : Array Value) (below : List Frame) (meth : Method) (cd : Code) (Q : State → Prop) (A : Nat → Prop), p.tables.exec = Jvm.exec → cd.code = c → cd.maxLocals = n → s.vm.findClass own = some m.cls → (∀ w ∈ wsL_law, w.before args s = true) → gK E s → (∀ q : Nat, s.heap.size ≤ q → A q) →
      (∀ (H : Heap) (locs : List Loc) (pc : Nat) (ls : Array Slot), rv &&& 1 = rv → gS E A s.heap ws1 H locs → decode c pc = .ok (.ireturn, 1) → W p l e rm s m args below meth cd H locs 0 0 Q (F0 m pc ls [.int rv])) →
      gS E A s.heap ws0 s.heap [] → ∀ ls : Array Slot, lv_has ls n (lv_args 0 av) → W p l e rm s m args below meth cd s.heap [] 0 0 Q (F0 m 0 ls [])) : gMi l y (gW y c n (some .boolean)) rm E av ws0 sz rv ws1 := by
  refine Met.ofW (cc := c) (maxL := n) (ret := some .boolean) hy rfl ?_
  intro p e s m args below meth cd s₁ B hml hv
  obtain ⟨rfl, hsz, hP, hK, hD0⟩ := hv
  have hts := atoms_spec (ws := gW y c n (some .boolean)) B.pre
  have hD := hD0.self (sz := s.heap.size)
  have hown : s.vm.findClass own = some m.cls := by rw [← hyo]; exact findClass_of_methodNamed B.named
  have hx := B.exec
  have hb := B.bytes
  have hr := B.returns
  have hlk := B.notSynchronized
  rw [lg_entry_eq]
  subst hsz
  refine body p e s m av.toArray below meth cd _ (va_A ws0 s.heap.size) hx hb hml hown (fun w h => hts w (List.mem_cons_of_mem _ h)) hK (fun q h => Or.inr h) ?_ ⟨hP, hD, va_S.rf⟩ _ (lv_entry av (n := n) hav)
  intro H locs pc ls hz hw hdg
  exact W.zret (v := rv) hx hb hr (show Value.int (rv &&& 1) = .int rv by rw [hz]) (fun t ht hW => ⟨⟨rv, (), rfl, rfl, by rw [ht]; exact hw.1, hw.2.1⟩, hw.2.2.F ht⟩) hw.2.2.2.2 hdg hlk
theorem g_openL {rv : Int64} (hy : plainName y.cls = true) (hyo : y.cls = own) (hav : (lg_sl av).length ≤ n)
    (body : ∀ (p : Program) (e : Env) (s : State) (m : MethodId) (args : Array Value) (below : List Frame) (meth : Method) (cd : Code) (Q : State → Prop) (A : Nat → Prop), p.tables.exec = Jvm.exec → cd.code = c → cd.maxLocals = n → s.vm.findClass own = some m.cls → (∀ w ∈ wsL_law, w.before args s = true) → gK E s → (∀ q : Nat, s.heap.size ≤ q → A q) →
      (∀ (H : Heap) (locs : List Loc) (pc : Nat) (ls : Array Slot), gS E A s.heap ws1 H locs → decode c pc = .ok (.lreturn, 1) → W p l e rm s m args below meth cd H locs 0 0 Q (F0 m pc ls [.long rv])) →
      gS E A s.heap ws0 s.heap [] → ∀ ls : Array Slot, lv_has ls n (lv_args 0 av) → W p l e rm s m args below meth cd s.heap [] 0 0 Q (F0 m 0 ls [])) : gMl l y (gW y c n (some .long)) rm E av ws0 sz rv ws1 := by
  refine Met.ofW (cc := c) (maxL := n) (ret := some .long) hy rfl ?_
  intro p e s m args below meth cd s₁ B hml hv
  obtain ⟨rfl, hsz, hP, hK, hD0⟩ := hv
  have hts := atoms_spec (ws := gW y c n (some .long)) B.pre
  have hD := hD0.self (sz := s.heap.size)
  have hown : s.vm.findClass own = some m.cls := by rw [← hyo]; exact findClass_of_methodNamed B.named
  have hx := B.exec
  have hb := B.bytes
  have hr := B.returns
  have hlk := B.notSynchronized
  rw [lg_entry_eq]
  subst hsz
  refine body p e s m av.toArray below meth cd _ (va_A ws0 s.heap.size) hx hb hml hown (fun w h => hts w (List.mem_cons_of_mem _ h)) hK (fun q h => Or.inr h) ?_ ⟨hP, hD, va_S.rf⟩ _ (lv_entry av (n := n) hav)
  intro H locs pc ls hw hdg
  exact W.lret (v := rv) hx hb hr (fun t ht hW => ⟨⟨rv, (), rfl, rfl, by rw [ht]; exact hw.1, hw.2.1⟩, hw.2.2.F ht⟩) hw.2.2.2.2 hdg hlk
theorem g_openV (hy : plainName y.cls = true) (hyo : y.cls = own) (hav : (lg_sl av).length ≤ n)
    (body : ∀ (p : Program) (e : Env) (s : State) (m : MethodId) (args : Array Value) (below : List Frame) (meth : Method) (cd : Code) (Q : State → Prop) (A : Nat → Prop), p.tables.exec = Jvm.exec → cd.code = c → cd.maxLocals = n → s.vm.findClass own = some m.cls → (∀ w ∈ wsL_law, w.before args s = true) → gK E s → (∀ q : Nat, s.heap.size ≤ q → A q) →
      (∀ (H : Heap) (locs : List Loc) (pc : Nat) (ls : Array Slot), gS E A s.heap ws1 H locs → decode c pc = .ok (.return_, 1) → W p l e rm s m args below meth cd H locs 0 0 Q (F0 m pc ls [])) →
      gS E A s.heap ws0 s.heap [] → ∀ ls : Array Slot, lv_has ls n (lv_args 0 av) → W p l e rm s m args below meth cd s.heap [] 0 0 Q (F0 m 0 ls [])) : gMv l y (gW y c n none) rm E av ws0 sz ws1 := by
  refine Met.ofW (cc := c) (maxL := n) (ret := none) hy rfl ?_
  intro p e s m args below meth cd s₁ B hml hv
  obtain ⟨rfl, hsz, hP, hK, hD0⟩ := hv
  have hts := atoms_spec (ws := gW y c n (none)) B.pre
  have hD := hD0.self (sz := s.heap.size)
  have hown : s.vm.findClass own = some m.cls := by rw [← hyo]; exact findClass_of_methodNamed B.named
  have hx := B.exec
  have hb := B.bytes
  have hr := B.returns
  have hlk := B.notSynchronized
  rw [lg_entry_eq]
  subst hsz
  refine body p e s m av.toArray below meth cd _ (va_A ws0 s.heap.size) hx hb hml hown (fun w h => hts w (List.mem_cons_of_mem _ h)) hK (fun q h => Or.inr h) ?_ ⟨hP, hD, va_S.rf⟩ _ (lv_entry av (n := n) hav)
  intro H locs pc ls hw hdg
  exact W.vret hx hb hr (fun t ht hW => ⟨⟨(), rfl, trivial, by rw [ht]; exact hw.1, hw.2.1⟩, hw.2.2.F ht⟩) hw.2.2.2.2 hdg hlk
theorem g_openR {rv : Nat} {cn : String} (hy : plainName y.cls = true) (hyo : y.cls = own) (hav : (lg_sl av).length ≤ n)
    (body : ∀ (p : Program) (e : Env) (s : State) (m : MethodId) (args : Array Value) (below : List Frame) (meth : Method) (cd : Code) (Q : State → Prop) (A : Nat → Prop), p.tables.exec = Jvm.exec → cd.code = c → cd.maxLocals = n → s.vm.findClass own = some m.cls → (∀ w ∈ wsL_law, w.before args s = true) → gK E s → (∀ q : Nat, s.heap.size ≤ q → A q) →
      (∀ (H : Heap) (locs : List Loc) (pc : Nat) (ls : Array Slot), gS E A s.heap ws1 H locs → decode c pc = .ok (.areturn, 1) → W p l e rm s m args below meth cd H locs 0 0 Q (F0 m pc ls [.ref rv])) →
      gS E A s.heap ws0 s.heap [] → ∀ ls : Array Slot, lv_has ls n (lv_args 0 av) → W p l e rm s m args below meth cd s.heap [] 0 0 Q (F0 m 0 ls [])) : gMr l y (gW y c n (some (.object cn))) rm E av ws0 sz rv ws1 := by
  refine Met.ofW (cc := c) (maxL := n) (ret := some (.object cn)) hy rfl ?_
  intro p e s m args below meth cd s₁ B hml hv
  obtain ⟨rfl, hsz, hP, hK, hD0⟩ := hv
  have hts := atoms_spec (ws := gW y c n (some (.object cn))) B.pre
  have hD := hD0.self (sz := s.heap.size)
  have hown : s.vm.findClass own = some m.cls := by rw [← hyo]; exact findClass_of_methodNamed B.named
  have hx := B.exec
  have hb := B.bytes
  have hr := B.returns
  have hlk := B.notSynchronized
  rw [lg_entry_eq]
  subst hsz
  refine body p e s m av.toArray below meth cd _ (va_A ws0 s.heap.size) hx hb hml hown (fun w h => hts w (List.mem_cons_of_mem _ h)) hK (fun q h => Or.inr h) ?_ ⟨hP, hD, va_S.rf⟩ _ (lv_entry av (n := n) hav)
  intro H locs pc ls hw hdg
  exact W.aret (v := .ref rv) hx hb hr (Or.inl ⟨cn, rfl⟩) (Or.inr ⟨rv, rfl⟩) (fun t ht hW => ⟨⟨(), rv, rfl, trivial, rfl, by rw [ht]; exact hw.1, hw.2.1⟩, hw.2.2.F ht⟩) hw.2.2.2.2 hdg hlk
end GOPEN
/-! constants -/
theorem k_bm6 : (Int8.ofInt (-6)).toInt32 = (-6 : Int32) := by decide +kernel
theorem k_bm5 : (Int8.ofInt (-5)).toInt32 = (-5 : Int32) := by decide +kernel
theorem k_bm4 : (Int8.ofInt (-4)).toInt32 = (-4 : Int32) := by decide +kernel
theorem k_bm3 : (Int8.ofInt (-3)).toInt32 = (-3 : Int32) := by decide +kernel
theorem k_bm2 : (Int8.ofInt (-2)).toInt32 = (-2 : Int32) := by decide +kernel
theorem k_b6 : (Int8.ofInt 6).toInt32 = (6 : Int32) := by decide +kernel
theorem k_b7 : (Int8.ofInt 7).toInt32 = (7 : Int32) := by decide +kernel
theorem k_b8 : (Int8.ofInt 8).toInt32 = (8 : Int32) := by decide +kernel
theorem k_b9 : (Int8.ofInt 9).toInt32 = (9 : Int32) := by decide +kernel
theorem k_b10 : (Int8.ofInt 10).toInt32 = (10 : Int32) := by decide +kernel
theorem k_b12 : (Int8.ofInt 12).toInt32 = (12 : Int32) := by decide +kernel
theorem k_b16 : (Int8.ofInt 16).toInt32 = (16 : Int32) := by decide +kernel
theorem k_b31 : (Int8.ofInt 31).toInt32 = (31 : Int32) := by decide +kernel
theorem k_b33 : (Int8.ofInt 33).toInt32 = (33 : Int32) := by decide +kernel
theorem k_b36 : (Int8.ofInt 36).toInt32 = (36 : Int32) := by decide +kernel
theorem k_b37 : (Int8.ofInt 37).toInt32 = (37 : Int32) := by decide +kernel
theorem k_b40 : (Int8.ofInt 40).toInt32 = (40 : Int32) := by decide +kernel
theorem k_b41 : (Int8.ofInt 41).toInt32 = (41 : Int32) := by decide +kernel
theorem k_b48 : (Int8.ofInt 48).toInt32 = (48 : Int32) := by decide +kernel
theorem k_b49 : (Int8.ofInt 49).toInt32 = (49 : Int32) := by decide +kernel
theorem k_b50 : (Int8.ofInt 50).toInt32 = (50 : Int32) := by decide +kernel
theorem k_b51 : (Int8.ofInt 51).toInt32 = (51 : Int32) := by decide +kernel
theorem k_b52 : (Int8.ofInt 52).toInt32 = (52 : Int32) := by decide +kernel
theorem k_b53 : (Int8.ofInt 53).toInt32 = (53 : Int32) := by decide +kernel
theorem k_b60 : (Int8.ofInt 60).toInt32 = (60 : Int32) := by decide +kernel
theorem k_b63 : (Int8.ofInt 63).toInt32 = (63 : Int32) := by decide +kernel
theorem k_b65 : (Int8.ofInt 65).toInt32 = (65 : Int32) := by decide +kernel
theorem k_b69 : (Int8.ofInt 69).toInt32 = (69 : Int32) := by decide +kernel
theorem k_b74 : (Int8.ofInt 74).toInt32 = (74 : Int32) := by decide +kernel
theorem k_b75 : (Int8.ofInt 75).toInt32 = (75 : Int32) := by decide +kernel
theorem k_b81 : (Int8.ofInt 81).toInt32 = (81 : Int32) := by decide +kernel
theorem k_b82 : (Int8.ofInt 82).toInt32 = (82 : Int32) := by decide +kernel
theorem k_b90 : (Int8.ofInt 90).toInt32 = (90 : Int32) := by decide +kernel
theorem k_b99 : (Int8.ofInt 99).toInt32 = (99 : Int32) := by decide +kernel
theorem k_b100 : (Int8.ofInt 100).toInt32 = (100 : Int32) := by decide +kernel
theorem k_b109 : (Int8.ofInt 109).toInt32 = (109 : Int32) := by decide +kernel
theorem k_b126 : (Int8.ofInt 126).toInt32 = (126 : Int32) := by decide +kernel
theorem k_im1 : Int32.ofInt (-1) = (-1 : Int32) := by decide +kernel
theorem k_i0 : Int32.ofInt 0 = (0 : Int32) := by decide +kernel
theorem k_i1 : Int32.ofInt 1 = (1 : Int32) := by decide +kernel
theorem k_i2 : Int32.ofInt 2 = (2 : Int32) := by decide +kernel
theorem k_i3 : Int32.ofInt 3 = (3 : Int32) := by decide +kernel
theorem k_i4 : Int32.ofInt 4 = (4 : Int32) := by decide +kernel
theorem k_i5 : Int32.ofInt 5 = (5 : Int32) := by decide +kernel
theorem k_s135 : (Int16.ofInt 135).toInt32 = (135 : Int32) := by decide +kernel
theorem k_s180 : (Int16.ofInt 180).toInt32 = (180 : Int32) := by decide +kernel
theorem k_s192 : (Int16.ofInt 192).toInt32 = (192 : Int32) := by decide +kernel
theorem k_s360 : (Int16.ofInt 360).toInt32 = (360 : Int32) := by decide +kernel
theorem k_s999 : (Int16.ofInt 999).toInt32 = (999 : Int32) := by decide +kernel
theorem k_s1000 : (Int16.ofInt 1000).toInt32 = (1000 : Int32) := by decide +kernel
theorem k_s9999 : (Int16.ofInt 9999).toInt32 = (9999 : Int32) := by decide +kernel
theorem k_inc1 (x : Int32) : x + Int32.ofInt 1 = x + 1 := congrArg (fun z => x + z) (by decide +kernel)
theorem k_inc5 (x : Int32) : x + Int32.ofInt 5 = x + 5 := congrArg (fun z => x + z) (by decide +kernel)
theorem k_incm1 (x : Int32) : x + Int32.ofInt (-1) = x + (-1) := congrArg (fun z => x + z) (by decide +kernel)
theorem k_l0 : Int64.ofNat ((0 : Fin 2) : Nat) = (0 : Int64) := by decide +kernel
theorem k_l1 : Int64.ofNat ((1 : Fin 2) : Nat) = (1 : Int64) := by decide +kernel
set_option maxRecDepth 100000 in
theorem g_allgood : wsL_law.all goodWord = true := by decide +kernel
