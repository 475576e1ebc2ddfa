/-! what is made: objects, arrays; constructors -/
def g_sel (as : List Nat) (k : Nat) : Nat := as.getD k 0
abbrev gMc (l : Launch) (y : MethodName) (c : ByteArray) (n : Nat) (rm : Room) (E : gE) (av : List Value) (ws0 : va_W) (sz : Nat) (U : Type) (w : U → va_W) (mc ms : Nat) : Prop := Met l y (gW y c n none) rm (gPc E av ws0 sz) (va_Qv (fun (_ : U) => True) (fun u t => va_P E.1 vwCl (w u) t.heap ∧ va_D (va_A ws0 sz) (w u)) (va_A ws0 sz)) mc ms (va_A ws0 sz)
section GMAKE
variable {p : Program} {l : Launch} {e : Env} {R : Room} {s : State} {m : MethodId} {args : Array Value} {below : List Frame} {meth : Method} {cd : Code} {H : Heap} {locs : List Loc} {cells slots : Nat} {Q : State → Prop}
variable {cc : ByteArray} {pc : Nat} {ls : Array Slot} {rest : List Value} {E : gE} {A : Nat → Prop} {H0 : Heap} {ws : va_W} {a : Nat}
theorem g_new (hx : p.tables.exec = Jvm.exec) (hb : cd.code = cc) (hG : ∀ w ∈ wsL_law, w.before args s = true) {own : String} (hown : s.vm.findClass own = some m.cls) (hK : gK E s) (hw : gS E A H0 ws H locs) (hA : ∀ q : Nat, H0.size ≤ q → A q) {C : String} {T : u_T} {N ci index : Nat} (hin : ∀ w ∈ u_ws C T N, w ∈ wsL_law) {ty : Nat → FieldType} (hty : ∀ k, k < N → parseFieldDescriptor (T k).2.2.1 = some (ty k)) (hcl : Cond.classLink own index C ∈ wsL_law) (hinst : Cond.instantiable C N ∈ wsL_law) (hini : Cond.initialized C ∈ wsL_law) (hc : vwCl[ci]? = some (C, T, N)) {fs : List Value} (hfs : ∀ j, j < N → defaultValue (ty j) = vp_V fs j) (hcells : cells + 1 ≤ R.cells) (hslots : slots + N ≤ R.slots) (hdg : decode cc pc = .ok (.new index, 3))
    (kk : ∀ (q : Nat) (H1 : Heap), gS E A H0 (ws ++ [(q, .inr (ci, fs))]) H1 locs → W p l e R s m args below meth cd H1 locs (cells + 1) (slots + N) Q (F0 m (pc + 3) ls (.ref q :: rest))) : W p l e R s m args below meth cd H locs cells slots Q (F0 m pc ls rest) :=
  va_new hx hb hG hin ty hty hown (hG _ hcl) (hG _ hinst) (hG _ hini) hK.1 hw.1 hw.2.1 hw.2.2 hA hc hfs hcells hslots hdg (fun q H1 hP hD hS => kk q H1 ⟨hP, hD, hS⟩)
theorem g_newi (hx : p.tables.exec = Jvm.exec) (hb : cd.code = cc) (hG : ∀ w ∈ wsL_law, w.before args s = true) (hK : gK E s) (hw : gS E A H0 ws H locs) (hA : ∀ q : Nat, H0.size ≤ q → A q) {n : Int32} {N' : Nat} (hn : ¬ n < 0) (hN : n.toNatClampNeg = N') (hbytes : N' * componentBytes .int ≤ 536870912) (hcells : cells + 1 ≤ R.cells) (hslots : slots + N' ≤ R.slots) (hdg : decode cc pc = .ok (.newarray .int, 2))
    (kk : ∀ (q : Nat) (H1 : Heap), gS E A H0 (ws ++ [(q, .inl (E.2.1, N', .inl (fun _ => 0)))]) H1 locs → W p l e R s m args below meth cd H1 locs (cells + 1) (slots + N') Q (F0 m (pc + 2) ls (.ref q :: rest))) : W p l e R s m args below meth cd H locs cells slots Q (F0 m pc ls (.int n :: rest)) := by
  refine va_newa (atype := .int) (ty := .int) hx hb (hG _ wd_3_5) rfl hK.1 hw.1 hw.2.1 hw.2.2 hA (a0 := (N', .inl (fun _ => 0))) (fun cA => rfl) hn hN hbytes hcells hslots hdg (fun q cA H1 hK' hP hD hS => ?_)
  have h1 : s.vm.findClass _ = some cA := (hK'.2 3 _ rfl).2
  have h2 : s.vm.findClass _ = some E.2.1 := (hK.1.2 0 _ rfl).2
  have h3 : cA = E.2.1 := Option.some.inj (h1.symm.trans h2)
  subst h3
  exact kk q H1 ⟨hP, hD, hS⟩
theorem g_newl (hx : p.tables.exec = Jvm.exec) (hb : cd.code = cc) (hG : ∀ w ∈ wsL_law, w.before args s = true) (hK : gK E s) (hw : gS E A H0 ws H locs) (hA : ∀ q : Nat, H0.size ≤ q → A q) {n : Int32} {N' : Nat} (hn : ¬ n < 0) (hN : n.toNatClampNeg = N') (hbytes : N' * componentBytes .long ≤ 536870912) (hcells : cells + 1 ≤ R.cells) (hslots : slots + N' ≤ R.slots) (hdg : decode cc pc = .ok (.newarray .long, 2))
    (kk : ∀ (q : Nat) (H1 : Heap), gS E A H0 (ws ++ [(q, .inl (E.2.2.1, N', .inr (.inl (fun _ => 0))))]) H1 locs → W p l e R s m args below meth cd H1 locs (cells + 1) (slots + N') Q (F0 m (pc + 2) ls (.ref q :: rest))) : W p l e R s m args below meth cd H locs cells slots Q (F0 m pc ls (.int n :: rest)) := by
  refine va_newa (atype := .long) (ty := .long) hx hb (hG _ wd_6_13) rfl hK.1 hw.1 hw.2.1 hw.2.2 hA (a0 := (N', .inr (.inl (fun _ => 0)))) (fun cA => rfl) hn hN hbytes hcells hslots hdg (fun q cA H1 hK' hP hD hS => ?_)
  have h1 : s.vm.findClass _ = some cA := (hK'.2 3 _ rfl).2
  have h2 : s.vm.findClass _ = some E.2.2.1 := (hK.1.2 1 _ rfl).2
  have h3 : cA = E.2.2.1 := Option.some.inj (h1.symm.trans h2)
  subst h3
  exact kk q H1 ⟨hP, hD, hS⟩
theorem g_newz (hx : p.tables.exec = Jvm.exec) (hb : cd.code = cc) (hG : ∀ w ∈ wsL_law, w.before args s = true) (hK : gK E s) (hw : gS E A H0 ws H locs) (hA : ∀ q : Nat, H0.size ≤ q → A q) {n : Int32} {N' : Nat} (hn : ¬ n < 0) (hN : n.toNatClampNeg = N') (hbytes : N' * componentBytes .boolean ≤ 536870912) (hcells : cells + 1 ≤ R.cells) (hslots : slots + N' ≤ R.slots) (hdg : decode cc pc = .ok (.newarray .boolean, 2))
    (kk : ∀ (q : Nat) (H1 : Heap), gS E A H0 (ws ++ [(q, .inl (E.2.2.2, N', .inl (fun _ => 0)))]) H1 locs → W p l e R s m args below meth cd H1 locs (cells + 1) (slots + N') Q (F0 m (pc + 2) ls (.ref q :: rest))) : W p l e R s m args below meth cd H locs cells slots Q (F0 m pc ls (.int n :: rest)) := by
  refine va_newa (atype := .boolean) (ty := .boolean) hx hb (hG _ wd_6_17) rfl hK.1 hw.1 hw.2.1 hw.2.2 hA (a0 := (N', .inl (fun _ => 0))) (fun cA => rfl) hn hN hbytes hcells hslots hdg (fun q cA H1 hK' hP hD hS => ?_)
  have h1 : s.vm.findClass _ = some cA := (hK'.2 3 _ rfl).2
  have h2 : s.vm.findClass _ = some E.2.2.2 := (hK.1.2 2 _ rfl).2
  have h3 : cA = E.2.2.2 := Option.some.inj (h1.symm.trans h2)
  subst h3
  exact kk q H1 ⟨hP, hD, hS⟩
theorem g_putf (hx : p.tables.exec = Jvm.exec) (hb : cd.code = cc) (hG : ∀ w ∈ wsL_law, w.before args s = true) {own : String} (hown : s.vm.findClass own = some m.cls) (hK : gK E s) (hw : gS E A H0 ws H locs) (hin2 : meth.name = "<init>") {C : String} {T : u_T} {N ci index : Nat} (hin : ∀ w ∈ u_ws C T N, w ∈ wsL_law) {tyf : Nat → FieldType} (hty : ∀ k, k < N → parseFieldDescriptor (T k).2.2.1 = some (tyf k)) (hnm : ∀ a, a < N → ∀ b, b < N → a ≠ b → (T a).2.1 ≠ (T b).2.1) (hc : vwCl[ci]? = some (C, T, N)) (q0 k : Nat) (hk : k < N) {fs : List Value} {v : Value} (he : ws[q0]? = some (a, .inr (ci, fs))) (hlink : Cond.fieldLink own index (T k).1 (T k).2.1 (T k).2.2.1 ∈ wsL_law) (hfin : (T k).2.2.2 = true) (hdecl : (T k).1 = own) (hn : narrow (tyf k) v = v) (hfit : fits (tyf k) v = true) (hl : k < fs.length) {ws' : va_W} (hw' : ws.set q0 (a, .inr (ci, fs.set k v)) = ws') (hdg : decode cc pc = .ok (.putfield index, 3))
    (kk : ∀ (H1 : Heap) (locs1 : List Loc), gS E A H0 ws' H1 locs1 → W p l e R s m args below meth cd H1 locs1 cells slots Q (F0 m (pc + 3) ls rest)) : W p l e R s m args below meth cd H locs cells slots Q (F0 m pc ls (v :: .ref a :: rest)) := by
  subst hw'
  exact va_putF hx hb hG hin tyf hty hnm hown hK.1 hw.1 hw.2.1 hw.2.2 q0 he hc k hk (hG _ hlink) (fun _ h => h) hfin hin2 hdecl (hty k hk) hn hfit hl hdg (fun H1 locs1 a b c => kk H1 locs1 ⟨a, b, c⟩)
theorem g_oi (hx : p.tables.exec = Jvm.exec) (hb : cd.code = cc) (hml : cd.maxLocals = ls.size) (hG : ∀ w ∈ wsL_law, w.before args s = true) {own : String} (hown : s.vm.findClass own = some m.cls) {idx : Nat} (hlink : Cond.methodLink own idx objectInit ∈ wsL_law) (hR : 1 ≤ R.frames ∧ 12 ≤ R.locals) (hdg : decode cc pc = .ok (.invokespecial idx, 3))
    (kk : W p l e R s m args below meth cd H locs cells slots Q (F0 m (pc + 3) ls [])) : W p l e R s m args below meth cd H locs cells slots Q (F0 m pc ls [.ref a]) := by
  refine W.objInit (rest := []) hx hb hown (hG _ hlink) (hG _ wd_1_10) (hG _ wd_1_11) rfl hml.symm rfl hdg hR.1 (by have := hR.2; simpa using this) ?_
  exact kk
variable {y : MethodName} {cB : ByteArray} {nB nL index : Nat} {rm : Room} {own : String} {b : Nat} {wc : va_W} {is : List Nat} {U : Type} {w : U → va_W} {mc ms : Nat}
theorem g_rI (hx : p.tables.exec = Jvm.exec) (hb : cd.code = cc) (hml : cd.maxLocals = nL) (hG : ∀ w ∈ wsL_law, w.before args s = true) (hown : s.vm.findClass own = some m.cls) (hK : gK E s) (hw : gS E A H0 ws H locs) (hC : is.map (fun i => ws[i]?) = wc.map some) (hnd : va_nd is = true)
    {Qc : Array Value → State → Outcome → State → Prop} {free : Addr → Prop} (hM : Met l y (gW y cB nB none) rm (gPc E [.ref b] wc H.size) Qc mc ms free) {host : String} (h1 : (own, (index, (y, host))) ∈ gNest) (h2 : Cond.instanceMethod y ∈ wsL_law) (h4 : Cond.initialized y.cls ∈ wsL_law) (h5 : Cond.code y cB nB none ∈ wsL_law)
    (hyn : y.name = "<init>") (hd : y.cls ≠ "java/lang/invoke/MethodHandle" ∧ y.cls ≠ "java/lang/invoke/VarHandle" ∧ (parseMethodDescriptor y.desc).map (fun d => d.parameters.length) = some 0)
    (hg : wsL_law.all goodWord = true) (hrm : rm.cells = mc ∧ rm.slots = ms) (hR : rm.frames + 1 ≤ R.frames ∧ 8 + (nB + 11) + rm.locals ≤ R.locals) (hcs : cells + mc ≤ R.cells ∧ slots + ms ≤ R.slots)
    (hsz : ls.size = nL) (hroom : (rest.map fun v => v.category).sum ≤ 8) (hdg : decode cc pc = .ok (.invokespecial index, 3)) :
    va_Run p l e R s m args below meth cd H locs cells slots mc ms (F0 m pc ls (.ref b :: rest)) rest (Qc [Value.ref b].toArray) free := by
  have hgl : ∀ w ∈ wsL_law, w ∈ wsL_law ∧ ((w.onTables && w.keeps) = true ∨ ∃ ty, w = .arrayClass ty) := fun w h => ⟨h, good_of_word (List.all_eq_true.mp hg w h)⟩
  have hT : GoodIn wsL_law (gW y cB nB none) := by
    intro w hw2
    simp only [gW, List.mem_cons] at hw2
    rcases hw2 with rfl | h
    · exact hgl _ h5
    · exact hgl _ h
  have hpre := g_pre (av := [.ref b]) hK hw hC hnd
  exact va_runIN (As := []) (rest := rest) ⟨hx, hb, hml, hown, hG⟩ hM ⟨va_cnB 0 hG hT rfl hrm.1 hrm.2 (hK.2 _ h1) (hG _ h4) hd hR, hyn, hG _ h2⟩ ⟨hpre.1, hpre.2⟩ rfl rfl hsz rfl (lv_room hroom) hdg ⟨hcs.1, hcs.2⟩
theorem g_rIp (hx : p.tables.exec = Jvm.exec) (hb : cd.code = cc) (hml : cd.maxLocals = nL) (hG : ∀ w ∈ wsL_law, w.before args s = true) (hown : s.vm.findClass own = some m.cls) (hK : gK E s) (hw : gS E A H0 ws H locs) (hC : is.map (fun i => ws[i]?) = wc.map some) (hnd : va_nd is = true)
    {Qc : Array Value → State → Outcome → State → Prop} {free : Addr → Prop} (hM : Met l y (gW y cB nB none) rm (gPc E [.ref b] wc H.size) Qc mc ms free) (h1 : Cond.methodLink own index y ∈ wsL_law) (h2 : Cond.instanceMethod y ∈ wsL_law) (h4 : Cond.initialized y.cls ∈ wsL_law) (h5 : Cond.code y cB nB none ∈ wsL_law)
    (hyn : y.name = "<init>") (hd : y.cls ≠ "java/lang/invoke/MethodHandle" ∧ y.cls ≠ "java/lang/invoke/VarHandle" ∧ (parseMethodDescriptor y.desc).map (fun d => d.parameters.length) = some 0)
    (hg : wsL_law.all goodWord = true) (hrm : rm.cells = mc ∧ rm.slots = ms) (hR : rm.frames + 1 ≤ R.frames ∧ 8 + (nB + 11) + rm.locals ≤ R.locals) (hcs : cells + mc ≤ R.cells ∧ slots + ms ≤ R.slots)
    (hsz : ls.size = nL) (hroom : (rest.map fun v => v.category).sum ≤ 8) (hdg : decode cc pc = .ok (.invokespecial index, 3)) :
    va_Run p l e R s m args below meth cd H locs cells slots mc ms (F0 m pc ls (.ref b :: rest)) rest (Qc [Value.ref b].toArray) free := by
  have hgl : ∀ w ∈ wsL_law, w ∈ wsL_law ∧ ((w.onTables && w.keeps) = true ∨ ∃ ty, w = .arrayClass ty) := fun w h => ⟨h, good_of_word (List.all_eq_true.mp hg w h)⟩
  have hT : GoodIn wsL_law (gW y cB nB none) := by
    intro w hw2
    simp only [gW, List.mem_cons] at hw2
    rcases hw2 with rfl | h
    · exact hgl _ h5
    · exact hgl _ h
  have hpre := g_pre (av := [.ref b]) hK hw hC hnd
  exact va_runI (As := []) (rest := rest) ⟨hx, hb, hml, hown, hG⟩ hM (cwI 0 hG hT rfl hrm.1 hrm.2 (hG _ h4) (hG _ h1) (hG _ h2) hyn hd hR) ⟨hpre.1, hpre.2⟩ rfl rfl hsz rfl (lv_room hroom) hdg ⟨hcs.1, hcs.2⟩
theorem g_kc {st : List Value} {aa : Array Value} (hw : gS E A H0 ws H locs) (hA : ∀ q : Nat, H0.size ≤ q → A q) (hr : va_Run p l e R s m args below meth cd H locs cells slots mc ms (F0 m pc ls st) rest (va_Qv (fun (_ : U) => True) (fun u t => va_P E.1 vwCl (w u) t.heap ∧ va_D (va_A wc H.size) (w u)) (va_A wc H.size) aa) (va_A wc H.size)) (hC : is.map (fun i => ws[i]?) = wc.map some) (isR : List Nat) {wr : va_W} (hR : isR.map (fun i => ws[i]?) = wr.map some) (hnd : va_nd isR = true) (hdis : ∀ i ∈ isR, i ∉ is)
    (kk : ∀ (u : U) (H1 : Heap) (locs1 : List Loc), gS E A H0 (wr ++ w u) H1 locs1 → W p l e R s m args below meth cd H1 locs1 (cells + mc) (slots + ms) Q (F0 m (pc + 3) ls rest)) : W p l e R s m args below meth cd H locs cells slots Q (F0 m pc ls st) := by
  have hFc := va_free hw.2.1 hw.2.2 hA is hC
  refine va_callv hr hw.2.2 (fun q _ h => hFc q h) hFc (fun u t H1 locs1 ht hvm hpost hB hz1 hk1 hS1 => ?_)
  obtain ⟨hP1, hD1⟩ := hB
  rw [ht] at hP1
  obtain ⟨hP2, hD2⟩ := va_join hw.1 hw.2.1 is isR hC hR hnd hdis hk1 hFc hP1 hD1
  exact kk u _ _ ⟨hP2, hD2, hS1⟩
end GMAKE
theorem g_openC {l : Launch} {y : MethodName} {c : ByteArray} {n : Nat} {rm : Room} {E : gE} {av : List Value} {ws0 : va_W} {sz : Nat} {own : String} {U : Type} {w : U → va_W} {mc ms : Nat} (hy : plainName y.cls = true) (hyo : y.cls = own) (hyn : y.name = "<init>") (hav : (lg_sl av).length ≤ n)
    (body : ∀ (p : Program) (e : Env) (s : State) (m : MethodId) (args : Array Value) (below : List Frame) (meth : Method) (cd : Code) (Q : State → Prop) (A : Nat → Prop), p.tables.exec = Jvm.exec → cd.code = c → cd.maxLocals = n → s.vm.findClass own = some m.cls → meth.name = "<init>" → (∀ w ∈ wsL_law, w.before args s = true) → gK E s → (∀ q : Nat, s.heap.size ≤ q → A q) →
      (∀ (u : U) (H : Heap) (locs : List Loc) (pc : Nat) (ls : Array Slot), gS E A s.heap (w u) H locs → decode c pc = .ok (.return_, 1) → W p l e rm s m args below meth cd H locs mc ms Q (F0 m pc ls [])) →
      gS E A s.heap ws0 s.heap [] → ∀ ls : Array Slot, lv_has ls n (lv_args 0 av) → W p l e rm s m args below meth cd s.heap [] 0 0 Q (F0 m 0 ls [])) : gMc l y c n rm E av ws0 sz U w mc ms := by
  refine Met.ofW (cc := c) (maxL := n) (ret := none) hy rfl ?_
  intro p e s m args below meth cd s₁ B hml hv
  obtain ⟨rfl, hsz, hP, hK, hD0⟩ := hv
  have hts := atoms_spec (ws := gW y c n none) B.pre
  have hD := hD0.self (sz := s.heap.size)
  have hown : s.vm.findClass own = some m.cls := by rw [← hyo]; exact findClass_of_methodNamed B.named
  have hx := B.exec
  have hb := B.bytes
  have hr := B.returns
  have hlk := B.notSynchronized
  have hin : meth.name = "<init>" := by rw [← hyn]; exact (name_of_methodNamed B.named B.method).1
  rw [lg_entry_eq]
  subst hsz
  refine body p e s m av.toArray below meth cd _ (va_A ws0 s.heap.size) hx hb hml hown hin (fun w h => hts w (List.mem_cons_of_mem _ h)) hK (fun q h => Or.inr h) ?_ ⟨hP, hD, va_S.rf⟩ _ (lv_entry av (n := n) hav)
  intro u H locs pc ls hw hdg
  exact W.vret hx hb hr (fun t ht hW => ⟨⟨u, rfl, trivial, by rw [ht]; exact hw.1, hw.2.1⟩, hw.2.2.F ht⟩) hw.2.2.2.2 hdg hlk
