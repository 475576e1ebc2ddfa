theorem hX11_tax : yX11_tax.cls = RX11 ∧ yX11_tax.cls ≠ "java/lang/invoke/MethodHandle" ∧ yX11_tax.cls ≠ "java/lang/invoke/VarHandle" ∧ (parseMethodDescriptor yX11_tax.desc).map (fun d => d.parameters.length) = some 2 := by decide +kernel
set_option maxHeartbeats 4000000 in
set_option maxRecDepth 100000 in
theorem mX11_tax (l : Launch) (E : gE) (o_t : Nat) (a_t : (Nat → Nat)) (v_t_there : Int32) (v_t_wind : Int32) (v_t_force : Int32) (v_t_rains : Int32) (v_t_lost : Int32) (v_t_hours : Int32) (v_t_sights : Int32) (v_t_padMany : Int32) (v_t_acts : Int32) (v_t_blownMany : Int32) (v_t_badAct : Int32) (v_t_badWhy : Int32) (v_t_ruinAct : Int32) (v_t_ruinWho : Int32) (v_t_keptAt : Int32) (v_t_isWriting : Int32) (f_t_stem : (Nat → Int32)) (x1 : Int32) (x2 : Int32) (rv : Int32) (hf : fX11_tax v_t_there f_t_stem x1 x2 = some rv) {sz : Nat} : gMi l yX11_tax (gW yX11_tax cX11_tax 8 (some .int)) ({ frames := 3, cells := 0, slots := 0, locals := 68 } : Room) E [.ref o_t, .int x1, .int x2] (wX11_tax E o_t a_t v_t_there v_t_wind v_t_force v_t_rains v_t_lost v_t_hours v_t_sights v_t_padMany v_t_acts v_t_blownMany v_t_badAct v_t_badWhy v_t_ruinAct v_t_ruinWho v_t_keptAt v_t_isWriting f_t_stem) sz rv (wX11_tax E o_t a_t v_t_there v_t_wind v_t_force v_t_rains v_t_lost v_t_hours v_t_sights v_t_padMany v_t_acts v_t_blownMany v_t_badAct v_t_badWhy v_t_ruinAct v_t_ruinWho v_t_keptAt v_t_isWriting f_t_stem) := by
  refine g_openI (own := RX11) (by decide) rfl (Nat.le_of_ble_eq_true rfl) (fun p e s m args below meth cd Q A hx hb hml hown hG hK hA hret hw ls hl => ?_)
  have hl : lv_has ls 8 [(0, .ref o_t), (1, .int x1), (2, .int x2)] := hl
  have hret1 : ∀ (v : Int32)  (H : Heap) (locs : List Loc) (pc : Nat) (ls : Array Slot), some v = some rv → gS E A s.heap (wX11_tax E o_t a_t v_t_there v_t_wind v_t_force v_t_rains v_t_lost v_t_hours v_t_sights v_t_padMany v_t_acts v_t_blownMany v_t_badAct v_t_badWhy v_t_ruinAct v_t_ruinWho v_t_keptAt v_t_isWriting f_t_stem) H locs → decode cX11_tax pc = .ok (.ireturn, 1) → W p l e ({ frames := 3, cells := 0, slots := 0, locals := 68 } : Room) s m args below meth cd H locs 0 0 Q (F0 m pc ls [.int v]) := by
    intro v  H locs pc ls h hw hd
    cases h
    exact hret H locs pc ls hw hd
  have B147 : ∀ (K45 : Int32 → Int32 → Int32 → Int32 → Int32 → Int32 → Option (Int32)) (hK45 : ∀ (x1 : Int32) (x2 : Int32) (x3 : Int32) (x4 : Int32) (x5 : Int32) (x6 : Int32) (H : Heap) (locs : List Loc) (ls : Array Slot), K45 x1 x2 x3 x4 x5 x6 = some rv → gS E A s.heap (wX11_tax E o_t a_t v_t_there v_t_wind v_t_force v_t_rains v_t_lost v_t_hours v_t_sights v_t_padMany v_t_acts v_t_blownMany v_t_badAct v_t_badWhy v_t_ruinAct v_t_ruinWho v_t_keptAt v_t_isWriting f_t_stem) H locs → lv_has ls 8 [(0, .ref o_t), (1, .int x1), (2, .int x2), (3, .int x3), (4, .int x4), (5, .int x5), (6, .int x6)] → W p l e ({ frames := 3, cells := 0, slots := 0, locals := 68 } : Room) s m args below meth cd H locs 0 0 Q (F0 m 45 ls [])), ∀ (x1 : Int32) (x2 : Int32) (x3 : Int32) (x4 : Int32) (x6 : Int32) (s0 : Int32) (s1 : Int32) (H : Heap) (locs : List Loc) (ls : Array Slot), fX11_tax_b147 K45 v_t_there f_t_stem x1 x2 x3 x4 x6 s0 s1 = some rv → gS E A s.heap (wX11_tax E o_t a_t v_t_there v_t_wind v_t_force v_t_rains v_t_lost v_t_hours v_t_sights v_t_padMany v_t_acts v_t_blownMany v_t_badAct v_t_badWhy v_t_ruinAct v_t_ruinWho v_t_keptAt v_t_isWriting f_t_stem) H locs → lv_has ls 8 [(0, .ref o_t), (1, .int x1), (2, .int x2), (3, .int x3), (4, .int x4), (6, .int x6)] → W p l e ({ frames := 3, cells := 0, slots := 0, locals := 68 } : Room) s m args below meth cd H locs 0 0 Q (F0 m 147 ls [.int s1, .int s0]) := by
    intro K45 hK45 x1 x2 x3 x4 x6 s0 s1 H locs ls hf hw hl
    refine lv_iadd hx hb dX11_tax_147 ?_
    refine lv_istore (lv' := [(5, .int (s0 + s1)), (0, .ref o_t), (1, .int x1), (2, .int x2), (3, .int x3), (4, .int x4), (6, .int x6)]) hx hb dX11_tax_148 hl (Nat.le_of_ble_eq_true rfl) rfl (fun ls hl => ?_)
    refine lv_iinc (lv' := [(6, .int (x6 + 1)), (5, .int (s0 + s1)), (0, .ref o_t), (1, .int x1), (2, .int x2), (3, .int x3), (4, .int x4)]) hx hb dX11_tax_150 hl (k := 6) rfl (k_inc1 _) (Nat.le_of_ble_eq_true rfl) rfl (fun ls hl => ?_)
    refine lv_goto (tgt := 45) hx hb dX11_tax_153 (by decide) ?_
    exact hK45 x1 x2 x3 x4 (s0 + s1) (x6 + 1) _ _ _ hf hw (lv_sub hl [2, 3, 4, 5, 6, 1, 0] rfl)
  have B146 : ∀ (K45 : Int32 → Int32 → Int32 → Int32 → Int32 → Int32 → Option (Int32)) (hK45 : ∀ (x1 : Int32) (x2 : Int32) (x3 : Int32) (x4 : Int32) (x5 : Int32) (x6 : Int32) (H : Heap) (locs : List Loc) (ls : Array Slot), K45 x1 x2 x3 x4 x5 x6 = some rv → gS E A s.heap (wX11_tax E o_t a_t v_t_there v_t_wind v_t_force v_t_rains v_t_lost v_t_hours v_t_sights v_t_padMany v_t_acts v_t_blownMany v_t_badAct v_t_badWhy v_t_ruinAct v_t_ruinWho v_t_keptAt v_t_isWriting f_t_stem) H locs → lv_has ls 8 [(0, .ref o_t), (1, .int x1), (2, .int x2), (3, .int x3), (4, .int x4), (5, .int x5), (6, .int x6)] → W p l e ({ frames := 3, cells := 0, slots := 0, locals := 68 } : Room) s m args below meth cd H locs 0 0 Q (F0 m 45 ls [])), ∀ (x1 : Int32) (x2 : Int32) (x3 : Int32) (x4 : Int32) (x6 : Int32) (s0 : Int32) (H : Heap) (locs : List Loc) (ls : Array Slot), fX11_tax_b146 K45 v_t_there f_t_stem x1 x2 x3 x4 x6 s0 = some rv → gS E A s.heap (wX11_tax E o_t a_t v_t_there v_t_wind v_t_force v_t_rains v_t_lost v_t_hours v_t_sights v_t_padMany v_t_acts v_t_blownMany v_t_badAct v_t_badWhy v_t_ruinAct v_t_ruinWho v_t_keptAt v_t_isWriting f_t_stem) H locs → lv_has ls 8 [(0, .ref o_t), (1, .int x1), (2, .int x2), (3, .int x3), (4, .int x4), (6, .int x6)] → W p l e ({ frames := 3, cells := 0, slots := 0, locals := 68 } : Room) s m args below meth cd H locs 0 0 Q (F0 m 146 ls [.int s0]) := by
    intro K45 hK45 x1 x2 x3 x4 x6 s0 H locs ls hf hw hl
    refine lv_iconst (v := 0) hx hb dX11_tax_146 k_i0 ?_
    exact B147 K45 hK45 x1 x2 x3 x4 x6 s0 0 _ _ _ hf hw (lv_sub hl [0, 1, 2, 3, 4, 5] rfl)
  have B124 : ∀ (K45 : Int32 → Int32 → Int32 → Int32 → Int32 → Int32 → Option (Int32)) (hK45 : ∀ (x1 : Int32) (x2 : Int32) (x3 : Int32) (x4 : Int32) (x5 : Int32) (x6 : Int32) (H : Heap) (locs : List Loc) (ls : Array Slot), K45 x1 x2 x3 x4 x5 x6 = some rv → gS E A s.heap (wX11_tax E o_t a_t v_t_there v_t_wind v_t_force v_t_rains v_t_lost v_t_hours v_t_sights v_t_padMany v_t_acts v_t_blownMany v_t_badAct v_t_badWhy v_t_ruinAct v_t_ruinWho v_t_keptAt v_t_isWriting f_t_stem) H locs → lv_has ls 8 [(0, .ref o_t), (1, .int x1), (2, .int x2), (3, .int x3), (4, .int x4), (5, .int x5), (6, .int x6)] → W p l e ({ frames := 3, cells := 0, slots := 0, locals := 68 } : Room) s m args below meth cd H locs 0 0 Q (F0 m 45 ls [])), ∀ (x1 : Int32) (x2 : Int32) (x3 : Int32) (x4 : Int32) (x5 : Int32) (x6 : Int32) (s0 : Int32) (H : Heap) (locs : List Loc) (ls : Array Slot), fX11_tax_b124 K45 v_t_there f_t_stem x1 x2 x3 x4 x5 x6 s0 = some rv → gS E A s.heap (wX11_tax E o_t a_t v_t_there v_t_wind v_t_force v_t_rains v_t_lost v_t_hours v_t_sights v_t_padMany v_t_acts v_t_blownMany v_t_badAct v_t_badWhy v_t_ruinAct v_t_ruinWho v_t_keptAt v_t_isWriting f_t_stem) H locs → lv_has ls 8 [(0, .ref o_t), (1, .int x1), (2, .int x2), (3, .int x3), (4, .int x4), (5, .int x5), (6, .int x6)] → W p l e ({ frames := 3, cells := 0, slots := 0, locals := 68 } : Room) s m args below meth cd H locs 0 0 Q (F0 m 124 ls [.int s0]) := by
    intro K45 hK45 x1 x2 x3 x4 x5 x6 s0 H locs ls hf hw hl
    refine lv_istore (lv' := [(7, .int s0), (0, .ref o_t), (1, .int x1), (2, .int x2), (3, .int x3), (4, .int x4), (5, .int x5), (6, .int x6)]) hx hb dX11_tax_124 hl (Nat.le_of_ble_eq_true rfl) rfl (fun ls hl => ?_)
    refine lv_iload hx hb dX11_tax_126 (lv_at hl 6 rfl) ?_
    refine lv_aload_n hx hb dX11_tax_128 rfl (lv_at hl 1 rfl) ?_
    refine lv_iload hx hb dX11_tax_129 (lv_at hl 7 rfl) ?_
    obtain ⟨r1, hc2, hf⟩ := gB_s hf
    refine g_ki (is := [0]) (w1 := (wX11_isFamily E o_t a_t v_t_there v_t_wind v_t_force v_t_rains v_t_lost v_t_hours v_t_sights v_t_padMany v_t_acts v_t_blownMany v_t_badAct v_t_badWhy v_t_ruinAct v_t_ruinWho v_t_keptAt v_t_isWriting)) (ws' := (wX11_tax E o_t a_t v_t_there v_t_wind v_t_force v_t_rains v_t_lost v_t_hours v_t_sights v_t_padMany v_t_acts v_t_blownMany v_t_badAct v_t_badWhy v_t_ruinAct v_t_ruinWho v_t_keptAt v_t_isWriting f_t_stem)) hw hA (g_rV hx hb hml hG hown hK hw (is := [0]) rfl (by decide) (mX11_isFamily l E o_t a_t v_t_there v_t_wind v_t_force v_t_rains v_t_lost v_t_hours v_t_sights v_t_padMany v_t_acts v_t_blownMany v_t_badAct v_t_badWhy v_t_ruinAct v_t_ruinWho v_t_keptAt v_t_isWriting x6 r1 hc2) wd_8_21 wd_8_22 wd_8_23 wd_1_5 wd_9_0 hX11_isFamily g_allgood ⟨rfl, rfl⟩ ⟨Nat.le_of_ble_eq_true rfl, Nat.le_of_ble_eq_true rfl⟩ ⟨Nat.zero_le _, Nat.zero_le _⟩ (ci := 9) (q0 := 0) rfl rfl rfl rfl hl.1 rfl (Nat.le_of_ble_eq_true rfl) dX11_tax_131) rfl rfl rfl (fun H locs hw => ?_)
    refine lv_if_eq (tgt := 146) hx hb dX11_tax_134 (by decide) (fun hc => ?_) (fun hc => ?_)
    · have hf := g_t hc hf
      exact B146 K45 hK45 x1 x2 x3 x4 x6 x5 _ _ _ hf hw (lv_sub hl [1, 2, 3, 4, 5, 7] rfl)
    · have hf := g_f hc hf
      refine lv_iload hx hb dX11_tax_137 (lv_at hl 0 rfl) ?_
      refine lv_if_eq (tgt := 146) hx hb dX11_tax_139 (by decide) (fun hc => ?_) (fun hc => ?_)
      · have hf := g_t hc hf
        exact B146 K45 hK45 x1 x2 x3 x4 x6 x5 _ _ _ hf hw (lv_sub hl [1, 2, 3, 4, 5, 7] rfl)
      · have hf := g_f hc hf
        refine lv_iconst (v := 1) hx hb dX11_tax_142 k_i1 ?_
        refine lv_goto (tgt := 147) hx hb dX11_tax_143 (by decide) ?_
        exact B147 K45 hK45 x1 x2 x3 x4 x6 x5 1 _ _ _ hf hw (lv_sub hl [1, 2, 3, 4, 5, 7] rfl)
  have B119 : ∀ (K45 : Int32 → Int32 → Int32 → Int32 → Int32 → Int32 → Option (Int32)) (hK45 : ∀ (x1 : Int32) (x2 : Int32) (x3 : Int32) (x4 : Int32) (x5 : Int32) (x6 : Int32) (H : Heap) (locs : List Loc) (ls : Array Slot), K45 x1 x2 x3 x4 x5 x6 = some rv → gS E A s.heap (wX11_tax E o_t a_t v_t_there v_t_wind v_t_force v_t_rains v_t_lost v_t_hours v_t_sights v_t_padMany v_t_acts v_t_blownMany v_t_badAct v_t_badWhy v_t_ruinAct v_t_ruinWho v_t_keptAt v_t_isWriting f_t_stem) H locs → lv_has ls 8 [(0, .ref o_t), (1, .int x1), (2, .int x2), (3, .int x3), (4, .int x4), (5, .int x5), (6, .int x6)] → W p l e ({ frames := 3, cells := 0, slots := 0, locals := 68 } : Room) s m args below meth cd H locs 0 0 Q (F0 m 45 ls [])), ∀ (x1 : Int32) (x2 : Int32) (x3 : Int32) (x4 : Int32) (x5 : Int32) (x6 : Int32) (H : Heap) (locs : List Loc) (ls : Array Slot), fX11_tax_b119 K45 v_t_there f_t_stem x1 x2 x3 x4 x5 x6 = some rv → gS E A s.heap (wX11_tax E o_t a_t v_t_there v_t_wind v_t_force v_t_rains v_t_lost v_t_hours v_t_sights v_t_padMany v_t_acts v_t_blownMany v_t_badAct v_t_badWhy v_t_ruinAct v_t_ruinWho v_t_keptAt v_t_isWriting f_t_stem) H locs → lv_has ls 8 [(0, .ref o_t), (1, .int x1), (2, .int x2), (3, .int x3), (4, .int x4), (5, .int x5), (6, .int x6)] → W p l e ({ frames := 3, cells := 0, slots := 0, locals := 68 } : Room) s m args below meth cd H locs 0 0 Q (F0 m 119 ls []) := by
    intro K45 hK45 x1 x2 x3 x4 x5 x6 H locs ls hf hw hl
    refine lv_iconst (v := 1) hx hb dX11_tax_119 k_i1 ?_
    refine lv_goto (tgt := 124) hx hb dX11_tax_120 (by decide) ?_
    exact B124 K45 hK45 x1 x2 x3 x4 x5 x6 1 _ _ _ hf hw (lv_sub hl [0, 1, 2, 3, 4, 5, 6] rfl)
  have B123 : ∀ (K45 : Int32 → Int32 → Int32 → Int32 → Int32 → Int32 → Option (Int32)) (hK45 : ∀ (x1 : Int32) (x2 : Int32) (x3 : Int32) (x4 : Int32) (x5 : Int32) (x6 : Int32) (H : Heap) (locs : List Loc) (ls : Array Slot), K45 x1 x2 x3 x4 x5 x6 = some rv → gS E A s.heap (wX11_tax E o_t a_t v_t_there v_t_wind v_t_force v_t_rains v_t_lost v_t_hours v_t_sights v_t_padMany v_t_acts v_t_blownMany v_t_badAct v_t_badWhy v_t_ruinAct v_t_ruinWho v_t_keptAt v_t_isWriting f_t_stem) H locs → lv_has ls 8 [(0, .ref o_t), (1, .int x1), (2, .int x2), (3, .int x3), (4, .int x4), (5, .int x5), (6, .int x6)] → W p l e ({ frames := 3, cells := 0, slots := 0, locals := 68 } : Room) s m args below meth cd H locs 0 0 Q (F0 m 45 ls [])), ∀ (x1 : Int32) (x2 : Int32) (x3 : Int32) (x4 : Int32) (x5 : Int32) (x6 : Int32) (H : Heap) (locs : List Loc) (ls : Array Slot), fX11_tax_b123 K45 v_t_there f_t_stem x1 x2 x3 x4 x5 x6 = some rv → gS E A s.heap (wX11_tax E o_t a_t v_t_there v_t_wind v_t_force v_t_rains v_t_lost v_t_hours v_t_sights v_t_padMany v_t_acts v_t_blownMany v_t_badAct v_t_badWhy v_t_ruinAct v_t_ruinWho v_t_keptAt v_t_isWriting f_t_stem) H locs → lv_has ls 8 [(0, .ref o_t), (1, .int x1), (2, .int x2), (3, .int x3), (4, .int x4), (5, .int x5), (6, .int x6)] → W p l e ({ frames := 3, cells := 0, slots := 0, locals := 68 } : Room) s m args below meth cd H locs 0 0 Q (F0 m 123 ls []) := by
    intro K45 hK45 x1 x2 x3 x4 x5 x6 H locs ls hf hw hl
    refine lv_iconst (v := 0) hx hb dX11_tax_123 k_i0 ?_
    exact B124 K45 hK45 x1 x2 x3 x4 x5 x6 0 _ _ _ hf hw (lv_sub hl [0, 1, 2, 3, 4, 5, 6] rfl)
  have B78 : ∀ (K45 : Int32 → Int32 → Int32 → Int32 → Int32 → Int32 → Option (Int32)) (hK45 : ∀ (x1 : Int32) (x2 : Int32) (x3 : Int32) (x4 : Int32) (x5 : Int32) (x6 : Int32) (H : Heap) (locs : List Loc) (ls : Array Slot), K45 x1 x2 x3 x4 x5 x6 = some rv → gS E A s.heap (wX11_tax E o_t a_t v_t_there v_t_wind v_t_force v_t_rains v_t_lost v_t_hours v_t_sights v_t_padMany v_t_acts v_t_blownMany v_t_badAct v_t_badWhy v_t_ruinAct v_t_ruinWho v_t_keptAt v_t_isWriting f_t_stem) H locs → lv_has ls 8 [(0, .ref o_t), (1, .int x1), (2, .int x2), (3, .int x3), (4, .int x4), (5, .int x5), (6, .int x6)] → W p l e ({ frames := 3, cells := 0, slots := 0, locals := 68 } : Room) s m args below meth cd H locs 0 0 Q (F0 m 45 ls [])), ∀ (x1 : Int32) (x2 : Int32) (x3 : Int32) (x5 : Int32) (x6 : Int32) (s0 : Int32) (s1 : Int32) (H : Heap) (locs : List Loc) (ls : Array Slot), fX11_tax_b78 K45 v_t_there f_t_stem x1 x2 x3 x5 x6 s0 s1 = some rv → gS E A s.heap (wX11_tax E o_t a_t v_t_there v_t_wind v_t_force v_t_rains v_t_lost v_t_hours v_t_sights v_t_padMany v_t_acts v_t_blownMany v_t_badAct v_t_badWhy v_t_ruinAct v_t_ruinWho v_t_keptAt v_t_isWriting f_t_stem) H locs → lv_has ls 8 [(0, .ref o_t), (1, .int x1), (2, .int x2), (3, .int x3), (5, .int x5), (6, .int x6)] → W p l e ({ frames := 3, cells := 0, slots := 0, locals := 68 } : Room) s m args below meth cd H locs 0 0 Q (F0 m 78 ls [.int s1, .int s0]) := by
    intro K45 hK45 x1 x2 x3 x5 x6 s0 s1 H locs ls hf hw hl
    refine lv_isub hx hb dX11_tax_78 ?_
    refine lv_istore (lv' := [(4, .int (s0 - s1)), (0, .ref o_t), (1, .int x1), (2, .int x2), (3, .int x3), (5, .int x5), (6, .int x6)]) hx hb dX11_tax_79 hl (Nat.le_of_ble_eq_true rfl) rfl (fun ls hl => ?_)
    refine lv_aload_n hx hb dX11_tax_81 rfl (lv_at hl 1 rfl) ?_
    refine g_get hx hb hG hown hK hw inlX11 (ci := 9) rfl 0 2 (Nat.le_of_ble_eq_true rfl) rfl rfl wd_5_22 dX11_tax_82 ?_
    refine lv_iload hx hb dX11_tax_85 (lv_at hl 6 rfl) ?_
    obtain ⟨hi3, hf⟩ := gA_s hf
    refine g_iald hx hb hK hw 1 rfl hi3 dX11_tax_87 ?_
    refine lv_aload_n hx hb dX11_tax_88 rfl (lv_at hl 1 rfl) ?_
    refine g_get hx hb hG hown hK hw inlX11 (ci := 9) rfl 0 2 (Nat.le_of_ble_eq_true rfl) rfl rfl wd_5_22 dX11_tax_89 ?_
    refine lv_iload_n hx hb dX11_tax_92 rfl (lv_at hl 2 rfl) ?_
    obtain ⟨hi4, hf⟩ := gA_s hf
    refine g_iald hx hb hK hw 1 rfl hi4 dX11_tax_93 ?_
    refine lv_icmp_gt (tgt := 119) hx hb dX11_tax_94 (by decide) (fun hc => ?_) (fun hc => ?_)
    · have hf := g_t hc hf
      exact B119 K45 hK45 x1 x2 x3 (s0 - s1) x5 x6 _ _ _ hf hw (lv_sub hl [1, 2, 3, 4, 0, 5, 6] rfl)
    · have hf := g_f hc hf
      refine lv_aload_n hx hb dX11_tax_97 rfl (lv_at hl 1 rfl) ?_
      refine g_get hx hb hG hown hK hw inlX11 (ci := 9) rfl 0 2 (Nat.le_of_ble_eq_true rfl) rfl rfl wd_5_22 dX11_tax_98 ?_
      refine lv_iload hx hb dX11_tax_101 (lv_at hl 6 rfl) ?_
      obtain ⟨hi5, hf⟩ := gA_s hf
      refine g_iald hx hb hK hw 1 rfl hi5 dX11_tax_103 ?_
      refine lv_aload_n hx hb dX11_tax_104 rfl (lv_at hl 1 rfl) ?_
      refine g_get hx hb hG hown hK hw inlX11 (ci := 9) rfl 0 2 (Nat.le_of_ble_eq_true rfl) rfl rfl wd_5_22 dX11_tax_105 ?_
      refine lv_iload_n hx hb dX11_tax_108 rfl (lv_at hl 2 rfl) ?_
      obtain ⟨hi6, hf⟩ := gA_s hf
      refine g_iald hx hb hK hw 1 rfl hi6 dX11_tax_109 ?_
      refine lv_icmp_ne (tgt := 123) hx hb dX11_tax_110 (by decide) (fun hc => ?_) (fun hc => ?_)
      · have hf := g_f hc hf
        exact B123 K45 hK45 x1 x2 x3 (s0 - s1) x5 x6 _ _ _ hf hw (lv_sub hl [1, 2, 3, 4, 0, 5, 6] rfl)
      · have hf := g_t hc hf
        refine lv_iload hx hb dX11_tax_113 (lv_at hl 6 rfl) ?_
        refine lv_iload_n hx hb dX11_tax_115 rfl (lv_at hl 2 rfl) ?_
        refine lv_icmp_ge (tgt := 123) hx hb dX11_tax_116 (by decide) (fun hc => ?_) (fun hc => ?_)
        · have hf := g_t hc hf
          exact B123 K45 hK45 x1 x2 x3 (s0 - s1) x5 x6 _ _ _ hf hw (lv_sub hl [1, 2, 3, 4, 0, 5, 6] rfl)
        · have hf := g_f hc hf
          exact B119 K45 hK45 x1 x2 x3 (s0 - s1) x5 x6 _ _ _ hf hw (lv_sub hl [1, 2, 3, 4, 0, 5, 6] rfl)
  have B178 : ∀ (s0 : Int32) (s1 : Int32) (H : Heap) (locs : List Loc) (ls : Array Slot), fX11_tax_b178 s0 s1 = some rv → gS E A s.heap (wX11_tax E o_t a_t v_t_there v_t_wind v_t_force v_t_rains v_t_lost v_t_hours v_t_sights v_t_padMany v_t_acts v_t_blownMany v_t_badAct v_t_badWhy v_t_ruinAct v_t_ruinWho v_t_keptAt v_t_isWriting f_t_stem) H locs → lv_has ls 8 [] → W p l e ({ frames := 3, cells := 0, slots := 0, locals := 68 } : Room) s m args below meth cd H locs 0 0 Q (F0 m 178 ls [.int s1, .int s0]) := by
    intro  s0 s1 H locs ls hf hw hl
    refine lv_iadd hx hb dX11_tax_178 ?_
    exact hret1 (s0 + s1) _ _ _ _ hf hw dX11_tax_179
  have B45 : ∀ n : Nat, ∀ (x1 : Int32) (x2 : Int32) (x3 : Int32) (x4 : Int32) (x5 : Int32) (x6 : Int32) (H : Heap) (locs : List Loc) (ls : Array Slot), fX11_tax_b45 v_t_there f_t_stem n x1 x2 x3 x4 x5 x6 = some rv → gS E A s.heap (wX11_tax E o_t a_t v_t_there v_t_wind v_t_force v_t_rains v_t_lost v_t_hours v_t_sights v_t_padMany v_t_acts v_t_blownMany v_t_badAct v_t_badWhy v_t_ruinAct v_t_ruinWho v_t_keptAt v_t_isWriting f_t_stem) H locs → lv_has ls 8 [(0, .ref o_t), (1, .int x1), (2, .int x2), (3, .int x3), (4, .int x4), (5, .int x5), (6, .int x6)] → W p l e ({ frames := 3, cells := 0, slots := 0, locals := 68 } : Room) s m args below meth cd H locs 0 0 Q (F0 m 45 ls []) := by
    intro n
    induction n with
    | zero => intro x1 x2 x3 x4 x5 x6 H locs ls hf hw hl; exact g_no hf
    | succ n ih =>
      intro x1 x2 x3 x4 x5 x6 H locs ls hf hw hl
      refine lv_iload hx hb dX11_tax_45 (lv_at hl 6 rfl) ?_
      refine lv_bipush (v := 6) hx hb dX11_tax_47 k_b6 ?_
      refine lv_icmp_ge (tgt := 156) hx hb dX11_tax_49 (by decide) (fun hc => ?_) (fun hc => ?_)
      · have hf := g_t hc hf
        refine lv_iload_n hx hb dX11_tax_156 rfl (lv_at hl 2 rfl) ?_
        refine lv_aload_n hx hb dX11_tax_157 rfl (lv_at hl 0 rfl) ?_
        refine g_get hx hb hG hown hK hw inlX11 (ci := 9) rfl 0 2 (Nat.le_of_ble_eq_true rfl) rfl rfl wd_5_22 dX11_tax_158 ?_
        refine lv_iload_n hx hb dX11_tax_161 rfl (lv_at hl 1 rfl) ?_
        obtain ⟨hi7, hf⟩ := gA_s hf
        refine g_iald hx hb hK hw 1 rfl hi7 dX11_tax_162 ?_
        refine lv_imul hx hb dX11_tax_163 ?_
        refine lv_iload_n hx hb dX11_tax_164 rfl (lv_at hl 3 rfl) ?_
        obtain ⟨hd8, hf⟩ := gD_s hf
        refine lv_idiv hx hb dX11_tax_165 hd8 ?_
        refine lv_iload hx hb dX11_tax_166 (lv_at hl 5 rfl) ?_
        refine lv_iload hx hb dX11_tax_168 (lv_at hl 4 rfl) ?_
        refine lv_icmp_ge (tgt := 177) hx hb dX11_tax_170 (by decide) (fun hc => ?_) (fun hc => ?_)
        · have hf := g_t hc hf
          refine lv_iconst (v := 0) hx hb dX11_tax_177 k_i0 ?_
          exact B178 ((x2 * (f_t_stem (Int32.toNatClampNeg x1))) / x3) 0 _ _ _ hf hw (lv_sub hl [] rfl)
        · have hf := g_f hc hf
          refine lv_iconst (v := 1) hx hb dX11_tax_173 k_i1 ?_
          refine lv_goto (tgt := 178) hx hb dX11_tax_174 (by decide) ?_
          exact B178 ((x2 * (f_t_stem (Int32.toNatClampNeg x1))) / x3) 1 _ _ _ hf hw (lv_sub hl [] rfl)
      · have hf := g_f hc hf
        refine lv_iload hx hb dX11_tax_52 (lv_at hl 4 rfl) ?_
        refine lv_aload_n hx hb dX11_tax_54 rfl (lv_at hl 0 rfl) ?_
        refine lv_iload hx hb dX11_tax_55 (lv_at hl 6 rfl) ?_
        obtain ⟨r9, hc10, hf⟩ := gB_s hf
        refine g_ki (is := [0]) (w1 := (wX11_isFamily E o_t a_t v_t_there v_t_wind v_t_force v_t_rains v_t_lost v_t_hours v_t_sights v_t_padMany v_t_acts v_t_blownMany v_t_badAct v_t_badWhy v_t_ruinAct v_t_ruinWho v_t_keptAt v_t_isWriting)) (ws' := (wX11_tax E o_t a_t v_t_there v_t_wind v_t_force v_t_rains v_t_lost v_t_hours v_t_sights v_t_padMany v_t_acts v_t_blownMany v_t_badAct v_t_badWhy v_t_ruinAct v_t_ruinWho v_t_keptAt v_t_isWriting f_t_stem)) hw hA (g_rV hx hb hml hG hown hK hw (is := [0]) rfl (by decide) (mX11_isFamily l E o_t a_t v_t_there v_t_wind v_t_force v_t_rains v_t_lost v_t_hours v_t_sights v_t_padMany v_t_acts v_t_blownMany v_t_badAct v_t_badWhy v_t_ruinAct v_t_ruinWho v_t_keptAt v_t_isWriting x6 r9 hc10) wd_8_21 wd_8_22 wd_8_23 wd_1_5 wd_9_0 hX11_isFamily g_allgood ⟨rfl, rfl⟩ ⟨Nat.le_of_ble_eq_true rfl, Nat.le_of_ble_eq_true rfl⟩ ⟨Nat.zero_le _, Nat.zero_le _⟩ (ci := 9) (q0 := 0) rfl rfl rfl rfl hl.1 rfl (Nat.le_of_ble_eq_true rfl) dX11_tax_57) rfl rfl rfl (fun H locs hw => ?_)
        refine lv_if_eq (tgt := 77) hx hb dX11_tax_60 (by decide) (fun hc => ?_) (fun hc => ?_)
        · have hf := g_t hc hf
          refine lv_iconst (v := 0) hx hb dX11_tax_77 k_i0 ?_
          exact B78 (fX11_tax_b45 v_t_there f_t_stem n) ih x1 x2 x3 x5 x6 x4 0 _ _ _ hf hw (lv_sub hl [0, 1, 2, 3, 5, 6] rfl)
        · have hf := g_f hc hf
          refine lv_iload_n hx hb dX11_tax_63 rfl (lv_at hl 2 rfl) ?_
          refine lv_aload_n hx hb dX11_tax_64 rfl (lv_at hl 0 rfl) ?_
          refine g_get hx hb hG hown hK hw inlX11 (ci := 9) rfl 0 2 (Nat.le_of_ble_eq_true rfl) rfl rfl wd_5_22 dX11_tax_65 ?_
          refine lv_iload hx hb dX11_tax_68 (lv_at hl 6 rfl) ?_
          obtain ⟨hi11, hf⟩ := gA_s hf
          refine g_iald hx hb hK hw 1 rfl hi11 dX11_tax_70 ?_
          refine lv_imul hx hb dX11_tax_71 ?_
          refine lv_iload_n hx hb dX11_tax_72 rfl (lv_at hl 3 rfl) ?_
          obtain ⟨hd12, hf⟩ := gD_s hf
          refine lv_idiv hx hb dX11_tax_73 hd12 ?_
          refine lv_goto (tgt := 78) hx hb dX11_tax_74 (by decide) ?_
          exact B78 (fX11_tax_b45 v_t_there f_t_stem n) ih x1 x2 x3 x5 x6 x4 ((x2 * (f_t_stem (Int32.toNatClampNeg x6))) / x3) _ _ _ hf hw (lv_sub hl [0, 1, 2, 3, 5, 6] rfl)
  refine lv_aload_n hx hb dX11_tax_0 rfl (lv_at hl 0 rfl) ?_
  refine lv_iload_n hx hb dX11_tax_1 rfl (lv_at hl 1 rfl) ?_
  obtain ⟨r13, hc14, hf⟩ := gB_s hf
  refine g_ki (is := [0]) (w1 := (wX11_isFamily E o_t a_t v_t_there v_t_wind v_t_force v_t_rains v_t_lost v_t_hours v_t_sights v_t_padMany v_t_acts v_t_blownMany v_t_badAct v_t_badWhy v_t_ruinAct v_t_ruinWho v_t_keptAt v_t_isWriting)) (ws' := (wX11_tax E o_t a_t v_t_there v_t_wind v_t_force v_t_rains v_t_lost v_t_hours v_t_sights v_t_padMany v_t_acts v_t_blownMany v_t_badAct v_t_badWhy v_t_ruinAct v_t_ruinWho v_t_keptAt v_t_isWriting f_t_stem)) hw hA (g_rV hx hb hml hG hown hK hw (is := [0]) rfl (by decide) (mX11_isFamily l E o_t a_t v_t_there v_t_wind v_t_force v_t_rains v_t_lost v_t_hours v_t_sights v_t_padMany v_t_acts v_t_blownMany v_t_badAct v_t_badWhy v_t_ruinAct v_t_ruinWho v_t_keptAt v_t_isWriting x1 r13 hc14) wd_8_21 wd_8_22 wd_8_23 wd_1_5 wd_9_0 hX11_isFamily g_allgood ⟨rfl, rfl⟩ ⟨Nat.le_of_ble_eq_true rfl, Nat.le_of_ble_eq_true rfl⟩ ⟨Nat.zero_le _, Nat.zero_le _⟩ (ci := 9) (q0 := 0) rfl rfl rfl rfl hl.1 rfl (Nat.le_of_ble_eq_true rfl) dX11_tax_2) rfl rfl rfl (fun H locs hw => ?_)
  refine lv_if_ne (tgt := 10) hx hb dX11_tax_5 (by decide) (fun hc => ?_) (fun hc => ?_)
  · have hf := g_f hc hf
    refine lv_iload_n hx hb dX11_tax_10 rfl (lv_at hl 2 rfl) ?_
    refine lv_i2l hx hb dX11_tax_11 rfl ?_
    refine lv_lconst (v := 0) hx hb dX11_tax_12 k_l0 ?_
    refine lv_ldc2 hx hb hown (hG _ wd_10_15) dX11_tax_13 ?_
    obtain ⟨r15, hc16, hf⟩ := gB_s hf
    refine g_ki (is := []) (w1 := (wX11_in E)) (ws' := (wX11_tax E o_t a_t v_t_there v_t_wind v_t_force v_t_rains v_t_lost v_t_hours v_t_sights v_t_padMany v_t_acts v_t_blownMany v_t_badAct v_t_badWhy v_t_ruinAct v_t_ruinWho v_t_keptAt v_t_isWriting f_t_stem)) hw hA (g_rS hx hb hml hG hown hK hw (is := []) rfl (by decide) (mX11_in l E (Int32.toInt64 x2) 0 999 r15 hc16) wd_8_10 wd_8_11 wd_1_5 wd_8_12 hX11_in g_allgood ⟨rfl, rfl⟩ ⟨Nat.le_of_ble_eq_true rfl, Nat.le_of_ble_eq_true rfl⟩ ⟨Nat.zero_le _, Nat.zero_le _⟩ rfl hl.1 rfl (Nat.le_of_ble_eq_true rfl) dX11_tax_16) rfl rfl rfl (fun H locs hw => ?_)
    refine lv_if_ne (tgt := 25) hx hb dX11_tax_19 (by decide) (fun hc => ?_) (fun hc => ?_)
    · have hf := g_f hc hf
      refine lv_aload_n hx hb dX11_tax_25 rfl (lv_at hl 0 rfl) ?_
      obtain ⟨r17, hc18, hf⟩ := gB_s hf
      refine g_ki (is := [0, 1]) (w1 := (wX11_allSeeds E o_t a_t v_t_there v_t_wind v_t_force v_t_rains v_t_lost v_t_hours v_t_sights v_t_padMany v_t_acts v_t_blownMany v_t_badAct v_t_badWhy v_t_ruinAct v_t_ruinWho v_t_keptAt v_t_isWriting f_t_stem)) (ws' := (wX11_tax E o_t a_t v_t_there v_t_wind v_t_force v_t_rains v_t_lost v_t_hours v_t_sights v_t_padMany v_t_acts v_t_blownMany v_t_badAct v_t_badWhy v_t_ruinAct v_t_ruinWho v_t_keptAt v_t_isWriting f_t_stem)) hw hA (g_rV hx hb hml hG hown hK hw (is := [0, 1]) rfl (by decide) (mX11_allSeeds l E o_t a_t v_t_there v_t_wind v_t_force v_t_rains v_t_lost v_t_hours v_t_sights v_t_padMany v_t_acts v_t_blownMany v_t_badAct v_t_badWhy v_t_ruinAct v_t_ruinWho v_t_keptAt v_t_isWriting f_t_stem r17 hc18) wd_23_22 wd_23_23 wd_24_0 wd_1_5 wd_24_1 hX11_allSeeds g_allgood ⟨rfl, rfl⟩ ⟨Nat.le_of_ble_eq_true rfl, Nat.le_of_ble_eq_true rfl⟩ ⟨Nat.zero_le _, Nat.zero_le _⟩ (ci := 9) (q0 := 0) rfl rfl rfl rfl hl.1 rfl (Nat.le_of_ble_eq_true rfl) dX11_tax_26) rfl rfl rfl (fun H locs hw => ?_)
      refine lv_istore_n (lv' := [(3, .int r17), (0, .ref o_t), (1, .int x1), (2, .int x2)]) hx hb dX11_tax_29 rfl hl (Nat.le_of_ble_eq_true rfl) rfl (fun ls hl => ?_)
      refine lv_iload_n hx hb dX11_tax_30 rfl (lv_at hl 0 rfl) ?_
      refine lv_if_ne (tgt := 36) hx hb dX11_tax_31 (by decide) (fun hc => ?_) (fun hc => ?_)
      · have hf := g_f hc hf
        refine lv_iload_n hx hb dX11_tax_36 rfl (lv_at hl 3 rfl) ?_
        refine lv_istore (lv' := [(4, .int x2), (3, .int r17), (0, .ref o_t), (1, .int x1), (2, .int x2)]) hx hb dX11_tax_37 hl (Nat.le_of_ble_eq_true rfl) rfl (fun ls hl => ?_)
        refine lv_iconst (v := 0) hx hb dX11_tax_39 k_i0 ?_
        refine lv_istore (lv' := [(5, .int 0), (4, .int x2), (3, .int r17), (0, .ref o_t), (1, .int x1), (2, .int x2)]) hx hb dX11_tax_40 hl (Nat.le_of_ble_eq_true rfl) rfl (fun ls hl => ?_)
        refine lv_iconst (v := 0) hx hb dX11_tax_42 k_i0 ?_
        refine lv_istore (lv' := [(6, .int 0), (5, .int 0), (4, .int x2), (3, .int r17), (0, .ref o_t), (1, .int x1), (2, .int x2)]) hx hb dX11_tax_43 hl (Nat.le_of_ble_eq_true rfl) rfl (fun ls hl => ?_)
        exact B45 1000 x1 x2 r17 x2 0 0 _ _ _ hf hw (lv_sub hl [4, 5, 6, 3, 2, 1, 0] rfl)
      · have hf := g_t hc hf
        refine lv_iconst (v := 0) hx hb dX11_tax_34 k_i0 ?_
        exact hret1 0 _ _ _ _ hf hw dX11_tax_35
    · have hf := g_t hc hf
      refine lv_bipush (v := -2) hx hb dX11_tax_22 k_bm2 ?_
      exact hret1 (-2) _ _ _ _ hf hw dX11_tax_24
  · have hf := g_t hc hf
    refine lv_iconst (v := -1) hx hb dX11_tax_8 k_im1 ?_
    exact hret1 (-1) _ _ _ _ hf hw dX11_tax_9
theorem hX11_seen : yX11_seen.cls = RX11 ∧ yX11_seen.cls ≠ "java/lang/invoke/MethodHandle" ∧ yX11_seen.cls ≠ "java/lang/invoke/VarHandle" ∧ (parseMethodDescriptor yX11_seen.desc).map (fun d => d.parameters.length) = some 2 := by decide +kernel
set_option maxHeartbeats 4000000 in
set_option maxRecDepth 100000 in
theorem mX11_seen (l : Launch) (E : gE) (o_t : Nat) (a_t : (Nat → Nat)) (v_t_there : Int32) (v_t_wind : Int32) (v_t_force : Int32) (v_t_rains : Int32) (v_t_lost : Int32) (v_t_hours : Int32) (v_t_sights : Int32) (v_t_padMany : Int32) (v_t_acts : Int32) (v_t_blownMany : Int32) (v_t_badAct : Int32) (v_t_badWhy : Int32) (v_t_ruinAct : Int32) (v_t_ruinWho : Int32) (v_t_keptAt : Int32) (v_t_isWriting : Int32) (f_t_sightBreath : (Nat → Int32)) (f_t_sightFlew : (Nat → Int32)) (x1 : Int32) (x2 : Int32) (rv : Int32) (z_t_sights : Int32) (z_t_sightBreath : (Nat → Int32)) (z_t_sightFlew : (Nat → Int32)) (hf : fX11_seen v_t_sights f_t_sightBreath f_t_sightFlew x1 x2 = some (rv, z_t_sights, z_t_sightBreath, z_t_sightFlew)) {sz : Nat} : gMi l yX11_seen (gW yX11_seen cX11_seen 3 (some .int)) ({ frames := 1, cells := 0, slots := 0, locals := 25 } : Room) E [.ref o_t, .int x1, .int x2] (wX11_seen E o_t a_t v_t_there v_t_wind v_t_force v_t_rains v_t_lost v_t_hours v_t_sights v_t_padMany v_t_acts v_t_blownMany v_t_badAct v_t_badWhy v_t_ruinAct v_t_ruinWho v_t_keptAt v_t_isWriting f_t_sightBreath f_t_sightFlew) sz rv (wX11_seen E o_t a_t v_t_there v_t_wind v_t_force v_t_rains v_t_lost v_t_hours z_t_sights v_t_padMany v_t_acts v_t_blownMany v_t_badAct v_t_badWhy v_t_ruinAct v_t_ruinWho v_t_keptAt v_t_isWriting z_t_sightBreath z_t_sightFlew) := by
  refine g_openI (own := RX11) (by decide) rfl (Nat.le_of_ble_eq_true rfl) (fun p e s m args below meth cd Q A hx hb hml hown hG hK hA hret hw ls hl => ?_)
  have hl : lv_has ls 3 [(0, .ref o_t), (1, .int x1), (2, .int x2)] := hl
  have hret1 : ∀ (v : Int32) (v_t_sights : Int32) (f_t_sightBreath : (Nat → Int32)) (f_t_sightFlew : (Nat → Int32)) (H : Heap) (locs : List Loc) (pc : Nat) (ls : Array Slot), some (v, v_t_sights, f_t_sightBreath, f_t_sightFlew) = some (rv, z_t_sights, z_t_sightBreath, z_t_sightFlew) → gS E A s.heap (wX11_seen E o_t a_t v_t_there v_t_wind v_t_force v_t_rains v_t_lost v_t_hours v_t_sights v_t_padMany v_t_acts v_t_blownMany v_t_badAct v_t_badWhy v_t_ruinAct v_t_ruinWho v_t_keptAt v_t_isWriting f_t_sightBreath f_t_sightFlew) H locs → decode cX11_seen pc = .ok (.ireturn, 1) → W p l e ({ frames := 1, cells := 0, slots := 0, locals := 25 } : Room) s m args below meth cd H locs 0 0 Q (F0 m pc ls [.int v]) := by
    intro v v_t_sights f_t_sightBreath f_t_sightFlew H locs pc ls h hw hd
    cases h
    exact hret H locs pc ls hw hd
  have B24 : ∀ (v_t_sights : Int32) (f_t_sightBreath : (Nat → Int32)) (f_t_sightFlew : (Nat → Int32)) (H : Heap) (locs : List Loc) (ls : Array Slot), fX11_seen_b24 v_t_sights f_t_sightBreath f_t_sightFlew = some (rv, z_t_sights, z_t_sightBreath, z_t_sightFlew) → gS E A s.heap (wX11_seen E o_t a_t v_t_there v_t_wind v_t_force v_t_rains v_t_lost v_t_hours v_t_sights v_t_padMany v_t_acts v_t_blownMany v_t_badAct v_t_badWhy v_t_ruinAct v_t_ruinWho v_t_keptAt v_t_isWriting f_t_sightBreath f_t_sightFlew) H locs → lv_has ls 3 [] → W p l e ({ frames := 1, cells := 0, slots := 0, locals := 25 } : Room) s m args below meth cd H locs 0 0 Q (F0 m 24 ls []) := by
    intro  v_t_sights f_t_sightBreath f_t_sightFlew H locs ls hf hw hl
    refine lv_bipush (v := -2) hx hb dX11_seen_24 k_bm2 ?_
    exact hret1 (-2) v_t_sights f_t_sightBreath f_t_sightFlew _ _ _ _ hf hw dX11_seen_26
  refine lv_iload_n hx hb dX11_seen_0 rfl (lv_at hl 1 rfl) ?_
  refine lv_i2l hx hb dX11_seen_1 rfl ?_
  refine lv_lconst (v := 1) hx hb dX11_seen_2 k_l1 ?_
  refine lv_ldc2 hx hb hown (hG _ wd_8_8) dX11_seen_3 ?_
  obtain ⟨r1, hc2, hf⟩ := gB_s hf
  refine g_ki (is := []) (w1 := (wX11_in E)) (ws' := (wX11_seen E o_t a_t v_t_there v_t_wind v_t_force v_t_rains v_t_lost v_t_hours v_t_sights v_t_padMany v_t_acts v_t_blownMany v_t_badAct v_t_badWhy v_t_ruinAct v_t_ruinWho v_t_keptAt v_t_isWriting f_t_sightBreath f_t_sightFlew)) hw hA (g_rS hx hb hml hG hown hK hw (is := []) rfl (by decide) (mX11_in l E (Int32.toInt64 x1) 1 9 r1 hc2) wd_8_10 wd_8_11 wd_1_5 wd_8_12 hX11_in g_allgood ⟨rfl, rfl⟩ ⟨Nat.le_of_ble_eq_true rfl, Nat.le_of_ble_eq_true rfl⟩ ⟨Nat.zero_le _, Nat.zero_le _⟩ rfl hl.1 rfl (Nat.le_of_ble_eq_true rfl) dX11_seen_6) rfl rfl rfl (fun H locs hw => ?_)
  refine lv_if_eq (tgt := 24) hx hb dX11_seen_9 (by decide) (fun hc => ?_) (fun hc => ?_)
  · have hf := g_t hc hf
    exact B24 v_t_sights f_t_sightBreath f_t_sightFlew _ _ _ hf hw (lv_sub hl [] rfl)
  · have hf := g_f hc hf
    refine lv_iload_n hx hb dX11_seen_12 rfl (lv_at hl 2 rfl) ?_
    refine lv_i2l hx hb dX11_seen_13 rfl ?_
    refine lv_lconst (v := 0) hx hb dX11_seen_14 k_l0 ?_
    refine lv_ldc2 hx hb hown (hG _ wd_31_3) dX11_seen_15 ?_
    obtain ⟨r3, hc4, hf⟩ := gB_s hf
    refine g_ki (is := []) (w1 := (wX11_in E)) (ws' := (wX11_seen E o_t a_t v_t_there v_t_wind v_t_force v_t_rains v_t_lost v_t_hours v_t_sights v_t_padMany v_t_acts v_t_blownMany v_t_badAct v_t_badWhy v_t_ruinAct v_t_ruinWho v_t_keptAt v_t_isWriting f_t_sightBreath f_t_sightFlew)) hw hA (g_rS hx hb hml hG hown hK hw (is := []) rfl (by decide) (mX11_in l E (Int32.toInt64 x2) 0 81 r3 hc4) wd_8_10 wd_8_11 wd_1_5 wd_8_12 hX11_in g_allgood ⟨rfl, rfl⟩ ⟨Nat.le_of_ble_eq_true rfl, Nat.le_of_ble_eq_true rfl⟩ ⟨Nat.zero_le _, Nat.zero_le _⟩ rfl hl.1 rfl (Nat.le_of_ble_eq_true rfl) dX11_seen_18) rfl rfl rfl (fun H locs hw => ?_)
    refine lv_if_ne (tgt := 27) hx hb dX11_seen_21 (by decide) (fun hc => ?_) (fun hc => ?_)
    · have hf := g_f hc hf
      refine lv_aload_n hx hb dX11_seen_27 rfl (lv_at hl 0 rfl) ?_
      refine g_get hx hb hG hown hK hw inlX11 (ci := 9) rfl 0 13 (Nat.le_of_ble_eq_true rfl) rfl rfl wd_31_4 dX11_seen_28 ?_
      refine lv_bipush (v := 8) hx hb dX11_seen_31 k_b8 ?_
      refine lv_icmp_ne (tgt := 39) hx hb dX11_seen_33 (by decide) (fun hc => ?_) (fun hc => ?_)
      · have hf := g_f hc hf
        refine lv_aload_n hx hb dX11_seen_39 rfl (lv_at hl 0 rfl) ?_
        refine g_get hx hb hG hown hK hw inlX11 (ci := 9) rfl 0 11 (Nat.le_of_ble_eq_true rfl) rfl rfl wd_6_2 dX11_seen_40 ?_
        refine lv_aload_n hx hb dX11_seen_43 rfl (lv_at hl 0 rfl) ?_
        refine g_get hx hb hG hown hK hw inlX11 (ci := 9) rfl 0 13 (Nat.le_of_ble_eq_true rfl) rfl rfl wd_31_4 dX11_seen_44 ?_
        refine lv_iload_n hx hb dX11_seen_47 rfl (lv_at hl 1 rfl) ?_
        obtain ⟨hi5, hf⟩ := gA_s hf
        refine g_iast (ws' := (wX11_seen E o_t a_t v_t_there v_t_wind v_t_force v_t_rains v_t_lost v_t_hours v_t_sights v_t_padMany v_t_acts v_t_blownMany v_t_badAct v_t_badWhy v_t_ruinAct v_t_ruinWho v_t_keptAt v_t_isWriting (upd f_t_sightBreath (Int32.toNatClampNeg v_t_sights) x1) f_t_sightFlew)) hx hb hK hw 1 rfl hi5 rfl dX11_seen_48 (fun H locs hw => ?_)
        refine lv_aload_n hx hb dX11_seen_49 rfl (lv_at hl 0 rfl) ?_
        refine g_get hx hb hG hown hK hw inlX11 (ci := 9) rfl 0 12 (Nat.le_of_ble_eq_true rfl) rfl rfl wd_6_3 dX11_seen_50 ?_
        refine lv_aload_n hx hb dX11_seen_53 rfl (lv_at hl 0 rfl) ?_
        refine g_get hx hb hG hown hK hw inlX11 (ci := 9) rfl 0 13 (Nat.le_of_ble_eq_true rfl) rfl rfl wd_31_4 dX11_seen_54 ?_
        refine lv_iload_n hx hb dX11_seen_57 rfl (lv_at hl 2 rfl) ?_
        obtain ⟨hi6, hf⟩ := gA_s hf
        refine g_iast (ws' := (wX11_seen E o_t a_t v_t_there v_t_wind v_t_force v_t_rains v_t_lost v_t_hours v_t_sights v_t_padMany v_t_acts v_t_blownMany v_t_badAct v_t_badWhy v_t_ruinAct v_t_ruinWho v_t_keptAt v_t_isWriting (upd f_t_sightBreath (Int32.toNatClampNeg v_t_sights) x1) (upd f_t_sightFlew (Int32.toNatClampNeg v_t_sights) x2))) hx hb hK hw 2 rfl hi6 rfl dX11_seen_58 (fun H locs hw => ?_)
        refine lv_aload_n hx hb dX11_seen_59 rfl (lv_at hl 0 rfl) ?_
        refine lv_dup hx hb dX11_seen_60 rfl ?_
        refine g_get hx hb hG hown hK hw inlX11 (ci := 9) rfl 0 13 (Nat.le_of_ble_eq_true rfl) rfl rfl wd_31_4 dX11_seen_61 ?_
        refine lv_iconst (v := 1) hx hb dX11_seen_64 k_i1 ?_
        refine lv_iadd hx hb dX11_seen_65 ?_
        refine g_put (ws' := (wX11_seen E o_t a_t v_t_there v_t_wind v_t_force v_t_rains v_t_lost v_t_hours (v_t_sights + 1) v_t_padMany v_t_acts v_t_blownMany v_t_badAct v_t_badWhy v_t_ruinAct v_t_ruinWho v_t_keptAt v_t_isWriting (upd f_t_sightBreath (Int32.toNatClampNeg v_t_sights) x1) (upd f_t_sightFlew (Int32.toNatClampNeg v_t_sights) x2))) hx hb hG hown hK hw inlX11 tyX11_ok nmX11 (ci := 9) rfl 0 13 (Nat.le_of_ble_eq_true rfl) rfl wd_31_4 rfl rfl rfl (Nat.le_of_ble_eq_true rfl) rfl dX11_seen_66 (fun H locs hw => ?_)
        refine lv_aload_n hx hb dX11_seen_69 rfl (lv_at hl 0 rfl) ?_
        refine g_get hx hb hG hown hK hw inlX11 (ci := 9) rfl 0 13 (Nat.le_of_ble_eq_true rfl) rfl rfl wd_31_4 dX11_seen_70 ?_
        exact hret1 (v_t_sights + 1) (v_t_sights + 1) (upd f_t_sightBreath (Int32.toNatClampNeg v_t_sights) x1) (upd f_t_sightFlew (Int32.toNatClampNeg v_t_sights) x2) _ _ _ _ hf hw dX11_seen_73
      · have hf := g_t hc hf
        refine lv_bipush (v := -4) hx hb dX11_seen_36 k_bm4 ?_
        exact hret1 (-4) v_t_sights f_t_sightBreath f_t_sightFlew _ _ _ _ hf hw dX11_seen_38
    · have hf := g_t hc hf
      exact B24 v_t_sights f_t_sightBreath f_t_sightFlew _ _ _ hf hw (lv_sub hl [] rfl)
theorem hX11_forget : yX11_forget.cls = RX11 ∧ yX11_forget.cls ≠ "java/lang/invoke/MethodHandle" ∧ yX11_forget.cls ≠ "java/lang/invoke/VarHandle" ∧ (parseMethodDescriptor yX11_forget.desc).map (fun d => d.parameters.length) = some 0 := by decide +kernel
set_option maxHeartbeats 4000000 in
set_option maxRecDepth 100000 in
theorem mX11_forget (l : Launch) (E : gE) (o_t : Nat) (a_t : (Nat → Nat)) (v_t_there : Int32) (v_t_wind : Int32) (v_t_force : Int32) (v_t_rains : Int32) (v_t_lost : Int32) (v_t_hours : Int32) (v_t_sights : Int32) (v_t_padMany : Int32) (v_t_acts : Int32) (v_t_blownMany : Int32) (v_t_badAct : Int32) (v_t_badWhy : Int32) (v_t_ruinAct : Int32) (v_t_ruinWho : Int32) (v_t_keptAt : Int32) (v_t_isWriting : Int32) (rv : Int32) (z_t_sights : Int32) (hf : fX11_forget v_t_sights = some (rv, z_t_sights)) {sz : Nat} : gMi l yX11_forget (gW yX11_forget cX11_forget 2 (some .int)) ({ frames := 0, cells := 0, slots := 0, locals := 0 } : Room) E [.ref o_t] (wX11_forget E o_t a_t v_t_there v_t_wind v_t_force v_t_rains v_t_lost v_t_hours v_t_sights v_t_padMany v_t_acts v_t_blownMany v_t_badAct v_t_badWhy v_t_ruinAct v_t_ruinWho v_t_keptAt v_t_isWriting) sz rv (wX11_forget E o_t a_t v_t_there v_t_wind v_t_force v_t_rains v_t_lost v_t_hours z_t_sights v_t_padMany v_t_acts v_t_blownMany v_t_badAct v_t_badWhy v_t_ruinAct v_t_ruinWho v_t_keptAt v_t_isWriting) := by
  refine g_openI (own := RX11) (by decide) rfl (Nat.le_of_ble_eq_true rfl) (fun p e s m args below meth cd Q A hx hb hml hown hG hK hA hret hw ls hl => ?_)
  have hl : lv_has ls 2 [(0, .ref o_t)] := hl
  have hret1 : ∀ (v : Int32) (v_t_sights : Int32) (H : Heap) (locs : List Loc) (pc : Nat) (ls : Array Slot), some (v, v_t_sights) = some (rv, z_t_sights) → gS E A s.heap (wX11_forget E o_t a_t v_t_there v_t_wind v_t_force v_t_rains v_t_lost v_t_hours v_t_sights v_t_padMany v_t_acts v_t_blownMany v_t_badAct v_t_badWhy v_t_ruinAct v_t_ruinWho v_t_keptAt v_t_isWriting) H locs → decode cX11_forget pc = .ok (.ireturn, 1) → W p l e ({ frames := 0, cells := 0, slots := 0, locals := 0 } : Room) s m args below meth cd H locs 0 0 Q (F0 m pc ls [.int v]) := by
    intro v v_t_sights H locs pc ls h hw hd
    cases h
    exact hret H locs pc ls hw hd
  refine lv_aload_n hx hb dX11_forget_0 rfl (lv_at hl 0 rfl) ?_
  refine g_get hx hb hG hown hK hw inlX11 (ci := 9) rfl 0 13 (Nat.le_of_ble_eq_true rfl) rfl rfl wd_31_4 dX11_forget_1 ?_
  refine lv_istore_n (lv' := [(1, .int v_t_sights), (0, .ref o_t)]) hx hb dX11_forget_4 rfl hl (Nat.le_of_ble_eq_true rfl) rfl (fun ls hl => ?_)
  refine lv_aload_n hx hb dX11_forget_5 rfl (lv_at hl 1 rfl) ?_
  refine lv_iconst (v := 0) hx hb dX11_forget_6 k_i0 ?_
  refine g_put (ws' := (wX11_forget E o_t a_t v_t_there v_t_wind v_t_force v_t_rains v_t_lost v_t_hours 0 v_t_padMany v_t_acts v_t_blownMany v_t_badAct v_t_badWhy v_t_ruinAct v_t_ruinWho v_t_keptAt v_t_isWriting)) hx hb hG hown hK hw inlX11 tyX11_ok nmX11 (ci := 9) rfl 0 13 (Nat.le_of_ble_eq_true rfl) rfl wd_31_4 rfl rfl rfl (Nat.le_of_ble_eq_true rfl) rfl dX11_forget_7 (fun H locs hw => ?_)
  refine lv_iload_n hx hb dX11_forget_10 rfl (lv_at hl 0 rfl) ?_
  exact hret1 v_t_sights 0 _ _ _ _ hf hw dX11_forget_11
theorem hX11_fliesBy : yX11_fliesBy.cls ≠ "java/lang/invoke/MethodHandle" ∧ yX11_fliesBy.cls ≠ "java/lang/invoke/VarHandle" ∧ (parseMethodDescriptor yX11_fliesBy.desc).map (fun d => d.parameters.length) = some 2 := by decide +kernel
set_option maxHeartbeats 4000000 in
set_option maxRecDepth 100000 in
theorem mX11_fliesBy (l : Launch) (E : gE) (x0 : Int32) (x1 : Int32) (rv : Int32) (hf : fX11_fliesBy x0 x1 = some rv) {sz : Nat} : gMi l yX11_fliesBy (gW yX11_fliesBy cX11_fliesBy 3 (some .int)) ({ frames := 0, cells := 0, slots := 0, locals := 0 } : Room) E [.int x0, .int x1] (wX11_fliesBy E) sz rv (wX11_fliesBy E) := by
  refine g_openI (own := RX11) (by decide) rfl (Nat.le_of_ble_eq_true rfl) (fun p e s m args below meth cd Q A hx hb hml hown hG hK hA hret hw ls hl => ?_)
  have hl : lv_has ls 3 [(0, .int x0), (1, .int x1)] := hl
  have hret1 : ∀ (v : Int32)  (H : Heap) (locs : List Loc) (pc : Nat) (ls : Array Slot), some v = some rv → gS E A s.heap (wX11_fliesBy E) H locs → decode cX11_fliesBy pc = .ok (.ireturn, 1) → W p l e ({ frames := 0, cells := 0, slots := 0, locals := 0 } : Room) s m args below meth cd H locs 0 0 Q (F0 m pc ls [.int v]) := by
    intro v  H locs pc ls h hw hd
    cases h
    exact hret H locs pc ls hw hd
  have B23 : ∀ (s0 : Int32) (H : Heap) (locs : List Loc) (ls : Array Slot), fX11_fliesBy_b23 s0 = some rv → gS E A s.heap (wX11_fliesBy E) H locs → lv_has ls 3 [] → W p l e ({ frames := 0, cells := 0, slots := 0, locals := 0 } : Room) s m args below meth cd H locs 0 0 Q (F0 m 23 ls [.int s0]) := by
    intro  s0 H locs ls hf hw hl
    exact hret1 s0 _ _ _ _ hf hw dX11_fliesBy_23
  refine lv_iload_n hx hb dX11_fliesBy_0 rfl (lv_at hl 0 rfl) ?_
  refine lv_bipush (v := 100) hx hb dX11_fliesBy_1 k_b100 ?_
  refine lv_idiv hx hb dX11_fliesBy_3 (by decide) ?_
  refine lv_iload_n hx hb dX11_fliesBy_4 rfl (lv_at hl 1 rfl) ?_
  refine lv_imul hx hb dX11_fliesBy_5 ?_
  refine lv_istore_n (lv' := [(2, .int ((x0 / 100) * x1)), (0, .int x0), (1, .int x1)]) hx hb dX11_fliesBy_6 rfl hl (Nat.le_of_ble_eq_true rfl) rfl (fun ls hl => ?_)
  refine lv_iload_n hx hb dX11_fliesBy_7 rfl (lv_at hl 0 rfl) ?_
  refine lv_iload_n hx hb dX11_fliesBy_8 rfl (lv_at hl 1 rfl) ?_
  refine lv_bipush (v := 100) hx hb dX11_fliesBy_9 k_b100 ?_
  refine g_irem hx hb dX11_fliesBy_11 (by decide) ?_
  refine lv_icmp_ge (tgt := 19) hx hb dX11_fliesBy_12 (by decide) (fun hc => ?_) (fun hc => ?_)
  · have hf := g_t hc hf
    refine lv_iload_n hx hb dX11_fliesBy_19 rfl (lv_at hl 1 rfl) ?_
    refine lv_bipush (v := 100) hx hb dX11_fliesBy_20 k_b100 ?_
    refine g_irem hx hb dX11_fliesBy_22 (by decide) ?_
    exact B23 (x0 % 100) _ _ _ hf hw (lv_sub hl [] rfl)
  · have hf := g_f hc hf
    refine lv_iload_n hx hb dX11_fliesBy_15 rfl (lv_at hl 0 rfl) ?_
    refine lv_goto (tgt := 23) hx hb dX11_fliesBy_16 (by decide) ?_
    exact B23 ((x0 / 100) * x1) _ _ _ hf hw (lv_sub hl [] rfl)
theorem hX11_isFit : yX11_isFit.cls = RX11 ∧ yX11_isFit.cls ≠ "java/lang/invoke/MethodHandle" ∧ yX11_isFit.cls ≠ "java/lang/invoke/VarHandle" ∧ (parseMethodDescriptor yX11_isFit.desc).map (fun d => d.parameters.length) = some 1 := by decide +kernel
set_option maxHeartbeats 4000000 in
set_option maxRecDepth 100000 in
theorem mX11_isFit (l : Launch) (E : gE) (o_t : Nat) (a_t : (Nat → Nat)) (v_t_there : Int32) (v_t_wind : Int32) (v_t_force : Int32) (v_t_rains : Int32) (v_t_lost : Int32) (v_t_hours : Int32) (v_t_sights : Int32) (v_t_padMany : Int32) (v_t_acts : Int32) (v_t_blownMany : Int32) (v_t_badAct : Int32) (v_t_badWhy : Int32) (v_t_ruinAct : Int32) (v_t_ruinWho : Int32) (v_t_keptAt : Int32) (v_t_isWriting : Int32) (f_t_sightBreath : (Nat → Int32)) (f_t_sightFlew : (Nat → Int32)) (x1 : Int32) (rv : Int32) (hf : fX11_isFit v_t_sights f_t_sightBreath f_t_sightFlew x1 = some rv) {sz : Nat} : gMi l yX11_isFit (gW yX11_isFit cX11_isFit 4 (some .boolean)) ({ frames := 1, cells := 0, slots := 0, locals := 25 } : Room) E [.ref o_t, .int x1] (wX11_isFit E o_t a_t v_t_there v_t_wind v_t_force v_t_rains v_t_lost v_t_hours v_t_sights v_t_padMany v_t_acts v_t_blownMany v_t_badAct v_t_badWhy v_t_ruinAct v_t_ruinWho v_t_keptAt v_t_isWriting f_t_sightBreath f_t_sightFlew) sz rv (wX11_isFit E o_t a_t v_t_there v_t_wind v_t_force v_t_rains v_t_lost v_t_hours v_t_sights v_t_padMany v_t_acts v_t_blownMany v_t_badAct v_t_badWhy v_t_ruinAct v_t_ruinWho v_t_keptAt v_t_isWriting f_t_sightBreath f_t_sightFlew) := by
  refine g_openZ (own := RX11) (by decide) rfl (Nat.le_of_ble_eq_true rfl) (fun p e s m args below meth cd Q A hx hb hml hown hG hK hA hret hw ls hl => ?_)
  have hl : lv_has ls 4 [(0, .ref o_t), (1, .int x1)] := hl
  have hret1 : ∀ (v : Int32)  (H : Heap) (locs : List Loc) (pc : Nat) (ls : Array Slot), some v = some rv → v &&& 1 = v → gS E A s.heap (wX11_isFit E o_t a_t v_t_there v_t_wind v_t_force v_t_rains v_t_lost v_t_hours v_t_sights v_t_padMany v_t_acts v_t_blownMany v_t_badAct v_t_badWhy v_t_ruinAct v_t_ruinWho v_t_keptAt v_t_isWriting f_t_sightBreath f_t_sightFlew) H locs → decode cX11_isFit pc = .ok (.ireturn, 1) → W p l e ({ frames := 1, cells := 0, slots := 0, locals := 25 } : Room) s m args below meth cd H locs 0 0 Q (F0 m pc ls [.int v]) := by
    intro v  H locs pc ls h hz hw hd
    cases h
    exact hret H locs pc ls hz hw hd
  have B51 : ∀ (K15 : Int32 → Int32 → Int32 → Option (Int32)) (hK15 : ∀ (x1 : Int32) (x2 : Int32) (x3 : Int32) (H : Heap) (locs : List Loc) (ls : Array Slot), K15 x1 x2 x3 = some rv → gS E A s.heap (wX11_isFit E o_t a_t v_t_there v_t_wind v_t_force v_t_rains v_t_lost v_t_hours v_t_sights v_t_padMany v_t_acts v_t_blownMany v_t_badAct v_t_badWhy v_t_ruinAct v_t_ruinWho v_t_keptAt v_t_isWriting f_t_sightBreath f_t_sightFlew) H locs → lv_has ls 4 [(0, .ref o_t), (1, .int x1), (2, .int x2), (3, .int x3)] → W p l e ({ frames := 1, cells := 0, slots := 0, locals := 25 } : Room) s m args below meth cd H locs 0 0 Q (F0 m 15 ls [])), ∀ (x1 : Int32) (x3 : Int32) (s0 : Int32) (H : Heap) (locs : List Loc) (ls : Array Slot), fX11_isFit_b51 K15 v_t_sights f_t_sightBreath f_t_sightFlew x1 x3 s0 = some rv → gS E A s.heap (wX11_isFit E o_t a_t v_t_there v_t_wind v_t_force v_t_rains v_t_lost v_t_hours v_t_sights v_t_padMany v_t_acts v_t_blownMany v_t_badAct v_t_badWhy v_t_ruinAct v_t_ruinWho v_t_keptAt v_t_isWriting f_t_sightBreath f_t_sightFlew) H locs → lv_has ls 4 [(0, .ref o_t), (1, .int x1), (3, .int x3)] → W p l e ({ frames := 1, cells := 0, slots := 0, locals := 25 } : Room) s m args below meth cd H locs 0 0 Q (F0 m 51 ls [.int s0]) := by
    intro K15 hK15 x1 x3 s0 H locs ls hf hw hl
    refine lv_istore_n (lv' := [(2, .int s0), (0, .ref o_t), (1, .int x1), (3, .int x3)]) hx hb dX11_isFit_51 rfl hl (Nat.le_of_ble_eq_true rfl) rfl (fun ls hl => ?_)
    refine lv_iinc (lv' := [(3, .int (x3 + 1)), (2, .int s0), (0, .ref o_t), (1, .int x1)]) hx hb dX11_isFit_52 hl (k := 3) rfl (k_inc1 _) (Nat.le_of_ble_eq_true rfl) rfl (fun ls hl => ?_)
    refine lv_goto (tgt := 15) hx hb dX11_isFit_55 (by decide) ?_
    exact hK15 x1 s0 (x3 + 1) _ _ _ hf hw (lv_sub hl [2, 3, 1, 0] rfl)
  have B50 : ∀ (K15 : Int32 → Int32 → Int32 → Option (Int32)) (hK15 : ∀ (x1 : Int32) (x2 : Int32) (x3 : Int32) (H : Heap) (locs : List Loc) (ls : Array Slot), K15 x1 x2 x3 = some rv → gS E A s.heap (wX11_isFit E o_t a_t v_t_there v_t_wind v_t_force v_t_rains v_t_lost v_t_hours v_t_sights v_t_padMany v_t_acts v_t_blownMany v_t_badAct v_t_badWhy v_t_ruinAct v_t_ruinWho v_t_keptAt v_t_isWriting f_t_sightBreath f_t_sightFlew) H locs → lv_has ls 4 [(0, .ref o_t), (1, .int x1), (2, .int x2), (3, .int x3)] → W p l e ({ frames := 1, cells := 0, slots := 0, locals := 25 } : Room) s m args below meth cd H locs 0 0 Q (F0 m 15 ls [])), ∀ (x1 : Int32) (x3 : Int32) (H : Heap) (locs : List Loc) (ls : Array Slot), fX11_isFit_b50 K15 v_t_sights f_t_sightBreath f_t_sightFlew x1 x3 = some rv → gS E A s.heap (wX11_isFit E o_t a_t v_t_there v_t_wind v_t_force v_t_rains v_t_lost v_t_hours v_t_sights v_t_padMany v_t_acts v_t_blownMany v_t_badAct v_t_badWhy v_t_ruinAct v_t_ruinWho v_t_keptAt v_t_isWriting f_t_sightBreath f_t_sightFlew) H locs → lv_has ls 4 [(0, .ref o_t), (1, .int x1), (3, .int x3)] → W p l e ({ frames := 1, cells := 0, slots := 0, locals := 25 } : Room) s m args below meth cd H locs 0 0 Q (F0 m 50 ls []) := by
    intro K15 hK15 x1 x3 H locs ls hf hw hl
    refine lv_iconst (v := 0) hx hb dX11_isFit_50 k_i0 ?_
    exact B51 K15 hK15 x1 x3 0 _ _ _ hf hw (lv_sub hl [0, 1, 2] rfl)
  have B15 : ∀ n : Nat, ∀ (x1 : Int32) (x2 : Int32) (x3 : Int32) (H : Heap) (locs : List Loc) (ls : Array Slot), fX11_isFit_b15 v_t_sights f_t_sightBreath f_t_sightFlew n x1 x2 x3 = some rv → gS E A s.heap (wX11_isFit E o_t a_t v_t_there v_t_wind v_t_force v_t_rains v_t_lost v_t_hours v_t_sights v_t_padMany v_t_acts v_t_blownMany v_t_badAct v_t_badWhy v_t_ruinAct v_t_ruinWho v_t_keptAt v_t_isWriting f_t_sightBreath f_t_sightFlew) H locs → lv_has ls 4 [(0, .ref o_t), (1, .int x1), (2, .int x2), (3, .int x3)] → W p l e ({ frames := 1, cells := 0, slots := 0, locals := 25 } : Room) s m args below meth cd H locs 0 0 Q (F0 m 15 ls []) := by
    intro n
    induction n with
    | zero => intro x1 x2 x3 H locs ls hf hw hl; exact g_no hf
    | succ n ih =>
      intro x1 x2 x3 H locs ls hf hw hl
      refine lv_iload_n hx hb dX11_isFit_15 rfl (lv_at hl 3 rfl) ?_
      refine lv_aload_n hx hb dX11_isFit_16 rfl (lv_at hl 0 rfl) ?_
      refine g_get hx hb hG hown hK hw inlX11 (ci := 9) rfl 0 13 (Nat.le_of_ble_eq_true rfl) rfl rfl wd_31_4 dX11_isFit_17 ?_
      refine lv_icmp_ge (tgt := 58) hx hb dX11_isFit_20 (by decide) (fun hc => ?_) (fun hc => ?_)
      · have hf := g_t hc hf
        refine lv_iload_n hx hb dX11_isFit_58 rfl (lv_at hl 2 rfl) ?_
        obtain ⟨hz1, hf⟩ := gZ_s hf
        exact hret1 x2 _ _ _ _ hf hz1 hw dX11_isFit_59
      · have hf := g_f hc hf
        refine lv_iload_n hx hb dX11_isFit_23 rfl (lv_at hl 2 rfl) ?_
        refine lv_if_eq (tgt := 50) hx hb dX11_isFit_24 (by decide) (fun hc => ?_) (fun hc => ?_)
        · have hf := g_t hc hf
          exact B50 (fX11_isFit_b15 v_t_sights f_t_sightBreath f_t_sightFlew n) ih x1 x3 _ _ _ hf hw (lv_sub hl [0, 1, 3] rfl)
        · have hf := g_f hc hf
          refine lv_iload_n hx hb dX11_isFit_27 rfl (lv_at hl 1 rfl) ?_
          refine lv_aload_n hx hb dX11_isFit_28 rfl (lv_at hl 0 rfl) ?_
          refine g_get hx hb hG hown hK hw inlX11 (ci := 9) rfl 0 11 (Nat.le_of_ble_eq_true rfl) rfl rfl wd_6_2 dX11_isFit_29 ?_
          refine lv_iload_n hx hb dX11_isFit_32 rfl (lv_at hl 3 rfl) ?_
          obtain ⟨hi2, hf⟩ := gA_s hf
          refine g_iald hx hb hK hw 1 rfl hi2 dX11_isFit_33 ?_
          obtain ⟨r3, hc4, hf⟩ := gB_s hf
          refine g_ki (is := []) (w1 := (wX11_fliesBy E)) (ws' := (wX11_isFit E o_t a_t v_t_there v_t_wind v_t_force v_t_rains v_t_lost v_t_hours v_t_sights v_t_padMany v_t_acts v_t_blownMany v_t_badAct v_t_badWhy v_t_ruinAct v_t_ruinWho v_t_keptAt v_t_isWriting f_t_sightBreath f_t_sightFlew)) hw hA (g_rS hx hb hml hG hown hK hw (is := []) rfl (by decide) (mX11_fliesBy l E x1 (f_t_sightBreath (Int32.toNatClampNeg x3)) r3 hc4) wd_32_14 wd_32_15 wd_1_5 wd_32_16 hX11_fliesBy g_allgood ⟨rfl, rfl⟩ ⟨Nat.le_of_ble_eq_true rfl, Nat.le_of_ble_eq_true rfl⟩ ⟨Nat.zero_le _, Nat.zero_le _⟩ rfl hl.1 rfl (Nat.le_of_ble_eq_true rfl) dX11_isFit_34) rfl rfl rfl (fun H locs hw => ?_)
          refine lv_aload_n hx hb dX11_isFit_37 rfl (lv_at hl 0 rfl) ?_
          refine g_get hx hb hG hown hK hw inlX11 (ci := 9) rfl 0 12 (Nat.le_of_ble_eq_true rfl) rfl rfl wd_6_3 dX11_isFit_38 ?_
          refine lv_iload_n hx hb dX11_isFit_41 rfl (lv_at hl 3 rfl) ?_
          obtain ⟨hi5, hf⟩ := gA_s hf
          refine g_iald hx hb hK hw 2 rfl hi5 dX11_isFit_42 ?_
          refine lv_icmp_ne (tgt := 50) hx hb dX11_isFit_43 (by decide) (fun hc => ?_) (fun hc => ?_)
          · have hf := g_f hc hf
            exact B50 (fX11_isFit_b15 v_t_sights f_t_sightBreath f_t_sightFlew n) ih x1 x3 _ _ _ hf hw (lv_sub hl [0, 1, 3] rfl)
          · have hf := g_t hc hf
            refine lv_iconst (v := 1) hx hb dX11_isFit_46 k_i1 ?_
            refine lv_goto (tgt := 51) hx hb dX11_isFit_47 (by decide) ?_
            exact B51 (fX11_isFit_b15 v_t_sights f_t_sightBreath f_t_sightFlew n) ih x1 x3 1 _ _ _ hf hw (lv_sub hl [0, 1, 3] rfl)
  refine lv_iload_n hx hb dX11_isFit_0 rfl (lv_at hl 1 rfl) ?_
  refine lv_bipush (v := 100) hx hb dX11_isFit_1 k_b100 ?_
  refine g_irem hx hb dX11_isFit_3 (by decide) ?_
  refine lv_i2l hx hb dX11_isFit_4 rfl ?_
  refine lv_lconst (v := 1) hx hb dX11_isFit_5 k_l1 ?_
  refine lv_ldc2 hx hb hown (hG _ wd_32_13) dX11_isFit_6 ?_
  obtain ⟨r6, hc7, hf⟩ := gB_s hf
  refine g_ki (is := []) (w1 := (wX11_in E)) (ws' := (wX11_isFit E o_t a_t v_t_there v_t_wind v_t_force v_t_rains v_t_lost v_t_hours v_t_sights v_t_padMany v_t_acts v_t_blownMany v_t_badAct v_t_badWhy v_t_ruinAct v_t_ruinWho v_t_keptAt v_t_isWriting f_t_sightBreath f_t_sightFlew)) hw hA (g_rS hx hb hml hG hown hK hw (is := []) rfl (by decide) (mX11_in l E (Int32.toInt64 (x1 % 100)) 1 40 r6 hc7) wd_8_10 wd_8_11 wd_1_5 wd_8_12 hX11_in g_allgood ⟨rfl, rfl⟩ ⟨Nat.le_of_ble_eq_true rfl, Nat.le_of_ble_eq_true rfl⟩ ⟨Nat.zero_le _, Nat.zero_le _⟩ rfl hl.1 rfl (Nat.le_of_ble_eq_true rfl) dX11_isFit_9) rfl rfl rfl (fun H locs hw => ?_)
  refine lv_istore_n (lv' := [(2, .int r6), (0, .ref o_t), (1, .int x1)]) hx hb dX11_isFit_12 rfl hl (Nat.le_of_ble_eq_true rfl) rfl (fun ls hl => ?_)
  refine lv_iconst (v := 0) hx hb dX11_isFit_13 k_i0 ?_
  refine lv_istore_n (lv' := [(3, .int 0), (2, .int r6), (0, .ref o_t), (1, .int x1)]) hx hb dX11_isFit_14 rfl hl (Nat.le_of_ble_eq_true rfl) rfl (fun ls hl => ?_)
  exact B15 1000 x1 r6 0 _ _ _ hf hw (lv_sub hl [2, 3, 1, 0] rfl)
theorem hX11_fits : yX11_fits.cls = RX11 ∧ yX11_fits.cls ≠ "java/lang/invoke/MethodHandle" ∧ yX11_fits.cls ≠ "java/lang/invoke/VarHandle" ∧ (parseMethodDescriptor yX11_fits.desc).map (fun d => d.parameters.length) = some 1 := by decide +kernel
set_option maxHeartbeats 4000000 in
set_option maxRecDepth 100000 in
theorem mX11_fits (l : Launch) (E : gE) (o_t : Nat) (a_t : (Nat → Nat)) (v_t_there : Int32) (v_t_wind : Int32) (v_t_force : Int32) (v_t_rains : Int32) (v_t_lost : Int32) (v_t_hours : Int32) (v_t_sights : Int32) (v_t_padMany : Int32) (v_t_acts : Int32) (v_t_blownMany : Int32) (v_t_badAct : Int32) (v_t_badWhy : Int32) (v_t_ruinAct : Int32) (v_t_ruinWho : Int32) (v_t_keptAt : Int32) (v_t_isWriting : Int32) (f_t_sightBreath : (Nat → Int32)) (f_t_sightFlew : (Nat → Int32)) (x1 : Int32) (rv : Int32) (hf : fX11_fits v_t_sights f_t_sightBreath f_t_sightFlew x1 = some rv) {sz : Nat} : gMi l yX11_fits (gW yX11_fits cX11_fits 4 (some .int)) ({ frames := 2, cells := 0, slots := 0, locals := 48 } : Room) E [.ref o_t, .int x1] (wX11_fits E o_t a_t v_t_there v_t_wind v_t_force v_t_rains v_t_lost v_t_hours v_t_sights v_t_padMany v_t_acts v_t_blownMany v_t_badAct v_t_badWhy v_t_ruinAct v_t_ruinWho v_t_keptAt v_t_isWriting f_t_sightBreath f_t_sightFlew) sz rv (wX11_fits E o_t a_t v_t_there v_t_wind v_t_force v_t_rains v_t_lost v_t_hours v_t_sights v_t_padMany v_t_acts v_t_blownMany v_t_badAct v_t_badWhy v_t_ruinAct v_t_ruinWho v_t_keptAt v_t_isWriting f_t_sightBreath f_t_sightFlew) := by
  refine g_openI (own := RX11) (by decide) rfl (Nat.le_of_ble_eq_true rfl) (fun p e s m args below meth cd Q A hx hb hml hown hG hK hA hret hw ls hl => ?_)
  have hl : lv_has ls 4 [(0, .ref o_t), (1, .int x1)] := hl
  have hret1 : ∀ (v : Int32)  (H : Heap) (locs : List Loc) (pc : Nat) (ls : Array Slot), some v = some rv → gS E A s.heap (wX11_fits E o_t a_t v_t_there v_t_wind v_t_force v_t_rains v_t_lost v_t_hours v_t_sights v_t_padMany v_t_acts v_t_blownMany v_t_badAct v_t_badWhy v_t_ruinAct v_t_ruinWho v_t_keptAt v_t_isWriting f_t_sightBreath f_t_sightFlew) H locs → decode cX11_fits pc = .ok (.ireturn, 1) → W p l e ({ frames := 2, cells := 0, slots := 0, locals := 48 } : Room) s m args below meth cd H locs 0 0 Q (F0 m pc ls [.int v]) := by
    intro v  H locs pc ls h hw hd
    cases h
    exact hret H locs pc ls hw hd
  have B30 : ∀ (K5 : Int32 → Int32 → Int32 → Option (Int32)) (hK5 : ∀ (x1 : Int32) (x2 : Int32) (x3 : Int32) (H : Heap) (locs : List Loc) (ls : Array Slot), K5 x1 x2 x3 = some rv → gS E A s.heap (wX11_fits E o_t a_t v_t_there v_t_wind v_t_force v_t_rains v_t_lost v_t_hours v_t_sights v_t_padMany v_t_acts v_t_blownMany v_t_badAct v_t_badWhy v_t_ruinAct v_t_ruinWho v_t_keptAt v_t_isWriting f_t_sightBreath f_t_sightFlew) H locs → lv_has ls 4 [(0, .ref o_t), (1, .int x1), (2, .int x2), (3, .int x3)] → W p l e ({ frames := 2, cells := 0, slots := 0, locals := 48 } : Room) s m args below meth cd H locs 0 0 Q (F0 m 5 ls [])), ∀ (x1 : Int32) (x2 : Int32) (x3 : Int32) (H : Heap) (locs : List Loc) (ls : Array Slot), fX11_fits_b30 K5 v_t_sights f_t_sightBreath f_t_sightFlew x1 x2 x3 = some rv → gS E A s.heap (wX11_fits E o_t a_t v_t_there v_t_wind v_t_force v_t_rains v_t_lost v_t_hours v_t_sights v_t_padMany v_t_acts v_t_blownMany v_t_badAct v_t_badWhy v_t_ruinAct v_t_ruinWho v_t_keptAt v_t_isWriting f_t_sightBreath f_t_sightFlew) H locs → lv_has ls 4 [(0, .ref o_t), (1, .int x1), (2, .int x2), (3, .int x3)] → W p l e ({ frames := 2, cells := 0, slots := 0, locals := 48 } : Room) s m args below meth cd H locs 0 0 Q (F0 m 30 ls []) := by
    intro K5 hK5 x1 x2 x3 H locs ls hf hw hl
    refine lv_iinc (lv' := [(3, .int (x3 + 1)), (0, .ref o_t), (1, .int x1), (2, .int x2)]) hx hb dX11_fits_30 hl (k := 3) rfl (k_inc1 _) (Nat.le_of_ble_eq_true rfl) rfl (fun ls hl => ?_)
    refine lv_goto (tgt := 5) hx hb dX11_fits_33 (by decide) ?_
    exact hK5 x1 x2 (x3 + 1) _ _ _ hf hw (lv_sub hl [1, 2, 3, 0] rfl)
  have B47 : ∀ (s0 : Int32) (H : Heap) (locs : List Loc) (ls : Array Slot), fX11_fits_b47 s0 = some rv → gS E A s.heap (wX11_fits E o_t a_t v_t_there v_t_wind v_t_force v_t_rains v_t_lost v_t_hours v_t_sights v_t_padMany v_t_acts v_t_blownMany v_t_badAct v_t_badWhy v_t_ruinAct v_t_ruinWho v_t_keptAt v_t_isWriting f_t_sightBreath f_t_sightFlew) H locs → lv_has ls 4 [] → W p l e ({ frames := 2, cells := 0, slots := 0, locals := 48 } : Room) s m args below meth cd H locs 0 0 Q (F0 m 47 ls [.int s0]) := by
    intro  s0 H locs ls hf hw hl
    exact hret1 s0 _ _ _ _ hf hw dX11_fits_47
  have B5 : ∀ n : Nat, ∀ (x1 : Int32) (x2 : Int32) (x3 : Int32) (H : Heap) (locs : List Loc) (ls : Array Slot), fX11_fits_b5 v_t_sights f_t_sightBreath f_t_sightFlew n x1 x2 x3 = some rv → gS E A s.heap (wX11_fits E o_t a_t v_t_there v_t_wind v_t_force v_t_rains v_t_lost v_t_hours v_t_sights v_t_padMany v_t_acts v_t_blownMany v_t_badAct v_t_badWhy v_t_ruinAct v_t_ruinWho v_t_keptAt v_t_isWriting f_t_sightBreath f_t_sightFlew) H locs → lv_has ls 4 [(0, .ref o_t), (1, .int x1), (2, .int x2), (3, .int x3)] → W p l e ({ frames := 2, cells := 0, slots := 0, locals := 48 } : Room) s m args below meth cd H locs 0 0 Q (F0 m 5 ls []) := by
    intro n
    induction n with
    | zero => intro x1 x2 x3 H locs ls hf hw hl; exact g_no hf
    | succ n ih =>
      intro x1 x2 x3 H locs ls hf hw hl
      refine lv_iload_n hx hb dX11_fits_5 rfl (lv_at hl 3 rfl) ?_
      refine lv_sipush (v := 1000) hx hb dX11_fits_6 k_s1000 ?_
      refine lv_icmp_ge (tgt := 36) hx hb dX11_fits_9 (by decide) (fun hc => ?_) (fun hc => ?_)
      · have hf := g_t hc hf
        refine lv_iload_n hx hb dX11_fits_36 rfl (lv_at hl 1 rfl) ?_
        refine lv_iconst (v := -1) hx hb dX11_fits_37 k_im1 ?_
        refine lv_icmp_ne (tgt := 45) hx hb dX11_fits_38 (by decide) (fun hc => ?_) (fun hc => ?_)
        · have hf := g_f hc hf
          refine lv_bipush (v := -6) hx hb dX11_fits_45 k_bm6 ?_
          exact B47 (-6) _ _ _ hf hw (lv_sub hl [] rfl)
        · have hf := g_t hc hf
          refine lv_iload_n hx hb dX11_fits_41 rfl (lv_at hl 2 rfl) ?_
          refine lv_goto (tgt := 47) hx hb dX11_fits_42 (by decide) ?_
          exact B47 x2 _ _ _ hf hw (lv_sub hl [] rfl)
      · have hf := g_f hc hf
        refine lv_aload_n hx hb dX11_fits_12 rfl (lv_at hl 0 rfl) ?_
        refine lv_iload_n hx hb dX11_fits_13 rfl (lv_at hl 3 rfl) ?_
        obtain ⟨r1, hc2, hf⟩ := gB_s hf
        refine g_ki (is := [0, 1, 2]) (w1 := (wX11_isFit E o_t a_t v_t_there v_t_wind v_t_force v_t_rains v_t_lost v_t_hours v_t_sights v_t_padMany v_t_acts v_t_blownMany v_t_badAct v_t_badWhy v_t_ruinAct v_t_ruinWho v_t_keptAt v_t_isWriting f_t_sightBreath f_t_sightFlew)) (ws' := (wX11_fits E o_t a_t v_t_there v_t_wind v_t_force v_t_rains v_t_lost v_t_hours v_t_sights v_t_padMany v_t_acts v_t_blownMany v_t_badAct v_t_badWhy v_t_ruinAct v_t_ruinWho v_t_keptAt v_t_isWriting f_t_sightBreath f_t_sightFlew)) hw hA (g_rV hx hb hml hG hown hK hw (is := [0, 1, 2]) rfl (by decide) (mX11_isFit l E o_t a_t v_t_there v_t_wind v_t_force v_t_rains v_t_lost v_t_hours v_t_sights v_t_padMany v_t_acts v_t_blownMany v_t_badAct v_t_badWhy v_t_ruinAct v_t_ruinWho v_t_keptAt v_t_isWriting f_t_sightBreath f_t_sightFlew x3 r1 hc2) wd_32_9 wd_32_10 wd_32_11 wd_1_5 wd_32_12 hX11_isFit g_allgood ⟨rfl, rfl⟩ ⟨Nat.le_of_ble_eq_true rfl, Nat.le_of_ble_eq_true rfl⟩ ⟨Nat.zero_le _, Nat.zero_le _⟩ (ci := 9) (q0 := 0) rfl rfl rfl rfl hl.1 rfl (Nat.le_of_ble_eq_true rfl) dX11_fits_14) rfl rfl rfl (fun H locs hw => ?_)
        refine lv_if_eq (tgt := 30) hx hb dX11_fits_17 (by decide) (fun hc => ?_) (fun hc => ?_)
        · have hf := g_t hc hf
          exact B30 (fX11_fits_b5 v_t_sights f_t_sightBreath f_t_sightFlew n) ih x1 x2 x3 _ _ _ hf hw (lv_sub hl [0, 1, 2, 3] rfl)
        · have hf := g_f hc hf
          refine lv_iload_n hx hb dX11_fits_20 rfl (lv_at hl 2 rfl) ?_
          refine lv_iload_n hx hb dX11_fits_21 rfl (lv_at hl 1 rfl) ?_
          refine lv_icmp_ne (tgt := 27) hx hb dX11_fits_22 (by decide) (fun hc => ?_) (fun hc => ?_)
          · have hf := g_f hc hf
            refine lv_iinc (lv' := [(2, .int (x2 + 1)), (0, .ref o_t), (1, .int x1), (3, .int x3)]) hx hb dX11_fits_27 hl (k := 2) rfl (k_inc1 _) (Nat.le_of_ble_eq_true rfl) rfl (fun ls hl => ?_)
            exact B30 (fX11_fits_b5 v_t_sights f_t_sightBreath f_t_sightFlew n) ih x1 (x2 + 1) x3 _ _ _ hf hw (lv_sub hl [1, 2, 0, 3] rfl)
          · have hf := g_t hc hf
            refine lv_iload_n hx hb dX11_fits_25 rfl (lv_at hl 3 rfl) ?_
            exact hret1 x3 _ _ _ _ hf hw dX11_fits_26
  refine lv_iconst (v := 0) hx hb dX11_fits_0 k_i0 ?_
  refine lv_istore_n (lv' := [(2, .int 0), (0, .ref o_t), (1, .int x1)]) hx hb dX11_fits_1 rfl hl (Nat.le_of_ble_eq_true rfl) rfl (fun ls hl => ?_)
  refine lv_bipush (v := 100) hx hb dX11_fits_2 k_b100 ?_
  refine lv_istore_n (lv' := [(3, .int 100), (2, .int 0), (0, .ref o_t), (1, .int x1)]) hx hb dX11_fits_4 rfl hl (Nat.le_of_ble_eq_true rfl) rfl (fun ls hl => ?_)
  exact B5 1000 x1 0 100 _ _ _ hf hw (lv_sub hl [2, 3, 1, 0] rfl)
theorem hX11_mostLeft : yX11_mostLeft.cls = RX11 ∧ yX11_mostLeft.cls ≠ "java/lang/invoke/MethodHandle" ∧ yX11_mostLeft.cls ≠ "java/lang/invoke/VarHandle" ∧ (parseMethodDescriptor yX11_mostLeft.desc).map (fun d => d.parameters.length) = some 1 := by decide +kernel
set_option maxHeartbeats 4000000 in
set_option maxRecDepth 100000 in
theorem mX11_mostLeft (l : Launch) (E : gE) (o_t : Nat) (a_t : (Nat → Nat)) (v_t_there : Int32) (v_t_wind : Int32) (v_t_force : Int32) (v_t_rains : Int32) (v_t_lost : Int32) (v_t_hours : Int32) (v_t_sights : Int32) (v_t_padMany : Int32) (v_t_acts : Int32) (v_t_blownMany : Int32) (v_t_badAct : Int32) (v_t_badWhy : Int32) (v_t_ruinAct : Int32) (v_t_ruinWho : Int32) (v_t_keptAt : Int32) (v_t_isWriting : Int32) (f_t_sightBreath : (Nat → Int32)) (f_t_sightFlew : (Nat → Int32)) (f_t_byFlew : (Nat → Int32)) (x1 : Int32) (rv : Int32) (z_t_byFlew : (Nat → Int32)) (hf : fX11_mostLeft v_t_sights f_t_sightBreath f_t_sightFlew f_t_byFlew x1 = some (rv, z_t_byFlew)) {sz : Nat} : gMi l yX11_mostLeft (gW yX11_mostLeft cX11_mostLeft 5 (some .int)) ({ frames := 2, cells := 0, slots := 0, locals := 48 } : Room) E [.ref o_t, .int x1] (wX11_mostLeft E o_t a_t v_t_there v_t_wind v_t_force v_t_rains v_t_lost v_t_hours v_t_sights v_t_padMany v_t_acts v_t_blownMany v_t_badAct v_t_badWhy v_t_ruinAct v_t_ruinWho v_t_keptAt v_t_isWriting f_t_sightBreath f_t_sightFlew f_t_byFlew) sz rv (wX11_mostLeft E o_t a_t v_t_there v_t_wind v_t_force v_t_rains v_t_lost v_t_hours v_t_sights v_t_padMany v_t_acts v_t_blownMany v_t_badAct v_t_badWhy v_t_ruinAct v_t_ruinWho v_t_keptAt v_t_isWriting f_t_sightBreath f_t_sightFlew z_t_byFlew) := by
  refine g_openI (own := RX11) (by decide) rfl (Nat.le_of_ble_eq_true rfl) (fun p e s m args below meth cd Q A hx hb hml hown hG hK hA hret hw ls hl => ?_)
  have hl : lv_has ls 5 [(0, .ref o_t), (1, .int x1)] := hl
  have hret1 : ∀ (v : Int32) (f_t_byFlew : (Nat → Int32)) (H : Heap) (locs : List Loc) (pc : Nat) (ls : Array Slot), some (v, f_t_byFlew) = some (rv, z_t_byFlew) → gS E A s.heap (wX11_mostLeft E o_t a_t v_t_there v_t_wind v_t_force v_t_rains v_t_lost v_t_hours v_t_sights v_t_padMany v_t_acts v_t_blownMany v_t_badAct v_t_badWhy v_t_ruinAct v_t_ruinWho v_t_keptAt v_t_isWriting f_t_sightBreath f_t_sightFlew f_t_byFlew) H locs → decode cX11_mostLeft pc = .ok (.ireturn, 1) → W p l e ({ frames := 2, cells := 0, slots := 0, locals := 48 } : Room) s m args below meth cd H locs 0 0 Q (F0 m pc ls [.int v]) := by
    intro v f_t_byFlew H locs pc ls h hw hd
    cases h
    exact hret H locs pc ls hw hd
  have B82 : ∀ (K26 : (Nat → Int32) → Int32 → Int32 → Int32 → Option (Int32 × (Nat → Int32))) (hK26 : ∀ (f_t_byFlew : (Nat → Int32)) (x1 : Int32) (x2 : Int32) (x3 : Int32) (H : Heap) (locs : List Loc) (ls : Array Slot), K26 f_t_byFlew x1 x2 x3 = some (rv, z_t_byFlew) → gS E A s.heap (wX11_mostLeft E o_t a_t v_t_there v_t_wind v_t_force v_t_rains v_t_lost v_t_hours v_t_sights v_t_padMany v_t_acts v_t_blownMany v_t_badAct v_t_badWhy v_t_ruinAct v_t_ruinWho v_t_keptAt v_t_isWriting f_t_sightBreath f_t_sightFlew f_t_byFlew) H locs → lv_has ls 5 [(0, .ref o_t), (1, .int x1), (2, .int x2), (3, .int x3)] → W p l e ({ frames := 2, cells := 0, slots := 0, locals := 48 } : Room) s m args below meth cd H locs 0 0 Q (F0 m 26 ls [])), ∀ (f_t_byFlew : (Nat → Int32)) (x1 : Int32) (x2 : Int32) (x3 : Int32) (H : Heap) (locs : List Loc) (ls : Array Slot), fX11_mostLeft_b82 K26 v_t_sights f_t_sightBreath f_t_sightFlew f_t_byFlew x1 x2 x3 = some (rv, z_t_byFlew) → gS E A s.heap (wX11_mostLeft E o_t a_t v_t_there v_t_wind v_t_force v_t_rains v_t_lost v_t_hours v_t_sights v_t_padMany v_t_acts v_t_blownMany v_t_badAct v_t_badWhy v_t_ruinAct v_t_ruinWho v_t_keptAt v_t_isWriting f_t_sightBreath f_t_sightFlew f_t_byFlew) H locs → lv_has ls 5 [(0, .ref o_t), (1, .int x1), (2, .int x2), (3, .int x3)] → W p l e ({ frames := 2, cells := 0, slots := 0, locals := 48 } : Room) s m args below meth cd H locs 0 0 Q (F0 m 82 ls []) := by
    intro K26 hK26 f_t_byFlew x1 x2 x3 H locs ls hf hw hl
    refine lv_iinc (lv' := [(3, .int (x3 + 1)), (0, .ref o_t), (1, .int x1), (2, .int x2)]) hx hb dX11_mostLeft_82 hl (k := 3) rfl (k_inc1 _) (Nat.le_of_ble_eq_true rfl) rfl (fun ls hl => ?_)
    refine lv_goto (tgt := 26) hx hb dX11_mostLeft_85 (by decide) ?_
    exact hK26 f_t_byFlew x1 x2 (x3 + 1) _ _ _ hf hw (lv_sub hl [1, 2, 3, 0] rfl)
  have B81 : ∀ (K26 : (Nat → Int32) → Int32 → Int32 → Int32 → Option (Int32 × (Nat → Int32))) (hK26 : ∀ (f_t_byFlew : (Nat → Int32)) (x1 : Int32) (x2 : Int32) (x3 : Int32) (H : Heap) (locs : List Loc) (ls : Array Slot), K26 f_t_byFlew x1 x2 x3 = some (rv, z_t_byFlew) → gS E A s.heap (wX11_mostLeft E o_t a_t v_t_there v_t_wind v_t_force v_t_rains v_t_lost v_t_hours v_t_sights v_t_padMany v_t_acts v_t_blownMany v_t_badAct v_t_badWhy v_t_ruinAct v_t_ruinWho v_t_keptAt v_t_isWriting f_t_sightBreath f_t_sightFlew f_t_byFlew) H locs → lv_has ls 5 [(0, .ref o_t), (1, .int x1), (2, .int x2), (3, .int x3)] → W p l e ({ frames := 2, cells := 0, slots := 0, locals := 48 } : Room) s m args below meth cd H locs 0 0 Q (F0 m 26 ls [])), ∀ (f_t_byFlew : (Nat → Int32)) (x1 : Int32) (x3 : Int32) (s0 : Int32) (H : Heap) (locs : List Loc) (ls : Array Slot), fX11_mostLeft_b81 K26 v_t_sights f_t_sightBreath f_t_sightFlew f_t_byFlew x1 x3 s0 = some (rv, z_t_byFlew) → gS E A s.heap (wX11_mostLeft E o_t a_t v_t_there v_t_wind v_t_force v_t_rains v_t_lost v_t_hours v_t_sights v_t_padMany v_t_acts v_t_blownMany v_t_badAct v_t_badWhy v_t_ruinAct v_t_ruinWho v_t_keptAt v_t_isWriting f_t_sightBreath f_t_sightFlew f_t_byFlew) H locs → lv_has ls 5 [(0, .ref o_t), (1, .int x1), (3, .int x3)] → W p l e ({ frames := 2, cells := 0, slots := 0, locals := 48 } : Room) s m args below meth cd H locs 0 0 Q (F0 m 81 ls [.int s0]) := by
    intro K26 hK26 f_t_byFlew x1 x3 s0 H locs ls hf hw hl
    refine lv_istore_n (lv' := [(2, .int s0), (0, .ref o_t), (1, .int x1), (3, .int x3)]) hx hb dX11_mostLeft_81 rfl hl (Nat.le_of_ble_eq_true rfl) rfl (fun ls hl => ?_)
    exact B82 K26 hK26 f_t_byFlew x1 s0 x3 _ _ _ hf hw (lv_sub hl [1, 2, 0, 3] rfl)
  have B26 : ∀ n : Nat, ∀ (f_t_byFlew : (Nat → Int32)) (x1 : Int32) (x2 : Int32) (x3 : Int32) (H : Heap) (locs : List Loc) (ls : Array Slot), fX11_mostLeft_b26 v_t_sights f_t_sightBreath f_t_sightFlew n f_t_byFlew x1 x2 x3 = some (rv, z_t_byFlew) → gS E A s.heap (wX11_mostLeft E o_t a_t v_t_there v_t_wind v_t_force v_t_rains v_t_lost v_t_hours v_t_sights v_t_padMany v_t_acts v_t_blownMany v_t_badAct v_t_badWhy v_t_ruinAct v_t_ruinWho v_t_keptAt v_t_isWriting f_t_sightBreath f_t_sightFlew f_t_byFlew) H locs → lv_has ls 5 [(0, .ref o_t), (1, .int x1), (2, .int x2), (3, .int x3)] → W p l e ({ frames := 2, cells := 0, slots := 0, locals := 48 } : Room) s m args below meth cd H locs 0 0 Q (F0 m 26 ls []) := by
    intro n
    induction n with
    | zero => intro f_t_byFlew x1 x2 x3 H locs ls hf hw hl; exact g_no hf
    | succ n ih =>
      intro f_t_byFlew x1 x2 x3 H locs ls hf hw hl
      refine lv_iload_n hx hb dX11_mostLeft_26 rfl (lv_at hl 3 rfl) ?_
      refine lv_sipush (v := 1000) hx hb dX11_mostLeft_27 k_s1000 ?_
      refine lv_icmp_ge (tgt := 88) hx hb dX11_mostLeft_30 (by decide) (fun hc => ?_) (fun hc => ?_)
      · have hf := g_t hc hf
        refine lv_iload_n hx hb dX11_mostLeft_88 rfl (lv_at hl 2 rfl) ?_
        exact hret1 x2 f_t_byFlew _ _ _ _ hf hw dX11_mostLeft_89
      · have hf := g_f hc hf
        refine lv_aload_n hx hb dX11_mostLeft_33 rfl (lv_at hl 0 rfl) ?_
        refine lv_iload_n hx hb dX11_mostLeft_34 rfl (lv_at hl 3 rfl) ?_
        obtain ⟨r1, hc2, hf⟩ := gB_s hf
        refine g_ki (is := [0, 1, 2]) (w1 := (wX11_isFit E o_t a_t v_t_there v_t_wind v_t_force v_t_rains v_t_lost v_t_hours v_t_sights v_t_padMany v_t_acts v_t_blownMany v_t_badAct v_t_badWhy v_t_ruinAct v_t_ruinWho v_t_keptAt v_t_isWriting f_t_sightBreath f_t_sightFlew)) (ws' := (wX11_mostLeft E o_t a_t v_t_there v_t_wind v_t_force v_t_rains v_t_lost v_t_hours v_t_sights v_t_padMany v_t_acts v_t_blownMany v_t_badAct v_t_badWhy v_t_ruinAct v_t_ruinWho v_t_keptAt v_t_isWriting f_t_sightBreath f_t_sightFlew f_t_byFlew)) hw hA (g_rV hx hb hml hG hown hK hw (is := [0, 1, 2]) rfl (by decide) (mX11_isFit l E o_t a_t v_t_there v_t_wind v_t_force v_t_rains v_t_lost v_t_hours v_t_sights v_t_padMany v_t_acts v_t_blownMany v_t_badAct v_t_badWhy v_t_ruinAct v_t_ruinWho v_t_keptAt v_t_isWriting f_t_sightBreath f_t_sightFlew x3 r1 hc2) wd_32_9 wd_32_10 wd_32_11 wd_1_5 wd_32_12 hX11_isFit g_allgood ⟨rfl, rfl⟩ ⟨Nat.le_of_ble_eq_true rfl, Nat.le_of_ble_eq_true rfl⟩ ⟨Nat.zero_le _, Nat.zero_le _⟩ (ci := 9) (q0 := 0) rfl rfl rfl rfl hl.1 rfl (Nat.le_of_ble_eq_true rfl) dX11_mostLeft_35) rfl rfl rfl (fun H locs hw => ?_)
        refine lv_if_eq (tgt := 82) hx hb dX11_mostLeft_38 (by decide) (fun hc => ?_) (fun hc => ?_)
        · have hf := g_t hc hf
          exact B82 (fX11_mostLeft_b26 v_t_sights f_t_sightBreath f_t_sightFlew n) ih f_t_byFlew x1 x2 x3 _ _ _ hf hw (lv_sub hl [0, 1, 2, 3] rfl)
        · have hf := g_f hc hf
          refine lv_iload_n hx hb dX11_mostLeft_41 rfl (lv_at hl 3 rfl) ?_
          refine lv_iload_n hx hb dX11_mostLeft_42 rfl (lv_at hl 1 rfl) ?_
          obtain ⟨r3, hc4, hf⟩ := gB_s hf
          refine g_ki (is := []) (w1 := (wX11_fliesBy E)) (ws' := (wX11_mostLeft E o_t a_t v_t_there v_t_wind v_t_force v_t_rains v_t_lost v_t_hours v_t_sights v_t_padMany v_t_acts v_t_blownMany v_t_badAct v_t_badWhy v_t_ruinAct v_t_ruinWho v_t_keptAt v_t_isWriting f_t_sightBreath f_t_sightFlew f_t_byFlew)) hw hA (g_rS hx hb hml hG hown hK hw (is := []) rfl (by decide) (mX11_fliesBy l E x3 x1 r3 hc4) wd_32_14 wd_32_15 wd_1_5 wd_32_16 hX11_fliesBy g_allgood ⟨rfl, rfl⟩ ⟨Nat.le_of_ble_eq_true rfl, Nat.le_of_ble_eq_true rfl⟩ ⟨Nat.zero_le _, Nat.zero_le _⟩ rfl hl.1 rfl (Nat.le_of_ble_eq_true rfl) dX11_mostLeft_43) rfl rfl rfl (fun H locs hw => ?_)
          refine lv_istore (lv' := [(4, .int r3), (0, .ref o_t), (1, .int x1), (2, .int x2), (3, .int x3)]) hx hb dX11_mostLeft_46 hl (Nat.le_of_ble_eq_true rfl) rfl (fun ls hl => ?_)
          refine lv_aload_n hx hb dX11_mostLeft_48 rfl (lv_at hl 1 rfl) ?_
          refine g_get hx hb hG hown hK hw inlX11 (ci := 9) rfl 0 29 (Nat.le_of_ble_eq_true rfl) rfl rfl wd_6_12 dX11_mostLeft_49 ?_
          refine lv_iload hx hb dX11_mostLeft_52 (lv_at hl 0 rfl) ?_
          refine lv_dup2_11 hx hb dX11_mostLeft_54 rfl rfl ?_
          obtain ⟨hi5, hf⟩ := gA_s hf
          refine g_iald hx hb hK hw 3 rfl hi5 dX11_mostLeft_55 ?_
          refine lv_iconst (v := 1) hx hb dX11_mostLeft_56 k_i1 ?_
          refine lv_iadd hx hb dX11_mostLeft_57 ?_
          obtain ⟨hi6, hf⟩ := gA_s hf
          refine g_iast (ws' := (wX11_mostLeft E o_t a_t v_t_there v_t_wind v_t_force v_t_rains v_t_lost v_t_hours v_t_sights v_t_padMany v_t_acts v_t_blownMany v_t_badAct v_t_badWhy v_t_ruinAct v_t_ruinWho v_t_keptAt v_t_isWriting f_t_sightBreath f_t_sightFlew (upd f_t_byFlew (Int32.toNatClampNeg r3) ((f_t_byFlew (Int32.toNatClampNeg r3)) + 1)))) hx hb hK hw 3 rfl hi6 rfl dX11_mostLeft_58 (fun H locs hw => ?_)
          refine lv_aload_n hx hb dX11_mostLeft_59 rfl (lv_at hl 1 rfl) ?_
          refine g_get hx hb hG hown hK hw inlX11 (ci := 9) rfl 0 29 (Nat.le_of_ble_eq_true rfl) rfl rfl wd_6_12 dX11_mostLeft_60 ?_
          refine lv_iload hx hb dX11_mostLeft_63 (lv_at hl 0 rfl) ?_
          obtain ⟨hi7, hf⟩ := gA_s hf
          refine g_iald hx hb hK hw 3 rfl hi7 dX11_mostLeft_65 ?_
          refine lv_iload_n hx hb dX11_mostLeft_66 rfl (lv_at hl 3 rfl) ?_
          refine lv_icmp_le (tgt := 80) hx hb dX11_mostLeft_67 (by decide) (fun hc => ?_) (fun hc => ?_)
          · have hf := g_t hc hf
            refine lv_iload_n hx hb dX11_mostLeft_80 rfl (lv_at hl 3 rfl) ?_
            exact B81 (fX11_mostLeft_b26 v_t_sights f_t_sightBreath f_t_sightFlew n) ih (upd f_t_byFlew (Int32.toNatClampNeg r3) ((f_t_byFlew (Int32.toNatClampNeg r3)) + 1)) x1 x3 x2 _ _ _ hf hw (lv_sub hl [1, 2, 4] rfl)
          · have hf := g_f hc hf
            refine lv_aload_n hx hb dX11_mostLeft_70 rfl (lv_at hl 1 rfl) ?_
            refine g_get hx hb hG hown hK hw inlX11 (ci := 9) rfl 0 29 (Nat.le_of_ble_eq_true rfl) rfl rfl wd_6_12 dX11_mostLeft_71 ?_
            refine lv_iload hx hb dX11_mostLeft_74 (lv_at hl 0 rfl) ?_
            obtain ⟨hi8, hf⟩ := gA_s hf
            refine g_iald hx hb hK hw 3 rfl hi8 dX11_mostLeft_76 ?_
            refine lv_goto (tgt := 81) hx hb dX11_mostLeft_77 (by decide) ?_
            exact B81 (fX11_mostLeft_b26 v_t_sights f_t_sightBreath f_t_sightFlew n) ih (upd f_t_byFlew (Int32.toNatClampNeg r3) ((f_t_byFlew (Int32.toNatClampNeg r3)) + 1)) x1 x3 ((upd f_t_byFlew (Int32.toNatClampNeg r3) ((f_t_byFlew (Int32.toNatClampNeg r3)) + 1)) (Int32.toNatClampNeg r3)) _ _ _ hf hw (lv_sub hl [1, 2, 4] rfl)
  have B4 : ∀ n : Nat, ∀ (f_t_byFlew : (Nat → Int32)) (x1 : Int32) (x2 : Int32) (x3 : Int32) (H : Heap) (locs : List Loc) (ls : Array Slot), fX11_mostLeft_b4 v_t_sights f_t_sightBreath f_t_sightFlew n f_t_byFlew x1 x2 x3 = some (rv, z_t_byFlew) → gS E A s.heap (wX11_mostLeft E o_t a_t v_t_there v_t_wind v_t_force v_t_rains v_t_lost v_t_hours v_t_sights v_t_padMany v_t_acts v_t_blownMany v_t_badAct v_t_badWhy v_t_ruinAct v_t_ruinWho v_t_keptAt v_t_isWriting f_t_sightBreath f_t_sightFlew f_t_byFlew) H locs → lv_has ls 5 [(0, .ref o_t), (1, .int x1), (2, .int x2), (3, .int x3)] → W p l e ({ frames := 2, cells := 0, slots := 0, locals := 48 } : Room) s m args below meth cd H locs 0 0 Q (F0 m 4 ls []) := by
    intro n
    induction n with
    | zero => intro f_t_byFlew x1 x2 x3 H locs ls hf hw hl; exact g_no hf
    | succ n ih =>
      intro f_t_byFlew x1 x2 x3 H locs ls hf hw hl
      refine lv_iload_n hx hb dX11_mostLeft_4 rfl (lv_at hl 3 rfl) ?_
      refine lv_bipush (v := 82) hx hb dX11_mostLeft_5 k_b82 ?_
      refine lv_icmp_ge (tgt := 23) hx hb dX11_mostLeft_7 (by decide) (fun hc => ?_) (fun hc => ?_)
      · have hf := g_t hc hf
        refine lv_bipush (v := 100) hx hb dX11_mostLeft_23 k_b100 ?_
        refine lv_istore_n (lv' := [(3, .int 100), (0, .ref o_t), (1, .int x1), (2, .int x2)]) hx hb dX11_mostLeft_25 rfl hl (Nat.le_of_ble_eq_true rfl) rfl (fun ls hl => ?_)
        exact B26 1000 f_t_byFlew x1 x2 100 _ _ _ hf hw (lv_sub hl [1, 2, 3, 0] rfl)
      · have hf := g_f hc hf
        refine lv_aload_n hx hb dX11_mostLeft_10 rfl (lv_at hl 0 rfl) ?_
        refine g_get hx hb hG hown hK hw inlX11 (ci := 9) rfl 0 29 (Nat.le_of_ble_eq_true rfl) rfl rfl wd_6_12 dX11_mostLeft_11 ?_
        refine lv_iload_n hx hb dX11_mostLeft_14 rfl (lv_at hl 3 rfl) ?_
        refine lv_iconst (v := 0) hx hb dX11_mostLeft_15 k_i0 ?_
        obtain ⟨hi9, hf⟩ := gA_s hf
        refine g_iast (ws' := (wX11_mostLeft E o_t a_t v_t_there v_t_wind v_t_force v_t_rains v_t_lost v_t_hours v_t_sights v_t_padMany v_t_acts v_t_blownMany v_t_badAct v_t_badWhy v_t_ruinAct v_t_ruinWho v_t_keptAt v_t_isWriting f_t_sightBreath f_t_sightFlew (upd f_t_byFlew (Int32.toNatClampNeg x3) 0))) hx hb hK hw 3 rfl hi9 rfl dX11_mostLeft_16 (fun H locs hw => ?_)
        refine lv_iinc (lv' := [(3, .int (x3 + 1)), (0, .ref o_t), (1, .int x1), (2, .int x2)]) hx hb dX11_mostLeft_17 hl (k := 3) rfl (k_inc1 _) (Nat.le_of_ble_eq_true rfl) rfl (fun ls hl => ?_)
        refine lv_goto (tgt := 4) hx hb dX11_mostLeft_20 (by decide) ?_
        exact ih (upd f_t_byFlew (Int32.toNatClampNeg x3) 0) x1 x2 (x3 + 1) _ _ _ hf hw (lv_sub hl [1, 2, 3, 0] rfl)
  refine lv_iconst (v := 0) hx hb dX11_mostLeft_0 k_i0 ?_
  refine lv_istore_n (lv' := [(2, .int 0), (0, .ref o_t), (1, .int x1)]) hx hb dX11_mostLeft_1 rfl hl (Nat.le_of_ble_eq_true rfl) rfl (fun ls hl => ?_)
  refine lv_iconst (v := 0) hx hb dX11_mostLeft_2 k_i0 ?_
  refine lv_istore_n (lv' := [(3, .int 0), (2, .int 0), (0, .ref o_t), (1, .int x1)]) hx hb dX11_mostLeft_3 rfl hl (Nat.le_of_ble_eq_true rfl) rfl (fun ls hl => ?_)
  exact B4 1000 f_t_byFlew x1 0 0 _ _ _ hf hw (lv_sub hl [2, 3, 1, 0] rfl)
theorem hX11_tries : yX11_tries.cls = RX11 ∧ yX11_tries.cls ≠ "java/lang/invoke/MethodHandle" ∧ yX11_tries.cls ≠ "java/lang/invoke/VarHandle" ∧ (parseMethodDescriptor yX11_tries.desc).map (fun d => d.parameters.length) = some 1 := by decide +kernel
set_option maxHeartbeats 4000000 in
set_option maxRecDepth 100000 in
theorem mX11_tries (l : Launch) (E : gE) (o_t : Nat) (a_t : (Nat → Nat)) (v_t_there : Int32) (v_t_wind : Int32) (v_t_force : Int32) (v_t_rains : Int32) (v_t_lost : Int32) (v_t_hours : Int32) (v_t_sights : Int32) (v_t_padMany : Int32) (v_t_acts : Int32) (v_t_blownMany : Int32) (v_t_badAct : Int32) (v_t_badWhy : Int32) (v_t_ruinAct : Int32) (v_t_ruinWho : Int32) (v_t_keptAt : Int32) (v_t_isWriting : Int32) (f_t_sightBreath : (Nat → Int32)) (f_t_sightFlew : (Nat → Int32)) (f_t_byFlew : (Nat → Int32)) (x1 : Int32) (rv : Int32) (z_t_byFlew : (Nat → Int32)) (hf : fX11_tries v_t_sights f_t_sightBreath f_t_sightFlew f_t_byFlew x1 = some (rv, z_t_byFlew)) {sz : Nat} : gMi l yX11_tries (gW yX11_tries cX11_tries 6 (some .int)) ({ frames := 3, cells := 0, slots := 0, locals := 72 } : Room) E [.ref o_t, .int x1] (wX11_tries E o_t a_t v_t_there v_t_wind v_t_force v_t_rains v_t_lost v_t_hours v_t_sights v_t_padMany v_t_acts v_t_blownMany v_t_badAct v_t_badWhy v_t_ruinAct v_t_ruinWho v_t_keptAt v_t_isWriting f_t_sightBreath f_t_sightFlew f_t_byFlew) sz rv (wX11_tries E o_t a_t v_t_there v_t_wind v_t_force v_t_rains v_t_lost v_t_hours v_t_sights v_t_padMany v_t_acts v_t_blownMany v_t_badAct v_t_badWhy v_t_ruinAct v_t_ruinWho v_t_keptAt v_t_isWriting f_t_sightBreath f_t_sightFlew z_t_byFlew) := by
  refine g_openI (own := RX11) (by decide) rfl (Nat.le_of_ble_eq_true rfl) (fun p e s m args below meth cd Q A hx hb hml hown hG hK hA hret hw ls hl => ?_)
  have hl : lv_has ls 6 [(0, .ref o_t), (1, .int x1)] := hl
  have hret1 : ∀ (v : Int32) (f_t_byFlew : (Nat → Int32)) (H : Heap) (locs : List Loc) (pc : Nat) (ls : Array Slot), some (v, f_t_byFlew) = some (rv, z_t_byFlew) → gS E A s.heap (wX11_tries E o_t a_t v_t_there v_t_wind v_t_force v_t_rains v_t_lost v_t_hours v_t_sights v_t_padMany v_t_acts v_t_blownMany v_t_badAct v_t_badWhy v_t_ruinAct v_t_ruinWho v_t_keptAt v_t_isWriting f_t_sightBreath f_t_sightFlew f_t_byFlew) H locs → decode cX11_tries pc = .ok (.ireturn, 1) → W p l e ({ frames := 3, cells := 0, slots := 0, locals := 72 } : Room) s m args below meth cd H locs 0 0 Q (F0 m pc ls [.int v]) := by
    intro v f_t_byFlew H locs pc ls h hw hd
    cases h
    exact hret H locs pc ls hw hd
  have B64 : ∀ (K24 : (Nat → Int32) → Int32 → Int32 → Int32 → Int32 → Option (Int32 × (Nat → Int32))) (hK24 : ∀ (f_t_byFlew : (Nat → Int32)) (x1 : Int32) (x2 : Int32) (x3 : Int32) (x4 : Int32) (H : Heap) (locs : List Loc) (ls : Array Slot), K24 f_t_byFlew x1 x2 x3 x4 = some (rv, z_t_byFlew) → gS E A s.heap (wX11_tries E o_t a_t v_t_there v_t_wind v_t_force v_t_rains v_t_lost v_t_hours v_t_sights v_t_padMany v_t_acts v_t_blownMany v_t_badAct v_t_badWhy v_t_ruinAct v_t_ruinWho v_t_keptAt v_t_isWriting f_t_sightBreath f_t_sightFlew f_t_byFlew) H locs → lv_has ls 6 [(0, .ref o_t), (1, .int x1), (2, .int x2), (3, .int x3), (4, .int x4)] → W p l e ({ frames := 3, cells := 0, slots := 0, locals := 72 } : Room) s m args below meth cd H locs 0 0 Q (F0 m 24 ls [])), ∀ (f_t_byFlew : (Nat → Int32)) (x1 : Int32) (x2 : Int32) (x4 : Int32) (s0 : Int32) (H : Heap) (locs : List Loc) (ls : Array Slot), fX11_tries_b64 K24 v_t_sights f_t_sightBreath f_t_sightFlew f_t_byFlew x1 x2 x4 s0 = some (rv, z_t_byFlew) → gS E A s.heap (wX11_tries E o_t a_t v_t_there v_t_wind v_t_force v_t_rains v_t_lost v_t_hours v_t_sights v_t_padMany v_t_acts v_t_blownMany v_t_badAct v_t_badWhy v_t_ruinAct v_t_ruinWho v_t_keptAt v_t_isWriting f_t_sightBreath f_t_sightFlew f_t_byFlew) H locs → lv_has ls 6 [(0, .ref o_t), (1, .int x1), (2, .int x2), (4, .int x4)] → W p l e ({ frames := 3, cells := 0, slots := 0, locals := 72 } : Room) s m args below meth cd H locs 0 0 Q (F0 m 64 ls [.int s0]) := by
    intro K24 hK24 f_t_byFlew x1 x2 x4 s0 H locs ls hf hw hl
    refine lv_istore_n (lv' := [(3, .int s0), (0, .ref o_t), (1, .int x1), (2, .int x2), (4, .int x4)]) hx hb dX11_tries_64 rfl hl (Nat.le_of_ble_eq_true rfl) rfl (fun ls hl => ?_)
    refine lv_iinc (lv' := [(4, .int (x4 + 1)), (3, .int s0), (0, .ref o_t), (1, .int x1), (2, .int x2)]) hx hb dX11_tries_65 hl (k := 4) rfl (k_inc1 _) (Nat.le_of_ble_eq_true rfl) rfl (fun ls hl => ?_)
    refine lv_goto (tgt := 24) hx hb dX11_tries_68 (by decide) ?_
    exact hK24 f_t_byFlew x1 x2 s0 (x4 + 1) _ _ _ hf hw (lv_sub hl [2, 3, 4, 1, 0] rfl)
  have B51 : ∀ (K24 : (Nat → Int32) → Int32 → Int32 → Int32 → Int32 → Option (Int32 × (Nat → Int32))) (hK24 : ∀ (f_t_byFlew : (Nat → Int32)) (x1 : Int32) (x2 : Int32) (x3 : Int32) (x4 : Int32) (H : Heap) (locs : List Loc) (ls : Array Slot), K24 f_t_byFlew x1 x2 x3 x4 = some (rv, z_t_byFlew) → gS E A s.heap (wX11_tries E o_t a_t v_t_there v_t_wind v_t_force v_t_rains v_t_lost v_t_hours v_t_sights v_t_padMany v_t_acts v_t_blownMany v_t_badAct v_t_badWhy v_t_ruinAct v_t_ruinWho v_t_keptAt v_t_isWriting f_t_sightBreath f_t_sightFlew f_t_byFlew) H locs → lv_has ls 6 [(0, .ref o_t), (1, .int x1), (2, .int x2), (3, .int x3), (4, .int x4)] → W p l e ({ frames := 3, cells := 0, slots := 0, locals := 72 } : Room) s m args below meth cd H locs 0 0 Q (F0 m 24 ls [])), ∀ (f_t_byFlew : (Nat → Int32)) (x1 : Int32) (x3 : Int32) (x4 : Int32) (x5 : Int32) (s0 : Int32) (H : Heap) (locs : List Loc) (ls : Array Slot), fX11_tries_b51 K24 v_t_sights f_t_sightBreath f_t_sightFlew f_t_byFlew x1 x3 x4 x5 s0 = some (rv, z_t_byFlew) → gS E A s.heap (wX11_tries E o_t a_t v_t_there v_t_wind v_t_force v_t_rains v_t_lost v_t_hours v_t_sights v_t_padMany v_t_acts v_t_blownMany v_t_badAct v_t_badWhy v_t_ruinAct v_t_ruinWho v_t_keptAt v_t_isWriting f_t_sightBreath f_t_sightFlew f_t_byFlew) H locs → lv_has ls 6 [(0, .ref o_t), (1, .int x1), (3, .int x3), (4, .int x4), (5, .int x5)] → W p l e ({ frames := 3, cells := 0, slots := 0, locals := 72 } : Room) s m args below meth cd H locs 0 0 Q (F0 m 51 ls [.int s0]) := by
    intro K24 hK24 f_t_byFlew x1 x3 x4 x5 s0 H locs ls hf hw hl
    refine lv_istore_n (lv' := [(2, .int s0), (0, .ref o_t), (1, .int x1), (3, .int x3), (4, .int x4), (5, .int x5)]) hx hb dX11_tries_51 rfl hl (Nat.le_of_ble_eq_true rfl) rfl (fun ls hl => ?_)
    refine lv_iload hx hb dX11_tries_52 (lv_at hl 5 rfl) ?_
    refine lv_iload_n hx hb dX11_tries_54 rfl (lv_at hl 3 rfl) ?_
    refine lv_icmp_ge (tgt := 63) hx hb dX11_tries_55 (by decide) (fun hc => ?_) (fun hc => ?_)
    · have hf := g_t hc hf
      refine lv_iload_n hx hb dX11_tries_63 rfl (lv_at hl 3 rfl) ?_
      exact B64 K24 hK24 f_t_byFlew x1 s0 x4 x3 _ _ _ hf hw (lv_sub hl [1, 2, 0, 4] rfl)
    · have hf := g_f hc hf
      refine lv_iload hx hb dX11_tries_58 (lv_at hl 5 rfl) ?_
      refine lv_goto (tgt := 64) hx hb dX11_tries_60 (by decide) ?_
      exact B64 K24 hK24 f_t_byFlew x1 s0 x4 x5 _ _ _ hf hw (lv_sub hl [1, 2, 0, 4] rfl)
  have B89 : ∀ (f_t_byFlew : (Nat → Int32)) (s0 : Int32) (H : Heap) (locs : List Loc) (ls : Array Slot), fX11_tries_b89 f_t_byFlew s0 = some (rv, z_t_byFlew) → gS E A s.heap (wX11_tries E o_t a_t v_t_there v_t_wind v_t_force v_t_rains v_t_lost v_t_hours v_t_sights v_t_padMany v_t_acts v_t_blownMany v_t_badAct v_t_badWhy v_t_ruinAct v_t_ruinWho v_t_keptAt v_t_isWriting f_t_sightBreath f_t_sightFlew f_t_byFlew) H locs → lv_has ls 6 [] → W p l e ({ frames := 3, cells := 0, slots := 0, locals := 72 } : Room) s m args below meth cd H locs 0 0 Q (F0 m 89 ls [.int s0]) := by
    intro  f_t_byFlew s0 H locs ls hf hw hl
    exact hret1 s0 f_t_byFlew _ _ _ _ hf hw dX11_tries_89
  have B24 : ∀ n : Nat, ∀ (f_t_byFlew : (Nat → Int32)) (x1 : Int32) (x2 : Int32) (x3 : Int32) (x4 : Int32) (H : Heap) (locs : List Loc) (ls : Array Slot), fX11_tries_b24 v_t_sights f_t_sightBreath f_t_sightFlew n f_t_byFlew x1 x2 x3 x4 = some (rv, z_t_byFlew) → gS E A s.heap (wX11_tries E o_t a_t v_t_there v_t_wind v_t_force v_t_rains v_t_lost v_t_hours v_t_sights v_t_padMany v_t_acts v_t_blownMany v_t_badAct v_t_badWhy v_t_ruinAct v_t_ruinWho v_t_keptAt v_t_isWriting f_t_sightBreath f_t_sightFlew f_t_byFlew) H locs → lv_has ls 6 [(0, .ref o_t), (1, .int x1), (2, .int x2), (3, .int x3), (4, .int x4)] → W p l e ({ frames := 3, cells := 0, slots := 0, locals := 72 } : Room) s m args below meth cd H locs 0 0 Q (F0 m 24 ls []) := by
    intro n
    induction n with
    | zero => intro f_t_byFlew x1 x2 x3 x4 H locs ls hf hw hl; exact g_no hf
    | succ n ih =>
      intro f_t_byFlew x1 x2 x3 x4 H locs ls hf hw hl
      refine lv_iload hx hb dX11_tries_24 (lv_at hl 4 rfl) ?_
      refine lv_bipush (v := 9) hx hb dX11_tries_26 k_b9 ?_
      refine lv_icmp_gt (tgt := 71) hx hb dX11_tries_28 (by decide) (fun hc => ?_) (fun hc => ?_)
      · have hf := g_t hc hf
        refine lv_iload_n hx hb dX11_tries_71 rfl (lv_at hl 3 rfl) ?_
        refine lv_if_ne (tgt := 80) hx hb dX11_tries_72 (by decide) (fun hc => ?_) (fun hc => ?_)
        · have hf := g_f hc hf
          refine lv_iload_n hx hb dX11_tries_80 rfl (lv_at hl 1 rfl) ?_
          refine lv_if_ne (tgt := 88) hx hb dX11_tries_81 (by decide) (fun hc => ?_) (fun hc => ?_)
          · have hf := g_f hc hf
            refine lv_iload_n hx hb dX11_tries_88 rfl (lv_at hl 3 rfl) ?_
            exact B89 f_t_byFlew x3 _ _ _ hf hw (lv_sub hl [] rfl)
          · have hf := g_t hc hf
            refine lv_iload_n hx hb dX11_tries_84 rfl (lv_at hl 2 rfl) ?_
            refine lv_goto (tgt := 89) hx hb dX11_tries_85 (by decide) ?_
            exact B89 f_t_byFlew x2 _ _ _ hf hw (lv_sub hl [] rfl)
        · have hf := g_t hc hf
          refine lv_bipush (v := -6) hx hb dX11_tries_75 k_bm6 ?_
          refine lv_goto (tgt := 89) hx hb dX11_tries_77 (by decide) ?_
          exact B89 f_t_byFlew (-6) _ _ _ hf hw (lv_sub hl [] rfl)
      · have hf := g_f hc hf
        refine lv_aload_n hx hb dX11_tries_31 rfl (lv_at hl 0 rfl) ?_
        refine lv_iload hx hb dX11_tries_32 (lv_at hl 4 rfl) ?_
        obtain ⟨r1, hc2, hf⟩ := gB_s hf
        refine g_ki (is := [0, 1, 2, 3]) (w1 := (wX11_mostLeft E o_t a_t v_t_there v_t_wind v_t_force v_t_rains v_t_lost v_t_hours v_t_sights v_t_padMany v_t_acts v_t_blownMany v_t_badAct v_t_badWhy v_t_ruinAct v_t_ruinWho v_t_keptAt v_t_isWriting f_t_sightBreath f_t_sightFlew r1.2)) (ws' := (wX11_tries E o_t a_t v_t_there v_t_wind v_t_force v_t_rains v_t_lost v_t_hours v_t_sights v_t_padMany v_t_acts v_t_blownMany v_t_badAct v_t_badWhy v_t_ruinAct v_t_ruinWho v_t_keptAt v_t_isWriting f_t_sightBreath f_t_sightFlew r1.2)) hw hA (g_rV hx hb hml hG hown hK hw (is := [0, 1, 2, 3]) rfl (by decide) (mX11_mostLeft l E o_t a_t v_t_there v_t_wind v_t_force v_t_rains v_t_lost v_t_hours v_t_sights v_t_padMany v_t_acts v_t_blownMany v_t_badAct v_t_badWhy v_t_ruinAct v_t_ruinWho v_t_keptAt v_t_isWriting f_t_sightBreath f_t_sightFlew f_t_byFlew x4 r1.1 r1.2 hc2) wd_33_14 wd_33_15 wd_33_16 wd_1_5 wd_33_17 hX11_mostLeft g_allgood ⟨rfl, rfl⟩ ⟨Nat.le_of_ble_eq_true rfl, Nat.le_of_ble_eq_true rfl⟩ ⟨Nat.zero_le _, Nat.zero_le _⟩ (ci := 9) (q0 := 0) rfl rfl rfl rfl hl.1 rfl (Nat.le_of_ble_eq_true rfl) dX11_tries_34) rfl rfl rfl (fun H locs hw => ?_)
        refine lv_istore (lv' := [(5, .int r1.1), (0, .ref o_t), (1, .int x1), (2, .int x2), (3, .int x3), (4, .int x4)]) hx hb dX11_tries_37 hl (Nat.le_of_ble_eq_true rfl) rfl (fun ls hl => ?_)
        refine lv_iload hx hb dX11_tries_39 (lv_at hl 0 rfl) ?_
        refine lv_iload_n hx hb dX11_tries_41 rfl (lv_at hl 4 rfl) ?_
        refine lv_icmp_ge (tgt := 50) hx hb dX11_tries_42 (by decide) (fun hc => ?_) (fun hc => ?_)
        · have hf := g_t hc hf
          refine lv_iload_n hx hb dX11_tries_50 rfl (lv_at hl 3 rfl) ?_
          exact B51 (fX11_tries_b24 v_t_sights f_t_sightBreath f_t_sightFlew n) ih r1.2 x1 x3 x4 r1.1 x2 _ _ _ hf hw (lv_sub hl [1, 2, 4, 5, 0] rfl)
        · have hf := g_f hc hf
          refine lv_iload hx hb dX11_tries_45 (lv_at hl 5 rfl) ?_
          refine lv_goto (tgt := 51) hx hb dX11_tries_47 (by decide) ?_
          exact B51 (fX11_tries_b24 v_t_sights f_t_sightBreath f_t_sightFlew n) ih r1.2 x1 x3 x4 r1.1 x4 _ _ _ hf hw (lv_sub hl [1, 2, 4, 5, 0] rfl)
  refine lv_iload_n hx hb dX11_tries_0 rfl (lv_at hl 1 rfl) ?_
  refine lv_i2l hx hb dX11_tries_1 rfl ?_
  refine lv_lconst (v := 0) hx hb dX11_tries_2 k_l0 ?_
  refine lv_lconst (v := 1) hx hb dX11_tries_3 k_l1 ?_
  obtain ⟨r3, hc4, hf⟩ := gB_s hf
  refine g_ki (is := []) (w1 := (wX11_in E)) (ws' := (wX11_tries E o_t a_t v_t_there v_t_wind v_t_force v_t_rains v_t_lost v_t_hours v_t_sights v_t_padMany v_t_acts v_t_blownMany v_t_badAct v_t_badWhy v_t_ruinAct v_t_ruinWho v_t_keptAt v_t_isWriting f_t_sightBreath f_t_sightFlew f_t_byFlew)) hw hA (g_rS hx hb hml hG hown hK hw (is := []) rfl (by decide) (mX11_in l E (Int32.toInt64 x1) 0 1 r3 hc4) wd_8_10 wd_8_11 wd_1_5 wd_8_12 hX11_in g_allgood ⟨rfl, rfl⟩ ⟨Nat.le_of_ble_eq_true rfl, Nat.le_of_ble_eq_true rfl⟩ ⟨Nat.zero_le _, Nat.zero_le _⟩ rfl hl.1 rfl (Nat.le_of_ble_eq_true rfl) dX11_tries_4) rfl rfl rfl (fun H locs hw => ?_)
  refine lv_if_ne (tgt := 13) hx hb dX11_tries_7 (by decide) (fun hc => ?_) (fun hc => ?_)
  · have hf := g_f hc hf
    refine lv_iconst (v := 1) hx hb dX11_tries_13 k_i1 ?_
    refine lv_istore_n (lv' := [(2, .int 1), (0, .ref o_t), (1, .int x1)]) hx hb dX11_tries_14 rfl hl (Nat.le_of_ble_eq_true rfl) rfl (fun ls hl => ?_)
    refine lv_aload_n hx hb dX11_tries_15 rfl (lv_at hl 1 rfl) ?_
    refine lv_iconst (v := 1) hx hb dX11_tries_16 k_i1 ?_
    obtain ⟨r5, hc6, hf⟩ := gB_s hf
    refine g_ki (is := [0, 1, 2, 3]) (w1 := (wX11_mostLeft E o_t a_t v_t_there v_t_wind v_t_force v_t_rains v_t_lost v_t_hours v_t_sights v_t_padMany v_t_acts v_t_blownMany v_t_badAct v_t_badWhy v_t_ruinAct v_t_ruinWho v_t_keptAt v_t_isWriting f_t_sightBreath f_t_sightFlew r5.2)) (ws' := (wX11_tries E o_t a_t v_t_there v_t_wind v_t_force v_t_rains v_t_lost v_t_hours v_t_sights v_t_padMany v_t_acts v_t_blownMany v_t_badAct v_t_badWhy v_t_ruinAct v_t_ruinWho v_t_keptAt v_t_isWriting f_t_sightBreath f_t_sightFlew r5.2)) hw hA (g_rV hx hb hml hG hown hK hw (is := [0, 1, 2, 3]) rfl (by decide) (mX11_mostLeft l E o_t a_t v_t_there v_t_wind v_t_force v_t_rains v_t_lost v_t_hours v_t_sights v_t_padMany v_t_acts v_t_blownMany v_t_badAct v_t_badWhy v_t_ruinAct v_t_ruinWho v_t_keptAt v_t_isWriting f_t_sightBreath f_t_sightFlew f_t_byFlew 1 r5.1 r5.2 hc6) wd_33_14 wd_33_15 wd_33_16 wd_1_5 wd_33_17 hX11_mostLeft g_allgood ⟨rfl, rfl⟩ ⟨Nat.le_of_ble_eq_true rfl, Nat.le_of_ble_eq_true rfl⟩ ⟨Nat.zero_le _, Nat.zero_le _⟩ (ci := 9) (q0 := 0) rfl rfl rfl rfl hl.1 rfl (Nat.le_of_ble_eq_true rfl) dX11_tries_17) rfl rfl rfl (fun H locs hw => ?_)
    refine lv_istore_n (lv' := [(3, .int r5.1), (2, .int 1), (0, .ref o_t), (1, .int x1)]) hx hb dX11_tries_20 rfl hl (Nat.le_of_ble_eq_true rfl) rfl (fun ls hl => ?_)
    refine lv_iconst (v := 2) hx hb dX11_tries_21 k_i2 ?_
    refine lv_istore (lv' := [(4, .int 2), (3, .int r5.1), (2, .int 1), (0, .ref o_t), (1, .int x1)]) hx hb dX11_tries_22 hl (Nat.le_of_ble_eq_true rfl) rfl (fun ls hl => ?_)
    exact B24 1000 r5.2 x1 1 r5.1 2 _ _ _ hf hw (lv_sub hl [3, 4, 2, 1, 0] rfl)
  · have hf := g_t hc hf
    refine lv_bipush (v := -2) hx hb dX11_tries_10 k_bm2 ?_
    exact hret1 (-2) f_t_byFlew _ _ _ _ hf hw dX11_tries_12
theorem hX11_gust : yX11_gust.cls = RX11 ∧ yX11_gust.cls ≠ "java/lang/invoke/MethodHandle" ∧ yX11_gust.cls ≠ "java/lang/invoke/VarHandle" ∧ (parseMethodDescriptor yX11_gust.desc).map (fun d => d.parameters.length) = some 0 := by decide +kernel
set_option maxHeartbeats 4000000 in
set_option maxRecDepth 100000 in
theorem mX11_gust (l : Launch) (E : gE) (o_t : Nat) (a_t : (Nat → Nat)) (v_t_there : Int32) (v_t_wind : Int32) (v_t_force : Int32) (v_t_rains : Int32) (v_t_lost : Int32) (v_t_hours : Int32) (v_t_sights : Int32) (v_t_padMany : Int32) (v_t_acts : Int32) (v_t_blownMany : Int32) (v_t_badAct : Int32) (v_t_badWhy : Int32) (v_t_ruinAct : Int32) (v_t_ruinWho : Int32) (v_t_keptAt : Int32) (v_t_isWriting : Int32) (f_t_ways : (Nat → Int64)) (f_t_waysThen : (Nat → Int64)) (z_t_ways : (Nat → Int64)) (z_t_waysThen : (Nat → Int64)) (hf : fX11_gust f_t_ways f_t_waysThen = some (z_t_ways, z_t_waysThen)) {sz : Nat} : gMv l yX11_gust (gW yX11_gust cX11_gust 4 none) ({ frames := 2, cells := 0, slots := 0, locals := 49 } : Room) E [.ref o_t] (wX11_gust E o_t a_t v_t_there v_t_wind v_t_force v_t_rains v_t_lost v_t_hours v_t_sights v_t_padMany v_t_acts v_t_blownMany v_t_badAct v_t_badWhy v_t_ruinAct v_t_ruinWho v_t_keptAt v_t_isWriting f_t_ways f_t_waysThen) sz (wX11_gust E o_t a_t v_t_there v_t_wind v_t_force v_t_rains v_t_lost v_t_hours v_t_sights v_t_padMany v_t_acts v_t_blownMany v_t_badAct v_t_badWhy v_t_ruinAct v_t_ruinWho v_t_keptAt v_t_isWriting z_t_ways z_t_waysThen) := by
  refine g_openV (own := RX11) (by decide) rfl (Nat.le_of_ble_eq_true rfl) (fun p e s m args below meth cd Q A hx hb hml hown hG hK hA hret hw ls hl => ?_)
  have hl : lv_has ls 4 [(0, .ref o_t)] := hl
  have hret1 : ∀ (f_t_ways : (Nat → Int64)) (f_t_waysThen : (Nat → Int64)) (H : Heap) (locs : List Loc) (pc : Nat) (ls : Array Slot), some (f_t_ways, f_t_waysThen) = some (z_t_ways, z_t_waysThen) → gS E A s.heap (wX11_gust E o_t a_t v_t_there v_t_wind v_t_force v_t_rains v_t_lost v_t_hours v_t_sights v_t_padMany v_t_acts v_t_blownMany v_t_badAct v_t_badWhy v_t_ruinAct v_t_ruinWho v_t_keptAt v_t_isWriting f_t_ways f_t_waysThen) H locs → decode cX11_gust pc = .ok (.return_, 1) → W p l e ({ frames := 2, cells := 0, slots := 0, locals := 49 } : Room) s m args below meth cd H locs 0 0 Q (F0 m pc ls []) := by
    intro f_t_ways f_t_waysThen H locs pc ls h hw hd
    cases h
    exact hret H locs pc ls hw hd
  have B33 : ∀ (K2 : (Nat → Int64) → (Nat → Int64) → Int32 → Option ((Nat → Int64) × (Nat → Int64))) (hK2 : ∀ (f_t_ways : (Nat → Int64)) (f_t_waysThen : (Nat → Int64)) (x1 : Int32) (H : Heap) (locs : List Loc) (ls : Array Slot), K2 f_t_ways f_t_waysThen x1 = some (z_t_ways, z_t_waysThen) → gS E A s.heap (wX11_gust E o_t a_t v_t_there v_t_wind v_t_force v_t_rains v_t_lost v_t_hours v_t_sights v_t_padMany v_t_acts v_t_blownMany v_t_badAct v_t_badWhy v_t_ruinAct v_t_ruinWho v_t_keptAt v_t_isWriting f_t_ways f_t_waysThen) H locs → lv_has ls 4 [(0, .ref o_t), (1, .int x1)] → W p l e ({ frames := 2, cells := 0, slots := 0, locals := 49 } : Room) s m args below meth cd H locs 0 0 Q (F0 m 2 ls [])), ∀ (f_t_ways : (Nat → Int64)) (f_t_waysThen : (Nat → Int64)) (x1 : Int32) (s1 : Int32) (s2 : Int64) (H : Heap) (locs : List Loc) (ls : Array Slot), fX11_gust_b33 K2 f_t_ways f_t_waysThen x1 s1 s2 = some (z_t_ways, z_t_waysThen) → gS E A s.heap (wX11_gust E o_t a_t v_t_there v_t_wind v_t_force v_t_rains v_t_lost v_t_hours v_t_sights v_t_padMany v_t_acts v_t_blownMany v_t_badAct v_t_badWhy v_t_ruinAct v_t_ruinWho v_t_keptAt v_t_isWriting f_t_ways f_t_waysThen) H locs → lv_has ls 4 [(0, .ref o_t), (1, .int x1)] → W p l e ({ frames := 2, cells := 0, slots := 0, locals := 49 } : Room) s m args below meth cd H locs 0 0 Q (F0 m 33 ls [.long s2, .int s1, .ref (a_t 31)]) := by
    intro K2 hK2 f_t_ways f_t_waysThen x1 s1 s2 H locs ls hf hw hl
    obtain ⟨hi1, hf⟩ := gA_s hf
    refine g_last (ws' := (wX11_gust E o_t a_t v_t_there v_t_wind v_t_force v_t_rains v_t_lost v_t_hours v_t_sights v_t_padMany v_t_acts v_t_blownMany v_t_badAct v_t_badWhy v_t_ruinAct v_t_ruinWho v_t_keptAt v_t_isWriting f_t_ways (vp_updL f_t_waysThen (Int32.toNatClampNeg s1) s2))) hx hb hK hw 2 rfl hi1 rfl dX11_gust_33 (fun H locs hw => ?_)
    refine lv_iinc (lv' := [(1, .int (x1 + 1)), (0, .ref o_t)]) hx hb dX11_gust_34 hl (k := 1) rfl (k_inc1 _) (Nat.le_of_ble_eq_true rfl) rfl (fun ls hl => ?_)
    refine lv_goto (tgt := 2) hx hb dX11_gust_37 (by decide) ?_
    exact hK2 f_t_ways (vp_updL f_t_waysThen (Int32.toNatClampNeg s1) s2) (x1 + 1) _ _ _ hf hw (lv_sub hl [1, 0] rfl)
  have B76 : ∀ (K50 : (Nat → Int64) → (Nat → Int64) → Int32 → Int32 → Option ((Nat → Int64) × (Nat → Int64))) (hK50 : ∀ (f_t_ways : (Nat → Int64)) (f_t_waysThen : (Nat → Int64)) (x1 : Int32) (x2 : Int32) (H : Heap) (locs : List Loc) (ls : Array Slot), K50 f_t_ways f_t_waysThen x1 x2 = some (z_t_ways, z_t_waysThen) → gS E A s.heap (wX11_gust E o_t a_t v_t_there v_t_wind v_t_force v_t_rains v_t_lost v_t_hours v_t_sights v_t_padMany v_t_acts v_t_blownMany v_t_badAct v_t_badWhy v_t_ruinAct v_t_ruinWho v_t_keptAt v_t_isWriting f_t_ways f_t_waysThen) H locs → lv_has ls 4 [(0, .ref o_t), (1, .int x1), (2, .int x2)] → W p l e ({ frames := 2, cells := 0, slots := 0, locals := 49 } : Room) s m args below meth cd H locs 0 0 Q (F0 m 50 ls [])), ∀ (f_t_ways : (Nat → Int64)) (f_t_waysThen : (Nat → Int64)) (x1 : Int32) (x2 : Int32) (s1 : Int32) (H : Heap) (locs : List Loc) (ls : Array Slot), fX11_gust_b76 K50 f_t_ways f_t_waysThen x1 x2 s1 = some (z_t_ways, z_t_waysThen) → gS E A s.heap (wX11_gust E o_t a_t v_t_there v_t_wind v_t_force v_t_rains v_t_lost v_t_hours v_t_sights v_t_padMany v_t_acts v_t_blownMany v_t_badAct v_t_badWhy v_t_ruinAct v_t_ruinWho v_t_keptAt v_t_isWriting f_t_ways f_t_waysThen) H locs → lv_has ls 4 [(0, .ref o_t), (1, .int x1), (2, .int x2)] → W p l e ({ frames := 2, cells := 0, slots := 0, locals := 49 } : Room) s m args below meth cd H locs 0 0 Q (F0 m 76 ls [.int s1, .ref (a_t 31)]) := by
    intro K50 hK50 f_t_ways f_t_waysThen x1 x2 s1 H locs ls hf hw hl
    refine lv_dup2_11 hx hb dX11_gust_76 rfl rfl ?_
    obtain ⟨hi2, hf⟩ := gA_s hf
    refine g_lald hx hb hK hw 2 rfl hi2 dX11_gust_77 ?_
    refine lv_aload_n hx hb dX11_gust_78 rfl (lv_at hl 0 rfl) ?_
    refine g_get hx hb hG hown hK hw inlX11 (ci := 9) rfl 0 30 (Nat.le_of_ble_eq_true rfl) rfl rfl wd_6_14 dX11_gust_79 ?_
    refine lv_iload_n hx hb dX11_gust_82 rfl (lv_at hl 1 rfl) ?_
    obtain ⟨hi3, hf⟩ := gA_s hf
    refine g_lald hx hb hK hw 1 rfl hi3 dX11_gust_83 ?_
    refine lv_ladd hx hb dX11_gust_84 ?_
    obtain ⟨hi4, hf⟩ := gA_s hf
    refine g_last (ws' := (wX11_gust E o_t a_t v_t_there v_t_wind v_t_force v_t_rains v_t_lost v_t_hours v_t_sights v_t_padMany v_t_acts v_t_blownMany v_t_badAct v_t_badWhy v_t_ruinAct v_t_ruinWho v_t_keptAt v_t_isWriting f_t_ways (vp_updL f_t_waysThen (Int32.toNatClampNeg s1) ((f_t_waysThen (Int32.toNatClampNeg s1)) + (f_t_ways (Int32.toNatClampNeg x1)))))) hx hb hK hw 2 rfl hi4 rfl dX11_gust_85 (fun H locs hw => ?_)
    refine lv_iinc (lv' := [(2, .int (x2 + 1)), (0, .ref o_t), (1, .int x1)]) hx hb dX11_gust_86 hl (k := 2) rfl (k_inc1 _) (Nat.le_of_ble_eq_true rfl) rfl (fun ls hl => ?_)
    refine lv_goto (tgt := 50) hx hb dX11_gust_89 (by decide) ?_
    exact hK50 f_t_ways (vp_updL f_t_waysThen (Int32.toNatClampNeg s1) ((f_t_waysThen (Int32.toNatClampNeg s1)) + (f_t_ways (Int32.toNatClampNeg x1)))) x1 (x2 + 1) _ _ _ hf hw (lv_sub hl [1, 2, 0] rfl)
  have B50 : ∀ (K42 : (Nat → Int64) → (Nat → Int64) → Int32 → Option ((Nat → Int64) × (Nat → Int64))) (hK42 : ∀ (f_t_ways : (Nat → Int64)) (f_t_waysThen : (Nat → Int64)) (x1 : Int32) (H : Heap) (locs : List Loc) (ls : Array Slot), K42 f_t_ways f_t_waysThen x1 = some (z_t_ways, z_t_waysThen) → gS E A s.heap (wX11_gust E o_t a_t v_t_there v_t_wind v_t_force v_t_rains v_t_lost v_t_hours v_t_sights v_t_padMany v_t_acts v_t_blownMany v_t_badAct v_t_badWhy v_t_ruinAct v_t_ruinWho v_t_keptAt v_t_isWriting f_t_ways f_t_waysThen) H locs → lv_has ls 4 [(0, .ref o_t), (1, .int x1)] → W p l e ({ frames := 2, cells := 0, slots := 0, locals := 49 } : Room) s m args below meth cd H locs 0 0 Q (F0 m 42 ls [])), ∀ n : Nat, ∀ (f_t_ways : (Nat → Int64)) (f_t_waysThen : (Nat → Int64)) (x1 : Int32) (x2 : Int32) (H : Heap) (locs : List Loc) (ls : Array Slot), fX11_gust_b50 K42 n f_t_ways f_t_waysThen x1 x2 = some (z_t_ways, z_t_waysThen) → gS E A s.heap (wX11_gust E o_t a_t v_t_there v_t_wind v_t_force v_t_rains v_t_lost v_t_hours v_t_sights v_t_padMany v_t_acts v_t_blownMany v_t_badAct v_t_badWhy v_t_ruinAct v_t_ruinWho v_t_keptAt v_t_isWriting f_t_ways f_t_waysThen) H locs → lv_has ls 4 [(0, .ref o_t), (1, .int x1), (2, .int x2)] → W p l e ({ frames := 2, cells := 0, slots := 0, locals := 49 } : Room) s m args below meth cd H locs 0 0 Q (F0 m 50 ls []) := by
    intro K42 hK42
    intro n
    induction n with
    | zero => intro f_t_ways f_t_waysThen x1 x2 H locs ls hf hw hl; exact g_no hf
    | succ n ih =>
      intro f_t_ways f_t_waysThen x1 x2 H locs ls hf hw hl
      refine lv_iload_n hx hb dX11_gust_50 rfl (lv_at hl 2 rfl) ?_
      refine lv_iconst (v := 4) hx hb dX11_gust_51 k_i4 ?_
      refine lv_icmp_ge (tgt := 92) hx hb dX11_gust_52 (by decide) (fun hc => ?_) (fun hc => ?_)
      · have hf := g_t hc hf
        refine lv_iinc (lv' := [(1, .int (x1 + 1)), (0, .ref o_t), (2, .int x2)]) hx hb dX11_gust_92 hl (k := 1) rfl (k_inc1 _) (Nat.le_of_ble_eq_true rfl) rfl (fun ls hl => ?_)
        refine lv_goto (tgt := 42) hx hb dX11_gust_95 (by decide) ?_
        exact hK42 f_t_ways f_t_waysThen (x1 + 1) _ _ _ hf hw (lv_sub hl [1, 0] rfl)
      · have hf := g_f hc hf
        refine lv_iload_n hx hb dX11_gust_55 rfl (lv_at hl 1 rfl) ?_
        refine lv_iload_n hx hb dX11_gust_56 rfl (lv_at hl 2 rfl) ?_
        refine lv_iconst (v := 1) hx hb dX11_gust_57 k_i1 ?_
        obtain ⟨r5, hc6, hf⟩ := gB_s hf
        refine g_ki (is := []) (w1 := (wX11_onBy E)) (ws' := (wX11_gust E o_t a_t v_t_there v_t_wind v_t_force v_t_rains v_t_lost v_t_hours v_t_sights v_t_padMany v_t_acts v_t_blownMany v_t_badAct v_t_badWhy v_t_ruinAct v_t_ruinWho v_t_keptAt v_t_isWriting f_t_ways f_t_waysThen)) hw hA (g_rS hx hb hml hG hown hK hw (is := []) rfl (by decide) (mX11_onBy l E x1 x2 1 r5 hc6) wd_20_20 wd_20_21 wd_1_5 wd_20_22 hX11_onBy g_allgood ⟨rfl, rfl⟩ ⟨Nat.le_of_ble_eq_true rfl, Nat.le_of_ble_eq_true rfl⟩ ⟨Nat.zero_le _, Nat.zero_le _⟩ rfl hl.1 rfl (Nat.le_of_ble_eq_true rfl) dX11_gust_58) rfl rfl rfl (fun H locs hw => ?_)
        refine lv_istore_n (lv' := [(3, .int r5), (0, .ref o_t), (1, .int x1), (2, .int x2)]) hx hb dX11_gust_61 rfl hl (Nat.le_of_ble_eq_true rfl) rfl (fun ls hl => ?_)
        refine lv_aload_n hx hb dX11_gust_62 rfl (lv_at hl 1 rfl) ?_
        refine g_get hx hb hG hown hK hw inlX11 (ci := 9) rfl 0 31 (Nat.le_of_ble_eq_true rfl) rfl rfl wd_6_15 dX11_gust_63 ?_
        refine lv_iload_n hx hb dX11_gust_66 rfl (lv_at hl 0 rfl) ?_
        refine lv_if_ge (tgt := 75) hx hb dX11_gust_67 (by decide) (fun hc => ?_) (fun hc => ?_)
        · have hf := g_t hc hf
          refine lv_iload_n hx hb dX11_gust_75 rfl (lv_at hl 0 rfl) ?_
          exact B76 (fX11_gust_b50 K42 n) ih f_t_ways f_t_waysThen x1 x2 r5 _ _ _ hf hw (lv_sub hl [1, 2, 3] rfl)
        · have hf := g_f hc hf
          refine lv_bipush (v := 36) hx hb dX11_gust_70 k_b36 ?_
          refine lv_goto (tgt := 76) hx hb dX11_gust_72 (by decide) ?_
          exact B76 (fX11_gust_b50 K42 n) ih f_t_ways f_t_waysThen x1 x2 36 _ _ _ hf hw (lv_sub hl [1, 2, 3] rfl)
  have B100 : ∀ n : Nat, ∀ (f_t_ways : (Nat → Int64)) (f_t_waysThen : (Nat → Int64)) (x1 : Int32) (H : Heap) (locs : List Loc) (ls : Array Slot), fX11_gust_b100 n f_t_ways f_t_waysThen x1 = some (z_t_ways, z_t_waysThen) → gS E A s.heap (wX11_gust E o_t a_t v_t_there v_t_wind v_t_force v_t_rains v_t_lost v_t_hours v_t_sights v_t_padMany v_t_acts v_t_blownMany v_t_badAct v_t_badWhy v_t_ruinAct v_t_ruinWho v_t_keptAt v_t_isWriting f_t_ways f_t_waysThen) H locs → lv_has ls 4 [(0, .ref o_t), (1, .int x1)] → W p l e ({ frames := 2, cells := 0, slots := 0, locals := 49 } : Room) s m args below meth cd H locs 0 0 Q (F0 m 100 ls []) := by
    intro n
    induction n with
    | zero => intro f_t_ways f_t_waysThen x1 H locs ls hf hw hl; exact g_no hf
    | succ n ih =>
      intro f_t_ways f_t_waysThen x1 H locs ls hf hw hl
      refine lv_iload_n hx hb dX11_gust_100 rfl (lv_at hl 1 rfl) ?_
      refine lv_bipush (v := 36) hx hb dX11_gust_101 k_b36 ?_
      refine lv_icmp_gt (tgt := 124) hx hb dX11_gust_103 (by decide) (fun hc => ?_) (fun hc => ?_)
      · have hf := g_t hc hf
        exact hret1 f_t_ways f_t_waysThen _ _ _ _ hf hw dX11_gust_124
      · have hf := g_f hc hf
        refine lv_aload_n hx hb dX11_gust_106 rfl (lv_at hl 0 rfl) ?_
        refine g_get hx hb hG hown hK hw inlX11 (ci := 9) rfl 0 30 (Nat.le_of_ble_eq_true rfl) rfl rfl wd_6_14 dX11_gust_107 ?_
        refine lv_iload_n hx hb dX11_gust_110 rfl (lv_at hl 1 rfl) ?_
        refine lv_aload_n hx hb dX11_gust_111 rfl (lv_at hl 0 rfl) ?_
        refine g_get hx hb hG hown hK hw inlX11 (ci := 9) rfl 0 31 (Nat.le_of_ble_eq_true rfl) rfl rfl wd_6_15 dX11_gust_112 ?_
        refine lv_iload_n hx hb dX11_gust_115 rfl (lv_at hl 1 rfl) ?_
        obtain ⟨hi7, hf⟩ := gA_s hf
        refine g_lald hx hb hK hw 2 rfl hi7 dX11_gust_116 ?_
        obtain ⟨hi8, hf⟩ := gA_s hf
        refine g_last (ws' := (wX11_gust E o_t a_t v_t_there v_t_wind v_t_force v_t_rains v_t_lost v_t_hours v_t_sights v_t_padMany v_t_acts v_t_blownMany v_t_badAct v_t_badWhy v_t_ruinAct v_t_ruinWho v_t_keptAt v_t_isWriting (vp_updL f_t_ways (Int32.toNatClampNeg x1) (f_t_waysThen (Int32.toNatClampNeg x1))) f_t_waysThen)) hx hb hK hw 1 rfl hi8 rfl dX11_gust_117 (fun H locs hw => ?_)
        refine lv_iinc (lv' := [(1, .int (x1 + 1)), (0, .ref o_t)]) hx hb dX11_gust_118 hl (k := 1) rfl (k_inc1 _) (Nat.le_of_ble_eq_true rfl) rfl (fun ls hl => ?_)
        refine lv_goto (tgt := 100) hx hb dX11_gust_121 (by decide) ?_
        exact ih (vp_updL f_t_ways (Int32.toNatClampNeg x1) (f_t_waysThen (Int32.toNatClampNeg x1))) f_t_waysThen (x1 + 1) _ _ _ hf hw (lv_sub hl [1, 0] rfl)
  have B42 : ∀ n : Nat, ∀ (f_t_ways : (Nat → Int64)) (f_t_waysThen : (Nat → Int64)) (x1 : Int32) (H : Heap) (locs : List Loc) (ls : Array Slot), fX11_gust_b42 n f_t_ways f_t_waysThen x1 = some (z_t_ways, z_t_waysThen) → gS E A s.heap (wX11_gust E o_t a_t v_t_there v_t_wind v_t_force v_t_rains v_t_lost v_t_hours v_t_sights v_t_padMany v_t_acts v_t_blownMany v_t_badAct v_t_badWhy v_t_ruinAct v_t_ruinWho v_t_keptAt v_t_isWriting f_t_ways f_t_waysThen) H locs → lv_has ls 4 [(0, .ref o_t), (1, .int x1)] → W p l e ({ frames := 2, cells := 0, slots := 0, locals := 49 } : Room) s m args below meth cd H locs 0 0 Q (F0 m 42 ls []) := by
    intro n
    induction n with
    | zero => intro f_t_ways f_t_waysThen x1 H locs ls hf hw hl; exact g_no hf
    | succ n ih =>
      intro f_t_ways f_t_waysThen x1 H locs ls hf hw hl
      refine lv_iload_n hx hb dX11_gust_42 rfl (lv_at hl 1 rfl) ?_
      refine lv_bipush (v := 36) hx hb dX11_gust_43 k_b36 ?_
      refine lv_icmp_ge (tgt := 98) hx hb dX11_gust_45 (by decide) (fun hc => ?_) (fun hc => ?_)
      · have hf := g_t hc hf
        refine lv_iconst (v := 0) hx hb dX11_gust_98 k_i0 ?_
        refine lv_istore_n (lv' := [(1, .int 0), (0, .ref o_t)]) hx hb dX11_gust_99 rfl hl (Nat.le_of_ble_eq_true rfl) rfl (fun ls hl => ?_)
        exact B100 1000 f_t_ways f_t_waysThen 0 _ _ _ hf hw (lv_sub hl [1, 0] rfl)
      · have hf := g_f hc hf
        refine lv_iconst (v := 0) hx hb dX11_gust_48 k_i0 ?_
        refine lv_istore_n (lv' := [(2, .int 0), (0, .ref o_t), (1, .int x1)]) hx hb dX11_gust_49 rfl hl (Nat.le_of_ble_eq_true rfl) rfl (fun ls hl => ?_)
        exact B50 (fX11_gust_b42 n) ih 1000 f_t_ways f_t_waysThen x1 0 _ _ _ hf hw (lv_sub hl [1, 2, 0] rfl)
  have B2 : ∀ n : Nat, ∀ (f_t_ways : (Nat → Int64)) (f_t_waysThen : (Nat → Int64)) (x1 : Int32) (H : Heap) (locs : List Loc) (ls : Array Slot), fX11_gust_b2 n f_t_ways f_t_waysThen x1 = some (z_t_ways, z_t_waysThen) → gS E A s.heap (wX11_gust E o_t a_t v_t_there v_t_wind v_t_force v_t_rains v_t_lost v_t_hours v_t_sights v_t_padMany v_t_acts v_t_blownMany v_t_badAct v_t_badWhy v_t_ruinAct v_t_ruinWho v_t_keptAt v_t_isWriting f_t_ways f_t_waysThen) H locs → lv_has ls 4 [(0, .ref o_t), (1, .int x1)] → W p l e ({ frames := 2, cells := 0, slots := 0, locals := 49 } : Room) s m args below meth cd H locs 0 0 Q (F0 m 2 ls []) := by
    intro n
    induction n with
    | zero => intro f_t_ways f_t_waysThen x1 H locs ls hf hw hl; exact g_no hf
    | succ n ih =>
      intro f_t_ways f_t_waysThen x1 H locs ls hf hw hl
      refine lv_iload_n hx hb dX11_gust_2 rfl (lv_at hl 1 rfl) ?_
      refine lv_bipush (v := 36) hx hb dX11_gust_3 k_b36 ?_
      refine lv_icmp_gt (tgt := 40) hx hb dX11_gust_5 (by decide) (fun hc => ?_) (fun hc => ?_)
      · have hf := g_t hc hf
        refine lv_iconst (v := 0) hx hb dX11_gust_40 k_i0 ?_
        refine lv_istore_n (lv' := [(1, .int 0), (0, .ref o_t)]) hx hb dX11_gust_41 rfl hl (Nat.le_of_ble_eq_true rfl) rfl (fun ls hl => ?_)
        exact B42 1000 f_t_ways f_t_waysThen 0 _ _ _ hf hw (lv_sub hl [1, 0] rfl)
      · have hf := g_f hc hf
        refine lv_aload_n hx hb dX11_gust_8 rfl (lv_at hl 0 rfl) ?_
        refine g_get hx hb hG hown hK hw inlX11 (ci := 9) rfl 0 31 (Nat.le_of_ble_eq_true rfl) rfl rfl wd_6_15 dX11_gust_9 ?_
        refine lv_iload_n hx hb dX11_gust_12 rfl (lv_at hl 1 rfl) ?_
        refine lv_iload_n hx hb dX11_gust_13 rfl (lv_at hl 1 rfl) ?_
        refine lv_bipush (v := 36) hx hb dX11_gust_14 k_b36 ?_
        refine lv_icmp_ne (tgt := 32) hx hb dX11_gust_16 (by decide) (fun hc => ?_) (fun hc => ?_)
        · have hf := g_f hc hf
          refine lv_lconst (v := 0) hx hb dX11_gust_32 k_l0 ?_
          exact B33 (fX11_gust_b2 n) ih f_t_ways f_t_waysThen x1 x1 0 _ _ _ hf hw (lv_sub hl [0, 1] rfl)
        · have hf := g_t hc hf
          refine lv_ldc2 hx hb hown (hG _ wd_34_18) dX11_gust_19 ?_
          refine lv_aload_n hx hb dX11_gust_22 rfl (lv_at hl 0 rfl) ?_
          refine g_get hx hb hG hown hK hw inlX11 (ci := 9) rfl 0 30 (Nat.le_of_ble_eq_true rfl) rfl rfl wd_6_14 dX11_gust_23 ?_
          refine lv_iload_n hx hb dX11_gust_26 rfl (lv_at hl 1 rfl) ?_
          obtain ⟨hi9, hf⟩ := gA_s hf
          refine g_lald hx hb hK hw 1 rfl hi9 dX11_gust_27 ?_
          refine lv_lmul hx hb dX11_gust_28 ?_
          refine lv_goto (tgt := 33) hx hb dX11_gust_29 (by decide) ?_
          exact B33 (fX11_gust_b2 n) ih f_t_ways f_t_waysThen x1 x1 (4 * (f_t_ways (Int32.toNatClampNeg x1))) _ _ _ hf hw (lv_sub hl [0, 1] rfl)
  refine lv_iconst (v := 0) hx hb dX11_gust_0 k_i0 ?_
  refine lv_istore_n (lv' := [(1, .int 0), (0, .ref o_t)]) hx hb dX11_gust_1 rfl hl (Nat.le_of_ble_eq_true rfl) rfl (fun ls hl => ?_)
  exact B2 1000 f_t_ways f_t_waysThen 0 _ _ _ hf hw (lv_sub hl [1, 0] rfl)
theorem hX11_lowest : yX11_lowest.cls ≠ "java/lang/invoke/MethodHandle" ∧ yX11_lowest.cls ≠ "java/lang/invoke/VarHandle" ∧ (parseMethodDescriptor yX11_lowest.desc).map (fun d => d.parameters.length) = some 3 := by decide +kernel
set_option maxHeartbeats 4000000 in
set_option maxRecDepth 100000 in
theorem mX11_lowest (l : Launch) (E : gE) (x0 : Int64) (x2 : Int64) (x4 : Int32) (rv : Int64) (hf : fX11_lowest x0 x2 x4 = some rv) {sz : Nat} : gMl l yX11_lowest (gW yX11_lowest cX11_lowest 11 (some .long)) ({ frames := 0, cells := 0, slots := 0, locals := 0 } : Room) E [.long x0, .long x2, .int x4] (wX11_lowest E) sz rv (wX11_lowest E) := by
  refine g_openL (own := RX11) (by decide) rfl (Nat.le_of_ble_eq_true rfl) (fun p e s m args below meth cd Q A hx hb hml hown hG hK hA hret hw ls hl => ?_)
  have hl : lv_has ls 11 [(0, .long x0), (2, .long x2), (4, .int x4)] := hl
  have hret1 : ∀ (v : Int64)  (H : Heap) (locs : List Loc) (pc : Nat) (ls : Array Slot), some v = some rv → gS E A s.heap (wX11_lowest E) H locs → decode cX11_lowest pc = .ok (.lreturn, 1) → W p l e ({ frames := 0, cells := 0, slots := 0, locals := 0 } : Room) s m args below meth cd H locs 0 0 Q (F0 m pc ls [.long v]) := by
    intro v  H locs pc ls h hw hd
    cases h
    exact hret H locs pc ls hw hd
  have B47 : ∀ (s0 : Int64) (H : Heap) (locs : List Loc) (ls : Array Slot), fX11_lowest_b47 s0 = some rv → gS E A s.heap (wX11_lowest E) H locs → lv_has ls 11 [] → W p l e ({ frames := 0, cells := 0, slots := 0, locals := 0 } : Room) s m args below meth cd H locs 0 0 Q (F0 m 47 ls [.long s0]) := by
    intro  s0 H locs ls hf hw hl
    exact hret1 s0 _ _ _ _ hf hw dX11_lowest_47
  have B6 : ∀ n : Nat, ∀ (x0 : Int64) (x2 : Int64) (x4 : Int32) (x5 : Int64) (x7 : Int64) (H : Heap) (locs : List Loc) (ls : Array Slot), fX11_lowest_b6 n x0 x2 x4 x5 x7 = some rv → gS E A s.heap (wX11_lowest E) H locs → lv_has ls 11 [(0, .long x0), (2, .long x2), (4, .int x4), (5, .long x5), (7, .long x7)] → W p l e ({ frames := 0, cells := 0, slots := 0, locals := 0 } : Room) s m args below meth cd H locs 0 0 Q (F0 m 6 ls []) := by
    intro n
    induction n with
    | zero => intro x0 x2 x4 x5 x7 H locs ls hf hw hl; exact g_no hf
    | succ n ih =>
      intro x0 x2 x4 x5 x7 H locs ls hf hw hl
      refine lv_lload hx hb dX11_lowest_6 (lv_at hl 4 rfl) ?_
      refine lv_lconst (v := 0) hx hb dX11_lowest_8 k_l0 ?_
      refine W.lcmp hx hb dX11_lowest_9 ?_
      refine lv_if_eq (tgt := 31) hx hb dX11_lowest_10 (by decide) (fun hc => ?_) (fun hc => ?_)
      · have hf := g_t hc hf
        refine lv_iload hx hb dX11_lowest_31 (lv_at hl 2 rfl) ?_
        refine lv_if_ne (tgt := 43) hx hb dX11_lowest_33 (by decide) (fun hc => ?_) (fun hc => ?_)
        · have hf := g_f hc hf
          refine lv_lload_n hx hb dX11_lowest_43 rfl (lv_at hl 1 rfl) ?_
          refine lv_lload hx hb dX11_lowest_44 (lv_at hl 3 rfl) ?_
          obtain ⟨hd1, hf⟩ := gDl_s hf
          refine lv_ldiv hx hb dX11_lowest_46 hd1 ?_
          exact B47 (x2 / x5) _ _ _ hf hw (lv_sub hl [] rfl)
        · have hf := g_t hc hf
          refine lv_lload_n hx hb dX11_lowest_36 rfl (lv_at hl 0 rfl) ?_
          refine lv_lload hx hb dX11_lowest_37 (lv_at hl 3 rfl) ?_
          obtain ⟨hd2, hf⟩ := gDl_s hf
          refine lv_ldiv hx hb dX11_lowest_39 hd2 ?_
          refine lv_goto (tgt := 47) hx hb dX11_lowest_40 (by decide) ?_
          exact B47 (x0 / x5) _ _ _ hf hw (lv_sub hl [] rfl)
      · have hf := g_f hc hf
        refine lv_lload hx hb dX11_lowest_13 (lv_at hl 3 rfl) ?_
        refine lv_lload hx hb dX11_lowest_15 (lv_at hl 4 rfl) ?_
        obtain ⟨hd3, hf⟩ := gDl_s hf
        refine lv_lrem hx hb dX11_lowest_17 hd3 ?_
        refine lv_lstore (lv' := [(9, .long (x5 - x5 / x7 * x7)), (0, .long x0), (2, .long x2), (4, .int x4), (5, .long x5), (7, .long x7)]) hx hb dX11_lowest_18 hl (Nat.le_of_ble_eq_true rfl) rfl (fun ls hl => ?_)
        refine lv_lload hx hb dX11_lowest_20 (lv_at hl 5 rfl) ?_
        refine lv_lstore (lv' := [(5, .long x7), (9, .long (x5 - x5 / x7 * x7)), (0, .long x0), (2, .long x2), (4, .int x4), (7, .long x7)]) hx hb dX11_lowest_22 hl (Nat.le_of_ble_eq_true rfl) rfl (fun ls hl => ?_)
        refine lv_lload hx hb dX11_lowest_24 (lv_at hl 1 rfl) ?_
        refine lv_lstore (lv' := [(7, .long (x5 - x5 / x7 * x7)), (5, .long x7), (9, .long (x5 - x5 / x7 * x7)), (0, .long x0), (2, .long x2), (4, .int x4)]) hx hb dX11_lowest_26 hl (Nat.le_of_ble_eq_true rfl) rfl (fun ls hl => ?_)
        refine lv_goto (tgt := 6) hx hb dX11_lowest_28 (by decide) ?_
        exact ih x0 x2 x4 x7 (x5 - x5 / x7 * x7) _ _ _ hf hw (lv_sub hl [3, 4, 5, 1, 0] rfl)
  refine lv_lload_n hx hb dX11_lowest_0 rfl (lv_at hl 1 rfl) ?_
  refine lv_lstore (lv' := [(5, .long x2), (0, .long x0), (2, .long x2), (4, .int x4)]) hx hb dX11_lowest_1 hl (Nat.le_of_ble_eq_true rfl) rfl (fun ls hl => ?_)
  refine lv_lload_n hx hb dX11_lowest_3 rfl (lv_at hl 1 rfl) ?_
  refine lv_lstore (lv' := [(7, .long x0), (5, .long x2), (0, .long x0), (2, .long x2), (4, .int x4)]) hx hb dX11_lowest_4 hl (Nat.le_of_ble_eq_true rfl) rfl (fun ls hl => ?_)
  exact B6 1000 x0 x2 x4 x2 x0 _ _ _ hf hw (lv_sub hl [2, 3, 4, 1, 0] rfl)
theorem hX11_gusts : yX11_gusts.cls = RX11 ∧ yX11_gusts.cls ≠ "java/lang/invoke/MethodHandle" ∧ yX11_gusts.cls ≠ "java/lang/invoke/VarHandle" ∧ (parseMethodDescriptor yX11_gusts.desc).map (fun d => d.parameters.length) = some 4 := by decide +kernel
set_option maxHeartbeats 4000000 in
set_option maxRecDepth 100000 in
theorem mX11_gusts (l : Launch) (E : gE) (o_t : Nat) (a_t : (Nat → Nat)) (v_t_there : Int32) (v_t_wind : Int32) (v_t_force : Int32) (v_t_rains : Int32) (v_t_lost : Int32) (v_t_hours : Int32) (v_t_sights : Int32) (v_t_padMany : Int32) (v_t_acts : Int32) (v_t_blownMany : Int32) (v_t_badAct : Int32) (v_t_badWhy : Int32) (v_t_ruinAct : Int32) (v_t_ruinWho : Int32) (v_t_keptAt : Int32) (v_t_isWriting : Int32) (f_t_ways : (Nat → Int64)) (f_t_waysThen : (Nat → Int64)) (x1 : Int32) (x2 : Int32) (x3 : Int32) (x4 : Int32) (rv : Int64) (z_t_ways : (Nat → Int64)) (z_t_waysThen : (Nat → Int64)) (hf : fX11_gusts f_t_ways f_t_waysThen x1 x2 x3 x4 = some (rv, z_t_ways, z_t_waysThen)) {sz : Nat} : gMl l yX11_gusts (gW yX11_gusts cX11_gusts 8 (some .long)) ({ frames := 3, cells := 0, slots := 0, locals := 72 } : Room) E [.ref o_t, .int x1, .int x2, .int x3, .int x4] (wX11_gusts E o_t a_t v_t_there v_t_wind v_t_force v_t_rains v_t_lost v_t_hours v_t_sights v_t_padMany v_t_acts v_t_blownMany v_t_badAct v_t_badWhy v_t_ruinAct v_t_ruinWho v_t_keptAt v_t_isWriting f_t_ways f_t_waysThen) sz rv (wX11_gusts E o_t a_t v_t_there v_t_wind v_t_force v_t_rains v_t_lost v_t_hours v_t_sights v_t_padMany v_t_acts v_t_blownMany v_t_badAct v_t_badWhy v_t_ruinAct v_t_ruinWho v_t_keptAt v_t_isWriting z_t_ways z_t_waysThen) := by
  refine g_openL (own := RX11) (by decide) rfl (Nat.le_of_ble_eq_true rfl) (fun p e s m args below meth cd Q A hx hb hml hown hG hK hA hret hw ls hl => ?_)
  have hl : lv_has ls 8 [(0, .ref o_t), (1, .int x1), (2, .int x2), (3, .int x3), (4, .int x4)] := hl
  have hret1 : ∀ (v : Int64) (f_t_ways : (Nat → Int64)) (f_t_waysThen : (Nat → Int64)) (H : Heap) (locs : List Loc) (pc : Nat) (ls : Array Slot), some (v, f_t_ways, f_t_waysThen) = some (rv, z_t_ways, z_t_waysThen) → gS E A s.heap (wX11_gusts E o_t a_t v_t_there v_t_wind v_t_force v_t_rains v_t_lost v_t_hours v_t_sights v_t_padMany v_t_acts v_t_blownMany v_t_badAct v_t_badWhy v_t_ruinAct v_t_ruinWho v_t_keptAt v_t_isWriting f_t_ways f_t_waysThen) H locs → decode cX11_gusts pc = .ok (.lreturn, 1) → W p l e ({ frames := 3, cells := 0, slots := 0, locals := 72 } : Room) s m args below meth cd H locs 0 0 Q (F0 m pc ls [.long v]) := by
    intro v f_t_ways f_t_waysThen H locs pc ls h hw hd
    cases h
    exact hret H locs pc ls hw hd
  have B44 : ∀ (f_t_ways : (Nat → Int64)) (f_t_waysThen : (Nat → Int64)) (H : Heap) (locs : List Loc) (ls : Array Slot), fX11_gusts_b44 f_t_ways f_t_waysThen = some (rv, z_t_ways, z_t_waysThen) → gS E A s.heap (wX11_gusts E o_t a_t v_t_there v_t_wind v_t_force v_t_rains v_t_lost v_t_hours v_t_sights v_t_padMany v_t_acts v_t_blownMany v_t_badAct v_t_badWhy v_t_ruinAct v_t_ruinWho v_t_keptAt v_t_isWriting f_t_ways f_t_waysThen) H locs → lv_has ls 8 [] → W p l e ({ frames := 3, cells := 0, slots := 0, locals := 72 } : Room) s m args below meth cd H locs 0 0 Q (F0 m 44 ls []) := by
    intro  f_t_ways f_t_waysThen H locs ls hf hw hl
    refine lv_ldc2 hx hb hown (hG _ wd_34_17) dX11_gusts_44 ?_
    exact hret1 (-1000000000000000002) f_t_ways f_t_waysThen _ _ _ _ hf hw dX11_gusts_47
  have B75 : ∀ (K51 : (Nat → Int64) → (Nat → Int64) → Int32 → Int32 → Int32 → Int32 → Int32 → Option (Int64 × (Nat → Int64) × (Nat → Int64))) (hK51 : ∀ (f_t_ways : (Nat → Int64)) (f_t_waysThen : (Nat → Int64)) (x1 : Int32) (x2 : Int32) (x3 : Int32) (x4 : Int32) (x5 : Int32) (H : Heap) (locs : List Loc) (ls : Array Slot), K51 f_t_ways f_t_waysThen x1 x2 x3 x4 x5 = some (rv, z_t_ways, z_t_waysThen) → gS E A s.heap (wX11_gusts E o_t a_t v_t_there v_t_wind v_t_force v_t_rains v_t_lost v_t_hours v_t_sights v_t_padMany v_t_acts v_t_blownMany v_t_badAct v_t_badWhy v_t_ruinAct v_t_ruinWho v_t_keptAt v_t_isWriting f_t_ways f_t_waysThen) H locs → lv_has ls 8 [(0, .ref o_t), (1, .int x1), (2, .int x2), (3, .int x3), (4, .int x4), (5, .int x5)] → W p l e ({ frames := 3, cells := 0, slots := 0, locals := 72 } : Room) s m args below meth cd H locs 0 0 Q (F0 m 51 ls [])), ∀ (f_t_ways : (Nat → Int64)) (f_t_waysThen : (Nat → Int64)) (x1 : Int32) (x2 : Int32) (x3 : Int32) (x4 : Int32) (x5 : Int32) (s1 : Int32) (s2 : Int64) (H : Heap) (locs : List Loc) (ls : Array Slot), fX11_gusts_b75 K51 f_t_ways f_t_waysThen x1 x2 x3 x4 x5 s1 s2 = some (rv, z_t_ways, z_t_waysThen) → gS E A s.heap (wX11_gusts E o_t a_t v_t_there v_t_wind v_t_force v_t_rains v_t_lost v_t_hours v_t_sights v_t_padMany v_t_acts v_t_blownMany v_t_badAct v_t_badWhy v_t_ruinAct v_t_ruinWho v_t_keptAt v_t_isWriting f_t_ways f_t_waysThen) H locs → lv_has ls 8 [(0, .ref o_t), (1, .int x1), (2, .int x2), (3, .int x3), (4, .int x4), (5, .int x5)] → W p l e ({ frames := 3, cells := 0, slots := 0, locals := 72 } : Room) s m args below meth cd H locs 0 0 Q (F0 m 75 ls [.long s2, .int s1, .ref (a_t 30)]) := by
    intro K51 hK51 f_t_ways f_t_waysThen x1 x2 x3 x4 x5 s1 s2 H locs ls hf hw hl
    obtain ⟨hi1, hf⟩ := gA_s hf
    refine g_last (ws' := (wX11_gusts E o_t a_t v_t_there v_t_wind v_t_force v_t_rains v_t_lost v_t_hours v_t_sights v_t_padMany v_t_acts v_t_blownMany v_t_badAct v_t_badWhy v_t_ruinAct v_t_ruinWho v_t_keptAt v_t_isWriting (vp_updL f_t_ways (Int32.toNatClampNeg s1) s2) f_t_waysThen)) hx hb hK hw 1 rfl hi1 rfl dX11_gusts_75 (fun H locs hw => ?_)
    refine lv_iinc (lv' := [(5, .int (x5 + 1)), (0, .ref o_t), (1, .int x1), (2, .int x2), (3, .int x3), (4, .int x4)]) hx hb dX11_gusts_76 hl (k := 5) rfl (k_inc1 _) (Nat.le_of_ble_eq_true rfl) rfl (fun ls hl => ?_)
    refine lv_goto (tgt := 51) hx hb dX11_gusts_79 (by decide) ?_
    exact hK51 (vp_updL f_t_ways (Int32.toNatClampNeg s1) s2) f_t_waysThen x1 x2 x3 x4 (x5 + 1) _ _ _ hf hw (lv_sub hl [1, 2, 3, 4, 5, 0] rfl)
  have B126 : ∀ (f_t_ways : (Nat → Int64)) (f_t_waysThen : (Nat → Int64)) (x4 : Int32) (x5 : Int64) (s1 : Int32) (H : Heap) (locs : List Loc) (ls : Array Slot), fX11_gusts_b126 f_t_ways f_t_waysThen x4 x5 s1 = some (rv, z_t_ways, z_t_waysThen) → gS E A s.heap (wX11_gusts E o_t a_t v_t_there v_t_wind v_t_force v_t_rains v_t_lost v_t_hours v_t_sights v_t_padMany v_t_acts v_t_blownMany v_t_badAct v_t_badWhy v_t_ruinAct v_t_ruinWho v_t_keptAt v_t_isWriting f_t_ways f_t_waysThen) H locs → lv_has ls 8 [(4, .int x4), (5, .long x5)] → W p l e ({ frames := 3, cells := 0, slots := 0, locals := 72 } : Room) s m args below meth cd H locs 0 0 Q (F0 m 126 ls [.int s1, .ref (a_t 30)]) := by
    intro  f_t_ways f_t_waysThen x4 x5 s1 H locs ls hf hw hl
    obtain ⟨hi2, hf⟩ := gA_s hf
    refine g_lald hx hb hK hw 1 rfl hi2 dX11_gusts_126 ?_
    refine lv_lload hx hb dX11_gusts_127 (lv_at hl 1 rfl) ?_
    refine lv_iload hx hb dX11_gusts_129 (lv_at hl 0 rfl) ?_
    obtain ⟨r3, hc4, hf⟩ := gB_s hf
    refine g_kl (is := []) (w1 := (wX11_lowest E)) (ws' := (wX11_gusts E o_t a_t v_t_there v_t_wind v_t_force v_t_rains v_t_lost v_t_hours v_t_sights v_t_padMany v_t_acts v_t_blownMany v_t_badAct v_t_badWhy v_t_ruinAct v_t_ruinWho v_t_keptAt v_t_isWriting f_t_ways f_t_waysThen)) hw hA (g_rS hx hb hml hG hown hK hw (is := []) rfl (by decide) (mX11_lowest l E (f_t_ways (Int32.toNatClampNeg s1)) x5 x4 r3 hc4) wd_34_23 wd_35_0 wd_1_5 wd_35_1 hX11_lowest g_allgood ⟨rfl, rfl⟩ ⟨Nat.le_of_ble_eq_true rfl, Nat.le_of_ble_eq_true rfl⟩ ⟨Nat.zero_le _, Nat.zero_le _⟩ rfl hl.1 rfl (Nat.le_of_ble_eq_true rfl) dX11_gusts_131) rfl rfl rfl (fun H locs hw => ?_)
    exact hret1 r3 f_t_ways f_t_waysThen _ _ _ _ hf hw dX11_gusts_134
  have B88 : ∀ n : Nat, ∀ (f_t_ways : (Nat → Int64)) (f_t_waysThen : (Nat → Int64)) (x2 : Int32) (x3 : Int32) (x4 : Int32) (x5 : Int64) (x7 : Int32) (H : Heap) (locs : List Loc) (ls : Array Slot), fX11_gusts_b88 n f_t_ways f_t_waysThen x2 x3 x4 x5 x7 = some (rv, z_t_ways, z_t_waysThen) → gS E A s.heap (wX11_gusts E o_t a_t v_t_there v_t_wind v_t_force v_t_rains v_t_lost v_t_hours v_t_sights v_t_padMany v_t_acts v_t_blownMany v_t_badAct v_t_badWhy v_t_ruinAct v_t_ruinWho v_t_keptAt v_t_isWriting f_t_ways f_t_waysThen) H locs → lv_has ls 8 [(0, .ref o_t), (2, .int x2), (3, .int x3), (4, .int x4), (5, .long x5), (7, .int x7)] → W p l e ({ frames := 3, cells := 0, slots := 0, locals := 72 } : Room) s m args below meth cd H locs 0 0 Q (F0 m 88 ls []) := by
    intro n
    induction n with
    | zero => intro f_t_ways f_t_waysThen x2 x3 x4 x5 x7 H locs ls hf hw hl; exact g_no hf
    | succ n ih =>
      intro f_t_ways f_t_waysThen x2 x3 x4 x5 x7 H locs ls hf hw hl
      refine lv_iload hx hb dX11_gusts_88 (lv_at hl 5 rfl) ?_
      refine lv_iload_n hx hb dX11_gusts_90 rfl (lv_at hl 2 rfl) ?_
      refine lv_icmp_ge (tgt := 112) hx hb dX11_gusts_91 (by decide) (fun hc => ?_) (fun hc => ?_)
      · have hf := g_t hc hf
        refine lv_aload_n hx hb dX11_gusts_112 rfl (lv_at hl 0 rfl) ?_
        refine g_get hx hb hG hown hK hw inlX11 (ci := 9) rfl 0 30 (Nat.le_of_ble_eq_true rfl) rfl rfl wd_6_14 dX11_gusts_113 ?_
        refine lv_iload_n hx hb dX11_gusts_116 rfl (lv_at hl 1 rfl) ?_
        refine lv_if_ge (tgt := 125) hx hb dX11_gusts_117 (by decide) (fun hc => ?_) (fun hc => ?_)
        · have hf := g_t hc hf
          refine lv_iload_n hx hb dX11_gusts_125 rfl (lv_at hl 1 rfl) ?_
          exact B126 f_t_ways f_t_waysThen x4 x5 x2 _ _ _ hf hw (lv_sub hl [3, 4] rfl)
        · have hf := g_f hc hf
          refine lv_bipush (v := 36) hx hb dX11_gusts_120 k_b36 ?_
          refine lv_goto (tgt := 126) hx hb dX11_gusts_122 (by decide) ?_
          exact B126 f_t_ways f_t_waysThen x4 x5 36 _ _ _ hf hw (lv_sub hl [3, 4] rfl)
      · have hf := g_f hc hf
        refine lv_aload_n hx hb dX11_gusts_94 rfl (lv_at hl 0 rfl) ?_
        obtain ⟨r5, hc6, hf⟩ := gB_s hf
        refine g_kv (is := [0, 1, 2]) (w1 := (wX11_gust E o_t a_t v_t_there v_t_wind v_t_force v_t_rains v_t_lost v_t_hours v_t_sights v_t_padMany v_t_acts v_t_blownMany v_t_badAct v_t_badWhy v_t_ruinAct v_t_ruinWho v_t_keptAt v_t_isWriting r5.1 r5.2)) (ws' := (wX11_gusts E o_t a_t v_t_there v_t_wind v_t_force v_t_rains v_t_lost v_t_hours v_t_sights v_t_padMany v_t_acts v_t_blownMany v_t_badAct v_t_badWhy v_t_ruinAct v_t_ruinWho v_t_keptAt v_t_isWriting r5.1 r5.2)) hw hA (g_rV hx hb hml hG hown hK hw (is := [0, 1, 2]) rfl (by decide) (mX11_gust l E o_t a_t v_t_there v_t_wind v_t_force v_t_rains v_t_lost v_t_hours v_t_sights v_t_padMany v_t_acts v_t_blownMany v_t_badAct v_t_badWhy v_t_ruinAct v_t_ruinWho v_t_keptAt v_t_isWriting f_t_ways f_t_waysThen r5.1 r5.2 hc6) wd_34_19 wd_34_20 wd_34_21 wd_1_5 wd_34_22 hX11_gust g_allgood ⟨rfl, rfl⟩ ⟨Nat.le_of_ble_eq_true rfl, Nat.le_of_ble_eq_true rfl⟩ ⟨Nat.zero_le _, Nat.zero_le _⟩ (ci := 9) (q0 := 0) rfl rfl rfl rfl hl.1 rfl (Nat.le_of_ble_eq_true rfl) dX11_gusts_95) rfl rfl rfl (fun H locs hw => ?_)
        refine lv_lload hx hb dX11_gusts_98 (lv_at hl 4 rfl) ?_
        refine lv_ldc2 hx hb hown (hG _ wd_34_18) dX11_gusts_100 ?_
        refine lv_lmul hx hb dX11_gusts_103 ?_
        refine lv_lstore (lv' := [(5, .long (x5 * 4)), (0, .ref o_t), (2, .int x2), (3, .int x3), (4, .int x4), (7, .int x7)]) hx hb dX11_gusts_104 hl (Nat.le_of_ble_eq_true rfl) rfl (fun ls hl => ?_)
        refine lv_iinc (lv' := [(7, .int (x7 + 1)), (5, .long (x5 * 4)), (0, .ref o_t), (2, .int x2), (3, .int x3), (4, .int x4)]) hx hb dX11_gusts_106 hl (k := 5) rfl (k_inc1 _) (Nat.le_of_ble_eq_true rfl) rfl (fun ls hl => ?_)
        refine lv_goto (tgt := 88) hx hb dX11_gusts_109 (by decide) ?_
        exact ih r5.1 r5.2 x2 x3 x4 (x5 * 4) (x7 + 1) _ _ _ hf hw (lv_sub hl [2, 3, 4, 5, 1, 0] rfl)
  have B51 : ∀ n : Nat, ∀ (f_t_ways : (Nat → Int64)) (f_t_waysThen : (Nat → Int64)) (x1 : Int32) (x2 : Int32) (x3 : Int32) (x4 : Int32) (x5 : Int32) (H : Heap) (locs : List Loc) (ls : Array Slot), fX11_gusts_b51 n f_t_ways f_t_waysThen x1 x2 x3 x4 x5 = some (rv, z_t_ways, z_t_waysThen) → gS E A s.heap (wX11_gusts E o_t a_t v_t_there v_t_wind v_t_force v_t_rains v_t_lost v_t_hours v_t_sights v_t_padMany v_t_acts v_t_blownMany v_t_badAct v_t_badWhy v_t_ruinAct v_t_ruinWho v_t_keptAt v_t_isWriting f_t_ways f_t_waysThen) H locs → lv_has ls 8 [(0, .ref o_t), (1, .int x1), (2, .int x2), (3, .int x3), (4, .int x4), (5, .int x5)] → W p l e ({ frames := 3, cells := 0, slots := 0, locals := 72 } : Room) s m args below meth cd H locs 0 0 Q (F0 m 51 ls []) := by
    intro n
    induction n with
    | zero => intro f_t_ways f_t_waysThen x1 x2 x3 x4 x5 H locs ls hf hw hl; exact g_no hf
    | succ n ih =>
      intro f_t_ways f_t_waysThen x1 x2 x3 x4 x5 H locs ls hf hw hl
      refine lv_iload hx hb dX11_gusts_51 (lv_at hl 5 rfl) ?_
      refine lv_bipush (v := 36) hx hb dX11_gusts_53 k_b36 ?_
      refine lv_icmp_gt (tgt := 82) hx hb dX11_gusts_55 (by decide) (fun hc => ?_) (fun hc => ?_)
      · have hf := g_t hc hf
        refine lv_lconst (v := 1) hx hb dX11_gusts_82 k_l1 ?_
        refine lv_lstore (lv' := [(5, .long 1), (0, .ref o_t), (1, .int x1), (2, .int x2), (3, .int x3), (4, .int x4)]) hx hb dX11_gusts_83 hl (Nat.le_of_ble_eq_true rfl) rfl (fun ls hl => ?_)
        refine lv_iconst (v := 0) hx hb dX11_gusts_85 k_i0 ?_
        refine lv_istore (lv' := [(7, .int 0), (5, .long 1), (0, .ref o_t), (1, .int x1), (2, .int x2), (3, .int x3), (4, .int x4)]) hx hb dX11_gusts_86 hl (Nat.le_of_ble_eq_true rfl) rfl (fun ls hl => ?_)
        exact B88 1000 f_t_ways f_t_waysThen x2 x3 x4 1 0 _ _ _ hf hw (lv_sub hl [2, 4, 5, 6, 1, 0] rfl)
      · have hf := g_f hc hf
        refine lv_aload_n hx hb dX11_gusts_58 rfl (lv_at hl 0 rfl) ?_
        refine g_get hx hb hG hown hK hw inlX11 (ci := 9) rfl 0 30 (Nat.le_of_ble_eq_true rfl) rfl rfl wd_6_14 dX11_gusts_59 ?_
        refine lv_iload hx hb dX11_gusts_62 (lv_at hl 5 rfl) ?_
        refine lv_iload hx hb dX11_gusts_64 (lv_at hl 5 rfl) ?_
        refine lv_iload_n hx hb dX11_gusts_66 rfl (lv_at hl 1 rfl) ?_
        refine lv_icmp_ne (tgt := 74) hx hb dX11_gusts_67 (by decide) (fun hc => ?_) (fun hc => ?_)
        · have hf := g_f hc hf
          refine lv_lconst (v := 0) hx hb dX11_gusts_74 k_l0 ?_
          exact B75 (fX11_gusts_b51 n) ih f_t_ways f_t_waysThen x1 x2 x3 x4 x5 x5 0 _ _ _ hf hw (lv_sub hl [0, 1, 2, 3, 4, 5] rfl)
        · have hf := g_t hc hf
          refine lv_lconst (v := 1) hx hb dX11_gusts_70 k_l1 ?_
          refine lv_goto (tgt := 75) hx hb dX11_gusts_71 (by decide) ?_
          exact B75 (fX11_gusts_b51 n) ih f_t_ways f_t_waysThen x1 x2 x3 x4 x5 x5 1 _ _ _ hf hw (lv_sub hl [0, 1, 2, 3, 4, 5] rfl)
  refine lv_iload_n hx hb dX11_gusts_0 rfl (lv_at hl 1 rfl) ?_
  obtain ⟨r7, hc8, hf⟩ := gB_s hf
  refine g_ki (is := []) (w1 := (wX11_isField E)) (ws' := (wX11_gusts E o_t a_t v_t_there v_t_wind v_t_force v_t_rains v_t_lost v_t_hours v_t_sights v_t_padMany v_t_acts v_t_blownMany v_t_badAct v_t_badWhy v_t_ruinAct v_t_ruinWho v_t_keptAt v_t_isWriting f_t_ways f_t_waysThen)) hw hA (g_rS hx hb hml hG hown hK hw (is := []) rfl (by decide) (mX11_isField l E x1 r7 hc8) wd_8_13 wd_8_14 wd_1_5 wd_8_15 hX11_isField g_allgood ⟨rfl, rfl⟩ ⟨Nat.le_of_ble_eq_true rfl, Nat.le_of_ble_eq_true rfl⟩ ⟨Nat.zero_le _, Nat.zero_le _⟩ rfl hl.1 rfl (Nat.le_of_ble_eq_true rfl) dX11_gusts_1) rfl rfl rfl (fun H locs hw => ?_)
  refine lv_if_eq (tgt := 44) hx hb dX11_gusts_4 (by decide) (fun hc => ?_) (fun hc => ?_)
  · have hf := g_t hc hf
    exact B44 f_t_ways f_t_waysThen _ _ _ hf hw (lv_sub hl [] rfl)
  · have hf := g_f hc hf
    refine lv_iload_n hx hb dX11_gusts_7 rfl (lv_at hl 2 rfl) ?_
    refine lv_i2l hx hb dX11_gusts_8 rfl ?_
    refine lv_ldc2 hx hb hown (hG _ wd_34_16) dX11_gusts_9 ?_
    refine lv_ldc2 hx hb hown (hG _ wd_8_16) dX11_gusts_12 ?_
    obtain ⟨r9, hc10, hf⟩ := gB_s hf
    refine g_ki (is := []) (w1 := (wX11_in E)) (ws' := (wX11_gusts E o_t a_t v_t_there v_t_wind v_t_force v_t_rains v_t_lost v_t_hours v_t_sights v_t_padMany v_t_acts v_t_blownMany v_t_badAct v_t_badWhy v_t_ruinAct v_t_ruinWho v_t_keptAt v_t_isWriting f_t_ways f_t_waysThen)) hw hA (g_rS hx hb hml hG hown hK hw (is := []) rfl (by decide) (mX11_in l E (Int32.toInt64 x2) (-1) 35 r9 hc10) wd_8_10 wd_8_11 wd_1_5 wd_8_12 hX11_in g_allgood ⟨rfl, rfl⟩ ⟨Nat.le_of_ble_eq_true rfl, Nat.le_of_ble_eq_true rfl⟩ ⟨Nat.zero_le _, Nat.zero_le _⟩ rfl hl.1 rfl (Nat.le_of_ble_eq_true rfl) dX11_gusts_15) rfl rfl rfl (fun H locs hw => ?_)
    refine lv_if_eq (tgt := 44) hx hb dX11_gusts_18 (by decide) (fun hc => ?_) (fun hc => ?_)
    · have hf := g_t hc hf
      exact B44 f_t_ways f_t_waysThen _ _ _ hf hw (lv_sub hl [] rfl)
    · have hf := g_f hc hf
      refine lv_iload_n hx hb dX11_gusts_21 rfl (lv_at hl 3 rfl) ?_
      refine lv_i2l hx hb dX11_gusts_22 rfl ?_
      refine lv_lconst (v := 0) hx hb dX11_gusts_23 k_l0 ?_
      refine lv_ldc2 hx hb hown (hG _ wd_8_6) dX11_gusts_24 ?_
      obtain ⟨r11, hc12, hf⟩ := gB_s hf
      refine g_ki (is := []) (w1 := (wX11_in E)) (ws' := (wX11_gusts E o_t a_t v_t_there v_t_wind v_t_force v_t_rains v_t_lost v_t_hours v_t_sights v_t_padMany v_t_acts v_t_blownMany v_t_badAct v_t_badWhy v_t_ruinAct v_t_ruinWho v_t_keptAt v_t_isWriting f_t_ways f_t_waysThen)) hw hA (g_rS hx hb hml hG hown hK hw (is := []) rfl (by decide) (mX11_in l E (Int32.toInt64 x3) 0 5 r11 hc12) wd_8_10 wd_8_11 wd_1_5 wd_8_12 hX11_in g_allgood ⟨rfl, rfl⟩ ⟨Nat.le_of_ble_eq_true rfl, Nat.le_of_ble_eq_true rfl⟩ ⟨Nat.zero_le _, Nat.zero_le _⟩ rfl hl.1 rfl (Nat.le_of_ble_eq_true rfl) dX11_gusts_27) rfl rfl rfl (fun H locs hw => ?_)
      refine lv_if_eq (tgt := 44) hx hb dX11_gusts_30 (by decide) (fun hc => ?_) (fun hc => ?_)
      · have hf := g_t hc hf
        exact B44 f_t_ways f_t_waysThen _ _ _ hf hw (lv_sub hl [] rfl)
      · have hf := g_f hc hf
        refine lv_iload hx hb dX11_gusts_33 (lv_at hl 4 rfl) ?_
        refine lv_i2l hx hb dX11_gusts_35 rfl ?_
        refine lv_lconst (v := 0) hx hb dX11_gusts_36 k_l0 ?_
        refine lv_lconst (v := 1) hx hb dX11_gusts_37 k_l1 ?_
        obtain ⟨r13, hc14, hf⟩ := gB_s hf
        refine g_ki (is := []) (w1 := (wX11_in E)) (ws' := (wX11_gusts E o_t a_t v_t_there v_t_wind v_t_force v_t_rains v_t_lost v_t_hours v_t_sights v_t_padMany v_t_acts v_t_blownMany v_t_badAct v_t_badWhy v_t_ruinAct v_t_ruinWho v_t_keptAt v_t_isWriting f_t_ways f_t_waysThen)) hw hA (g_rS hx hb hml hG hown hK hw (is := []) rfl (by decide) (mX11_in l E (Int32.toInt64 x4) 0 1 r13 hc14) wd_8_10 wd_8_11 wd_1_5 wd_8_12 hX11_in g_allgood ⟨rfl, rfl⟩ ⟨Nat.le_of_ble_eq_true rfl, Nat.le_of_ble_eq_true rfl⟩ ⟨Nat.zero_le _, Nat.zero_le _⟩ rfl hl.1 rfl (Nat.le_of_ble_eq_true rfl) dX11_gusts_38) rfl rfl rfl (fun H locs hw => ?_)
        refine lv_if_ne (tgt := 48) hx hb dX11_gusts_41 (by decide) (fun hc => ?_) (fun hc => ?_)
        · have hf := g_f hc hf
          refine lv_iconst (v := 0) hx hb dX11_gusts_48 k_i0 ?_
          refine lv_istore (lv' := [(5, .int 0), (0, .ref o_t), (1, .int x1), (2, .int x2), (3, .int x3), (4, .int x4)]) hx hb dX11_gusts_49 hl (Nat.le_of_ble_eq_true rfl) rfl (fun ls hl => ?_)
          exact B51 1000 f_t_ways f_t_waysThen x1 x2 x3 x4 0 _ _ _ hf hw (lv_sub hl [1, 2, 3, 4, 5, 0] rfl)
        · have hf := g_t hc hf
          exact B44 f_t_ways f_t_waysThen _ _ _ hf hw (lv_sub hl [] rfl)
theorem hX11_lovers : yX11_lovers.cls = RX11 ∧ yX11_lovers.cls ≠ "java/lang/invoke/MethodHandle" ∧ yX11_lovers.cls ≠ "java/lang/invoke/VarHandle" ∧ (parseMethodDescriptor yX11_lovers.desc).map (fun d => d.parameters.length) = some 3 := by decide +kernel
set_option maxHeartbeats 4000000 in
set_option maxRecDepth 100000 in
theorem mX11_lovers (l : Launch) (E : gE) (o_t : Nat) (a_t : (Nat → Nat)) (v_t_there : Int32) (v_t_wind : Int32) (v_t_force : Int32) (v_t_rains : Int32) (v_t_lost : Int32) (v_t_hours : Int32) (v_t_sights : Int32) (v_t_padMany : Int32) (v_t_acts : Int32) (v_t_blownMany : Int32) (v_t_badAct : Int32) (v_t_badWhy : Int32) (v_t_ruinAct : Int32) (v_t_ruinWho : Int32) (v_t_keptAt : Int32) (v_t_isWriting : Int32) (x1 : Int32) (x2 : Int32) (x3 : Int32) (rv : Int32) (hf : fX11_lovers x1 x2 x3 = some rv) {sz : Nat} : gMi l yX11_lovers (gW yX11_lovers cX11_lovers 5 (some .int)) ({ frames := 1, cells := 0, slots := 0, locals := 25 } : Room) E [.ref o_t, .int x1, .int x2, .int x3] (wX11_lovers E o_t a_t v_t_there v_t_wind v_t_force v_t_rains v_t_lost v_t_hours v_t_sights v_t_padMany v_t_acts v_t_blownMany v_t_badAct v_t_badWhy v_t_ruinAct v_t_ruinWho v_t_keptAt v_t_isWriting) sz rv (wX11_lovers E o_t a_t v_t_there v_t_wind v_t_force v_t_rains v_t_lost v_t_hours v_t_sights v_t_padMany v_t_acts v_t_blownMany v_t_badAct v_t_badWhy v_t_ruinAct v_t_ruinWho v_t_keptAt v_t_isWriting) := by
  refine g_openI (own := RX11) (by decide) rfl (Nat.le_of_ble_eq_true rfl) (fun p e s m args below meth cd Q A hx hb hml hown hG hK hA hret hw ls hl => ?_)
  have hl : lv_has ls 5 [(0, .ref o_t), (1, .int x1), (2, .int x2), (3, .int x3)] := hl
  have hret1 : ∀ (v : Int32)  (H : Heap) (locs : List Loc) (pc : Nat) (ls : Array Slot), some v = some rv → gS E A s.heap (wX11_lovers E o_t a_t v_t_there v_t_wind v_t_force v_t_rains v_t_lost v_t_hours v_t_sights v_t_padMany v_t_acts v_t_blownMany v_t_badAct v_t_badWhy v_t_ruinAct v_t_ruinWho v_t_keptAt v_t_isWriting) H locs → decode cX11_lovers pc = .ok (.ireturn, 1) → W p l e ({ frames := 1, cells := 0, slots := 0, locals := 25 } : Room) s m args below meth cd H locs 0 0 Q (F0 m pc ls [.int v]) := by
    intro v  H locs pc ls h hw hd
    cases h
    exact hret H locs pc ls hw hd
  have B34 : ∀ (H : Heap) (locs : List Loc) (ls : Array Slot), fX11_lovers_b34 = some rv → gS E A s.heap (wX11_lovers E o_t a_t v_t_there v_t_wind v_t_force v_t_rains v_t_lost v_t_hours v_t_sights v_t_padMany v_t_acts v_t_blownMany v_t_badAct v_t_badWhy v_t_ruinAct v_t_ruinWho v_t_keptAt v_t_isWriting) H locs → lv_has ls 5 [] → W p l e ({ frames := 1, cells := 0, slots := 0, locals := 25 } : Room) s m args below meth cd H locs 0 0 Q (F0 m 34 ls []) := by
    intro   H locs ls hf hw hl
    refine lv_bipush (v := -2) hx hb dX11_lovers_34 k_bm2 ?_
    exact hret1 (-2) _ _ _ _ hf hw dX11_lovers_36
  have B73 : ∀ (s0 : Int32) (H : Heap) (locs : List Loc) (ls : Array Slot), fX11_lovers_b73 s0 = some rv → gS E A s.heap (wX11_lovers E o_t a_t v_t_there v_t_wind v_t_force v_t_rains v_t_lost v_t_hours v_t_sights v_t_padMany v_t_acts v_t_blownMany v_t_badAct v_t_badWhy v_t_ruinAct v_t_ruinWho v_t_keptAt v_t_isWriting) H locs → lv_has ls 5 [] → W p l e ({ frames := 1, cells := 0, slots := 0, locals := 25 } : Room) s m args below meth cd H locs 0 0 Q (F0 m 73 ls [.int s0]) := by
    intro  s0 H locs ls hf hw hl
    exact hret1 s0 _ _ _ _ hf hw dX11_lovers_73
  refine lv_iload_n hx hb dX11_lovers_0 rfl (lv_at hl 1 rfl) ?_
  refine lv_i2l hx hb dX11_lovers_1 rfl ?_
  refine lv_lconst (v := 0) hx hb dX11_lovers_2 k_l0 ?_
  refine lv_ldc2 hx hb hown (hG _ wd_35_10) dX11_lovers_3 ?_
  obtain ⟨r1, hc2, hf⟩ := gB_s hf
  refine g_ki (is := []) (w1 := (wX11_in E)) (ws' := (wX11_lovers E o_t a_t v_t_there v_t_wind v_t_force v_t_rains v_t_lost v_t_hours v_t_sights v_t_padMany v_t_acts v_t_blownMany v_t_badAct v_t_badWhy v_t_ruinAct v_t_ruinWho v_t_keptAt v_t_isWriting)) hw hA (g_rS hx hb hml hG hown hK hw (is := []) rfl (by decide) (mX11_in l E (Int32.toInt64 x1) 0 99 r1 hc2) wd_8_10 wd_8_11 wd_1_5 wd_8_12 hX11_in g_allgood ⟨rfl, rfl⟩ ⟨Nat.le_of_ble_eq_true rfl, Nat.le_of_ble_eq_true rfl⟩ ⟨Nat.zero_le _, Nat.zero_le _⟩ rfl hl.1 rfl (Nat.le_of_ble_eq_true rfl) dX11_lovers_6) rfl rfl rfl (fun H locs hw => ?_)
  refine lv_if_eq (tgt := 34) hx hb dX11_lovers_9 (by decide) (fun hc => ?_) (fun hc => ?_)
  · have hf := g_t hc hf
    exact B34 _ _ _ hf hw (lv_sub hl [] rfl)
  · have hf := g_f hc hf
    refine lv_iload_n hx hb dX11_lovers_12 rfl (lv_at hl 2 rfl) ?_
    refine lv_i2l hx hb dX11_lovers_13 rfl ?_
    refine lv_lconst (v := 1) hx hb dX11_lovers_14 k_l1 ?_
    refine lv_ldc2 hx hb hown (hG _ wd_8_8) dX11_lovers_15 ?_
    obtain ⟨r3, hc4, hf⟩ := gB_s hf
    refine g_ki (is := []) (w1 := (wX11_in E)) (ws' := (wX11_lovers E o_t a_t v_t_there v_t_wind v_t_force v_t_rains v_t_lost v_t_hours v_t_sights v_t_padMany v_t_acts v_t_blownMany v_t_badAct v_t_badWhy v_t_ruinAct v_t_ruinWho v_t_keptAt v_t_isWriting)) hw hA (g_rS hx hb hml hG hown hK hw (is := []) rfl (by decide) (mX11_in l E (Int32.toInt64 x2) 1 9 r3 hc4) wd_8_10 wd_8_11 wd_1_5 wd_8_12 hX11_in g_allgood ⟨rfl, rfl⟩ ⟨Nat.le_of_ble_eq_true rfl, Nat.le_of_ble_eq_true rfl⟩ ⟨Nat.zero_le _, Nat.zero_le _⟩ rfl hl.1 rfl (Nat.le_of_ble_eq_true rfl) dX11_lovers_18) rfl rfl rfl (fun H locs hw => ?_)
    refine lv_if_eq (tgt := 34) hx hb dX11_lovers_21 (by decide) (fun hc => ?_) (fun hc => ?_)
    · have hf := g_t hc hf
      exact B34 _ _ _ hf hw (lv_sub hl [] rfl)
    · have hf := g_f hc hf
      refine lv_iload_n hx hb dX11_lovers_24 rfl (lv_at hl 3 rfl) ?_
      refine lv_i2l hx hb dX11_lovers_25 rfl ?_
      refine lv_lconst (v := 0) hx hb dX11_lovers_26 k_l0 ?_
      refine lv_lconst (v := 1) hx hb dX11_lovers_27 k_l1 ?_
      obtain ⟨r5, hc6, hf⟩ := gB_s hf
      refine g_ki (is := []) (w1 := (wX11_in E)) (ws' := (wX11_lovers E o_t a_t v_t_there v_t_wind v_t_force v_t_rains v_t_lost v_t_hours v_t_sights v_t_padMany v_t_acts v_t_blownMany v_t_badAct v_t_badWhy v_t_ruinAct v_t_ruinWho v_t_keptAt v_t_isWriting)) hw hA (g_rS hx hb hml hG hown hK hw (is := []) rfl (by decide) (mX11_in l E (Int32.toInt64 x3) 0 1 r5 hc6) wd_8_10 wd_8_11 wd_1_5 wd_8_12 hX11_in g_allgood ⟨rfl, rfl⟩ ⟨Nat.le_of_ble_eq_true rfl, Nat.le_of_ble_eq_true rfl⟩ ⟨Nat.zero_le _, Nat.zero_le _⟩ rfl hl.1 rfl (Nat.le_of_ble_eq_true rfl) dX11_lovers_28) rfl rfl rfl (fun H locs hw => ?_)
      refine lv_if_ne (tgt := 37) hx hb dX11_lovers_31 (by decide) (fun hc => ?_) (fun hc => ?_)
      · have hf := g_f hc hf
        refine lv_iload_n hx hb dX11_lovers_37 rfl (lv_at hl 1 rfl) ?_
        refine lv_iload_n hx hb dX11_lovers_38 rfl (lv_at hl 2 rfl) ?_
        refine lv_iconst (v := 1) hx hb dX11_lovers_39 k_i1 ?_
        refine lv_iadd hx hb dX11_lovers_40 ?_
        obtain ⟨hd7, hf⟩ := gD_s hf
        refine g_irem hx hb dX11_lovers_41 hd7 ?_
        refine lv_istore (lv' := [(4, .int (x1 % (x2 + 1))), (0, .ref o_t), (1, .int x1), (2, .int x2), (3, .int x3)]) hx hb dX11_lovers_42 hl (Nat.le_of_ble_eq_true rfl) rfl (fun ls hl => ?_)
        refine lv_iload_n hx hb dX11_lovers_44 rfl (lv_at hl 4 rfl) ?_
        refine lv_if_ne (tgt := 61) hx hb dX11_lovers_45 (by decide) (fun hc => ?_) (fun hc => ?_)
        · have hf := g_f hc hf
          refine lv_iload hx hb dX11_lovers_61 (lv_at hl 0 rfl) ?_
          refine lv_if_le (tgt := 71) hx hb dX11_lovers_63 (by decide) (fun hc => ?_) (fun hc => ?_)
          · have hf := g_t hc hf
            refine lv_bipush (v := -6) hx hb dX11_lovers_71 k_bm6 ?_
            exact B73 (-6) _ _ _ hf hw (lv_sub hl [] rfl)
          · have hf := g_f hc hf
            refine lv_iload hx hb dX11_lovers_66 (lv_at hl 0 rfl) ?_
            refine lv_goto (tgt := 73) hx hb dX11_lovers_68 (by decide) ?_
            exact B73 (x1 % (x2 + 1)) _ _ _ hf hw (lv_sub hl [] rfl)
        · have hf := g_t hc hf
          refine lv_iload hx hb dX11_lovers_48 (lv_at hl 0 rfl) ?_
          refine lv_if_le (tgt := 57) hx hb dX11_lovers_50 (by decide) (fun hc => ?_) (fun hc => ?_)
          · have hf := g_t hc hf
            refine lv_iconst (v := 0) hx hb dX11_lovers_57 k_i0 ?_
            refine lv_goto (tgt := 73) hx hb dX11_lovers_58 (by decide) ?_
            exact B73 0 _ _ _ hf hw (lv_sub hl [] rfl)
          · have hf := g_f hc hf
            refine lv_iconst (v := 1) hx hb dX11_lovers_53 k_i1 ?_
            refine lv_goto (tgt := 73) hx hb dX11_lovers_54 (by decide) ?_
            exact B73 1 _ _ _ hf hw (lv_sub hl [] rfl)
      · have hf := g_t hc hf
        exact B34 _ _ _ hf hw (lv_sub hl [] rfl)
theorem hX11_actBy : yX11_actBy.cls ≠ "java/lang/invoke/MethodHandle" ∧ yX11_actBy.cls ≠ "java/lang/invoke/VarHandle" ∧ (parseMethodDescriptor yX11_actBy.desc).map (fun d => d.parameters.length) = some 1 := by decide +kernel
set_option maxHeartbeats 4000000 in
set_option maxRecDepth 100000 in
theorem mX11_actBy (l : Launch) (E : gE) (x0 : Int32) (rv : Int32) (hf : fX11_actBy x0 = some rv) {sz : Nat} : gMi l yX11_actBy (gW yX11_actBy cX11_actBy 1 (some .int)) ({ frames := 0, cells := 0, slots := 0, locals := 0 } : Room) E [.int x0] (wX11_actBy E) sz rv (wX11_actBy E) := by
  refine g_openI (own := RX11) (by decide) rfl (Nat.le_of_ble_eq_true rfl) (fun p e s m args below meth cd Q A hx hb hml hown hG hK hA hret hw ls hl => ?_)
  have hl : lv_has ls 1 [(0, .int x0)] := hl
  have hret1 : ∀ (v : Int32)  (H : Heap) (locs : List Loc) (pc : Nat) (ls : Array Slot), some v = some rv → gS E A s.heap (wX11_actBy E) H locs → decode cX11_actBy pc = .ok (.ireturn, 1) → W p l e ({ frames := 0, cells := 0, slots := 0, locals := 0 } : Room) s m args below meth cd H locs 0 0 Q (F0 m pc ls [.int v]) := by
    intro v  H locs pc ls h hw hd
    cases h
    exact hret H locs pc ls hw hd
  have B48 : ∀ (s0 : Int32) (H : Heap) (locs : List Loc) (ls : Array Slot), fX11_actBy_b48 s0 = some rv → gS E A s.heap (wX11_actBy E) H locs → lv_has ls 1 [] → W p l e ({ frames := 0, cells := 0, slots := 0, locals := 0 } : Room) s m args below meth cd H locs 0 0 Q (F0 m 48 ls [.int s0]) := by
    intro  s0 H locs ls hf hw hl
    exact hret1 s0 _ _ _ _ hf hw dX11_actBy_48
  refine lv_iload_n hx hb dX11_actBy_0 rfl (lv_at hl 0 rfl) ?_
  refine lv_iconst (v := 3) hx hb dX11_actBy_1 k_i3 ?_
  refine lv_icmp_ge (tgt := 9) hx hb dX11_actBy_2 (by decide) (fun hc => ?_) (fun hc => ?_)
  · have hf := g_t hc hf
    refine lv_iload_n hx hb dX11_actBy_9 rfl (lv_at hl 0 rfl) ?_
    refine lv_iconst (v := 3) hx hb dX11_actBy_10 k_i3 ?_
    refine lv_icmp_ne (tgt := 18) hx hb dX11_actBy_11 (by decide) (fun hc => ?_) (fun hc => ?_)
    · have hf := g_f hc hf
      refine lv_iload_n hx hb dX11_actBy_18 rfl (lv_at hl 0 rfl) ?_
      refine lv_iconst (v := 4) hx hb dX11_actBy_19 k_i4 ?_
      refine lv_icmp_ne (tgt := 27) hx hb dX11_actBy_20 (by decide) (fun hc => ?_) (fun hc => ?_)
      · have hf := g_f hc hf
        refine lv_iload_n hx hb dX11_actBy_27 rfl (lv_at hl 0 rfl) ?_
        refine lv_iconst (v := 5) hx hb dX11_actBy_28 k_i5 ?_
        refine lv_icmp_ne (tgt := 36) hx hb dX11_actBy_29 (by decide) (fun hc => ?_) (fun hc => ?_)
        · have hf := g_f hc hf
          refine lv_iload_n hx hb dX11_actBy_36 rfl (lv_at hl 0 rfl) ?_
          refine lv_bipush (v := 6) hx hb dX11_actBy_37 k_b6 ?_
          refine lv_icmp_ne (tgt := 46) hx hb dX11_actBy_39 (by decide) (fun hc => ?_) (fun hc => ?_)
          · have hf := g_f hc hf
            refine lv_bipush (v := 6) hx hb dX11_actBy_46 k_b6 ?_
            exact B48 6 _ _ _ hf hw (lv_sub hl [] rfl)
          · have hf := g_t hc hf
            refine lv_iconst (v := 5) hx hb dX11_actBy_42 k_i5 ?_
            refine lv_goto (tgt := 48) hx hb dX11_actBy_43 (by decide) ?_
            exact B48 5 _ _ _ hf hw (lv_sub hl [] rfl)
        · have hf := g_t hc hf
          refine lv_iconst (v := 3) hx hb dX11_actBy_32 k_i3 ?_
          refine lv_goto (tgt := 48) hx hb dX11_actBy_33 (by decide) ?_
          exact B48 3 _ _ _ hf hw (lv_sub hl [] rfl)
      · have hf := g_t hc hf
        refine lv_iconst (v := 1) hx hb dX11_actBy_23 k_i1 ?_
        refine lv_goto (tgt := 48) hx hb dX11_actBy_24 (by decide) ?_
        exact B48 1 _ _ _ hf hw (lv_sub hl [] rfl)
    · have hf := g_t hc hf
      refine lv_iconst (v := 2) hx hb dX11_actBy_14 k_i2 ?_
      refine lv_goto (tgt := 48) hx hb dX11_actBy_15 (by decide) ?_
      exact B48 2 _ _ _ hf hw (lv_sub hl [] rfl)
  · have hf := g_f hc hf
    refine lv_iconst (v := 0) hx hb dX11_actBy_5 k_i0 ?_
    refine lv_goto (tgt := 48) hx hb dX11_actBy_6 (by decide) ?_
    exact B48 0 _ _ _ hf hw (lv_sub hl [] rfl)
theorem hX11_year : yX11_year.cls = RX11 ∧ yX11_year.cls ≠ "java/lang/invoke/MethodHandle" ∧ yX11_year.cls ≠ "java/lang/invoke/VarHandle" ∧ (parseMethodDescriptor yX11_year.desc).map (fun d => d.parameters.length) = some 3 := by decide +kernel
set_option maxHeartbeats 4000000 in
set_option maxRecDepth 100000 in
theorem mX11_year (l : Launch) (E : gE) (o_t : Nat) (a_t : (Nat → Nat)) (v_t_there : Int32) (v_t_wind : Int32) (v_t_force : Int32) (v_t_rains : Int32) (v_t_lost : Int32) (v_t_hours : Int32) (v_t_sights : Int32) (v_t_padMany : Int32) (v_t_acts : Int32) (v_t_blownMany : Int32) (v_t_badAct : Int32) (v_t_badWhy : Int32) (v_t_ruinAct : Int32) (v_t_ruinWho : Int32) (v_t_keptAt : Int32) (v_t_isWriting : Int32) (f_t_at : (Nat → Int32)) (f_t_stem : (Nat → Int32)) (f_t_lungs : (Nat → Int32)) (f_t_blown : (Nat → Int32)) (f_t_heap : (Nat → Int32)) (f_t_had : (Nat → Int32)) (x1 : Int32) (x2 : Int32) (x3 : Int32) (rv : Int32) (z_t_wind : Int32) (z_t_force : Int32) (z_t_rains : Int32) (z_t_lost : Int32) (z_t_hours : Int32) (z_t_blownMany : Int32) (z_t_stem : (Nat → Int32)) (z_t_blown : (Nat → Int32)) (z_t_heap : (Nat → Int32)) (z_t_had : (Nat → Int32)) (hf : fX11_year v_t_there v_t_wind v_t_force v_t_rains v_t_lost v_t_hours v_t_blownMany f_t_at f_t_stem f_t_lungs f_t_blown f_t_heap f_t_had x1 x2 x3 = some (rv, z_t_wind, z_t_force, z_t_rains, z_t_lost, z_t_hours, z_t_blownMany, z_t_stem, z_t_blown, z_t_heap, z_t_had)) {sz : Nat} : gMi l yX11_year (gW yX11_year cX11_year 9 (some .int)) ({ frames := 6, cells := 0, slots := 0, locals := 139 } : Room) E [.ref o_t, .int x1, .int x2, .int x3] (wX11_year E o_t a_t v_t_there v_t_wind v_t_force v_t_rains v_t_lost v_t_hours v_t_sights v_t_padMany v_t_acts v_t_blownMany v_t_badAct v_t_badWhy v_t_ruinAct v_t_ruinWho v_t_keptAt v_t_isWriting f_t_at f_t_stem f_t_lungs f_t_blown f_t_heap f_t_had) sz rv (wX11_year E o_t a_t v_t_there z_t_wind z_t_force z_t_rains z_t_lost z_t_hours v_t_sights v_t_padMany v_t_acts z_t_blownMany v_t_badAct v_t_badWhy v_t_ruinAct v_t_ruinWho v_t_keptAt v_t_isWriting f_t_at z_t_stem f_t_lungs z_t_blown z_t_heap z_t_had) := by
  refine g_openI (own := RX11) (by decide) rfl (Nat.le_of_ble_eq_true rfl) (fun p e s m args below meth cd Q A hx hb hml hown hG hK hA hret hw ls hl => ?_)
  have hl : lv_has ls 9 [(0, .ref o_t), (1, .int x1), (2, .int x2), (3, .int x3)] := hl
  have hret1 : ∀ (v : Int32) (v_t_wind : Int32) (v_t_force : Int32) (v_t_rains : Int32) (v_t_lost : Int32) (v_t_hours : Int32) (v_t_blownMany : Int32) (f_t_stem : (Nat → Int32)) (f_t_blown : (Nat → Int32)) (f_t_heap : (Nat → Int32)) (f_t_had : (Nat → Int32)) (H : Heap) (locs : List Loc) (pc : Nat) (ls : Array Slot), some (v, v_t_wind, v_t_force, v_t_rains, v_t_lost, v_t_hours, v_t_blownMany, f_t_stem, f_t_blown, f_t_heap, f_t_had) = some (rv, z_t_wind, z_t_force, z_t_rains, z_t_lost, z_t_hours, z_t_blownMany, z_t_stem, z_t_blown, z_t_heap, z_t_had) → gS E A s.heap (wX11_year E o_t a_t v_t_there v_t_wind v_t_force v_t_rains v_t_lost v_t_hours v_t_sights v_t_padMany v_t_acts v_t_blownMany v_t_badAct v_t_badWhy v_t_ruinAct v_t_ruinWho v_t_keptAt v_t_isWriting f_t_at f_t_stem f_t_lungs f_t_blown f_t_heap f_t_had) H locs → decode cX11_year pc = .ok (.ireturn, 1) → W p l e ({ frames := 6, cells := 0, slots := 0, locals := 139 } : Room) s m args below meth cd H locs 0 0 Q (F0 m pc ls [.int v]) := by
    intro v v_t_wind v_t_force v_t_rains v_t_lost v_t_hours v_t_blownMany f_t_stem f_t_blown f_t_heap f_t_had H locs pc ls h hw hd
    cases h
    exact hret H locs pc ls hw hd
  have B36 : ∀ (v_t_wind : Int32) (v_t_force : Int32) (v_t_rains : Int32) (v_t_lost : Int32) (v_t_hours : Int32) (v_t_blownMany : Int32) (f_t_stem : (Nat → Int32)) (f_t_blown : (Nat → Int32)) (f_t_heap : (Nat → Int32)) (f_t_had : (Nat → Int32)) (H : Heap) (locs : List Loc) (ls : Array Slot), fX11_year_b36 v_t_wind v_t_force v_t_rains v_t_lost v_t_hours v_t_blownMany f_t_stem f_t_blown f_t_heap f_t_had = some (rv, z_t_wind, z_t_force, z_t_rains, z_t_lost, z_t_hours, z_t_blownMany, z_t_stem, z_t_blown, z_t_heap, z_t_had) → gS E A s.heap (wX11_year E o_t a_t v_t_there v_t_wind v_t_force v_t_rains v_t_lost v_t_hours v_t_sights v_t_padMany v_t_acts v_t_blownMany v_t_badAct v_t_badWhy v_t_ruinAct v_t_ruinWho v_t_keptAt v_t_isWriting f_t_at f_t_stem f_t_lungs f_t_blown f_t_heap f_t_had) H locs → lv_has ls 9 [] → W p l e ({ frames := 6, cells := 0, slots := 0, locals := 139 } : Room) s m args below meth cd H locs 0 0 Q (F0 m 36 ls []) := by
    intro  v_t_wind v_t_force v_t_rains v_t_lost v_t_hours v_t_blownMany f_t_stem f_t_blown f_t_heap f_t_had H locs ls hf hw hl
    refine lv_bipush (v := -2) hx hb dX11_year_36 k_bm2 ?_
    exact hret1 (-2) v_t_wind v_t_force v_t_rains v_t_lost v_t_hours v_t_blownMany f_t_stem f_t_blown f_t_heap f_t_had _ _ _ _ hf hw dX11_year_38
  have B167 : ∀ (K54 : Int32 → Int32 → Int32 → Int32 → Int32 → Int32 → (Nat → Int32) → (Nat → Int32) → (Nat → Int32) → (Nat → Int32) → Int32 → Int32 → Int32 → Int32 → Option (Int32 × Int32 × Int32 × Int32 × Int32 × Int32 × Int32 × (Nat → Int32) × (Nat → Int32) × (Nat → Int32) × (Nat → Int32))) (hK54 : ∀ (v_t_wind : Int32) (v_t_force : Int32) (v_t_rains : Int32) (v_t_lost : Int32) (v_t_hours : Int32) (v_t_blownMany : Int32) (f_t_stem : (Nat → Int32)) (f_t_blown : (Nat → Int32)) (f_t_heap : (Nat → Int32)) (f_t_had : (Nat → Int32)) (x2 : Int32) (x3 : Int32) (x4 : Int32) (x5 : Int32) (H : Heap) (locs : List Loc) (ls : Array Slot), K54 v_t_wind v_t_force v_t_rains v_t_lost v_t_hours v_t_blownMany f_t_stem f_t_blown f_t_heap f_t_had x2 x3 x4 x5 = some (rv, z_t_wind, z_t_force, z_t_rains, z_t_lost, z_t_hours, z_t_blownMany, z_t_stem, z_t_blown, z_t_heap, z_t_had) → gS E A s.heap (wX11_year E o_t a_t v_t_there v_t_wind v_t_force v_t_rains v_t_lost v_t_hours v_t_sights v_t_padMany v_t_acts v_t_blownMany v_t_badAct v_t_badWhy v_t_ruinAct v_t_ruinWho v_t_keptAt v_t_isWriting f_t_at f_t_stem f_t_lungs f_t_blown f_t_heap f_t_had) H locs → lv_has ls 9 [(0, .ref o_t), (2, .int x2), (3, .int x3), (4, .int x4), (5, .int x5)] → W p l e ({ frames := 6, cells := 0, slots := 0, locals := 139 } : Room) s m args below meth cd H locs 0 0 Q (F0 m 54 ls [])), ∀ (v_t_wind : Int32) (v_t_force : Int32) (v_t_rains : Int32) (v_t_lost : Int32) (v_t_hours : Int32) (v_t_blownMany : Int32) (f_t_stem : (Nat → Int32)) (f_t_blown : (Nat → Int32)) (f_t_heap : (Nat → Int32)) (f_t_had : (Nat → Int32)) (x2 : Int32) (x3 : Int32) (x4 : Int32) (x5 : Int32) (H : Heap) (locs : List Loc) (ls : Array Slot), fX11_year_b167 K54 v_t_there f_t_at f_t_lungs v_t_wind v_t_force v_t_rains v_t_lost v_t_hours v_t_blownMany f_t_stem f_t_blown f_t_heap f_t_had x2 x3 x4 x5 = some (rv, z_t_wind, z_t_force, z_t_rains, z_t_lost, z_t_hours, z_t_blownMany, z_t_stem, z_t_blown, z_t_heap, z_t_had) → gS E A s.heap (wX11_year E o_t a_t v_t_there v_t_wind v_t_force v_t_rains v_t_lost v_t_hours v_t_sights v_t_padMany v_t_acts v_t_blownMany v_t_badAct v_t_badWhy v_t_ruinAct v_t_ruinWho v_t_keptAt v_t_isWriting f_t_at f_t_stem f_t_lungs f_t_blown f_t_heap f_t_had) H locs → lv_has ls 9 [(0, .ref o_t), (2, .int x2), (3, .int x3), (4, .int x4), (5, .int x5)] → W p l e ({ frames := 6, cells := 0, slots := 0, locals := 139 } : Room) s m args below meth cd H locs 0 0 Q (F0 m 167 ls []) := by
    intro K54 hK54 v_t_wind v_t_force v_t_rains v_t_lost v_t_hours v_t_blownMany f_t_stem f_t_blown f_t_heap f_t_had x2 x3 x4 x5 H locs ls hf hw hl
    refine lv_iinc (lv' := [(5, .int (x5 + 1)), (0, .ref o_t), (2, .int x2), (3, .int x3), (4, .int x4)]) hx hb dX11_year_167 hl (k := 4) rfl (k_inc1 _) (Nat.le_of_ble_eq_true rfl) rfl (fun ls hl => ?_)
    refine lv_goto (tgt := 54) hx hb dX11_year_170 (by decide) ?_
    exact hK54 v_t_wind v_t_force v_t_rains v_t_lost v_t_hours v_t_blownMany f_t_stem f_t_blown f_t_heap f_t_had x2 x3 x4 (x5 + 1) _ _ _ hf hw (lv_sub hl [1, 2, 3, 4, 0] rfl)
  have B142 : ∀ (K54 : Int32 → Int32 → Int32 → Int32 → Int32 → Int32 → (Nat → Int32) → (Nat → Int32) → (Nat → Int32) → (Nat → Int32) → Int32 → Int32 → Int32 → Int32 → Option (Int32 × Int32 × Int32 × Int32 × Int32 × Int32 × Int32 × (Nat → Int32) × (Nat → Int32) × (Nat → Int32) × (Nat → Int32))) (hK54 : ∀ (v_t_wind : Int32) (v_t_force : Int32) (v_t_rains : Int32) (v_t_lost : Int32) (v_t_hours : Int32) (v_t_blownMany : Int32) (f_t_stem : (Nat → Int32)) (f_t_blown : (Nat → Int32)) (f_t_heap : (Nat → Int32)) (f_t_had : (Nat → Int32)) (x2 : Int32) (x3 : Int32) (x4 : Int32) (x5 : Int32) (H : Heap) (locs : List Loc) (ls : Array Slot), K54 v_t_wind v_t_force v_t_rains v_t_lost v_t_hours v_t_blownMany f_t_stem f_t_blown f_t_heap f_t_had x2 x3 x4 x5 = some (rv, z_t_wind, z_t_force, z_t_rains, z_t_lost, z_t_hours, z_t_blownMany, z_t_stem, z_t_blown, z_t_heap, z_t_had) → gS E A s.heap (wX11_year E o_t a_t v_t_there v_t_wind v_t_force v_t_rains v_t_lost v_t_hours v_t_sights v_t_padMany v_t_acts v_t_blownMany v_t_badAct v_t_badWhy v_t_ruinAct v_t_ruinWho v_t_keptAt v_t_isWriting f_t_at f_t_stem f_t_lungs f_t_blown f_t_heap f_t_had) H locs → lv_has ls 9 [(0, .ref o_t), (2, .int x2), (3, .int x3), (4, .int x4), (5, .int x5)] → W p l e ({ frames := 6, cells := 0, slots := 0, locals := 139 } : Room) s m args below meth cd H locs 0 0 Q (F0 m 54 ls [])), ∀ (v_t_wind : Int32) (v_t_force : Int32) (v_t_rains : Int32) (v_t_lost : Int32) (v_t_hours : Int32) (v_t_blownMany : Int32) (f_t_stem : (Nat → Int32)) (f_t_blown : (Nat → Int32)) (f_t_heap : (Nat → Int32)) (f_t_had : (Nat → Int32)) (x2 : Int32) (x3 : Int32) (x4 : Int32) (x5 : Int32) (x6 : Int32) (x7 : Int32) (s0 : Int32) (H : Heap) (locs : List Loc) (ls : Array Slot), fX11_year_b142 K54 v_t_there f_t_at f_t_lungs v_t_wind v_t_force v_t_rains v_t_lost v_t_hours v_t_blownMany f_t_stem f_t_blown f_t_heap f_t_had x2 x3 x4 x5 x6 x7 s0 = some (rv, z_t_wind, z_t_force, z_t_rains, z_t_lost, z_t_hours, z_t_blownMany, z_t_stem, z_t_blown, z_t_heap, z_t_had) → gS E A s.heap (wX11_year E o_t a_t v_t_there v_t_wind v_t_force v_t_rains v_t_lost v_t_hours v_t_sights v_t_padMany v_t_acts v_t_blownMany v_t_badAct v_t_badWhy v_t_ruinAct v_t_ruinWho v_t_keptAt v_t_isWriting f_t_at f_t_stem f_t_lungs f_t_blown f_t_heap f_t_had) H locs → lv_has ls 9 [(0, .ref o_t), (2, .int x2), (3, .int x3), (4, .int x4), (5, .int x5), (6, .int x6), (7, .int x7)] → W p l e ({ frames := 6, cells := 0, slots := 0, locals := 139 } : Room) s m args below meth cd H locs 0 0 Q (F0 m 142 ls [.int s0]) := by
    intro K54 hK54 v_t_wind v_t_force v_t_rains v_t_lost v_t_hours v_t_blownMany f_t_stem f_t_blown f_t_heap f_t_had x2 x3 x4 x5 x6 x7 s0 H locs ls hf hw hl
    refine lv_istore (lv' := [(8, .int s0), (0, .ref o_t), (2, .int x2), (3, .int x3), (4, .int x4), (5, .int x5), (6, .int x6), (7, .int x7)]) hx hb dX11_year_142 hl (Nat.le_of_ble_eq_true rfl) rfl (fun ls hl => ?_)
    refine lv_aload_n hx hb dX11_year_144 rfl (lv_at hl 1 rfl) ?_
    refine lv_iload hx hb dX11_year_145 (lv_at hl 6 rfl) ?_
    refine lv_iload hx hb dX11_year_147 (lv_at hl 7 rfl) ?_
    refine lv_iload hx hb dX11_year_149 (lv_at hl 0 rfl) ?_
    obtain ⟨r1, hc2, hf⟩ := gB_s hf
    refine g_ki (is := [0, 1, 2, 3, 4, 5]) (w1 := (wX11_whyNot E o_t a_t v_t_there v_t_wind v_t_force v_t_rains v_t_lost v_t_hours v_t_sights v_t_padMany v_t_acts v_t_blownMany v_t_badAct v_t_badWhy v_t_ruinAct v_t_ruinWho v_t_keptAt v_t_isWriting f_t_at f_t_stem f_t_lungs f_t_blown f_t_heap)) (ws' := (wX11_year E o_t a_t v_t_there v_t_wind v_t_force v_t_rains v_t_lost v_t_hours v_t_sights v_t_padMany v_t_acts v_t_blownMany v_t_badAct v_t_badWhy v_t_ruinAct v_t_ruinWho v_t_keptAt v_t_isWriting f_t_at f_t_stem f_t_lungs f_t_blown f_t_heap f_t_had)) hw hA (g_rV hx hb hml hG hown hK hw (is := [0, 1, 2, 3, 4, 5]) rfl (by decide) (mX11_whyNot l E o_t a_t v_t_there v_t_wind v_t_force v_t_rains v_t_lost v_t_hours v_t_sights v_t_padMany v_t_acts v_t_blownMany v_t_badAct v_t_badWhy v_t_ruinAct v_t_ruinWho v_t_keptAt v_t_isWriting f_t_at f_t_stem f_t_lungs f_t_blown f_t_heap x6 x7 s0 r1 hc2) wd_19_20 wd_19_21 wd_19_22 wd_1_5 wd_19_23 hX11_whyNot g_allgood ⟨rfl, rfl⟩ ⟨Nat.le_of_ble_eq_true rfl, Nat.le_of_ble_eq_true rfl⟩ ⟨Nat.zero_le _, Nat.zero_le _⟩ (ci := 9) (q0 := 0) rfl rfl rfl rfl hl.1 rfl (Nat.le_of_ble_eq_true rfl) dX11_year_151) rfl rfl rfl (fun H locs hw => ?_)
    refine lv_if_ne (tgt := 167) hx hb dX11_year_154 (by decide) (fun hc => ?_) (fun hc => ?_)
    · have hf := g_f hc hf
      exact B167 K54 hK54 v_t_wind v_t_force v_t_rains v_t_lost v_t_hours v_t_blownMany f_t_stem f_t_blown f_t_heap f_t_had x2 x3 x4 x5 _ _ _ hf hw (lv_sub hl [1, 2, 3, 4, 5] rfl)
    · have hf := g_t hc hf
      refine lv_aload_n hx hb dX11_year_157 rfl (lv_at hl 1 rfl) ?_
      refine lv_iload hx hb dX11_year_158 (lv_at hl 6 rfl) ?_
      refine lv_iload hx hb dX11_year_160 (lv_at hl 7 rfl) ?_
      refine lv_iload hx hb dX11_year_162 (lv_at hl 0 rfl) ?_
      obtain ⟨r3, hc4, hf⟩ := gB_s hf
      refine g_kv (is := [0, 1, 2, 4, 5]) (w1 := (wX11_happen E o_t a_t v_t_there r3.1 r3.2.1 r3.2.2.1 r3.2.2.2.1 r3.2.2.2.2.1 v_t_sights v_t_padMany v_t_acts r3.2.2.2.2.2.1 v_t_badAct v_t_badWhy v_t_ruinAct v_t_ruinWho v_t_keptAt v_t_isWriting f_t_at r3.2.2.2.2.2.2.1 r3.2.2.2.2.2.2.2.1 r3.2.2.2.2.2.2.2.2)) (ws' := (wX11_year E o_t a_t v_t_there r3.1 r3.2.1 r3.2.2.1 r3.2.2.2.1 r3.2.2.2.2.1 v_t_sights v_t_padMany v_t_acts r3.2.2.2.2.2.1 v_t_badAct v_t_badWhy v_t_ruinAct v_t_ruinWho v_t_keptAt v_t_isWriting f_t_at r3.2.2.2.2.2.2.1 f_t_lungs r3.2.2.2.2.2.2.2.1 r3.2.2.2.2.2.2.2.2 f_t_had)) hw hA (g_rV hx hb hml hG hown hK hw (is := [0, 1, 2, 4, 5]) rfl (by decide) (mX11_happen l E o_t a_t v_t_there v_t_wind v_t_force v_t_rains v_t_lost v_t_hours v_t_sights v_t_padMany v_t_acts v_t_blownMany v_t_badAct v_t_badWhy v_t_ruinAct v_t_ruinWho v_t_keptAt v_t_isWriting f_t_at f_t_stem f_t_blown f_t_heap x6 x7 s0 r3.1 r3.2.1 r3.2.2.1 r3.2.2.2.1 r3.2.2.2.2.1 r3.2.2.2.2.2.1 r3.2.2.2.2.2.2.1 r3.2.2.2.2.2.2.2.1 r3.2.2.2.2.2.2.2.2 hc4) wd_20_12 wd_20_13 wd_20_14 wd_1_5 wd_20_15 hX11_happen g_allgood ⟨rfl, rfl⟩ ⟨Nat.le_of_ble_eq_true rfl, Nat.le_of_ble_eq_true rfl⟩ ⟨Nat.zero_le _, Nat.zero_le _⟩ (ci := 9) (q0 := 0) rfl rfl rfl rfl hl.1 rfl (Nat.le_of_ble_eq_true rfl) dX11_year_164) rfl rfl rfl (fun H locs hw => ?_)
      exact B167 K54 hK54 r3.1 r3.2.1 r3.2.2.1 r3.2.2.2.1 r3.2.2.2.2.1 r3.2.2.2.2.2.1 r3.2.2.2.2.2.2.1 r3.2.2.2.2.2.2.2.1 r3.2.2.2.2.2.2.2.2 f_t_had x2 x3 x4 x5 _ _ _ hf hw (lv_sub hl [1, 2, 3, 4, 5] rfl)
  have B112 : ∀ (K54 : Int32 → Int32 → Int32 → Int32 → Int32 → Int32 → (Nat → Int32) → (Nat → Int32) → (Nat → Int32) → (Nat → Int32) → Int32 → Int32 → Int32 → Int32 → Option (Int32 × Int32 × Int32 × Int32 × Int32 × Int32 × Int32 × (Nat → Int32) × (Nat → Int32) × (Nat → Int32) × (Nat → Int32))) (hK54 : ∀ (v_t_wind : Int32) (v_t_force : Int32) (v_t_rains : Int32) (v_t_lost : Int32) (v_t_hours : Int32) (v_t_blownMany : Int32) (f_t_stem : (Nat → Int32)) (f_t_blown : (Nat → Int32)) (f_t_heap : (Nat → Int32)) (f_t_had : (Nat → Int32)) (x2 : Int32) (x3 : Int32) (x4 : Int32) (x5 : Int32) (H : Heap) (locs : List Loc) (ls : Array Slot), K54 v_t_wind v_t_force v_t_rains v_t_lost v_t_hours v_t_blownMany f_t_stem f_t_blown f_t_heap f_t_had x2 x3 x4 x5 = some (rv, z_t_wind, z_t_force, z_t_rains, z_t_lost, z_t_hours, z_t_blownMany, z_t_stem, z_t_blown, z_t_heap, z_t_had) → gS E A s.heap (wX11_year E o_t a_t v_t_there v_t_wind v_t_force v_t_rains v_t_lost v_t_hours v_t_sights v_t_padMany v_t_acts v_t_blownMany v_t_badAct v_t_badWhy v_t_ruinAct v_t_ruinWho v_t_keptAt v_t_isWriting f_t_at f_t_stem f_t_lungs f_t_blown f_t_heap f_t_had) H locs → lv_has ls 9 [(0, .ref o_t), (2, .int x2), (3, .int x3), (4, .int x4), (5, .int x5)] → W p l e ({ frames := 6, cells := 0, slots := 0, locals := 139 } : Room) s m args below meth cd H locs 0 0 Q (F0 m 54 ls [])), ∀ (v_t_wind : Int32) (v_t_force : Int32) (v_t_rains : Int32) (v_t_lost : Int32) (v_t_hours : Int32) (v_t_blownMany : Int32) (f_t_stem : (Nat → Int32)) (f_t_blown : (Nat → Int32)) (f_t_heap : (Nat → Int32)) (f_t_had : (Nat → Int32)) (x2 : Int32) (x3 : Int32) (x4 : Int32) (x5 : Int32) (x6 : Int32) (s0 : Int32) (H : Heap) (locs : List Loc) (ls : Array Slot), fX11_year_b112 K54 v_t_there f_t_at f_t_lungs v_t_wind v_t_force v_t_rains v_t_lost v_t_hours v_t_blownMany f_t_stem f_t_blown f_t_heap f_t_had x2 x3 x4 x5 x6 s0 = some (rv, z_t_wind, z_t_force, z_t_rains, z_t_lost, z_t_hours, z_t_blownMany, z_t_stem, z_t_blown, z_t_heap, z_t_had) → gS E A s.heap (wX11_year E o_t a_t v_t_there v_t_wind v_t_force v_t_rains v_t_lost v_t_hours v_t_sights v_t_padMany v_t_acts v_t_blownMany v_t_badAct v_t_badWhy v_t_ruinAct v_t_ruinWho v_t_keptAt v_t_isWriting f_t_at f_t_stem f_t_lungs f_t_blown f_t_heap f_t_had) H locs → lv_has ls 9 [(0, .ref o_t), (2, .int x2), (3, .int x3), (4, .int x4), (5, .int x5), (6, .int x6)] → W p l e ({ frames := 6, cells := 0, slots := 0, locals := 139 } : Room) s m args below meth cd H locs 0 0 Q (F0 m 112 ls [.int s0]) := by
    intro K54 hK54 v_t_wind v_t_force v_t_rains v_t_lost v_t_hours v_t_blownMany f_t_stem f_t_blown f_t_heap f_t_had x2 x3 x4 x5 x6 s0 H locs ls hf hw hl
    refine lv_istore (lv' := [(7, .int s0), (0, .ref o_t), (2, .int x2), (3, .int x3), (4, .int x4), (5, .int x5), (6, .int x6)]) hx hb dX11_year_112 hl (Nat.le_of_ble_eq_true rfl) rfl (fun ls hl => ?_)
    refine lv_iload hx hb dX11_year_114 (lv_at hl 6 rfl) ?_
    refine lv_iconst (v := 3) hx hb dX11_year_116 k_i3 ?_
    refine lv_icmp_ne (tgt := 132) hx hb dX11_year_117 (by decide) (fun hc => ?_) (fun hc => ?_)
    · have hf := g_f hc hf
      refine lv_iconst (v := 1) hx hb dX11_year_132 k_i1 ?_
      refine lv_iload hx hb dX11_year_133 (lv_at hl 4 rfl) ?_
      refine lv_bipush (v := 48) hx hb dX11_year_135 k_b48 ?_
      refine lv_idiv hx hb dX11_year_137 (by decide) ?_
      refine lv_bipush (v := 9) hx hb dX11_year_138 k_b9 ?_
      refine g_irem hx hb dX11_year_140 (by decide) ?_
      refine lv_iadd hx hb dX11_year_141 ?_
      exact B142 K54 hK54 v_t_wind v_t_force v_t_rains v_t_lost v_t_hours v_t_blownMany f_t_stem f_t_blown f_t_heap f_t_had x2 x3 x4 x5 x6 s0 (1 + ((x4 / 48) % 9)) _ _ _ hf hw (lv_sub hl [1, 2, 3, 4, 5, 6, 0] rfl)
    · have hf := g_t hc hf
      refine lv_iload hx hb dX11_year_120 (lv_at hl 4 rfl) ?_
      refine lv_sipush (v := 192) hx hb dX11_year_122 k_s192 ?_
      refine lv_idiv hx hb dX11_year_125 (by decide) ?_
      refine lv_bipush (v := 6) hx hb dX11_year_126 k_b6 ?_
      refine g_irem hx hb dX11_year_128 (by decide) ?_
      refine lv_goto (tgt := 142) hx hb dX11_year_129 (by decide) ?_
      exact B142 K54 hK54 v_t_wind v_t_force v_t_rains v_t_lost v_t_hours v_t_blownMany f_t_stem f_t_blown f_t_heap f_t_had x2 x3 x4 x5 x6 s0 ((x4 / 192) % 6) _ _ _ hf hw (lv_sub hl [1, 2, 3, 4, 5, 6, 0] rfl)
  have B200 : ∀ (v_t_wind : Int32) (v_t_force : Int32) (v_t_rains : Int32) (v_t_lost : Int32) (v_t_hours : Int32) (v_t_blownMany : Int32) (f_t_stem : (Nat → Int32)) (f_t_blown : (Nat → Int32)) (f_t_heap : (Nat → Int32)) (f_t_had : (Nat → Int32)) (s0 : Int32) (H : Heap) (locs : List Loc) (ls : Array Slot), fX11_year_b200 v_t_wind v_t_force v_t_rains v_t_lost v_t_hours v_t_blownMany f_t_stem f_t_blown f_t_heap f_t_had s0 = some (rv, z_t_wind, z_t_force, z_t_rains, z_t_lost, z_t_hours, z_t_blownMany, z_t_stem, z_t_blown, z_t_heap, z_t_had) → gS E A s.heap (wX11_year E o_t a_t v_t_there v_t_wind v_t_force v_t_rains v_t_lost v_t_hours v_t_sights v_t_padMany v_t_acts v_t_blownMany v_t_badAct v_t_badWhy v_t_ruinAct v_t_ruinWho v_t_keptAt v_t_isWriting f_t_at f_t_stem f_t_lungs f_t_blown f_t_heap f_t_had) H locs → lv_has ls 9 [(0, .ref o_t)] → W p l e ({ frames := 6, cells := 0, slots := 0, locals := 139 } : Room) s m args below meth cd H locs 0 0 Q (F0 m 200 ls [.int s0]) := by
    intro  v_t_wind v_t_force v_t_rains v_t_lost v_t_hours v_t_blownMany f_t_stem f_t_blown f_t_heap f_t_had s0 H locs ls hf hw hl
    refine lv_istore (lv' := [(5, .int s0), (0, .ref o_t)]) hx hb dX11_year_200 hl (Nat.le_of_ble_eq_true rfl) rfl (fun ls hl => ?_)
    refine lv_aload_n hx hb dX11_year_202 rfl (lv_at hl 1 rfl) ?_
    refine lv_iload hx hb dX11_year_203 (lv_at hl 0 rfl) ?_
    obtain ⟨r5, hc6, hf⟩ := gB_s hf
    refine g_ki (is := [0, 2, 4, 5, 6]) (w1 := (wX11_back E o_t a_t v_t_there r5.2.1 r5.2.2.1 r5.2.2.2.1 r5.2.2.2.2.1 r5.2.2.2.2.2.1 v_t_sights v_t_padMany v_t_acts v_t_blownMany v_t_badAct v_t_badWhy v_t_ruinAct v_t_ruinWho v_t_keptAt v_t_isWriting r5.2.2.2.2.2.2.1 r5.2.2.2.2.2.2.2.1 r5.2.2.2.2.2.2.2.2 f_t_had)) (ws' := (wX11_year E o_t a_t v_t_there r5.2.1 r5.2.2.1 r5.2.2.2.1 r5.2.2.2.2.1 r5.2.2.2.2.2.1 v_t_sights v_t_padMany v_t_acts v_t_blownMany v_t_badAct v_t_badWhy v_t_ruinAct v_t_ruinWho v_t_keptAt v_t_isWriting f_t_at r5.2.2.2.2.2.2.1 f_t_lungs r5.2.2.2.2.2.2.2.1 r5.2.2.2.2.2.2.2.2 f_t_had)) hw hA (g_rV hx hb hml hG hown hK hw (is := [0, 2, 4, 5, 6]) rfl (by decide) (mX11_back l E o_t a_t v_t_there v_t_wind v_t_force v_t_rains v_t_lost v_t_hours v_t_sights v_t_padMany v_t_acts v_t_blownMany v_t_badAct v_t_badWhy v_t_ruinAct v_t_ruinWho v_t_keptAt v_t_isWriting f_t_stem f_t_blown f_t_heap f_t_had s0 r5.1 r5.2.1 r5.2.2.1 r5.2.2.2.1 r5.2.2.2.2.1 r5.2.2.2.2.2.1 r5.2.2.2.2.2.2.1 r5.2.2.2.2.2.2.2.1 r5.2.2.2.2.2.2.2.2 hc6) wd_22_0 wd_22_1 wd_22_2 wd_1_5 wd_22_3 hX11_back g_allgood ⟨rfl, rfl⟩ ⟨Nat.le_of_ble_eq_true rfl, Nat.le_of_ble_eq_true rfl⟩ ⟨Nat.zero_le _, Nat.zero_le _⟩ (ci := 9) (q0 := 0) rfl rfl rfl rfl hl.1 rfl (Nat.le_of_ble_eq_true rfl) dX11_year_205) rfl rfl rfl (fun H locs hw => ?_)
    exact hret1 r5.1 r5.2.1 r5.2.2.1 r5.2.2.2.1 r5.2.2.2.2.1 r5.2.2.2.2.2.1 v_t_blownMany r5.2.2.2.2.2.2.1 r5.2.2.2.2.2.2.2.1 r5.2.2.2.2.2.2.2.2 f_t_had _ _ _ _ hf hw dX11_year_208
  have B54 : ∀ n : Nat, ∀ (v_t_wind : Int32) (v_t_force : Int32) (v_t_rains : Int32) (v_t_lost : Int32) (v_t_hours : Int32) (v_t_blownMany : Int32) (f_t_stem : (Nat → Int32)) (f_t_blown : (Nat → Int32)) (f_t_heap : (Nat → Int32)) (f_t_had : (Nat → Int32)) (x2 : Int32) (x3 : Int32) (x4 : Int32) (x5 : Int32) (H : Heap) (locs : List Loc) (ls : Array Slot), fX11_year_b54 v_t_there f_t_at f_t_lungs n v_t_wind v_t_force v_t_rains v_t_lost v_t_hours v_t_blownMany f_t_stem f_t_blown f_t_heap f_t_had x2 x3 x4 x5 = some (rv, z_t_wind, z_t_force, z_t_rains, z_t_lost, z_t_hours, z_t_blownMany, z_t_stem, z_t_blown, z_t_heap, z_t_had) → gS E A s.heap (wX11_year E o_t a_t v_t_there v_t_wind v_t_force v_t_rains v_t_lost v_t_hours v_t_sights v_t_padMany v_t_acts v_t_blownMany v_t_badAct v_t_badWhy v_t_ruinAct v_t_ruinWho v_t_keptAt v_t_isWriting f_t_at f_t_stem f_t_lungs f_t_blown f_t_heap f_t_had) H locs → lv_has ls 9 [(0, .ref o_t), (2, .int x2), (3, .int x3), (4, .int x4), (5, .int x5)] → W p l e ({ frames := 6, cells := 0, slots := 0, locals := 139 } : Room) s m args below meth cd H locs 0 0 Q (F0 m 54 ls []) := by
    intro n
    induction n with
    | zero => intro v_t_wind v_t_force v_t_rains v_t_lost v_t_hours v_t_blownMany f_t_stem f_t_blown f_t_heap f_t_had x2 x3 x4 x5 H locs ls hf hw hl; exact g_no hf
    | succ n ih =>
      intro v_t_wind v_t_force v_t_rains v_t_lost v_t_hours v_t_blownMany f_t_stem f_t_blown f_t_heap f_t_had x2 x3 x4 x5 H locs ls hf hw hl
      refine lv_iload hx hb dX11_year_54 (lv_at hl 4 rfl) ?_
      refine lv_iload_n hx hb dX11_year_56 rfl (lv_at hl 1 rfl) ?_
      refine lv_icmp_ge (tgt := 173) hx hb dX11_year_57 (by decide) (fun hc => ?_) (fun hc => ?_)
      · have hf := g_t hc hf
        refine lv_iload_n hx hb dX11_year_173 rfl (lv_at hl 2 rfl) ?_
        refine lv_if_ne (tgt := 184) hx hb dX11_year_174 (by decide) (fun hc => ?_) (fun hc => ?_)
        · have hf := g_f hc hf
          refine lv_iload_n hx hb dX11_year_184 rfl (lv_at hl 2 rfl) ?_
          refine lv_iconst (v := 1) hx hb dX11_year_185 k_i1 ?_
          refine lv_icmp_ne (tgt := 196) hx hb dX11_year_186 (by decide) (fun hc => ?_) (fun hc => ?_)
          · have hf := g_f hc hf
            refine lv_aload_n hx hb dX11_year_196 rfl (lv_at hl 0 rfl) ?_
            refine g_get hx hb hG hown hK hw inlX11 (ci := 9) rfl 0 9 (Nat.le_of_ble_eq_true rfl) rfl rfl wd_10_5 dX11_year_197 ?_
            exact B200 v_t_wind v_t_force v_t_rains v_t_lost v_t_hours v_t_blownMany f_t_stem f_t_blown f_t_heap f_t_had v_t_lost _ _ _ hf hw (lv_sub hl [0] rfl)
          · have hf := g_t hc hf
            refine lv_aload_n hx hb dX11_year_189 rfl (lv_at hl 0 rfl) ?_
            obtain ⟨r7, hc8, hf⟩ := gB_s hf
            refine g_ki (is := [0, 5]) (w1 := (wX11_allLies E o_t a_t v_t_there v_t_wind v_t_force v_t_rains v_t_lost v_t_hours v_t_sights v_t_padMany v_t_acts v_t_blownMany v_t_badAct v_t_badWhy v_t_ruinAct v_t_ruinWho v_t_keptAt v_t_isWriting f_t_heap)) (ws' := (wX11_year E o_t a_t v_t_there v_t_wind v_t_force v_t_rains v_t_lost v_t_hours v_t_sights v_t_padMany v_t_acts v_t_blownMany v_t_badAct v_t_badWhy v_t_ruinAct v_t_ruinWho v_t_keptAt v_t_isWriting f_t_at f_t_stem f_t_lungs f_t_blown f_t_heap f_t_had)) hw hA (g_rV hx hb hml hG hown hK hw (is := [0, 5]) rfl (by decide) (mX11_allLies l E o_t a_t v_t_there v_t_wind v_t_force v_t_rains v_t_lost v_t_hours v_t_sights v_t_padMany v_t_acts v_t_blownMany v_t_badAct v_t_badWhy v_t_ruinAct v_t_ruinWho v_t_keptAt v_t_isWriting f_t_heap r7 hc8) wd_24_2 wd_24_3 wd_24_4 wd_1_5 wd_24_5 hX11_allLies g_allgood ⟨rfl, rfl⟩ ⟨Nat.le_of_ble_eq_true rfl, Nat.le_of_ble_eq_true rfl⟩ ⟨Nat.zero_le _, Nat.zero_le _⟩ (ci := 9) (q0 := 0) rfl rfl rfl rfl hl.1 rfl (Nat.le_of_ble_eq_true rfl) dX11_year_190) rfl rfl rfl (fun H locs hw => ?_)
            refine lv_goto (tgt := 200) hx hb dX11_year_193 (by decide) ?_
            exact B200 v_t_wind v_t_force v_t_rains v_t_lost v_t_hours v_t_blownMany f_t_stem f_t_blown f_t_heap f_t_had r7 _ _ _ hf hw (lv_sub hl [0] rfl)
        · have hf := g_t hc hf
          refine lv_aload_n hx hb dX11_year_177 rfl (lv_at hl 0 rfl) ?_
          obtain ⟨r9, hc10, hf⟩ := gB_s hf
          refine g_ki (is := [0, 2]) (w1 := (wX11_allSeeds E o_t a_t v_t_there v_t_wind v_t_force v_t_rains v_t_lost v_t_hours v_t_sights v_t_padMany v_t_acts v_t_blownMany v_t_badAct v_t_badWhy v_t_ruinAct v_t_ruinWho v_t_keptAt v_t_isWriting f_t_stem)) (ws' := (wX11_year E o_t a_t v_t_there v_t_wind v_t_force v_t_rains v_t_lost v_t_hours v_t_sights v_t_padMany v_t_acts v_t_blownMany v_t_badAct v_t_badWhy v_t_ruinAct v_t_ruinWho v_t_keptAt v_t_isWriting f_t_at f_t_stem f_t_lungs f_t_blown f_t_heap f_t_had)) hw hA (g_rV hx hb hml hG hown hK hw (is := [0, 2]) rfl (by decide) (mX11_allSeeds l E o_t a_t v_t_there v_t_wind v_t_force v_t_rains v_t_lost v_t_hours v_t_sights v_t_padMany v_t_acts v_t_blownMany v_t_badAct v_t_badWhy v_t_ruinAct v_t_ruinWho v_t_keptAt v_t_isWriting f_t_stem r9 hc10) wd_23_22 wd_23_23 wd_24_0 wd_1_5 wd_24_1 hX11_allSeeds g_allgood ⟨rfl, rfl⟩ ⟨Nat.le_of_ble_eq_true rfl, Nat.le_of_ble_eq_true rfl⟩ ⟨Nat.zero_le _, Nat.zero_le _⟩ (ci := 9) (q0 := 0) rfl rfl rfl rfl hl.1 rfl (Nat.le_of_ble_eq_true rfl) dX11_year_178) rfl rfl rfl (fun H locs hw => ?_)
          refine lv_goto (tgt := 200) hx hb dX11_year_181 (by decide) ?_
          exact B200 v_t_wind v_t_force v_t_rains v_t_lost v_t_hours v_t_blownMany f_t_stem f_t_blown f_t_heap f_t_had r9 _ _ _ hf hw (lv_sub hl [0] rfl)
      · have hf := g_f hc hf
        refine lv_ldc2 hx hb hown (hG _ wd_36_9) dX11_year_60 ?_
        refine lv_iload hx hb dX11_year_63 (lv_at hl 3 rfl) ?_
        refine lv_i2l hx hb dX11_year_65 rfl ?_
        refine lv_lmul hx hb dX11_year_66 ?_
        refine lv_ldc2 hx hb hown (hG _ wd_36_10) dX11_year_67 ?_
        refine lv_ladd hx hb dX11_year_70 ?_
        refine lv_ldc2 hx hb hown (hG _ wd_36_11) dX11_year_71 ?_
        refine lv_lrem hx hb dX11_year_74 (by decide) ?_
        refine lv_l2i hx hb dX11_year_75 rfl ?_
        refine lv_istore (lv' := [(4, .int (Int64.toInt32 (((75 * (Int32.toInt64 x4)) + 74) - ((75 * (Int32.toInt64 x4)) + 74) / 65537 * 65537))), (0, .ref o_t), (2, .int x2), (3, .int x3), (5, .int x5)]) hx hb dX11_year_76 hl (Nat.le_of_ble_eq_true rfl) rfl (fun ls hl => ?_)
        refine lv_iload hx hb dX11_year_78 (lv_at hl 0 rfl) ?_
        refine lv_bipush (v := 6) hx hb dX11_year_80 k_b6 ?_
        refine lv_idiv hx hb dX11_year_82 (by decide) ?_
        refine lv_bipush (v := 8) hx hb dX11_year_83 k_b8 ?_
        refine g_irem hx hb dX11_year_85 (by decide) ?_
        obtain ⟨r11, hc12, hf⟩ := gB_s hf
        refine g_ki (is := []) (w1 := (wX11_actBy E)) (ws' := (wX11_year E o_t a_t v_t_there v_t_wind v_t_force v_t_rains v_t_lost v_t_hours v_t_sights v_t_padMany v_t_acts v_t_blownMany v_t_badAct v_t_badWhy v_t_ruinAct v_t_ruinWho v_t_keptAt v_t_isWriting f_t_at f_t_stem f_t_lungs f_t_blown f_t_heap f_t_had)) hw hA (g_rS hx hb hml hG hown hK hw (is := []) rfl (by decide) (mX11_actBy l E (((Int64.toInt32 (((75 * (Int32.toInt64 x4)) + 74) - ((75 * (Int32.toInt64 x4)) + 74) / 65537 * 65537)) / 6) % 8) r11 hc12) wd_36_12 wd_36_13 wd_1_5 wd_36_14 hX11_actBy g_allgood ⟨rfl, rfl⟩ ⟨Nat.le_of_ble_eq_true rfl, Nat.le_of_ble_eq_true rfl⟩ ⟨Nat.zero_le _, Nat.zero_le _⟩ rfl hl.1 rfl (Nat.le_of_ble_eq_true rfl) dX11_year_86) rfl rfl rfl (fun H locs hw => ?_)
        refine lv_istore (lv' := [(6, .int r11), (4, .int (Int64.toInt32 (((75 * (Int32.toInt64 x4)) + 74) - ((75 * (Int32.toInt64 x4)) + 74) / 65537 * 65537))), (0, .ref o_t), (2, .int x2), (3, .int x3), (5, .int x5)]) hx hb dX11_year_89 hl (Nat.le_of_ble_eq_true rfl) rfl (fun ls hl => ?_)
        refine lv_iload hx hb dX11_year_91 (lv_at hl 0 rfl) ?_
        refine lv_iconst (v := 3) hx hb dX11_year_93 k_i3 ?_
        refine lv_icmp_ne (tgt := 107) hx hb dX11_year_94 (by decide) (fun hc => ?_) (fun hc => ?_)
        · have hf := g_f hc hf
          refine lv_iload hx hb dX11_year_107 (lv_at hl 1 rfl) ?_
          refine lv_bipush (v := 6) hx hb dX11_year_109 k_b6 ?_
          refine g_irem hx hb dX11_year_111 (by decide) ?_
          exact B112 (fX11_year_b54 v_t_there f_t_at f_t_lungs n) ih v_t_wind v_t_force v_t_rains v_t_lost v_t_hours v_t_blownMany f_t_stem f_t_blown f_t_heap f_t_had x2 x3 (Int64.toInt32 (((75 * (Int32.toInt64 x4)) + 74) - ((75 * (Int32.toInt64 x4)) + 74) / 65537 * 65537)) x5 r11 ((Int64.toInt32 (((75 * (Int32.toInt64 x4)) + 74) - ((75 * (Int32.toInt64 x4)) + 74) / 65537 * 65537)) % 6) _ _ _ hf hw (lv_sub hl [2, 3, 4, 1, 5, 0] rfl)
        · have hf := g_t hc hf
          refine lv_iload hx hb dX11_year_97 (lv_at hl 1 rfl) ?_
          refine lv_bipush (v := 48) hx hb dX11_year_99 k_b48 ?_
          refine lv_idiv hx hb dX11_year_101 (by decide) ?_
          refine lv_iconst (v := 4) hx hb dX11_year_102 k_i4 ?_
          refine g_irem hx hb dX11_year_103 (by decide) ?_
          refine lv_goto (tgt := 112) hx hb dX11_year_104 (by decide) ?_
          exact B112 (fX11_year_b54 v_t_there f_t_at f_t_lungs n) ih v_t_wind v_t_force v_t_rains v_t_lost v_t_hours v_t_blownMany f_t_stem f_t_blown f_t_heap f_t_had x2 x3 (Int64.toInt32 (((75 * (Int32.toInt64 x4)) + 74) - ((75 * (Int32.toInt64 x4)) + 74) / 65537 * 65537)) x5 r11 (((Int64.toInt32 (((75 * (Int32.toInt64 x4)) + 74) - ((75 * (Int32.toInt64 x4)) + 74) / 65537 * 65537)) / 48) % 4) _ _ _ hf hw (lv_sub hl [2, 3, 4, 1, 5, 0] rfl)
  refine lv_iload_n hx hb dX11_year_0 rfl (lv_at hl 1 rfl) ?_
  refine lv_i2l hx hb dX11_year_1 rfl ?_
  refine lv_lconst (v := 0) hx hb dX11_year_2 k_l0 ?_
  refine lv_ldc2 hx hb hown (hG _ wd_36_8) dX11_year_3 ?_
  obtain ⟨r13, hc14, hf⟩ := gB_s hf
  refine g_ki (is := []) (w1 := (wX11_in E)) (ws' := (wX11_year E o_t a_t v_t_there v_t_wind v_t_force v_t_rains v_t_lost v_t_hours v_t_sights v_t_padMany v_t_acts v_t_blownMany v_t_badAct v_t_badWhy v_t_ruinAct v_t_ruinWho v_t_keptAt v_t_isWriting f_t_at f_t_stem f_t_lungs f_t_blown f_t_heap f_t_had)) hw hA (g_rS hx hb hml hG hown hK hw (is := []) rfl (by decide) (mX11_in l E (Int32.toInt64 x1) 0 9999 r13 hc14) wd_8_10 wd_8_11 wd_1_5 wd_8_12 hX11_in g_allgood ⟨rfl, rfl⟩ ⟨Nat.le_of_ble_eq_true rfl, Nat.le_of_ble_eq_true rfl⟩ ⟨Nat.zero_le _, Nat.zero_le _⟩ rfl hl.1 rfl (Nat.le_of_ble_eq_true rfl) dX11_year_6) rfl rfl rfl (fun H locs hw => ?_)
  refine lv_if_eq (tgt := 36) hx hb dX11_year_9 (by decide) (fun hc => ?_) (fun hc => ?_)
  · have hf := g_t hc hf
    exact B36 v_t_wind v_t_force v_t_rains v_t_lost v_t_hours v_t_blownMany f_t_stem f_t_blown f_t_heap f_t_had _ _ _ hf hw (lv_sub hl [] rfl)
  · have hf := g_f hc hf
    refine lv_iload_n hx hb dX11_year_12 rfl (lv_at hl 2 rfl) ?_
    refine lv_i2l hx hb dX11_year_13 rfl ?_
    refine lv_lconst (v := 1) hx hb dX11_year_14 k_l1 ?_
    refine lv_ldc2 hx hb hown (hG _ wd_35_10) dX11_year_15 ?_
    obtain ⟨r15, hc16, hf⟩ := gB_s hf
    refine g_ki (is := []) (w1 := (wX11_in E)) (ws' := (wX11_year E o_t a_t v_t_there v_t_wind v_t_force v_t_rains v_t_lost v_t_hours v_t_sights v_t_padMany v_t_acts v_t_blownMany v_t_badAct v_t_badWhy v_t_ruinAct v_t_ruinWho v_t_keptAt v_t_isWriting f_t_at f_t_stem f_t_lungs f_t_blown f_t_heap f_t_had)) hw hA (g_rS hx hb hml hG hown hK hw (is := []) rfl (by decide) (mX11_in l E (Int32.toInt64 x2) 1 99 r15 hc16) wd_8_10 wd_8_11 wd_1_5 wd_8_12 hX11_in g_allgood ⟨rfl, rfl⟩ ⟨Nat.le_of_ble_eq_true rfl, Nat.le_of_ble_eq_true rfl⟩ ⟨Nat.zero_le _, Nat.zero_le _⟩ rfl hl.1 rfl (Nat.le_of_ble_eq_true rfl) dX11_year_18) rfl rfl rfl (fun H locs hw => ?_)
    refine lv_if_eq (tgt := 36) hx hb dX11_year_21 (by decide) (fun hc => ?_) (fun hc => ?_)
    · have hf := g_t hc hf
      exact B36 v_t_wind v_t_force v_t_rains v_t_lost v_t_hours v_t_blownMany f_t_stem f_t_blown f_t_heap f_t_had _ _ _ hf hw (lv_sub hl [] rfl)
    · have hf := g_f hc hf
      refine lv_iload_n hx hb dX11_year_24 rfl (lv_at hl 3 rfl) ?_
      refine lv_i2l hx hb dX11_year_25 rfl ?_
      refine lv_lconst (v := 0) hx hb dX11_year_26 k_l0 ?_
      refine lv_ldc2 hx hb hown (hG _ wd_11_15) dX11_year_27 ?_
      obtain ⟨r17, hc18, hf⟩ := gB_s hf
      refine g_ki (is := []) (w1 := (wX11_in E)) (ws' := (wX11_year E o_t a_t v_t_there v_t_wind v_t_force v_t_rains v_t_lost v_t_hours v_t_sights v_t_padMany v_t_acts v_t_blownMany v_t_badAct v_t_badWhy v_t_ruinAct v_t_ruinWho v_t_keptAt v_t_isWriting f_t_at f_t_stem f_t_lungs f_t_blown f_t_heap f_t_had)) hw hA (g_rS hx hb hml hG hown hK hw (is := []) rfl (by decide) (mX11_in l E (Int32.toInt64 x3) 0 2 r17 hc18) wd_8_10 wd_8_11 wd_1_5 wd_8_12 hX11_in g_allgood ⟨rfl, rfl⟩ ⟨Nat.le_of_ble_eq_true rfl, Nat.le_of_ble_eq_true rfl⟩ ⟨Nat.zero_le _, Nat.zero_le _⟩ rfl hl.1 rfl (Nat.le_of_ble_eq_true rfl) dX11_year_30) rfl rfl rfl (fun H locs hw => ?_)
      refine lv_if_ne (tgt := 39) hx hb dX11_year_33 (by decide) (fun hc => ?_) (fun hc => ?_)
      · have hf := g_f hc hf
        refine lv_aload_n hx hb dX11_year_39 rfl (lv_at hl 0 rfl) ?_
        obtain ⟨r19, hc20, hf⟩ := gB_s hf
        refine g_kv (is := [0, 2, 4, 5, 6]) (w1 := (wX11_keepNow E o_t a_t v_t_there v_t_wind v_t_force v_t_rains v_t_lost v_t_hours v_t_sights v_t_padMany v_t_acts v_t_blownMany v_t_badAct v_t_badWhy v_t_ruinAct v_t_ruinWho v_t_keptAt v_t_isWriting f_t_stem f_t_blown f_t_heap r19)) (ws' := (wX11_year E o_t a_t v_t_there v_t_wind v_t_force v_t_rains v_t_lost v_t_hours v_t_sights v_t_padMany v_t_acts v_t_blownMany v_t_badAct v_t_badWhy v_t_ruinAct v_t_ruinWho v_t_keptAt v_t_isWriting f_t_at f_t_stem f_t_lungs f_t_blown f_t_heap r19)) hw hA (g_rV hx hb hml hG hown hK hw (is := [0, 2, 4, 5, 6]) rfl (by decide) (mX11_keepNow l E o_t a_t v_t_there v_t_wind v_t_force v_t_rains v_t_lost v_t_hours v_t_sights v_t_padMany v_t_acts v_t_blownMany v_t_badAct v_t_badWhy v_t_ruinAct v_t_ruinWho v_t_keptAt v_t_isWriting f_t_stem f_t_blown f_t_heap f_t_had r19 hc20) wd_19_8 wd_19_9 wd_19_10 wd_1_5 wd_19_11 hX11_keepNow g_allgood ⟨rfl, rfl⟩ ⟨Nat.le_of_ble_eq_true rfl, Nat.le_of_ble_eq_true rfl⟩ ⟨Nat.zero_le _, Nat.zero_le _⟩ (ci := 9) (q0 := 0) rfl rfl rfl rfl hl.1 rfl (Nat.le_of_ble_eq_true rfl) dX11_year_40) rfl rfl rfl (fun H locs hw => ?_)
        refine lv_aload_n hx hb dX11_year_43 rfl (lv_at hl 0 rfl) ?_
        refine lv_iconst (v := 0) hx hb dX11_year_44 k_i0 ?_
        refine g_put (ws' := (wX11_year E o_t a_t v_t_there v_t_wind v_t_force v_t_rains v_t_lost v_t_hours v_t_sights v_t_padMany v_t_acts 0 v_t_badAct v_t_badWhy v_t_ruinAct v_t_ruinWho v_t_keptAt v_t_isWriting f_t_at f_t_stem f_t_lungs f_t_blown f_t_heap r19)) hx hb hG hown hK hw inlX11 tyX11_ok nmX11 (ci := 9) rfl 0 20 (Nat.le_of_ble_eq_true rfl) rfl wd_19_3 rfl rfl rfl (Nat.le_of_ble_eq_true rfl) rfl dX11_year_45 (fun H locs hw => ?_)
        refine lv_iload_n hx hb dX11_year_48 rfl (lv_at hl 1 rfl) ?_
        refine lv_istore (lv' := [(4, .int x1), (0, .ref o_t), (1, .int x1), (2, .int x2), (3, .int x3)]) hx hb dX11_year_49 hl (Nat.le_of_ble_eq_true rfl) rfl (fun ls hl => ?_)
        refine lv_iconst (v := 0) hx hb dX11_year_51 k_i0 ?_
        refine lv_istore (lv' := [(5, .int 0), (4, .int x1), (0, .ref o_t), (1, .int x1), (2, .int x2), (3, .int x3)]) hx hb dX11_year_52 hl (Nat.le_of_ble_eq_true rfl) rfl (fun ls hl => ?_)
        exact B54 1000 v_t_wind v_t_force v_t_rains v_t_lost v_t_hours 0 f_t_stem f_t_blown f_t_heap r19 x2 x3 x1 0 _ _ _ hf hw (lv_sub hl [2, 4, 5, 1, 0] rfl)
      · have hf := g_t hc hf
        exact B36 v_t_wind v_t_force v_t_rains v_t_lost v_t_hours v_t_blownMany f_t_stem f_t_blown f_t_heap f_t_had _ _ _ hf hw (lv_sub hl [] rfl)
theorem hX11_pass : yX11_pass.cls = RX11 ∧ yX11_pass.cls ≠ "java/lang/invoke/MethodHandle" ∧ yX11_pass.cls ≠ "java/lang/invoke/VarHandle" ∧ (parseMethodDescriptor yX11_pass.desc).map (fun d => d.parameters.length) = some 1 := by decide +kernel
set_option maxHeartbeats 4000000 in
set_option maxRecDepth 100000 in
theorem mX11_pass (l : Launch) (E : gE) (o_t : Nat) (a_t : (Nat → Nat)) (v_t_there : Int32) (v_t_wind : Int32) (v_t_force : Int32) (v_t_rains : Int32) (v_t_lost : Int32) (v_t_hours : Int32) (v_t_sights : Int32) (v_t_padMany : Int32) (v_t_acts : Int32) (v_t_blownMany : Int32) (v_t_badAct : Int32) (v_t_badWhy : Int32) (v_t_ruinAct : Int32) (v_t_ruinWho : Int32) (v_t_keptAt : Int32) (v_t_isWriting : Int32) (f_t_kept : (Nat → Int32)) (x1 : Int32) (rv : Int32) (z_t_keptAt : Int32) (z_t_kept : (Nat → Int32)) (hf : fX11_pass v_t_keptAt v_t_isWriting f_t_kept x1 = some (rv, z_t_keptAt, z_t_kept)) {sz : Nat} : gMi l yX11_pass (gW yX11_pass cX11_pass 3 (some .int)) ({ frames := 0, cells := 0, slots := 0, locals := 0 } : Room) E [.ref o_t, .int x1] (wX11_pass E o_t a_t v_t_there v_t_wind v_t_force v_t_rains v_t_lost v_t_hours v_t_sights v_t_padMany v_t_acts v_t_blownMany v_t_badAct v_t_badWhy v_t_ruinAct v_t_ruinWho v_t_keptAt v_t_isWriting f_t_kept) sz rv (wX11_pass E o_t a_t v_t_there v_t_wind v_t_force v_t_rains v_t_lost v_t_hours v_t_sights v_t_padMany v_t_acts v_t_blownMany v_t_badAct v_t_badWhy v_t_ruinAct v_t_ruinWho z_t_keptAt v_t_isWriting z_t_kept) := by
  refine g_openI (own := RX11) (by decide) rfl (Nat.le_of_ble_eq_true rfl) (fun p e s m args below meth cd Q A hx hb hml hown hG hK hA hret hw ls hl => ?_)
  have hl : lv_has ls 3 [(0, .ref o_t), (1, .int x1)] := hl
  have hret1 : ∀ (v : Int32) (v_t_keptAt : Int32) (f_t_kept : (Nat → Int32)) (H : Heap) (locs : List Loc) (pc : Nat) (ls : Array Slot), some (v, v_t_keptAt, f_t_kept) = some (rv, z_t_keptAt, z_t_kept) → gS E A s.heap (wX11_pass E o_t a_t v_t_there v_t_wind v_t_force v_t_rains v_t_lost v_t_hours v_t_sights v_t_padMany v_t_acts v_t_blownMany v_t_badAct v_t_badWhy v_t_ruinAct v_t_ruinWho v_t_keptAt v_t_isWriting f_t_kept) H locs → decode cX11_pass pc = .ok (.ireturn, 1) → W p l e ({ frames := 0, cells := 0, slots := 0, locals := 0 } : Room) s m args below meth cd H locs 0 0 Q (F0 m pc ls [.int v]) := by
    intro v v_t_keptAt f_t_kept H locs pc ls h hw hd
    cases h
    exact hret H locs pc ls hw hd
  have B20 : ∀ (v_t_keptAt : Int32) (f_t_kept : (Nat → Int32)) (s0 : Int32) (H : Heap) (locs : List Loc) (ls : Array Slot), fX11_pass_b20 v_t_keptAt f_t_kept s0 = some (rv, z_t_keptAt, z_t_kept) → gS E A s.heap (wX11_pass E o_t a_t v_t_there v_t_wind v_t_force v_t_rains v_t_lost v_t_hours v_t_sights v_t_padMany v_t_acts v_t_blownMany v_t_badAct v_t_badWhy v_t_ruinAct v_t_ruinWho v_t_keptAt v_t_isWriting f_t_kept) H locs → lv_has ls 3 [(0, .ref o_t)] → W p l e ({ frames := 0, cells := 0, slots := 0, locals := 0 } : Room) s m args below meth cd H locs 0 0 Q (F0 m 20 ls [.int s0]) := by
    intro  v_t_keptAt f_t_kept s0 H locs ls hf hw hl
    refine lv_istore_n (lv' := [(2, .int s0), (0, .ref o_t)]) hx hb dX11_pass_20 rfl hl (Nat.le_of_ble_eq_true rfl) rfl (fun ls hl => ?_)
    refine lv_aload_n hx hb dX11_pass_21 rfl (lv_at hl 1 rfl) ?_
    refine g_get hx hb hG hown hK hw inlX11 (ci := 9) rfl 0 32 (Nat.le_of_ble_eq_true rfl) rfl rfl wd_6_16 dX11_pass_22 ?_
    refine lv_aload_n hx hb dX11_pass_25 rfl (lv_at hl 1 rfl) ?_
    refine g_get hx hb hG hown hK hw inlX11 (ci := 9) rfl 0 34 (Nat.le_of_ble_eq_true rfl) rfl rfl wd_37_13 dX11_pass_26 ?_
    refine lv_iload_n hx hb dX11_pass_29 rfl (lv_at hl 0 rfl) ?_
    obtain ⟨hi1, hf⟩ := gA_s hf
    refine g_iast (ws' := (wX11_pass E o_t a_t v_t_there v_t_wind v_t_force v_t_rains v_t_lost v_t_hours v_t_sights v_t_padMany v_t_acts v_t_blownMany v_t_badAct v_t_badWhy v_t_ruinAct v_t_ruinWho v_t_keptAt v_t_isWriting (upd f_t_kept (Int32.toNatClampNeg v_t_keptAt) s0))) hx hb hK hw 1 rfl hi1 rfl dX11_pass_30 (fun H locs hw => ?_)
    refine lv_aload_n hx hb dX11_pass_31 rfl (lv_at hl 1 rfl) ?_
    refine lv_dup hx hb dX11_pass_32 rfl ?_
    refine g_get hx hb hG hown hK hw inlX11 (ci := 9) rfl 0 34 (Nat.le_of_ble_eq_true rfl) rfl rfl wd_37_13 dX11_pass_33 ?_
    refine lv_iconst (v := 1) hx hb dX11_pass_36 k_i1 ?_
    refine lv_iadd hx hb dX11_pass_37 ?_
    refine g_put (ws' := (wX11_pass E o_t a_t v_t_there v_t_wind v_t_force v_t_rains v_t_lost v_t_hours v_t_sights v_t_padMany v_t_acts v_t_blownMany v_t_badAct v_t_badWhy v_t_ruinAct v_t_ruinWho (v_t_keptAt + 1) v_t_isWriting (upd f_t_kept (Int32.toNatClampNeg v_t_keptAt) s0))) hx hb hG hown hK hw inlX11 tyX11_ok nmX11 (ci := 9) rfl 0 34 (Nat.le_of_ble_eq_true rfl) rfl wd_37_13 rfl rfl rfl (Nat.le_of_ble_eq_true rfl) rfl dX11_pass_38 (fun H locs hw => ?_)
    refine lv_iload_n hx hb dX11_pass_41 rfl (lv_at hl 0 rfl) ?_
    exact hret1 s0 (v_t_keptAt + 1) (upd f_t_kept (Int32.toNatClampNeg v_t_keptAt) s0) _ _ _ _ hf hw dX11_pass_42
  refine lv_aload_n hx hb dX11_pass_0 rfl (lv_at hl 0 rfl) ?_
  refine g_get hx hb hG hown hK hw inlX11 (ci := 9) rfl 0 35 (Nat.le_of_ble_eq_true rfl) rfl rfl wd_37_14 dX11_pass_1 ?_
  refine lv_if_eq (tgt := 11) hx hb dX11_pass_4 (by decide) (fun hc => ?_) (fun hc => ?_)
  · have hf := g_t hc hf
    refine lv_aload_n hx hb dX11_pass_11 rfl (lv_at hl 0 rfl) ?_
    refine g_get hx hb hG hown hK hw inlX11 (ci := 9) rfl 0 32 (Nat.le_of_ble_eq_true rfl) rfl rfl wd_6_16 dX11_pass_12 ?_
    refine lv_aload_n hx hb dX11_pass_15 rfl (lv_at hl 0 rfl) ?_
    refine g_get hx hb hG hown hK hw inlX11 (ci := 9) rfl 0 34 (Nat.le_of_ble_eq_true rfl) rfl rfl wd_37_13 dX11_pass_16 ?_
    obtain ⟨hi2, hf⟩ := gA_s hf
    refine g_iald hx hb hK hw 1 rfl hi2 dX11_pass_19 ?_
    exact B20 v_t_keptAt f_t_kept (f_t_kept (Int32.toNatClampNeg v_t_keptAt)) _ _ _ hf hw (lv_sub hl [0] rfl)
  · have hf := g_f hc hf
    refine lv_iload_n hx hb dX11_pass_7 rfl (lv_at hl 1 rfl) ?_
    refine lv_goto (tgt := 20) hx hb dX11_pass_8 (by decide) ?_
    exact B20 v_t_keptAt f_t_kept x1 _ _ _ hf hw (lv_sub hl [0] rfl)
