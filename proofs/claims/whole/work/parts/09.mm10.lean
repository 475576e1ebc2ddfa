theorem hX11_in : yX11_in.cls ≠ "java/lang/invoke/MethodHandle" ∧ yX11_in.cls ≠ "java/lang/invoke/VarHandle" ∧ (parseMethodDescriptor yX11_in.desc).map (fun d => d.parameters.length) = some 3 := by decide +kernel
set_option maxHeartbeats 4000000 in
set_option maxRecDepth 100000 in
theorem mX11_in (l : Launch) (E : gE) (x0 : Int64) (x2 : Int64) (x4 : Int64) (rv : Int32) (hf : fX11_in x0 x2 x4 = some rv) {sz : Nat} : gMi l yX11_in (gW yX11_in cX11_in 6 (some .boolean)) ({ frames := 0, cells := 0, slots := 0, locals := 0 } : Room) E [.long x0, .long x2, .long x4] (wX11_in E) sz rv (wX11_in E) := by
  refine g_openZ (own := RX11) (by decide) rfl (Nat.le_of_ble_eq_true rfl) (fun p e s m args below meth cd Q A hx hb hml hown hG hK hA hret hw ls hl => ?_)
  have hl : lv_has ls 6 [(0, .long x0), (2, .long x2), (4, .long x4)] := hl
  have hret1 : ∀ (t : Int32) (H : Heap) (locs : List Loc) (pc : Nat) (ls : Array Slot), some t = some rv → t &&& 1 = t → gS E A s.heap (wX11_in E) H locs → decode cX11_in pc = .ok (.ireturn, 1) → W p l e ({ frames := 0, cells := 0, slots := 0, locals := 0 } : Room) s m args below meth cd H locs 0 0 Q (F0 m pc ls [.int t]) := by
    intro t H locs pc ls h hz hw hd
    obtain rfl : t = rv := Option.some.inj h
    exact hret H locs pc ls hz hw hd
  have B18 : ∀ (s0 : Int32) (H : Heap) (locs : List Loc) (ls : Array Slot), fX11_in_b18 s0 = some rv → gS E A s.heap (wX11_in E) H locs → lv_has ls 6 [] → W p l e ({ frames := 0, cells := 0, slots := 0, locals := 0 } : Room) s m args below meth cd H locs 0 0 Q (F0 m 18 ls [.int s0]) := by
    intro  s0 H locs ls hf hw hl
    obtain ⟨hz1, hf⟩ := gZ_s hf
    exact hret1 s0 _ _ _ _ hf hz1 hw dX11_in_18
  have B17 : ∀ (H : Heap) (locs : List Loc) (ls : Array Slot), fX11_in_b17 = some rv → gS E A s.heap (wX11_in E) H locs → lv_has ls 6 [] → W p l e ({ frames := 0, cells := 0, slots := 0, locals := 0 } : Room) s m args below meth cd H locs 0 0 Q (F0 m 17 ls []) := by
    intro   H locs ls hf hw hl
    refine lv_iconst (v := 0) hx hb dX11_in_17 k_i0 ?_
    exact B18 0 _ _ _ hf hw (lv_sub hl [] rfl)
  refine lv_lload_n hx hb dX11_in_0 rfl (lv_at hl 0 rfl) ?_
  refine lv_lload_n hx hb dX11_in_1 rfl (lv_at hl 1 rfl) ?_
  refine W.lcmp hx hb dX11_in_2 ?_
  refine lv_if_lt (tgt := 17) hx hb dX11_in_3 (by decide) (fun hc => ?_) (fun hc => ?_)
  · have hf := g_t hc hf
    exact B17 _ _ _ hf hw (lv_sub hl [] rfl)
  · have hf := g_f hc hf
    refine lv_lload_n hx hb dX11_in_6 rfl (lv_at hl 0 rfl) ?_
    refine lv_lload hx hb dX11_in_7 (lv_at hl 2 rfl) ?_
    refine W.lcmp hx hb dX11_in_9 ?_
    refine lv_if_gt (tgt := 17) hx hb dX11_in_10 (by decide) (fun hc => ?_) (fun hc => ?_)
    · have hf := g_t hc hf
      exact B17 _ _ _ hf hw (lv_sub hl [] rfl)
    · have hf := g_f hc hf
      refine lv_iconst (v := 1) hx hb dX11_in_13 k_i1 ?_
      refine lv_goto (tgt := 18) hx hb dX11_in_14 (by decide) ?_
      exact B18 1 _ _ _ hf hw (lv_sub hl [] rfl)
theorem hX11_bitsOf : yX11_bitsOf.cls ≠ "java/lang/invoke/MethodHandle" ∧ yX11_bitsOf.cls ≠ "java/lang/invoke/VarHandle" ∧ (parseMethodDescriptor yX11_bitsOf.desc).map (fun d => d.parameters.length) = some 1 := by decide +kernel
set_option maxHeartbeats 4000000 in
set_option maxRecDepth 100000 in
theorem mX11_bitsOf (l : Launch) (E : gE) (x0 : Int32) (rv : Int32) (hf : fX11_bitsOf x0 = some rv) {sz : Nat} : gMi l yX11_bitsOf (gW yX11_bitsOf cX11_bitsOf 3 (some .int)) ({ frames := 0, cells := 0, slots := 0, locals := 0 } : Room) E [.int x0] (wX11_bitsOf E) sz rv (wX11_bitsOf E) := by
  refine g_openI (own := RX11) (by decide) rfl (Nat.le_of_ble_eq_true rfl) (fun p e s m args below meth cd Q A hx hb hml hown hG hK hA hret hw ls hl => ?_)
  have hl : lv_has ls 3 [(0, .int x0)] := hl
  have hret1 : ∀ (t : Int32) (H : Heap) (locs : List Loc) (pc : Nat) (ls : Array Slot), some t = some rv → gS E A s.heap (wX11_bitsOf E) H locs → decode cX11_bitsOf pc = .ok (.ireturn, 1) → W p l e ({ frames := 0, cells := 0, slots := 0, locals := 0 } : Room) s m args below meth cd H locs 0 0 Q (F0 m pc ls [.int t]) := by
    intro t H locs pc ls h hw hd
    obtain rfl : t = rv := Option.some.inj h
    exact hret H locs pc ls hw hd
  have B4 : ∀ n : Nat, ∀ (x1 : Int32) (x2 : Int32) (H : Heap) (locs : List Loc) (ls : Array Slot), fX11_bitsOf_b4 n x1 x2 = some rv → gS E A s.heap (wX11_bitsOf E) H locs → lv_has ls 3 [(1, .int x1), (2, .int x2)] → W p l e ({ frames := 0, cells := 0, slots := 0, locals := 0 } : Room) s m args below meth cd H locs 0 0 Q (F0 m 4 ls []) := by
    intro n
    induction n with
    | zero => intro x1 x2 H locs ls hf hw hl; exact g_no hf
    | succ n ih =>
      intro x1 x2 H locs ls hf hw hl
      refine lv_iload_n hx hb dX11_bitsOf_4 rfl (lv_at hl 1 rfl) ?_
      refine lv_if_eq (tgt := 20) hx hb dX11_bitsOf_5 (by decide) (fun hc => ?_) (fun hc => ?_)
      · have hf := g_t hc hf
        refine lv_iload_n hx hb dX11_bitsOf_20 rfl (lv_at hl 0 rfl) ?_
        exact hret1 x1 _ _ _ _ hf hw dX11_bitsOf_21
      · have hf := g_f hc hf
        refine lv_iinc (lv' := [(1, .int (x1 + 1)), (2, .int x2)]) hx hb dX11_bitsOf_8 hl (k := 0) rfl (k_inc1 _) (Nat.le_of_ble_eq_true rfl) rfl (fun ls hl => ?_)
        refine lv_iload_n hx hb dX11_bitsOf_11 rfl (lv_at hl 1 rfl) ?_
        refine lv_iload_n hx hb dX11_bitsOf_12 rfl (lv_at hl 1 rfl) ?_
        refine lv_iconst (v := 1) hx hb dX11_bitsOf_13 k_i1 ?_
        refine lv_isub hx hb dX11_bitsOf_14 ?_
        refine lv_iand hx hb dX11_bitsOf_15 ?_
        refine lv_istore_n (lv' := [(2, .int (x2 &&& (x2 - 1))), (1, .int (x1 + 1))]) hx hb dX11_bitsOf_16 rfl hl (Nat.le_of_ble_eq_true rfl) rfl (fun ls hl => ?_)
        refine lv_goto (tgt := 4) hx hb dX11_bitsOf_17 (by decide) ?_
        exact ih (x1 + 1) (x2 &&& (x2 - 1)) _ _ _ hf hw (lv_sub hl [1, 0] rfl)
  refine lv_iconst (v := 0) hx hb dX11_bitsOf_0 k_i0 ?_
  refine lv_istore_n (lv' := [(1, .int 0), (0, .int x0)]) hx hb dX11_bitsOf_1 rfl hl (Nat.le_of_ble_eq_true rfl) rfl (fun ls hl => ?_)
  refine lv_iload_n hx hb dX11_bitsOf_2 rfl (lv_at hl 1 rfl) ?_
  refine lv_istore_n (lv' := [(2, .int x0), (1, .int 0), (0, .int x0)]) hx hb dX11_bitsOf_3 rfl hl (Nat.le_of_ble_eq_true rfl) rfl (fun ls hl => ?_)
  exact B4 1000 0 x0 _ _ _ hf hw (lv_sub hl [1, 0] rfl)
theorem hX11_isField : yX11_isField.cls ≠ "java/lang/invoke/MethodHandle" ∧ yX11_isField.cls ≠ "java/lang/invoke/VarHandle" ∧ (parseMethodDescriptor yX11_isField.desc).map (fun d => d.parameters.length) = some 1 := by decide +kernel
set_option maxHeartbeats 4000000 in
set_option maxRecDepth 100000 in
theorem mX11_isField (l : Launch) (E : gE) (x0 : Int32) (rv : Int32) (hf : fX11_isField x0 = some rv) {sz : Nat} : gMi l yX11_isField (gW yX11_isField cX11_isField 1 (some .boolean)) ({ frames := 1, cells := 0, slots := 0, locals := 25 } : Room) E [.int x0] (wX11_isField E) sz rv (wX11_isField E) := by
  refine g_openZ (own := RX11) (by decide) rfl (Nat.le_of_ble_eq_true rfl) (fun p e s m args below meth cd Q A hx hb hml hown hG hK hA hret hw ls hl => ?_)
  have hl : lv_has ls 1 [(0, .int x0)] := hl
  have hret1 : ∀ (t : Int32) (H : Heap) (locs : List Loc) (pc : Nat) (ls : Array Slot), some t = some rv → t &&& 1 = t → gS E A s.heap (wX11_isField E) H locs → decode cX11_isField pc = .ok (.ireturn, 1) → W p l e ({ frames := 1, cells := 0, slots := 0, locals := 25 } : Room) s m args below meth cd H locs 0 0 Q (F0 m pc ls [.int t]) := by
    intro t H locs pc ls h hz hw hd
    obtain rfl : t = rv := Option.some.inj h
    exact hret H locs pc ls hz hw hd
  refine lv_iload_n hx hb dX11_isField_0 rfl (lv_at hl 0 rfl) ?_
  refine lv_i2l hx hb dX11_isField_1 rfl ?_
  refine lv_lconst (v := 0) hx hb dX11_isField_2 k_l0 ?_
  refine lv_ldc2 hx hb hown (hG _ wd_8_16) dX11_isField_3 ?_
  obtain ⟨r1, hc2, hf⟩ := gB_s hf
  refine g_ki0 (is := []) hw hA (g_rS hx hb hml hG hown hK hw (is := []) rfl (by decide) (mX11_in l E (Int32.toInt64 x0) 0 35 r1 hc2) wd_8_10 wd_8_11 wd_1_5 wd_8_12 hX11_in g_allgood ⟨rfl, rfl⟩ ⟨Nat.le_of_ble_eq_true rfl, Nat.le_of_ble_eq_true rfl⟩ ⟨Nat.zero_le _, Nat.zero_le _⟩ rfl hl.1 rfl (Nat.le_of_ble_eq_true rfl) dX11_isField_6) rfl (fun H locs hw => ?_)
  obtain ⟨hz3, hf⟩ := gZ_s hf
  exact hret1 r1 _ _ _ _ hf hz3 hw dX11_isField_9
theorem hX11_isFamily : yX11_isFamily.cls = RX11 ∧ yX11_isFamily.cls ≠ "java/lang/invoke/MethodHandle" ∧ yX11_isFamily.cls ≠ "java/lang/invoke/VarHandle" ∧ (parseMethodDescriptor yX11_isFamily.desc).map (fun d => d.parameters.length) = some 1 := by decide +kernel
set_option maxHeartbeats 4000000 in
set_option maxRecDepth 100000 in
theorem mX11_isFamily (l : Launch) (E : gE) (o_t : Nat) (a_t : (Nat → Nat)) (v_t_there : Int32) (v_t_wind : Int32) (v_t_force : Int32) (v_t_rains : Int32) (v_t_lost : Int32) (v_t_hours : Int32) (v_t_sights : Int32) (v_t_padMany : Int32) (v_t_acts : Int32) (v_t_blownMany : Int32) (v_t_badAct : Int32) (v_t_badWhy : Int32) (v_t_ruinAct : Int32) (v_t_ruinWho : Int32) (v_t_keptAt : Int32) (v_t_isWriting : Int32) (x1 : Int32) (rv : Int32) (hf : fX11_isFamily v_t_there x1 = some rv) {sz : Nat} : gMi l yX11_isFamily (gW yX11_isFamily cX11_isFamily 2 (some .boolean)) ({ frames := 1, cells := 0, slots := 0, locals := 25 } : Room) E [.ref o_t, .int x1] (wX11_isFamily E o_t a_t v_t_there v_t_wind v_t_force v_t_rains v_t_lost v_t_hours v_t_sights v_t_padMany v_t_acts v_t_blownMany v_t_badAct v_t_badWhy v_t_ruinAct v_t_ruinWho v_t_keptAt v_t_isWriting) sz rv (wX11_isFamily E o_t a_t v_t_there v_t_wind v_t_force v_t_rains v_t_lost v_t_hours v_t_sights v_t_padMany v_t_acts v_t_blownMany v_t_badAct v_t_badWhy v_t_ruinAct v_t_ruinWho v_t_keptAt v_t_isWriting) := by
  refine g_openZ (own := RX11) (by decide) rfl (Nat.le_of_ble_eq_true rfl) (fun p e s m args below meth cd Q A hx hb hml hown hG hK hA hret hw ls hl => ?_)
  have hl : lv_has ls 2 [(0, .ref o_t), (1, .int x1)] := hl
  have hret1 : ∀ (t : Int32) (H : Heap) (locs : List Loc) (pc : Nat) (ls : Array Slot), some t = some rv → t &&& 1 = t → gS E A s.heap (wX11_isFamily E o_t a_t v_t_there v_t_wind v_t_force v_t_rains v_t_lost v_t_hours v_t_sights v_t_padMany v_t_acts v_t_blownMany v_t_badAct v_t_badWhy v_t_ruinAct v_t_ruinWho v_t_keptAt v_t_isWriting) H locs → decode cX11_isFamily pc = .ok (.ireturn, 1) → W p l e ({ frames := 1, cells := 0, slots := 0, locals := 25 } : Room) s m args below meth cd H locs 0 0 Q (F0 m pc ls [.int t]) := by
    intro t H locs pc ls h hz hw hd
    obtain rfl : t = rv := Option.some.inj h
    exact hret H locs pc ls hz hw hd
  have B29 : ∀ (s0 : Int32) (H : Heap) (locs : List Loc) (ls : Array Slot), fX11_isFamily_b29 s0 = some rv → gS E A s.heap (wX11_isFamily E o_t a_t v_t_there v_t_wind v_t_force v_t_rains v_t_lost v_t_hours v_t_sights v_t_padMany v_t_acts v_t_blownMany v_t_badAct v_t_badWhy v_t_ruinAct v_t_ruinWho v_t_keptAt v_t_isWriting) H locs → lv_has ls 2 [] → W p l e ({ frames := 1, cells := 0, slots := 0, locals := 25 } : Room) s m args below meth cd H locs 0 0 Q (F0 m 29 ls [.int s0]) := by
    intro  s0 H locs ls hf hw hl
    obtain ⟨hz1, hf⟩ := gZ_s hf
    exact hret1 s0 _ _ _ _ hf hz1 hw dX11_isFamily_29
  have B28 : ∀ (H : Heap) (locs : List Loc) (ls : Array Slot), fX11_isFamily_b28 = some rv → gS E A s.heap (wX11_isFamily E o_t a_t v_t_there v_t_wind v_t_force v_t_rains v_t_lost v_t_hours v_t_sights v_t_padMany v_t_acts v_t_blownMany v_t_badAct v_t_badWhy v_t_ruinAct v_t_ruinWho v_t_keptAt v_t_isWriting) H locs → lv_has ls 2 [] → W p l e ({ frames := 1, cells := 0, slots := 0, locals := 25 } : Room) s m args below meth cd H locs 0 0 Q (F0 m 28 ls []) := by
    intro   H locs ls hf hw hl
    refine lv_iconst (v := 0) hx hb dX11_isFamily_28 k_i0 ?_
    exact B29 0 _ _ _ hf hw (lv_sub hl [] rfl)
  refine lv_iload_n hx hb dX11_isFamily_0 rfl (lv_at hl 1 rfl) ?_
  refine lv_i2l hx hb dX11_isFamily_1 rfl ?_
  refine lv_lconst (v := 0) hx hb dX11_isFamily_2 k_l0 ?_
  refine lv_ldc2 hx hb hown (hG _ wd_8_6) dX11_isFamily_3 ?_
  obtain ⟨r2, hc3, hf⟩ := gB_s hf
  refine g_ki0 (is := []) hw hA (g_rS hx hb hml hG hown hK hw (is := []) rfl (by decide) (mX11_in l E (Int32.toInt64 x1) 0 5 r2 hc3) wd_8_10 wd_8_11 wd_1_5 wd_8_12 hX11_in g_allgood ⟨rfl, rfl⟩ ⟨Nat.le_of_ble_eq_true rfl, Nat.le_of_ble_eq_true rfl⟩ ⟨Nat.zero_le _, Nat.zero_le _⟩ rfl hl.1 rfl (Nat.le_of_ble_eq_true rfl) dX11_isFamily_6) rfl (fun H locs hw => ?_)
  refine lv_if_eq (tgt := 28) hx hb dX11_isFamily_9 (by decide) (fun hc => ?_) (fun hc => ?_)
  · have hf := g_t hc hf
    exact B28 _ _ _ hf hw (lv_sub hl [] rfl)
  · have hf := g_f hc hf
    refine lv_aload_n hx hb dX11_isFamily_12 rfl (lv_at hl 0 rfl) ?_
    refine g_get hx hb hG hown hK hw inlX11 (ci := 9) rfl 0 0 (Nat.le_of_ble_eq_true rfl) rfl rfl wd_8_9 dX11_isFamily_13 ?_
    refine lv_iload_n hx hb dX11_isFamily_16 rfl (lv_at hl 1 rfl) ?_
    refine lv_ishr hx hb dX11_isFamily_17 ?_
    refine lv_iconst (v := 1) hx hb dX11_isFamily_18 k_i1 ?_
    refine lv_iand hx hb dX11_isFamily_19 ?_
    refine lv_iconst (v := 1) hx hb dX11_isFamily_20 k_i1 ?_
    refine lv_icmp_ne (tgt := 28) hx hb dX11_isFamily_21 (by decide) (fun hc => ?_) (fun hc => ?_)
    · have hf := g_f hc hf
      exact B28 _ _ _ hf hw (lv_sub hl [] rfl)
    · have hf := g_t hc hf
      refine lv_iconst (v := 1) hx hb dX11_isFamily_24 k_i1 ?_
      refine lv_goto (tgt := 29) hx hb dX11_isFamily_25 (by decide) ?_
      exact B29 1 _ _ _ hf hw (lv_sub hl [] rfl)
theorem hX11_familyOn : yX11_familyOn.cls = RX11 ∧ yX11_familyOn.cls ≠ "java/lang/invoke/MethodHandle" ∧ yX11_familyOn.cls ≠ "java/lang/invoke/VarHandle" ∧ (parseMethodDescriptor yX11_familyOn.desc).map (fun d => d.parameters.length) = some 1 := by decide +kernel
set_option maxHeartbeats 4000000 in
set_option maxRecDepth 100000 in
theorem mX11_familyOn (l : Launch) (E : gE) (o_t : Nat) (a_t : (Nat → Nat)) (v_t_there : Int32) (v_t_wind : Int32) (v_t_force : Int32) (v_t_rains : Int32) (v_t_lost : Int32) (v_t_hours : Int32) (v_t_sights : Int32) (v_t_padMany : Int32) (v_t_acts : Int32) (v_t_blownMany : Int32) (v_t_badAct : Int32) (v_t_badWhy : Int32) (v_t_ruinAct : Int32) (v_t_ruinWho : Int32) (v_t_keptAt : Int32) (v_t_isWriting : Int32) (f_t_at : (Nat → Int32)) (x1 : Int32) (rv : Int32) (hf : fX11_familyOn v_t_there f_t_at x1 = some rv) {sz : Nat} : gMi l yX11_familyOn (gW yX11_familyOn cX11_familyOn 4 (some .int)) ({ frames := 2, cells := 0, slots := 0, locals := 46 } : Room) E [.ref o_t, .int x1] (wX11_familyOn E o_t a_t v_t_there v_t_wind v_t_force v_t_rains v_t_lost v_t_hours v_t_sights v_t_padMany v_t_acts v_t_blownMany v_t_badAct v_t_badWhy v_t_ruinAct v_t_ruinWho v_t_keptAt v_t_isWriting f_t_at) sz rv (wX11_familyOn E o_t a_t v_t_there v_t_wind v_t_force v_t_rains v_t_lost v_t_hours v_t_sights v_t_padMany v_t_acts v_t_blownMany v_t_badAct v_t_badWhy v_t_ruinAct v_t_ruinWho v_t_keptAt v_t_isWriting f_t_at) := by
  refine g_openI (own := RX11) (by decide) rfl (Nat.le_of_ble_eq_true rfl) (fun p e s m args below meth cd Q A hx hb hml hown hG hK hA hret hw ls hl => ?_)
  have hl : lv_has ls 4 [(0, .ref o_t), (1, .int x1)] := hl
  have hret1 : ∀ (t : Int32) (H : Heap) (locs : List Loc) (pc : Nat) (ls : Array Slot), some t = some rv → gS E A s.heap (wX11_familyOn E o_t a_t v_t_there v_t_wind v_t_force v_t_rains v_t_lost v_t_hours v_t_sights v_t_padMany v_t_acts v_t_blownMany v_t_badAct v_t_badWhy v_t_ruinAct v_t_ruinWho v_t_keptAt v_t_isWriting f_t_at) H locs → decode cX11_familyOn pc = .ok (.ireturn, 1) → W p l e ({ frames := 2, cells := 0, slots := 0, locals := 46 } : Room) s m args below meth cd H locs 0 0 Q (F0 m pc ls [.int t]) := by
    intro t H locs pc ls h hw hd
    obtain rfl : t = rv := Option.some.inj h
    exact hret H locs pc ls hw hd
  have B34 : ∀ (K5 : Int32 → Int32 → Int32 → Option (Int32)) (hK5 : ∀ (x1 : Int32) (x2 : Int32) (x3 : Int32) (H : Heap) (locs : List Loc) (ls : Array Slot), K5 x1 x2 x3 = some rv → gS E A s.heap (wX11_familyOn E o_t a_t v_t_there v_t_wind v_t_force v_t_rains v_t_lost v_t_hours v_t_sights v_t_padMany v_t_acts v_t_blownMany v_t_badAct v_t_badWhy v_t_ruinAct v_t_ruinWho v_t_keptAt v_t_isWriting f_t_at) H locs → lv_has ls 4 [(0, .ref o_t), (1, .int x1), (2, .int x2), (3, .int x3)] → W p l e ({ frames := 2, cells := 0, slots := 0, locals := 46 } : Room) s m args below meth cd H locs 0 0 Q (F0 m 5 ls [])), ∀ (x1 : Int32) (x3 : Int32) (s0 : Int32) (H : Heap) (locs : List Loc) (ls : Array Slot), fX11_familyOn_b34 K5 v_t_there f_t_at x1 x3 s0 = some rv → gS E A s.heap (wX11_familyOn E o_t a_t v_t_there v_t_wind v_t_force v_t_rains v_t_lost v_t_hours v_t_sights v_t_padMany v_t_acts v_t_blownMany v_t_badAct v_t_badWhy v_t_ruinAct v_t_ruinWho v_t_keptAt v_t_isWriting f_t_at) H locs → lv_has ls 4 [(0, .ref o_t), (1, .int x1), (3, .int x3)] → W p l e ({ frames := 2, cells := 0, slots := 0, locals := 46 } : Room) s m args below meth cd H locs 0 0 Q (F0 m 34 ls [.int s0]) := by
    intro K5 hK5 x1 x3 s0 H locs ls hf hw hl
    refine lv_istore_n (lv' := [(2, .int s0), (0, .ref o_t), (1, .int x1), (3, .int x3)]) hx hb dX11_familyOn_34 rfl hl (Nat.le_of_ble_eq_true rfl) rfl (fun ls hl => ?_)
    refine lv_iinc (lv' := [(3, .int (x3 + 1)), (2, .int s0), (0, .ref o_t), (1, .int x1)]) hx hb dX11_familyOn_35 hl (k := 3) rfl (k_inc1 _) (Nat.le_of_ble_eq_true rfl) rfl (fun ls hl => ?_)
    refine lv_goto (tgt := 5) hx hb dX11_familyOn_38 (by decide) ?_
    exact hK5 x1 s0 (x3 + 1) _ _ _ hf hw (lv_sub hl [2, 3, 1, 0] rfl)
  have B33 : ∀ (K5 : Int32 → Int32 → Int32 → Option (Int32)) (hK5 : ∀ (x1 : Int32) (x2 : Int32) (x3 : Int32) (H : Heap) (locs : List Loc) (ls : Array Slot), K5 x1 x2 x3 = some rv → gS E A s.heap (wX11_familyOn E o_t a_t v_t_there v_t_wind v_t_force v_t_rains v_t_lost v_t_hours v_t_sights v_t_padMany v_t_acts v_t_blownMany v_t_badAct v_t_badWhy v_t_ruinAct v_t_ruinWho v_t_keptAt v_t_isWriting f_t_at) H locs → lv_has ls 4 [(0, .ref o_t), (1, .int x1), (2, .int x2), (3, .int x3)] → W p l e ({ frames := 2, cells := 0, slots := 0, locals := 46 } : Room) s m args below meth cd H locs 0 0 Q (F0 m 5 ls [])), ∀ (x1 : Int32) (x2 : Int32) (x3 : Int32) (H : Heap) (locs : List Loc) (ls : Array Slot), fX11_familyOn_b33 K5 v_t_there f_t_at x1 x2 x3 = some rv → gS E A s.heap (wX11_familyOn E o_t a_t v_t_there v_t_wind v_t_force v_t_rains v_t_lost v_t_hours v_t_sights v_t_padMany v_t_acts v_t_blownMany v_t_badAct v_t_badWhy v_t_ruinAct v_t_ruinWho v_t_keptAt v_t_isWriting f_t_at) H locs → lv_has ls 4 [(0, .ref o_t), (1, .int x1), (2, .int x2), (3, .int x3)] → W p l e ({ frames := 2, cells := 0, slots := 0, locals := 46 } : Room) s m args below meth cd H locs 0 0 Q (F0 m 33 ls []) := by
    intro K5 hK5 x1 x2 x3 H locs ls hf hw hl
    refine lv_iload_n hx hb dX11_familyOn_33 rfl (lv_at hl 2 rfl) ?_
    exact B34 K5 hK5 x1 x3 x2 _ _ _ hf hw (lv_sub hl [0, 1, 3] rfl)
  have B5 : ∀ n : Nat, ∀ (x1 : Int32) (x2 : Int32) (x3 : Int32) (H : Heap) (locs : List Loc) (ls : Array Slot), fX11_familyOn_b5 v_t_there f_t_at n x1 x2 x3 = some rv → gS E A s.heap (wX11_familyOn E o_t a_t v_t_there v_t_wind v_t_force v_t_rains v_t_lost v_t_hours v_t_sights v_t_padMany v_t_acts v_t_blownMany v_t_badAct v_t_badWhy v_t_ruinAct v_t_ruinWho v_t_keptAt v_t_isWriting f_t_at) H locs → lv_has ls 4 [(0, .ref o_t), (1, .int x1), (2, .int x2), (3, .int x3)] → W p l e ({ frames := 2, cells := 0, slots := 0, locals := 46 } : Room) s m args below meth cd H locs 0 0 Q (F0 m 5 ls []) := by
    intro n
    induction n with
    | zero => intro x1 x2 x3 H locs ls hf hw hl; exact g_no hf
    | succ n ih =>
      intro x1 x2 x3 H locs ls hf hw hl
      refine lv_iload_n hx hb dX11_familyOn_5 rfl (lv_at hl 3 rfl) ?_
      refine lv_bipush (v := 6) hx hb dX11_familyOn_6 k_b6 ?_
      refine lv_icmp_ge (tgt := 41) hx hb dX11_familyOn_8 (by decide) (fun hc => ?_) (fun hc => ?_)
      · have hf := g_t hc hf
        refine lv_iload_n hx hb dX11_familyOn_41 rfl (lv_at hl 2 rfl) ?_
        exact hret1 x2 _ _ _ _ hf hw dX11_familyOn_42
      · have hf := g_f hc hf
        refine lv_aload_n hx hb dX11_familyOn_11 rfl (lv_at hl 0 rfl) ?_
        refine lv_iload_n hx hb dX11_familyOn_12 rfl (lv_at hl 3 rfl) ?_
        obtain ⟨r1, hc2, hf⟩ := gB_s hf
        refine g_ki0 (is := [0]) hw hA (g_rV hx hb hml hG hown hK hw (is := [0]) rfl (by decide) (mX11_isFamily l E o_t a_t v_t_there v_t_wind v_t_force v_t_rains v_t_lost v_t_hours v_t_sights v_t_padMany v_t_acts v_t_blownMany v_t_badAct v_t_badWhy v_t_ruinAct v_t_ruinWho v_t_keptAt v_t_isWriting x3 r1 hc2) wd_8_21 wd_8_22 wd_8_23 wd_1_5 wd_9_0 hX11_isFamily g_allgood ⟨rfl, rfl⟩ ⟨Nat.le_of_ble_eq_true rfl, Nat.le_of_ble_eq_true rfl⟩ ⟨Nat.zero_le _, Nat.zero_le _⟩ (ci := 9) (q0 := 0) rfl rfl rfl rfl hl.1 rfl (Nat.le_of_ble_eq_true rfl) dX11_familyOn_13) rfl (fun H locs hw => ?_)
        refine lv_if_eq (tgt := 33) hx hb dX11_familyOn_16 (by decide) (fun hc => ?_) (fun hc => ?_)
        · have hf := g_t hc hf
          exact B33 (fX11_familyOn_b5 v_t_there f_t_at n) ih x1 x2 x3 _ _ _ hf hw (lv_sub hl [0, 1, 2, 3] rfl)
        · have hf := g_f hc hf
          refine lv_aload_n hx hb dX11_familyOn_19 rfl (lv_at hl 0 rfl) ?_
          refine g_get hx hb hG hown hK hw inlX11 (ci := 9) rfl 0 1 (Nat.le_of_ble_eq_true rfl) rfl rfl wd_5_21 dX11_familyOn_20 ?_
          refine lv_iload_n hx hb dX11_familyOn_23 rfl (lv_at hl 3 rfl) ?_
          obtain ⟨hi3, hf⟩ := gA_s hf
          refine g_iald hx hb hK hw 1 rfl hi3 dX11_familyOn_24 ?_
          refine lv_iload_n hx hb dX11_familyOn_25 rfl (lv_at hl 1 rfl) ?_
          refine lv_icmp_ne (tgt := 33) hx hb dX11_familyOn_26 (by decide) (fun hc => ?_) (fun hc => ?_)
          · have hf := g_f hc hf
            exact B33 (fX11_familyOn_b5 v_t_there f_t_at n) ih x1 x2 x3 _ _ _ hf hw (lv_sub hl [0, 1, 2, 3] rfl)
          · have hf := g_t hc hf
            refine lv_iload_n hx hb dX11_familyOn_29 rfl (lv_at hl 3 rfl) ?_
            refine lv_goto (tgt := 34) hx hb dX11_familyOn_30 (by decide) ?_
            exact B34 (fX11_familyOn_b5 v_t_there f_t_at n) ih x1 x3 x3 _ _ _ hf hw (lv_sub hl [0, 1, 3] rfl)
  refine lv_bipush (v := -6) hx hb dX11_familyOn_0 k_bm6 ?_
  refine lv_istore_n (lv' := [(2, .int (-6)), (0, .ref o_t), (1, .int x1)]) hx hb dX11_familyOn_2 rfl hl (Nat.le_of_ble_eq_true rfl) rfl (fun ls hl => ?_)
  refine lv_iconst (v := 0) hx hb dX11_familyOn_3 k_i0 ?_
  refine lv_istore_n (lv' := [(3, .int 0), (2, .int (-6)), (0, .ref o_t), (1, .int x1)]) hx hb dX11_familyOn_4 rfl hl (Nat.le_of_ble_eq_true rfl) rfl (fun ls hl => ?_)
  exact B5 1000 x1 (-6) 0 _ _ _ hf hw (lv_sub hl [2, 3, 1, 0] rfl)
theorem hX11_family : yX11_family.cls = RX11 ∧ yX11_family.cls ≠ "java/lang/invoke/MethodHandle" ∧ yX11_family.cls ≠ "java/lang/invoke/VarHandle" ∧ (parseMethodDescriptor yX11_family.desc).map (fun d => d.parameters.length) = some 4 := by decide +kernel
set_option maxHeartbeats 4000000 in
set_option maxRecDepth 100000 in
theorem mX11_family (l : Launch) (E : gE) (o_t : Nat) (a_t : (Nat → Nat)) (v_t_there : Int32) (v_t_wind : Int32) (v_t_force : Int32) (v_t_rains : Int32) (v_t_lost : Int32) (v_t_hours : Int32) (v_t_sights : Int32) (v_t_padMany : Int32) (v_t_acts : Int32) (v_t_blownMany : Int32) (v_t_badAct : Int32) (v_t_badWhy : Int32) (v_t_ruinAct : Int32) (v_t_ruinWho : Int32) (v_t_keptAt : Int32) (v_t_isWriting : Int32) (f_t_at : (Nat → Int32)) (f_t_stem : (Nat → Int32)) (f_t_lungs : (Nat → Int32)) (f_t_blown : (Nat → Int32)) (x1 : Int32) (x2 : Int32) (x3 : Int32) (x4 : Int32) (rv : Int32) (z_t_there : Int32) (z_t_at : (Nat → Int32)) (z_t_stem : (Nat → Int32)) (z_t_lungs : (Nat → Int32)) (z_t_blown : (Nat → Int32)) (hf : fX11_family v_t_there f_t_at f_t_stem f_t_lungs f_t_blown x1 x2 x3 x4 = some (rv, z_t_there, z_t_at, z_t_stem, z_t_lungs, z_t_blown)) {sz : Nat} : gMi l yX11_family (gW yX11_family cX11_family 6 (some .int)) ({ frames := 3, cells := 0, slots := 0, locals := 69 } : Room) E [.ref o_t, .int x1, .int x2, .int x3, .int x4] (wX11_family E o_t a_t v_t_there v_t_wind v_t_force v_t_rains v_t_lost v_t_hours v_t_sights v_t_padMany v_t_acts v_t_blownMany v_t_badAct v_t_badWhy v_t_ruinAct v_t_ruinWho v_t_keptAt v_t_isWriting f_t_at f_t_stem f_t_lungs f_t_blown) sz rv (wX11_family E o_t a_t z_t_there v_t_wind v_t_force v_t_rains v_t_lost v_t_hours v_t_sights v_t_padMany v_t_acts v_t_blownMany v_t_badAct v_t_badWhy v_t_ruinAct v_t_ruinWho v_t_keptAt v_t_isWriting z_t_at z_t_stem z_t_lungs z_t_blown) := by
  refine g_openI (own := RX11) (by decide) rfl (Nat.le_of_ble_eq_true rfl) (fun p e s m args below meth cd Q A hx hb hml hown hG hK hA hret hw ls hl => ?_)
  have hl : lv_has ls 6 [(0, .ref o_t), (1, .int x1), (2, .int x2), (3, .int x3), (4, .int x4)] := hl
  have hret1 : ∀ (t : Int32 × Int32 × (Nat → Int32) × (Nat → Int32) × (Nat → Int32) × (Nat → Int32)) (H : Heap) (locs : List Loc) (pc : Nat) (ls : Array Slot), some t = some (rv, z_t_there, z_t_at, z_t_stem, z_t_lungs, z_t_blown) → gS E A s.heap (wX11_family E o_t a_t t.2.1 v_t_wind v_t_force v_t_rains v_t_lost v_t_hours v_t_sights v_t_padMany v_t_acts v_t_blownMany v_t_badAct v_t_badWhy v_t_ruinAct v_t_ruinWho v_t_keptAt v_t_isWriting t.2.2.1 t.2.2.2.1 t.2.2.2.2.1 t.2.2.2.2.2) H locs → decode cX11_family pc = .ok (.ireturn, 1) → W p l e ({ frames := 3, cells := 0, slots := 0, locals := 69 } : Room) s m args below meth cd H locs 0 0 Q (F0 m pc ls [.int t.1]) := by
    intro t H locs pc ls h hw hd
    obtain rfl : t = (rv, z_t_there, z_t_at, z_t_stem, z_t_lungs, z_t_blown) := Option.some.inj h
    exact hret H locs pc ls hw hd
  have B46 : ∀ (v_t_there : Int32) (f_t_at : (Nat → Int32)) (f_t_stem : (Nat → Int32)) (f_t_lungs : (Nat → Int32)) (f_t_blown : (Nat → Int32)) (H : Heap) (locs : List Loc) (ls : Array Slot), fX11_family_b46 v_t_there f_t_at f_t_stem f_t_lungs f_t_blown = some (rv, z_t_there, z_t_at, z_t_stem, z_t_lungs, z_t_blown) → gS E A s.heap (wX11_family E o_t a_t v_t_there v_t_wind v_t_force v_t_rains v_t_lost v_t_hours v_t_sights v_t_padMany v_t_acts v_t_blownMany v_t_badAct v_t_badWhy v_t_ruinAct v_t_ruinWho v_t_keptAt v_t_isWriting f_t_at f_t_stem f_t_lungs f_t_blown) H locs → lv_has ls 6 [] → W p l e ({ frames := 3, cells := 0, slots := 0, locals := 69 } : Room) s m args below meth cd H locs 0 0 Q (F0 m 46 ls []) := by
    intro  v_t_there f_t_at f_t_stem f_t_lungs f_t_blown H locs ls hf hw hl
    refine lv_bipush (v := -2) hx hb dX11_family_46 k_bm2 ?_
    exact hret1 ((-2), v_t_there, f_t_at, f_t_stem, f_t_lungs, f_t_blown) _ _ _ _ hf hw dX11_family_48
  have B70 : ∀ (v_t_there : Int32) (f_t_at : (Nat → Int32)) (f_t_stem : (Nat → Int32)) (f_t_lungs : (Nat → Int32)) (f_t_blown : (Nat → Int32)) (x1 : Int32) (x2 : Int32) (x3 : Int32) (x4 : Int32) (H : Heap) (locs : List Loc) (ls : Array Slot), fX11_family_b70 v_t_there f_t_at f_t_stem f_t_lungs f_t_blown x1 x2 x3 x4 = some (rv, z_t_there, z_t_at, z_t_stem, z_t_lungs, z_t_blown) → gS E A s.heap (wX11_family E o_t a_t v_t_there v_t_wind v_t_force v_t_rains v_t_lost v_t_hours v_t_sights v_t_padMany v_t_acts v_t_blownMany v_t_badAct v_t_badWhy v_t_ruinAct v_t_ruinWho v_t_keptAt v_t_isWriting f_t_at f_t_stem f_t_lungs f_t_blown) H locs → lv_has ls 6 [(0, .ref o_t), (1, .int x1), (2, .int x2), (3, .int x3), (4, .int x4)] → W p l e ({ frames := 3, cells := 0, slots := 0, locals := 69 } : Room) s m args below meth cd H locs 0 0 Q (F0 m 70 ls []) := by
    intro  v_t_there f_t_at f_t_stem f_t_lungs f_t_blown x1 x2 x3 x4 H locs ls hf hw hl
    refine lv_aload_n hx hb dX11_family_70 rfl (lv_at hl 0 rfl) ?_
    refine lv_dup hx hb dX11_family_71 rfl ?_
    refine g_get hx hb hG hown hK hw inlX11 (ci := 9) rfl 0 0 (Nat.le_of_ble_eq_true rfl) rfl rfl wd_8_9 dX11_family_72 ?_
    refine lv_iconst (v := 1) hx hb dX11_family_75 k_i1 ?_
    refine lv_iload_n hx hb dX11_family_76 rfl (lv_at hl 1 rfl) ?_
    refine lv_ishl hx hb dX11_family_77 ?_
    refine lv_ior hx hb dX11_family_78 ?_
    refine g_put (ws' := (wX11_family E o_t a_t (v_t_there ||| (1 <<< (x1 &&& 31))) v_t_wind v_t_force v_t_rains v_t_lost v_t_hours v_t_sights v_t_padMany v_t_acts v_t_blownMany v_t_badAct v_t_badWhy v_t_ruinAct v_t_ruinWho v_t_keptAt v_t_isWriting f_t_at f_t_stem f_t_lungs f_t_blown)) hx hb hG hown hK hw inlX11 tyX11_ok nmX11 (ci := 9) rfl 0 0 (Nat.le_of_ble_eq_true rfl) rfl wd_8_9 rfl rfl rfl (Nat.le_of_ble_eq_true rfl) rfl dX11_family_79 (fun H locs hw => ?_)
    refine lv_aload_n hx hb dX11_family_82 rfl (lv_at hl 0 rfl) ?_
    refine g_get hx hb hG hown hK hw inlX11 (ci := 9) rfl 0 1 (Nat.le_of_ble_eq_true rfl) rfl rfl wd_5_21 dX11_family_83 ?_
    refine lv_iload_n hx hb dX11_family_86 rfl (lv_at hl 1 rfl) ?_
    refine lv_iload_n hx hb dX11_family_87 rfl (lv_at hl 2 rfl) ?_
    obtain ⟨hi1, hf⟩ := gA_s hf
    refine g_iast (ws' := (wX11_family E o_t a_t (v_t_there ||| (1 <<< (x1 &&& 31))) v_t_wind v_t_force v_t_rains v_t_lost v_t_hours v_t_sights v_t_padMany v_t_acts v_t_blownMany v_t_badAct v_t_badWhy v_t_ruinAct v_t_ruinWho v_t_keptAt v_t_isWriting (upd f_t_at (Int32.toNatClampNeg x1) x2) f_t_stem f_t_lungs f_t_blown)) hx hb hK hw 1 rfl hi1 rfl dX11_family_88 (fun H locs hw => ?_)
    refine lv_aload_n hx hb dX11_family_89 rfl (lv_at hl 0 rfl) ?_
    refine g_get hx hb hG hown hK hw inlX11 (ci := 9) rfl 0 2 (Nat.le_of_ble_eq_true rfl) rfl rfl wd_5_22 dX11_family_90 ?_
    refine lv_iload_n hx hb dX11_family_93 rfl (lv_at hl 1 rfl) ?_
    refine lv_iload_n hx hb dX11_family_94 rfl (lv_at hl 3 rfl) ?_
    obtain ⟨hi2, hf⟩ := gA_s hf
    refine g_iast (ws' := (wX11_family E o_t a_t (v_t_there ||| (1 <<< (x1 &&& 31))) v_t_wind v_t_force v_t_rains v_t_lost v_t_hours v_t_sights v_t_padMany v_t_acts v_t_blownMany v_t_badAct v_t_badWhy v_t_ruinAct v_t_ruinWho v_t_keptAt v_t_isWriting (upd f_t_at (Int32.toNatClampNeg x1) x2) (upd f_t_stem (Int32.toNatClampNeg x1) x3) f_t_lungs f_t_blown)) hx hb hK hw 2 rfl hi2 rfl dX11_family_95 (fun H locs hw => ?_)
    refine lv_aload_n hx hb dX11_family_96 rfl (lv_at hl 0 rfl) ?_
    refine g_get hx hb hG hown hK hw inlX11 (ci := 9) rfl 0 3 (Nat.le_of_ble_eq_true rfl) rfl rfl wd_5_23 dX11_family_97 ?_
    refine lv_iload_n hx hb dX11_family_100 rfl (lv_at hl 1 rfl) ?_
    refine lv_iload hx hb dX11_family_101 (lv_at hl 4 rfl) ?_
    obtain ⟨hi3, hf⟩ := gA_s hf
    refine g_iast (ws' := (wX11_family E o_t a_t (v_t_there ||| (1 <<< (x1 &&& 31))) v_t_wind v_t_force v_t_rains v_t_lost v_t_hours v_t_sights v_t_padMany v_t_acts v_t_blownMany v_t_badAct v_t_badWhy v_t_ruinAct v_t_ruinWho v_t_keptAt v_t_isWriting (upd f_t_at (Int32.toNatClampNeg x1) x2) (upd f_t_stem (Int32.toNatClampNeg x1) x3) (upd f_t_lungs (Int32.toNatClampNeg x1) x4) f_t_blown)) hx hb hK hw 3 rfl hi3 rfl dX11_family_103 (fun H locs hw => ?_)
    refine lv_aload_n hx hb dX11_family_104 rfl (lv_at hl 0 rfl) ?_
    refine g_get hx hb hG hown hK hw inlX11 (ci := 9) rfl 0 4 (Nat.le_of_ble_eq_true rfl) rfl rfl wd_6_0 dX11_family_105 ?_
    refine lv_iload_n hx hb dX11_family_108 rfl (lv_at hl 1 rfl) ?_
    refine lv_iconst (v := 0) hx hb dX11_family_109 k_i0 ?_
    obtain ⟨hi4, hf⟩ := gA_s hf
    refine g_iast (ws' := (wX11_family E o_t a_t (v_t_there ||| (1 <<< (x1 &&& 31))) v_t_wind v_t_force v_t_rains v_t_lost v_t_hours v_t_sights v_t_padMany v_t_acts v_t_blownMany v_t_badAct v_t_badWhy v_t_ruinAct v_t_ruinWho v_t_keptAt v_t_isWriting (upd f_t_at (Int32.toNatClampNeg x1) x2) (upd f_t_stem (Int32.toNatClampNeg x1) x3) (upd f_t_lungs (Int32.toNatClampNeg x1) x4) (upd f_t_blown (Int32.toNatClampNeg x1) 0))) hx hb hK hw 4 rfl hi4 rfl dX11_family_110 (fun H locs hw => ?_)
    refine lv_aload_n hx hb dX11_family_111 rfl (lv_at hl 0 rfl) ?_
    refine g_get hx hb hG hown hK hw inlX11 (ci := 9) rfl 0 0 (Nat.le_of_ble_eq_true rfl) rfl rfl wd_8_9 dX11_family_112 ?_
    obtain ⟨r5, hc6, hf⟩ := gB_s hf
    refine g_ki0 (is := []) hw hA (g_rS hx hb hml hG hown hK hw (is := []) rfl (by decide) (mX11_bitsOf l E (v_t_there ||| (1 <<< (x1 &&& 31))) r5 hc6) wd_9_1 wd_9_2 wd_1_5 wd_9_3 hX11_bitsOf g_allgood ⟨rfl, rfl⟩ ⟨Nat.le_of_ble_eq_true rfl, Nat.le_of_ble_eq_true rfl⟩ ⟨Nat.zero_le _, Nat.zero_le _⟩ rfl hl.1 rfl (Nat.le_of_ble_eq_true rfl) dX11_family_115) rfl (fun H locs hw => ?_)
    exact hret1 (r5, (v_t_there ||| (1 <<< (x1 &&& 31))), (upd f_t_at (Int32.toNatClampNeg x1) x2), (upd f_t_stem (Int32.toNatClampNeg x1) x3), (upd f_t_lungs (Int32.toNatClampNeg x1) x4), (upd f_t_blown (Int32.toNatClampNeg x1) 0)) _ _ _ _ hf hw dX11_family_118
  refine lv_iload_n hx hb dX11_family_0 rfl (lv_at hl 1 rfl) ?_
  refine lv_i2l hx hb dX11_family_1 rfl ?_
  refine lv_lconst (v := 0) hx hb dX11_family_2 k_l0 ?_
  refine lv_ldc2 hx hb hown (hG _ wd_8_6) dX11_family_3 ?_
  obtain ⟨r7, hc8, hf⟩ := gB_s hf
  refine g_ki0 (is := []) hw hA (g_rS hx hb hml hG hown hK hw (is := []) rfl (by decide) (mX11_in l E (Int32.toInt64 x1) 0 5 r7 hc8) wd_8_10 wd_8_11 wd_1_5 wd_8_12 hX11_in g_allgood ⟨rfl, rfl⟩ ⟨Nat.le_of_ble_eq_true rfl, Nat.le_of_ble_eq_true rfl⟩ ⟨Nat.zero_le _, Nat.zero_le _⟩ rfl hl.1 rfl (Nat.le_of_ble_eq_true rfl) dX11_family_6) rfl (fun H locs hw => ?_)
  refine lv_if_ne (tgt := 14) hx hb dX11_family_9 (by decide) (fun hc => ?_) (fun hc => ?_)
  · have hf := g_f hc hf
    refine lv_iload_n hx hb dX11_family_14 rfl (lv_at hl 2 rfl) ?_
    obtain ⟨r9, hc10, hf⟩ := gB_s hf
    refine g_ki0 (is := []) hw hA (g_rS hx hb hml hG hown hK hw (is := []) rfl (by decide) (mX11_isField l E x2 r9 hc10) wd_8_13 wd_8_14 wd_1_5 wd_8_15 hX11_isField g_allgood ⟨rfl, rfl⟩ ⟨Nat.le_of_ble_eq_true rfl, Nat.le_of_ble_eq_true rfl⟩ ⟨Nat.zero_le _, Nat.zero_le _⟩ rfl hl.1 rfl (Nat.le_of_ble_eq_true rfl) dX11_family_15) rfl (fun H locs hw => ?_)
    refine lv_if_eq (tgt := 46) hx hb dX11_family_18 (by decide) (fun hc => ?_) (fun hc => ?_)
    · have hf := g_t hc hf
      exact B46 v_t_there f_t_at f_t_stem f_t_lungs f_t_blown _ _ _ hf hw (lv_sub hl [] rfl)
    · have hf := g_f hc hf
      refine lv_iload_n hx hb dX11_family_21 rfl (lv_at hl 3 rfl) ?_
      refine lv_i2l hx hb dX11_family_22 rfl ?_
      refine lv_lconst (v := 0) hx hb dX11_family_23 k_l0 ?_
      refine lv_ldc2 hx hb hown (hG _ wd_8_7) dX11_family_24 ?_
      obtain ⟨r11, hc12, hf⟩ := gB_s hf
      refine g_ki0 (is := []) hw hA (g_rS hx hb hml hG hown hK hw (is := []) rfl (by decide) (mX11_in l E (Int32.toInt64 x3) 0 60 r11 hc12) wd_8_10 wd_8_11 wd_1_5 wd_8_12 hX11_in g_allgood ⟨rfl, rfl⟩ ⟨Nat.le_of_ble_eq_true rfl, Nat.le_of_ble_eq_true rfl⟩ ⟨Nat.zero_le _, Nat.zero_le _⟩ rfl hl.1 rfl (Nat.le_of_ble_eq_true rfl) dX11_family_27) rfl (fun H locs hw => ?_)
      refine lv_if_eq (tgt := 46) hx hb dX11_family_30 (by decide) (fun hc => ?_) (fun hc => ?_)
      · have hf := g_t hc hf
        exact B46 v_t_there f_t_at f_t_stem f_t_lungs f_t_blown _ _ _ hf hw (lv_sub hl [] rfl)
      · have hf := g_f hc hf
        refine lv_iload hx hb dX11_family_33 (lv_at hl 4 rfl) ?_
        refine lv_i2l hx hb dX11_family_35 rfl ?_
        refine lv_lconst (v := 1) hx hb dX11_family_36 k_l1 ?_
        refine lv_ldc2 hx hb hown (hG _ wd_8_8) dX11_family_37 ?_
        obtain ⟨r13, hc14, hf⟩ := gB_s hf
        refine g_ki0 (is := []) hw hA (g_rS hx hb hml hG hown hK hw (is := []) rfl (by decide) (mX11_in l E (Int32.toInt64 x4) 1 9 r13 hc14) wd_8_10 wd_8_11 wd_1_5 wd_8_12 hX11_in g_allgood ⟨rfl, rfl⟩ ⟨Nat.le_of_ble_eq_true rfl, Nat.le_of_ble_eq_true rfl⟩ ⟨Nat.zero_le _, Nat.zero_le _⟩ rfl hl.1 rfl (Nat.le_of_ble_eq_true rfl) dX11_family_40) rfl (fun H locs hw => ?_)
        refine lv_if_ne (tgt := 49) hx hb dX11_family_43 (by decide) (fun hc => ?_) (fun hc => ?_)
        · have hf := g_f hc hf
          refine lv_aload_n hx hb dX11_family_49 rfl (lv_at hl 0 rfl) ?_
          refine lv_iload_n hx hb dX11_family_50 rfl (lv_at hl 2 rfl) ?_
          obtain ⟨r15, hc16, hf⟩ := gB_s hf
          refine g_ki0 (is := [0, 1]) hw hA (g_rV hx hb hml hG hown hK hw (is := [0, 1]) rfl (by decide) (mX11_familyOn l E o_t a_t v_t_there v_t_wind v_t_force v_t_rains v_t_lost v_t_hours v_t_sights v_t_padMany v_t_acts v_t_blownMany v_t_badAct v_t_badWhy v_t_ruinAct v_t_ruinWho v_t_keptAt v_t_isWriting f_t_at x2 r15 hc16) wd_8_17 wd_8_18 wd_8_19 wd_1_5 wd_8_20 hX11_familyOn g_allgood ⟨rfl, rfl⟩ ⟨Nat.le_of_ble_eq_true rfl, Nat.le_of_ble_eq_true rfl⟩ ⟨Nat.zero_le _, Nat.zero_le _⟩ (ci := 9) (q0 := 0) rfl rfl rfl rfl hl.1 rfl (Nat.le_of_ble_eq_true rfl) dX11_family_51) rfl (fun H locs hw => ?_)
          refine lv_istore (lv' := [(5, .int r15), (0, .ref o_t), (1, .int x1), (2, .int x2), (3, .int x3), (4, .int x4)]) hx hb dX11_family_54 hl (Nat.le_of_ble_eq_true rfl) rfl (fun ls hl => ?_)
          refine lv_iload hx hb dX11_family_56 (lv_at hl 0 rfl) ?_
          refine lv_if_lt (tgt := 70) hx hb dX11_family_58 (by decide) (fun hc => ?_) (fun hc => ?_)
          · have hf := g_t hc hf
            exact B70 v_t_there f_t_at f_t_stem f_t_lungs f_t_blown x1 x2 x3 x4 _ _ _ hf hw (lv_sub hl [1, 2, 3, 4, 5] rfl)
          · have hf := g_f hc hf
            refine lv_iload hx hb dX11_family_61 (lv_at hl 0 rfl) ?_
            refine lv_iload_n hx hb dX11_family_63 rfl (lv_at hl 2 rfl) ?_
            refine lv_icmp_eq (tgt := 70) hx hb dX11_family_64 (by decide) (fun hc => ?_) (fun hc => ?_)
            · have hf := g_t hc hf
              exact B70 v_t_there f_t_at f_t_stem f_t_lungs f_t_blown x1 x2 x3 x4 _ _ _ hf hw (lv_sub hl [1, 2, 3, 4, 5] rfl)
            · have hf := g_f hc hf
              refine lv_bipush (v := -3) hx hb dX11_family_67 k_bm3 ?_
              exact hret1 ((-3), v_t_there, f_t_at, f_t_stem, f_t_lungs, f_t_blown) _ _ _ _ hf hw dX11_family_69
        · have hf := g_t hc hf
          exact B46 v_t_there f_t_at f_t_stem f_t_lungs f_t_blown _ _ _ hf hw (lv_sub hl [] rfl)
  · have hf := g_t hc hf
    refine lv_iconst (v := -1) hx hb dX11_family_12 k_im1 ?_
    exact hret1 ((-1), v_t_there, f_t_at, f_t_stem, f_t_lungs, f_t_blown) _ _ _ _ hf hw dX11_family_13
theorem hX11_fall : yX11_fall.cls = RX11 ∧ yX11_fall.cls ≠ "java/lang/invoke/MethodHandle" ∧ yX11_fall.cls ≠ "java/lang/invoke/VarHandle" ∧ (parseMethodDescriptor yX11_fall.desc).map (fun d => d.parameters.length) = some 2 := by decide +kernel
set_option maxHeartbeats 4000000 in
set_option maxRecDepth 100000 in
theorem mX11_fall (l : Launch) (E : gE) (o_t : Nat) (a_t : (Nat → Nat)) (v_t_there : Int32) (v_t_wind : Int32) (v_t_force : Int32) (v_t_rains : Int32) (v_t_lost : Int32) (v_t_hours : Int32) (v_t_sights : Int32) (v_t_padMany : Int32) (v_t_acts : Int32) (v_t_blownMany : Int32) (v_t_badAct : Int32) (v_t_badWhy : Int32) (v_t_ruinAct : Int32) (v_t_ruinWho : Int32) (v_t_keptAt : Int32) (v_t_isWriting : Int32) (f_t_heap : (Nat → Int32)) (x1 : Int32) (x2 : Int32) (z_t_lost : Int32) (z_t_heap : (Nat → Int32)) (hf : fX11_fall v_t_lost f_t_heap x1 x2 = some (z_t_lost, z_t_heap)) {sz : Nat} : gMv l yX11_fall (gW yX11_fall cX11_fall 4 none) ({ frames := 0, cells := 0, slots := 0, locals := 0 } : Room) E [.ref o_t, .int x1, .int x2] (wX11_fall E o_t a_t v_t_there v_t_wind v_t_force v_t_rains v_t_lost v_t_hours v_t_sights v_t_padMany v_t_acts v_t_blownMany v_t_badAct v_t_badWhy v_t_ruinAct v_t_ruinWho v_t_keptAt v_t_isWriting f_t_heap) sz (wX11_fall E o_t a_t v_t_there v_t_wind v_t_force v_t_rains z_t_lost v_t_hours v_t_sights v_t_padMany v_t_acts v_t_blownMany v_t_badAct v_t_badWhy v_t_ruinAct v_t_ruinWho v_t_keptAt v_t_isWriting z_t_heap) := by
  refine g_openV (own := RX11) (by decide) rfl (Nat.le_of_ble_eq_true rfl) (fun p e s m args below meth cd Q A hx hb hml hown hG hK hA hret hw ls hl => ?_)
  have hl : lv_has ls 4 [(0, .ref o_t), (1, .int x1), (2, .int x2)] := hl
  have hret1 : ∀ (t : Int32 × (Nat → Int32)) (H : Heap) (locs : List Loc) (pc : Nat) (ls : Array Slot), some t = some (z_t_lost, z_t_heap) → gS E A s.heap (wX11_fall E o_t a_t v_t_there v_t_wind v_t_force v_t_rains t.1 v_t_hours v_t_sights v_t_padMany v_t_acts v_t_blownMany v_t_badAct v_t_badWhy v_t_ruinAct v_t_ruinWho v_t_keptAt v_t_isWriting t.2) H locs → decode cX11_fall pc = .ok (.return_, 1) → W p l e ({ frames := 0, cells := 0, slots := 0, locals := 0 } : Room) s m args below meth cd H locs 0 0 Q (F0 m pc ls []) := by
    intro t H locs pc ls h hw hd
    obtain rfl : t = (z_t_lost, z_t_heap) := Option.some.inj h
    exact hret H locs pc ls hw hd
  have B53 : ∀ (v_t_lost : Int32) (f_t_heap : (Nat → Int32)) (s1 : Int32) (s2 : Int32) (H : Heap) (locs : List Loc) (ls : Array Slot), fX11_fall_b53 v_t_lost f_t_heap s1 s2 = some (z_t_lost, z_t_heap) → gS E A s.heap (wX11_fall E o_t a_t v_t_there v_t_wind v_t_force v_t_rains v_t_lost v_t_hours v_t_sights v_t_padMany v_t_acts v_t_blownMany v_t_badAct v_t_badWhy v_t_ruinAct v_t_ruinWho v_t_keptAt v_t_isWriting f_t_heap) H locs → lv_has ls 4 [] → W p l e ({ frames := 0, cells := 0, slots := 0, locals := 0 } : Room) s m args below meth cd H locs 0 0 Q (F0 m 53 ls [.int s2, .int s1, .ref (a_t 5)]) := by
    intro  v_t_lost f_t_heap s1 s2 H locs ls hf hw hl
    obtain ⟨hi1, hf⟩ := gA_s hf
    refine g_iast (ws' := (wX11_fall E o_t a_t v_t_there v_t_wind v_t_force v_t_rains v_t_lost v_t_hours v_t_sights v_t_padMany v_t_acts v_t_blownMany v_t_badAct v_t_badWhy v_t_ruinAct v_t_ruinWho v_t_keptAt v_t_isWriting (upd f_t_heap (Int32.toNatClampNeg s1) s2))) hx hb hK hw 1 rfl hi1 rfl dX11_fall_53 (fun H locs hw => ?_)
    exact hret1 (v_t_lost, (upd f_t_heap (Int32.toNatClampNeg s1) s2)) _ _ _ _ hf hw dX11_fall_54
  have B30 : ∀ (v_t_lost : Int32) (f_t_heap : (Nat → Int32)) (x1 : Int32) (x3 : Int32) (s1 : Int32) (s2 : Int32) (H : Heap) (locs : List Loc) (ls : Array Slot), fX11_fall_b30 v_t_lost f_t_heap x1 x3 s1 s2 = some (z_t_lost, z_t_heap) → gS E A s.heap (wX11_fall E o_t a_t v_t_there v_t_wind v_t_force v_t_rains v_t_lost v_t_hours v_t_sights v_t_padMany v_t_acts v_t_blownMany v_t_badAct v_t_badWhy v_t_ruinAct v_t_ruinWho v_t_keptAt v_t_isWriting f_t_heap) H locs → lv_has ls 4 [(0, .ref o_t), (1, .int x1), (3, .int x3)] → W p l e ({ frames := 0, cells := 0, slots := 0, locals := 0 } : Room) s m args below meth cd H locs 0 0 Q (F0 m 30 ls [.int s2, .int s1, .ref o_t]) := by
    intro  v_t_lost f_t_heap x1 x3 s1 s2 H locs ls hf hw hl
    refine lv_iadd hx hb dX11_fall_30 ?_
    refine g_put (ws' := (wX11_fall E o_t a_t v_t_there v_t_wind v_t_force v_t_rains (s1 + s2) v_t_hours v_t_sights v_t_padMany v_t_acts v_t_blownMany v_t_badAct v_t_badWhy v_t_ruinAct v_t_ruinWho v_t_keptAt v_t_isWriting f_t_heap)) hx hb hG hown hK hw inlX11 tyX11_ok nmX11 (ci := 9) rfl 0 9 (Nat.le_of_ble_eq_true rfl) rfl wd_10_5 rfl rfl rfl (Nat.le_of_ble_eq_true rfl) rfl dX11_fall_31 (fun H locs hw => ?_)
    refine lv_aload_n hx hb dX11_fall_34 rfl (lv_at hl 0 rfl) ?_
    refine g_get hx hb hG hown hK hw inlX11 (ci := 9) rfl 0 5 (Nat.le_of_ble_eq_true rfl) rfl rfl wd_6_1 dX11_fall_35 ?_
    refine lv_iload_n hx hb dX11_fall_38 rfl (lv_at hl 1 rfl) ?_
    refine lv_iload_n hx hb dX11_fall_39 rfl (lv_at hl 2 rfl) ?_
    refine lv_sipush (v := 999) hx hb dX11_fall_40 k_s999 ?_
    refine lv_icmp_le (tgt := 52) hx hb dX11_fall_43 (by decide) (fun hc => ?_) (fun hc => ?_)
    · have hf := g_t hc hf
      refine lv_iload_n hx hb dX11_fall_52 rfl (lv_at hl 2 rfl) ?_
      exact B53 (s1 + s2) f_t_heap x1 x3 _ _ _ hf hw (lv_sub hl [] rfl)
    · have hf := g_f hc hf
      refine lv_sipush (v := 999) hx hb dX11_fall_46 k_s999 ?_
      refine lv_goto (tgt := 53) hx hb dX11_fall_49 (by decide) ?_
      exact B53 (s1 + s2) f_t_heap x1 999 _ _ _ hf hw (lv_sub hl [] rfl)
  refine lv_aload_n hx hb dX11_fall_0 rfl (lv_at hl 0 rfl) ?_
  refine g_get hx hb hG hown hK hw inlX11 (ci := 9) rfl 0 5 (Nat.le_of_ble_eq_true rfl) rfl rfl wd_6_1 dX11_fall_1 ?_
  refine lv_iload_n hx hb dX11_fall_4 rfl (lv_at hl 1 rfl) ?_
  obtain ⟨hi2, hf⟩ := gA_s hf
  refine g_iald hx hb hK hw 1 rfl hi2 dX11_fall_5 ?_
  refine lv_iload_n hx hb dX11_fall_6 rfl (lv_at hl 2 rfl) ?_
  refine lv_iadd hx hb dX11_fall_7 ?_
  refine lv_istore_n (lv' := [(3, .int ((f_t_heap (Int32.toNatClampNeg x1)) + x2)), (0, .ref o_t), (1, .int x1), (2, .int x2)]) hx hb dX11_fall_8 rfl hl (Nat.le_of_ble_eq_true rfl) rfl (fun ls hl => ?_)
  refine lv_aload_n hx hb dX11_fall_9 rfl (lv_at hl 1 rfl) ?_
  refine lv_dup hx hb dX11_fall_10 rfl ?_
  refine g_get hx hb hG hown hK hw inlX11 (ci := 9) rfl 0 9 (Nat.le_of_ble_eq_true rfl) rfl rfl wd_10_5 dX11_fall_11 ?_
  refine lv_iload_n hx hb dX11_fall_14 rfl (lv_at hl 0 rfl) ?_
  refine lv_sipush (v := 999) hx hb dX11_fall_15 k_s999 ?_
  refine lv_icmp_le (tgt := 29) hx hb dX11_fall_18 (by decide) (fun hc => ?_) (fun hc => ?_)
  · have hf := g_t hc hf
    refine lv_iconst (v := 0) hx hb dX11_fall_29 k_i0 ?_
    exact B30 v_t_lost f_t_heap x1 ((f_t_heap (Int32.toNatClampNeg x1)) + x2) v_t_lost 0 _ _ _ hf hw (lv_sub hl [1, 2, 0] rfl)
  · have hf := g_f hc hf
    refine lv_iload_n hx hb dX11_fall_21 rfl (lv_at hl 0 rfl) ?_
    refine lv_sipush (v := 999) hx hb dX11_fall_22 k_s999 ?_
    refine lv_isub hx hb dX11_fall_25 ?_
    refine lv_goto (tgt := 30) hx hb dX11_fall_26 (by decide) ?_
    exact B30 v_t_lost f_t_heap x1 ((f_t_heap (Int32.toNatClampNeg x1)) + x2) v_t_lost (((f_t_heap (Int32.toNatClampNeg x1)) + x2) - 999) _ _ _ hf hw (lv_sub hl [1, 2, 0] rfl)
theorem hX11_leave : yX11_leave.cls = RX11 ∧ yX11_leave.cls ≠ "java/lang/invoke/MethodHandle" ∧ yX11_leave.cls ≠ "java/lang/invoke/VarHandle" ∧ (parseMethodDescriptor yX11_leave.desc).map (fun d => d.parameters.length) = some 1 := by decide +kernel
set_option maxHeartbeats 4000000 in
set_option maxRecDepth 100000 in
theorem mX11_leave (l : Launch) (E : gE) (o_t : Nat) (a_t : (Nat → Nat)) (v_t_there : Int32) (v_t_wind : Int32) (v_t_force : Int32) (v_t_rains : Int32) (v_t_lost : Int32) (v_t_hours : Int32) (v_t_sights : Int32) (v_t_padMany : Int32) (v_t_acts : Int32) (v_t_blownMany : Int32) (v_t_badAct : Int32) (v_t_badWhy : Int32) (v_t_ruinAct : Int32) (v_t_ruinWho : Int32) (v_t_keptAt : Int32) (v_t_isWriting : Int32) (f_t_at : (Nat → Int32)) (f_t_stem : (Nat → Int32)) (f_t_heap : (Nat → Int32)) (x1 : Int32) (rv : Int32) (z_t_there : Int32) (z_t_lost : Int32) (z_t_heap : (Nat → Int32)) (hf : fX11_leave v_t_there v_t_lost f_t_at f_t_stem f_t_heap x1 = some (rv, z_t_there, z_t_lost, z_t_heap)) {sz : Nat} : gMi l yX11_leave (gW yX11_leave cX11_leave 2 (some .int)) ({ frames := 2, cells := 0, slots := 0, locals := 46 } : Room) E [.ref o_t, .int x1] (wX11_leave E o_t a_t v_t_there v_t_wind v_t_force v_t_rains v_t_lost v_t_hours v_t_sights v_t_padMany v_t_acts v_t_blownMany v_t_badAct v_t_badWhy v_t_ruinAct v_t_ruinWho v_t_keptAt v_t_isWriting f_t_at f_t_stem f_t_heap) sz rv (wX11_leave E o_t a_t z_t_there v_t_wind v_t_force v_t_rains z_t_lost v_t_hours v_t_sights v_t_padMany v_t_acts v_t_blownMany v_t_badAct v_t_badWhy v_t_ruinAct v_t_ruinWho v_t_keptAt v_t_isWriting f_t_at f_t_stem z_t_heap) := by
  refine g_openI (own := RX11) (by decide) rfl (Nat.le_of_ble_eq_true rfl) (fun p e s m args below meth cd Q A hx hb hml hown hG hK hA hret hw ls hl => ?_)
  have hl : lv_has ls 2 [(0, .ref o_t), (1, .int x1)] := hl
  have hret1 : ∀ (t : Int32 × Int32 × Int32 × (Nat → Int32)) (H : Heap) (locs : List Loc) (pc : Nat) (ls : Array Slot), some t = some (rv, z_t_there, z_t_lost, z_t_heap) → gS E A s.heap (wX11_leave E o_t a_t t.2.1 v_t_wind v_t_force v_t_rains t.2.2.1 v_t_hours v_t_sights v_t_padMany v_t_acts v_t_blownMany v_t_badAct v_t_badWhy v_t_ruinAct v_t_ruinWho v_t_keptAt v_t_isWriting f_t_at f_t_stem t.2.2.2) H locs → decode cX11_leave pc = .ok (.ireturn, 1) → W p l e ({ frames := 2, cells := 0, slots := 0, locals := 46 } : Room) s m args below meth cd H locs 0 0 Q (F0 m pc ls [.int t.1]) := by
    intro t H locs pc ls h hw hd
    obtain rfl : t = (rv, z_t_there, z_t_lost, z_t_heap) := Option.some.inj h
    exact hret H locs pc ls hw hd
  refine lv_aload_n hx hb dX11_leave_0 rfl (lv_at hl 0 rfl) ?_
  refine lv_iload_n hx hb dX11_leave_1 rfl (lv_at hl 1 rfl) ?_
  obtain ⟨r1, hc2, hf⟩ := gB_s hf
  refine g_ki0 (is := [0]) hw hA (g_rV hx hb hml hG hown hK hw (is := [0]) rfl (by decide) (mX11_isFamily l E o_t a_t v_t_there v_t_wind v_t_force v_t_rains v_t_lost v_t_hours v_t_sights v_t_padMany v_t_acts v_t_blownMany v_t_badAct v_t_badWhy v_t_ruinAct v_t_ruinWho v_t_keptAt v_t_isWriting x1 r1 hc2) wd_8_21 wd_8_22 wd_8_23 wd_1_5 wd_9_0 hX11_isFamily g_allgood ⟨rfl, rfl⟩ ⟨Nat.le_of_ble_eq_true rfl, Nat.le_of_ble_eq_true rfl⟩ ⟨Nat.zero_le _, Nat.zero_le _⟩ (ci := 9) (q0 := 0) rfl rfl rfl rfl hl.1 rfl (Nat.le_of_ble_eq_true rfl) dX11_leave_2) rfl (fun H locs hw => ?_)
  refine lv_if_ne (tgt := 10) hx hb dX11_leave_5 (by decide) (fun hc => ?_) (fun hc => ?_)
  · have hf := g_f hc hf
    refine lv_aload_n hx hb dX11_leave_10 rfl (lv_at hl 0 rfl) ?_
    refine lv_dup hx hb dX11_leave_11 rfl ?_
    refine g_get hx hb hG hown hK hw inlX11 (ci := 9) rfl 0 0 (Nat.le_of_ble_eq_true rfl) rfl rfl wd_8_9 dX11_leave_12 ?_
    refine lv_iconst (v := 1) hx hb dX11_leave_15 k_i1 ?_
    refine lv_iload_n hx hb dX11_leave_16 rfl (lv_at hl 1 rfl) ?_
    refine lv_ishl hx hb dX11_leave_17 ?_
    refine lv_iconst (v := -1) hx hb dX11_leave_18 k_im1 ?_
    refine lv_ixor hx hb dX11_leave_19 ?_
    refine lv_iand hx hb dX11_leave_20 ?_
    refine g_put (ws' := (wX11_leave E o_t a_t (v_t_there &&& ((1 <<< (x1 &&& 31)) ^^^ (-1))) v_t_wind v_t_force v_t_rains v_t_lost v_t_hours v_t_sights v_t_padMany v_t_acts v_t_blownMany v_t_badAct v_t_badWhy v_t_ruinAct v_t_ruinWho v_t_keptAt v_t_isWriting f_t_at f_t_stem f_t_heap)) hx hb hG hown hK hw inlX11 tyX11_ok nmX11 (ci := 9) rfl 0 0 (Nat.le_of_ble_eq_true rfl) rfl wd_8_9 rfl rfl rfl (Nat.le_of_ble_eq_true rfl) rfl dX11_leave_21 (fun H locs hw => ?_)
    refine lv_aload_n hx hb dX11_leave_24 rfl (lv_at hl 0 rfl) ?_
    refine lv_aload_n hx hb dX11_leave_25 rfl (lv_at hl 0 rfl) ?_
    refine g_get hx hb hG hown hK hw inlX11 (ci := 9) rfl 0 1 (Nat.le_of_ble_eq_true rfl) rfl rfl wd_5_21 dX11_leave_26 ?_
    refine lv_iload_n hx hb dX11_leave_29 rfl (lv_at hl 1 rfl) ?_
    obtain ⟨hi3, hf⟩ := gA_s hf
    refine g_iald hx hb hK hw 1 rfl hi3 dX11_leave_30 ?_
    refine lv_aload_n hx hb dX11_leave_31 rfl (lv_at hl 0 rfl) ?_
    refine g_get hx hb hG hown hK hw inlX11 (ci := 9) rfl 0 2 (Nat.le_of_ble_eq_true rfl) rfl rfl wd_5_22 dX11_leave_32 ?_
    refine lv_iload_n hx hb dX11_leave_35 rfl (lv_at hl 1 rfl) ?_
    obtain ⟨hi4, hf⟩ := gA_s hf
    refine g_iald hx hb hK hw 2 rfl hi4 dX11_leave_36 ?_
    obtain ⟨⟨r5_0, r5_1⟩, hc6, hf⟩ := gB_s hf
    refine g_kv (is := [0, 3]) (isR := [1, 2]) (nW := 4) (w1 := (wX11_fall E o_t a_t (v_t_there &&& ((1 <<< (x1 &&& 31)) ^^^ (-1))) v_t_wind v_t_force v_t_rains r5_0 v_t_hours v_t_sights v_t_padMany v_t_acts v_t_blownMany v_t_badAct v_t_badWhy v_t_ruinAct v_t_ruinWho v_t_keptAt v_t_isWriting r5_1)) (ws' := (wX11_leave E o_t a_t (v_t_there &&& ((1 <<< (x1 &&& 31)) ^^^ (-1))) v_t_wind v_t_force v_t_rains r5_0 v_t_hours v_t_sights v_t_padMany v_t_acts v_t_blownMany v_t_badAct v_t_badWhy v_t_ruinAct v_t_ruinWho v_t_keptAt v_t_isWriting f_t_at f_t_stem r5_1)) hw hA (g_rV hx hb hml hG hown hK hw (is := [0, 3]) rfl (by decide) (mX11_fall l E o_t a_t (v_t_there &&& ((1 <<< (x1 &&& 31)) ^^^ (-1))) v_t_wind v_t_force v_t_rains v_t_lost v_t_hours v_t_sights v_t_padMany v_t_acts v_t_blownMany v_t_badAct v_t_badWhy v_t_ruinAct v_t_ruinWho v_t_keptAt v_t_isWriting f_t_heap (f_t_at (Int32.toNatClampNeg x1)) (f_t_stem (Int32.toNatClampNeg x1)) r5_0 r5_1 hc6) wd_10_1 wd_10_2 wd_10_3 wd_1_5 wd_10_4 hX11_fall g_allgood ⟨rfl, rfl⟩ ⟨Nat.le_of_ble_eq_true rfl, Nat.le_of_ble_eq_true rfl⟩ ⟨Nat.zero_le _, Nat.zero_le _⟩ (ci := 9) (q0 := 0) rfl rfl rfl rfl hl.1 rfl (Nat.le_of_ble_eq_true rfl) dX11_leave_37) rfl (g_had [o_t, (a_t 5)] rfl rfl) rfl (⟨⟨_, rfl, rfl⟩, ⟨⟨_, rfl, rfl⟩, trivial⟩⟩) rfl rfl (by decide) (fun H locs hw => ?_)
    refine lv_aload_n hx hb dX11_leave_40 rfl (lv_at hl 0 rfl) ?_
    refine g_get hx hb hG hown hK hw inlX11 (ci := 9) rfl 0 0 (Nat.le_of_ble_eq_true rfl) rfl rfl wd_8_9 dX11_leave_41 ?_
    obtain ⟨r7, hc8, hf⟩ := gB_s hf
    refine g_ki0 (is := []) hw hA (g_rS hx hb hml hG hown hK hw (is := []) rfl (by decide) (mX11_bitsOf l E (v_t_there &&& ((1 <<< (x1 &&& 31)) ^^^ (-1))) r7 hc8) wd_9_1 wd_9_2 wd_1_5 wd_9_3 hX11_bitsOf g_allgood ⟨rfl, rfl⟩ ⟨Nat.le_of_ble_eq_true rfl, Nat.le_of_ble_eq_true rfl⟩ ⟨Nat.zero_le _, Nat.zero_le _⟩ rfl hl.1 rfl (Nat.le_of_ble_eq_true rfl) dX11_leave_44) rfl (fun H locs hw => ?_)
    exact hret1 (r7, (v_t_there &&& ((1 <<< (x1 &&& 31)) ^^^ (-1))), r5_0, r5_1) _ _ _ _ hf hw dX11_leave_47
  · have hf := g_t hc hf
    refine lv_iconst (v := -1) hx hb dX11_leave_8 k_im1 ?_
    exact hret1 ((-1), v_t_there, v_t_lost, f_t_heap) _ _ _ _ hf hw dX11_leave_9
theorem hX11_lay : yX11_lay.cls = RX11 ∧ yX11_lay.cls ≠ "java/lang/invoke/MethodHandle" ∧ yX11_lay.cls ≠ "java/lang/invoke/VarHandle" ∧ (parseMethodDescriptor yX11_lay.desc).map (fun d => d.parameters.length) = some 2 := by decide +kernel
set_option maxHeartbeats 4000000 in
set_option maxRecDepth 100000 in
theorem mX11_lay (l : Launch) (E : gE) (o_t : Nat) (a_t : (Nat → Nat)) (v_t_there : Int32) (v_t_wind : Int32) (v_t_force : Int32) (v_t_rains : Int32) (v_t_lost : Int32) (v_t_hours : Int32) (v_t_sights : Int32) (v_t_padMany : Int32) (v_t_acts : Int32) (v_t_blownMany : Int32) (v_t_badAct : Int32) (v_t_badWhy : Int32) (v_t_ruinAct : Int32) (v_t_ruinWho : Int32) (v_t_keptAt : Int32) (v_t_isWriting : Int32) (f_t_heap : (Nat → Int32)) (x1 : Int32) (x2 : Int32) (rv : Int32) (z_t_heap : (Nat → Int32)) (hf : fX11_lay f_t_heap x1 x2 = some (rv, z_t_heap)) {sz : Nat} : gMi l yX11_lay (gW yX11_lay cX11_lay 4 (some .int)) ({ frames := 2, cells := 0, slots := 0, locals := 45 } : Room) E [.ref o_t, .int x1, .int x2] (wX11_lay E o_t a_t v_t_there v_t_wind v_t_force v_t_rains v_t_lost v_t_hours v_t_sights v_t_padMany v_t_acts v_t_blownMany v_t_badAct v_t_badWhy v_t_ruinAct v_t_ruinWho v_t_keptAt v_t_isWriting f_t_heap) sz rv (wX11_lay E o_t a_t v_t_there v_t_wind v_t_force v_t_rains v_t_lost v_t_hours v_t_sights v_t_padMany v_t_acts v_t_blownMany v_t_badAct v_t_badWhy v_t_ruinAct v_t_ruinWho v_t_keptAt v_t_isWriting z_t_heap) := by
  refine g_openI (own := RX11) (by decide) rfl (Nat.le_of_ble_eq_true rfl) (fun p e s m args below meth cd Q A hx hb hml hown hG hK hA hret hw ls hl => ?_)
  have hl : lv_has ls 4 [(0, .ref o_t), (1, .int x1), (2, .int x2)] := hl
  have hret1 : ∀ (t : Int32 × (Nat → Int32)) (H : Heap) (locs : List Loc) (pc : Nat) (ls : Array Slot), some t = some (rv, z_t_heap) → gS E A s.heap (wX11_lay E o_t a_t v_t_there v_t_wind v_t_force v_t_rains v_t_lost v_t_hours v_t_sights v_t_padMany v_t_acts v_t_blownMany v_t_badAct v_t_badWhy v_t_ruinAct v_t_ruinWho v_t_keptAt v_t_isWriting t.2) H locs → decode cX11_lay pc = .ok (.ireturn, 1) → W p l e ({ frames := 2, cells := 0, slots := 0, locals := 45 } : Room) s m args below meth cd H locs 0 0 Q (F0 m pc ls [.int t.1]) := by
    intro t H locs pc ls h hw hd
    obtain rfl : t = (rv, z_t_heap) := Option.some.inj h
    exact hret H locs pc ls hw hd
  have B19 : ∀ (f_t_heap : (Nat → Int32)) (H : Heap) (locs : List Loc) (ls : Array Slot), fX11_lay_b19 f_t_heap = some (rv, z_t_heap) → gS E A s.heap (wX11_lay E o_t a_t v_t_there v_t_wind v_t_force v_t_rains v_t_lost v_t_hours v_t_sights v_t_padMany v_t_acts v_t_blownMany v_t_badAct v_t_badWhy v_t_ruinAct v_t_ruinWho v_t_keptAt v_t_isWriting f_t_heap) H locs → lv_has ls 4 [] → W p l e ({ frames := 2, cells := 0, slots := 0, locals := 45 } : Room) s m args below meth cd H locs 0 0 Q (F0 m 19 ls []) := by
    intro  f_t_heap H locs ls hf hw hl
    refine lv_bipush (v := -2) hx hb dX11_lay_19 k_bm2 ?_
    exact hret1 ((-2), f_t_heap) _ _ _ _ hf hw dX11_lay_21
  refine lv_iload_n hx hb dX11_lay_0 rfl (lv_at hl 1 rfl) ?_
  obtain ⟨r1, hc2, hf⟩ := gB_s hf
  refine g_ki0 (is := []) hw hA (g_rS hx hb hml hG hown hK hw (is := []) rfl (by decide) (mX11_isField l E x1 r1 hc2) wd_8_13 wd_8_14 wd_1_5 wd_8_15 hX11_isField g_allgood ⟨rfl, rfl⟩ ⟨Nat.le_of_ble_eq_true rfl, Nat.le_of_ble_eq_true rfl⟩ ⟨Nat.zero_le _, Nat.zero_le _⟩ rfl hl.1 rfl (Nat.le_of_ble_eq_true rfl) dX11_lay_1) rfl (fun H locs hw => ?_)
  refine lv_if_eq (tgt := 19) hx hb dX11_lay_4 (by decide) (fun hc => ?_) (fun hc => ?_)
  · have hf := g_t hc hf
    exact B19 f_t_heap _ _ _ hf hw (lv_sub hl [] rfl)
  · have hf := g_f hc hf
    refine lv_iload_n hx hb dX11_lay_7 rfl (lv_at hl 2 rfl) ?_
    refine lv_i2l hx hb dX11_lay_8 rfl ?_
    refine lv_lconst (v := 0) hx hb dX11_lay_9 k_l0 ?_
    refine lv_ldc2 hx hb hown (hG _ wd_10_15) dX11_lay_10 ?_
    obtain ⟨r3, hc4, hf⟩ := gB_s hf
    refine g_ki0 (is := []) hw hA (g_rS hx hb hml hG hown hK hw (is := []) rfl (by decide) (mX11_in l E (Int32.toInt64 x2) 0 999 r3 hc4) wd_8_10 wd_8_11 wd_1_5 wd_8_12 hX11_in g_allgood ⟨rfl, rfl⟩ ⟨Nat.le_of_ble_eq_true rfl, Nat.le_of_ble_eq_true rfl⟩ ⟨Nat.zero_le _, Nat.zero_le _⟩ rfl hl.1 rfl (Nat.le_of_ble_eq_true rfl) dX11_lay_13) rfl (fun H locs hw => ?_)
    refine lv_if_ne (tgt := 22) hx hb dX11_lay_16 (by decide) (fun hc => ?_) (fun hc => ?_)
    · have hf := g_f hc hf
      refine lv_aload_n hx hb dX11_lay_22 rfl (lv_at hl 0 rfl) ?_
      refine g_get hx hb hG hown hK hw inlX11 (ci := 9) rfl 0 5 (Nat.le_of_ble_eq_true rfl) rfl rfl wd_6_1 dX11_lay_23 ?_
      refine lv_iload_n hx hb dX11_lay_26 rfl (lv_at hl 1 rfl) ?_
      obtain ⟨hi5, hf⟩ := gA_s hf
      refine g_iald hx hb hK hw 1 rfl hi5 dX11_lay_27 ?_
      refine lv_istore_n (lv' := [(3, .int (f_t_heap (Int32.toNatClampNeg x1))), (0, .ref o_t), (1, .int x1), (2, .int x2)]) hx hb dX11_lay_28 rfl hl (Nat.le_of_ble_eq_true rfl) rfl (fun ls hl => ?_)
      refine lv_aload_n hx hb dX11_lay_29 rfl (lv_at hl 1 rfl) ?_
      refine g_get hx hb hG hown hK hw inlX11 (ci := 9) rfl 0 5 (Nat.le_of_ble_eq_true rfl) rfl rfl wd_6_1 dX11_lay_30 ?_
      refine lv_iload_n hx hb dX11_lay_33 rfl (lv_at hl 2 rfl) ?_
      refine lv_iload_n hx hb dX11_lay_34 rfl (lv_at hl 3 rfl) ?_
      obtain ⟨hi6, hf⟩ := gA_s hf
      refine g_iast (ws' := (wX11_lay E o_t a_t v_t_there v_t_wind v_t_force v_t_rains v_t_lost v_t_hours v_t_sights v_t_padMany v_t_acts v_t_blownMany v_t_badAct v_t_badWhy v_t_ruinAct v_t_ruinWho v_t_keptAt v_t_isWriting (upd f_t_heap (Int32.toNatClampNeg x1) x2))) hx hb hK hw 1 rfl hi6 rfl dX11_lay_35 (fun H locs hw => ?_)
      refine lv_iload_n hx hb dX11_lay_36 rfl (lv_at hl 0 rfl) ?_
      exact hret1 ((f_t_heap (Int32.toNatClampNeg x1)), (upd f_t_heap (Int32.toNatClampNeg x1) x2)) _ _ _ _ hf hw dX11_lay_37
    · have hf := g_t hc hf
      exact B19 f_t_heap _ _ _ hf hw (lv_sub hl [] rfl)
theorem hX11_set : yX11_set.cls = RX11 ∧ yX11_set.cls ≠ "java/lang/invoke/MethodHandle" ∧ yX11_set.cls ≠ "java/lang/invoke/VarHandle" ∧ (parseMethodDescriptor yX11_set.desc).map (fun d => d.parameters.length) = some 2 := by decide +kernel
set_option maxHeartbeats 4000000 in
set_option maxRecDepth 100000 in
theorem mX11_set (l : Launch) (E : gE) (o_t : Nat) (a_t : (Nat → Nat)) (v_t_there : Int32) (v_t_wind : Int32) (v_t_force : Int32) (v_t_rains : Int32) (v_t_lost : Int32) (v_t_hours : Int32) (v_t_sights : Int32) (v_t_padMany : Int32) (v_t_acts : Int32) (v_t_blownMany : Int32) (v_t_badAct : Int32) (v_t_badWhy : Int32) (v_t_ruinAct : Int32) (v_t_ruinWho : Int32) (v_t_keptAt : Int32) (v_t_isWriting : Int32) (x1 : Int32) (x2 : Int32) (rv : Int32) (z_t_wind : Int32) (z_t_force : Int32) (z_t_rains : Int32) (hf : fX11_set v_t_wind v_t_force v_t_rains x1 x2 = some (rv, z_t_wind, z_t_force, z_t_rains)) {sz : Nat} : gMi l yX11_set (gW yX11_set cX11_set 4 (some .int)) ({ frames := 1, cells := 0, slots := 0, locals := 25 } : Room) E [.ref o_t, .int x1, .int x2] (wX11_set E o_t a_t v_t_there v_t_wind v_t_force v_t_rains v_t_lost v_t_hours v_t_sights v_t_padMany v_t_acts v_t_blownMany v_t_badAct v_t_badWhy v_t_ruinAct v_t_ruinWho v_t_keptAt v_t_isWriting) sz rv (wX11_set E o_t a_t v_t_there z_t_wind z_t_force z_t_rains v_t_lost v_t_hours v_t_sights v_t_padMany v_t_acts v_t_blownMany v_t_badAct v_t_badWhy v_t_ruinAct v_t_ruinWho v_t_keptAt v_t_isWriting) := by
  refine g_openI (own := RX11) (by decide) rfl (Nat.le_of_ble_eq_true rfl) (fun p e s m args below meth cd Q A hx hb hml hown hG hK hA hret hw ls hl => ?_)
  have hl : lv_has ls 4 [(0, .ref o_t), (1, .int x1), (2, .int x2)] := hl
  have hret1 : ∀ (t : Int32 × Int32 × Int32 × Int32) (H : Heap) (locs : List Loc) (pc : Nat) (ls : Array Slot), some t = some (rv, z_t_wind, z_t_force, z_t_rains) → gS E A s.heap (wX11_set E o_t a_t v_t_there t.2.1 t.2.2.1 t.2.2.2 v_t_lost v_t_hours v_t_sights v_t_padMany v_t_acts v_t_blownMany v_t_badAct v_t_badWhy v_t_ruinAct v_t_ruinWho v_t_keptAt v_t_isWriting) H locs → decode cX11_set pc = .ok (.ireturn, 1) → W p l e ({ frames := 1, cells := 0, slots := 0, locals := 25 } : Room) s m args below meth cd H locs 0 0 Q (F0 m pc ls [.int t.1]) := by
    intro t H locs pc ls h hw hd
    obtain rfl : t = (rv, z_t_wind, z_t_force, z_t_rains) := Option.some.inj h
    exact hret H locs pc ls hw hd
  have B43 : ∀ (v_t_wind : Int32) (v_t_force : Int32) (v_t_rains : Int32) (H : Heap) (locs : List Loc) (ls : Array Slot), fX11_set_b43 v_t_wind v_t_force v_t_rains = some (rv, z_t_wind, z_t_force, z_t_rains) → gS E A s.heap (wX11_set E o_t a_t v_t_there v_t_wind v_t_force v_t_rains v_t_lost v_t_hours v_t_sights v_t_padMany v_t_acts v_t_blownMany v_t_badAct v_t_badWhy v_t_ruinAct v_t_ruinWho v_t_keptAt v_t_isWriting) H locs → lv_has ls 4 [] → W p l e ({ frames := 1, cells := 0, slots := 0, locals := 25 } : Room) s m args below meth cd H locs 0 0 Q (F0 m 43 ls []) := by
    intro  v_t_wind v_t_force v_t_rains H locs ls hf hw hl
    refine lv_bipush (v := -2) hx hb dX11_set_43 k_bm2 ?_
    exact hret1 ((-2), v_t_wind, v_t_force, v_t_rains) _ _ _ _ hf hw dX11_set_45
  have B121 : ∀ (v_t_wind : Int32) (v_t_force : Int32) (v_t_rains : Int32) (x3 : Int32) (s1 : Int32) (H : Heap) (locs : List Loc) (ls : Array Slot), fX11_set_b121 v_t_wind v_t_force v_t_rains x3 s1 = some (rv, z_t_wind, z_t_force, z_t_rains) → gS E A s.heap (wX11_set E o_t a_t v_t_there v_t_wind v_t_force v_t_rains v_t_lost v_t_hours v_t_sights v_t_padMany v_t_acts v_t_blownMany v_t_badAct v_t_badWhy v_t_ruinAct v_t_ruinWho v_t_keptAt v_t_isWriting) H locs → lv_has ls 4 [(3, .int x3)] → W p l e ({ frames := 1, cells := 0, slots := 0, locals := 25 } : Room) s m args below meth cd H locs 0 0 Q (F0 m 121 ls [.int s1, .ref o_t]) := by
    intro  v_t_wind v_t_force v_t_rains x3 s1 H locs ls hf hw hl
    refine g_put (ws' := (wX11_set E o_t a_t v_t_there v_t_wind v_t_force s1 v_t_lost v_t_hours v_t_sights v_t_padMany v_t_acts v_t_blownMany v_t_badAct v_t_badWhy v_t_ruinAct v_t_ruinWho v_t_keptAt v_t_isWriting)) hx hb hG hown hK hw inlX11 tyX11_ok nmX11 (ci := 9) rfl 0 8 (Nat.le_of_ble_eq_true rfl) rfl wd_11_18 rfl rfl rfl (Nat.le_of_ble_eq_true rfl) rfl dX11_set_121 (fun H locs hw => ?_)
    refine lv_iload_n hx hb dX11_set_124 rfl (lv_at hl 0 rfl) ?_
    exact hret1 (x3, v_t_wind, v_t_force, s1) _ _ _ _ hf hw dX11_set_125
  have B104 : ∀ (v_t_wind : Int32) (v_t_force : Int32) (v_t_rains : Int32) (x1 : Int32) (x2 : Int32) (x3 : Int32) (s1 : Int32) (H : Heap) (locs : List Loc) (ls : Array Slot), fX11_set_b104 v_t_wind v_t_force v_t_rains x1 x2 x3 s1 = some (rv, z_t_wind, z_t_force, z_t_rains) → gS E A s.heap (wX11_set E o_t a_t v_t_there v_t_wind v_t_force v_t_rains v_t_lost v_t_hours v_t_sights v_t_padMany v_t_acts v_t_blownMany v_t_badAct v_t_badWhy v_t_ruinAct v_t_ruinWho v_t_keptAt v_t_isWriting) H locs → lv_has ls 4 [(0, .ref o_t), (1, .int x1), (2, .int x2), (3, .int x3)] → W p l e ({ frames := 1, cells := 0, slots := 0, locals := 25 } : Room) s m args below meth cd H locs 0 0 Q (F0 m 104 ls [.int s1, .ref o_t]) := by
    intro  v_t_wind v_t_force v_t_rains x1 x2 x3 s1 H locs ls hf hw hl
    refine g_put (ws' := (wX11_set E o_t a_t v_t_there v_t_wind s1 v_t_rains v_t_lost v_t_hours v_t_sights v_t_padMany v_t_acts v_t_blownMany v_t_badAct v_t_badWhy v_t_ruinAct v_t_ruinWho v_t_keptAt v_t_isWriting)) hx hb hG hown hK hw inlX11 tyX11_ok nmX11 (ci := 9) rfl 0 7 (Nat.le_of_ble_eq_true rfl) rfl wd_6_19 rfl rfl rfl (Nat.le_of_ble_eq_true rfl) rfl dX11_set_104 (fun H locs hw => ?_)
    refine lv_aload_n hx hb dX11_set_107 rfl (lv_at hl 0 rfl) ?_
    refine lv_iload_n hx hb dX11_set_108 rfl (lv_at hl 1 rfl) ?_
    refine lv_iconst (v := 2) hx hb dX11_set_109 k_i2 ?_
    refine lv_icmp_ne (tgt := 117) hx hb dX11_set_110 (by decide) (fun hc => ?_) (fun hc => ?_)
    · have hf := g_f hc hf
      refine lv_aload_n hx hb dX11_set_117 rfl (lv_at hl 0 rfl) ?_
      refine g_get hx hb hG hown hK hw inlX11 (ci := 9) rfl 0 8 (Nat.le_of_ble_eq_true rfl) rfl rfl wd_11_18 dX11_set_118 ?_
      exact B121 v_t_wind s1 v_t_rains x3 v_t_rains _ _ _ hf hw (lv_sub hl [3] rfl)
    · have hf := g_t hc hf
      refine lv_iload_n hx hb dX11_set_113 rfl (lv_at hl 2 rfl) ?_
      refine lv_goto (tgt := 121) hx hb dX11_set_114 (by decide) ?_
      exact B121 v_t_wind s1 v_t_rains x3 x2 _ _ _ hf hw (lv_sub hl [3] rfl)
  have B87 : ∀ (v_t_wind : Int32) (v_t_force : Int32) (v_t_rains : Int32) (x1 : Int32) (x2 : Int32) (x3 : Int32) (s1 : Int32) (H : Heap) (locs : List Loc) (ls : Array Slot), fX11_set_b87 v_t_wind v_t_force v_t_rains x1 x2 x3 s1 = some (rv, z_t_wind, z_t_force, z_t_rains) → gS E A s.heap (wX11_set E o_t a_t v_t_there v_t_wind v_t_force v_t_rains v_t_lost v_t_hours v_t_sights v_t_padMany v_t_acts v_t_blownMany v_t_badAct v_t_badWhy v_t_ruinAct v_t_ruinWho v_t_keptAt v_t_isWriting) H locs → lv_has ls 4 [(0, .ref o_t), (1, .int x1), (2, .int x2), (3, .int x3)] → W p l e ({ frames := 1, cells := 0, slots := 0, locals := 25 } : Room) s m args below meth cd H locs 0 0 Q (F0 m 87 ls [.int s1, .ref o_t]) := by
    intro  v_t_wind v_t_force v_t_rains x1 x2 x3 s1 H locs ls hf hw hl
    refine g_put (ws' := (wX11_set E o_t a_t v_t_there s1 v_t_force v_t_rains v_t_lost v_t_hours v_t_sights v_t_padMany v_t_acts v_t_blownMany v_t_badAct v_t_badWhy v_t_ruinAct v_t_ruinWho v_t_keptAt v_t_isWriting)) hx hb hG hown hK hw inlX11 tyX11_ok nmX11 (ci := 9) rfl 0 6 (Nat.le_of_ble_eq_true rfl) rfl wd_11_17 rfl rfl rfl (Nat.le_of_ble_eq_true rfl) rfl dX11_set_87 (fun H locs hw => ?_)
    refine lv_aload_n hx hb dX11_set_90 rfl (lv_at hl 0 rfl) ?_
    refine lv_iload_n hx hb dX11_set_91 rfl (lv_at hl 1 rfl) ?_
    refine lv_iconst (v := 1) hx hb dX11_set_92 k_i1 ?_
    refine lv_icmp_ne (tgt := 100) hx hb dX11_set_93 (by decide) (fun hc => ?_) (fun hc => ?_)
    · have hf := g_f hc hf
      refine lv_aload_n hx hb dX11_set_100 rfl (lv_at hl 0 rfl) ?_
      refine g_get hx hb hG hown hK hw inlX11 (ci := 9) rfl 0 7 (Nat.le_of_ble_eq_true rfl) rfl rfl wd_6_19 dX11_set_101 ?_
      exact B104 s1 v_t_force v_t_rains x1 x2 x3 v_t_force _ _ _ hf hw (lv_sub hl [0, 1, 2, 3] rfl)
    · have hf := g_t hc hf
      refine lv_iload_n hx hb dX11_set_96 rfl (lv_at hl 2 rfl) ?_
      refine lv_goto (tgt := 104) hx hb dX11_set_97 (by decide) ?_
      exact B104 s1 v_t_force v_t_rains x1 x2 x3 x2 _ _ _ hf hw (lv_sub hl [0, 1, 2, 3] rfl)
  have B73 : ∀ (v_t_wind : Int32) (v_t_force : Int32) (v_t_rains : Int32) (x1 : Int32) (x2 : Int32) (s0 : Int32) (H : Heap) (locs : List Loc) (ls : Array Slot), fX11_set_b73 v_t_wind v_t_force v_t_rains x1 x2 s0 = some (rv, z_t_wind, z_t_force, z_t_rains) → gS E A s.heap (wX11_set E o_t a_t v_t_there v_t_wind v_t_force v_t_rains v_t_lost v_t_hours v_t_sights v_t_padMany v_t_acts v_t_blownMany v_t_badAct v_t_badWhy v_t_ruinAct v_t_ruinWho v_t_keptAt v_t_isWriting) H locs → lv_has ls 4 [(0, .ref o_t), (1, .int x1), (2, .int x2)] → W p l e ({ frames := 1, cells := 0, slots := 0, locals := 25 } : Room) s m args below meth cd H locs 0 0 Q (F0 m 73 ls [.int s0]) := by
    intro  v_t_wind v_t_force v_t_rains x1 x2 s0 H locs ls hf hw hl
    refine lv_istore_n (lv' := [(3, .int s0), (0, .ref o_t), (1, .int x1), (2, .int x2)]) hx hb dX11_set_73 rfl hl (Nat.le_of_ble_eq_true rfl) rfl (fun ls hl => ?_)
    refine lv_aload_n hx hb dX11_set_74 rfl (lv_at hl 1 rfl) ?_
    refine lv_iload_n hx hb dX11_set_75 rfl (lv_at hl 2 rfl) ?_
    refine lv_if_ne (tgt := 83) hx hb dX11_set_76 (by decide) (fun hc => ?_) (fun hc => ?_)
    · have hf := g_f hc hf
      refine lv_aload_n hx hb dX11_set_83 rfl (lv_at hl 1 rfl) ?_
      refine g_get hx hb hG hown hK hw inlX11 (ci := 9) rfl 0 6 (Nat.le_of_ble_eq_true rfl) rfl rfl wd_11_17 dX11_set_84 ?_
      exact B87 v_t_wind v_t_force v_t_rains x1 x2 s0 v_t_wind _ _ _ hf hw (lv_sub hl [1, 2, 3, 0] rfl)
    · have hf := g_t hc hf
      refine lv_iload_n hx hb dX11_set_79 rfl (lv_at hl 3 rfl) ?_
      refine lv_goto (tgt := 87) hx hb dX11_set_80 (by decide) ?_
      exact B87 v_t_wind v_t_force v_t_rains x1 x2 s0 x2 _ _ _ hf hw (lv_sub hl [1, 2, 3, 0] rfl)
  have B37 : ∀ (v_t_wind : Int32) (v_t_force : Int32) (v_t_rains : Int32) (x1 : Int32) (x2 : Int32) (s0 : Int64) (s1 : Int64) (s2 : Int64) (H : Heap) (locs : List Loc) (ls : Array Slot), fX11_set_b37 v_t_wind v_t_force v_t_rains x1 x2 s0 s1 s2 = some (rv, z_t_wind, z_t_force, z_t_rains) → gS E A s.heap (wX11_set E o_t a_t v_t_there v_t_wind v_t_force v_t_rains v_t_lost v_t_hours v_t_sights v_t_padMany v_t_acts v_t_blownMany v_t_badAct v_t_badWhy v_t_ruinAct v_t_ruinWho v_t_keptAt v_t_isWriting) H locs → lv_has ls 4 [(0, .ref o_t), (1, .int x1), (2, .int x2)] → W p l e ({ frames := 1, cells := 0, slots := 0, locals := 25 } : Room) s m args below meth cd H locs 0 0 Q (F0 m 37 ls [.long s2, .long s1, .long s0]) := by
    intro  v_t_wind v_t_force v_t_rains x1 x2 s0 s1 s2 H locs ls hf hw hl
    obtain ⟨r1, hc2, hf⟩ := gB_s hf
    refine g_ki0 (is := []) hw hA (g_rS hx hb hml hG hown hK hw (is := []) rfl (by decide) (mX11_in l E s0 s1 s2 r1 hc2) wd_8_10 wd_8_11 wd_1_5 wd_8_12 hX11_in g_allgood ⟨rfl, rfl⟩ ⟨Nat.le_of_ble_eq_true rfl, Nat.le_of_ble_eq_true rfl⟩ ⟨Nat.zero_le _, Nat.zero_le _⟩ rfl hl.1 rfl (Nat.le_of_ble_eq_true rfl) dX11_set_37) rfl (fun H locs hw => ?_)
    refine lv_if_ne (tgt := 46) hx hb dX11_set_40 (by decide) (fun hc => ?_) (fun hc => ?_)
    · have hf := g_f hc hf
      refine lv_iload_n hx hb dX11_set_46 rfl (lv_at hl 1 rfl) ?_
      refine lv_if_ne (tgt := 57) hx hb dX11_set_47 (by decide) (fun hc => ?_) (fun hc => ?_)
      · have hf := g_f hc hf
        refine lv_iload_n hx hb dX11_set_57 rfl (lv_at hl 1 rfl) ?_
        refine lv_iconst (v := 1) hx hb dX11_set_58 k_i1 ?_
        refine lv_icmp_ne (tgt := 69) hx hb dX11_set_59 (by decide) (fun hc => ?_) (fun hc => ?_)
        · have hf := g_f hc hf
          refine lv_aload_n hx hb dX11_set_69 rfl (lv_at hl 0 rfl) ?_
          refine g_get hx hb hG hown hK hw inlX11 (ci := 9) rfl 0 8 (Nat.le_of_ble_eq_true rfl) rfl rfl wd_11_18 dX11_set_70 ?_
          exact B73 v_t_wind v_t_force v_t_rains x1 x2 v_t_rains _ _ _ hf hw (lv_sub hl [0, 1, 2] rfl)
        · have hf := g_t hc hf
          refine lv_aload_n hx hb dX11_set_62 rfl (lv_at hl 0 rfl) ?_
          refine g_get hx hb hG hown hK hw inlX11 (ci := 9) rfl 0 7 (Nat.le_of_ble_eq_true rfl) rfl rfl wd_6_19 dX11_set_63 ?_
          refine lv_goto (tgt := 73) hx hb dX11_set_66 (by decide) ?_
          exact B73 v_t_wind v_t_force v_t_rains x1 x2 v_t_force _ _ _ hf hw (lv_sub hl [0, 1, 2] rfl)
      · have hf := g_t hc hf
        refine lv_aload_n hx hb dX11_set_50 rfl (lv_at hl 0 rfl) ?_
        refine g_get hx hb hG hown hK hw inlX11 (ci := 9) rfl 0 6 (Nat.le_of_ble_eq_true rfl) rfl rfl wd_11_17 dX11_set_51 ?_
        refine lv_goto (tgt := 73) hx hb dX11_set_54 (by decide) ?_
        exact B73 v_t_wind v_t_force v_t_rains x1 x2 v_t_wind _ _ _ hf hw (lv_sub hl [0, 1, 2] rfl)
    · have hf := g_t hc hf
      exact B43 v_t_wind v_t_force v_t_rains _ _ _ hf hw (lv_sub hl [] rfl)
  refine lv_iload_n hx hb dX11_set_0 rfl (lv_at hl 1 rfl) ?_
  refine lv_i2l hx hb dX11_set_1 rfl ?_
  refine lv_lconst (v := 0) hx hb dX11_set_2 k_l0 ?_
  refine lv_ldc2 hx hb hown (hG _ wd_11_15) dX11_set_3 ?_
  obtain ⟨r3, hc4, hf⟩ := gB_s hf
  refine g_ki0 (is := []) hw hA (g_rS hx hb hml hG hown hK hw (is := []) rfl (by decide) (mX11_in l E (Int32.toInt64 x1) 0 2 r3 hc4) wd_8_10 wd_8_11 wd_1_5 wd_8_12 hX11_in g_allgood ⟨rfl, rfl⟩ ⟨Nat.le_of_ble_eq_true rfl, Nat.le_of_ble_eq_true rfl⟩ ⟨Nat.zero_le _, Nat.zero_le _⟩ rfl hl.1 rfl (Nat.le_of_ble_eq_true rfl) dX11_set_6) rfl (fun H locs hw => ?_)
  refine lv_if_eq (tgt := 43) hx hb dX11_set_9 (by decide) (fun hc => ?_) (fun hc => ?_)
  · have hf := g_t hc hf
    exact B43 v_t_wind v_t_force v_t_rains _ _ _ hf hw (lv_sub hl [] rfl)
  · have hf := g_f hc hf
    refine lv_iload_n hx hb dX11_set_12 rfl (lv_at hl 2 rfl) ?_
    refine lv_i2l hx hb dX11_set_13 rfl ?_
    refine lv_lconst (v := 0) hx hb dX11_set_14 k_l0 ?_
    refine lv_iload_n hx hb dX11_set_15 rfl (lv_at hl 1 rfl) ?_
    refine lv_if_ne (tgt := 25) hx hb dX11_set_16 (by decide) (fun hc => ?_) (fun hc => ?_)
    · have hf := g_f hc hf
      refine lv_iload_n hx hb dX11_set_25 rfl (lv_at hl 1 rfl) ?_
      refine lv_iconst (v := 1) hx hb dX11_set_26 k_i1 ?_
      refine lv_icmp_ne (tgt := 36) hx hb dX11_set_27 (by decide) (fun hc => ?_) (fun hc => ?_)
      · have hf := g_f hc hf
        refine lv_lconst (v := 1) hx hb dX11_set_36 k_l1 ?_
        exact B37 v_t_wind v_t_force v_t_rains x1 x2 (Int32.toInt64 x2) 0 1 _ _ _ hf hw (lv_sub hl [0, 1, 2] rfl)
      · have hf := g_t hc hf
        refine lv_ldc2 hx hb hown (hG _ wd_8_6) dX11_set_30 ?_
        refine lv_goto (tgt := 37) hx hb dX11_set_33 (by decide) ?_
        exact B37 v_t_wind v_t_force v_t_rains x1 x2 (Int32.toInt64 x2) 0 5 _ _ _ hf hw (lv_sub hl [0, 1, 2] rfl)
    · have hf := g_t hc hf
      refine lv_ldc2 hx hb hown (hG _ wd_11_16) dX11_set_19 ?_
      refine lv_goto (tgt := 37) hx hb dX11_set_22 (by decide) ?_
      exact B37 v_t_wind v_t_force v_t_rains x1 x2 (Int32.toInt64 x2) 0 3 _ _ _ hf hw (lv_sub hl [0, 1, 2] rfl)
theorem hX11_say : yX11_say.cls = RX11 ∧ yX11_say.cls ≠ "java/lang/invoke/MethodHandle" ∧ yX11_say.cls ≠ "java/lang/invoke/VarHandle" ∧ (parseMethodDescriptor yX11_say.desc).map (fun d => d.parameters.length) = some 1 := by decide +kernel
set_option maxHeartbeats 4000000 in
set_option maxRecDepth 100000 in
theorem mX11_say (l : Launch) (E : gE) (o_t : Nat) (a_t : (Nat → Nat)) (v_t_there : Int32) (v_t_wind : Int32) (v_t_force : Int32) (v_t_rains : Int32) (v_t_lost : Int32) (v_t_hours : Int32) (v_t_sights : Int32) (v_t_padMany : Int32) (v_t_acts : Int32) (v_t_blownMany : Int32) (v_t_badAct : Int32) (v_t_badWhy : Int32) (v_t_ruinAct : Int32) (v_t_ruinWho : Int32) (v_t_keptAt : Int32) (v_t_isWriting : Int32) (f_t_pad : (Nat → Int32)) (x1 : Int32) (rv : Int32) (z_t_padMany : Int32) (z_t_pad : (Nat → Int32)) (hf : fX11_say v_t_padMany f_t_pad x1 = some (rv, z_t_padMany, z_t_pad)) {sz : Nat} : gMi l yX11_say (gW yX11_say cX11_say 2 (some .int)) ({ frames := 1, cells := 0, slots := 0, locals := 25 } : Room) E [.ref o_t, .int x1] (wX11_say E o_t a_t v_t_there v_t_wind v_t_force v_t_rains v_t_lost v_t_hours v_t_sights v_t_padMany v_t_acts v_t_blownMany v_t_badAct v_t_badWhy v_t_ruinAct v_t_ruinWho v_t_keptAt v_t_isWriting f_t_pad) sz rv (wX11_say E o_t a_t v_t_there v_t_wind v_t_force v_t_rains v_t_lost v_t_hours v_t_sights z_t_padMany v_t_acts v_t_blownMany v_t_badAct v_t_badWhy v_t_ruinAct v_t_ruinWho v_t_keptAt v_t_isWriting z_t_pad) := by
  refine g_openI (own := RX11) (by decide) rfl (Nat.le_of_ble_eq_true rfl) (fun p e s m args below meth cd Q A hx hb hml hown hG hK hA hret hw ls hl => ?_)
  have hl : lv_has ls 2 [(0, .ref o_t), (1, .int x1)] := hl
  have hret1 : ∀ (t : Int32 × Int32 × (Nat → Int32)) (H : Heap) (locs : List Loc) (pc : Nat) (ls : Array Slot), some t = some (rv, z_t_padMany, z_t_pad) → gS E A s.heap (wX11_say E o_t a_t v_t_there v_t_wind v_t_force v_t_rains v_t_lost v_t_hours v_t_sights t.2.1 v_t_acts v_t_blownMany v_t_badAct v_t_badWhy v_t_ruinAct v_t_ruinWho v_t_keptAt v_t_isWriting t.2.2) H locs → decode cX11_say pc = .ok (.ireturn, 1) → W p l e ({ frames := 1, cells := 0, slots := 0, locals := 25 } : Room) s m args below meth cd H locs 0 0 Q (F0 m pc ls [.int t.1]) := by
    intro t H locs pc ls h hw hd
    obtain rfl : t = (rv, z_t_padMany, z_t_pad) := Option.some.inj h
    exact hret H locs pc ls hw hd
  refine lv_iload_n hx hb dX11_say_0 rfl (lv_at hl 1 rfl) ?_
  refine lv_i2l hx hb dX11_say_1 rfl ?_
  refine lv_ldc2 hx hb hown (hG _ wd_13_0) dX11_say_2 ?_
  refine lv_ldc2 hx hb hown (hG _ wd_13_1) dX11_say_5 ?_
  obtain ⟨r1, hc2, hf⟩ := gB_s hf
  refine g_ki0 (is := []) hw hA (g_rS hx hb hml hG hown hK hw (is := []) rfl (by decide) (mX11_in l E (Int32.toInt64 x1) 33 126 r1 hc2) wd_8_10 wd_8_11 wd_1_5 wd_8_12 hX11_in g_allgood ⟨rfl, rfl⟩ ⟨Nat.le_of_ble_eq_true rfl, Nat.le_of_ble_eq_true rfl⟩ ⟨Nat.zero_le _, Nat.zero_le _⟩ rfl hl.1 rfl (Nat.le_of_ble_eq_true rfl) dX11_say_8) rfl (fun H locs hw => ?_)
  refine lv_if_ne (tgt := 17) hx hb dX11_say_11 (by decide) (fun hc => ?_) (fun hc => ?_)
  · have hf := g_f hc hf
    refine lv_aload_n hx hb dX11_say_17 rfl (lv_at hl 0 rfl) ?_
    refine g_get hx hb hG hown hK hw inlX11 (ci := 9) rfl 0 15 (Nat.le_of_ble_eq_true rfl) rfl rfl wd_13_2 dX11_say_18 ?_
    refine lv_bipush (v := 60) hx hb dX11_say_21 k_b60 ?_
    refine lv_icmp_ne (tgt := 29) hx hb dX11_say_23 (by decide) (fun hc => ?_) (fun hc => ?_)
    · have hf := g_f hc hf
      refine lv_aload_n hx hb dX11_say_29 rfl (lv_at hl 0 rfl) ?_
      refine g_get hx hb hG hown hK hw inlX11 (ci := 9) rfl 0 14 (Nat.le_of_ble_eq_true rfl) rfl rfl wd_6_4 dX11_say_30 ?_
      refine lv_aload_n hx hb dX11_say_33 rfl (lv_at hl 0 rfl) ?_
      refine g_get hx hb hG hown hK hw inlX11 (ci := 9) rfl 0 15 (Nat.le_of_ble_eq_true rfl) rfl rfl wd_13_2 dX11_say_34 ?_
      refine lv_iload_n hx hb dX11_say_37 rfl (lv_at hl 1 rfl) ?_
      obtain ⟨hi3, hf⟩ := gA_s hf
      refine g_iast (ws' := (wX11_say E o_t a_t v_t_there v_t_wind v_t_force v_t_rains v_t_lost v_t_hours v_t_sights v_t_padMany v_t_acts v_t_blownMany v_t_badAct v_t_badWhy v_t_ruinAct v_t_ruinWho v_t_keptAt v_t_isWriting (upd f_t_pad (Int32.toNatClampNeg v_t_padMany) x1))) hx hb hK hw 1 rfl hi3 rfl dX11_say_38 (fun H locs hw => ?_)
      refine lv_aload_n hx hb dX11_say_39 rfl (lv_at hl 0 rfl) ?_
      refine lv_dup hx hb dX11_say_40 rfl ?_
      refine g_get hx hb hG hown hK hw inlX11 (ci := 9) rfl 0 15 (Nat.le_of_ble_eq_true rfl) rfl rfl wd_13_2 dX11_say_41 ?_
      refine lv_iconst (v := 1) hx hb dX11_say_44 k_i1 ?_
      refine lv_iadd hx hb dX11_say_45 ?_
      refine g_put (ws' := (wX11_say E o_t a_t v_t_there v_t_wind v_t_force v_t_rains v_t_lost v_t_hours v_t_sights (v_t_padMany + 1) v_t_acts v_t_blownMany v_t_badAct v_t_badWhy v_t_ruinAct v_t_ruinWho v_t_keptAt v_t_isWriting (upd f_t_pad (Int32.toNatClampNeg v_t_padMany) x1))) hx hb hG hown hK hw inlX11 tyX11_ok nmX11 (ci := 9) rfl 0 15 (Nat.le_of_ble_eq_true rfl) rfl wd_13_2 rfl rfl rfl (Nat.le_of_ble_eq_true rfl) rfl dX11_say_46 (fun H locs hw => ?_)
      refine lv_aload_n hx hb dX11_say_49 rfl (lv_at hl 0 rfl) ?_
      refine g_get hx hb hG hown hK hw inlX11 (ci := 9) rfl 0 15 (Nat.le_of_ble_eq_true rfl) rfl rfl wd_13_2 dX11_say_50 ?_
      exact hret1 ((v_t_padMany + 1), (v_t_padMany + 1), (upd f_t_pad (Int32.toNatClampNeg v_t_padMany) x1)) _ _ _ _ hf hw dX11_say_53
    · have hf := g_t hc hf
      refine lv_bipush (v := -4) hx hb dX11_say_26 k_bm4 ?_
      exact hret1 ((-4), v_t_padMany, f_t_pad) _ _ _ _ hf hw dX11_say_28
  · have hf := g_t hc hf
    refine lv_bipush (v := -2) hx hb dX11_say_14 k_bm2 ?_
    exact hret1 ((-2), v_t_padMany, f_t_pad) _ _ _ _ hf hw dX11_say_16
theorem hX11_wipe : yX11_wipe.cls = RX11 ∧ yX11_wipe.cls ≠ "java/lang/invoke/MethodHandle" ∧ yX11_wipe.cls ≠ "java/lang/invoke/VarHandle" ∧ (parseMethodDescriptor yX11_wipe.desc).map (fun d => d.parameters.length) = some 0 := by decide +kernel
set_option maxHeartbeats 4000000 in
set_option maxRecDepth 100000 in
theorem mX11_wipe (l : Launch) (E : gE) (o_t : Nat) (a_t : (Nat → Nat)) (v_t_there : Int32) (v_t_wind : Int32) (v_t_force : Int32) (v_t_rains : Int32) (v_t_lost : Int32) (v_t_hours : Int32) (v_t_sights : Int32) (v_t_padMany : Int32) (v_t_acts : Int32) (v_t_blownMany : Int32) (v_t_badAct : Int32) (v_t_badWhy : Int32) (v_t_ruinAct : Int32) (v_t_ruinWho : Int32) (v_t_keptAt : Int32) (v_t_isWriting : Int32) (rv : Int32) (z_t_padMany : Int32) (hf : fX11_wipe v_t_padMany = some (rv, z_t_padMany)) {sz : Nat} : gMi l yX11_wipe (gW yX11_wipe cX11_wipe 2 (some .int)) ({ frames := 0, cells := 0, slots := 0, locals := 0 } : Room) E [.ref o_t] (wX11_wipe E o_t a_t v_t_there v_t_wind v_t_force v_t_rains v_t_lost v_t_hours v_t_sights v_t_padMany v_t_acts v_t_blownMany v_t_badAct v_t_badWhy v_t_ruinAct v_t_ruinWho v_t_keptAt v_t_isWriting) sz rv (wX11_wipe E o_t a_t v_t_there v_t_wind v_t_force v_t_rains v_t_lost v_t_hours v_t_sights z_t_padMany v_t_acts v_t_blownMany v_t_badAct v_t_badWhy v_t_ruinAct v_t_ruinWho v_t_keptAt v_t_isWriting) := by
  refine g_openI (own := RX11) (by decide) rfl (Nat.le_of_ble_eq_true rfl) (fun p e s m args below meth cd Q A hx hb hml hown hG hK hA hret hw ls hl => ?_)
  have hl : lv_has ls 2 [(0, .ref o_t)] := hl
  have hret1 : ∀ (t : Int32 × Int32) (H : Heap) (locs : List Loc) (pc : Nat) (ls : Array Slot), some t = some (rv, z_t_padMany) → gS E A s.heap (wX11_wipe E o_t a_t v_t_there v_t_wind v_t_force v_t_rains v_t_lost v_t_hours v_t_sights t.2 v_t_acts v_t_blownMany v_t_badAct v_t_badWhy v_t_ruinAct v_t_ruinWho v_t_keptAt v_t_isWriting) H locs → decode cX11_wipe pc = .ok (.ireturn, 1) → W p l e ({ frames := 0, cells := 0, slots := 0, locals := 0 } : Room) s m args below meth cd H locs 0 0 Q (F0 m pc ls [.int t.1]) := by
    intro t H locs pc ls h hw hd
    obtain rfl : t = (rv, z_t_padMany) := Option.some.inj h
    exact hret H locs pc ls hw hd
  refine lv_aload_n hx hb dX11_wipe_0 rfl (lv_at hl 0 rfl) ?_
  refine g_get hx hb hG hown hK hw inlX11 (ci := 9) rfl 0 15 (Nat.le_of_ble_eq_true rfl) rfl rfl wd_13_2 dX11_wipe_1 ?_
  refine lv_istore_n (lv' := [(1, .int v_t_padMany), (0, .ref o_t)]) hx hb dX11_wipe_4 rfl hl (Nat.le_of_ble_eq_true rfl) rfl (fun ls hl => ?_)
  refine lv_aload_n hx hb dX11_wipe_5 rfl (lv_at hl 1 rfl) ?_
  refine lv_iconst (v := 0) hx hb dX11_wipe_6 k_i0 ?_
  refine g_put (ws' := (wX11_wipe E o_t a_t v_t_there v_t_wind v_t_force v_t_rains v_t_lost v_t_hours v_t_sights 0 v_t_acts v_t_blownMany v_t_badAct v_t_badWhy v_t_ruinAct v_t_ruinWho v_t_keptAt v_t_isWriting)) hx hb hG hown hK hw inlX11 tyX11_ok nmX11 (ci := 9) rfl 0 15 (Nat.le_of_ble_eq_true rfl) rfl wd_13_2 rfl rfl rfl (Nat.le_of_ble_eq_true rfl) rfl dX11_wipe_7 (fun H locs hw => ?_)
  refine lv_iload_n hx hb dX11_wipe_10 rfl (lv_at hl 0 rfl) ?_
  exact hret1 (v_t_padMany, 0) _ _ _ _ hf hw dX11_wipe_11
theorem hX11_close : yX11_close.cls = RX11 ∧ yX11_close.cls ≠ "java/lang/invoke/MethodHandle" ∧ yX11_close.cls ≠ "java/lang/invoke/VarHandle" ∧ (parseMethodDescriptor yX11_close.desc).map (fun d => d.parameters.length) = some 2 := by decide +kernel
set_option maxHeartbeats 4000000 in
set_option maxRecDepth 100000 in
theorem mX11_close (l : Launch) (E : gE) (o_t : Nat) (a_t : (Nat → Nat)) (v_t_there : Int32) (v_t_wind : Int32) (v_t_force : Int32) (v_t_rains : Int32) (v_t_lost : Int32) (v_t_hours : Int32) (v_t_sights : Int32) (v_t_padMany : Int32) (v_t_acts : Int32) (v_t_blownMany : Int32) (v_t_badAct : Int32) (v_t_badWhy : Int32) (v_t_ruinAct : Int32) (v_t_ruinWho : Int32) (v_t_keptAt : Int32) (v_t_isWriting : Int32) (f_t_act : (Nat → Int32)) (f_t_much : (Nat → Int32)) (x1 : Int32) (x2 : Int32) (rv : Int32) (z_t_acts : Int32) (z_t_act : (Nat → Int32)) (z_t_much : (Nat → Int32)) (hf : fX11_close v_t_acts f_t_act f_t_much x1 x2 = some (rv, z_t_acts, z_t_act, z_t_much)) {sz : Nat} : gMi l yX11_close (gW yX11_close cX11_close 3 (some .int)) ({ frames := 0, cells := 0, slots := 0, locals := 0 } : Room) E [.ref o_t, .int x1, .int x2] (wX11_close E o_t a_t v_t_there v_t_wind v_t_force v_t_rains v_t_lost v_t_hours v_t_sights v_t_padMany v_t_acts v_t_blownMany v_t_badAct v_t_badWhy v_t_ruinAct v_t_ruinWho v_t_keptAt v_t_isWriting f_t_act f_t_much) sz rv (wX11_close E o_t a_t v_t_there v_t_wind v_t_force v_t_rains v_t_lost v_t_hours v_t_sights v_t_padMany z_t_acts v_t_blownMany v_t_badAct v_t_badWhy v_t_ruinAct v_t_ruinWho v_t_keptAt v_t_isWriting z_t_act z_t_much) := by
  refine g_openI (own := RX11) (by decide) rfl (Nat.le_of_ble_eq_true rfl) (fun p e s m args below meth cd Q A hx hb hml hown hG hK hA hret hw ls hl => ?_)
  have hl : lv_has ls 3 [(0, .ref o_t), (1, .int x1), (2, .int x2)] := hl
  have hret1 : ∀ (t : Int32 × Int32 × (Nat → Int32) × (Nat → Int32)) (H : Heap) (locs : List Loc) (pc : Nat) (ls : Array Slot), some t = some (rv, z_t_acts, z_t_act, z_t_much) → gS E A s.heap (wX11_close E o_t a_t v_t_there v_t_wind v_t_force v_t_rains v_t_lost v_t_hours v_t_sights v_t_padMany t.2.1 v_t_blownMany v_t_badAct v_t_badWhy v_t_ruinAct v_t_ruinWho v_t_keptAt v_t_isWriting t.2.2.1 t.2.2.2) H locs → decode cX11_close pc = .ok (.ireturn, 1) → W p l e ({ frames := 0, cells := 0, slots := 0, locals := 0 } : Room) s m args below meth cd H locs 0 0 Q (F0 m pc ls [.int t.1]) := by
    intro t H locs pc ls h hw hd
    obtain rfl : t = (rv, z_t_acts, z_t_act, z_t_much) := Option.some.inj h
    exact hret H locs pc ls hw hd
  refine lv_aload_n hx hb dX11_close_0 rfl (lv_at hl 0 rfl) ?_
  refine g_get hx hb hG hown hK hw inlX11 (ci := 9) rfl 0 16 (Nat.le_of_ble_eq_true rfl) rfl rfl wd_6_5 dX11_close_1 ?_
  refine lv_aload_n hx hb dX11_close_4 rfl (lv_at hl 0 rfl) ?_
  refine g_get hx hb hG hown hK hw inlX11 (ci := 9) rfl 0 19 (Nat.le_of_ble_eq_true rfl) rfl rfl wd_14_3 dX11_close_5 ?_
  refine lv_iload_n hx hb dX11_close_8 rfl (lv_at hl 1 rfl) ?_
  obtain ⟨hi1, hf⟩ := gA_s hf
  refine g_iast (ws' := (wX11_close E o_t a_t v_t_there v_t_wind v_t_force v_t_rains v_t_lost v_t_hours v_t_sights v_t_padMany v_t_acts v_t_blownMany v_t_badAct v_t_badWhy v_t_ruinAct v_t_ruinWho v_t_keptAt v_t_isWriting (upd f_t_act (Int32.toNatClampNeg v_t_acts) x1) f_t_much)) hx hb hK hw 1 rfl hi1 rfl dX11_close_9 (fun H locs hw => ?_)
  refine lv_aload_n hx hb dX11_close_10 rfl (lv_at hl 0 rfl) ?_
  refine g_get hx hb hG hown hK hw inlX11 (ci := 9) rfl 0 18 (Nat.le_of_ble_eq_true rfl) rfl rfl wd_6_7 dX11_close_11 ?_
  refine lv_aload_n hx hb dX11_close_14 rfl (lv_at hl 0 rfl) ?_
  refine g_get hx hb hG hown hK hw inlX11 (ci := 9) rfl 0 19 (Nat.le_of_ble_eq_true rfl) rfl rfl wd_14_3 dX11_close_15 ?_
  refine lv_iload_n hx hb dX11_close_18 rfl (lv_at hl 2 rfl) ?_
  obtain ⟨hi2, hf⟩ := gA_s hf
  refine g_iast (ws' := (wX11_close E o_t a_t v_t_there v_t_wind v_t_force v_t_rains v_t_lost v_t_hours v_t_sights v_t_padMany v_t_acts v_t_blownMany v_t_badAct v_t_badWhy v_t_ruinAct v_t_ruinWho v_t_keptAt v_t_isWriting (upd f_t_act (Int32.toNatClampNeg v_t_acts) x1) (upd f_t_much (Int32.toNatClampNeg v_t_acts) x2))) hx hb hK hw 2 rfl hi2 rfl dX11_close_19 (fun H locs hw => ?_)
  refine lv_aload_n hx hb dX11_close_20 rfl (lv_at hl 0 rfl) ?_
  refine lv_dup hx hb dX11_close_21 rfl ?_
  refine g_get hx hb hG hown hK hw inlX11 (ci := 9) rfl 0 19 (Nat.le_of_ble_eq_true rfl) rfl rfl wd_14_3 dX11_close_22 ?_
  refine lv_iconst (v := 1) hx hb dX11_close_25 k_i1 ?_
  refine lv_iadd hx hb dX11_close_26 ?_
  refine g_put (ws' := (wX11_close E o_t a_t v_t_there v_t_wind v_t_force v_t_rains v_t_lost v_t_hours v_t_sights v_t_padMany (v_t_acts + 1) v_t_blownMany v_t_badAct v_t_badWhy v_t_ruinAct v_t_ruinWho v_t_keptAt v_t_isWriting (upd f_t_act (Int32.toNatClampNeg v_t_acts) x1) (upd f_t_much (Int32.toNatClampNeg v_t_acts) x2))) hx hb hG hown hK hw inlX11 tyX11_ok nmX11 (ci := 9) rfl 0 19 (Nat.le_of_ble_eq_true rfl) rfl wd_14_3 rfl rfl rfl (Nat.le_of_ble_eq_true rfl) rfl dX11_close_27 (fun H locs hw => ?_)
  refine lv_iconst (v := 0) hx hb dX11_close_30 k_i0 ?_
  exact hret1 (0, (v_t_acts + 1), (upd f_t_act (Int32.toNatClampNeg v_t_acts) x1), (upd f_t_much (Int32.toNatClampNeg v_t_acts) x2)) _ _ _ _ hf hw dX11_close_31
theorem hX11_begin : yX11_begin.cls = RX11 ∧ yX11_begin.cls ≠ "java/lang/invoke/MethodHandle" ∧ yX11_begin.cls ≠ "java/lang/invoke/VarHandle" ∧ (parseMethodDescriptor yX11_begin.desc).map (fun d => d.parameters.length) = some 1 := by decide +kernel
set_option maxHeartbeats 4000000 in
set_option maxRecDepth 100000 in
theorem mX11_begin (l : Launch) (E : gE) (o_t : Nat) (a_t : (Nat → Nat)) (v_t_there : Int32) (v_t_wind : Int32) (v_t_force : Int32) (v_t_rains : Int32) (v_t_lost : Int32) (v_t_hours : Int32) (v_t_sights : Int32) (v_t_padMany : Int32) (v_t_acts : Int32) (v_t_blownMany : Int32) (v_t_badAct : Int32) (v_t_badWhy : Int32) (v_t_ruinAct : Int32) (v_t_ruinWho : Int32) (v_t_keptAt : Int32) (v_t_isWriting : Int32) (f_t_act : (Nat → Int32)) (f_t_who : (Nat → Int32)) (f_t_much : (Nat → Int32)) (x1 : Int32) (rv : Int32) (z_t_acts : Int32) (z_t_act : (Nat → Int32)) (z_t_who : (Nat → Int32)) (z_t_much : (Nat → Int32)) (hf : fX11_begin v_t_acts f_t_act f_t_who f_t_much x1 = some (rv, z_t_acts, z_t_act, z_t_who, z_t_much)) {sz : Nat} : gMi l yX11_begin (gW yX11_begin cX11_begin 3 (some .int)) ({ frames := 1, cells := 0, slots := 0, locals := 25 } : Room) E [.ref o_t, .int x1] (wX11_begin E o_t a_t v_t_there v_t_wind v_t_force v_t_rains v_t_lost v_t_hours v_t_sights v_t_padMany v_t_acts v_t_blownMany v_t_badAct v_t_badWhy v_t_ruinAct v_t_ruinWho v_t_keptAt v_t_isWriting f_t_act f_t_who f_t_much) sz rv (wX11_begin E o_t a_t v_t_there v_t_wind v_t_force v_t_rains v_t_lost v_t_hours v_t_sights v_t_padMany z_t_acts v_t_blownMany v_t_badAct v_t_badWhy v_t_ruinAct v_t_ruinWho v_t_keptAt v_t_isWriting z_t_act z_t_who z_t_much) := by
  refine g_openI (own := RX11) (by decide) rfl (Nat.le_of_ble_eq_true rfl) (fun p e s m args below meth cd Q A hx hb hml hown hG hK hA hret hw ls hl => ?_)
  have hl : lv_has ls 3 [(0, .ref o_t), (1, .int x1)] := hl
  have hret1 : ∀ (t : Int32 × Int32 × (Nat → Int32) × (Nat → Int32) × (Nat → Int32)) (H : Heap) (locs : List Loc) (pc : Nat) (ls : Array Slot), some t = some (rv, z_t_acts, z_t_act, z_t_who, z_t_much) → gS E A s.heap (wX11_begin E o_t a_t v_t_there v_t_wind v_t_force v_t_rains v_t_lost v_t_hours v_t_sights v_t_padMany t.2.1 v_t_blownMany v_t_badAct v_t_badWhy v_t_ruinAct v_t_ruinWho v_t_keptAt v_t_isWriting t.2.2.1 t.2.2.2.1 t.2.2.2.2) H locs → decode cX11_begin pc = .ok (.ireturn, 1) → W p l e ({ frames := 1, cells := 0, slots := 0, locals := 25 } : Room) s m args below meth cd H locs 0 0 Q (F0 m pc ls [.int t.1]) := by
    intro t H locs pc ls h hw hd
    obtain rfl : t = (rv, z_t_acts, z_t_act, z_t_who, z_t_much) := Option.some.inj h
    exact hret H locs pc ls hw hd
  have B110 : ∀ (v_t_acts : Int32) (f_t_act : (Nat → Int32)) (f_t_who : (Nat → Int32)) (f_t_much : (Nat → Int32)) (s0 : Int32) (H : Heap) (locs : List Loc) (ls : Array Slot), fX11_begin_b110 v_t_acts f_t_act f_t_who f_t_much s0 = some (rv, z_t_acts, z_t_act, z_t_who, z_t_much) → gS E A s.heap (wX11_begin E o_t a_t v_t_there v_t_wind v_t_force v_t_rains v_t_lost v_t_hours v_t_sights v_t_padMany v_t_acts v_t_blownMany v_t_badAct v_t_badWhy v_t_ruinAct v_t_ruinWho v_t_keptAt v_t_isWriting f_t_act f_t_who f_t_much) H locs → lv_has ls 3 [] → W p l e ({ frames := 1, cells := 0, slots := 0, locals := 25 } : Room) s m args below meth cd H locs 0 0 Q (F0 m 110 ls [.int s0]) := by
    intro  v_t_acts f_t_act f_t_who f_t_much s0 H locs ls hf hw hl
    exact hret1 (s0, v_t_acts, f_t_act, f_t_who, f_t_much) _ _ _ _ hf hw dX11_begin_110
  have B32 : ∀ (v_t_acts : Int32) (f_t_act : (Nat → Int32)) (f_t_who : (Nat → Int32)) (f_t_much : (Nat → Int32)) (x1 : Int32) (x2 : Int32) (s1 : Int32) (s2 : Int32) (H : Heap) (locs : List Loc) (ls : Array Slot), fX11_begin_b32 v_t_acts f_t_act f_t_who f_t_much x1 x2 s1 s2 = some (rv, z_t_acts, z_t_act, z_t_who, z_t_much) → gS E A s.heap (wX11_begin E o_t a_t v_t_there v_t_wind v_t_force v_t_rains v_t_lost v_t_hours v_t_sights v_t_padMany v_t_acts v_t_blownMany v_t_badAct v_t_badWhy v_t_ruinAct v_t_ruinWho v_t_keptAt v_t_isWriting f_t_act f_t_who f_t_much) H locs → lv_has ls 3 [(0, .ref o_t), (1, .int x1), (2, .int x2)] → W p l e ({ frames := 1, cells := 0, slots := 0, locals := 25 } : Room) s m args below meth cd H locs 0 0 Q (F0 m 32 ls [.int s2, .int s1, .ref (a_t 17)]) := by
    intro  v_t_acts f_t_act f_t_who f_t_much x1 x2 s1 s2 H locs ls hf hw hl
    obtain ⟨hi1, hf⟩ := gA_s hf
    refine g_iast (ws' := (wX11_begin E o_t a_t v_t_there v_t_wind v_t_force v_t_rains v_t_lost v_t_hours v_t_sights v_t_padMany v_t_acts v_t_blownMany v_t_badAct v_t_badWhy v_t_ruinAct v_t_ruinWho v_t_keptAt v_t_isWriting f_t_act (upd f_t_who (Int32.toNatClampNeg s1) s2) f_t_much)) hx hb hK hw 2 rfl hi1 rfl dX11_begin_32 (fun H locs hw => ?_)
    refine lv_iload_n hx hb dX11_begin_33 rfl (lv_at hl 1 rfl) ?_
    by_cases hs2 : x1 = 46
    · have hf := g_t hs2 hf
      refine lv_lookup (off := 58) (tgt := 92) hx hb dX11_begin_34 (by decide) (by rw [hs2] <;> rfl) (by decide) ?_
      refine lv_aload_n hx hb dX11_begin_92 rfl (lv_at hl 0 rfl) ?_
      refine lv_bipush (v := 6) hx hb dX11_begin_93 k_b6 ?_
      refine lv_iconst (v := 0) hx hb dX11_begin_95 k_i0 ?_
      obtain ⟨⟨r3_0, r3_1, r3_2, r3_3⟩, hc4, hf⟩ := gB_s hf
      refine g_ki (is := [0, 1, 3]) (isR := [2]) (nW := 4) (w1 := (wX11_close E o_t a_t v_t_there v_t_wind v_t_force v_t_rains v_t_lost v_t_hours v_t_sights v_t_padMany r3_1 v_t_blownMany v_t_badAct v_t_badWhy v_t_ruinAct v_t_ruinWho v_t_keptAt v_t_isWriting r3_2 r3_3)) (ws' := (wX11_begin E o_t a_t v_t_there v_t_wind v_t_force v_t_rains v_t_lost v_t_hours v_t_sights v_t_padMany r3_1 v_t_blownMany v_t_badAct v_t_badWhy v_t_ruinAct v_t_ruinWho v_t_keptAt v_t_isWriting r3_2 (upd f_t_who (Int32.toNatClampNeg s1) s2) r3_3)) hw hA (g_rV hx hb hml hG hown hK hw (is := [0, 1, 3]) rfl (by decide) (mX11_close l E o_t a_t v_t_there v_t_wind v_t_force v_t_rains v_t_lost v_t_hours v_t_sights v_t_padMany v_t_acts v_t_blownMany v_t_badAct v_t_badWhy v_t_ruinAct v_t_ruinWho v_t_keptAt v_t_isWriting f_t_act f_t_much 6 0 r3_0 r3_1 r3_2 r3_3 hc4) wd_14_19 wd_14_20 wd_14_21 wd_1_5 wd_14_22 hX11_close g_allgood ⟨rfl, rfl⟩ ⟨Nat.le_of_ble_eq_true rfl, Nat.le_of_ble_eq_true rfl⟩ ⟨Nat.zero_le _, Nat.zero_le _⟩ (ci := 9) (q0 := 0) rfl rfl rfl rfl hl.1 rfl (Nat.le_of_ble_eq_true rfl) dX11_begin_96) rfl (g_had [o_t, (a_t 16), (a_t 18)] rfl rfl) rfl (⟨⟨_, rfl, rfl⟩, trivial⟩) rfl rfl (by decide) (fun H locs hw => ?_)
      exact hret1 (r3_0, r3_1, r3_2, (upd f_t_who (Int32.toNatClampNeg s1) s2), r3_3) _ _ _ _ hf hw dX11_begin_99
    have hf := g_f hs2 hf
    by_cases hs5 : x1 = 114
    · have hf := g_t hs5 hf
      refine lv_lookup (off := 44) (tgt := 78) hx hb dX11_begin_34 (by decide) (by rw [hs5] <;> rfl) (by decide) ?_
      refine lv_aload_n hx hb dX11_begin_78 rfl (lv_at hl 0 rfl) ?_
      refine lv_iconst (v := 4) hx hb dX11_begin_79 k_i4 ?_
      refine lv_iconst (v := 0) hx hb dX11_begin_80 k_i0 ?_
      obtain ⟨⟨r6_0, r6_1, r6_2, r6_3⟩, hc7, hf⟩ := gB_s hf
      refine g_ki (is := [0, 1, 3]) (isR := [2]) (nW := 4) (w1 := (wX11_close E o_t a_t v_t_there v_t_wind v_t_force v_t_rains v_t_lost v_t_hours v_t_sights v_t_padMany r6_1 v_t_blownMany v_t_badAct v_t_badWhy v_t_ruinAct v_t_ruinWho v_t_keptAt v_t_isWriting r6_2 r6_3)) (ws' := (wX11_begin E o_t a_t v_t_there v_t_wind v_t_force v_t_rains v_t_lost v_t_hours v_t_sights v_t_padMany r6_1 v_t_blownMany v_t_badAct v_t_badWhy v_t_ruinAct v_t_ruinWho v_t_keptAt v_t_isWriting r6_2 (upd f_t_who (Int32.toNatClampNeg s1) s2) r6_3)) hw hA (g_rV hx hb hml hG hown hK hw (is := [0, 1, 3]) rfl (by decide) (mX11_close l E o_t a_t v_t_there v_t_wind v_t_force v_t_rains v_t_lost v_t_hours v_t_sights v_t_padMany v_t_acts v_t_blownMany v_t_badAct v_t_badWhy v_t_ruinAct v_t_ruinWho v_t_keptAt v_t_isWriting f_t_act f_t_much 4 0 r6_0 r6_1 r6_2 r6_3 hc7) wd_14_19 wd_14_20 wd_14_21 wd_1_5 wd_14_22 hX11_close g_allgood ⟨rfl, rfl⟩ ⟨Nat.le_of_ble_eq_true rfl, Nat.le_of_ble_eq_true rfl⟩ ⟨Nat.zero_le _, Nat.zero_le _⟩ (ci := 9) (q0 := 0) rfl rfl rfl rfl hl.1 rfl (Nat.le_of_ble_eq_true rfl) dX11_begin_81) rfl (g_had [o_t, (a_t 16), (a_t 18)] rfl rfl) rfl (⟨⟨_, rfl, rfl⟩, trivial⟩) rfl rfl (by decide) (fun H locs hw => ?_)
      exact hret1 (r6_0, r6_1, r6_2, (upd f_t_who (Int32.toNatClampNeg s1) s2), r6_3) _ _ _ _ hf hw dX11_begin_84
    have hf := g_f hs5 hf
    by_cases hs8 : x1 = 115
    · have hf := g_t hs8 hf
      refine lv_lookup (off := 51) (tgt := 85) hx hb dX11_begin_34 (by decide) (by rw [hs8] <;> rfl) (by decide) ?_
      refine lv_aload_n hx hb dX11_begin_85 rfl (lv_at hl 0 rfl) ?_
      refine lv_iconst (v := 5) hx hb dX11_begin_86 k_i5 ?_
      refine lv_iconst (v := 0) hx hb dX11_begin_87 k_i0 ?_
      obtain ⟨⟨r9_0, r9_1, r9_2, r9_3⟩, hc10, hf⟩ := gB_s hf
      refine g_ki (is := [0, 1, 3]) (isR := [2]) (nW := 4) (w1 := (wX11_close E o_t a_t v_t_there v_t_wind v_t_force v_t_rains v_t_lost v_t_hours v_t_sights v_t_padMany r9_1 v_t_blownMany v_t_badAct v_t_badWhy v_t_ruinAct v_t_ruinWho v_t_keptAt v_t_isWriting r9_2 r9_3)) (ws' := (wX11_begin E o_t a_t v_t_there v_t_wind v_t_force v_t_rains v_t_lost v_t_hours v_t_sights v_t_padMany r9_1 v_t_blownMany v_t_badAct v_t_badWhy v_t_ruinAct v_t_ruinWho v_t_keptAt v_t_isWriting r9_2 (upd f_t_who (Int32.toNatClampNeg s1) s2) r9_3)) hw hA (g_rV hx hb hml hG hown hK hw (is := [0, 1, 3]) rfl (by decide) (mX11_close l E o_t a_t v_t_there v_t_wind v_t_force v_t_rains v_t_lost v_t_hours v_t_sights v_t_padMany v_t_acts v_t_blownMany v_t_badAct v_t_badWhy v_t_ruinAct v_t_ruinWho v_t_keptAt v_t_isWriting f_t_act f_t_much 5 0 r9_0 r9_1 r9_2 r9_3 hc10) wd_14_19 wd_14_20 wd_14_21 wd_1_5 wd_14_22 hX11_close g_allgood ⟨rfl, rfl⟩ ⟨Nat.le_of_ble_eq_true rfl, Nat.le_of_ble_eq_true rfl⟩ ⟨Nat.zero_le _, Nat.zero_le _⟩ (ci := 9) (q0 := 0) rfl rfl rfl rfl hl.1 rfl (Nat.le_of_ble_eq_true rfl) dX11_begin_88) rfl (g_had [o_t, (a_t 16), (a_t 18)] rfl rfl) rfl (⟨⟨_, rfl, rfl⟩, trivial⟩) rfl rfl (by decide) (fun H locs hw => ?_)
      exact hret1 (r9_0, r9_1, r9_2, (upd f_t_who (Int32.toNatClampNeg s1) s2), r9_3) _ _ _ _ hf hw dX11_begin_91
    have hf := g_f hs8 hf
    by_cases hs11 : x1 = 119
    · have hf := g_t hs11 hf
      refine lv_lookup (off := 42) (tgt := 76) hx hb dX11_begin_34 (by decide) (by rw [hs11] <;> rfl) (by decide) ?_
      refine lv_iconst (v := 2) hx hb dX11_begin_76 k_i2 ?_
      exact hret1 (2, v_t_acts, f_t_act, (upd f_t_who (Int32.toNatClampNeg s1) s2), f_t_much) _ _ _ _ hf hw dX11_begin_77
    have hf := g_f hs11 hf
    refine lv_lookup (off := 66) (tgt := 100) hx hb dX11_begin_34 (by decide) ((lv_osw hs2 (by decide)).trans ((lv_osw hs5 (by decide)).trans ((lv_osw hs8 (by decide)).trans ((lv_osw hs11 (by decide)).trans rfl)))) (by decide) ?_
    refine lv_iload_n hx hb dX11_begin_100 rfl (lv_at hl 2 rfl) ?_
    refine lv_if_eq (tgt := 108) hx hb dX11_begin_101 (by decide) (fun hc => ?_) (fun hc => ?_)
    · have hf := g_t hc hf
      refine lv_bipush (v := -6) hx hb dX11_begin_108 k_bm6 ?_
      exact B110 v_t_acts f_t_act (upd f_t_who (Int32.toNatClampNeg s1) s2) f_t_much (-6) _ _ _ hf hw (lv_sub hl [] rfl)
    · have hf := g_f hc hf
      refine lv_iconst (v := 1) hx hb dX11_begin_104 k_i1 ?_
      refine lv_goto (tgt := 110) hx hb dX11_begin_105 (by decide) ?_
      exact B110 v_t_acts f_t_act (upd f_t_who (Int32.toNatClampNeg s1) s2) f_t_much 1 _ _ _ hf hw (lv_sub hl [] rfl)
  refine lv_iload_n hx hb dX11_begin_0 rfl (lv_at hl 1 rfl) ?_
  refine lv_i2l hx hb dX11_begin_1 rfl ?_
  refine lv_ldc2 hx hb hown (hG _ wd_14_17) dX11_begin_2 ?_
  refine lv_ldc2 hx hb hown (hG _ wd_14_18) dX11_begin_5 ?_
  obtain ⟨r12, hc13, hf⟩ := gB_s hf
  refine g_ki0 (is := []) hw hA (g_rS hx hb hml hG hown hK hw (is := []) rfl (by decide) (mX11_in l E (Int32.toInt64 x1) 65 70 r12 hc13) wd_8_10 wd_8_11 wd_1_5 wd_8_12 hX11_in g_allgood ⟨rfl, rfl⟩ ⟨Nat.le_of_ble_eq_true rfl, Nat.le_of_ble_eq_true rfl⟩ ⟨Nat.zero_le _, Nat.zero_le _⟩ rfl hl.1 rfl (Nat.le_of_ble_eq_true rfl) dX11_begin_8) rfl (fun H locs hw => ?_)
  refine lv_istore_n (lv' := [(2, .int r12), (0, .ref o_t), (1, .int x1)]) hx hb dX11_begin_11 rfl hl (Nat.le_of_ble_eq_true rfl) rfl (fun ls hl => ?_)
  refine lv_aload_n hx hb dX11_begin_12 rfl (lv_at hl 1 rfl) ?_
  refine g_get hx hb hG hown hK hw inlX11 (ci := 9) rfl 0 17 (Nat.le_of_ble_eq_true rfl) rfl rfl wd_6_6 dX11_begin_13 ?_
  refine lv_aload_n hx hb dX11_begin_16 rfl (lv_at hl 1 rfl) ?_
  refine g_get hx hb hG hown hK hw inlX11 (ci := 9) rfl 0 19 (Nat.le_of_ble_eq_true rfl) rfl rfl wd_14_3 dX11_begin_17 ?_
  refine lv_iload_n hx hb dX11_begin_20 rfl (lv_at hl 0 rfl) ?_
  refine lv_if_eq (tgt := 31) hx hb dX11_begin_21 (by decide) (fun hc => ?_) (fun hc => ?_)
  · have hf := g_t hc hf
    refine lv_iconst (v := 0) hx hb dX11_begin_31 k_i0 ?_
    exact B32 v_t_acts f_t_act f_t_who f_t_much x1 r12 v_t_acts 0 _ _ _ hf hw (lv_sub hl [1, 2, 0] rfl)
  · have hf := g_f hc hf
    refine lv_iload_n hx hb dX11_begin_24 rfl (lv_at hl 2 rfl) ?_
    refine lv_bipush (v := 65) hx hb dX11_begin_25 k_b65 ?_
    refine lv_isub hx hb dX11_begin_27 ?_
    refine lv_goto (tgt := 32) hx hb dX11_begin_28 (by decide) ?_
    exact B32 v_t_acts f_t_act f_t_who f_t_much x1 r12 v_t_acts (x1 - 65) _ _ _ hf hw (lv_sub hl [1, 2, 0] rfl)
theorem hX11_readOn : yX11_readOn.cls = RX11 ∧ yX11_readOn.cls ≠ "java/lang/invoke/MethodHandle" ∧ yX11_readOn.cls ≠ "java/lang/invoke/VarHandle" ∧ (parseMethodDescriptor yX11_readOn.desc).map (fun d => d.parameters.length) = some 2 := by decide +kernel
set_option maxHeartbeats 4000000 in
set_option maxRecDepth 100000 in
theorem mX11_readOn (l : Launch) (E : gE) (o_t : Nat) (a_t : (Nat → Nat)) (v_t_there : Int32) (v_t_wind : Int32) (v_t_force : Int32) (v_t_rains : Int32) (v_t_lost : Int32) (v_t_hours : Int32) (v_t_sights : Int32) (v_t_padMany : Int32) (v_t_acts : Int32) (v_t_blownMany : Int32) (v_t_badAct : Int32) (v_t_badWhy : Int32) (v_t_ruinAct : Int32) (v_t_ruinWho : Int32) (v_t_keptAt : Int32) (v_t_isWriting : Int32) (f_t_act : (Nat → Int32)) (f_t_who : (Nat → Int32)) (f_t_much : (Nat → Int32)) (x1 : Int32) (x2 : Int32) (rv : Int32) (z_t_acts : Int32) (z_t_act : (Nat → Int32)) (z_t_who : (Nat → Int32)) (z_t_much : (Nat → Int32)) (hf : fX11_readOn v_t_acts f_t_act f_t_who f_t_much x1 x2 = some (rv, z_t_acts, z_t_act, z_t_who, z_t_much)) {sz : Nat} : gMi l yX11_readOn (gW yX11_readOn cX11_readOn 3 (some .int)) ({ frames := 2, cells := 0, slots := 0, locals := 47 } : Room) E [.ref o_t, .int x1, .int x2] (wX11_readOn E o_t a_t v_t_there v_t_wind v_t_force v_t_rains v_t_lost v_t_hours v_t_sights v_t_padMany v_t_acts v_t_blownMany v_t_badAct v_t_badWhy v_t_ruinAct v_t_ruinWho v_t_keptAt v_t_isWriting f_t_act f_t_who f_t_much) sz rv (wX11_readOn E o_t a_t v_t_there v_t_wind v_t_force v_t_rains v_t_lost v_t_hours v_t_sights v_t_padMany z_t_acts v_t_blownMany v_t_badAct v_t_badWhy v_t_ruinAct v_t_ruinWho v_t_keptAt v_t_isWriting z_t_act z_t_who z_t_much) := by
  refine g_openI (own := RX11) (by decide) rfl (Nat.le_of_ble_eq_true rfl) (fun p e s m args below meth cd Q A hx hb hml hown hG hK hA hret hw ls hl => ?_)
  have hl : lv_has ls 3 [(0, .ref o_t), (1, .int x1), (2, .int x2)] := hl
  have hret1 : ∀ (t : Int32 × Int32 × (Nat → Int32) × (Nat → Int32) × (Nat → Int32)) (H : Heap) (locs : List Loc) (pc : Nat) (ls : Array Slot), some t = some (rv, z_t_acts, z_t_act, z_t_who, z_t_much) → gS E A s.heap (wX11_readOn E o_t a_t v_t_there v_t_wind v_t_force v_t_rains v_t_lost v_t_hours v_t_sights v_t_padMany t.2.1 v_t_blownMany v_t_badAct v_t_badWhy v_t_ruinAct v_t_ruinWho v_t_keptAt v_t_isWriting t.2.2.1 t.2.2.2.1 t.2.2.2.2) H locs → decode cX11_readOn pc = .ok (.ireturn, 1) → W p l e ({ frames := 2, cells := 0, slots := 0, locals := 47 } : Room) s m args below meth cd H locs 0 0 Q (F0 m pc ls [.int t.1]) := by
    intro t H locs pc ls h hw hd
    obtain rfl : t = (rv, z_t_acts, z_t_act, z_t_who, z_t_much) := Option.some.inj h
    exact hret H locs pc ls hw hd
  have B48 : ∀ (v_t_acts : Int32) (f_t_act : (Nat → Int32)) (f_t_who : (Nat → Int32)) (f_t_much : (Nat → Int32)) (s0 : Int32) (H : Heap) (locs : List Loc) (ls : Array Slot), fX11_readOn_b48 v_t_acts f_t_act f_t_who f_t_much s0 = some (rv, z_t_acts, z_t_act, z_t_who, z_t_much) → gS E A s.heap (wX11_readOn E o_t a_t v_t_there v_t_wind v_t_force v_t_rains v_t_lost v_t_hours v_t_sights v_t_padMany v_t_acts v_t_blownMany v_t_badAct v_t_badWhy v_t_ruinAct v_t_ruinWho v_t_keptAt v_t_isWriting f_t_act f_t_who f_t_much) H locs → lv_has ls 3 [] → W p l e ({ frames := 2, cells := 0, slots := 0, locals := 47 } : Room) s m args below meth cd H locs 0 0 Q (F0 m 48 ls [.int s0]) := by
    intro  v_t_acts f_t_act f_t_who f_t_much s0 H locs ls hf hw hl
    exact hret1 (s0, v_t_acts, f_t_act, f_t_who, f_t_much) _ _ _ _ hf hw dX11_readOn_48
  have B82 : ∀ (v_t_acts : Int32) (f_t_act : (Nat → Int32)) (f_t_who : (Nat → Int32)) (f_t_much : (Nat → Int32)) (s0 : Int32) (H : Heap) (locs : List Loc) (ls : Array Slot), fX11_readOn_b82 v_t_acts f_t_act f_t_who f_t_much s0 = some (rv, z_t_acts, z_t_act, z_t_who, z_t_much) → gS E A s.heap (wX11_readOn E o_t a_t v_t_there v_t_wind v_t_force v_t_rains v_t_lost v_t_hours v_t_sights v_t_padMany v_t_acts v_t_blownMany v_t_badAct v_t_badWhy v_t_ruinAct v_t_ruinWho v_t_keptAt v_t_isWriting f_t_act f_t_who f_t_much) H locs → lv_has ls 3 [] → W p l e ({ frames := 2, cells := 0, slots := 0, locals := 47 } : Room) s m args below meth cd H locs 0 0 Q (F0 m 82 ls [.int s0]) := by
    intro  v_t_acts f_t_act f_t_who f_t_much s0 H locs ls hf hw hl
    exact hret1 (s0, v_t_acts, f_t_act, f_t_who, f_t_much) _ _ _ _ hf hw dX11_readOn_82
  have B141 : ∀ (v_t_acts : Int32) (f_t_act : (Nat → Int32)) (f_t_who : (Nat → Int32)) (f_t_much : (Nat → Int32)) (s0 : Int32) (H : Heap) (locs : List Loc) (ls : Array Slot), fX11_readOn_b141 v_t_acts f_t_act f_t_who f_t_much s0 = some (rv, z_t_acts, z_t_act, z_t_who, z_t_much) → gS E A s.heap (wX11_readOn E o_t a_t v_t_there v_t_wind v_t_force v_t_rains v_t_lost v_t_hours v_t_sights v_t_padMany v_t_acts v_t_blownMany v_t_badAct v_t_badWhy v_t_ruinAct v_t_ruinWho v_t_keptAt v_t_isWriting f_t_act f_t_who f_t_much) H locs → lv_has ls 3 [] → W p l e ({ frames := 2, cells := 0, slots := 0, locals := 47 } : Room) s m args below meth cd H locs 0 0 Q (F0 m 141 ls [.int s0]) := by
    intro  v_t_acts f_t_act f_t_who f_t_much s0 H locs ls hf hw hl
    exact hret1 (s0, v_t_acts, f_t_act, f_t_who, f_t_much) _ _ _ _ hf hw dX11_readOn_141
  refine lv_iload_n hx hb dX11_readOn_0 rfl (lv_at hl 1 rfl) ?_
  refine lv_if_ne (tgt := 10) hx hb dX11_readOn_1 (by decide) (fun hc => ?_) (fun hc => ?_)
  · have hf := g_f hc hf
    refine lv_iload_n hx hb dX11_readOn_10 rfl (lv_at hl 1 rfl) ?_
    refine lv_iconst (v := 2) hx hb dX11_readOn_11 k_i2 ?_
    refine lv_icmp_ne (tgt := 49) hx hb dX11_readOn_12 (by decide) (fun hc => ?_) (fun hc => ?_)
    · have hf := g_f hc hf
      refine lv_iload_n hx hb dX11_readOn_49 rfl (lv_at hl 1 rfl) ?_
      refine lv_iconst (v := 3) hx hb dX11_readOn_50 k_i3 ?_
      refine lv_icmp_ne (tgt := 83) hx hb dX11_readOn_51 (by decide) (fun hc => ?_) (fun hc => ?_)
      · have hf := g_f hc hf
        refine lv_iload_n hx hb dX11_readOn_83 rfl (lv_at hl 2 rfl) ?_
        refine lv_bipush (v := 99) hx hb dX11_readOn_84 k_b99 ?_
        refine lv_icmp_ne (tgt := 98) hx hb dX11_readOn_86 (by decide) (fun hc => ?_) (fun hc => ?_)
        · have hf := g_f hc hf
          refine lv_iload_n hx hb dX11_readOn_98 rfl (lv_at hl 2 rfl) ?_
          refine lv_bipush (v := 109) hx hb dX11_readOn_99 k_b109 ?_
          refine lv_icmp_ne (tgt := 113) hx hb dX11_readOn_101 (by decide) (fun hc => ?_) (fun hc => ?_)
          · have hf := g_f hc hf
            refine lv_iload_n hx hb dX11_readOn_113 rfl (lv_at hl 2 rfl) ?_
            refine lv_i2l hx hb dX11_readOn_114 rfl ?_
            refine lv_ldc2 hx hb hown (hG _ wd_14_11) dX11_readOn_115 ?_
            refine lv_ldc2 hx hb hown (hG _ wd_14_12) dX11_readOn_118 ?_
            obtain ⟨r1, hc2, hf⟩ := gB_s hf
            refine g_ki0 (is := []) hw hA (g_rS hx hb hml hG hown hK hw (is := []) rfl (by decide) (mX11_in l E (Int32.toInt64 x2) 49 57 r1 hc2) wd_8_10 wd_8_11 wd_1_5 wd_8_12 hX11_in g_allgood ⟨rfl, rfl⟩ ⟨Nat.le_of_ble_eq_true rfl, Nat.le_of_ble_eq_true rfl⟩ ⟨Nat.zero_le _, Nat.zero_le _⟩ rfl hl.1 rfl (Nat.le_of_ble_eq_true rfl) dX11_readOn_121) rfl (fun H locs hw => ?_)
            refine lv_if_eq (tgt := 139) hx hb dX11_readOn_124 (by decide) (fun hc => ?_) (fun hc => ?_)
            · have hf := g_t hc hf
              refine lv_bipush (v := -6) hx hb dX11_readOn_139 k_bm6 ?_
              exact B141 v_t_acts f_t_act f_t_who f_t_much (-6) _ _ _ hf hw (lv_sub hl [] rfl)
            · have hf := g_f hc hf
              refine lv_aload_n hx hb dX11_readOn_127 rfl (lv_at hl 0 rfl) ?_
              refine lv_iconst (v := 0) hx hb dX11_readOn_128 k_i0 ?_
              refine lv_iload_n hx hb dX11_readOn_129 rfl (lv_at hl 2 rfl) ?_
              refine lv_bipush (v := 48) hx hb dX11_readOn_130 k_b48 ?_
              refine lv_isub hx hb dX11_readOn_132 ?_
              obtain ⟨⟨r3_0, r3_1, r3_2, r3_3⟩, hc4, hf⟩ := gB_s hf
              refine g_ki (is := [0, 1, 3]) (isR := [2]) (nW := 4) (w1 := (wX11_close E o_t a_t v_t_there v_t_wind v_t_force v_t_rains v_t_lost v_t_hours v_t_sights v_t_padMany r3_1 v_t_blownMany v_t_badAct v_t_badWhy v_t_ruinAct v_t_ruinWho v_t_keptAt v_t_isWriting r3_2 r3_3)) (ws' := (wX11_readOn E o_t a_t v_t_there v_t_wind v_t_force v_t_rains v_t_lost v_t_hours v_t_sights v_t_padMany r3_1 v_t_blownMany v_t_badAct v_t_badWhy v_t_ruinAct v_t_ruinWho v_t_keptAt v_t_isWriting r3_2 f_t_who r3_3)) hw hA (g_rV hx hb hml hG hown hK hw (is := [0, 1, 3]) rfl (by decide) (mX11_close l E o_t a_t v_t_there v_t_wind v_t_force v_t_rains v_t_lost v_t_hours v_t_sights v_t_padMany v_t_acts v_t_blownMany v_t_badAct v_t_badWhy v_t_ruinAct v_t_ruinWho v_t_keptAt v_t_isWriting f_t_act f_t_much 0 (x2 - 48) r3_0 r3_1 r3_2 r3_3 hc4) wd_14_19 wd_14_20 wd_14_21 wd_1_5 wd_14_22 hX11_close g_allgood ⟨rfl, rfl⟩ ⟨Nat.le_of_ble_eq_true rfl, Nat.le_of_ble_eq_true rfl⟩ ⟨Nat.zero_le _, Nat.zero_le _⟩ (ci := 9) (q0 := 0) rfl rfl rfl rfl hl.1 rfl (Nat.le_of_ble_eq_true rfl) dX11_readOn_133) rfl (g_had [o_t, (a_t 16), (a_t 18)] rfl rfl) rfl (⟨⟨_, rfl, rfl⟩, trivial⟩) rfl rfl (by decide) (fun H locs hw => ?_)
              refine lv_goto (tgt := 141) hx hb dX11_readOn_136 (by decide) ?_
              exact B141 r3_1 r3_2 f_t_who r3_3 r3_0 _ _ _ hf hw (lv_sub hl [] rfl)
          · have hf := g_t hc hf
            refine lv_aload_n hx hb dX11_readOn_104 rfl (lv_at hl 0 rfl) ?_
            refine lv_iconst (v := 2) hx hb dX11_readOn_105 k_i2 ?_
            refine lv_iconst (v := 0) hx hb dX11_readOn_106 k_i0 ?_
            obtain ⟨⟨r5_0, r5_1, r5_2, r5_3⟩, hc6, hf⟩ := gB_s hf
            refine g_ki (is := [0, 1, 3]) (isR := [2]) (nW := 4) (w1 := (wX11_close E o_t a_t v_t_there v_t_wind v_t_force v_t_rains v_t_lost v_t_hours v_t_sights v_t_padMany r5_1 v_t_blownMany v_t_badAct v_t_badWhy v_t_ruinAct v_t_ruinWho v_t_keptAt v_t_isWriting r5_2 r5_3)) (ws' := (wX11_readOn E o_t a_t v_t_there v_t_wind v_t_force v_t_rains v_t_lost v_t_hours v_t_sights v_t_padMany r5_1 v_t_blownMany v_t_badAct v_t_badWhy v_t_ruinAct v_t_ruinWho v_t_keptAt v_t_isWriting r5_2 f_t_who r5_3)) hw hA (g_rV hx hb hml hG hown hK hw (is := [0, 1, 3]) rfl (by decide) (mX11_close l E o_t a_t v_t_there v_t_wind v_t_force v_t_rains v_t_lost v_t_hours v_t_sights v_t_padMany v_t_acts v_t_blownMany v_t_badAct v_t_badWhy v_t_ruinAct v_t_ruinWho v_t_keptAt v_t_isWriting f_t_act f_t_much 2 0 r5_0 r5_1 r5_2 r5_3 hc6) wd_14_19 wd_14_20 wd_14_21 wd_1_5 wd_14_22 hX11_close g_allgood ⟨rfl, rfl⟩ ⟨Nat.le_of_ble_eq_true rfl, Nat.le_of_ble_eq_true rfl⟩ ⟨Nat.zero_le _, Nat.zero_le _⟩ (ci := 9) (q0 := 0) rfl rfl rfl rfl hl.1 rfl (Nat.le_of_ble_eq_true rfl) dX11_readOn_107) rfl (g_had [o_t, (a_t 16), (a_t 18)] rfl rfl) rfl (⟨⟨_, rfl, rfl⟩, trivial⟩) rfl rfl (by decide) (fun H locs hw => ?_)
            refine lv_goto (tgt := 141) hx hb dX11_readOn_110 (by decide) ?_
            exact B141 r5_1 r5_2 f_t_who r5_3 r5_0 _ _ _ hf hw (lv_sub hl [] rfl)
        · have hf := g_t hc hf
          refine lv_aload_n hx hb dX11_readOn_89 rfl (lv_at hl 0 rfl) ?_
          refine lv_iconst (v := 1) hx hb dX11_readOn_90 k_i1 ?_
          refine lv_iconst (v := 0) hx hb dX11_readOn_91 k_i0 ?_
          obtain ⟨⟨r7_0, r7_1, r7_2, r7_3⟩, hc8, hf⟩ := gB_s hf
          refine g_ki (is := [0, 1, 3]) (isR := [2]) (nW := 4) (w1 := (wX11_close E o_t a_t v_t_there v_t_wind v_t_force v_t_rains v_t_lost v_t_hours v_t_sights v_t_padMany r7_1 v_t_blownMany v_t_badAct v_t_badWhy v_t_ruinAct v_t_ruinWho v_t_keptAt v_t_isWriting r7_2 r7_3)) (ws' := (wX11_readOn E o_t a_t v_t_there v_t_wind v_t_force v_t_rains v_t_lost v_t_hours v_t_sights v_t_padMany r7_1 v_t_blownMany v_t_badAct v_t_badWhy v_t_ruinAct v_t_ruinWho v_t_keptAt v_t_isWriting r7_2 f_t_who r7_3)) hw hA (g_rV hx hb hml hG hown hK hw (is := [0, 1, 3]) rfl (by decide) (mX11_close l E o_t a_t v_t_there v_t_wind v_t_force v_t_rains v_t_lost v_t_hours v_t_sights v_t_padMany v_t_acts v_t_blownMany v_t_badAct v_t_badWhy v_t_ruinAct v_t_ruinWho v_t_keptAt v_t_isWriting f_t_act f_t_much 1 0 r7_0 r7_1 r7_2 r7_3 hc8) wd_14_19 wd_14_20 wd_14_21 wd_1_5 wd_14_22 hX11_close g_allgood ⟨rfl, rfl⟩ ⟨Nat.le_of_ble_eq_true rfl, Nat.le_of_ble_eq_true rfl⟩ ⟨Nat.zero_le _, Nat.zero_le _⟩ (ci := 9) (q0 := 0) rfl rfl rfl rfl hl.1 rfl (Nat.le_of_ble_eq_true rfl) dX11_readOn_92) rfl (g_had [o_t, (a_t 16), (a_t 18)] rfl rfl) rfl (⟨⟨_, rfl, rfl⟩, trivial⟩) rfl rfl (by decide) (fun H locs hw => ?_)
          refine lv_goto (tgt := 141) hx hb dX11_readOn_95 (by decide) ?_
          exact B141 r7_1 r7_2 f_t_who r7_3 r7_0 _ _ _ hf hw (lv_sub hl [] rfl)
      · have hf := g_t hc hf
        refine lv_iload_n hx hb dX11_readOn_54 rfl (lv_at hl 2 rfl) ?_
        refine lv_i2l hx hb dX11_readOn_55 rfl ?_
        refine lv_ldc2 hx hb hown (hG _ wd_14_8) dX11_readOn_56 ?_
        refine lv_ldc2 hx hb hown (hG _ wd_14_10) dX11_readOn_59 ?_
        obtain ⟨r9, hc10, hf⟩ := gB_s hf
        refine g_ki0 (is := []) hw hA (g_rS hx hb hml hG hown hK hw (is := []) rfl (by decide) (mX11_in l E (Int32.toInt64 x2) 48 53 r9 hc10) wd_8_10 wd_8_11 wd_1_5 wd_8_12 hX11_in g_allgood ⟨rfl, rfl⟩ ⟨Nat.le_of_ble_eq_true rfl, Nat.le_of_ble_eq_true rfl⟩ ⟨Nat.zero_le _, Nat.zero_le _⟩ rfl hl.1 rfl (Nat.le_of_ble_eq_true rfl) dX11_readOn_62) rfl (fun H locs hw => ?_)
        refine lv_if_eq (tgt := 80) hx hb dX11_readOn_65 (by decide) (fun hc => ?_) (fun hc => ?_)
        · have hf := g_t hc hf
          refine lv_bipush (v := -6) hx hb dX11_readOn_80 k_bm6 ?_
          exact B82 v_t_acts f_t_act f_t_who f_t_much (-6) _ _ _ hf hw (lv_sub hl [] rfl)
        · have hf := g_f hc hf
          refine lv_aload_n hx hb dX11_readOn_68 rfl (lv_at hl 0 rfl) ?_
          refine lv_iconst (v := 3) hx hb dX11_readOn_69 k_i3 ?_
          refine lv_iload_n hx hb dX11_readOn_70 rfl (lv_at hl 2 rfl) ?_
          refine lv_bipush (v := 48) hx hb dX11_readOn_71 k_b48 ?_
          refine lv_isub hx hb dX11_readOn_73 ?_
          obtain ⟨⟨r11_0, r11_1, r11_2, r11_3⟩, hc12, hf⟩ := gB_s hf
          refine g_ki (is := [0, 1, 3]) (isR := [2]) (nW := 4) (w1 := (wX11_close E o_t a_t v_t_there v_t_wind v_t_force v_t_rains v_t_lost v_t_hours v_t_sights v_t_padMany r11_1 v_t_blownMany v_t_badAct v_t_badWhy v_t_ruinAct v_t_ruinWho v_t_keptAt v_t_isWriting r11_2 r11_3)) (ws' := (wX11_readOn E o_t a_t v_t_there v_t_wind v_t_force v_t_rains v_t_lost v_t_hours v_t_sights v_t_padMany r11_1 v_t_blownMany v_t_badAct v_t_badWhy v_t_ruinAct v_t_ruinWho v_t_keptAt v_t_isWriting r11_2 f_t_who r11_3)) hw hA (g_rV hx hb hml hG hown hK hw (is := [0, 1, 3]) rfl (by decide) (mX11_close l E o_t a_t v_t_there v_t_wind v_t_force v_t_rains v_t_lost v_t_hours v_t_sights v_t_padMany v_t_acts v_t_blownMany v_t_badAct v_t_badWhy v_t_ruinAct v_t_ruinWho v_t_keptAt v_t_isWriting f_t_act f_t_much 3 (x2 - 48) r11_0 r11_1 r11_2 r11_3 hc12) wd_14_19 wd_14_20 wd_14_21 wd_1_5 wd_14_22 hX11_close g_allgood ⟨rfl, rfl⟩ ⟨Nat.le_of_ble_eq_true rfl, Nat.le_of_ble_eq_true rfl⟩ ⟨Nat.zero_le _, Nat.zero_le _⟩ (ci := 9) (q0 := 0) rfl rfl rfl rfl hl.1 rfl (Nat.le_of_ble_eq_true rfl) dX11_readOn_74) rfl (g_had [o_t, (a_t 16), (a_t 18)] rfl rfl) rfl (⟨⟨_, rfl, rfl⟩, trivial⟩) rfl rfl (by decide) (fun H locs hw => ?_)
          refine lv_goto (tgt := 82) hx hb dX11_readOn_77 (by decide) ?_
          exact B82 r11_1 r11_2 f_t_who r11_3 r11_0 _ _ _ hf hw (lv_sub hl [] rfl)
    · have hf := g_t hc hf
      refine lv_aload_n hx hb dX11_readOn_15 rfl (lv_at hl 0 rfl) ?_
      refine g_get hx hb hG hown hK hw inlX11 (ci := 9) rfl 0 17 (Nat.le_of_ble_eq_true rfl) rfl rfl wd_6_6 dX11_readOn_16 ?_
      refine lv_aload_n hx hb dX11_readOn_19 rfl (lv_at hl 0 rfl) ?_
      refine g_get hx hb hG hown hK hw inlX11 (ci := 9) rfl 0 19 (Nat.le_of_ble_eq_true rfl) rfl rfl wd_14_3 dX11_readOn_20 ?_
      refine lv_iload_n hx hb dX11_readOn_23 rfl (lv_at hl 2 rfl) ?_
      refine lv_bipush (v := 48) hx hb dX11_readOn_24 k_b48 ?_
      refine lv_isub hx hb dX11_readOn_26 ?_
      obtain ⟨hi13, hf⟩ := gA_s hf
      refine g_iast (ws' := (wX11_readOn E o_t a_t v_t_there v_t_wind v_t_force v_t_rains v_t_lost v_t_hours v_t_sights v_t_padMany v_t_acts v_t_blownMany v_t_badAct v_t_badWhy v_t_ruinAct v_t_ruinWho v_t_keptAt v_t_isWriting f_t_act (upd f_t_who (Int32.toNatClampNeg v_t_acts) (x2 - 48)) f_t_much)) hx hb hK hw 2 rfl hi13 rfl dX11_readOn_27 (fun H locs hw => ?_)
      refine lv_iload_n hx hb dX11_readOn_28 rfl (lv_at hl 2 rfl) ?_
      refine lv_i2l hx hb dX11_readOn_29 rfl ?_
      refine lv_ldc2 hx hb hown (hG _ wd_14_8) dX11_readOn_30 ?_
      refine lv_ldc2 hx hb hown (hG _ wd_14_9) dX11_readOn_33 ?_
      obtain ⟨r14, hc15, hf⟩ := gB_s hf
      refine g_ki0 (is := []) hw hA (g_rS hx hb hml hG hown hK hw (is := []) rfl (by decide) (mX11_in l E (Int32.toInt64 x2) 48 51 r14 hc15) wd_8_10 wd_8_11 wd_1_5 wd_8_12 hX11_in g_allgood ⟨rfl, rfl⟩ ⟨Nat.le_of_ble_eq_true rfl, Nat.le_of_ble_eq_true rfl⟩ ⟨Nat.zero_le _, Nat.zero_le _⟩ rfl hl.1 rfl (Nat.le_of_ble_eq_true rfl) dX11_readOn_36) rfl (fun H locs hw => ?_)
      refine lv_if_eq (tgt := 46) hx hb dX11_readOn_39 (by decide) (fun hc => ?_) (fun hc => ?_)
      · have hf := g_t hc hf
        refine lv_bipush (v := -6) hx hb dX11_readOn_46 k_bm6 ?_
        exact B48 v_t_acts f_t_act (upd f_t_who (Int32.toNatClampNeg v_t_acts) (x2 - 48)) f_t_much (-6) _ _ _ hf hw (lv_sub hl [] rfl)
      · have hf := g_f hc hf
        refine lv_iconst (v := 3) hx hb dX11_readOn_42 k_i3 ?_
        refine lv_goto (tgt := 48) hx hb dX11_readOn_43 (by decide) ?_
        exact B48 v_t_acts f_t_act (upd f_t_who (Int32.toNatClampNeg v_t_acts) (x2 - 48)) f_t_much 3 _ _ _ hf hw (lv_sub hl [] rfl)
  · have hf := g_t hc hf
    refine lv_aload_n hx hb dX11_readOn_4 rfl (lv_at hl 0 rfl) ?_
    refine lv_iload_n hx hb dX11_readOn_5 rfl (lv_at hl 2 rfl) ?_
    obtain ⟨⟨r16_0, r16_1, r16_2, r16_3, r16_4⟩, hc17, hf⟩ := gB_s hf
    refine g_ki (is := [0, 1, 2, 3]) (isR := []) (nW := 4) (w1 := (wX11_begin E o_t a_t v_t_there v_t_wind v_t_force v_t_rains v_t_lost v_t_hours v_t_sights v_t_padMany r16_1 v_t_blownMany v_t_badAct v_t_badWhy v_t_ruinAct v_t_ruinWho v_t_keptAt v_t_isWriting r16_2 r16_3 r16_4)) (ws' := (wX11_readOn E o_t a_t v_t_there v_t_wind v_t_force v_t_rains v_t_lost v_t_hours v_t_sights v_t_padMany r16_1 v_t_blownMany v_t_badAct v_t_badWhy v_t_ruinAct v_t_ruinWho v_t_keptAt v_t_isWriting r16_2 r16_3 r16_4)) hw hA (g_rV hx hb hml hG hown hK hw (is := [0, 1, 2, 3]) rfl (by decide) (mX11_begin l E o_t a_t v_t_there v_t_wind v_t_force v_t_rains v_t_lost v_t_hours v_t_sights v_t_padMany v_t_acts v_t_blownMany v_t_badAct v_t_badWhy v_t_ruinAct v_t_ruinWho v_t_keptAt v_t_isWriting f_t_act f_t_who f_t_much x2 r16_0 r16_1 r16_2 r16_3 r16_4 hc17) wd_14_13 wd_14_14 wd_14_15 wd_1_5 wd_14_16 hX11_begin g_allgood ⟨rfl, rfl⟩ ⟨Nat.le_of_ble_eq_true rfl, Nat.le_of_ble_eq_true rfl⟩ ⟨Nat.zero_le _, Nat.zero_le _⟩ (ci := 9) (q0 := 0) rfl rfl rfl rfl hl.1 rfl (Nat.le_of_ble_eq_true rfl) dX11_readOn_6) rfl (g_had [o_t, (a_t 16), (a_t 17), (a_t 18)] rfl rfl) rfl (trivial) rfl rfl (by decide) (fun H locs hw => ?_)
    exact hret1 (r16_0, r16_1, r16_2, r16_3, r16_4) _ _ _ _ hf hw dX11_readOn_9
theorem hX11_fault : yX11_fault.cls = RX11 ∧ yX11_fault.cls ≠ "java/lang/invoke/MethodHandle" ∧ yX11_fault.cls ≠ "java/lang/invoke/VarHandle" ∧ (parseMethodDescriptor yX11_fault.desc).map (fun d => d.parameters.length) = some 0 := by decide +kernel
set_option maxHeartbeats 4000000 in
set_option maxRecDepth 100000 in
theorem mX11_fault (l : Launch) (E : gE) (o_t : Nat) (a_t : (Nat → Nat)) (v_t_there : Int32) (v_t_wind : Int32) (v_t_force : Int32) (v_t_rains : Int32) (v_t_lost : Int32) (v_t_hours : Int32) (v_t_sights : Int32) (v_t_padMany : Int32) (v_t_acts : Int32) (v_t_blownMany : Int32) (v_t_badAct : Int32) (v_t_badWhy : Int32) (v_t_ruinAct : Int32) (v_t_ruinWho : Int32) (v_t_keptAt : Int32) (v_t_isWriting : Int32) (f_t_pad : (Nat → Int32)) (f_t_act : (Nat → Int32)) (f_t_who : (Nat → Int32)) (f_t_much : (Nat → Int32)) (rv : Int32) (z_t_acts : Int32) (z_t_act : (Nat → Int32)) (z_t_who : (Nat → Int32)) (z_t_much : (Nat → Int32)) (hf : fX11_fault v_t_padMany v_t_acts f_t_pad f_t_act f_t_who f_t_much = some (rv, z_t_acts, z_t_act, z_t_who, z_t_much)) {sz : Nat} : gMi l yX11_fault (gW yX11_fault cX11_fault 3 (some .int)) ({ frames := 3, cells := 0, slots := 0, locals := 69 } : Room) E [.ref o_t] (wX11_fault E o_t a_t v_t_there v_t_wind v_t_force v_t_rains v_t_lost v_t_hours v_t_sights v_t_padMany v_t_acts v_t_blownMany v_t_badAct v_t_badWhy v_t_ruinAct v_t_ruinWho v_t_keptAt v_t_isWriting f_t_pad f_t_act f_t_who f_t_much) sz rv (wX11_fault E o_t a_t v_t_there v_t_wind v_t_force v_t_rains v_t_lost v_t_hours v_t_sights v_t_padMany z_t_acts v_t_blownMany v_t_badAct v_t_badWhy v_t_ruinAct v_t_ruinWho v_t_keptAt v_t_isWriting f_t_pad z_t_act z_t_who z_t_much) := by
  refine g_openI (own := RX11) (by decide) rfl (Nat.le_of_ble_eq_true rfl) (fun p e s m args below meth cd Q A hx hb hml hown hG hK hA hret hw ls hl => ?_)
  have hl : lv_has ls 3 [(0, .ref o_t)] := hl
  have hret1 : ∀ (t : Int32 × Int32 × (Nat → Int32) × (Nat → Int32) × (Nat → Int32)) (H : Heap) (locs : List Loc) (pc : Nat) (ls : Array Slot), some t = some (rv, z_t_acts, z_t_act, z_t_who, z_t_much) → gS E A s.heap (wX11_fault E o_t a_t v_t_there v_t_wind v_t_force v_t_rains v_t_lost v_t_hours v_t_sights v_t_padMany t.2.1 v_t_blownMany v_t_badAct v_t_badWhy v_t_ruinAct v_t_ruinWho v_t_keptAt v_t_isWriting f_t_pad t.2.2.1 t.2.2.2.1 t.2.2.2.2) H locs → decode cX11_fault pc = .ok (.ireturn, 1) → W p l e ({ frames := 3, cells := 0, slots := 0, locals := 69 } : Room) s m args below meth cd H locs 0 0 Q (F0 m pc ls [.int t.1]) := by
    intro t H locs pc ls h hw hd
    obtain rfl : t = (rv, z_t_acts, z_t_act, z_t_who, z_t_much) := Option.some.inj h
    exact hret H locs pc ls hw hd
  have B54 : ∀ (v_t_acts : Int32) (f_t_act : (Nat → Int32)) (f_t_who : (Nat → Int32)) (f_t_much : (Nat → Int32)) (s0 : Int32) (H : Heap) (locs : List Loc) (ls : Array Slot), fX11_fault_b54 v_t_acts f_t_act f_t_who f_t_much s0 = some (rv, z_t_acts, z_t_act, z_t_who, z_t_much) → gS E A s.heap (wX11_fault E o_t a_t v_t_there v_t_wind v_t_force v_t_rains v_t_lost v_t_hours v_t_sights v_t_padMany v_t_acts v_t_blownMany v_t_badAct v_t_badWhy v_t_ruinAct v_t_ruinWho v_t_keptAt v_t_isWriting f_t_pad f_t_act f_t_who f_t_much) H locs → lv_has ls 3 [] → W p l e ({ frames := 3, cells := 0, slots := 0, locals := 69 } : Room) s m args below meth cd H locs 0 0 Q (F0 m 54 ls [.int s0]) := by
    intro  v_t_acts f_t_act f_t_who f_t_much s0 H locs ls hf hw hl
    exact hret1 (s0, v_t_acts, f_t_act, f_t_who, f_t_much) _ _ _ _ hf hw dX11_fault_54
  have B9 : ∀ n : Nat, ∀ (v_t_acts : Int32) (f_t_act : (Nat → Int32)) (f_t_who : (Nat → Int32)) (f_t_much : (Nat → Int32)) (x1 : Int32) (x2 : Int32) (H : Heap) (locs : List Loc) (ls : Array Slot), fX11_fault_b9 v_t_padMany f_t_pad n v_t_acts f_t_act f_t_who f_t_much x1 x2 = some (rv, z_t_acts, z_t_act, z_t_who, z_t_much) → gS E A s.heap (wX11_fault E o_t a_t v_t_there v_t_wind v_t_force v_t_rains v_t_lost v_t_hours v_t_sights v_t_padMany v_t_acts v_t_blownMany v_t_badAct v_t_badWhy v_t_ruinAct v_t_ruinWho v_t_keptAt v_t_isWriting f_t_pad f_t_act f_t_who f_t_much) H locs → lv_has ls 3 [(0, .ref o_t), (1, .int x1), (2, .int x2)] → W p l e ({ frames := 3, cells := 0, slots := 0, locals := 69 } : Room) s m args below meth cd H locs 0 0 Q (F0 m 9 ls []) := by
    intro n
    induction n with
    | zero => intro v_t_acts f_t_act f_t_who f_t_much x1 x2 H locs ls hf hw hl; exact g_no hf
    | succ n ih =>
      intro v_t_acts f_t_act f_t_who f_t_much x1 x2 H locs ls hf hw hl
      refine lv_iload_n hx hb dX11_fault_9 rfl (lv_at hl 2 rfl) ?_
      refine lv_aload_n hx hb dX11_fault_10 rfl (lv_at hl 0 rfl) ?_
      refine g_get hx hb hG hown hK hw inlX11 (ci := 9) rfl 0 15 (Nat.le_of_ble_eq_true rfl) rfl rfl wd_13_2 dX11_fault_11 ?_
      refine lv_icmp_ge (tgt := 41) hx hb dX11_fault_14 (by decide) (fun hc => ?_) (fun hc => ?_)
      · have hf := g_t hc hf
        refine lv_iload_n hx hb dX11_fault_41 rfl (lv_at hl 1 rfl) ?_
        refine lv_if_ne (tgt := 50) hx hb dX11_fault_42 (by decide) (fun hc => ?_) (fun hc => ?_)
        · have hf := g_f hc hf
          refine lv_aload_n hx hb dX11_fault_50 rfl (lv_at hl 0 rfl) ?_
          refine g_get hx hb hG hown hK hw inlX11 (ci := 9) rfl 0 15 (Nat.le_of_ble_eq_true rfl) rfl rfl wd_13_2 dX11_fault_51 ?_
          exact B54 v_t_acts f_t_act f_t_who f_t_much v_t_padMany _ _ _ hf hw (lv_sub hl [] rfl)
        · have hf := g_t hc hf
          refine lv_bipush (v := -6) hx hb dX11_fault_45 k_bm6 ?_
          refine lv_goto (tgt := 54) hx hb dX11_fault_47 (by decide) ?_
          exact B54 v_t_acts f_t_act f_t_who f_t_much (-6) _ _ _ hf hw (lv_sub hl [] rfl)
      · have hf := g_f hc hf
        refine lv_aload_n hx hb dX11_fault_17 rfl (lv_at hl 0 rfl) ?_
        refine lv_iload_n hx hb dX11_fault_18 rfl (lv_at hl 1 rfl) ?_
        refine lv_aload_n hx hb dX11_fault_19 rfl (lv_at hl 0 rfl) ?_
        refine g_get hx hb hG hown hK hw inlX11 (ci := 9) rfl 0 14 (Nat.le_of_ble_eq_true rfl) rfl rfl wd_6_4 dX11_fault_20 ?_
        refine lv_iload_n hx hb dX11_fault_23 rfl (lv_at hl 2 rfl) ?_
        obtain ⟨hi1, hf⟩ := gA_s hf
        refine g_iald hx hb hK hw 1 rfl hi1 dX11_fault_24 ?_
        obtain ⟨⟨r2_0, r2_1, r2_2, r2_3, r2_4⟩, hc3, hf⟩ := gB_s hf
        refine g_ki (is := [0, 2, 3, 4]) (isR := [1]) (nW := 5) (w1 := (wX11_readOn E o_t a_t v_t_there v_t_wind v_t_force v_t_rains v_t_lost v_t_hours v_t_sights v_t_padMany r2_1 v_t_blownMany v_t_badAct v_t_badWhy v_t_ruinAct v_t_ruinWho v_t_keptAt v_t_isWriting r2_2 r2_3 r2_4)) (ws' := (wX11_fault E o_t a_t v_t_there v_t_wind v_t_force v_t_rains v_t_lost v_t_hours v_t_sights v_t_padMany r2_1 v_t_blownMany v_t_badAct v_t_badWhy v_t_ruinAct v_t_ruinWho v_t_keptAt v_t_isWriting f_t_pad r2_2 r2_3 r2_4)) hw hA (g_rV hx hb hml hG hown hK hw (is := [0, 2, 3, 4]) rfl (by decide) (mX11_readOn l E o_t a_t v_t_there v_t_wind v_t_force v_t_rains v_t_lost v_t_hours v_t_sights v_t_padMany v_t_acts v_t_blownMany v_t_badAct v_t_badWhy v_t_ruinAct v_t_ruinWho v_t_keptAt v_t_isWriting f_t_act f_t_who f_t_much x1 (f_t_pad (Int32.toNatClampNeg x2)) r2_0 r2_1 r2_2 r2_3 r2_4 hc3) wd_14_4 wd_14_5 wd_14_6 wd_1_5 wd_14_7 hX11_readOn g_allgood ⟨rfl, rfl⟩ ⟨Nat.le_of_ble_eq_true rfl, Nat.le_of_ble_eq_true rfl⟩ ⟨Nat.zero_le _, Nat.zero_le _⟩ (ci := 9) (q0 := 0) rfl rfl rfl rfl hl.1 rfl (Nat.le_of_ble_eq_true rfl) dX11_fault_25) rfl (g_had [o_t, (a_t 16), (a_t 17), (a_t 18)] rfl rfl) rfl (⟨⟨_, rfl, rfl⟩, trivial⟩) rfl rfl (by decide) (fun H locs hw => ?_)
        refine lv_istore_n (lv' := [(1, .int r2_0), (0, .ref o_t), (2, .int x2)]) hx hb dX11_fault_28 rfl hl (Nat.le_of_ble_eq_true rfl) rfl (fun ls hl => ?_)
        refine lv_iload_n hx hb dX11_fault_29 rfl (lv_at hl 0 rfl) ?_
        refine lv_if_ge (tgt := 35) hx hb dX11_fault_30 (by decide) (fun hc => ?_) (fun hc => ?_)
        · have hf := g_t hc hf
          refine lv_iinc (lv' := [(2, .int (x2 + 1)), (1, .int r2_0), (0, .ref o_t)]) hx hb dX11_fault_35 hl (k := 2) rfl (k_inc1 _) (Nat.le_of_ble_eq_true rfl) rfl (fun ls hl => ?_)
          refine lv_goto (tgt := 9) hx hb dX11_fault_38 (by decide) ?_
          exact ih r2_1 r2_2 r2_3 r2_4 r2_0 (x2 + 1) _ _ _ hf hw (lv_sub hl [2, 1, 0] rfl)
        · have hf := g_f hc hf
          refine lv_iload_n hx hb dX11_fault_33 rfl (lv_at hl 2 rfl) ?_
          exact hret1 (x2, r2_1, r2_2, r2_3, r2_4) _ _ _ _ hf hw dX11_fault_34
  refine lv_aload_n hx hb dX11_fault_0 rfl (lv_at hl 0 rfl) ?_
  refine lv_iconst (v := 0) hx hb dX11_fault_1 k_i0 ?_
  refine g_put (ws' := (wX11_fault E o_t a_t v_t_there v_t_wind v_t_force v_t_rains v_t_lost v_t_hours v_t_sights v_t_padMany 0 v_t_blownMany v_t_badAct v_t_badWhy v_t_ruinAct v_t_ruinWho v_t_keptAt v_t_isWriting f_t_pad f_t_act f_t_who f_t_much)) hx hb hG hown hK hw inlX11 tyX11_ok nmX11 (ci := 9) rfl 0 19 (Nat.le_of_ble_eq_true rfl) rfl wd_14_3 rfl rfl rfl (Nat.le_of_ble_eq_true rfl) rfl dX11_fault_2 (fun H locs hw => ?_)
  refine lv_iconst (v := 0) hx hb dX11_fault_5 k_i0 ?_
  refine lv_istore_n (lv' := [(1, .int 0), (0, .ref o_t)]) hx hb dX11_fault_6 rfl hl (Nat.le_of_ble_eq_true rfl) rfl (fun ls hl => ?_)
  refine lv_iconst (v := 0) hx hb dX11_fault_7 k_i0 ?_
  refine lv_istore_n (lv' := [(2, .int 0), (1, .int 0), (0, .ref o_t)]) hx hb dX11_fault_8 rfl hl (Nat.le_of_ble_eq_true rfl) rfl (fun ls hl => ?_)
  exact B9 1000 0 f_t_act f_t_who f_t_much 0 0 _ _ _ hf hw (lv_sub hl [2, 1, 0] rfl)
theorem hX11_whyNotPuff : yX11_whyNotPuff.cls = RX11 ∧ yX11_whyNotPuff.cls ≠ "java/lang/invoke/MethodHandle" ∧ yX11_whyNotPuff.cls ≠ "java/lang/invoke/VarHandle" ∧ (parseMethodDescriptor yX11_whyNotPuff.desc).map (fun d => d.parameters.length) = some 2 := by decide +kernel
set_option maxHeartbeats 4000000 in
set_option maxRecDepth 100000 in
theorem mX11_whyNotPuff (l : Launch) (E : gE) (o_t : Nat) (a_t : (Nat → Nat)) (v_t_there : Int32) (v_t_wind : Int32) (v_t_force : Int32) (v_t_rains : Int32) (v_t_lost : Int32) (v_t_hours : Int32) (v_t_sights : Int32) (v_t_padMany : Int32) (v_t_acts : Int32) (v_t_blownMany : Int32) (v_t_badAct : Int32) (v_t_badWhy : Int32) (v_t_ruinAct : Int32) (v_t_ruinWho : Int32) (v_t_keptAt : Int32) (v_t_isWriting : Int32) (f_t_stem : (Nat → Int32)) (f_t_lungs : (Nat → Int32)) (f_t_blown : (Nat → Int32)) (x1 : Int32) (x2 : Int32) (rv : Int32) (hf : fX11_whyNotPuff v_t_rains f_t_stem f_t_lungs f_t_blown x1 x2 = some rv) {sz : Nat} : gMi l yX11_whyNotPuff (gW yX11_whyNotPuff cX11_whyNotPuff 3 (some .int)) ({ frames := 0, cells := 0, slots := 0, locals := 0 } : Room) E [.ref o_t, .int x1, .int x2] (wX11_whyNotPuff E o_t a_t v_t_there v_t_wind v_t_force v_t_rains v_t_lost v_t_hours v_t_sights v_t_padMany v_t_acts v_t_blownMany v_t_badAct v_t_badWhy v_t_ruinAct v_t_ruinWho v_t_keptAt v_t_isWriting f_t_stem f_t_lungs f_t_blown) sz rv (wX11_whyNotPuff E o_t a_t v_t_there v_t_wind v_t_force v_t_rains v_t_lost v_t_hours v_t_sights v_t_padMany v_t_acts v_t_blownMany v_t_badAct v_t_badWhy v_t_ruinAct v_t_ruinWho v_t_keptAt v_t_isWriting f_t_stem f_t_lungs f_t_blown) := by
  refine g_openI (own := RX11) (by decide) rfl (Nat.le_of_ble_eq_true rfl) (fun p e s m args below meth cd Q A hx hb hml hown hG hK hA hret hw ls hl => ?_)
  have hl : lv_has ls 3 [(0, .ref o_t), (1, .int x1), (2, .int x2)] := hl
  have hret1 : ∀ (t : Int32) (H : Heap) (locs : List Loc) (pc : Nat) (ls : Array Slot), some t = some rv → gS E A s.heap (wX11_whyNotPuff E o_t a_t v_t_there v_t_wind v_t_force v_t_rains v_t_lost v_t_hours v_t_sights v_t_padMany v_t_acts v_t_blownMany v_t_badAct v_t_badWhy v_t_ruinAct v_t_ruinWho v_t_keptAt v_t_isWriting f_t_stem f_t_lungs f_t_blown) H locs → decode cX11_whyNotPuff pc = .ok (.ireturn, 1) → W p l e ({ frames := 0, cells := 0, slots := 0, locals := 0 } : Room) s m args below meth cd H locs 0 0 Q (F0 m pc ls [.int t]) := by
    intro t H locs pc ls h hw hd
    obtain rfl : t = rv := Option.some.inj h
    exact hret H locs pc ls hw hd
  have B46 : ∀ (s0 : Int32) (H : Heap) (locs : List Loc) (ls : Array Slot), fX11_whyNotPuff_b46 s0 = some rv → gS E A s.heap (wX11_whyNotPuff E o_t a_t v_t_there v_t_wind v_t_force v_t_rains v_t_lost v_t_hours v_t_sights v_t_padMany v_t_acts v_t_blownMany v_t_badAct v_t_badWhy v_t_ruinAct v_t_ruinWho v_t_keptAt v_t_isWriting f_t_stem f_t_lungs f_t_blown) H locs → lv_has ls 3 [] → W p l e ({ frames := 0, cells := 0, slots := 0, locals := 0 } : Room) s m args below meth cd H locs 0 0 Q (F0 m 46 ls [.int s0]) := by
    intro  s0 H locs ls hf hw hl
    exact hret1 s0 _ _ _ _ hf hw dX11_whyNotPuff_46
  refine lv_aload_n hx hb dX11_whyNotPuff_0 rfl (lv_at hl 0 rfl) ?_
  refine g_get hx hb hG hown hK hw inlX11 (ci := 9) rfl 0 8 (Nat.le_of_ble_eq_true rfl) rfl rfl wd_11_18 dX11_whyNotPuff_1 ?_
  refine lv_iconst (v := 1) hx hb dX11_whyNotPuff_4 k_i1 ?_
  refine lv_icmp_ne (tgt := 10) hx hb dX11_whyNotPuff_5 (by decide) (fun hc => ?_) (fun hc => ?_)
  · have hf := g_f hc hf
    refine lv_aload_n hx hb dX11_whyNotPuff_10 rfl (lv_at hl 0 rfl) ?_
    refine g_get hx hb hG hown hK hw inlX11 (ci := 9) rfl 0 2 (Nat.le_of_ble_eq_true rfl) rfl rfl wd_5_22 dX11_whyNotPuff_11 ?_
    refine lv_iload_n hx hb dX11_whyNotPuff_14 rfl (lv_at hl 1 rfl) ?_
    obtain ⟨hi1, hf⟩ := gA_s hf
    refine g_iald hx hb hK hw 1 rfl hi1 dX11_whyNotPuff_15 ?_
    refine lv_iload_n hx hb dX11_whyNotPuff_16 rfl (lv_at hl 2 rfl) ?_
    refine lv_icmp_ge (tgt := 24) hx hb dX11_whyNotPuff_17 (by decide) (fun hc => ?_) (fun hc => ?_)
    · have hf := g_t hc hf
      refine lv_aload_n hx hb dX11_whyNotPuff_24 rfl (lv_at hl 0 rfl) ?_
      refine g_get hx hb hG hown hK hw inlX11 (ci := 9) rfl 0 4 (Nat.le_of_ble_eq_true rfl) rfl rfl wd_6_0 dX11_whyNotPuff_25 ?_
      refine lv_iload_n hx hb dX11_whyNotPuff_28 rfl (lv_at hl 1 rfl) ?_
      obtain ⟨hi2, hf⟩ := gA_s hf
      refine g_iald hx hb hK hw 3 rfl hi2 dX11_whyNotPuff_29 ?_
      refine lv_iload_n hx hb dX11_whyNotPuff_30 rfl (lv_at hl 2 rfl) ?_
      refine lv_iadd hx hb dX11_whyNotPuff_31 ?_
      refine lv_aload_n hx hb dX11_whyNotPuff_32 rfl (lv_at hl 0 rfl) ?_
      refine g_get hx hb hG hown hK hw inlX11 (ci := 9) rfl 0 3 (Nat.le_of_ble_eq_true rfl) rfl rfl wd_5_23 dX11_whyNotPuff_33 ?_
      refine lv_iload_n hx hb dX11_whyNotPuff_36 rfl (lv_at hl 1 rfl) ?_
      obtain ⟨hi3, hf⟩ := gA_s hf
      refine g_iald hx hb hK hw 2 rfl hi3 dX11_whyNotPuff_37 ?_
      refine lv_icmp_le (tgt := 45) hx hb dX11_whyNotPuff_38 (by decide) (fun hc => ?_) (fun hc => ?_)
      · have hf := g_t hc hf
        refine lv_iconst (v := 0) hx hb dX11_whyNotPuff_45 k_i0 ?_
        exact B46 0 _ _ _ hf hw (lv_sub hl [] rfl)
      · have hf := g_f hc hf
        refine lv_iconst (v := 4) hx hb dX11_whyNotPuff_41 k_i4 ?_
        refine lv_goto (tgt := 46) hx hb dX11_whyNotPuff_42 (by decide) ?_
        exact B46 4 _ _ _ hf hw (lv_sub hl [] rfl)
    · have hf := g_f hc hf
      refine lv_iconst (v := 3) hx hb dX11_whyNotPuff_20 k_i3 ?_
      refine lv_goto (tgt := 46) hx hb dX11_whyNotPuff_21 (by decide) ?_
      exact B46 3 _ _ _ hf hw (lv_sub hl [] rfl)
  · have hf := g_t hc hf
    refine lv_iconst (v := 2) hx hb dX11_whyNotPuff_8 k_i2 ?_
    exact hret1 2 _ _ _ _ hf hw dX11_whyNotPuff_9
theorem hX11_whyNot : yX11_whyNot.cls = RX11 ∧ yX11_whyNot.cls ≠ "java/lang/invoke/MethodHandle" ∧ yX11_whyNot.cls ≠ "java/lang/invoke/VarHandle" ∧ (parseMethodDescriptor yX11_whyNot.desc).map (fun d => d.parameters.length) = some 3 := by decide +kernel
set_option maxHeartbeats 4000000 in
set_option maxRecDepth 100000 in
theorem mX11_whyNot (l : Launch) (E : gE) (o_t : Nat) (a_t : (Nat → Nat)) (v_t_there : Int32) (v_t_wind : Int32) (v_t_force : Int32) (v_t_rains : Int32) (v_t_lost : Int32) (v_t_hours : Int32) (v_t_sights : Int32) (v_t_padMany : Int32) (v_t_acts : Int32) (v_t_blownMany : Int32) (v_t_badAct : Int32) (v_t_badWhy : Int32) (v_t_ruinAct : Int32) (v_t_ruinWho : Int32) (v_t_keptAt : Int32) (v_t_isWriting : Int32) (f_t_at : (Nat → Int32)) (f_t_stem : (Nat → Int32)) (f_t_lungs : (Nat → Int32)) (f_t_blown : (Nat → Int32)) (f_t_heap : (Nat → Int32)) (x1 : Int32) (x2 : Int32) (x3 : Int32) (rv : Int32) (hf : fX11_whyNot v_t_there v_t_rains v_t_hours f_t_at f_t_stem f_t_lungs f_t_blown f_t_heap x1 x2 x3 = some rv) {sz : Nat} : gMi l yX11_whyNot (gW yX11_whyNot cX11_whyNot 4 (some .int)) ({ frames := 2, cells := 0, slots := 0, locals := 46 } : Room) E [.ref o_t, .int x1, .int x2, .int x3] (wX11_whyNot E o_t a_t v_t_there v_t_wind v_t_force v_t_rains v_t_lost v_t_hours v_t_sights v_t_padMany v_t_acts v_t_blownMany v_t_badAct v_t_badWhy v_t_ruinAct v_t_ruinWho v_t_keptAt v_t_isWriting f_t_at f_t_stem f_t_lungs f_t_blown f_t_heap) sz rv (wX11_whyNot E o_t a_t v_t_there v_t_wind v_t_force v_t_rains v_t_lost v_t_hours v_t_sights v_t_padMany v_t_acts v_t_blownMany v_t_badAct v_t_badWhy v_t_ruinAct v_t_ruinWho v_t_keptAt v_t_isWriting f_t_at f_t_stem f_t_lungs f_t_blown f_t_heap) := by
  refine g_openI (own := RX11) (by decide) rfl (Nat.le_of_ble_eq_true rfl) (fun p e s m args below meth cd Q A hx hb hml hown hG hK hA hret hw ls hl => ?_)
  have hl : lv_has ls 4 [(0, .ref o_t), (1, .int x1), (2, .int x2), (3, .int x3)] := hl
  have hret1 : ∀ (t : Int32) (H : Heap) (locs : List Loc) (pc : Nat) (ls : Array Slot), some t = some rv → gS E A s.heap (wX11_whyNot E o_t a_t v_t_there v_t_wind v_t_force v_t_rains v_t_lost v_t_hours v_t_sights v_t_padMany v_t_acts v_t_blownMany v_t_badAct v_t_badWhy v_t_ruinAct v_t_ruinWho v_t_keptAt v_t_isWriting f_t_at f_t_stem f_t_lungs f_t_blown f_t_heap) H locs → decode cX11_whyNot pc = .ok (.ireturn, 1) → W p l e ({ frames := 2, cells := 0, slots := 0, locals := 46 } : Room) s m args below meth cd H locs 0 0 Q (F0 m pc ls [.int t]) := by
    intro t H locs pc ls h hw hd
    obtain rfl : t = rv := Option.some.inj h
    exact hret H locs pc ls hw hd
  have B20 : ∀ (s0 : Int32) (H : Heap) (locs : List Loc) (ls : Array Slot), fX11_whyNot_b20 s0 = some rv → gS E A s.heap (wX11_whyNot E o_t a_t v_t_there v_t_wind v_t_force v_t_rains v_t_lost v_t_hours v_t_sights v_t_padMany v_t_acts v_t_blownMany v_t_badAct v_t_badWhy v_t_ruinAct v_t_ruinWho v_t_keptAt v_t_isWriting f_t_at f_t_stem f_t_lungs f_t_blown f_t_heap) H locs → lv_has ls 4 [] → W p l e ({ frames := 2, cells := 0, slots := 0, locals := 46 } : Room) s m args below meth cd H locs 0 0 Q (F0 m 20 ls [.int s0]) := by
    intro  s0 H locs ls hf hw hl
    exact hret1 s0 _ _ _ _ hf hw dX11_whyNot_20
  have B117 : ∀ (s0 : Int32) (H : Heap) (locs : List Loc) (ls : Array Slot), fX11_whyNot_b117 s0 = some rv → gS E A s.heap (wX11_whyNot E o_t a_t v_t_there v_t_wind v_t_force v_t_rains v_t_lost v_t_hours v_t_sights v_t_padMany v_t_acts v_t_blownMany v_t_badAct v_t_badWhy v_t_ruinAct v_t_ruinWho v_t_keptAt v_t_isWriting f_t_at f_t_stem f_t_lungs f_t_blown f_t_heap) H locs → lv_has ls 4 [] → W p l e ({ frames := 2, cells := 0, slots := 0, locals := 46 } : Room) s m args below meth cd H locs 0 0 Q (F0 m 117 ls [.int s0]) := by
    intro  s0 H locs ls hf hw hl
    exact hret1 s0 _ _ _ _ hf hw dX11_whyNot_117
  have B97 : ∀ (s0 : Int32) (H : Heap) (locs : List Loc) (ls : Array Slot), fX11_whyNot_b97 s0 = some rv → gS E A s.heap (wX11_whyNot E o_t a_t v_t_there v_t_wind v_t_force v_t_rains v_t_lost v_t_hours v_t_sights v_t_padMany v_t_acts v_t_blownMany v_t_badAct v_t_badWhy v_t_ruinAct v_t_ruinWho v_t_keptAt v_t_isWriting f_t_at f_t_stem f_t_lungs f_t_blown f_t_heap) H locs → lv_has ls 4 [] → W p l e ({ frames := 2, cells := 0, slots := 0, locals := 46 } : Room) s m args below meth cd H locs 0 0 Q (F0 m 97 ls [.int s0]) := by
    intro  s0 H locs ls hf hw hl
    exact hret1 s0 _ _ _ _ hf hw dX11_whyNot_97
  refine lv_iload_n hx hb dX11_whyNot_0 rfl (lv_at hl 1 rfl) ?_
  refine lv_bipush (v := 6) hx hb dX11_whyNot_1 k_b6 ?_
  refine lv_icmp_ne (tgt := 21) hx hb dX11_whyNot_3 (by decide) (fun hc => ?_) (fun hc => ?_)
  · have hf := g_f hc hf
    refine lv_iload_n hx hb dX11_whyNot_21 rfl (lv_at hl 1 rfl) ?_
    refine lv_iconst (v := 2) hx hb dX11_whyNot_22 k_i2 ?_
    refine lv_icmp_le (tgt := 28) hx hb dX11_whyNot_23 (by decide) (fun hc => ?_) (fun hc => ?_)
    · have hf := g_t hc hf
      refine lv_aload_n hx hb dX11_whyNot_28 rfl (lv_at hl 0 rfl) ?_
      refine lv_iload_n hx hb dX11_whyNot_29 rfl (lv_at hl 2 rfl) ?_
      obtain ⟨r1, hc2, hf⟩ := gB_s hf
      refine g_ki0 (is := [0]) hw hA (g_rV hx hb hml hG hown hK hw (is := [0]) rfl (by decide) (mX11_isFamily l E o_t a_t v_t_there v_t_wind v_t_force v_t_rains v_t_lost v_t_hours v_t_sights v_t_padMany v_t_acts v_t_blownMany v_t_badAct v_t_badWhy v_t_ruinAct v_t_ruinWho v_t_keptAt v_t_isWriting x2 r1 hc2) wd_8_21 wd_8_22 wd_8_23 wd_1_5 wd_9_0 hX11_isFamily g_allgood ⟨rfl, rfl⟩ ⟨Nat.le_of_ble_eq_true rfl, Nat.le_of_ble_eq_true rfl⟩ ⟨Nat.zero_le _, Nat.zero_le _⟩ (ci := 9) (q0 := 0) rfl rfl rfl rfl hl.1 rfl (Nat.le_of_ble_eq_true rfl) dX11_whyNot_30) rfl (fun H locs hw => ?_)
      refine lv_if_ne (tgt := 38) hx hb dX11_whyNot_33 (by decide) (fun hc => ?_) (fun hc => ?_)
      · have hf := g_f hc hf
        refine lv_iload_n hx hb dX11_whyNot_38 rfl (lv_at hl 1 rfl) ?_
        by_cases hs3 : x1 = 0
        · have hf := g_t hs3 hf
          refine lv_lookup (off := 25) (tgt := 64) hx hb dX11_whyNot_39 (by decide) (by rw [hs3] <;> rfl) (by decide) ?_
          refine lv_aload_n hx hb dX11_whyNot_64 rfl (lv_at hl 0 rfl) ?_
          refine lv_iload_n hx hb dX11_whyNot_65 rfl (lv_at hl 2 rfl) ?_
          refine lv_iload_n hx hb dX11_whyNot_66 rfl (lv_at hl 3 rfl) ?_
          obtain ⟨r4, hc5, hf⟩ := gB_s hf
          refine g_ki0 (is := [0, 2, 3, 4]) hw hA (g_rV hx hb hml hG hown hK hw (is := [0, 2, 3, 4]) rfl (by decide) (mX11_whyNotPuff l E o_t a_t v_t_there v_t_wind v_t_force v_t_rains v_t_lost v_t_hours v_t_sights v_t_padMany v_t_acts v_t_blownMany v_t_badAct v_t_badWhy v_t_ruinAct v_t_ruinWho v_t_keptAt v_t_isWriting f_t_stem f_t_lungs f_t_blown x2 x3 r4 hc5) wd_20_0 wd_20_1 wd_20_2 wd_1_5 wd_20_3 hX11_whyNotPuff g_allgood ⟨rfl, rfl⟩ ⟨Nat.le_of_ble_eq_true rfl, Nat.le_of_ble_eq_true rfl⟩ ⟨Nat.zero_le _, Nat.zero_le _⟩ (ci := 9) (q0 := 0) rfl rfl rfl rfl hl.1 rfl (Nat.le_of_ble_eq_true rfl) dX11_whyNot_67) rfl (fun H locs hw => ?_)
          exact hret1 r4 _ _ _ _ hf hw dX11_whyNot_70
        have hf := g_f hs3 hf
        by_cases hs6 : x1 = 1
        · have hf := g_t hs6 hf
          refine lv_lookup (off := 32) (tgt := 71) hx hb dX11_whyNot_39 (by decide) (by rw [hs6] <;> rfl) (by decide) ?_
          refine lv_aload_n hx hb dX11_whyNot_71 rfl (lv_at hl 0 rfl) ?_
          refine g_get hx hb hG hown hK hw inlX11 (ci := 9) rfl 0 8 (Nat.le_of_ble_eq_true rfl) rfl rfl wd_11_18 dX11_whyNot_72 ?_
          refine lv_iconst (v := 1) hx hb dX11_whyNot_75 k_i1 ?_
          refine lv_icmp_ne (tgt := 83) hx hb dX11_whyNot_76 (by decide) (fun hc => ?_) (fun hc => ?_)
          · have hf := g_f hc hf
            refine lv_aload_n hx hb dX11_whyNot_83 rfl (lv_at hl 0 rfl) ?_
            refine g_get hx hb hG hown hK hw inlX11 (ci := 9) rfl 0 2 (Nat.le_of_ble_eq_true rfl) rfl rfl wd_5_22 dX11_whyNot_84 ?_
            refine lv_iload_n hx hb dX11_whyNot_87 rfl (lv_at hl 2 rfl) ?_
            obtain ⟨hi7, hf⟩ := gA_s hf
            refine g_iald hx hb hK hw 2 rfl hi7 dX11_whyNot_88 ?_
            refine lv_if_ne (tgt := 96) hx hb dX11_whyNot_89 (by decide) (fun hc => ?_) (fun hc => ?_)
            · have hf := g_f hc hf
              refine lv_iconst (v := 0) hx hb dX11_whyNot_96 k_i0 ?_
              exact B97 0 _ _ _ hf hw (lv_sub hl [] rfl)
            · have hf := g_t hc hf
              refine lv_iconst (v := 3) hx hb dX11_whyNot_92 k_i3 ?_
              refine lv_goto (tgt := 97) hx hb dX11_whyNot_93 (by decide) ?_
              exact B97 3 _ _ _ hf hw (lv_sub hl [] rfl)
          · have hf := g_t hc hf
            refine lv_iconst (v := 2) hx hb dX11_whyNot_79 k_i2 ?_
            refine lv_goto (tgt := 97) hx hb dX11_whyNot_80 (by decide) ?_
            exact B97 2 _ _ _ hf hw (lv_sub hl [] rfl)
        have hf := g_f hs6 hf
        refine lv_lookup (off := 59) (tgt := 98) hx hb dX11_whyNot_39 (by decide) ((lv_osw hs3 (by decide)).trans ((lv_osw hs6 (by decide)).trans rfl)) (by decide) ?_
        refine lv_aload_n hx hb dX11_whyNot_98 rfl (lv_at hl 0 rfl) ?_
        refine g_get hx hb hG hown hK hw inlX11 (ci := 9) rfl 0 5 (Nat.le_of_ble_eq_true rfl) rfl rfl wd_6_1 dX11_whyNot_99 ?_
        refine lv_aload_n hx hb dX11_whyNot_102 rfl (lv_at hl 0 rfl) ?_
        refine g_get hx hb hG hown hK hw inlX11 (ci := 9) rfl 0 1 (Nat.le_of_ble_eq_true rfl) rfl rfl wd_5_21 dX11_whyNot_103 ?_
        refine lv_iload_n hx hb dX11_whyNot_106 rfl (lv_at hl 2 rfl) ?_
        obtain ⟨hi8, hf⟩ := gA_s hf
        refine g_iald hx hb hK hw 1 rfl hi8 dX11_whyNot_107 ?_
        obtain ⟨hi9, hf⟩ := gA_s hf
        refine g_iald hx hb hK hw 5 rfl hi9 dX11_whyNot_108 ?_
        refine lv_if_ne (tgt := 116) hx hb dX11_whyNot_109 (by decide) (fun hc => ?_) (fun hc => ?_)
        · have hf := g_f hc hf
          refine lv_iconst (v := 0) hx hb dX11_whyNot_116 k_i0 ?_
          exact B117 0 _ _ _ hf hw (lv_sub hl [] rfl)
        · have hf := g_t hc hf
          refine lv_iconst (v := 3) hx hb dX11_whyNot_112 k_i3 ?_
          refine lv_goto (tgt := 117) hx hb dX11_whyNot_113 (by decide) ?_
          exact B117 3 _ _ _ hf hw (lv_sub hl [] rfl)
      · have hf := g_t hc hf
        refine lv_iconst (v := 1) hx hb dX11_whyNot_36 k_i1 ?_
        exact hret1 1 _ _ _ _ hf hw dX11_whyNot_37
    · have hf := g_f hc hf
      refine lv_iconst (v := 0) hx hb dX11_whyNot_26 k_i0 ?_
      exact hret1 0 _ _ _ _ hf hw dX11_whyNot_27
  · have hf := g_t hc hf
    refine lv_aload_n hx hb dX11_whyNot_6 rfl (lv_at hl 0 rfl) ?_
    refine g_get hx hb hG hown hK hw inlX11 (ci := 9) rfl 0 10 (Nat.le_of_ble_eq_true rfl) rfl rfl wd_19_12 dX11_whyNot_7 ?_
    refine lv_bipush (v := 99) hx hb dX11_whyNot_10 k_b99 ?_
    refine lv_icmp_ne (tgt := 19) hx hb dX11_whyNot_12 (by decide) (fun hc => ?_) (fun hc => ?_)
    · have hf := g_f hc hf
      refine lv_iconst (v := 0) hx hb dX11_whyNot_19 k_i0 ?_
      exact B20 0 _ _ _ hf hw (lv_sub hl [] rfl)
    · have hf := g_t hc hf
      refine lv_iconst (v := 5) hx hb dX11_whyNot_15 k_i5 ?_
      refine lv_goto (tgt := 20) hx hb dX11_whyNot_16 (by decide) ?_
      exact B20 5 _ _ _ hf hw (lv_sub hl [] rfl)
theorem hX11_eastBy : yX11_eastBy.cls ≠ "java/lang/invoke/MethodHandle" ∧ yX11_eastBy.cls ≠ "java/lang/invoke/VarHandle" ∧ (parseMethodDescriptor yX11_eastBy.desc).map (fun d => d.parameters.length) = some 1 := by decide +kernel
set_option maxHeartbeats 4000000 in
set_option maxRecDepth 100000 in
theorem mX11_eastBy (l : Launch) (E : gE) (x0 : Int32) (rv : Int32) (hf : fX11_eastBy x0 = some rv) {sz : Nat} : gMi l yX11_eastBy (gW yX11_eastBy cX11_eastBy 1 (some .int)) ({ frames := 0, cells := 0, slots := 0, locals := 0 } : Room) E [.int x0] (wX11_eastBy E) sz rv (wX11_eastBy E) := by
  refine g_openI (own := RX11) (by decide) rfl (Nat.le_of_ble_eq_true rfl) (fun p e s m args below meth cd Q A hx hb hml hown hG hK hA hret hw ls hl => ?_)
  have hl : lv_has ls 1 [(0, .int x0)] := hl
  have hret1 : ∀ (t : Int32) (H : Heap) (locs : List Loc) (pc : Nat) (ls : Array Slot), some t = some rv → gS E A s.heap (wX11_eastBy E) H locs → decode cX11_eastBy pc = .ok (.ireturn, 1) → W p l e ({ frames := 0, cells := 0, slots := 0, locals := 0 } : Room) s m args below meth cd H locs 0 0 Q (F0 m pc ls [.int t]) := by
    intro t H locs pc ls h hw hd
    obtain rfl : t = rv := Option.some.inj h
    exact hret H locs pc ls hw hd
  have B19 : ∀ (s0 : Int32) (H : Heap) (locs : List Loc) (ls : Array Slot), fX11_eastBy_b19 s0 = some rv → gS E A s.heap (wX11_eastBy E) H locs → lv_has ls 1 [] → W p l e ({ frames := 0, cells := 0, slots := 0, locals := 0 } : Room) s m args below meth cd H locs 0 0 Q (F0 m 19 ls [.int s0]) := by
    intro  s0 H locs ls hf hw hl
    exact hret1 s0 _ _ _ _ hf hw dX11_eastBy_19
  refine lv_iload_n hx hb dX11_eastBy_0 rfl (lv_at hl 0 rfl) ?_
  refine lv_iconst (v := 1) hx hb dX11_eastBy_1 k_i1 ?_
  refine lv_icmp_ne (tgt := 9) hx hb dX11_eastBy_2 (by decide) (fun hc => ?_) (fun hc => ?_)
  · have hf := g_f hc hf
    refine lv_iload_n hx hb dX11_eastBy_9 rfl (lv_at hl 0 rfl) ?_
    refine lv_iconst (v := 3) hx hb dX11_eastBy_10 k_i3 ?_
    refine lv_icmp_ne (tgt := 18) hx hb dX11_eastBy_11 (by decide) (fun hc => ?_) (fun hc => ?_)
    · have hf := g_f hc hf
      refine lv_iconst (v := 0) hx hb dX11_eastBy_18 k_i0 ?_
      exact B19 0 _ _ _ hf hw (lv_sub hl [] rfl)
    · have hf := g_t hc hf
      refine lv_iconst (v := -1) hx hb dX11_eastBy_14 k_im1 ?_
      refine lv_goto (tgt := 19) hx hb dX11_eastBy_15 (by decide) ?_
      exact B19 (-1) _ _ _ hf hw (lv_sub hl [] rfl)
  · have hf := g_t hc hf
    refine lv_iconst (v := 1) hx hb dX11_eastBy_5 k_i1 ?_
    refine lv_goto (tgt := 19) hx hb dX11_eastBy_6 (by decide) ?_
    exact B19 1 _ _ _ hf hw (lv_sub hl [] rfl)
theorem hX11_northBy : yX11_northBy.cls ≠ "java/lang/invoke/MethodHandle" ∧ yX11_northBy.cls ≠ "java/lang/invoke/VarHandle" ∧ (parseMethodDescriptor yX11_northBy.desc).map (fun d => d.parameters.length) = some 1 := by decide +kernel
set_option maxHeartbeats 4000000 in
set_option maxRecDepth 100000 in
theorem mX11_northBy (l : Launch) (E : gE) (x0 : Int32) (rv : Int32) (hf : fX11_northBy x0 = some rv) {sz : Nat} : gMi l yX11_northBy (gW yX11_northBy cX11_northBy 1 (some .int)) ({ frames := 0, cells := 0, slots := 0, locals := 0 } : Room) E [.int x0] (wX11_northBy E) sz rv (wX11_northBy E) := by
  refine g_openI (own := RX11) (by decide) rfl (Nat.le_of_ble_eq_true rfl) (fun p e s m args below meth cd Q A hx hb hml hown hG hK hA hret hw ls hl => ?_)
  have hl : lv_has ls 1 [(0, .int x0)] := hl
  have hret1 : ∀ (t : Int32) (H : Heap) (locs : List Loc) (pc : Nat) (ls : Array Slot), some t = some rv → gS E A s.heap (wX11_northBy E) H locs → decode cX11_northBy pc = .ok (.ireturn, 1) → W p l e ({ frames := 0, cells := 0, slots := 0, locals := 0 } : Room) s m args below meth cd H locs 0 0 Q (F0 m pc ls [.int t]) := by
    intro t H locs pc ls h hw hd
    obtain rfl : t = rv := Option.some.inj h
    exact hret H locs pc ls hw hd
  have B18 : ∀ (s0 : Int32) (H : Heap) (locs : List Loc) (ls : Array Slot), fX11_northBy_b18 s0 = some rv → gS E A s.heap (wX11_northBy E) H locs → lv_has ls 1 [] → W p l e ({ frames := 0, cells := 0, slots := 0, locals := 0 } : Room) s m args below meth cd H locs 0 0 Q (F0 m 18 ls [.int s0]) := by
    intro  s0 H locs ls hf hw hl
    exact hret1 s0 _ _ _ _ hf hw dX11_northBy_18
  refine lv_iload_n hx hb dX11_northBy_0 rfl (lv_at hl 0 rfl) ?_
  refine lv_if_ne (tgt := 8) hx hb dX11_northBy_1 (by decide) (fun hc => ?_) (fun hc => ?_)
  · have hf := g_f hc hf
    refine lv_iload_n hx hb dX11_northBy_8 rfl (lv_at hl 0 rfl) ?_
    refine lv_iconst (v := 2) hx hb dX11_northBy_9 k_i2 ?_
    refine lv_icmp_ne (tgt := 17) hx hb dX11_northBy_10 (by decide) (fun hc => ?_) (fun hc => ?_)
    · have hf := g_f hc hf
      refine lv_iconst (v := 0) hx hb dX11_northBy_17 k_i0 ?_
      exact B18 0 _ _ _ hf hw (lv_sub hl [] rfl)
    · have hf := g_t hc hf
      refine lv_iconst (v := -1) hx hb dX11_northBy_13 k_im1 ?_
      refine lv_goto (tgt := 18) hx hb dX11_northBy_14 (by decide) ?_
      exact B18 (-1) _ _ _ hf hw (lv_sub hl [] rfl)
  · have hf := g_t hc hf
    refine lv_iconst (v := 1) hx hb dX11_northBy_4 k_i1 ?_
    refine lv_goto (tgt := 18) hx hb dX11_northBy_5 (by decide) ?_
    exact B18 1 _ _ _ hf hw (lv_sub hl [] rfl)
theorem hX11_onBy : yX11_onBy.cls ≠ "java/lang/invoke/MethodHandle" ∧ yX11_onBy.cls ≠ "java/lang/invoke/VarHandle" ∧ (parseMethodDescriptor yX11_onBy.desc).map (fun d => d.parameters.length) = some 3 := by decide +kernel
set_option maxHeartbeats 4000000 in
set_option maxRecDepth 100000 in
theorem mX11_onBy (l : Launch) (E : gE) (x0 : Int32) (x1 : Int32) (x2 : Int32) (rv : Int32) (hf : fX11_onBy x0 x1 x2 = some rv) {sz : Nat} : gMi l yX11_onBy (gW yX11_onBy cX11_onBy 5 (some .int)) ({ frames := 1, cells := 0, slots := 0, locals := 25 } : Room) E [.int x0, .int x1, .int x2] (wX11_onBy E) sz rv (wX11_onBy E) := by
  refine g_openI (own := RX11) (by decide) rfl (Nat.le_of_ble_eq_true rfl) (fun p e s m args below meth cd Q A hx hb hml hown hG hK hA hret hw ls hl => ?_)
  have hl : lv_has ls 5 [(0, .int x0), (1, .int x1), (2, .int x2)] := hl
  have hret1 : ∀ (t : Int32) (H : Heap) (locs : List Loc) (pc : Nat) (ls : Array Slot), some t = some rv → gS E A s.heap (wX11_onBy E) H locs → decode cX11_onBy pc = .ok (.ireturn, 1) → W p l e ({ frames := 1, cells := 0, slots := 0, locals := 25 } : Room) s m args below meth cd H locs 0 0 Q (F0 m pc ls [.int t]) := by
    intro t H locs pc ls h hw hd
    obtain rfl : t = rv := Option.some.inj h
    exact hret H locs pc ls hw hd
  have B62 : ∀ (s0 : Int32) (H : Heap) (locs : List Loc) (ls : Array Slot), fX11_onBy_b62 s0 = some rv → gS E A s.heap (wX11_onBy E) H locs → lv_has ls 5 [] → W p l e ({ frames := 1, cells := 0, slots := 0, locals := 25 } : Room) s m args below meth cd H locs 0 0 Q (F0 m 62 ls [.int s0]) := by
    intro  s0 H locs ls hf hw hl
    exact hret1 s0 _ _ _ _ hf hw dX11_onBy_62
  have B60 : ∀ (H : Heap) (locs : List Loc) (ls : Array Slot), fX11_onBy_b60 = some rv → gS E A s.heap (wX11_onBy E) H locs → lv_has ls 5 [] → W p l e ({ frames := 1, cells := 0, slots := 0, locals := 25 } : Room) s m args below meth cd H locs 0 0 Q (F0 m 60 ls []) := by
    intro   H locs ls hf hw hl
    refine lv_bipush (v := -6) hx hb dX11_onBy_60 k_bm6 ?_
    exact B62 (-6) _ _ _ hf hw (lv_sub hl [] rfl)
  refine lv_iload_n hx hb dX11_onBy_0 rfl (lv_at hl 0 rfl) ?_
  refine lv_bipush (v := 6) hx hb dX11_onBy_1 k_b6 ?_
  refine g_irem hx hb dX11_onBy_3 (by decide) ?_
  refine lv_iload_n hx hb dX11_onBy_4 rfl (lv_at hl 2 rfl) ?_
  refine lv_iload_n hx hb dX11_onBy_5 rfl (lv_at hl 1 rfl) ?_
  obtain ⟨r1, hc2, hf⟩ := gB_s hf
  refine g_ki0 (is := []) hw hA (g_rS hx hb hml hG hown hK hw (is := []) rfl (by decide) (mX11_eastBy l E x1 r1 hc2) wd_20_23 wd_21_0 wd_1_5 wd_21_1 hX11_eastBy g_allgood ⟨rfl, rfl⟩ ⟨Nat.le_of_ble_eq_true rfl, Nat.le_of_ble_eq_true rfl⟩ ⟨Nat.zero_le _, Nat.zero_le _⟩ rfl hl.1 rfl (Nat.le_of_ble_eq_true rfl) dX11_onBy_6) rfl (fun H locs hw => ?_)
  refine lv_imul hx hb dX11_onBy_9 ?_
  refine lv_iadd hx hb dX11_onBy_10 ?_
  refine lv_istore_n (lv' := [(3, .int ((x0 % 6) + (x2 * r1))), (0, .int x0), (1, .int x1), (2, .int x2)]) hx hb dX11_onBy_11 rfl hl (Nat.le_of_ble_eq_true rfl) rfl (fun ls hl => ?_)
  refine lv_iload_n hx hb dX11_onBy_12 rfl (lv_at hl 1 rfl) ?_
  refine lv_bipush (v := 6) hx hb dX11_onBy_13 k_b6 ?_
  refine lv_idiv hx hb dX11_onBy_15 (by decide) ?_
  refine lv_iload_n hx hb dX11_onBy_16 rfl (lv_at hl 3 rfl) ?_
  refine lv_iload_n hx hb dX11_onBy_17 rfl (lv_at hl 2 rfl) ?_
  obtain ⟨r3, hc4, hf⟩ := gB_s hf
  refine g_ki0 (is := []) hw hA (g_rS hx hb hml hG hown hK hw (is := []) rfl (by decide) (mX11_northBy l E x1 r3 hc4) wd_21_2 wd_21_3 wd_1_5 wd_21_4 hX11_northBy g_allgood ⟨rfl, rfl⟩ ⟨Nat.le_of_ble_eq_true rfl, Nat.le_of_ble_eq_true rfl⟩ ⟨Nat.zero_le _, Nat.zero_le _⟩ rfl hl.1 rfl (Nat.le_of_ble_eq_true rfl) dX11_onBy_18) rfl (fun H locs hw => ?_)
  refine lv_imul hx hb dX11_onBy_21 ?_
  refine lv_iadd hx hb dX11_onBy_22 ?_
  refine lv_istore (lv' := [(4, .int ((x0 / 6) + (x2 * r3))), (3, .int ((x0 % 6) + (x2 * r1))), (0, .int x0), (1, .int x1), (2, .int x2)]) hx hb dX11_onBy_23 hl (Nat.le_of_ble_eq_true rfl) rfl (fun ls hl => ?_)
  refine lv_iload_n hx hb dX11_onBy_25 rfl (lv_at hl 1 rfl) ?_
  refine lv_i2l hx hb dX11_onBy_26 rfl ?_
  refine lv_lconst (v := 0) hx hb dX11_onBy_27 k_l0 ?_
  refine lv_ldc2 hx hb hown (hG _ wd_8_6) dX11_onBy_28 ?_
  obtain ⟨r5, hc6, hf⟩ := gB_s hf
  refine g_ki0 (is := []) hw hA (g_rS hx hb hml hG hown hK hw (is := []) rfl (by decide) (mX11_in l E (Int32.toInt64 ((x0 % 6) + (x2 * r1))) 0 5 r5 hc6) wd_8_10 wd_8_11 wd_1_5 wd_8_12 hX11_in g_allgood ⟨rfl, rfl⟩ ⟨Nat.le_of_ble_eq_true rfl, Nat.le_of_ble_eq_true rfl⟩ ⟨Nat.zero_le _, Nat.zero_le _⟩ rfl hl.1 rfl (Nat.le_of_ble_eq_true rfl) dX11_onBy_31) rfl (fun H locs hw => ?_)
  refine lv_if_eq (tgt := 60) hx hb dX11_onBy_34 (by decide) (fun hc => ?_) (fun hc => ?_)
  · have hf := g_t hc hf
    exact B60 _ _ _ hf hw (lv_sub hl [] rfl)
  · have hf := g_f hc hf
    refine lv_iload hx hb dX11_onBy_37 (lv_at hl 0 rfl) ?_
    refine lv_i2l hx hb dX11_onBy_39 rfl ?_
    refine lv_lconst (v := 0) hx hb dX11_onBy_40 k_l0 ?_
    refine lv_ldc2 hx hb hown (hG _ wd_8_6) dX11_onBy_41 ?_
    obtain ⟨r7, hc8, hf⟩ := gB_s hf
    refine g_ki0 (is := []) hw hA (g_rS hx hb hml hG hown hK hw (is := []) rfl (by decide) (mX11_in l E (Int32.toInt64 ((x0 / 6) + (x2 * r3))) 0 5 r7 hc8) wd_8_10 wd_8_11 wd_1_5 wd_8_12 hX11_in g_allgood ⟨rfl, rfl⟩ ⟨Nat.le_of_ble_eq_true rfl, Nat.le_of_ble_eq_true rfl⟩ ⟨Nat.zero_le _, Nat.zero_le _⟩ rfl hl.1 rfl (Nat.le_of_ble_eq_true rfl) dX11_onBy_44) rfl (fun H locs hw => ?_)
    refine lv_if_eq (tgt := 60) hx hb dX11_onBy_47 (by decide) (fun hc => ?_) (fun hc => ?_)
    · have hf := g_t hc hf
      exact B60 _ _ _ hf hw (lv_sub hl [] rfl)
    · have hf := g_f hc hf
      refine lv_bipush (v := 6) hx hb dX11_onBy_50 k_b6 ?_
      refine lv_iload hx hb dX11_onBy_52 (lv_at hl 0 rfl) ?_
      refine lv_imul hx hb dX11_onBy_54 ?_
      refine lv_iload_n hx hb dX11_onBy_55 rfl (lv_at hl 1 rfl) ?_
      refine lv_iadd hx hb dX11_onBy_56 ?_
      refine lv_goto (tgt := 62) hx hb dX11_onBy_57 (by decide) ?_
      exact B62 ((6 * ((x0 / 6) + (x2 * r3))) + ((x0 % 6) + (x2 * r1))) _ _ _ hf hw (lv_sub hl [] rfl)
theorem hX11_come : yX11_come.cls = RX11 ∧ yX11_come.cls ≠ "java/lang/invoke/MethodHandle" ∧ yX11_come.cls ≠ "java/lang/invoke/VarHandle" ∧ (parseMethodDescriptor yX11_come.desc).map (fun d => d.parameters.length) = some 2 := by decide +kernel
set_option maxHeartbeats 4000000 in
set_option maxRecDepth 100000 in
theorem mX11_come (l : Launch) (E : gE) (o_t : Nat) (a_t : (Nat → Nat)) (v_t_there : Int32) (v_t_wind : Int32) (v_t_force : Int32) (v_t_rains : Int32) (v_t_lost : Int32) (v_t_hours : Int32) (v_t_sights : Int32) (v_t_padMany : Int32) (v_t_acts : Int32) (v_t_blownMany : Int32) (v_t_badAct : Int32) (v_t_badWhy : Int32) (v_t_ruinAct : Int32) (v_t_ruinWho : Int32) (v_t_keptAt : Int32) (v_t_isWriting : Int32) (f_t_at : (Nat → Int32)) (f_t_stem : (Nat → Int32)) (f_t_heap : (Nat → Int32)) (x1 : Int32) (x2 : Int32) (z_t_lost : Int32) (z_t_stem : (Nat → Int32)) (z_t_heap : (Nat → Int32)) (hf : fX11_come v_t_there v_t_lost f_t_at f_t_stem f_t_heap x1 x2 = some (z_t_lost, z_t_stem, z_t_heap)) {sz : Nat} : gMv l yX11_come (gW yX11_come cX11_come 5 none) ({ frames := 3, cells := 0, slots := 0, locals := 69 } : Room) E [.ref o_t, .int x1, .int x2] (wX11_come E o_t a_t v_t_there v_t_wind v_t_force v_t_rains v_t_lost v_t_hours v_t_sights v_t_padMany v_t_acts v_t_blownMany v_t_badAct v_t_badWhy v_t_ruinAct v_t_ruinWho v_t_keptAt v_t_isWriting f_t_at f_t_stem f_t_heap) sz (wX11_come E o_t a_t v_t_there v_t_wind v_t_force v_t_rains z_t_lost v_t_hours v_t_sights v_t_padMany v_t_acts v_t_blownMany v_t_badAct v_t_badWhy v_t_ruinAct v_t_ruinWho v_t_keptAt v_t_isWriting f_t_at z_t_stem z_t_heap) := by
  refine g_openV (own := RX11) (by decide) rfl (Nat.le_of_ble_eq_true rfl) (fun p e s m args below meth cd Q A hx hb hml hown hG hK hA hret hw ls hl => ?_)
  have hl : lv_has ls 5 [(0, .ref o_t), (1, .int x1), (2, .int x2)] := hl
  have hret1 : ∀ (t : Int32 × (Nat → Int32) × (Nat → Int32)) (H : Heap) (locs : List Loc) (pc : Nat) (ls : Array Slot), some t = some (z_t_lost, z_t_stem, z_t_heap) → gS E A s.heap (wX11_come E o_t a_t v_t_there v_t_wind v_t_force v_t_rains t.1 v_t_hours v_t_sights v_t_padMany v_t_acts v_t_blownMany v_t_badAct v_t_badWhy v_t_ruinAct v_t_ruinWho v_t_keptAt v_t_isWriting f_t_at t.2.1 t.2.2) H locs → decode cX11_come pc = .ok (.return_, 1) → W p l e ({ frames := 3, cells := 0, slots := 0, locals := 69 } : Room) s m args below meth cd H locs 0 0 Q (F0 m pc ls []) := by
    intro t H locs pc ls h hw hd
    obtain rfl : t = (z_t_lost, z_t_stem, z_t_heap) := Option.some.inj h
    exact hret H locs pc ls hw hd
  have B65 : ∀ (v_t_lost : Int32) (f_t_stem : (Nat → Int32)) (f_t_heap : (Nat → Int32)) (s1 : Int32) (s2 : Int32) (H : Heap) (locs : List Loc) (ls : Array Slot), fX11_come_b65 v_t_lost f_t_stem f_t_heap s1 s2 = some (z_t_lost, z_t_stem, z_t_heap) → gS E A s.heap (wX11_come E o_t a_t v_t_there v_t_wind v_t_force v_t_rains v_t_lost v_t_hours v_t_sights v_t_padMany v_t_acts v_t_blownMany v_t_badAct v_t_badWhy v_t_ruinAct v_t_ruinWho v_t_keptAt v_t_isWriting f_t_at f_t_stem f_t_heap) H locs → lv_has ls 5 [] → W p l e ({ frames := 3, cells := 0, slots := 0, locals := 69 } : Room) s m args below meth cd H locs 0 0 Q (F0 m 65 ls [.int s2, .int s1, .ref o_t]) := by
    intro  v_t_lost f_t_stem f_t_heap s1 s2 H locs ls hf hw hl
    obtain ⟨⟨r1_0, r1_1⟩, hc2, hf⟩ := gB_s hf
    refine g_kv (is := [0, 3]) (isR := [1, 2]) (nW := 4) (w1 := (wX11_fall E o_t a_t v_t_there v_t_wind v_t_force v_t_rains r1_0 v_t_hours v_t_sights v_t_padMany v_t_acts v_t_blownMany v_t_badAct v_t_badWhy v_t_ruinAct v_t_ruinWho v_t_keptAt v_t_isWriting r1_1)) (ws' := (wX11_come E o_t a_t v_t_there v_t_wind v_t_force v_t_rains r1_0 v_t_hours v_t_sights v_t_padMany v_t_acts v_t_blownMany v_t_badAct v_t_badWhy v_t_ruinAct v_t_ruinWho v_t_keptAt v_t_isWriting f_t_at f_t_stem r1_1)) hw hA (g_rV hx hb hml hG hown hK hw (is := [0, 3]) rfl (by decide) (mX11_fall l E o_t a_t v_t_there v_t_wind v_t_force v_t_rains v_t_lost v_t_hours v_t_sights v_t_padMany v_t_acts v_t_blownMany v_t_badAct v_t_badWhy v_t_ruinAct v_t_ruinWho v_t_keptAt v_t_isWriting f_t_heap s1 s2 r1_0 r1_1 hc2) wd_10_1 wd_10_2 wd_10_3 wd_1_5 wd_10_4 hX11_fall g_allgood ⟨rfl, rfl⟩ ⟨Nat.le_of_ble_eq_true rfl, Nat.le_of_ble_eq_true rfl⟩ ⟨Nat.zero_le _, Nat.zero_le _⟩ (ci := 9) (q0 := 0) rfl rfl rfl rfl hl.1 rfl (Nat.le_of_ble_eq_true rfl) dX11_come_65) rfl (g_had [o_t, (a_t 5)] rfl rfl) rfl (⟨⟨_, rfl, rfl⟩, ⟨⟨_, rfl, rfl⟩, trivial⟩⟩) rfl rfl (by decide) (fun H locs hw => ?_)
    exact hret1 (r1_0, f_t_stem, r1_1) _ _ _ _ hf hw dX11_come_68
  have B46 : ∀ (v_t_lost : Int32) (f_t_stem : (Nat → Int32)) (f_t_heap : (Nat → Int32)) (x1 : Int32) (x4 : Int32) (s1 : Int32) (s2 : Int32) (H : Heap) (locs : List Loc) (ls : Array Slot), fX11_come_b46 v_t_lost f_t_stem f_t_heap x1 x4 s1 s2 = some (z_t_lost, z_t_stem, z_t_heap) → gS E A s.heap (wX11_come E o_t a_t v_t_there v_t_wind v_t_force v_t_rains v_t_lost v_t_hours v_t_sights v_t_padMany v_t_acts v_t_blownMany v_t_badAct v_t_badWhy v_t_ruinAct v_t_ruinWho v_t_keptAt v_t_isWriting f_t_at f_t_stem f_t_heap) H locs → lv_has ls 5 [(0, .ref o_t), (1, .int x1), (4, .int x4)] → W p l e ({ frames := 3, cells := 0, slots := 0, locals := 69 } : Room) s m args below meth cd H locs 0 0 Q (F0 m 46 ls [.int s2, .int s1, .ref (a_t 2)]) := by
    intro  v_t_lost f_t_stem f_t_heap x1 x4 s1 s2 H locs ls hf hw hl
    obtain ⟨hi3, hf⟩ := gA_s hf
    refine g_iast (ws' := (wX11_come E o_t a_t v_t_there v_t_wind v_t_force v_t_rains v_t_lost v_t_hours v_t_sights v_t_padMany v_t_acts v_t_blownMany v_t_badAct v_t_badWhy v_t_ruinAct v_t_ruinWho v_t_keptAt v_t_isWriting f_t_at (upd f_t_stem (Int32.toNatClampNeg s1) s2) f_t_heap)) hx hb hK hw 2 rfl hi3 rfl dX11_come_46 (fun H locs hw => ?_)
    refine lv_aload_n hx hb dX11_come_47 rfl (lv_at hl 0 rfl) ?_
    refine lv_iload_n hx hb dX11_come_48 rfl (lv_at hl 1 rfl) ?_
    refine lv_iload hx hb dX11_come_49 (lv_at hl 2 rfl) ?_
    refine lv_bipush (v := 60) hx hb dX11_come_51 k_b60 ?_
    refine lv_icmp_le (tgt := 64) hx hb dX11_come_53 (by decide) (fun hc => ?_) (fun hc => ?_)
    · have hf := g_t hc hf
      refine lv_iconst (v := 0) hx hb dX11_come_64 k_i0 ?_
      exact B65 v_t_lost (upd f_t_stem (Int32.toNatClampNeg s1) s2) f_t_heap x1 0 _ _ _ hf hw (lv_sub hl [] rfl)
    · have hf := g_f hc hf
      refine lv_iload hx hb dX11_come_56 (lv_at hl 2 rfl) ?_
      refine lv_bipush (v := 60) hx hb dX11_come_58 k_b60 ?_
      refine lv_isub hx hb dX11_come_60 ?_
      refine lv_goto (tgt := 65) hx hb dX11_come_61 (by decide) ?_
      exact B65 v_t_lost (upd f_t_stem (Int32.toNatClampNeg s1) s2) f_t_heap x1 (x4 - 60) _ _ _ hf hw (lv_sub hl [] rfl)
  refine lv_aload_n hx hb dX11_come_0 rfl (lv_at hl 0 rfl) ?_
  refine lv_iload_n hx hb dX11_come_1 rfl (lv_at hl 1 rfl) ?_
  obtain ⟨r4, hc5, hf⟩ := gB_s hf
  refine g_ki0 (is := [0, 1]) hw hA (g_rV hx hb hml hG hown hK hw (is := [0, 1]) rfl (by decide) (mX11_familyOn l E o_t a_t v_t_there v_t_wind v_t_force v_t_rains v_t_lost v_t_hours v_t_sights v_t_padMany v_t_acts v_t_blownMany v_t_badAct v_t_badWhy v_t_ruinAct v_t_ruinWho v_t_keptAt v_t_isWriting f_t_at x1 r4 hc5) wd_8_17 wd_8_18 wd_8_19 wd_1_5 wd_8_20 hX11_familyOn g_allgood ⟨rfl, rfl⟩ ⟨Nat.le_of_ble_eq_true rfl, Nat.le_of_ble_eq_true rfl⟩ ⟨Nat.zero_le _, Nat.zero_le _⟩ (ci := 9) (q0 := 0) rfl rfl rfl rfl hl.1 rfl (Nat.le_of_ble_eq_true rfl) dX11_come_2) rfl (fun H locs hw => ?_)
  refine lv_istore_n (lv' := [(3, .int r4), (0, .ref o_t), (1, .int x1), (2, .int x2)]) hx hb dX11_come_5 rfl hl (Nat.le_of_ble_eq_true rfl) rfl (fun ls hl => ?_)
  refine lv_iload_n hx hb dX11_come_6 rfl (lv_at hl 0 rfl) ?_
  refine lv_if_ge (tgt := 17) hx hb dX11_come_7 (by decide) (fun hc => ?_) (fun hc => ?_)
  · have hf := g_t hc hf
    refine lv_aload_n hx hb dX11_come_17 rfl (lv_at hl 1 rfl) ?_
    refine g_get hx hb hG hown hK hw inlX11 (ci := 9) rfl 0 2 (Nat.le_of_ble_eq_true rfl) rfl rfl wd_5_22 dX11_come_18 ?_
    refine lv_iload_n hx hb dX11_come_21 rfl (lv_at hl 0 rfl) ?_
    obtain ⟨hi6, hf⟩ := gA_s hf
    refine g_iald hx hb hK hw 2 rfl hi6 dX11_come_22 ?_
    refine lv_iload_n hx hb dX11_come_23 rfl (lv_at hl 3 rfl) ?_
    refine lv_iadd hx hb dX11_come_24 ?_
    refine lv_istore (lv' := [(4, .int ((f_t_stem (Int32.toNatClampNeg r4)) + x2)), (3, .int r4), (0, .ref o_t), (1, .int x1), (2, .int x2)]) hx hb dX11_come_25 hl (Nat.le_of_ble_eq_true rfl) rfl (fun ls hl => ?_)
    refine lv_aload_n hx hb dX11_come_27 rfl (lv_at hl 2 rfl) ?_
    refine g_get hx hb hG hown hK hw inlX11 (ci := 9) rfl 0 2 (Nat.le_of_ble_eq_true rfl) rfl rfl wd_5_22 dX11_come_28 ?_
    refine lv_iload_n hx hb dX11_come_31 rfl (lv_at hl 1 rfl) ?_
    refine lv_iload hx hb dX11_come_32 (lv_at hl 0 rfl) ?_
    refine lv_bipush (v := 60) hx hb dX11_come_34 k_b60 ?_
    refine lv_icmp_le (tgt := 44) hx hb dX11_come_36 (by decide) (fun hc => ?_) (fun hc => ?_)
    · have hf := g_t hc hf
      refine lv_iload hx hb dX11_come_44 (lv_at hl 0 rfl) ?_
      exact B46 v_t_lost f_t_stem f_t_heap x1 ((f_t_stem (Int32.toNatClampNeg r4)) + x2) r4 ((f_t_stem (Int32.toNatClampNeg r4)) + x2) _ _ _ hf hw (lv_sub hl [2, 3, 0] rfl)
    · have hf := g_f hc hf
      refine lv_bipush (v := 60) hx hb dX11_come_39 k_b60 ?_
      refine lv_goto (tgt := 46) hx hb dX11_come_41 (by decide) ?_
      exact B46 v_t_lost f_t_stem f_t_heap x1 ((f_t_stem (Int32.toNatClampNeg r4)) + x2) r4 60 _ _ _ hf hw (lv_sub hl [2, 3, 0] rfl)
  · have hf := g_f hc hf
    refine lv_aload_n hx hb dX11_come_10 rfl (lv_at hl 1 rfl) ?_
    refine lv_iload_n hx hb dX11_come_11 rfl (lv_at hl 2 rfl) ?_
    refine lv_iload_n hx hb dX11_come_12 rfl (lv_at hl 3 rfl) ?_
    obtain ⟨⟨r7_0, r7_1⟩, hc8, hf⟩ := gB_s hf
    refine g_kv (is := [0, 3]) (isR := [1, 2]) (nW := 4) (w1 := (wX11_fall E o_t a_t v_t_there v_t_wind v_t_force v_t_rains r7_0 v_t_hours v_t_sights v_t_padMany v_t_acts v_t_blownMany v_t_badAct v_t_badWhy v_t_ruinAct v_t_ruinWho v_t_keptAt v_t_isWriting r7_1)) (ws' := (wX11_come E o_t a_t v_t_there v_t_wind v_t_force v_t_rains r7_0 v_t_hours v_t_sights v_t_padMany v_t_acts v_t_blownMany v_t_badAct v_t_badWhy v_t_ruinAct v_t_ruinWho v_t_keptAt v_t_isWriting f_t_at f_t_stem r7_1)) hw hA (g_rV hx hb hml hG hown hK hw (is := [0, 3]) rfl (by decide) (mX11_fall l E o_t a_t v_t_there v_t_wind v_t_force v_t_rains v_t_lost v_t_hours v_t_sights v_t_padMany v_t_acts v_t_blownMany v_t_badAct v_t_badWhy v_t_ruinAct v_t_ruinWho v_t_keptAt v_t_isWriting f_t_heap x1 x2 r7_0 r7_1 hc8) wd_10_1 wd_10_2 wd_10_3 wd_1_5 wd_10_4 hX11_fall g_allgood ⟨rfl, rfl⟩ ⟨Nat.le_of_ble_eq_true rfl, Nat.le_of_ble_eq_true rfl⟩ ⟨Nat.zero_le _, Nat.zero_le _⟩ (ci := 9) (q0 := 0) rfl rfl rfl rfl hl.1 rfl (Nat.le_of_ble_eq_true rfl) dX11_come_13) rfl (g_had [o_t, (a_t 5)] rfl rfl) rfl (⟨⟨_, rfl, rfl⟩, ⟨⟨_, rfl, rfl⟩, trivial⟩⟩) rfl rfl (by decide) (fun H locs hw => ?_)
    exact hret1 (r7_0, f_t_stem, r7_1) _ _ _ _ hf hw dX11_come_16
theorem hX11_blow : yX11_blow.cls = RX11 ∧ yX11_blow.cls ≠ "java/lang/invoke/MethodHandle" ∧ yX11_blow.cls ≠ "java/lang/invoke/VarHandle" ∧ (parseMethodDescriptor yX11_blow.desc).map (fun d => d.parameters.length) = some 2 := by decide +kernel
set_option maxHeartbeats 4000000 in
set_option maxRecDepth 100000 in
theorem mX11_blow (l : Launch) (E : gE) (o_t : Nat) (a_t : (Nat → Nat)) (v_t_there : Int32) (v_t_wind : Int32) (v_t_force : Int32) (v_t_rains : Int32) (v_t_lost : Int32) (v_t_hours : Int32) (v_t_sights : Int32) (v_t_padMany : Int32) (v_t_acts : Int32) (v_t_blownMany : Int32) (v_t_badAct : Int32) (v_t_badWhy : Int32) (v_t_ruinAct : Int32) (v_t_ruinWho : Int32) (v_t_keptAt : Int32) (v_t_isWriting : Int32) (f_t_at : (Nat → Int32)) (f_t_stem : (Nat → Int32)) (f_t_heap : (Nat → Int32)) (x1 : Int32) (x2 : Int32) (z_t_lost : Int32) (z_t_blownMany : Int32) (z_t_stem : (Nat → Int32)) (z_t_heap : (Nat → Int32)) (hf : fX11_blow v_t_there v_t_wind v_t_force v_t_lost v_t_blownMany f_t_at f_t_stem f_t_heap x1 x2 = some (z_t_lost, z_t_blownMany, z_t_stem, z_t_heap)) {sz : Nat} : gMv l yX11_blow (gW yX11_blow cX11_blow 4 none) ({ frames := 4, cells := 0, slots := 0, locals := 93 } : Room) E [.ref o_t, .int x1, .int x2] (wX11_blow E o_t a_t v_t_there v_t_wind v_t_force v_t_rains v_t_lost v_t_hours v_t_sights v_t_padMany v_t_acts v_t_blownMany v_t_badAct v_t_badWhy v_t_ruinAct v_t_ruinWho v_t_keptAt v_t_isWriting f_t_at f_t_stem f_t_heap) sz (wX11_blow E o_t a_t v_t_there v_t_wind v_t_force v_t_rains z_t_lost v_t_hours v_t_sights v_t_padMany v_t_acts z_t_blownMany v_t_badAct v_t_badWhy v_t_ruinAct v_t_ruinWho v_t_keptAt v_t_isWriting f_t_at z_t_stem z_t_heap) := by
  refine g_openV (own := RX11) (by decide) rfl (Nat.le_of_ble_eq_true rfl) (fun p e s m args below meth cd Q A hx hb hml hown hG hK hA hret hw ls hl => ?_)
  have hl : lv_has ls 4 [(0, .ref o_t), (1, .int x1), (2, .int x2)] := hl
  have hret1 : ∀ (t : Int32 × Int32 × (Nat → Int32) × (Nat → Int32)) (H : Heap) (locs : List Loc) (pc : Nat) (ls : Array Slot), some t = some (z_t_lost, z_t_blownMany, z_t_stem, z_t_heap) → gS E A s.heap (wX11_blow E o_t a_t v_t_there v_t_wind v_t_force v_t_rains t.1 v_t_hours v_t_sights v_t_padMany v_t_acts t.2.1 v_t_badAct v_t_badWhy v_t_ruinAct v_t_ruinWho v_t_keptAt v_t_isWriting f_t_at t.2.2.1 t.2.2.2) H locs → decode cX11_blow pc = .ok (.return_, 1) → W p l e ({ frames := 4, cells := 0, slots := 0, locals := 93 } : Room) s m args below meth cd H locs 0 0 Q (F0 m pc ls []) := by
    intro t H locs pc ls h hw hd
    obtain rfl : t = (z_t_lost, z_t_blownMany, z_t_stem, z_t_heap) := Option.some.inj h
    exact hret H locs pc ls hw hd
  have B61 : ∀ (v_t_lost : Int32) (v_t_blownMany : Int32) (f_t_stem : (Nat → Int32)) (f_t_heap : (Nat → Int32)) (H : Heap) (locs : List Loc) (ls : Array Slot), fX11_blow_b61 v_t_lost v_t_blownMany f_t_stem f_t_heap = some (z_t_lost, z_t_blownMany, z_t_stem, z_t_heap) → gS E A s.heap (wX11_blow E o_t a_t v_t_there v_t_wind v_t_force v_t_rains v_t_lost v_t_hours v_t_sights v_t_padMany v_t_acts v_t_blownMany v_t_badAct v_t_badWhy v_t_ruinAct v_t_ruinWho v_t_keptAt v_t_isWriting f_t_at f_t_stem f_t_heap) H locs → lv_has ls 4 [] → W p l e ({ frames := 4, cells := 0, slots := 0, locals := 93 } : Room) s m args below meth cd H locs 0 0 Q (F0 m 61 ls []) := by
    intro  v_t_lost v_t_blownMany f_t_stem f_t_heap H locs ls hf hw hl
    exact hret1 (v_t_lost, v_t_blownMany, f_t_stem, f_t_heap) _ _ _ _ hf hw dX11_blow_61
  refine lv_aload_n hx hb dX11_blow_0 rfl (lv_at hl 0 rfl) ?_
  refine g_get hx hb hG hown hK hw inlX11 (ci := 9) rfl 0 2 (Nat.le_of_ble_eq_true rfl) rfl rfl wd_5_22 dX11_blow_1 ?_
  refine lv_iload_n hx hb dX11_blow_4 rfl (lv_at hl 1 rfl) ?_
  refine lv_dup2_11 hx hb dX11_blow_5 rfl rfl ?_
  obtain ⟨hi1, hf⟩ := gA_s hf
  refine g_iald hx hb hK hw 2 rfl hi1 dX11_blow_6 ?_
  refine lv_iload_n hx hb dX11_blow_7 rfl (lv_at hl 2 rfl) ?_
  refine lv_isub hx hb dX11_blow_8 ?_
  obtain ⟨hi2, hf⟩ := gA_s hf
  refine g_iast (ws' := (wX11_blow E o_t a_t v_t_there v_t_wind v_t_force v_t_rains v_t_lost v_t_hours v_t_sights v_t_padMany v_t_acts v_t_blownMany v_t_badAct v_t_badWhy v_t_ruinAct v_t_ruinWho v_t_keptAt v_t_isWriting f_t_at (upd f_t_stem (Int32.toNatClampNeg x1) ((f_t_stem (Int32.toNatClampNeg x1)) - x2)) f_t_heap)) hx hb hK hw 2 rfl hi2 rfl dX11_blow_9 (fun H locs hw => ?_)
  refine lv_aload_n hx hb dX11_blow_10 rfl (lv_at hl 0 rfl) ?_
  refine lv_dup hx hb dX11_blow_11 rfl ?_
  refine g_get hx hb hG hown hK hw inlX11 (ci := 9) rfl 0 20 (Nat.le_of_ble_eq_true rfl) rfl rfl wd_19_3 dX11_blow_12 ?_
  refine lv_iload_n hx hb dX11_blow_15 rfl (lv_at hl 2 rfl) ?_
  refine lv_iadd hx hb dX11_blow_16 ?_
  refine g_put (ws' := (wX11_blow E o_t a_t v_t_there v_t_wind v_t_force v_t_rains v_t_lost v_t_hours v_t_sights v_t_padMany v_t_acts (v_t_blownMany + x2) v_t_badAct v_t_badWhy v_t_ruinAct v_t_ruinWho v_t_keptAt v_t_isWriting f_t_at (upd f_t_stem (Int32.toNatClampNeg x1) ((f_t_stem (Int32.toNatClampNeg x1)) - x2)) f_t_heap)) hx hb hG hown hK hw inlX11 tyX11_ok nmX11 (ci := 9) rfl 0 20 (Nat.le_of_ble_eq_true rfl) rfl wd_19_3 rfl rfl rfl (Nat.le_of_ble_eq_true rfl) rfl dX11_blow_17 (fun H locs hw => ?_)
  refine lv_aload_n hx hb dX11_blow_20 rfl (lv_at hl 0 rfl) ?_
  refine g_get hx hb hG hown hK hw inlX11 (ci := 9) rfl 0 1 (Nat.le_of_ble_eq_true rfl) rfl rfl wd_5_21 dX11_blow_21 ?_
  refine lv_iload_n hx hb dX11_blow_24 rfl (lv_at hl 1 rfl) ?_
  obtain ⟨hi3, hf⟩ := gA_s hf
  refine g_iald hx hb hK hw 1 rfl hi3 dX11_blow_25 ?_
  refine lv_aload_n hx hb dX11_blow_26 rfl (lv_at hl 0 rfl) ?_
  refine g_get hx hb hG hown hK hw inlX11 (ci := 9) rfl 0 6 (Nat.le_of_ble_eq_true rfl) rfl rfl wd_11_17 dX11_blow_27 ?_
  refine lv_aload_n hx hb dX11_blow_30 rfl (lv_at hl 0 rfl) ?_
  refine g_get hx hb hG hown hK hw inlX11 (ci := 9) rfl 0 7 (Nat.le_of_ble_eq_true rfl) rfl rfl wd_6_19 dX11_blow_31 ?_
  obtain ⟨r4, hc5, hf⟩ := gB_s hf
  refine g_ki0 (is := []) hw hA (g_rS hx hb hml hG hown hK hw (is := []) rfl (by decide) (mX11_onBy l E (f_t_at (Int32.toNatClampNeg x1)) v_t_wind v_t_force r4 hc5) wd_20_20 wd_20_21 wd_1_5 wd_20_22 hX11_onBy g_allgood ⟨rfl, rfl⟩ ⟨Nat.le_of_ble_eq_true rfl, Nat.le_of_ble_eq_true rfl⟩ ⟨Nat.zero_le _, Nat.zero_le _⟩ rfl hl.1 rfl (Nat.le_of_ble_eq_true rfl) dX11_blow_34) rfl (fun H locs hw => ?_)
  refine lv_istore_n (lv' := [(3, .int r4), (0, .ref o_t), (1, .int x1), (2, .int x2)]) hx hb dX11_blow_37 rfl hl (Nat.le_of_ble_eq_true rfl) rfl (fun ls hl => ?_)
  refine lv_iload_n hx hb dX11_blow_38 rfl (lv_at hl 0 rfl) ?_
  refine lv_if_ge (tgt := 55) hx hb dX11_blow_39 (by decide) (fun hc => ?_) (fun hc => ?_)
  · have hf := g_t hc hf
    refine lv_aload_n hx hb dX11_blow_55 rfl (lv_at hl 1 rfl) ?_
    refine lv_iload_n hx hb dX11_blow_56 rfl (lv_at hl 0 rfl) ?_
    refine lv_iload_n hx hb dX11_blow_57 rfl (lv_at hl 3 rfl) ?_
    obtain ⟨⟨r6_0, r6_1, r6_2⟩, hc7, hf⟩ := gB_s hf
    refine g_kv (is := [0, 1, 2, 3]) (isR := []) (nW := 4) (w1 := (wX11_come E o_t a_t v_t_there v_t_wind v_t_force v_t_rains r6_0 v_t_hours v_t_sights v_t_padMany v_t_acts (v_t_blownMany + x2) v_t_badAct v_t_badWhy v_t_ruinAct v_t_ruinWho v_t_keptAt v_t_isWriting f_t_at r6_1 r6_2)) (ws' := (wX11_blow E o_t a_t v_t_there v_t_wind v_t_force v_t_rains r6_0 v_t_hours v_t_sights v_t_padMany v_t_acts (v_t_blownMany + x2) v_t_badAct v_t_badWhy v_t_ruinAct v_t_ruinWho v_t_keptAt v_t_isWriting f_t_at r6_1 r6_2)) hw hA (g_rV hx hb hml hG hown hK hw (is := [0, 1, 2, 3]) rfl (by decide) (mX11_come l E o_t a_t v_t_there v_t_wind v_t_force v_t_rains v_t_lost v_t_hours v_t_sights v_t_padMany v_t_acts (v_t_blownMany + x2) v_t_badAct v_t_badWhy v_t_ruinAct v_t_ruinWho v_t_keptAt v_t_isWriting f_t_at (upd f_t_stem (Int32.toNatClampNeg x1) ((f_t_stem (Int32.toNatClampNeg x1)) - x2)) f_t_heap r4 x2 r6_0 r6_1 r6_2 hc7) wd_21_5 wd_21_6 wd_21_7 wd_1_5 wd_21_8 hX11_come g_allgood ⟨rfl, rfl⟩ ⟨Nat.le_of_ble_eq_true rfl, Nat.le_of_ble_eq_true rfl⟩ ⟨Nat.zero_le _, Nat.zero_le _⟩ (ci := 9) (q0 := 0) rfl rfl rfl rfl hl.1 rfl (Nat.le_of_ble_eq_true rfl) dX11_blow_58) rfl (g_had [o_t, (a_t 1), (a_t 2), (a_t 5)] rfl rfl) rfl (trivial) rfl rfl (by decide) (fun H locs hw => ?_)
    exact B61 r6_0 (v_t_blownMany + x2) r6_1 r6_2 _ _ _ hf hw (lv_sub hl [] rfl)
  · have hf := g_f hc hf
    refine lv_aload_n hx hb dX11_blow_42 rfl (lv_at hl 1 rfl) ?_
    refine lv_dup hx hb dX11_blow_43 rfl ?_
    refine g_get hx hb hG hown hK hw inlX11 (ci := 9) rfl 0 9 (Nat.le_of_ble_eq_true rfl) rfl rfl wd_10_5 dX11_blow_44 ?_
    refine lv_iload_n hx hb dX11_blow_47 rfl (lv_at hl 3 rfl) ?_
    refine lv_iadd hx hb dX11_blow_48 ?_
    refine g_put (ws' := (wX11_blow E o_t a_t v_t_there v_t_wind v_t_force v_t_rains (v_t_lost + x2) v_t_hours v_t_sights v_t_padMany v_t_acts (v_t_blownMany + x2) v_t_badAct v_t_badWhy v_t_ruinAct v_t_ruinWho v_t_keptAt v_t_isWriting f_t_at (upd f_t_stem (Int32.toNatClampNeg x1) ((f_t_stem (Int32.toNatClampNeg x1)) - x2)) f_t_heap)) hx hb hG hown hK hw inlX11 tyX11_ok nmX11 (ci := 9) rfl 0 9 (Nat.le_of_ble_eq_true rfl) rfl wd_10_5 rfl rfl rfl (Nat.le_of_ble_eq_true rfl) rfl dX11_blow_49 (fun H locs hw => ?_)
    refine lv_goto (tgt := 61) hx hb dX11_blow_52 (by decide) ?_
    exact B61 (v_t_lost + x2) (v_t_blownMany + x2) (upd f_t_stem (Int32.toNatClampNeg x1) ((f_t_stem (Int32.toNatClampNeg x1)) - x2)) f_t_heap _ _ _ hf hw (lv_sub hl [] rfl)
theorem hX11_mow : yX11_mow.cls = RX11 ∧ yX11_mow.cls ≠ "java/lang/invoke/MethodHandle" ∧ yX11_mow.cls ≠ "java/lang/invoke/VarHandle" ∧ (parseMethodDescriptor yX11_mow.desc).map (fun d => d.parameters.length) = some 1 := by decide +kernel
set_option maxHeartbeats 4000000 in
set_option maxRecDepth 100000 in
theorem mX11_mow (l : Launch) (E : gE) (o_t : Nat) (a_t : (Nat → Nat)) (v_t_there : Int32) (v_t_wind : Int32) (v_t_force : Int32) (v_t_rains : Int32) (v_t_lost : Int32) (v_t_hours : Int32) (v_t_sights : Int32) (v_t_padMany : Int32) (v_t_acts : Int32) (v_t_blownMany : Int32) (v_t_badAct : Int32) (v_t_badWhy : Int32) (v_t_ruinAct : Int32) (v_t_ruinWho : Int32) (v_t_keptAt : Int32) (v_t_isWriting : Int32) (f_t_at : (Nat → Int32)) (f_t_stem : (Nat → Int32)) (f_t_heap : (Nat → Int32)) (x1 : Int32) (z_t_stem : (Nat → Int32)) (z_t_heap : (Nat → Int32)) (hf : fX11_mow f_t_at f_t_stem f_t_heap x1 = some (z_t_stem, z_t_heap)) {sz : Nat} : gMv l yX11_mow (gW yX11_mow cX11_mow 5 none) ({ frames := 0, cells := 0, slots := 0, locals := 0 } : Room) E [.ref o_t, .int x1] (wX11_mow E o_t a_t v_t_there v_t_wind v_t_force v_t_rains v_t_lost v_t_hours v_t_sights v_t_padMany v_t_acts v_t_blownMany v_t_badAct v_t_badWhy v_t_ruinAct v_t_ruinWho v_t_keptAt v_t_isWriting f_t_at f_t_stem f_t_heap) sz (wX11_mow E o_t a_t v_t_there v_t_wind v_t_force v_t_rains v_t_lost v_t_hours v_t_sights v_t_padMany v_t_acts v_t_blownMany v_t_badAct v_t_badWhy v_t_ruinAct v_t_ruinWho v_t_keptAt v_t_isWriting f_t_at z_t_stem z_t_heap) := by
  refine g_openV (own := RX11) (by decide) rfl (Nat.le_of_ble_eq_true rfl) (fun p e s m args below meth cd Q A hx hb hml hown hG hK hA hret hw ls hl => ?_)
  have hl : lv_has ls 5 [(0, .ref o_t), (1, .int x1)] := hl
  have hret1 : ∀ (t : (Nat → Int32) × (Nat → Int32)) (H : Heap) (locs : List Loc) (pc : Nat) (ls : Array Slot), some t = some (z_t_stem, z_t_heap) → gS E A s.heap (wX11_mow E o_t a_t v_t_there v_t_wind v_t_force v_t_rains v_t_lost v_t_hours v_t_sights v_t_padMany v_t_acts v_t_blownMany v_t_badAct v_t_badWhy v_t_ruinAct v_t_ruinWho v_t_keptAt v_t_isWriting f_t_at t.1 t.2) H locs → decode cX11_mow pc = .ok (.return_, 1) → W p l e ({ frames := 0, cells := 0, slots := 0, locals := 0 } : Room) s m args below meth cd H locs 0 0 Q (F0 m pc ls []) := by
    intro t H locs pc ls h hw hd
    obtain rfl : t = (z_t_stem, z_t_heap) := Option.some.inj h
    exact hret H locs pc ls hw hd
  have B37 : ∀ (f_t_stem : (Nat → Int32)) (f_t_heap : (Nat → Int32)) (x1 : Int32) (x2 : Int32) (s0 : Int32) (H : Heap) (locs : List Loc) (ls : Array Slot), fX11_mow_b37 f_t_stem f_t_heap x1 x2 s0 = some (z_t_stem, z_t_heap) → gS E A s.heap (wX11_mow E o_t a_t v_t_there v_t_wind v_t_force v_t_rains v_t_lost v_t_hours v_t_sights v_t_padMany v_t_acts v_t_blownMany v_t_badAct v_t_badWhy v_t_ruinAct v_t_ruinWho v_t_keptAt v_t_isWriting f_t_at f_t_stem f_t_heap) H locs → lv_has ls 5 [(0, .ref o_t), (1, .int x1), (2, .int x2)] → W p l e ({ frames := 0, cells := 0, slots := 0, locals := 0 } : Room) s m args below meth cd H locs 0 0 Q (F0 m 37 ls [.int s0]) := by
    intro  f_t_stem f_t_heap x1 x2 s0 H locs ls hf hw hl
    refine lv_istore (lv' := [(4, .int s0), (0, .ref o_t), (1, .int x1), (2, .int x2)]) hx hb dX11_mow_37 hl (Nat.le_of_ble_eq_true rfl) rfl (fun ls hl => ?_)
    refine lv_aload_n hx hb dX11_mow_39 rfl (lv_at hl 1 rfl) ?_
    refine g_get hx hb hG hown hK hw inlX11 (ci := 9) rfl 0 2 (Nat.le_of_ble_eq_true rfl) rfl rfl wd_5_22 dX11_mow_40 ?_
    refine lv_iload_n hx hb dX11_mow_43 rfl (lv_at hl 2 rfl) ?_
    refine lv_dup2_11 hx hb dX11_mow_44 rfl rfl ?_
    obtain ⟨hi1, hf⟩ := gA_s hf
    refine g_iald hx hb hK hw 2 rfl hi1 dX11_mow_45 ?_
    refine lv_iload hx hb dX11_mow_46 (lv_at hl 0 rfl) ?_
    refine lv_iadd hx hb dX11_mow_48 ?_
    obtain ⟨hi2, hf⟩ := gA_s hf
    refine g_iast (ws' := (wX11_mow E o_t a_t v_t_there v_t_wind v_t_force v_t_rains v_t_lost v_t_hours v_t_sights v_t_padMany v_t_acts v_t_blownMany v_t_badAct v_t_badWhy v_t_ruinAct v_t_ruinWho v_t_keptAt v_t_isWriting f_t_at (upd f_t_stem (Int32.toNatClampNeg x1) ((f_t_stem (Int32.toNatClampNeg x1)) + s0)) f_t_heap)) hx hb hK hw 2 rfl hi2 rfl dX11_mow_49 (fun H locs hw => ?_)
    refine lv_aload_n hx hb dX11_mow_50 rfl (lv_at hl 1 rfl) ?_
    refine g_get hx hb hG hown hK hw inlX11 (ci := 9) rfl 0 5 (Nat.le_of_ble_eq_true rfl) rfl rfl wd_6_1 dX11_mow_51 ?_
    refine lv_iload_n hx hb dX11_mow_54 rfl (lv_at hl 3 rfl) ?_
    refine lv_dup2_11 hx hb dX11_mow_55 rfl rfl ?_
    obtain ⟨hi3, hf⟩ := gA_s hf
    refine g_iald hx hb hK hw 3 rfl hi3 dX11_mow_56 ?_
    refine lv_iload hx hb dX11_mow_57 (lv_at hl 0 rfl) ?_
    refine lv_isub hx hb dX11_mow_59 ?_
    obtain ⟨hi4, hf⟩ := gA_s hf
    refine g_iast (ws' := (wX11_mow E o_t a_t v_t_there v_t_wind v_t_force v_t_rains v_t_lost v_t_hours v_t_sights v_t_padMany v_t_acts v_t_blownMany v_t_badAct v_t_badWhy v_t_ruinAct v_t_ruinWho v_t_keptAt v_t_isWriting f_t_at (upd f_t_stem (Int32.toNatClampNeg x1) ((f_t_stem (Int32.toNatClampNeg x1)) + s0)) (upd f_t_heap (Int32.toNatClampNeg x2) ((f_t_heap (Int32.toNatClampNeg x2)) - s0)))) hx hb hK hw 3 rfl hi4 rfl dX11_mow_60 (fun H locs hw => ?_)
    exact hret1 ((upd f_t_stem (Int32.toNatClampNeg x1) ((f_t_stem (Int32.toNatClampNeg x1)) + s0)), (upd f_t_heap (Int32.toNatClampNeg x2) ((f_t_heap (Int32.toNatClampNeg x2)) - s0))) _ _ _ _ hf hw dX11_mow_61
  refine lv_aload_n hx hb dX11_mow_0 rfl (lv_at hl 0 rfl) ?_
  refine g_get hx hb hG hown hK hw inlX11 (ci := 9) rfl 0 1 (Nat.le_of_ble_eq_true rfl) rfl rfl wd_5_21 dX11_mow_1 ?_
  refine lv_iload_n hx hb dX11_mow_4 rfl (lv_at hl 1 rfl) ?_
  obtain ⟨hi5, hf⟩ := gA_s hf
  refine g_iald hx hb hK hw 1 rfl hi5 dX11_mow_5 ?_
  refine lv_istore_n (lv' := [(2, .int (f_t_at (Int32.toNatClampNeg x1))), (0, .ref o_t), (1, .int x1)]) hx hb dX11_mow_6 rfl hl (Nat.le_of_ble_eq_true rfl) rfl (fun ls hl => ?_)
  refine lv_bipush (v := 60) hx hb dX11_mow_7 k_b60 ?_
  refine lv_aload_n hx hb dX11_mow_9 rfl (lv_at hl 1 rfl) ?_
  refine g_get hx hb hG hown hK hw inlX11 (ci := 9) rfl 0 2 (Nat.le_of_ble_eq_true rfl) rfl rfl wd_5_22 dX11_mow_10 ?_
  refine lv_iload_n hx hb dX11_mow_13 rfl (lv_at hl 2 rfl) ?_
  obtain ⟨hi6, hf⟩ := gA_s hf
  refine g_iald hx hb hK hw 2 rfl hi6 dX11_mow_14 ?_
  refine lv_isub hx hb dX11_mow_15 ?_
  refine lv_istore_n (lv' := [(3, .int (60 - (f_t_stem (Int32.toNatClampNeg x1)))), (2, .int (f_t_at (Int32.toNatClampNeg x1))), (0, .ref o_t), (1, .int x1)]) hx hb dX11_mow_16 rfl hl (Nat.le_of_ble_eq_true rfl) rfl (fun ls hl => ?_)
  refine lv_aload_n hx hb dX11_mow_17 rfl (lv_at hl 2 rfl) ?_
  refine g_get hx hb hG hown hK hw inlX11 (ci := 9) rfl 0 5 (Nat.le_of_ble_eq_true rfl) rfl rfl wd_6_1 dX11_mow_18 ?_
  refine lv_iload_n hx hb dX11_mow_21 rfl (lv_at hl 1 rfl) ?_
  obtain ⟨hi7, hf⟩ := gA_s hf
  refine g_iald hx hb hK hw 3 rfl hi7 dX11_mow_22 ?_
  refine lv_iload_n hx hb dX11_mow_23 rfl (lv_at hl 0 rfl) ?_
  refine lv_icmp_ge (tgt := 36) hx hb dX11_mow_24 (by decide) (fun hc => ?_) (fun hc => ?_)
  · have hf := g_t hc hf
    refine lv_iload_n hx hb dX11_mow_36 rfl (lv_at hl 0 rfl) ?_
    exact B37 f_t_stem f_t_heap x1 (f_t_at (Int32.toNatClampNeg x1)) (60 - (f_t_stem (Int32.toNatClampNeg x1))) _ _ _ hf hw (lv_sub hl [2, 3, 1] rfl)
  · have hf := g_f hc hf
    refine lv_aload_n hx hb dX11_mow_27 rfl (lv_at hl 2 rfl) ?_
    refine g_get hx hb hG hown hK hw inlX11 (ci := 9) rfl 0 5 (Nat.le_of_ble_eq_true rfl) rfl rfl wd_6_1 dX11_mow_28 ?_
    refine lv_iload_n hx hb dX11_mow_31 rfl (lv_at hl 1 rfl) ?_
    obtain ⟨hi8, hf⟩ := gA_s hf
    refine g_iald hx hb hK hw 3 rfl hi8 dX11_mow_32 ?_
    refine lv_goto (tgt := 37) hx hb dX11_mow_33 (by decide) ?_
    exact B37 f_t_stem f_t_heap x1 (f_t_at (Int32.toNatClampNeg x1)) (f_t_heap (Int32.toNatClampNeg (f_t_at (Int32.toNatClampNeg x1)))) _ _ _ hf hw (lv_sub hl [2, 3, 1] rfl)
theorem hX11_eat : yX11_eat.cls = RX11 ∧ yX11_eat.cls ≠ "java/lang/invoke/MethodHandle" ∧ yX11_eat.cls ≠ "java/lang/invoke/VarHandle" ∧ (parseMethodDescriptor yX11_eat.desc).map (fun d => d.parameters.length) = some 0 := by decide +kernel
set_option maxHeartbeats 4000000 in
set_option maxRecDepth 100000 in
theorem mX11_eat (l : Launch) (E : gE) (o_t : Nat) (a_t : (Nat → Nat)) (v_t_there : Int32) (v_t_wind : Int32) (v_t_force : Int32) (v_t_rains : Int32) (v_t_lost : Int32) (v_t_hours : Int32) (v_t_sights : Int32) (v_t_padMany : Int32) (v_t_acts : Int32) (v_t_blownMany : Int32) (v_t_badAct : Int32) (v_t_badWhy : Int32) (v_t_ruinAct : Int32) (v_t_ruinWho : Int32) (v_t_keptAt : Int32) (v_t_isWriting : Int32) (f_t_heap : (Nat → Int32)) (z_t_lost : Int32) (z_t_heap : (Nat → Int32)) (hf : fX11_eat v_t_lost f_t_heap = some (z_t_lost, z_t_heap)) {sz : Nat} : gMv l yX11_eat (gW yX11_eat cX11_eat 2 none) ({ frames := 0, cells := 0, slots := 0, locals := 0 } : Room) E [.ref o_t] (wX11_eat E o_t a_t v_t_there v_t_wind v_t_force v_t_rains v_t_lost v_t_hours v_t_sights v_t_padMany v_t_acts v_t_blownMany v_t_badAct v_t_badWhy v_t_ruinAct v_t_ruinWho v_t_keptAt v_t_isWriting f_t_heap) sz (wX11_eat E o_t a_t v_t_there v_t_wind v_t_force v_t_rains z_t_lost v_t_hours v_t_sights v_t_padMany v_t_acts v_t_blownMany v_t_badAct v_t_badWhy v_t_ruinAct v_t_ruinWho v_t_keptAt v_t_isWriting z_t_heap) := by
  refine g_openV (own := RX11) (by decide) rfl (Nat.le_of_ble_eq_true rfl) (fun p e s m args below meth cd Q A hx hb hml hown hG hK hA hret hw ls hl => ?_)
  have hl : lv_has ls 2 [(0, .ref o_t)] := hl
  have hret1 : ∀ (t : Int32 × (Nat → Int32)) (H : Heap) (locs : List Loc) (pc : Nat) (ls : Array Slot), some t = some (z_t_lost, z_t_heap) → gS E A s.heap (wX11_eat E o_t a_t v_t_there v_t_wind v_t_force v_t_rains t.1 v_t_hours v_t_sights v_t_padMany v_t_acts v_t_blownMany v_t_badAct v_t_badWhy v_t_ruinAct v_t_ruinWho v_t_keptAt v_t_isWriting t.2) H locs → decode cX11_eat pc = .ok (.return_, 1) → W p l e ({ frames := 0, cells := 0, slots := 0, locals := 0 } : Room) s m args below meth cd H locs 0 0 Q (F0 m pc ls []) := by
    intro t H locs pc ls h hw hd
    obtain rfl : t = (z_t_lost, z_t_heap) := Option.some.inj h
    exact hret H locs pc ls hw hd
  have B2 : ∀ n : Nat, ∀ (v_t_lost : Int32) (f_t_heap : (Nat → Int32)) (x1 : Int32) (H : Heap) (locs : List Loc) (ls : Array Slot), fX11_eat_b2 n v_t_lost f_t_heap x1 = some (z_t_lost, z_t_heap) → gS E A s.heap (wX11_eat E o_t a_t v_t_there v_t_wind v_t_force v_t_rains v_t_lost v_t_hours v_t_sights v_t_padMany v_t_acts v_t_blownMany v_t_badAct v_t_badWhy v_t_ruinAct v_t_ruinWho v_t_keptAt v_t_isWriting f_t_heap) H locs → lv_has ls 2 [(0, .ref o_t), (1, .int x1)] → W p l e ({ frames := 0, cells := 0, slots := 0, locals := 0 } : Room) s m args below meth cd H locs 0 0 Q (F0 m 2 ls []) := by
    intro n
    induction n with
    | zero => intro v_t_lost f_t_heap x1 H locs ls hf hw hl; exact g_no hf
    | succ n ih =>
      intro v_t_lost f_t_heap x1 H locs ls hf hw hl
      refine lv_iload_n hx hb dX11_eat_2 rfl (lv_at hl 1 rfl) ?_
      refine lv_bipush (v := 36) hx hb dX11_eat_3 k_b36 ?_
      refine lv_icmp_ge (tgt := 48) hx hb dX11_eat_5 (by decide) (fun hc => ?_) (fun hc => ?_)
      · have hf := g_t hc hf
        exact hret1 (v_t_lost, f_t_heap) _ _ _ _ hf hw dX11_eat_48
      · have hf := g_f hc hf
        refine lv_aload_n hx hb dX11_eat_8 rfl (lv_at hl 0 rfl) ?_
        refine lv_dup hx hb dX11_eat_9 rfl ?_
        refine g_get hx hb hG hown hK hw inlX11 (ci := 9) rfl 0 9 (Nat.le_of_ble_eq_true rfl) rfl rfl wd_10_5 dX11_eat_10 ?_
        refine lv_aload_n hx hb dX11_eat_13 rfl (lv_at hl 0 rfl) ?_
        refine g_get hx hb hG hown hK hw inlX11 (ci := 9) rfl 0 5 (Nat.le_of_ble_eq_true rfl) rfl rfl wd_6_1 dX11_eat_14 ?_
        refine lv_iload_n hx hb dX11_eat_17 rfl (lv_at hl 1 rfl) ?_
        obtain ⟨hi1, hf⟩ := gA_s hf
        refine g_iald hx hb hK hw 1 rfl hi1 dX11_eat_18 ?_
        refine lv_iconst (v := 2) hx hb dX11_eat_19 k_i2 ?_
        refine lv_idiv hx hb dX11_eat_20 (by decide) ?_
        refine lv_iadd hx hb dX11_eat_21 ?_
        refine g_put (ws' := (wX11_eat E o_t a_t v_t_there v_t_wind v_t_force v_t_rains (v_t_lost + ((f_t_heap (Int32.toNatClampNeg x1)) / 2)) v_t_hours v_t_sights v_t_padMany v_t_acts v_t_blownMany v_t_badAct v_t_badWhy v_t_ruinAct v_t_ruinWho v_t_keptAt v_t_isWriting f_t_heap)) hx hb hG hown hK hw inlX11 tyX11_ok nmX11 (ci := 9) rfl 0 9 (Nat.le_of_ble_eq_true rfl) rfl wd_10_5 rfl rfl rfl (Nat.le_of_ble_eq_true rfl) rfl dX11_eat_22 (fun H locs hw => ?_)
        refine lv_aload_n hx hb dX11_eat_25 rfl (lv_at hl 0 rfl) ?_
        refine g_get hx hb hG hown hK hw inlX11 (ci := 9) rfl 0 5 (Nat.le_of_ble_eq_true rfl) rfl rfl wd_6_1 dX11_eat_26 ?_
        refine lv_iload_n hx hb dX11_eat_29 rfl (lv_at hl 1 rfl) ?_
        refine lv_dup2_11 hx hb dX11_eat_30 rfl rfl ?_
        obtain ⟨hi2, hf⟩ := gA_s hf
        refine g_iald hx hb hK hw 1 rfl hi2 dX11_eat_31 ?_
        refine lv_aload_n hx hb dX11_eat_32 rfl (lv_at hl 0 rfl) ?_
        refine g_get hx hb hG hown hK hw inlX11 (ci := 9) rfl 0 5 (Nat.le_of_ble_eq_true rfl) rfl rfl wd_6_1 dX11_eat_33 ?_
        refine lv_iload_n hx hb dX11_eat_36 rfl (lv_at hl 1 rfl) ?_
        obtain ⟨hi3, hf⟩ := gA_s hf
        refine g_iald hx hb hK hw 1 rfl hi3 dX11_eat_37 ?_
        refine lv_iconst (v := 2) hx hb dX11_eat_38 k_i2 ?_
        refine lv_idiv hx hb dX11_eat_39 (by decide) ?_
        refine lv_isub hx hb dX11_eat_40 ?_
        obtain ⟨hi4, hf⟩ := gA_s hf
        refine g_iast (ws' := (wX11_eat E o_t a_t v_t_there v_t_wind v_t_force v_t_rains (v_t_lost + ((f_t_heap (Int32.toNatClampNeg x1)) / 2)) v_t_hours v_t_sights v_t_padMany v_t_acts v_t_blownMany v_t_badAct v_t_badWhy v_t_ruinAct v_t_ruinWho v_t_keptAt v_t_isWriting (upd f_t_heap (Int32.toNatClampNeg x1) ((f_t_heap (Int32.toNatClampNeg x1)) - ((f_t_heap (Int32.toNatClampNeg x1)) / 2))))) hx hb hK hw 1 rfl hi4 rfl dX11_eat_41 (fun H locs hw => ?_)
        refine lv_iinc (lv' := [(1, .int (x1 + 1)), (0, .ref o_t)]) hx hb dX11_eat_42 hl (k := 1) rfl (k_inc1 _) (Nat.le_of_ble_eq_true rfl) rfl (fun ls hl => ?_)
        refine lv_goto (tgt := 2) hx hb dX11_eat_45 (by decide) ?_
        exact ih (v_t_lost + ((f_t_heap (Int32.toNatClampNeg x1)) / 2)) (upd f_t_heap (Int32.toNatClampNeg x1) ((f_t_heap (Int32.toNatClampNeg x1)) - ((f_t_heap (Int32.toNatClampNeg x1)) / 2))) (x1 + 1) _ _ _ hf hw (lv_sub hl [1, 0] rfl)
  refine lv_iconst (v := 0) hx hb dX11_eat_0 k_i0 ?_
  refine lv_istore_n (lv' := [(1, .int 0), (0, .ref o_t)]) hx hb dX11_eat_1 rfl hl (Nat.le_of_ble_eq_true rfl) rfl (fun ls hl => ?_)
  exact B2 1000 v_t_lost f_t_heap 0 _ _ _ hf hw (lv_sub hl [1, 0] rfl)
theorem hX11_passHour : yX11_passHour.cls = RX11 ∧ yX11_passHour.cls ≠ "java/lang/invoke/MethodHandle" ∧ yX11_passHour.cls ≠ "java/lang/invoke/VarHandle" ∧ (parseMethodDescriptor yX11_passHour.desc).map (fun d => d.parameters.length) = some 0 := by decide +kernel
set_option maxHeartbeats 4000000 in
set_option maxRecDepth 100000 in
theorem mX11_passHour (l : Launch) (E : gE) (o_t : Nat) (a_t : (Nat → Nat)) (v_t_there : Int32) (v_t_wind : Int32) (v_t_force : Int32) (v_t_rains : Int32) (v_t_lost : Int32) (v_t_hours : Int32) (v_t_sights : Int32) (v_t_padMany : Int32) (v_t_acts : Int32) (v_t_blownMany : Int32) (v_t_badAct : Int32) (v_t_badWhy : Int32) (v_t_ruinAct : Int32) (v_t_ruinWho : Int32) (v_t_keptAt : Int32) (v_t_isWriting : Int32) (f_t_blown : (Nat → Int32)) (z_t_hours : Int32) (z_t_blown : (Nat → Int32)) (hf : fX11_passHour v_t_hours f_t_blown = some (z_t_hours, z_t_blown)) {sz : Nat} : gMv l yX11_passHour (gW yX11_passHour cX11_passHour 2 none) ({ frames := 0, cells := 0, slots := 0, locals := 0 } : Room) E [.ref o_t] (wX11_passHour E o_t a_t v_t_there v_t_wind v_t_force v_t_rains v_t_lost v_t_hours v_t_sights v_t_padMany v_t_acts v_t_blownMany v_t_badAct v_t_badWhy v_t_ruinAct v_t_ruinWho v_t_keptAt v_t_isWriting f_t_blown) sz (wX11_passHour E o_t a_t v_t_there v_t_wind v_t_force v_t_rains v_t_lost z_t_hours v_t_sights v_t_padMany v_t_acts v_t_blownMany v_t_badAct v_t_badWhy v_t_ruinAct v_t_ruinWho v_t_keptAt v_t_isWriting z_t_blown) := by
  refine g_openV (own := RX11) (by decide) rfl (Nat.le_of_ble_eq_true rfl) (fun p e s m args below meth cd Q A hx hb hml hown hG hK hA hret hw ls hl => ?_)
  have hl : lv_has ls 2 [(0, .ref o_t)] := hl
  have hret1 : ∀ (t : Int32 × (Nat → Int32)) (H : Heap) (locs : List Loc) (pc : Nat) (ls : Array Slot), some t = some (z_t_hours, z_t_blown) → gS E A s.heap (wX11_passHour E o_t a_t v_t_there v_t_wind v_t_force v_t_rains v_t_lost t.1 v_t_sights v_t_padMany v_t_acts v_t_blownMany v_t_badAct v_t_badWhy v_t_ruinAct v_t_ruinWho v_t_keptAt v_t_isWriting t.2) H locs → decode cX11_passHour pc = .ok (.return_, 1) → W p l e ({ frames := 0, cells := 0, slots := 0, locals := 0 } : Room) s m args below meth cd H locs 0 0 Q (F0 m pc ls []) := by
    intro t H locs pc ls h hw hd
    obtain rfl : t = (z_t_hours, z_t_blown) := Option.some.inj h
    exact hret H locs pc ls hw hd
  have B2 : ∀ n : Nat, ∀ (v_t_hours : Int32) (f_t_blown : (Nat → Int32)) (x1 : Int32) (H : Heap) (locs : List Loc) (ls : Array Slot), fX11_passHour_b2 n v_t_hours f_t_blown x1 = some (z_t_hours, z_t_blown) → gS E A s.heap (wX11_passHour E o_t a_t v_t_there v_t_wind v_t_force v_t_rains v_t_lost v_t_hours v_t_sights v_t_padMany v_t_acts v_t_blownMany v_t_badAct v_t_badWhy v_t_ruinAct v_t_ruinWho v_t_keptAt v_t_isWriting f_t_blown) H locs → lv_has ls 2 [(0, .ref o_t), (1, .int x1)] → W p l e ({ frames := 0, cells := 0, slots := 0, locals := 0 } : Room) s m args below meth cd H locs 0 0 Q (F0 m 2 ls []) := by
    intro n
    induction n with
    | zero => intro v_t_hours f_t_blown x1 H locs ls hf hw hl; exact g_no hf
    | succ n ih =>
      intro v_t_hours f_t_blown x1 H locs ls hf hw hl
      refine lv_iload_n hx hb dX11_passHour_2 rfl (lv_at hl 1 rfl) ?_
      refine lv_bipush (v := 6) hx hb dX11_passHour_3 k_b6 ?_
      refine lv_icmp_ge (tgt := 21) hx hb dX11_passHour_5 (by decide) (fun hc => ?_) (fun hc => ?_)
      · have hf := g_t hc hf
        refine lv_aload_n hx hb dX11_passHour_21 rfl (lv_at hl 0 rfl) ?_
        refine lv_dup hx hb dX11_passHour_22 rfl ?_
        refine g_get hx hb hG hown hK hw inlX11 (ci := 9) rfl 0 10 (Nat.le_of_ble_eq_true rfl) rfl rfl wd_19_12 dX11_passHour_23 ?_
        refine lv_iconst (v := 1) hx hb dX11_passHour_26 k_i1 ?_
        refine lv_iadd hx hb dX11_passHour_27 ?_
        refine g_put (ws' := (wX11_passHour E o_t a_t v_t_there v_t_wind v_t_force v_t_rains v_t_lost (v_t_hours + 1) v_t_sights v_t_padMany v_t_acts v_t_blownMany v_t_badAct v_t_badWhy v_t_ruinAct v_t_ruinWho v_t_keptAt v_t_isWriting f_t_blown)) hx hb hG hown hK hw inlX11 tyX11_ok nmX11 (ci := 9) rfl 0 10 (Nat.le_of_ble_eq_true rfl) rfl wd_19_12 rfl rfl rfl (Nat.le_of_ble_eq_true rfl) rfl dX11_passHour_28 (fun H locs hw => ?_)
        exact hret1 ((v_t_hours + 1), f_t_blown) _ _ _ _ hf hw dX11_passHour_31
      · have hf := g_f hc hf
        refine lv_aload_n hx hb dX11_passHour_8 rfl (lv_at hl 0 rfl) ?_
        refine g_get hx hb hG hown hK hw inlX11 (ci := 9) rfl 0 4 (Nat.le_of_ble_eq_true rfl) rfl rfl wd_6_0 dX11_passHour_9 ?_
        refine lv_iload_n hx hb dX11_passHour_12 rfl (lv_at hl 1 rfl) ?_
        refine lv_iconst (v := 0) hx hb dX11_passHour_13 k_i0 ?_
        obtain ⟨hi1, hf⟩ := gA_s hf
        refine g_iast (ws' := (wX11_passHour E o_t a_t v_t_there v_t_wind v_t_force v_t_rains v_t_lost v_t_hours v_t_sights v_t_padMany v_t_acts v_t_blownMany v_t_badAct v_t_badWhy v_t_ruinAct v_t_ruinWho v_t_keptAt v_t_isWriting (upd f_t_blown (Int32.toNatClampNeg x1) 0))) hx hb hK hw 1 rfl hi1 rfl dX11_passHour_14 (fun H locs hw => ?_)
        refine lv_iinc (lv' := [(1, .int (x1 + 1)), (0, .ref o_t)]) hx hb dX11_passHour_15 hl (k := 1) rfl (k_inc1 _) (Nat.le_of_ble_eq_true rfl) rfl (fun ls hl => ?_)
        refine lv_goto (tgt := 2) hx hb dX11_passHour_18 (by decide) ?_
        exact ih v_t_hours (upd f_t_blown (Int32.toNatClampNeg x1) 0) (x1 + 1) _ _ _ hf hw (lv_sub hl [1, 0] rfl)
  refine lv_iconst (v := 0) hx hb dX11_passHour_0 k_i0 ?_
  refine lv_istore_n (lv' := [(1, .int 0), (0, .ref o_t)]) hx hb dX11_passHour_1 rfl hl (Nat.le_of_ble_eq_true rfl) rfl (fun ls hl => ?_)
  exact B2 1000 v_t_hours f_t_blown 0 _ _ _ hf hw (lv_sub hl [1, 0] rfl)
