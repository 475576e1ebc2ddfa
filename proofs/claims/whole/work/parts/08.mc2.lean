theorem hX7_readBeginning : yX7_readBeginning.cls = RX7 ∧ yX7_readBeginning.cls ≠ "java/lang/invoke/MethodHandle" ∧ yX7_readBeginning.cls ≠ "java/lang/invoke/VarHandle" ∧ (parseMethodDescriptor yX7_readBeginning.desc).map (fun d => d.parameters.length) = some 1 := by decide +kernel
set_option maxHeartbeats 4000000 in
set_option maxRecDepth 100000 in
theorem mX7_readBeginning (l : Launch) (E : gE) (o_t : Nat) (a_t : (Nat → Nat)) (v_t_signs : Int32) (v_t_acts : Int32) (v_t_reading : Int32) (v_t_begun : Int32) (v_t_brokenAt : Int32) (f_t_kinds : (Nat → Int32)) (f_t_firsts : (Nat → Int32)) (f_t_seconds : (Nat → Int32)) (x1 : Int32) (rv : Int32) (z_t_acts : Int32) (z_t_begun : Int32) (z_t_kinds : (Nat → Int32)) (z_t_firsts : (Nat → Int32)) (z_t_seconds : (Nat → Int32)) (hf : fX7_readBeginning v_t_acts v_t_begun f_t_kinds f_t_firsts f_t_seconds x1 = some (rv, z_t_acts, z_t_begun, z_t_kinds, z_t_firsts, z_t_seconds)) {sz : Nat} : gMi l yX7_readBeginning (gW yX7_readBeginning cX7_readBeginning 2 (some .int)) ({ frames := 1, cells := 0, slots := 0, locals := 23 } : Room) E [.ref o_t, .int x1] (wX7_readBeginning E o_t a_t v_t_signs v_t_acts v_t_reading v_t_begun v_t_brokenAt f_t_kinds f_t_firsts f_t_seconds) sz rv (wX7_readBeginning E o_t a_t v_t_signs z_t_acts v_t_reading z_t_begun v_t_brokenAt z_t_kinds z_t_firsts z_t_seconds) := by
  refine g_openI (own := RX7) (by decide) rfl (Nat.le_of_ble_eq_true rfl) (fun p e s m args below meth cd Q A hx hb hml hown hG hK hA hret hw ls hl => ?_)
  have hl : lv_has ls 2 [(0, .ref o_t), (1, .int x1)] := hl
  have hret1 : ∀ (v : Int32) (v_t_acts : Int32) (v_t_begun : Int32) (f_t_kinds : (Nat → Int32)) (f_t_firsts : (Nat → Int32)) (f_t_seconds : (Nat → Int32)) (H : Heap) (locs : List Loc) (pc : Nat) (ls : Array Slot), some (v, v_t_acts, v_t_begun, f_t_kinds, f_t_firsts, f_t_seconds) = some (rv, z_t_acts, z_t_begun, z_t_kinds, z_t_firsts, z_t_seconds) → gS E A s.heap (wX7_readBeginning E o_t a_t v_t_signs v_t_acts v_t_reading v_t_begun v_t_brokenAt f_t_kinds f_t_firsts f_t_seconds) H locs → decode cX7_readBeginning pc = .ok (.ireturn, 1) → W p l e ({ frames := 1, cells := 0, slots := 0, locals := 23 } : Room) s m args below meth cd H locs 0 0 Q (F0 m pc ls [.int v]) := by
    intro v v_t_acts v_t_begun f_t_kinds f_t_firsts f_t_seconds H locs pc ls h hw hd
    cases h
    exact hret H locs pc ls hw hd
  refine lv_iload_n hx hb dX7_readBeginning_0 rfl (lv_at hl 1 rfl) ?_
  refine lv_bipush (v := 65) hx hb dX7_readBeginning_1 k_b65 ?_
  refine lv_isub hx hb dX7_readBeginning_3 ?_
  refine lv_iconst (v := 0) hx hb dX7_readBeginning_4 k_i0 ?_
  refine lv_iconst (v := 5) hx hb dX7_readBeginning_5 k_i5 ?_
  obtain ⟨r1, hc2, hf⟩ := gB_s hf
  refine g_ki (is := []) (w1 := (wX10_within E)) (ws' := (wX7_readBeginning E o_t a_t v_t_signs v_t_acts v_t_reading v_t_begun v_t_brokenAt f_t_kinds f_t_firsts f_t_seconds)) hw hA (g_rN (host := "SeedBank") hx hb hml hG hown hK hw (is := []) rfl (by decide) (mX10_within l E (x1 - 65) 0 5 r1 hc2) (List.mem_of_getElem? (i := 10) rfl) wd_7_2 wd_1_2 wd_7_3 hX10_within g_allgood ⟨rfl, rfl⟩ ⟨Nat.le_of_ble_eq_true rfl, Nat.le_of_ble_eq_true rfl⟩ ⟨Nat.zero_le _, Nat.zero_le _⟩ rfl hl.1 rfl (Nat.le_of_ble_eq_true rfl) dX7_readBeginning_6) rfl rfl rfl (fun H locs hw => ?_)
  refine lv_if_eq (tgt := 22) hx hb dX7_readBeginning_9 (by decide) (fun hc => ?_) (fun hc => ?_)
  · have hf := g_t hc hf
    refine lv_iload_n hx hb dX7_readBeginning_22 rfl (lv_at hl 1 rfl) ?_
    by_cases hs3 : x1 = 46
    · have hf := g_t hs3 hf
      refine lv_lookup (off := 59) (tgt := 82) hx hb dX7_readBeginning_23 (by decide) (by rw [hs3] <;> rfl) (by decide) ?_
      refine lv_aload_n hx hb dX7_readBeginning_82 rfl (lv_at hl 0 rfl) ?_
      refine lv_bipush (v := 6) hx hb dX7_readBeginning_83 k_b6 ?_
      refine lv_iconst (v := 0) hx hb dX7_readBeginning_85 k_i0 ?_
      refine lv_iconst (v := 0) hx hb dX7_readBeginning_86 k_i0 ?_
      obtain ⟨r4, hc5, hf⟩ := gB_s hf
      refine g_ki (is := [0, 1, 2, 3]) (w1 := (wX7_endAct E o_t a_t v_t_signs r4.2.1 v_t_reading v_t_begun v_t_brokenAt r4.2.2.1 r4.2.2.2.1 r4.2.2.2.2)) (ws' := (wX7_readBeginning E o_t a_t v_t_signs r4.2.1 v_t_reading v_t_begun v_t_brokenAt r4.2.2.1 r4.2.2.2.1 r4.2.2.2.2)) hw hA (g_rV hx hb hml hG hown hK hw (is := [0, 1, 2, 3]) rfl (by decide) (mX7_endAct l E o_t a_t v_t_signs v_t_acts v_t_reading v_t_begun v_t_brokenAt f_t_kinds f_t_firsts f_t_seconds 6 0 0 r4.1 r4.2.1 r4.2.2.1 r4.2.2.2.1 r4.2.2.2.2 hc5) wd_12_12 wd_12_13 wd_12_14 wd_1_21 wd_12_15 hX7_endAct g_allgood ⟨rfl, rfl⟩ ⟨Nat.le_of_ble_eq_true rfl, Nat.le_of_ble_eq_true rfl⟩ ⟨Nat.zero_le _, Nat.zero_le _⟩ (ci := 6) (q0 := 0) rfl rfl rfl rfl hl.1 rfl (Nat.le_of_ble_eq_true rfl) dX7_readBeginning_87) rfl rfl rfl (fun H locs hw => ?_)
      exact hret1 r4.1 r4.2.1 v_t_begun r4.2.2.1 r4.2.2.2.1 r4.2.2.2.2 _ _ _ _ hf hw dX7_readBeginning_90
    have hf := g_f hs3 hf
    by_cases hs6 : x1 = 114
    · have hf := g_t hs6 hf
      refine lv_lookup (off := 43) (tgt := 66) hx hb dX7_readBeginning_23 (by decide) (by rw [hs6] <;> rfl) (by decide) ?_
      refine lv_aload_n hx hb dX7_readBeginning_66 rfl (lv_at hl 0 rfl) ?_
      refine lv_iconst (v := 4) hx hb dX7_readBeginning_67 k_i4 ?_
      refine lv_iconst (v := 0) hx hb dX7_readBeginning_68 k_i0 ?_
      refine lv_iconst (v := 0) hx hb dX7_readBeginning_69 k_i0 ?_
      obtain ⟨r7, hc8, hf⟩ := gB_s hf
      refine g_ki (is := [0, 1, 2, 3]) (w1 := (wX7_endAct E o_t a_t v_t_signs r7.2.1 v_t_reading v_t_begun v_t_brokenAt r7.2.2.1 r7.2.2.2.1 r7.2.2.2.2)) (ws' := (wX7_readBeginning E o_t a_t v_t_signs r7.2.1 v_t_reading v_t_begun v_t_brokenAt r7.2.2.1 r7.2.2.2.1 r7.2.2.2.2)) hw hA (g_rV hx hb hml hG hown hK hw (is := [0, 1, 2, 3]) rfl (by decide) (mX7_endAct l E o_t a_t v_t_signs v_t_acts v_t_reading v_t_begun v_t_brokenAt f_t_kinds f_t_firsts f_t_seconds 4 0 0 r7.1 r7.2.1 r7.2.2.1 r7.2.2.2.1 r7.2.2.2.2 hc8) wd_12_12 wd_12_13 wd_12_14 wd_1_21 wd_12_15 hX7_endAct g_allgood ⟨rfl, rfl⟩ ⟨Nat.le_of_ble_eq_true rfl, Nat.le_of_ble_eq_true rfl⟩ ⟨Nat.zero_le _, Nat.zero_le _⟩ (ci := 6) (q0 := 0) rfl rfl rfl rfl hl.1 rfl (Nat.le_of_ble_eq_true rfl) dX7_readBeginning_70) rfl rfl rfl (fun H locs hw => ?_)
      exact hret1 r7.1 r7.2.1 v_t_begun r7.2.2.1 r7.2.2.2.1 r7.2.2.2.2 _ _ _ _ hf hw dX7_readBeginning_73
    have hf := g_f hs6 hf
    by_cases hs9 : x1 = 115
    · have hf := g_t hs9 hf
      refine lv_lookup (off := 51) (tgt := 74) hx hb dX7_readBeginning_23 (by decide) (by rw [hs9] <;> rfl) (by decide) ?_
      refine lv_aload_n hx hb dX7_readBeginning_74 rfl (lv_at hl 0 rfl) ?_
      refine lv_iconst (v := 5) hx hb dX7_readBeginning_75 k_i5 ?_
      refine lv_iconst (v := 0) hx hb dX7_readBeginning_76 k_i0 ?_
      refine lv_iconst (v := 0) hx hb dX7_readBeginning_77 k_i0 ?_
      obtain ⟨r10, hc11, hf⟩ := gB_s hf
      refine g_ki (is := [0, 1, 2, 3]) (w1 := (wX7_endAct E o_t a_t v_t_signs r10.2.1 v_t_reading v_t_begun v_t_brokenAt r10.2.2.1 r10.2.2.2.1 r10.2.2.2.2)) (ws' := (wX7_readBeginning E o_t a_t v_t_signs r10.2.1 v_t_reading v_t_begun v_t_brokenAt r10.2.2.1 r10.2.2.2.1 r10.2.2.2.2)) hw hA (g_rV hx hb hml hG hown hK hw (is := [0, 1, 2, 3]) rfl (by decide) (mX7_endAct l E o_t a_t v_t_signs v_t_acts v_t_reading v_t_begun v_t_brokenAt f_t_kinds f_t_firsts f_t_seconds 5 0 0 r10.1 r10.2.1 r10.2.2.1 r10.2.2.2.1 r10.2.2.2.2 hc11) wd_12_12 wd_12_13 wd_12_14 wd_1_21 wd_12_15 hX7_endAct g_allgood ⟨rfl, rfl⟩ ⟨Nat.le_of_ble_eq_true rfl, Nat.le_of_ble_eq_true rfl⟩ ⟨Nat.zero_le _, Nat.zero_le _⟩ (ci := 6) (q0 := 0) rfl rfl rfl rfl hl.1 rfl (Nat.le_of_ble_eq_true rfl) dX7_readBeginning_78) rfl rfl rfl (fun H locs hw => ?_)
      exact hret1 r10.1 r10.2.1 v_t_begun r10.2.2.1 r10.2.2.2.1 r10.2.2.2.2 _ _ _ _ hf hw dX7_readBeginning_81
    have hf := g_f hs9 hf
    by_cases hs12 : x1 = 119
    · have hf := g_t hs12 hf
      refine lv_lookup (off := 41) (tgt := 64) hx hb dX7_readBeginning_23 (by decide) (by rw [hs12] <;> rfl) (by decide) ?_
      refine lv_iconst (v := 2) hx hb dX7_readBeginning_64 k_i2 ?_
      exact hret1 2 v_t_acts v_t_begun f_t_kinds f_t_firsts f_t_seconds _ _ _ _ hf hw dX7_readBeginning_65
    have hf := g_f hs12 hf
    refine lv_lookup (off := 68) (tgt := 91) hx hb dX7_readBeginning_23 (by decide) ((lv_osw hs3 (by decide)).trans ((lv_osw hs6 (by decide)).trans ((lv_osw hs9 (by decide)).trans ((lv_osw hs12 (by decide)).trans rfl)))) (by decide) ?_
    refine lv_iconst (v := 4) hx hb dX7_readBeginning_91 k_i4 ?_
    exact hret1 4 v_t_acts v_t_begun f_t_kinds f_t_firsts f_t_seconds _ _ _ _ hf hw dX7_readBeginning_92
  · have hf := g_f hc hf
    refine lv_aload_n hx hb dX7_readBeginning_12 rfl (lv_at hl 0 rfl) ?_
    refine lv_iload_n hx hb dX7_readBeginning_13 rfl (lv_at hl 1 rfl) ?_
    refine lv_bipush (v := 65) hx hb dX7_readBeginning_14 k_b65 ?_
    refine lv_isub hx hb dX7_readBeginning_16 ?_
    refine g_put (ws' := (wX7_readBeginning E o_t a_t v_t_signs v_t_acts v_t_reading (x1 - 65) v_t_brokenAt f_t_kinds f_t_firsts f_t_seconds)) hx hb hG hown hK hw inlX7 tyX7_ok nmX7 (ci := 6) rfl 0 6 (Nat.le_of_ble_eq_true rfl) rfl wd_4_8 rfl rfl rfl (Nat.le_of_ble_eq_true rfl) rfl dX7_readBeginning_17 (fun H locs hw => ?_)
    refine lv_iconst (v := 1) hx hb dX7_readBeginning_20 k_i1 ?_
    exact hret1 1 v_t_acts (x1 - 65) f_t_kinds f_t_firsts f_t_seconds _ _ _ _ hf hw dX7_readBeginning_21
theorem hX7_readDeed : yX7_readDeed.cls = RX7 ∧ yX7_readDeed.cls ≠ "java/lang/invoke/MethodHandle" ∧ yX7_readDeed.cls ≠ "java/lang/invoke/VarHandle" ∧ (parseMethodDescriptor yX7_readDeed.desc).map (fun d => d.parameters.length) = some 1 := by decide +kernel
set_option maxHeartbeats 4000000 in
set_option maxRecDepth 100000 in
theorem mX7_readDeed (l : Launch) (E : gE) (o_t : Nat) (a_t : (Nat → Nat)) (v_t_signs : Int32) (v_t_acts : Int32) (v_t_reading : Int32) (v_t_begun : Int32) (v_t_brokenAt : Int32) (f_t_kinds : (Nat → Int32)) (f_t_firsts : (Nat → Int32)) (f_t_seconds : (Nat → Int32)) (x1 : Int32) (rv : Int32) (z_t_acts : Int32) (z_t_kinds : (Nat → Int32)) (z_t_firsts : (Nat → Int32)) (z_t_seconds : (Nat → Int32)) (hf : fX7_readDeed v_t_acts v_t_begun f_t_kinds f_t_firsts f_t_seconds x1 = some (rv, z_t_acts, z_t_kinds, z_t_firsts, z_t_seconds)) {sz : Nat} : gMi l yX7_readDeed (gW yX7_readDeed cX7_readDeed 2 (some .int)) ({ frames := 1, cells := 0, slots := 0, locals := 23 } : Room) E [.ref o_t, .int x1] (wX7_readDeed E o_t a_t v_t_signs v_t_acts v_t_reading v_t_begun v_t_brokenAt f_t_kinds f_t_firsts f_t_seconds) sz rv (wX7_readDeed E o_t a_t v_t_signs z_t_acts v_t_reading v_t_begun v_t_brokenAt z_t_kinds z_t_firsts z_t_seconds) := by
  refine g_openI (own := RX7) (by decide) rfl (Nat.le_of_ble_eq_true rfl) (fun p e s m args below meth cd Q A hx hb hml hown hG hK hA hret hw ls hl => ?_)
  have hl : lv_has ls 2 [(0, .ref o_t), (1, .int x1)] := hl
  have hret1 : ∀ (v : Int32) (v_t_acts : Int32) (f_t_kinds : (Nat → Int32)) (f_t_firsts : (Nat → Int32)) (f_t_seconds : (Nat → Int32)) (H : Heap) (locs : List Loc) (pc : Nat) (ls : Array Slot), some (v, v_t_acts, f_t_kinds, f_t_firsts, f_t_seconds) = some (rv, z_t_acts, z_t_kinds, z_t_firsts, z_t_seconds) → gS E A s.heap (wX7_readDeed E o_t a_t v_t_signs v_t_acts v_t_reading v_t_begun v_t_brokenAt f_t_kinds f_t_firsts f_t_seconds) H locs → decode cX7_readDeed pc = .ok (.ireturn, 1) → W p l e ({ frames := 1, cells := 0, slots := 0, locals := 23 } : Room) s m args below meth cd H locs 0 0 Q (F0 m pc ls [.int v]) := by
    intro v v_t_acts f_t_kinds f_t_firsts f_t_seconds H locs pc ls h hw hd
    cases h
    exact hret H locs pc ls hw hd
  refine lv_iload_n hx hb dX7_readDeed_0 rfl (lv_at hl 1 rfl) ?_
  refine lv_bipush (v := 48) hx hb dX7_readDeed_1 k_b48 ?_
  refine lv_isub hx hb dX7_readDeed_3 ?_
  refine lv_iconst (v := 1) hx hb dX7_readDeed_4 k_i1 ?_
  refine lv_bipush (v := 9) hx hb dX7_readDeed_5 k_b9 ?_
  obtain ⟨r1, hc2, hf⟩ := gB_s hf
  refine g_ki (is := []) (w1 := (wX10_within E)) (ws' := (wX7_readDeed E o_t a_t v_t_signs v_t_acts v_t_reading v_t_begun v_t_brokenAt f_t_kinds f_t_firsts f_t_seconds)) hw hA (g_rN (host := "SeedBank") hx hb hml hG hown hK hw (is := []) rfl (by decide) (mX10_within l E (x1 - 48) 1 9 r1 hc2) (List.mem_of_getElem? (i := 10) rfl) wd_7_2 wd_1_2 wd_7_3 hX10_within g_allgood ⟨rfl, rfl⟩ ⟨Nat.le_of_ble_eq_true rfl, Nat.le_of_ble_eq_true rfl⟩ ⟨Nat.zero_le _, Nat.zero_le _⟩ rfl hl.1 rfl (Nat.le_of_ble_eq_true rfl) dX7_readDeed_7) rfl rfl rfl (fun H locs hw => ?_)
  refine lv_if_eq (tgt := 27) hx hb dX7_readDeed_10 (by decide) (fun hc => ?_) (fun hc => ?_)
  · have hf := g_t hc hf
    refine lv_iload_n hx hb dX7_readDeed_27 rfl (lv_at hl 1 rfl) ?_
    by_cases hs3 : x1 = 99
    · have hf := g_t hs3 hf
      refine lv_lookup (off := 28) (tgt := 56) hx hb dX7_readDeed_28 (by decide) (by rw [hs3] <;> rfl) (by decide) ?_
      refine lv_aload_n hx hb dX7_readDeed_56 rfl (lv_at hl 0 rfl) ?_
      refine lv_iconst (v := 1) hx hb dX7_readDeed_57 k_i1 ?_
      refine lv_aload_n hx hb dX7_readDeed_58 rfl (lv_at hl 0 rfl) ?_
      refine g_get hx hb hG hown hK hw inlX7 (ci := 6) rfl 0 6 (Nat.le_of_ble_eq_true rfl) rfl rfl wd_4_8 dX7_readDeed_59 ?_
      refine lv_iconst (v := 0) hx hb dX7_readDeed_62 k_i0 ?_
      obtain ⟨r4, hc5, hf⟩ := gB_s hf
      refine g_ki (is := [0, 1, 2, 3]) (w1 := (wX7_endAct E o_t a_t v_t_signs r4.2.1 v_t_reading v_t_begun v_t_brokenAt r4.2.2.1 r4.2.2.2.1 r4.2.2.2.2)) (ws' := (wX7_readDeed E o_t a_t v_t_signs r4.2.1 v_t_reading v_t_begun v_t_brokenAt r4.2.2.1 r4.2.2.2.1 r4.2.2.2.2)) hw hA (g_rV hx hb hml hG hown hK hw (is := [0, 1, 2, 3]) rfl (by decide) (mX7_endAct l E o_t a_t v_t_signs v_t_acts v_t_reading v_t_begun v_t_brokenAt f_t_kinds f_t_firsts f_t_seconds 1 v_t_begun 0 r4.1 r4.2.1 r4.2.2.1 r4.2.2.2.1 r4.2.2.2.2 hc5) wd_12_12 wd_12_13 wd_12_14 wd_1_21 wd_12_15 hX7_endAct g_allgood ⟨rfl, rfl⟩ ⟨Nat.le_of_ble_eq_true rfl, Nat.le_of_ble_eq_true rfl⟩ ⟨Nat.zero_le _, Nat.zero_le _⟩ (ci := 6) (q0 := 0) rfl rfl rfl rfl hl.1 rfl (Nat.le_of_ble_eq_true rfl) dX7_readDeed_63) rfl rfl rfl (fun H locs hw => ?_)
      exact hret1 r4.1 r4.2.1 r4.2.2.1 r4.2.2.2.1 r4.2.2.2.2 _ _ _ _ hf hw dX7_readDeed_66
    have hf := g_f hs3 hf
    by_cases hs6 : x1 = 109
    · have hf := g_t hs6 hf
      refine lv_lookup (off := 39) (tgt := 67) hx hb dX7_readDeed_28 (by decide) (by rw [hs6] <;> rfl) (by decide) ?_
      refine lv_aload_n hx hb dX7_readDeed_67 rfl (lv_at hl 0 rfl) ?_
      refine lv_iconst (v := 2) hx hb dX7_readDeed_68 k_i2 ?_
      refine lv_aload_n hx hb dX7_readDeed_69 rfl (lv_at hl 0 rfl) ?_
      refine g_get hx hb hG hown hK hw inlX7 (ci := 6) rfl 0 6 (Nat.le_of_ble_eq_true rfl) rfl rfl wd_4_8 dX7_readDeed_70 ?_
      refine lv_iconst (v := 0) hx hb dX7_readDeed_73 k_i0 ?_
      obtain ⟨r7, hc8, hf⟩ := gB_s hf
      refine g_ki (is := [0, 1, 2, 3]) (w1 := (wX7_endAct E o_t a_t v_t_signs r7.2.1 v_t_reading v_t_begun v_t_brokenAt r7.2.2.1 r7.2.2.2.1 r7.2.2.2.2)) (ws' := (wX7_readDeed E o_t a_t v_t_signs r7.2.1 v_t_reading v_t_begun v_t_brokenAt r7.2.2.1 r7.2.2.2.1 r7.2.2.2.2)) hw hA (g_rV hx hb hml hG hown hK hw (is := [0, 1, 2, 3]) rfl (by decide) (mX7_endAct l E o_t a_t v_t_signs v_t_acts v_t_reading v_t_begun v_t_brokenAt f_t_kinds f_t_firsts f_t_seconds 2 v_t_begun 0 r7.1 r7.2.1 r7.2.2.1 r7.2.2.2.1 r7.2.2.2.2 hc8) wd_12_12 wd_12_13 wd_12_14 wd_1_21 wd_12_15 hX7_endAct g_allgood ⟨rfl, rfl⟩ ⟨Nat.le_of_ble_eq_true rfl, Nat.le_of_ble_eq_true rfl⟩ ⟨Nat.zero_le _, Nat.zero_le _⟩ (ci := 6) (q0 := 0) rfl rfl rfl rfl hl.1 rfl (Nat.le_of_ble_eq_true rfl) dX7_readDeed_74) rfl rfl rfl (fun H locs hw => ?_)
      exact hret1 r7.1 r7.2.1 r7.2.2.1 r7.2.2.2.1 r7.2.2.2.2 _ _ _ _ hf hw dX7_readDeed_77
    have hf := g_f hs6 hf
    refine lv_lookup (off := 50) (tgt := 78) hx hb dX7_readDeed_28 (by decide) ((lv_osw hs3 (by decide)).trans ((lv_osw hs6 (by decide)).trans rfl)) (by decide) ?_
    refine lv_iconst (v := 4) hx hb dX7_readDeed_78 k_i4 ?_
    exact hret1 4 v_t_acts f_t_kinds f_t_firsts f_t_seconds _ _ _ _ hf hw dX7_readDeed_79
  · have hf := g_f hc hf
    refine lv_aload_n hx hb dX7_readDeed_13 rfl (lv_at hl 0 rfl) ?_
    refine lv_iconst (v := 0) hx hb dX7_readDeed_14 k_i0 ?_
    refine lv_aload_n hx hb dX7_readDeed_15 rfl (lv_at hl 0 rfl) ?_
    refine g_get hx hb hG hown hK hw inlX7 (ci := 6) rfl 0 6 (Nat.le_of_ble_eq_true rfl) rfl rfl wd_4_8 dX7_readDeed_16 ?_
    refine lv_iload_n hx hb dX7_readDeed_19 rfl (lv_at hl 1 rfl) ?_
    refine lv_bipush (v := 48) hx hb dX7_readDeed_20 k_b48 ?_
    refine lv_isub hx hb dX7_readDeed_22 ?_
    obtain ⟨r9, hc10, hf⟩ := gB_s hf
    refine g_ki (is := [0, 1, 2, 3]) (w1 := (wX7_endAct E o_t a_t v_t_signs r9.2.1 v_t_reading v_t_begun v_t_brokenAt r9.2.2.1 r9.2.2.2.1 r9.2.2.2.2)) (ws' := (wX7_readDeed E o_t a_t v_t_signs r9.2.1 v_t_reading v_t_begun v_t_brokenAt r9.2.2.1 r9.2.2.2.1 r9.2.2.2.2)) hw hA (g_rV hx hb hml hG hown hK hw (is := [0, 1, 2, 3]) rfl (by decide) (mX7_endAct l E o_t a_t v_t_signs v_t_acts v_t_reading v_t_begun v_t_brokenAt f_t_kinds f_t_firsts f_t_seconds 0 v_t_begun (x1 - 48) r9.1 r9.2.1 r9.2.2.1 r9.2.2.2.1 r9.2.2.2.2 hc10) wd_12_12 wd_12_13 wd_12_14 wd_1_21 wd_12_15 hX7_endAct g_allgood ⟨rfl, rfl⟩ ⟨Nat.le_of_ble_eq_true rfl, Nat.le_of_ble_eq_true rfl⟩ ⟨Nat.zero_le _, Nat.zero_le _⟩ (ci := 6) (q0 := 0) rfl rfl rfl rfl hl.1 rfl (Nat.le_of_ble_eq_true rfl) dX7_readDeed_23) rfl rfl rfl (fun H locs hw => ?_)
    exact hret1 r9.1 r9.2.1 r9.2.2.1 r9.2.2.2.1 r9.2.2.2.2 _ _ _ _ hf hw dX7_readDeed_26
theorem hX7_readSign : yX7_readSign.cls = RX7 ∧ yX7_readSign.cls ≠ "java/lang/invoke/MethodHandle" ∧ yX7_readSign.cls ≠ "java/lang/invoke/VarHandle" ∧ (parseMethodDescriptor yX7_readSign.desc).map (fun d => d.parameters.length) = some 1 := by decide +kernel
set_option maxHeartbeats 4000000 in
set_option maxRecDepth 100000 in
theorem mX7_readSign (l : Launch) (E : gE) (o_t : Nat) (a_t : (Nat → Nat)) (v_t_signs : Int32) (v_t_acts : Int32) (v_t_reading : Int32) (v_t_begun : Int32) (v_t_brokenAt : Int32) (f_t_kinds : (Nat → Int32)) (f_t_firsts : (Nat → Int32)) (f_t_seconds : (Nat → Int32)) (x1 : Int32) (rv : Int32) (z_t_acts : Int32) (z_t_begun : Int32) (z_t_kinds : (Nat → Int32)) (z_t_firsts : (Nat → Int32)) (z_t_seconds : (Nat → Int32)) (hf : fX7_readSign v_t_acts v_t_reading v_t_begun f_t_kinds f_t_firsts f_t_seconds x1 = some (rv, z_t_acts, z_t_begun, z_t_kinds, z_t_firsts, z_t_seconds)) {sz : Nat} : gMi l yX7_readSign (gW yX7_readSign cX7_readSign 2 (some .int)) ({ frames := 2, cells := 0, slots := 0, locals := 44 } : Room) E [.ref o_t, .int x1] (wX7_readSign E o_t a_t v_t_signs v_t_acts v_t_reading v_t_begun v_t_brokenAt f_t_kinds f_t_firsts f_t_seconds) sz rv (wX7_readSign E o_t a_t v_t_signs z_t_acts v_t_reading z_t_begun v_t_brokenAt z_t_kinds z_t_firsts z_t_seconds) := by
  refine g_openI (own := RX7) (by decide) rfl (Nat.le_of_ble_eq_true rfl) (fun p e s m args below meth cd Q A hx hb hml hown hG hK hA hret hw ls hl => ?_)
  have hl : lv_has ls 2 [(0, .ref o_t), (1, .int x1)] := hl
  have hret1 : ∀ (v : Int32) (v_t_acts : Int32) (v_t_begun : Int32) (f_t_kinds : (Nat → Int32)) (f_t_firsts : (Nat → Int32)) (f_t_seconds : (Nat → Int32)) (H : Heap) (locs : List Loc) (pc : Nat) (ls : Array Slot), some (v, v_t_acts, v_t_begun, f_t_kinds, f_t_firsts, f_t_seconds) = some (rv, z_t_acts, z_t_begun, z_t_kinds, z_t_firsts, z_t_seconds) → gS E A s.heap (wX7_readSign E o_t a_t v_t_signs v_t_acts v_t_reading v_t_begun v_t_brokenAt f_t_kinds f_t_firsts f_t_seconds) H locs → decode cX7_readSign pc = .ok (.ireturn, 1) → W p l e ({ frames := 2, cells := 0, slots := 0, locals := 44 } : Room) s m args below meth cd H locs 0 0 Q (F0 m pc ls [.int v]) := by
    intro v v_t_acts v_t_begun f_t_kinds f_t_firsts f_t_seconds H locs pc ls h hw hd
    cases h
    exact hret H locs pc ls hw hd
  have B93 : ∀ (v_t_acts : Int32) (v_t_begun : Int32) (f_t_kinds : (Nat → Int32)) (f_t_firsts : (Nat → Int32)) (f_t_seconds : (Nat → Int32)) (s0 : Int32) (H : Heap) (locs : List Loc) (ls : Array Slot), fX7_readSign_b93 v_t_acts v_t_begun f_t_kinds f_t_firsts f_t_seconds s0 = some (rv, z_t_acts, z_t_begun, z_t_kinds, z_t_firsts, z_t_seconds) → gS E A s.heap (wX7_readSign E o_t a_t v_t_signs v_t_acts v_t_reading v_t_begun v_t_brokenAt f_t_kinds f_t_firsts f_t_seconds) H locs → lv_has ls 2 [] → W p l e ({ frames := 2, cells := 0, slots := 0, locals := 44 } : Room) s m args below meth cd H locs 0 0 Q (F0 m 93 ls [.int s0]) := by
    intro  v_t_acts v_t_begun f_t_kinds f_t_firsts f_t_seconds s0 H locs ls hf hw hl
    exact hret1 s0 v_t_acts v_t_begun f_t_kinds f_t_firsts f_t_seconds _ _ _ _ hf hw dX7_readSign_93
  have B63 : ∀ (v_t_acts : Int32) (v_t_begun : Int32) (f_t_kinds : (Nat → Int32)) (f_t_firsts : (Nat → Int32)) (f_t_seconds : (Nat → Int32)) (s0 : Int32) (H : Heap) (locs : List Loc) (ls : Array Slot), fX7_readSign_b63 v_t_acts v_t_begun f_t_kinds f_t_firsts f_t_seconds s0 = some (rv, z_t_acts, z_t_begun, z_t_kinds, z_t_firsts, z_t_seconds) → gS E A s.heap (wX7_readSign E o_t a_t v_t_signs v_t_acts v_t_reading v_t_begun v_t_brokenAt f_t_kinds f_t_firsts f_t_seconds) H locs → lv_has ls 2 [] → W p l e ({ frames := 2, cells := 0, slots := 0, locals := 44 } : Room) s m args below meth cd H locs 0 0 Q (F0 m 63 ls [.int s0]) := by
    intro  v_t_acts v_t_begun f_t_kinds f_t_firsts f_t_seconds s0 H locs ls hf hw hl
    exact hret1 s0 v_t_acts v_t_begun f_t_kinds f_t_firsts f_t_seconds _ _ _ _ hf hw dX7_readSign_63
  refine lv_aload_n hx hb dX7_readSign_0 rfl (lv_at hl 0 rfl) ?_
  refine g_get hx hb hG hown hK hw inlX7 (ci := 6) rfl 0 5 (Nat.le_of_ble_eq_true rfl) rfl rfl wd_4_7 dX7_readSign_1 ?_
  by_cases hs1 : v_t_reading = 1
  · have hf := g_t hs1 hf
    refine lv_tableIn (off := 28) (tgt := 32) hx hb dX7_readSign_4 (by rw [hs1]; decide) (by rw [hs1]; decide) (by rw [hs1] <;> rfl) (by decide) ?_
    refine lv_aload_n hx hb dX7_readSign_32 rfl (lv_at hl 0 rfl) ?_
    refine lv_iload_n hx hb dX7_readSign_33 rfl (lv_at hl 1 rfl) ?_
    obtain ⟨r2, hc3, hf⟩ := gB_s hf
    refine g_ki (is := [0, 1, 2, 3]) (w1 := (wX7_readDeed E o_t a_t v_t_signs r2.2.1 v_t_reading v_t_begun v_t_brokenAt r2.2.2.1 r2.2.2.2.1 r2.2.2.2.2)) (ws' := (wX7_readSign E o_t a_t v_t_signs r2.2.1 v_t_reading v_t_begun v_t_brokenAt r2.2.2.1 r2.2.2.2.1 r2.2.2.2.2)) hw hA (g_rV hx hb hml hG hown hK hw (is := [0, 1, 2, 3]) rfl (by decide) (mX7_readDeed l E o_t a_t v_t_signs v_t_acts v_t_reading v_t_begun v_t_brokenAt f_t_kinds f_t_firsts f_t_seconds x1 r2.1 r2.2.1 r2.2.2.1 r2.2.2.2.1 r2.2.2.2.2 hc3) wd_12_8 wd_12_9 wd_12_10 wd_1_21 wd_12_11 hX7_readDeed g_allgood ⟨rfl, rfl⟩ ⟨Nat.le_of_ble_eq_true rfl, Nat.le_of_ble_eq_true rfl⟩ ⟨Nat.zero_le _, Nat.zero_le _⟩ (ci := 6) (q0 := 0) rfl rfl rfl rfl hl.1 rfl (Nat.le_of_ble_eq_true rfl) dX7_readSign_34) rfl rfl rfl (fun H locs hw => ?_)
    exact hret1 r2.1 r2.2.1 v_t_begun r2.2.2.1 r2.2.2.2.1 r2.2.2.2.2 _ _ _ _ hf hw dX7_readSign_37
  have hf := g_f hs1 hf
  by_cases hs4 : v_t_reading = 2
  · have hf := g_t hs4 hf
    refine lv_tableIn (off := 34) (tgt := 38) hx hb dX7_readSign_4 (by rw [hs4]; decide) (by rw [hs4]; decide) (by rw [hs4] <;> rfl) (by decide) ?_
    refine lv_aload_n hx hb dX7_readSign_38 rfl (lv_at hl 0 rfl) ?_
    refine lv_iload_n hx hb dX7_readSign_39 rfl (lv_at hl 1 rfl) ?_
    refine lv_bipush (v := 48) hx hb dX7_readSign_40 k_b48 ?_
    refine lv_isub hx hb dX7_readSign_42 ?_
    refine g_put (ws' := (wX7_readSign E o_t a_t v_t_signs v_t_acts v_t_reading (x1 - 48) v_t_brokenAt f_t_kinds f_t_firsts f_t_seconds)) hx hb hG hown hK hw inlX7 tyX7_ok nmX7 (ci := 6) rfl 0 6 (Nat.le_of_ble_eq_true rfl) rfl wd_4_8 rfl rfl rfl (Nat.le_of_ble_eq_true rfl) rfl dX7_readSign_43 (fun H locs hw => ?_)
    refine lv_aload_n hx hb dX7_readSign_46 rfl (lv_at hl 0 rfl) ?_
    refine g_get hx hb hG hown hK hw inlX7 (ci := 6) rfl 0 6 (Nat.le_of_ble_eq_true rfl) rfl rfl wd_4_8 dX7_readSign_47 ?_
    refine lv_iconst (v := 0) hx hb dX7_readSign_50 k_i0 ?_
    refine lv_iconst (v := 3) hx hb dX7_readSign_51 k_i3 ?_
    obtain ⟨r5, hc6, hf⟩ := gB_s hf
    refine g_ki (is := []) (w1 := (wX10_within E)) (ws' := (wX7_readSign E o_t a_t v_t_signs v_t_acts v_t_reading (x1 - 48) v_t_brokenAt f_t_kinds f_t_firsts f_t_seconds)) hw hA (g_rN (host := "SeedBank") hx hb hml hG hown hK hw (is := []) rfl (by decide) (mX10_within l E (x1 - 48) 0 3 r5 hc6) (List.mem_of_getElem? (i := 10) rfl) wd_7_2 wd_1_2 wd_7_3 hX10_within g_allgood ⟨rfl, rfl⟩ ⟨Nat.le_of_ble_eq_true rfl, Nat.le_of_ble_eq_true rfl⟩ ⟨Nat.zero_le _, Nat.zero_le _⟩ rfl hl.1 rfl (Nat.le_of_ble_eq_true rfl) dX7_readSign_52) rfl rfl rfl (fun H locs hw => ?_)
    refine lv_if_eq (tgt := 62) hx hb dX7_readSign_55 (by decide) (fun hc => ?_) (fun hc => ?_)
    · have hf := g_t hc hf
      refine lv_iconst (v := 4) hx hb dX7_readSign_62 k_i4 ?_
      exact B63 v_t_acts (x1 - 48) f_t_kinds f_t_firsts f_t_seconds 4 _ _ _ hf hw (lv_sub hl [] rfl)
    · have hf := g_f hc hf
      refine lv_iconst (v := 3) hx hb dX7_readSign_58 k_i3 ?_
      refine lv_goto (tgt := 63) hx hb dX7_readSign_59 (by decide) ?_
      exact B63 v_t_acts (x1 - 48) f_t_kinds f_t_firsts f_t_seconds 3 _ _ _ hf hw (lv_sub hl [] rfl)
  have hf := g_f hs4 hf
  by_cases hs7 : v_t_reading = 3
  · have hf := g_t hs7 hf
    refine lv_tableIn (off := 60) (tgt := 64) hx hb dX7_readSign_4 (by rw [hs7]; decide) (by rw [hs7]; decide) (by rw [hs7] <;> rfl) (by decide) ?_
    refine lv_iload_n hx hb dX7_readSign_64 rfl (lv_at hl 1 rfl) ?_
    refine lv_bipush (v := 48) hx hb dX7_readSign_65 k_b48 ?_
    refine lv_isub hx hb dX7_readSign_67 ?_
    refine lv_iconst (v := 0) hx hb dX7_readSign_68 k_i0 ?_
    refine lv_iconst (v := 5) hx hb dX7_readSign_69 k_i5 ?_
    obtain ⟨r8, hc9, hf⟩ := gB_s hf
    refine g_ki (is := []) (w1 := (wX10_within E)) (ws' := (wX7_readSign E o_t a_t v_t_signs v_t_acts v_t_reading v_t_begun v_t_brokenAt f_t_kinds f_t_firsts f_t_seconds)) hw hA (g_rN (host := "SeedBank") hx hb hml hG hown hK hw (is := []) rfl (by decide) (mX10_within l E (x1 - 48) 0 5 r8 hc9) (List.mem_of_getElem? (i := 10) rfl) wd_7_2 wd_1_2 wd_7_3 hX10_within g_allgood ⟨rfl, rfl⟩ ⟨Nat.le_of_ble_eq_true rfl, Nat.le_of_ble_eq_true rfl⟩ ⟨Nat.zero_le _, Nat.zero_le _⟩ rfl hl.1 rfl (Nat.le_of_ble_eq_true rfl) dX7_readSign_70) rfl rfl rfl (fun H locs hw => ?_)
    refine lv_if_eq (tgt := 92) hx hb dX7_readSign_73 (by decide) (fun hc => ?_) (fun hc => ?_)
    · have hf := g_t hc hf
      refine lv_iconst (v := 4) hx hb dX7_readSign_92 k_i4 ?_
      exact B93 v_t_acts v_t_begun f_t_kinds f_t_firsts f_t_seconds 4 _ _ _ hf hw (lv_sub hl [] rfl)
    · have hf := g_f hc hf
      refine lv_aload_n hx hb dX7_readSign_76 rfl (lv_at hl 0 rfl) ?_
      refine lv_iconst (v := 3) hx hb dX7_readSign_77 k_i3 ?_
      refine lv_aload_n hx hb dX7_readSign_78 rfl (lv_at hl 0 rfl) ?_
      refine g_get hx hb hG hown hK hw inlX7 (ci := 6) rfl 0 6 (Nat.le_of_ble_eq_true rfl) rfl rfl wd_4_8 dX7_readSign_79 ?_
      refine lv_iload_n hx hb dX7_readSign_82 rfl (lv_at hl 1 rfl) ?_
      refine lv_bipush (v := 48) hx hb dX7_readSign_83 k_b48 ?_
      refine lv_isub hx hb dX7_readSign_85 ?_
      obtain ⟨r10, hc11, hf⟩ := gB_s hf
      refine g_ki (is := [0, 1, 2, 3]) (w1 := (wX7_endAct E o_t a_t v_t_signs r10.2.1 v_t_reading v_t_begun v_t_brokenAt r10.2.2.1 r10.2.2.2.1 r10.2.2.2.2)) (ws' := (wX7_readSign E o_t a_t v_t_signs r10.2.1 v_t_reading v_t_begun v_t_brokenAt r10.2.2.1 r10.2.2.2.1 r10.2.2.2.2)) hw hA (g_rV hx hb hml hG hown hK hw (is := [0, 1, 2, 3]) rfl (by decide) (mX7_endAct l E o_t a_t v_t_signs v_t_acts v_t_reading v_t_begun v_t_brokenAt f_t_kinds f_t_firsts f_t_seconds 3 v_t_begun (x1 - 48) r10.1 r10.2.1 r10.2.2.1 r10.2.2.2.1 r10.2.2.2.2 hc11) wd_12_12 wd_12_13 wd_12_14 wd_1_21 wd_12_15 hX7_endAct g_allgood ⟨rfl, rfl⟩ ⟨Nat.le_of_ble_eq_true rfl, Nat.le_of_ble_eq_true rfl⟩ ⟨Nat.zero_le _, Nat.zero_le _⟩ (ci := 6) (q0 := 0) rfl rfl rfl rfl hl.1 rfl (Nat.le_of_ble_eq_true rfl) dX7_readSign_86) rfl rfl rfl (fun H locs hw => ?_)
      refine lv_goto (tgt := 93) hx hb dX7_readSign_89 (by decide) ?_
      exact B93 r10.2.1 v_t_begun r10.2.2.1 r10.2.2.2.1 r10.2.2.2.2 r10.1 _ _ _ hf hw (lv_sub hl [] rfl)
  have hf := g_f hs7 hf
  have nhs1 := lv_neT hs1 (show (1 : Int32).toInt = 1 from by decide)
  have nhs4 := lv_neT hs4 (show (2 : Int32).toInt = 2 from by decide)
  have nhs7 := lv_neT hs7 (show (3 : Int32).toInt = 3 from by decide)
  refine lv_tableOut (tgt := 94) hx hb dX7_readSign_4 (by omega) (by decide) ?_
  refine lv_aload_n hx hb dX7_readSign_94 rfl (lv_at hl 0 rfl) ?_
  refine lv_iload_n hx hb dX7_readSign_95 rfl (lv_at hl 1 rfl) ?_
  obtain ⟨r12, hc13, hf⟩ := gB_s hf
  refine g_ki (is := [0, 1, 2, 3]) (w1 := (wX7_readBeginning E o_t a_t v_t_signs r12.2.1 v_t_reading r12.2.2.1 v_t_brokenAt r12.2.2.2.1 r12.2.2.2.2.1 r12.2.2.2.2.2)) (ws' := (wX7_readSign E o_t a_t v_t_signs r12.2.1 v_t_reading r12.2.2.1 v_t_brokenAt r12.2.2.2.1 r12.2.2.2.2.1 r12.2.2.2.2.2)) hw hA (g_rV hx hb hml hG hown hK hw (is := [0, 1, 2, 3]) rfl (by decide) (mX7_readBeginning l E o_t a_t v_t_signs v_t_acts v_t_reading v_t_begun v_t_brokenAt f_t_kinds f_t_firsts f_t_seconds x1 r12.1 r12.2.1 r12.2.2.1 r12.2.2.2.1 r12.2.2.2.2.1 r12.2.2.2.2.2 hc13) wd_12_16 wd_12_17 wd_12_18 wd_1_21 wd_12_19 hX7_readBeginning g_allgood ⟨rfl, rfl⟩ ⟨Nat.le_of_ble_eq_true rfl, Nat.le_of_ble_eq_true rfl⟩ ⟨Nat.zero_le _, Nat.zero_le _⟩ (ci := 6) (q0 := 0) rfl rfl rfl rfl hl.1 rfl (Nat.le_of_ble_eq_true rfl) dX7_readSign_96) rfl rfl rfl (fun H locs hw => ?_)
  exact hret1 r12.1 r12.2.1 r12.2.2.1 r12.2.2.2.1 r12.2.2.2.2.1 r12.2.2.2.2.2 _ _ _ _ hf hw dX7_readSign_99
theorem hX7_write : yX7_write.cls = RX7 ∧ yX7_write.cls ≠ "java/lang/invoke/MethodHandle" ∧ yX7_write.cls ≠ "java/lang/invoke/VarHandle" ∧ (parseMethodDescriptor yX7_write.desc).map (fun d => d.parameters.length) = some 1 := by decide +kernel
set_option maxHeartbeats 4000000 in
set_option maxRecDepth 100000 in
theorem mX7_write (l : Launch) (E : gE) (o_t : Nat) (a_t : (Nat → Nat)) (v_t_signs : Int32) (v_t_acts : Int32) (v_t_reading : Int32) (v_t_begun : Int32) (v_t_brokenAt : Int32) (f_t_kinds : (Nat → Int32)) (f_t_firsts : (Nat → Int32)) (f_t_seconds : (Nat → Int32)) (x1 : Int32) (z_t_signs : Int32) (z_t_acts : Int32) (z_t_reading : Int32) (z_t_begun : Int32) (z_t_brokenAt : Int32) (z_t_kinds : (Nat → Int32)) (z_t_firsts : (Nat → Int32)) (z_t_seconds : (Nat → Int32)) (hf : fX7_write v_t_signs v_t_acts v_t_reading v_t_begun v_t_brokenAt f_t_kinds f_t_firsts f_t_seconds x1 = some (z_t_signs, z_t_acts, z_t_reading, z_t_begun, z_t_brokenAt, z_t_kinds, z_t_firsts, z_t_seconds)) {sz : Nat} : gMv l yX7_write (gW yX7_write cX7_write 2 none) ({ frames := 3, cells := 0, slots := 0, locals := 65 } : Room) E [.ref o_t, .int x1] (wX7_write E o_t a_t v_t_signs v_t_acts v_t_reading v_t_begun v_t_brokenAt f_t_kinds f_t_firsts f_t_seconds) sz (wX7_write E o_t a_t z_t_signs z_t_acts z_t_reading z_t_begun z_t_brokenAt z_t_kinds z_t_firsts z_t_seconds) := by
  refine g_openV (own := RX7) (by decide) rfl (Nat.le_of_ble_eq_true rfl) (fun p e s m args below meth cd Q A hx hb hml hown hG hK hA hret hw ls hl => ?_)
  have hl : lv_has ls 2 [(0, .ref o_t), (1, .int x1)] := hl
  have hret1 : ∀ (v_t_signs : Int32) (v_t_acts : Int32) (v_t_reading : Int32) (v_t_begun : Int32) (v_t_brokenAt : Int32) (f_t_kinds : (Nat → Int32)) (f_t_firsts : (Nat → Int32)) (f_t_seconds : (Nat → Int32)) (H : Heap) (locs : List Loc) (pc : Nat) (ls : Array Slot), some (v_t_signs, v_t_acts, v_t_reading, v_t_begun, v_t_brokenAt, f_t_kinds, f_t_firsts, f_t_seconds) = some (z_t_signs, z_t_acts, z_t_reading, z_t_begun, z_t_brokenAt, z_t_kinds, z_t_firsts, z_t_seconds) → gS E A s.heap (wX7_write E o_t a_t v_t_signs v_t_acts v_t_reading v_t_begun v_t_brokenAt f_t_kinds f_t_firsts f_t_seconds) H locs → decode cX7_write pc = .ok (.return_, 1) → W p l e ({ frames := 3, cells := 0, slots := 0, locals := 65 } : Room) s m args below meth cd H locs 0 0 Q (F0 m pc ls []) := by
    intro v_t_signs v_t_acts v_t_reading v_t_begun v_t_brokenAt f_t_kinds f_t_firsts f_t_seconds H locs pc ls h hw hd
    cases h
    exact hret H locs pc ls hw hd
  have B25 : ∀ (v_t_signs : Int32) (v_t_acts : Int32) (v_t_reading : Int32) (v_t_begun : Int32) (v_t_brokenAt : Int32) (f_t_kinds : (Nat → Int32)) (f_t_firsts : (Nat → Int32)) (f_t_seconds : (Nat → Int32)) (H : Heap) (locs : List Loc) (ls : Array Slot), fX7_write_b25 v_t_signs v_t_acts v_t_reading v_t_begun v_t_brokenAt f_t_kinds f_t_firsts f_t_seconds = some (z_t_signs, z_t_acts, z_t_reading, z_t_begun, z_t_brokenAt, z_t_kinds, z_t_firsts, z_t_seconds) → gS E A s.heap (wX7_write E o_t a_t v_t_signs v_t_acts v_t_reading v_t_begun v_t_brokenAt f_t_kinds f_t_firsts f_t_seconds) H locs → lv_has ls 2 [(0, .ref o_t)] → W p l e ({ frames := 3, cells := 0, slots := 0, locals := 65 } : Room) s m args below meth cd H locs 0 0 Q (F0 m 25 ls []) := by
    intro  v_t_signs v_t_acts v_t_reading v_t_begun v_t_brokenAt f_t_kinds f_t_firsts f_t_seconds H locs ls hf hw hl
    refine lv_aload_n hx hb dX7_write_25 rfl (lv_at hl 0 rfl) ?_
    refine lv_dup hx hb dX7_write_26 rfl ?_
    refine g_get hx hb hG hown hK hw inlX7 (ci := 6) rfl 0 3 (Nat.le_of_ble_eq_true rfl) rfl rfl wd_4_5 dX7_write_27 ?_
    refine lv_iconst (v := 1) hx hb dX7_write_30 k_i1 ?_
    refine lv_iadd hx hb dX7_write_31 ?_
    refine g_put (ws' := (wX7_write E o_t a_t (v_t_signs + 1) v_t_acts v_t_reading v_t_begun v_t_brokenAt f_t_kinds f_t_firsts f_t_seconds)) hx hb hG hown hK hw inlX7 tyX7_ok nmX7 (ci := 6) rfl 0 3 (Nat.le_of_ble_eq_true rfl) rfl wd_4_5 rfl rfl rfl (Nat.le_of_ble_eq_true rfl) rfl dX7_write_32 (fun H locs hw => ?_)
    exact hret1 (v_t_signs + 1) v_t_acts v_t_reading v_t_begun v_t_brokenAt f_t_kinds f_t_firsts f_t_seconds _ _ _ _ hf hw dX7_write_35
  refine lv_aload_n hx hb dX7_write_0 rfl (lv_at hl 0 rfl) ?_
  refine g_get hx hb hG hown hK hw inlX7 (ci := 6) rfl 0 5 (Nat.le_of_ble_eq_true rfl) rfl rfl wd_4_7 dX7_write_1 ?_
  refine lv_iconst (v := 4) hx hb dX7_write_4 k_i4 ?_
  refine lv_icmp_eq (tgt := 25) hx hb dX7_write_5 (by decide) (fun hc => ?_) (fun hc => ?_)
  · have hf := g_t hc hf
    exact B25 v_t_signs v_t_acts v_t_reading v_t_begun v_t_brokenAt f_t_kinds f_t_firsts f_t_seconds _ _ _ hf hw (lv_sub hl [0] rfl)
  · have hf := g_f hc hf
    refine lv_aload_n hx hb dX7_write_8 rfl (lv_at hl 0 rfl) ?_
    refine lv_aload_n hx hb dX7_write_9 rfl (lv_at hl 0 rfl) ?_
    refine lv_iload_n hx hb dX7_write_10 rfl (lv_at hl 1 rfl) ?_
    obtain ⟨r1, hc2, hf⟩ := gB_s hf
    refine g_ki (is := [0, 1, 2, 3]) (w1 := (wX7_readSign E o_t a_t v_t_signs r1.2.1 v_t_reading r1.2.2.1 v_t_brokenAt r1.2.2.2.1 r1.2.2.2.2.1 r1.2.2.2.2.2)) (ws' := (wX7_write E o_t a_t v_t_signs r1.2.1 v_t_reading r1.2.2.1 v_t_brokenAt r1.2.2.2.1 r1.2.2.2.2.1 r1.2.2.2.2.2)) hw hA (g_rV hx hb hml hG hown hK hw (is := [0, 1, 2, 3]) rfl (by decide) (mX7_readSign l E o_t a_t v_t_signs v_t_acts v_t_reading v_t_begun v_t_brokenAt f_t_kinds f_t_firsts f_t_seconds x1 r1.1 r1.2.1 r1.2.2.1 r1.2.2.2.1 r1.2.2.2.2.1 r1.2.2.2.2.2 hc2) wd_12_4 wd_12_5 wd_12_6 wd_1_21 wd_12_7 hX7_readSign g_allgood ⟨rfl, rfl⟩ ⟨Nat.le_of_ble_eq_true rfl, Nat.le_of_ble_eq_true rfl⟩ ⟨Nat.zero_le _, Nat.zero_le _⟩ (ci := 6) (q0 := 0) rfl rfl rfl rfl hl.1 rfl (Nat.le_of_ble_eq_true rfl) dX7_write_11) rfl rfl rfl (fun H locs hw => ?_)
    refine g_put (ws' := (wX7_write E o_t a_t v_t_signs r1.2.1 r1.1 r1.2.2.1 v_t_brokenAt r1.2.2.2.1 r1.2.2.2.2.1 r1.2.2.2.2.2)) hx hb hG hown hK hw inlX7 tyX7_ok nmX7 (ci := 6) rfl 0 5 (Nat.le_of_ble_eq_true rfl) rfl wd_4_7 rfl rfl rfl (Nat.le_of_ble_eq_true rfl) rfl dX7_write_14 (fun H locs hw => ?_)
    refine lv_aload_n hx hb dX7_write_17 rfl (lv_at hl 0 rfl) ?_
    refine lv_aload_n hx hb dX7_write_18 rfl (lv_at hl 0 rfl) ?_
    refine g_get hx hb hG hown hK hw inlX7 (ci := 6) rfl 0 3 (Nat.le_of_ble_eq_true rfl) rfl rfl wd_4_5 dX7_write_19 ?_
    refine g_put (ws' := (wX7_write E o_t a_t v_t_signs r1.2.1 r1.1 r1.2.2.1 v_t_signs r1.2.2.2.1 r1.2.2.2.2.1 r1.2.2.2.2.2)) hx hb hG hown hK hw inlX7 tyX7_ok nmX7 (ci := 6) rfl 0 7 (Nat.le_of_ble_eq_true rfl) rfl wd_4_9 rfl rfl rfl (Nat.le_of_ble_eq_true rfl) rfl dX7_write_22 (fun H locs hw => ?_)
    exact B25 v_t_signs r1.2.1 r1.1 r1.2.2.1 v_t_signs r1.2.2.2.1 r1.2.2.2.2.1 r1.2.2.2.2.2 _ _ _ hf hw (lv_sub hl [0] rfl)
theorem hX8_windBetween : yX8_windBetween.cls ≠ "java/lang/invoke/MethodHandle" ∧ yX8_windBetween.cls ≠ "java/lang/invoke/VarHandle" ∧ (parseMethodDescriptor yX8_windBetween.desc).map (fun d => d.parameters.length) = some 3 := by decide +kernel
set_option maxHeartbeats 4000000 in
set_option maxRecDepth 100000 in
theorem mX8_windBetween (l : Launch) (E : gE) (o_p0 : Nat) (a_p0 : (Nat → Nat)) (v_p0_families : Int32) (v_p0_wind : Int32) (v_p0_force : Int32) (v_p0_rain : Int32) (v_p0_lost : Int32) (v_p0_hour : Int32) (f_p0_home : (Nat → Int32)) (x1 : Int32) (x2 : Int32) (rv : Int32) (hf : fX8_windBetween f_p0_home x1 x2 = some rv) {sz : Nat} : gMi l yX8_windBetween (gW yX8_windBetween cX8_windBetween 7 (some .int)) ({ frames := 1, cells := 0, slots := 0, locals := 25 } : Room) E [.ref o_p0, .int x1, .int x2] (wX8_windBetween E o_p0 a_p0 v_p0_families v_p0_wind v_p0_force v_p0_rain v_p0_lost v_p0_hour f_p0_home) sz rv (wX8_windBetween E o_p0 a_p0 v_p0_families v_p0_wind v_p0_force v_p0_rain v_p0_lost v_p0_hour f_p0_home) := by
  refine g_openI (own := RX8) (by decide) rfl (Nat.le_of_ble_eq_true rfl) (fun p e s m args below meth cd Q A hx hb hml hown hG hK hA hret hw ls hl => ?_)
  have hl : lv_has ls 7 [(0, .ref o_p0), (1, .int x1), (2, .int x2)] := hl
  have hret1 : ∀ (v : Int32)  (H : Heap) (locs : List Loc) (pc : Nat) (ls : Array Slot), some v = some rv → gS E A s.heap (wX8_windBetween E o_p0 a_p0 v_p0_families v_p0_wind v_p0_force v_p0_rain v_p0_lost v_p0_hour f_p0_home) H locs → decode cX8_windBetween pc = .ok (.ireturn, 1) → W p l e ({ frames := 1, cells := 0, slots := 0, locals := 25 } : Room) s m args below meth cd H locs 0 0 Q (F0 m pc ls [.int v]) := by
    intro v  H locs pc ls h hw hd
    cases h
    exact hret H locs pc ls hw hd
  have B31 : ∀ (K22 : Int32 → Int32 → Int32 → Option (Int32)) (hK22 : ∀ (x3 : Int32) (x4 : Int32) (x5 : Int32) (H : Heap) (locs : List Loc) (ls : Array Slot), K22 x3 x4 x5 = some rv → gS E A s.heap (wX8_windBetween E o_p0 a_p0 v_p0_families v_p0_wind v_p0_force v_p0_rain v_p0_lost v_p0_hour f_p0_home) H locs → lv_has ls 7 [(3, .int x3), (4, .int x4), (5, .int x5)] → W p l e ({ frames := 1, cells := 0, slots := 0, locals := 25 } : Room) s m args below meth cd H locs 0 0 Q (F0 m 22 ls [])), ∀ n : Nat, ∀ (x3 : Int32) (x4 : Int32) (x5 : Int32) (x6 : Int32) (H : Heap) (locs : List Loc) (ls : Array Slot), fX8_windBetween_b31 K22 n x3 x4 x5 x6 = some rv → gS E A s.heap (wX8_windBetween E o_p0 a_p0 v_p0_families v_p0_wind v_p0_force v_p0_rain v_p0_lost v_p0_hour f_p0_home) H locs → lv_has ls 7 [(3, .int x3), (4, .int x4), (5, .int x5), (6, .int x6)] → W p l e ({ frames := 1, cells := 0, slots := 0, locals := 25 } : Room) s m args below meth cd H locs 0 0 Q (F0 m 31 ls []) := by
    intro K22 hK22
    intro n
    induction n with
    | zero => intro x3 x4 x5 x6 H locs ls hf hw hl; exact g_no hf
    | succ n ih =>
      intro x3 x4 x5 x6 H locs ls hf hw hl
      refine lv_iload hx hb dX8_windBetween_31 (lv_at hl 3 rfl) ?_
      refine lv_iconst (v := 5) hx hb dX8_windBetween_33 k_i5 ?_
      refine lv_icmp_gt (tgt := 65) hx hb dX8_windBetween_34 (by decide) (fun hc => ?_) (fun hc => ?_)
      · have hf := g_t hc hf
        refine lv_iinc (lv' := [(5, .int (x5 + 1)), (3, .int x3), (4, .int x4), (6, .int x6)]) hx hb dX8_windBetween_65 hl (k := 2) rfl (k_inc1 _) (Nat.le_of_ble_eq_true rfl) rfl (fun ls hl => ?_)
        refine lv_goto (tgt := 22) hx hb dX8_windBetween_68 (by decide) ?_
        exact hK22 x3 x4 (x5 + 1) _ _ _ hf hw (lv_sub hl [1, 2, 0] rfl)
      · have hf := g_f hc hf
        refine lv_iload_n hx hb dX8_windBetween_37 rfl (lv_at hl 0 rfl) ?_
        refine lv_iload hx hb dX8_windBetween_38 (lv_at hl 2 rfl) ?_
        refine lv_iload hx hb dX8_windBetween_40 (lv_at hl 3 rfl) ?_
        obtain ⟨r1, hc2, hf⟩ := gB_s hf
        refine g_ki (is := []) (w1 := (wX10_downwind E)) (ws' := (wX8_windBetween E o_p0 a_p0 v_p0_families v_p0_wind v_p0_force v_p0_rain v_p0_lost v_p0_hour f_p0_home)) hw hA (g_rN (host := "SeedBank") hx hb hml hG hown hK hw (is := []) rfl (by decide) (mX10_downwind l E x3 x5 x6 r1 hc2) (List.mem_of_getElem? (i := 18) rfl) wd_17_12 wd_1_2 wd_17_13 hX10_downwind g_allgood ⟨rfl, rfl⟩ ⟨Nat.le_of_ble_eq_true rfl, Nat.le_of_ble_eq_true rfl⟩ ⟨Nat.zero_le _, Nat.zero_le _⟩ rfl hl.1 rfl (Nat.le_of_ble_eq_true rfl) dX8_windBetween_42) rfl rfl rfl (fun H locs hw => ?_)
        refine lv_iload hx hb dX8_windBetween_45 (lv_at hl 1 rfl) ?_
        refine lv_icmp_ne (tgt := 59) hx hb dX8_windBetween_47 (by decide) (fun hc => ?_) (fun hc => ?_)
        · have hf := g_f hc hf
          refine lv_iinc (lv' := [(6, .int (x6 + 1)), (3, .int x3), (4, .int x4), (5, .int x5)]) hx hb dX8_windBetween_59 hl (k := 3) rfl (k_inc1 _) (Nat.le_of_ble_eq_true rfl) rfl (fun ls hl => ?_)
          refine lv_goto (tgt := 31) hx hb dX8_windBetween_62 (by decide) ?_
          exact ih x3 x4 x5 (x6 + 1) _ _ _ hf hw (lv_sub hl [1, 2, 3, 0] rfl)
        · have hf := g_t hc hf
          refine lv_bipush (v := 10) hx hb dX8_windBetween_50 k_b10 ?_
          refine lv_iload hx hb dX8_windBetween_52 (lv_at hl 2 rfl) ?_
          refine lv_imul hx hb dX8_windBetween_54 ?_
          refine lv_iload hx hb dX8_windBetween_55 (lv_at hl 3 rfl) ?_
          refine lv_iadd hx hb dX8_windBetween_57 ?_
          exact hret1 ((10 * x5) + x6) _ _ _ _ hf hw dX8_windBetween_58
  have B22 : ∀ n : Nat, ∀ (x3 : Int32) (x4 : Int32) (x5 : Int32) (H : Heap) (locs : List Loc) (ls : Array Slot), fX8_windBetween_b22 n x3 x4 x5 = some rv → gS E A s.heap (wX8_windBetween E o_p0 a_p0 v_p0_families v_p0_wind v_p0_force v_p0_rain v_p0_lost v_p0_hour f_p0_home) H locs → lv_has ls 7 [(3, .int x3), (4, .int x4), (5, .int x5)] → W p l e ({ frames := 1, cells := 0, slots := 0, locals := 25 } : Room) s m args below meth cd H locs 0 0 Q (F0 m 22 ls []) := by
    intro n
    induction n with
    | zero => intro x3 x4 x5 H locs ls hf hw hl; exact g_no hf
    | succ n ih =>
      intro x3 x4 x5 H locs ls hf hw hl
      refine lv_iload hx hb dX8_windBetween_22 (lv_at hl 2 rfl) ?_
      refine lv_iconst (v := 4) hx hb dX8_windBetween_24 k_i4 ?_
      refine lv_icmp_ge (tgt := 71) hx hb dX8_windBetween_25 (by decide) (fun hc => ?_) (fun hc => ?_)
      · have hf := g_t hc hf
        refine lv_bipush (v := -6) hx hb dX8_windBetween_71 k_bm6 ?_
        exact hret1 (-6) _ _ _ _ hf hw dX8_windBetween_73
      · have hf := g_f hc hf
        refine lv_iconst (v := 1) hx hb dX8_windBetween_28 k_i1 ?_
        refine lv_istore (lv' := [(6, .int 1), (3, .int x3), (4, .int x4), (5, .int x5)]) hx hb dX8_windBetween_29 hl (Nat.le_of_ble_eq_true rfl) rfl (fun ls hl => ?_)
        exact B31 (fX8_windBetween_b22 n) ih 1000 x3 x4 x5 1 _ _ _ hf hw (lv_sub hl [1, 2, 3, 0] rfl)
  refine lv_aload_n hx hb dX8_windBetween_0 rfl (lv_at hl 0 rfl) ?_
  refine g_get hx hb hG hown hK hw inlX6 (ci := 5) rfl 0 0 (Nat.le_of_ble_eq_true rfl) rfl rfl wd_25_14 dX8_windBetween_1 ?_
  refine lv_iload_n hx hb dX8_windBetween_4 rfl (lv_at hl 1 rfl) ?_
  obtain ⟨r3, hc4, hf⟩ := gB_s hf
  refine g_ki (is := [1]) (w1 := (wX10_at E (a_p0 0) 6 f_p0_home)) (ws' := (wX8_windBetween E o_p0 a_p0 v_p0_families v_p0_wind v_p0_force v_p0_rain v_p0_lost v_p0_hour f_p0_home)) hw hA (g_rN (host := "SeedBank") hx hb hml hG hown hK hw (is := [1]) rfl (by decide) (mX10_at l E (a_p0 0) 6 f_p0_home x1 r3 hc4) (List.mem_of_getElem? (i := 17) rfl) wd_15_23 wd_1_2 wd_16_0 hX10_at g_allgood ⟨rfl, rfl⟩ ⟨Nat.le_of_ble_eq_true rfl, Nat.le_of_ble_eq_true rfl⟩ ⟨Nat.zero_le _, Nat.zero_le _⟩ rfl hl.1 rfl (Nat.le_of_ble_eq_true rfl) dX8_windBetween_5) rfl rfl rfl (fun H locs hw => ?_)
  refine lv_istore_n (lv' := [(3, .int r3), (0, .ref o_p0), (1, .int x1), (2, .int x2)]) hx hb dX8_windBetween_8 rfl hl (Nat.le_of_ble_eq_true rfl) rfl (fun ls hl => ?_)
  refine lv_aload_n hx hb dX8_windBetween_9 rfl (lv_at hl 1 rfl) ?_
  refine g_get hx hb hG hown hK hw inlX6 (ci := 5) rfl 0 0 (Nat.le_of_ble_eq_true rfl) rfl rfl wd_25_14 dX8_windBetween_10 ?_
  refine lv_iload_n hx hb dX8_windBetween_13 rfl (lv_at hl 3 rfl) ?_
  obtain ⟨r5, hc6, hf⟩ := gB_s hf
  refine g_ki (is := [1]) (w1 := (wX10_at E (a_p0 0) 6 f_p0_home)) (ws' := (wX8_windBetween E o_p0 a_p0 v_p0_families v_p0_wind v_p0_force v_p0_rain v_p0_lost v_p0_hour f_p0_home)) hw hA (g_rN (host := "SeedBank") hx hb hml hG hown hK hw (is := [1]) rfl (by decide) (mX10_at l E (a_p0 0) 6 f_p0_home x2 r5 hc6) (List.mem_of_getElem? (i := 17) rfl) wd_15_23 wd_1_2 wd_16_0 hX10_at g_allgood ⟨rfl, rfl⟩ ⟨Nat.le_of_ble_eq_true rfl, Nat.le_of_ble_eq_true rfl⟩ ⟨Nat.zero_le _, Nat.zero_le _⟩ rfl hl.1 rfl (Nat.le_of_ble_eq_true rfl) dX8_windBetween_14) rfl rfl rfl (fun H locs hw => ?_)
  refine lv_istore (lv' := [(4, .int r5), (3, .int r3), (0, .ref o_p0), (1, .int x1), (2, .int x2)]) hx hb dX8_windBetween_17 hl (Nat.le_of_ble_eq_true rfl) rfl (fun ls hl => ?_)
  refine lv_iconst (v := 0) hx hb dX8_windBetween_19 k_i0 ?_
  refine lv_istore (lv' := [(5, .int 0), (4, .int r5), (3, .int r3), (0, .ref o_p0), (1, .int x1), (2, .int x2)]) hx hb dX8_windBetween_20 hl (Nat.le_of_ble_eq_true rfl) rfl (fun ls hl => ?_)
  exact B22 1000 r3 r5 0 _ _ _ hf hw (lv_sub hl [2, 1, 0] rfl)
theorem hX8_isOnePuff : yX8_isOnePuff.cls ≠ "java/lang/invoke/MethodHandle" ∧ yX8_isOnePuff.cls ≠ "java/lang/invoke/VarHandle" ∧ (parseMethodDescriptor yX8_isOnePuff.desc).map (fun d => d.parameters.length) = some 3 := by decide +kernel
set_option maxHeartbeats 4000000 in
set_option maxRecDepth 100000 in
theorem mX8_isOnePuff (l : Launch) (E : gE) (o_p0 : Nat) (a_p0 : (Nat → Nat)) (v_p0_families : Int32) (v_p0_wind : Int32) (v_p0_force : Int32) (v_p0_rain : Int32) (v_p0_lost : Int32) (v_p0_hour : Int32) (f_p0_home : (Nat → Int32)) (x1 : Int32) (x2 : Int32) (rv : Int32) (hf : fX8_isOnePuff v_p0_families f_p0_home x1 x2 = some rv) {sz : Nat} : gMi l yX8_isOnePuff (gW yX8_isOnePuff cX8_isOnePuff 3 (some .boolean)) ({ frames := 2, cells := 0, slots := 0, locals := 51 } : Room) E [.ref o_p0, .int x1, .int x2] (wX8_isOnePuff E o_p0 a_p0 v_p0_families v_p0_wind v_p0_force v_p0_rain v_p0_lost v_p0_hour f_p0_home) sz rv (wX8_isOnePuff E o_p0 a_p0 v_p0_families v_p0_wind v_p0_force v_p0_rain v_p0_lost v_p0_hour f_p0_home) := by
  refine g_openZ (own := RX8) (by decide) rfl (Nat.le_of_ble_eq_true rfl) (fun p e s m args below meth cd Q A hx hb hml hown hG hK hA hret hw ls hl => ?_)
  have hl : lv_has ls 3 [(0, .ref o_p0), (1, .int x1), (2, .int x2)] := hl
  have hret1 : ∀ (v : Int32)  (H : Heap) (locs : List Loc) (pc : Nat) (ls : Array Slot), some v = some rv → v &&& 1 = v → gS E A s.heap (wX8_isOnePuff E o_p0 a_p0 v_p0_families v_p0_wind v_p0_force v_p0_rain v_p0_lost v_p0_hour f_p0_home) H locs → decode cX8_isOnePuff pc = .ok (.ireturn, 1) → W p l e ({ frames := 2, cells := 0, slots := 0, locals := 51 } : Room) s m args below meth cd H locs 0 0 Q (F0 m pc ls [.int v]) := by
    intro v  H locs pc ls h hz hw hd
    cases h
    exact hret H locs pc ls hz hw hd
  have B32 : ∀ (s0 : Int32) (H : Heap) (locs : List Loc) (ls : Array Slot), fX8_isOnePuff_b32 s0 = some rv → gS E A s.heap (wX8_isOnePuff E o_p0 a_p0 v_p0_families v_p0_wind v_p0_force v_p0_rain v_p0_lost v_p0_hour f_p0_home) H locs → lv_has ls 3 [] → W p l e ({ frames := 2, cells := 0, slots := 0, locals := 51 } : Room) s m args below meth cd H locs 0 0 Q (F0 m 32 ls [.int s0]) := by
    intro  s0 H locs ls hf hw hl
    obtain ⟨hz1, hf⟩ := gZ_s hf
    exact hret1 s0 _ _ _ _ hf hz1 hw dX8_isOnePuff_32
  have B31 : ∀ (H : Heap) (locs : List Loc) (ls : Array Slot), fX8_isOnePuff_b31 = some rv → gS E A s.heap (wX8_isOnePuff E o_p0 a_p0 v_p0_families v_p0_wind v_p0_force v_p0_rain v_p0_lost v_p0_hour f_p0_home) H locs → lv_has ls 3 [] → W p l e ({ frames := 2, cells := 0, slots := 0, locals := 51 } : Room) s m args below meth cd H locs 0 0 Q (F0 m 31 ls []) := by
    intro   H locs ls hf hw hl
    refine lv_iconst (v := 0) hx hb dX8_isOnePuff_31 k_i0 ?_
    exact B32 0 _ _ _ hf hw (lv_sub hl [] rfl)
  refine lv_aload_n hx hb dX8_isOnePuff_0 rfl (lv_at hl 0 rfl) ?_
  refine lv_iload_n hx hb dX8_isOnePuff_1 rfl (lv_at hl 1 rfl) ?_
  obtain ⟨r2, hc3, hf⟩ := gB_s hf
  refine g_ki (is := [0]) (w1 := (wX6_isThere E o_p0 a_p0 v_p0_families v_p0_wind v_p0_force v_p0_rain v_p0_lost v_p0_hour)) (ws' := (wX8_isOnePuff E o_p0 a_p0 v_p0_families v_p0_wind v_p0_force v_p0_rain v_p0_lost v_p0_hour f_p0_home)) hw hA (g_rV hx hb hml hG hown hK hw (is := [0]) rfl (by decide) (mX6_isThere l E o_p0 a_p0 v_p0_families v_p0_wind v_p0_force v_p0_rain v_p0_lost v_p0_hour x1 r2 hc3) wd_26_12 wd_9_9 wd_9_10 wd_2_20 wd_9_11 hX6_isThere g_allgood ⟨rfl, rfl⟩ ⟨Nat.le_of_ble_eq_true rfl, Nat.le_of_ble_eq_true rfl⟩ ⟨Nat.zero_le _, Nat.zero_le _⟩ (ci := 5) (q0 := 0) rfl rfl rfl rfl hl.1 rfl (Nat.le_of_ble_eq_true rfl) dX8_isOnePuff_2) rfl rfl rfl (fun H locs hw => ?_)
  refine lv_if_eq (tgt := 31) hx hb dX8_isOnePuff_5 (by decide) (fun hc => ?_) (fun hc => ?_)
  · have hf := g_t hc hf
    exact B31 _ _ _ hf hw (lv_sub hl [] rfl)
  · have hf := g_f hc hf
    refine lv_aload_n hx hb dX8_isOnePuff_8 rfl (lv_at hl 0 rfl) ?_
    refine lv_iload_n hx hb dX8_isOnePuff_9 rfl (lv_at hl 2 rfl) ?_
    obtain ⟨r4, hc5, hf⟩ := gB_s hf
    refine g_ki (is := [0]) (w1 := (wX6_isThere E o_p0 a_p0 v_p0_families v_p0_wind v_p0_force v_p0_rain v_p0_lost v_p0_hour)) (ws' := (wX8_isOnePuff E o_p0 a_p0 v_p0_families v_p0_wind v_p0_force v_p0_rain v_p0_lost v_p0_hour f_p0_home)) hw hA (g_rV hx hb hml hG hown hK hw (is := [0]) rfl (by decide) (mX6_isThere l E o_p0 a_p0 v_p0_families v_p0_wind v_p0_force v_p0_rain v_p0_lost v_p0_hour x2 r4 hc5) wd_26_12 wd_9_9 wd_9_10 wd_2_20 wd_9_11 hX6_isThere g_allgood ⟨rfl, rfl⟩ ⟨Nat.le_of_ble_eq_true rfl, Nat.le_of_ble_eq_true rfl⟩ ⟨Nat.zero_le _, Nat.zero_le _⟩ (ci := 5) (q0 := 0) rfl rfl rfl rfl hl.1 rfl (Nat.le_of_ble_eq_true rfl) dX8_isOnePuff_10) rfl rfl rfl (fun H locs hw => ?_)
    refine lv_if_eq (tgt := 31) hx hb dX8_isOnePuff_13 (by decide) (fun hc => ?_) (fun hc => ?_)
    · have hf := g_t hc hf
      exact B31 _ _ _ hf hw (lv_sub hl [] rfl)
    · have hf := g_f hc hf
      refine lv_aload_n hx hb dX8_isOnePuff_16 rfl (lv_at hl 0 rfl) ?_
      refine lv_iload_n hx hb dX8_isOnePuff_17 rfl (lv_at hl 1 rfl) ?_
      refine lv_iload_n hx hb dX8_isOnePuff_18 rfl (lv_at hl 2 rfl) ?_
      obtain ⟨r6, hc7, hf⟩ := gB_s hf
      refine g_ki (is := [0, 1]) (w1 := (wX8_windBetween E o_p0 a_p0 v_p0_families v_p0_wind v_p0_force v_p0_rain v_p0_lost v_p0_hour f_p0_home)) (ws' := (wX8_isOnePuff E o_p0 a_p0 v_p0_families v_p0_wind v_p0_force v_p0_rain v_p0_lost v_p0_hour f_p0_home)) hw hA (g_rS hx hb hml hG hown hK hw (is := [0, 1]) rfl (by decide) (mX8_windBetween l E o_p0 a_p0 v_p0_families v_p0_wind v_p0_force v_p0_rain v_p0_lost v_p0_hour f_p0_home x1 x2 r6 hc7) wd_26_13 wd_25_11 wd_25_12 wd_25_13 hX8_windBetween g_allgood ⟨rfl, rfl⟩ ⟨Nat.le_of_ble_eq_true rfl, Nat.le_of_ble_eq_true rfl⟩ ⟨Nat.zero_le _, Nat.zero_le _⟩ rfl hl.1 rfl (Nat.le_of_ble_eq_true rfl) dX8_isOnePuff_19) rfl rfl rfl (fun H locs hw => ?_)
      refine lv_bipush (v := -6) hx hb dX8_isOnePuff_22 k_bm6 ?_
      refine lv_icmp_eq (tgt := 31) hx hb dX8_isOnePuff_24 (by decide) (fun hc => ?_) (fun hc => ?_)
      · have hf := g_t hc hf
        exact B31 _ _ _ hf hw (lv_sub hl [] rfl)
      · have hf := g_f hc hf
        refine lv_iconst (v := 1) hx hb dX8_isOnePuff_27 k_i1 ?_
        refine lv_goto (tgt := 32) hx hb dX8_isOnePuff_28 (by decide) ?_
        exact B32 1 _ _ _ hf hw (lv_sub hl [] rfl)
theorem hX8_withNeighbours : yX8_withNeighbours.cls ≠ "java/lang/invoke/MethodHandle" ∧ yX8_withNeighbours.cls ≠ "java/lang/invoke/VarHandle" ∧ (parseMethodDescriptor yX8_withNeighbours.desc).map (fun d => d.parameters.length) = some 2 := by decide +kernel
set_option maxHeartbeats 4000000 in
set_option maxRecDepth 100000 in
theorem mX8_withNeighbours (l : Launch) (E : gE) (o_p0 : Nat) (a_p0 : (Nat → Nat)) (v_p0_families : Int32) (v_p0_wind : Int32) (v_p0_force : Int32) (v_p0_rain : Int32) (v_p0_lost : Int32) (v_p0_hour : Int32) (f_p0_home : (Nat → Int32)) (x1 : Int32) (rv : Int32) (hf : fX8_withNeighbours v_p0_families f_p0_home x1 = some rv) {sz : Nat} : gMi l yX8_withNeighbours (gW yX8_withNeighbours cX8_withNeighbours 5 (some .int)) ({ frames := 3, cells := 0, slots := 0, locals := 73 } : Room) E [.ref o_p0, .int x1] (wX8_withNeighbours E o_p0 a_p0 v_p0_families v_p0_wind v_p0_force v_p0_rain v_p0_lost v_p0_hour f_p0_home) sz rv (wX8_withNeighbours E o_p0 a_p0 v_p0_families v_p0_wind v_p0_force v_p0_rain v_p0_lost v_p0_hour f_p0_home) := by
  refine g_openI (own := RX8) (by decide) rfl (Nat.le_of_ble_eq_true rfl) (fun p e s m args below meth cd Q A hx hb hml hown hG hK hA hret hw ls hl => ?_)
  have hl : lv_has ls 5 [(0, .ref o_p0), (1, .int x1)] := hl
  have hret1 : ∀ (v : Int32)  (H : Heap) (locs : List Loc) (pc : Nat) (ls : Array Slot), some v = some rv → gS E A s.heap (wX8_withNeighbours E o_p0 a_p0 v_p0_families v_p0_wind v_p0_force v_p0_rain v_p0_lost v_p0_hour f_p0_home) H locs → decode cX8_withNeighbours pc = .ok (.ireturn, 1) → W p l e ({ frames := 3, cells := 0, slots := 0, locals := 73 } : Room) s m args below meth cd H locs 0 0 Q (F0 m pc ls [.int v]) := by
    intro v  H locs pc ls h hw hd
    cases h
    exact hret H locs pc ls hw hd
  have B45 : ∀ (K13 : Int32 → Int32 → Int32 → Int32 → Option (Int32)) (hK13 : ∀ (x1 : Int32) (x2 : Int32) (x3 : Int32) (x4 : Int32) (H : Heap) (locs : List Loc) (ls : Array Slot), K13 x1 x2 x3 x4 = some rv → gS E A s.heap (wX8_withNeighbours E o_p0 a_p0 v_p0_families v_p0_wind v_p0_force v_p0_rain v_p0_lost v_p0_hour f_p0_home) H locs → lv_has ls 5 [(0, .ref o_p0), (1, .int x1), (2, .int x2), (3, .int x3), (4, .int x4)] → W p l e ({ frames := 3, cells := 0, slots := 0, locals := 73 } : Room) s m args below meth cd H locs 0 0 Q (F0 m 13 ls [])), ∀ (x1 : Int32) (x2 : Int32) (x3 : Int32) (x4 : Int32) (H : Heap) (locs : List Loc) (ls : Array Slot), fX8_withNeighbours_b45 K13 v_p0_families f_p0_home x1 x2 x3 x4 = some rv → gS E A s.heap (wX8_withNeighbours E o_p0 a_p0 v_p0_families v_p0_wind v_p0_force v_p0_rain v_p0_lost v_p0_hour f_p0_home) H locs → lv_has ls 5 [(0, .ref o_p0), (1, .int x1), (2, .int x2), (3, .int x3), (4, .int x4)] → W p l e ({ frames := 3, cells := 0, slots := 0, locals := 73 } : Room) s m args below meth cd H locs 0 0 Q (F0 m 45 ls []) := by
    intro K13 hK13 x1 x2 x3 x4 H locs ls hf hw hl
    refine lv_iinc (lv' := [(4, .int (x4 + 1)), (0, .ref o_p0), (1, .int x1), (2, .int x2), (3, .int x3)]) hx hb dX8_withNeighbours_45 hl (k := 4) rfl (k_inc1 _) (Nat.le_of_ble_eq_true rfl) rfl (fun ls hl => ?_)
    refine lv_goto (tgt := 13) hx hb dX8_withNeighbours_48 (by decide) ?_
    exact hK13 x1 x2 x3 (x4 + 1) _ _ _ hf hw (lv_sub hl [1, 2, 3, 4, 0] rfl)
  have B13 : ∀ (K4 : Int32 → Int32 → Int32 → Option (Int32)) (hK4 : ∀ (x1 : Int32) (x2 : Int32) (x3 : Int32) (H : Heap) (locs : List Loc) (ls : Array Slot), K4 x1 x2 x3 = some rv → gS E A s.heap (wX8_withNeighbours E o_p0 a_p0 v_p0_families v_p0_wind v_p0_force v_p0_rain v_p0_lost v_p0_hour f_p0_home) H locs → lv_has ls 5 [(0, .ref o_p0), (1, .int x1), (2, .int x2), (3, .int x3)] → W p l e ({ frames := 3, cells := 0, slots := 0, locals := 73 } : Room) s m args below meth cd H locs 0 0 Q (F0 m 4 ls [])), ∀ n : Nat, ∀ (x1 : Int32) (x2 : Int32) (x3 : Int32) (x4 : Int32) (H : Heap) (locs : List Loc) (ls : Array Slot), fX8_withNeighbours_b13 K4 v_p0_families f_p0_home n x1 x2 x3 x4 = some rv → gS E A s.heap (wX8_withNeighbours E o_p0 a_p0 v_p0_families v_p0_wind v_p0_force v_p0_rain v_p0_lost v_p0_hour f_p0_home) H locs → lv_has ls 5 [(0, .ref o_p0), (1, .int x1), (2, .int x2), (3, .int x3), (4, .int x4)] → W p l e ({ frames := 3, cells := 0, slots := 0, locals := 73 } : Room) s m args below meth cd H locs 0 0 Q (F0 m 13 ls []) := by
    intro K4 hK4
    intro n
    induction n with
    | zero => intro x1 x2 x3 x4 H locs ls hf hw hl; exact g_no hf
    | succ n ih =>
      intro x1 x2 x3 x4 H locs ls hf hw hl
      refine lv_iload hx hb dX8_withNeighbours_13 (lv_at hl 4 rfl) ?_
      refine lv_bipush (v := 6) hx hb dX8_withNeighbours_15 k_b6 ?_
      refine lv_icmp_ge (tgt := 51) hx hb dX8_withNeighbours_17 (by decide) (fun hc => ?_) (fun hc => ?_)
      · have hf := g_t hc hf
        refine lv_iinc (lv' := [(3, .int (x3 + 1)), (0, .ref o_p0), (1, .int x1), (2, .int x2), (4, .int x4)]) hx hb dX8_withNeighbours_51 hl (k := 3) rfl (k_inc1 _) (Nat.le_of_ble_eq_true rfl) rfl (fun ls hl => ?_)
        refine lv_goto (tgt := 4) hx hb dX8_withNeighbours_54 (by decide) ?_
        exact hK4 x1 x2 (x3 + 1) _ _ _ hf hw (lv_sub hl [1, 2, 3, 0] rfl)
      · have hf := g_f hc hf
        refine lv_iload_n hx hb dX8_withNeighbours_20 rfl (lv_at hl 1 rfl) ?_
        refine lv_iconst (v := 1) hx hb dX8_withNeighbours_21 k_i1 ?_
        refine lv_iload_n hx hb dX8_withNeighbours_22 rfl (lv_at hl 3 rfl) ?_
        refine lv_ishl hx hb dX8_withNeighbours_23 ?_
        refine lv_iand hx hb dX8_withNeighbours_24 ?_
        refine lv_if_eq (tgt := 45) hx hb dX8_withNeighbours_25 (by decide) (fun hc => ?_) (fun hc => ?_)
        · have hf := g_t hc hf
          exact B45 (fX8_withNeighbours_b13 K4 v_p0_families f_p0_home n) ih x1 x2 x3 x4 _ _ _ hf hw (lv_sub hl [0, 1, 2, 3, 4] rfl)
        · have hf := g_f hc hf
          refine lv_aload_n hx hb dX8_withNeighbours_28 rfl (lv_at hl 0 rfl) ?_
          refine lv_iload_n hx hb dX8_withNeighbours_29 rfl (lv_at hl 3 rfl) ?_
          refine lv_iload hx hb dX8_withNeighbours_30 (lv_at hl 4 rfl) ?_
          obtain ⟨r1, hc2, hf⟩ := gB_s hf
          refine g_ki (is := [0, 1]) (w1 := (wX8_isOnePuff E o_p0 a_p0 v_p0_families v_p0_wind v_p0_force v_p0_rain v_p0_lost v_p0_hour f_p0_home)) (ws' := (wX8_withNeighbours E o_p0 a_p0 v_p0_families v_p0_wind v_p0_force v_p0_rain v_p0_lost v_p0_hour f_p0_home)) hw hA (g_rS hx hb hml hG hown hK hw (is := [0, 1]) rfl (by decide) (mX8_isOnePuff l E o_p0 a_p0 v_p0_families v_p0_wind v_p0_force v_p0_rain v_p0_lost v_p0_hour f_p0_home x3 x4 r1 hc2) wd_26_9 wd_26_10 wd_25_12 wd_26_11 hX8_isOnePuff g_allgood ⟨rfl, rfl⟩ ⟨Nat.le_of_ble_eq_true rfl, Nat.le_of_ble_eq_true rfl⟩ ⟨Nat.zero_le _, Nat.zero_le _⟩ rfl hl.1 rfl (Nat.le_of_ble_eq_true rfl) dX8_withNeighbours_32) rfl rfl rfl (fun H locs hw => ?_)
          refine lv_if_eq (tgt := 45) hx hb dX8_withNeighbours_35 (by decide) (fun hc => ?_) (fun hc => ?_)
          · have hf := g_t hc hf
            exact B45 (fX8_withNeighbours_b13 K4 v_p0_families f_p0_home n) ih x1 x2 x3 x4 _ _ _ hf hw (lv_sub hl [0, 1, 2, 3, 4] rfl)
          · have hf := g_f hc hf
            refine lv_iload_n hx hb dX8_withNeighbours_38 rfl (lv_at hl 2 rfl) ?_
            refine lv_iconst (v := 1) hx hb dX8_withNeighbours_39 k_i1 ?_
            refine lv_iload hx hb dX8_withNeighbours_40 (lv_at hl 4 rfl) ?_
            refine lv_ishl hx hb dX8_withNeighbours_42 ?_
            refine lv_ior hx hb dX8_withNeighbours_43 ?_
            refine lv_istore_n (lv' := [(2, .int (x2 ||| (1 <<< (x4 &&& 31)))), (0, .ref o_p0), (1, .int x1), (3, .int x3), (4, .int x4)]) hx hb dX8_withNeighbours_44 rfl hl (Nat.le_of_ble_eq_true rfl) rfl (fun ls hl => ?_)
            exact B45 (fX8_withNeighbours_b13 K4 v_p0_families f_p0_home n) ih x1 (x2 ||| (1 <<< (x4 &&& 31))) x3 x4 _ _ _ hf hw (lv_sub hl [1, 2, 0, 3, 4] rfl)
  have B4 : ∀ n : Nat, ∀ (x1 : Int32) (x2 : Int32) (x3 : Int32) (H : Heap) (locs : List Loc) (ls : Array Slot), fX8_withNeighbours_b4 v_p0_families f_p0_home n x1 x2 x3 = some rv → gS E A s.heap (wX8_withNeighbours E o_p0 a_p0 v_p0_families v_p0_wind v_p0_force v_p0_rain v_p0_lost v_p0_hour f_p0_home) H locs → lv_has ls 5 [(0, .ref o_p0), (1, .int x1), (2, .int x2), (3, .int x3)] → W p l e ({ frames := 3, cells := 0, slots := 0, locals := 73 } : Room) s m args below meth cd H locs 0 0 Q (F0 m 4 ls []) := by
    intro n
    induction n with
    | zero => intro x1 x2 x3 H locs ls hf hw hl; exact g_no hf
    | succ n ih =>
      intro x1 x2 x3 H locs ls hf hw hl
      refine lv_iload_n hx hb dX8_withNeighbours_4 rfl (lv_at hl 3 rfl) ?_
      refine lv_bipush (v := 6) hx hb dX8_withNeighbours_5 k_b6 ?_
      refine lv_icmp_ge (tgt := 57) hx hb dX8_withNeighbours_7 (by decide) (fun hc => ?_) (fun hc => ?_)
      · have hf := g_t hc hf
        refine lv_iload_n hx hb dX8_withNeighbours_57 rfl (lv_at hl 2 rfl) ?_
        exact hret1 x2 _ _ _ _ hf hw dX8_withNeighbours_58
      · have hf := g_f hc hf
        refine lv_iconst (v := 0) hx hb dX8_withNeighbours_10 k_i0 ?_
        refine lv_istore (lv' := [(4, .int 0), (0, .ref o_p0), (1, .int x1), (2, .int x2), (3, .int x3)]) hx hb dX8_withNeighbours_11 hl (Nat.le_of_ble_eq_true rfl) rfl (fun ls hl => ?_)
        exact B13 (fX8_withNeighbours_b4 v_p0_families f_p0_home n) ih 1000 x1 x2 x3 0 _ _ _ hf hw (lv_sub hl [1, 2, 3, 4, 0] rfl)
  refine lv_iload_n hx hb dX8_withNeighbours_0 rfl (lv_at hl 1 rfl) ?_
  refine lv_istore_n (lv' := [(2, .int x1), (0, .ref o_p0), (1, .int x1)]) hx hb dX8_withNeighbours_1 rfl hl (Nat.le_of_ble_eq_true rfl) rfl (fun ls hl => ?_)
  refine lv_iconst (v := 0) hx hb dX8_withNeighbours_2 k_i0 ?_
  refine lv_istore_n (lv' := [(3, .int 0), (2, .int x1), (0, .ref o_p0), (1, .int x1)]) hx hb dX8_withNeighbours_3 rfl hl (Nat.le_of_ble_eq_true rfl) rfl (fun ls hl => ?_)
  exact B4 1000 x1 x1 0 _ _ _ hf hw (lv_sub hl [2, 3, 1, 0] rfl)
theorem hX8_puffsBetween : yX8_puffsBetween.cls ≠ "java/lang/invoke/MethodHandle" ∧ yX8_puffsBetween.cls ≠ "java/lang/invoke/VarHandle" ∧ (parseMethodDescriptor yX8_puffsBetween.desc).map (fun d => d.parameters.length) = some 3 := by decide +kernel
set_option maxHeartbeats 4000000 in
set_option maxRecDepth 100000 in
theorem mX8_puffsBetween (l : Launch) (E : gE) (o_p0 : Nat) (a_p0 : (Nat → Nat)) (v_p0_families : Int32) (v_p0_wind : Int32) (v_p0_force : Int32) (v_p0_rain : Int32) (v_p0_lost : Int32) (v_p0_hour : Int32) (f_p0_home : (Nat → Int32)) (x1 : Int32) (x2 : Int32) (rv : Int32) (hf : fX8_puffsBetween v_p0_families f_p0_home x1 x2 = some rv) {sz : Nat} : gMi l yX8_puffsBetween (gW yX8_puffsBetween cX8_puffsBetween 5 (some .int)) ({ frames := 4, cells := 0, slots := 0, locals := 97 } : Room) E [.ref o_p0, .int x1, .int x2] (wX8_puffsBetween E o_p0 a_p0 v_p0_families v_p0_wind v_p0_force v_p0_rain v_p0_lost v_p0_hour f_p0_home) sz rv (wX8_puffsBetween E o_p0 a_p0 v_p0_families v_p0_wind v_p0_force v_p0_rain v_p0_lost v_p0_hour f_p0_home) := by
  refine g_openI (own := RX8) (by decide) rfl (Nat.le_of_ble_eq_true rfl) (fun p e s m args below meth cd Q A hx hb hml hown hG hK hA hret hw ls hl => ?_)
  have hl : lv_has ls 5 [(0, .ref o_p0), (1, .int x1), (2, .int x2)] := hl
  have hret1 : ∀ (v : Int32)  (H : Heap) (locs : List Loc) (pc : Nat) (ls : Array Slot), some v = some rv → gS E A s.heap (wX8_puffsBetween E o_p0 a_p0 v_p0_families v_p0_wind v_p0_force v_p0_rain v_p0_lost v_p0_hour f_p0_home) H locs → decode cX8_puffsBetween pc = .ok (.ireturn, 1) → W p l e ({ frames := 4, cells := 0, slots := 0, locals := 97 } : Room) s m args below meth cd H locs 0 0 Q (F0 m pc ls [.int v]) := by
    intro v  H locs pc ls h hw hd
    cases h
    exact hret H locs pc ls hw hd
  have B7 : ∀ n : Nat, ∀ (x2 : Int32) (x3 : Int32) (x4 : Int32) (H : Heap) (locs : List Loc) (ls : Array Slot), fX8_puffsBetween_b7 v_p0_families f_p0_home n x2 x3 x4 = some rv → gS E A s.heap (wX8_puffsBetween E o_p0 a_p0 v_p0_families v_p0_wind v_p0_force v_p0_rain v_p0_lost v_p0_hour f_p0_home) H locs → lv_has ls 5 [(0, .ref o_p0), (2, .int x2), (3, .int x3), (4, .int x4)] → W p l e ({ frames := 4, cells := 0, slots := 0, locals := 97 } : Room) s m args below meth cd H locs 0 0 Q (F0 m 7 ls []) := by
    intro n
    induction n with
    | zero => intro x2 x3 x4 H locs ls hf hw hl; exact g_no hf
    | succ n ih =>
      intro x2 x3 x4 H locs ls hf hw hl
      refine lv_iload hx hb dX8_puffsBetween_7 (lv_at hl 3 rfl) ?_
      refine lv_bipush (v := 6) hx hb dX8_puffsBetween_9 k_b6 ?_
      refine lv_icmp_ge (tgt := 37) hx hb dX8_puffsBetween_11 (by decide) (fun hc => ?_) (fun hc => ?_)
      · have hf := g_t hc hf
        refine lv_bipush (v := -6) hx hb dX8_puffsBetween_37 k_bm6 ?_
        exact hret1 (-6) _ _ _ _ hf hw dX8_puffsBetween_39
      · have hf := g_f hc hf
        refine lv_aload_n hx hb dX8_puffsBetween_14 rfl (lv_at hl 0 rfl) ?_
        refine lv_iload_n hx hb dX8_puffsBetween_15 rfl (lv_at hl 2 rfl) ?_
        obtain ⟨r1, hc2, hf⟩ := gB_s hf
        refine g_ki (is := [0, 1]) (w1 := (wX8_withNeighbours E o_p0 a_p0 v_p0_families v_p0_wind v_p0_force v_p0_rain v_p0_lost v_p0_hour f_p0_home)) (ws' := (wX8_puffsBetween E o_p0 a_p0 v_p0_families v_p0_wind v_p0_force v_p0_rain v_p0_lost v_p0_hour f_p0_home)) hw hA (g_rS hx hb hml hG hown hK hw (is := [0, 1]) rfl (by decide) (mX8_withNeighbours l E o_p0 a_p0 v_p0_families v_p0_wind v_p0_force v_p0_rain v_p0_lost v_p0_hour f_p0_home x3 r1 hc2) wd_26_6 wd_26_7 wd_25_12 wd_26_8 hX8_withNeighbours g_allgood ⟨rfl, rfl⟩ ⟨Nat.le_of_ble_eq_true rfl, Nat.le_of_ble_eq_true rfl⟩ ⟨Nat.zero_le _, Nat.zero_le _⟩ rfl hl.1 rfl (Nat.le_of_ble_eq_true rfl) dX8_puffsBetween_16) rfl rfl rfl (fun H locs hw => ?_)
        refine lv_istore_n (lv' := [(3, .int r1), (0, .ref o_p0), (2, .int x2), (4, .int x4)]) hx hb dX8_puffsBetween_19 rfl hl (Nat.le_of_ble_eq_true rfl) rfl (fun ls hl => ?_)
        refine lv_iload_n hx hb dX8_puffsBetween_20 rfl (lv_at hl 0 rfl) ?_
        refine lv_iconst (v := 1) hx hb dX8_puffsBetween_21 k_i1 ?_
        refine lv_iload_n hx hb dX8_puffsBetween_22 rfl (lv_at hl 2 rfl) ?_
        refine lv_ishl hx hb dX8_puffsBetween_23 ?_
        refine lv_iand hx hb dX8_puffsBetween_24 ?_
        refine lv_if_eq (tgt := 31) hx hb dX8_puffsBetween_25 (by decide) (fun hc => ?_) (fun hc => ?_)
        · have hf := g_t hc hf
          refine lv_iinc (lv' := [(4, .int (x4 + 1)), (3, .int r1), (0, .ref o_p0), (2, .int x2)]) hx hb dX8_puffsBetween_31 hl (k := 3) rfl (k_inc1 _) (Nat.le_of_ble_eq_true rfl) rfl (fun ls hl => ?_)
          refine lv_goto (tgt := 7) hx hb dX8_puffsBetween_34 (by decide) ?_
          exact ih x2 r1 (x4 + 1) _ _ _ hf hw (lv_sub hl [2, 3, 1, 0] rfl)
        · have hf := g_f hc hf
          refine lv_iload hx hb dX8_puffsBetween_28 (lv_at hl 3 rfl) ?_
          exact hret1 x4 _ _ _ _ hf hw dX8_puffsBetween_30
  refine lv_iconst (v := 1) hx hb dX8_puffsBetween_0 k_i1 ?_
  refine lv_iload_n hx hb dX8_puffsBetween_1 rfl (lv_at hl 1 rfl) ?_
  refine lv_ishl hx hb dX8_puffsBetween_2 ?_
  refine lv_istore_n (lv' := [(3, .int (1 <<< (x1 &&& 31))), (0, .ref o_p0), (1, .int x1), (2, .int x2)]) hx hb dX8_puffsBetween_3 rfl hl (Nat.le_of_ble_eq_true rfl) rfl (fun ls hl => ?_)
  refine lv_iconst (v := 1) hx hb dX8_puffsBetween_4 k_i1 ?_
  refine lv_istore (lv' := [(4, .int 1), (3, .int (1 <<< (x1 &&& 31))), (0, .ref o_p0), (1, .int x1), (2, .int x2)]) hx hb dX8_puffsBetween_5 hl (Nat.le_of_ble_eq_true rfl) rfl (fun ls hl => ?_)
  exact B7 1000 x2 (1 <<< (x1 &&& 31)) 1 _ _ _ hf hw (lv_sub hl [2, 4, 1, 0] rfl)
theorem hX8_firstOnTheWay : yX8_firstOnTheWay.cls ≠ "java/lang/invoke/MethodHandle" ∧ yX8_firstOnTheWay.cls ≠ "java/lang/invoke/VarHandle" ∧ (parseMethodDescriptor yX8_firstOnTheWay.desc).map (fun d => d.parameters.length) = some 3 := by decide +kernel
set_option maxHeartbeats 4000000 in
set_option maxRecDepth 100000 in
theorem mX8_firstOnTheWay (l : Launch) (E : gE) (o_p0 : Nat) (a_p0 : (Nat → Nat)) (v_p0_families : Int32) (v_p0_wind : Int32) (v_p0_force : Int32) (v_p0_rain : Int32) (v_p0_lost : Int32) (v_p0_hour : Int32) (f_p0_home : (Nat → Int32)) (x1 : Int32) (x2 : Int32) (rv : Int32) (hf : fX8_firstOnTheWay v_p0_families f_p0_home x1 x2 = some rv) {sz : Nat} : gMi l yX8_firstOnTheWay (gW yX8_firstOnTheWay cX8_firstOnTheWay 5 (some .int)) ({ frames := 5, cells := 0, slots := 0, locals := 121 } : Room) E [.ref o_p0, .int x1, .int x2] (wX8_firstOnTheWay E o_p0 a_p0 v_p0_families v_p0_wind v_p0_force v_p0_rain v_p0_lost v_p0_hour f_p0_home) sz rv (wX8_firstOnTheWay E o_p0 a_p0 v_p0_families v_p0_wind v_p0_force v_p0_rain v_p0_lost v_p0_hour f_p0_home) := by
  refine g_openI (own := RX8) (by decide) rfl (Nat.le_of_ble_eq_true rfl) (fun p e s m args below meth cd Q A hx hb hml hown hG hK hA hret hw ls hl => ?_)
  have hl : lv_has ls 5 [(0, .ref o_p0), (1, .int x1), (2, .int x2)] := hl
  have hret1 : ∀ (v : Int32)  (H : Heap) (locs : List Loc) (pc : Nat) (ls : Array Slot), some v = some rv → gS E A s.heap (wX8_firstOnTheWay E o_p0 a_p0 v_p0_families v_p0_wind v_p0_force v_p0_rain v_p0_lost v_p0_hour f_p0_home) H locs → decode cX8_firstOnTheWay pc = .ok (.ireturn, 1) → W p l e ({ frames := 5, cells := 0, slots := 0, locals := 121 } : Room) s m args below meth cd H locs 0 0 Q (F0 m pc ls [.int v]) := by
    intro v  H locs pc ls h hw hd
    cases h
    exact hret H locs pc ls hw hd
  have B66 : ∀ (H : Heap) (locs : List Loc) (ls : Array Slot), fX8_firstOnTheWay_b66 = some rv → gS E A s.heap (wX8_firstOnTheWay E o_p0 a_p0 v_p0_families v_p0_wind v_p0_force v_p0_rain v_p0_lost v_p0_hour f_p0_home) H locs → lv_has ls 5 [] → W p l e ({ frames := 5, cells := 0, slots := 0, locals := 121 } : Room) s m args below meth cd H locs 0 0 Q (F0 m 66 ls []) := by
    intro   H locs ls hf hw hl
    refine lv_bipush (v := -6) hx hb dX8_firstOnTheWay_66 k_bm6 ?_
    exact hret1 (-6) _ _ _ _ hf hw dX8_firstOnTheWay_68
  have B60 : ∀ (K21 : Int32 → Int32 → Int32 → Int32 → Option (Int32)) (hK21 : ∀ (x1 : Int32) (x2 : Int32) (x3 : Int32) (x4 : Int32) (H : Heap) (locs : List Loc) (ls : Array Slot), K21 x1 x2 x3 x4 = some rv → gS E A s.heap (wX8_firstOnTheWay E o_p0 a_p0 v_p0_families v_p0_wind v_p0_force v_p0_rain v_p0_lost v_p0_hour f_p0_home) H locs → lv_has ls 5 [(0, .ref o_p0), (1, .int x1), (2, .int x2), (3, .int x3), (4, .int x4)] → W p l e ({ frames := 5, cells := 0, slots := 0, locals := 121 } : Room) s m args below meth cd H locs 0 0 Q (F0 m 21 ls [])), ∀ (x1 : Int32) (x2 : Int32) (x3 : Int32) (x4 : Int32) (H : Heap) (locs : List Loc) (ls : Array Slot), fX8_firstOnTheWay_b60 K21 v_p0_families f_p0_home x1 x2 x3 x4 = some rv → gS E A s.heap (wX8_firstOnTheWay E o_p0 a_p0 v_p0_families v_p0_wind v_p0_force v_p0_rain v_p0_lost v_p0_hour f_p0_home) H locs → lv_has ls 5 [(0, .ref o_p0), (1, .int x1), (2, .int x2), (3, .int x3), (4, .int x4)] → W p l e ({ frames := 5, cells := 0, slots := 0, locals := 121 } : Room) s m args below meth cd H locs 0 0 Q (F0 m 60 ls []) := by
    intro K21 hK21 x1 x2 x3 x4 H locs ls hf hw hl
    refine lv_iinc (lv' := [(4, .int (x4 + 1)), (0, .ref o_p0), (1, .int x1), (2, .int x2), (3, .int x3)]) hx hb dX8_firstOnTheWay_60 hl (k := 4) rfl (k_inc1 _) (Nat.le_of_ble_eq_true rfl) rfl (fun ls hl => ?_)
    refine lv_goto (tgt := 21) hx hb dX8_firstOnTheWay_63 (by decide) ?_
    exact hK21 x1 x2 x3 (x4 + 1) _ _ _ hf hw (lv_sub hl [1, 2, 3, 4, 0] rfl)
  have B21 : ∀ n : Nat, ∀ (x1 : Int32) (x2 : Int32) (x3 : Int32) (x4 : Int32) (H : Heap) (locs : List Loc) (ls : Array Slot), fX8_firstOnTheWay_b21 v_p0_families f_p0_home n x1 x2 x3 x4 = some rv → gS E A s.heap (wX8_firstOnTheWay E o_p0 a_p0 v_p0_families v_p0_wind v_p0_force v_p0_rain v_p0_lost v_p0_hour f_p0_home) H locs → lv_has ls 5 [(0, .ref o_p0), (1, .int x1), (2, .int x2), (3, .int x3), (4, .int x4)] → W p l e ({ frames := 5, cells := 0, slots := 0, locals := 121 } : Room) s m args below meth cd H locs 0 0 Q (F0 m 21 ls []) := by
    intro n
    induction n with
    | zero => intro x1 x2 x3 x4 H locs ls hf hw hl; exact g_no hf
    | succ n ih =>
      intro x1 x2 x3 x4 H locs ls hf hw hl
      refine lv_iload hx hb dX8_firstOnTheWay_21 (lv_at hl 4 rfl) ?_
      refine lv_bipush (v := 6) hx hb dX8_firstOnTheWay_23 k_b6 ?_
      refine lv_icmp_ge (tgt := 66) hx hb dX8_firstOnTheWay_25 (by decide) (fun hc => ?_) (fun hc => ?_)
      · have hf := g_t hc hf
        exact B66 _ _ _ hf hw (lv_sub hl [] rfl)
      · have hf := g_f hc hf
        refine lv_iload_n hx hb dX8_firstOnTheWay_28 rfl (lv_at hl 3 rfl) ?_
        refine lv_bipush (v := -6) hx hb dX8_firstOnTheWay_29 k_bm6 ?_
        refine lv_icmp_eq (tgt := 66) hx hb dX8_firstOnTheWay_31 (by decide) (fun hc => ?_) (fun hc => ?_)
        · have hf := g_t hc hf
          exact B66 _ _ _ hf hw (lv_sub hl [] rfl)
        · have hf := g_f hc hf
          refine lv_aload_n hx hb dX8_firstOnTheWay_34 rfl (lv_at hl 0 rfl) ?_
          refine lv_iload_n hx hb dX8_firstOnTheWay_35 rfl (lv_at hl 1 rfl) ?_
          refine lv_iload hx hb dX8_firstOnTheWay_36 (lv_at hl 4 rfl) ?_
          obtain ⟨r1, hc2, hf⟩ := gB_s hf
          refine g_ki (is := [0, 1]) (w1 := (wX8_isOnePuff E o_p0 a_p0 v_p0_families v_p0_wind v_p0_force v_p0_rain v_p0_lost v_p0_hour f_p0_home)) (ws' := (wX8_firstOnTheWay E o_p0 a_p0 v_p0_families v_p0_wind v_p0_force v_p0_rain v_p0_lost v_p0_hour f_p0_home)) hw hA (g_rS hx hb hml hG hown hK hw (is := [0, 1]) rfl (by decide) (mX8_isOnePuff l E o_p0 a_p0 v_p0_families v_p0_wind v_p0_force v_p0_rain v_p0_lost v_p0_hour f_p0_home x1 x4 r1 hc2) wd_26_9 wd_26_10 wd_25_12 wd_26_11 hX8_isOnePuff g_allgood ⟨rfl, rfl⟩ ⟨Nat.le_of_ble_eq_true rfl, Nat.le_of_ble_eq_true rfl⟩ ⟨Nat.zero_le _, Nat.zero_le _⟩ rfl hl.1 rfl (Nat.le_of_ble_eq_true rfl) dX8_firstOnTheWay_38) rfl rfl rfl (fun H locs hw => ?_)
          refine lv_if_eq (tgt := 60) hx hb dX8_firstOnTheWay_41 (by decide) (fun hc => ?_) (fun hc => ?_)
          · have hf := g_t hc hf
            exact B60 (fX8_firstOnTheWay_b21 v_p0_families f_p0_home n) ih x1 x2 x3 x4 _ _ _ hf hw (lv_sub hl [0, 1, 2, 3, 4] rfl)
          · have hf := g_f hc hf
            refine lv_aload_n hx hb dX8_firstOnTheWay_44 rfl (lv_at hl 0 rfl) ?_
            refine lv_iload hx hb dX8_firstOnTheWay_45 (lv_at hl 4 rfl) ?_
            refine lv_iload_n hx hb dX8_firstOnTheWay_47 rfl (lv_at hl 2 rfl) ?_
            obtain ⟨r3, hc4, hf⟩ := gB_s hf
            refine g_ki (is := [0, 1]) (w1 := (wX8_puffsBetween E o_p0 a_p0 v_p0_families v_p0_wind v_p0_force v_p0_rain v_p0_lost v_p0_hour f_p0_home)) (ws' := (wX8_firstOnTheWay E o_p0 a_p0 v_p0_families v_p0_wind v_p0_force v_p0_rain v_p0_lost v_p0_hour f_p0_home)) hw hA (g_rS hx hb hml hG hown hK hw (is := [0, 1]) rfl (by decide) (mX8_puffsBetween l E o_p0 a_p0 v_p0_families v_p0_wind v_p0_force v_p0_rain v_p0_lost v_p0_hour f_p0_home x4 x2 r3 hc4) wd_26_17 wd_26_4 wd_25_12 wd_26_5 hX8_puffsBetween g_allgood ⟨rfl, rfl⟩ ⟨Nat.le_of_ble_eq_true rfl, Nat.le_of_ble_eq_true rfl⟩ ⟨Nat.zero_le _, Nat.zero_le _⟩ rfl hl.1 rfl (Nat.le_of_ble_eq_true rfl) dX8_firstOnTheWay_48) rfl rfl rfl (fun H locs hw => ?_)
            refine lv_iload_n hx hb dX8_firstOnTheWay_51 rfl (lv_at hl 3 rfl) ?_
            refine lv_iconst (v := 1) hx hb dX8_firstOnTheWay_52 k_i1 ?_
            refine lv_isub hx hb dX8_firstOnTheWay_53 ?_
            refine lv_icmp_ne (tgt := 60) hx hb dX8_firstOnTheWay_54 (by decide) (fun hc => ?_) (fun hc => ?_)
            · have hf := g_f hc hf
              exact B60 (fX8_firstOnTheWay_b21 v_p0_families f_p0_home n) ih x1 x2 x3 x4 _ _ _ hf hw (lv_sub hl [0, 1, 2, 3, 4] rfl)
            · have hf := g_t hc hf
              refine lv_iload hx hb dX8_firstOnTheWay_57 (lv_at hl 4 rfl) ?_
              exact hret1 x4 _ _ _ _ hf hw dX8_firstOnTheWay_59
  refine lv_aload_n hx hb dX8_firstOnTheWay_0 rfl (lv_at hl 0 rfl) ?_
  refine lv_iload_n hx hb dX8_firstOnTheWay_1 rfl (lv_at hl 1 rfl) ?_
  refine lv_iload_n hx hb dX8_firstOnTheWay_2 rfl (lv_at hl 2 rfl) ?_
  obtain ⟨r5, hc6, hf⟩ := gB_s hf
  refine g_ki (is := [0, 1]) (w1 := (wX8_isOnePuff E o_p0 a_p0 v_p0_families v_p0_wind v_p0_force v_p0_rain v_p0_lost v_p0_hour f_p0_home)) (ws' := (wX8_firstOnTheWay E o_p0 a_p0 v_p0_families v_p0_wind v_p0_force v_p0_rain v_p0_lost v_p0_hour f_p0_home)) hw hA (g_rS hx hb hml hG hown hK hw (is := [0, 1]) rfl (by decide) (mX8_isOnePuff l E o_p0 a_p0 v_p0_families v_p0_wind v_p0_force v_p0_rain v_p0_lost v_p0_hour f_p0_home x1 x2 r5 hc6) wd_26_9 wd_26_10 wd_25_12 wd_26_11 hX8_isOnePuff g_allgood ⟨rfl, rfl⟩ ⟨Nat.le_of_ble_eq_true rfl, Nat.le_of_ble_eq_true rfl⟩ ⟨Nat.zero_le _, Nat.zero_le _⟩ rfl hl.1 rfl (Nat.le_of_ble_eq_true rfl) dX8_firstOnTheWay_3) rfl rfl rfl (fun H locs hw => ?_)
  refine lv_if_eq (tgt := 11) hx hb dX8_firstOnTheWay_6 (by decide) (fun hc => ?_) (fun hc => ?_)
  · have hf := g_t hc hf
    refine lv_aload_n hx hb dX8_firstOnTheWay_11 rfl (lv_at hl 0 rfl) ?_
    refine lv_iload_n hx hb dX8_firstOnTheWay_12 rfl (lv_at hl 1 rfl) ?_
    refine lv_iload_n hx hb dX8_firstOnTheWay_13 rfl (lv_at hl 2 rfl) ?_
    obtain ⟨r7, hc8, hf⟩ := gB_s hf
    refine g_ki (is := [0, 1]) (w1 := (wX8_puffsBetween E o_p0 a_p0 v_p0_families v_p0_wind v_p0_force v_p0_rain v_p0_lost v_p0_hour f_p0_home)) (ws' := (wX8_firstOnTheWay E o_p0 a_p0 v_p0_families v_p0_wind v_p0_force v_p0_rain v_p0_lost v_p0_hour f_p0_home)) hw hA (g_rS hx hb hml hG hown hK hw (is := [0, 1]) rfl (by decide) (mX8_puffsBetween l E o_p0 a_p0 v_p0_families v_p0_wind v_p0_force v_p0_rain v_p0_lost v_p0_hour f_p0_home x1 x2 r7 hc8) wd_26_17 wd_26_4 wd_25_12 wd_26_5 hX8_puffsBetween g_allgood ⟨rfl, rfl⟩ ⟨Nat.le_of_ble_eq_true rfl, Nat.le_of_ble_eq_true rfl⟩ ⟨Nat.zero_le _, Nat.zero_le _⟩ rfl hl.1 rfl (Nat.le_of_ble_eq_true rfl) dX8_firstOnTheWay_14) rfl rfl rfl (fun H locs hw => ?_)
    refine lv_istore_n (lv' := [(3, .int r7), (0, .ref o_p0), (1, .int x1), (2, .int x2)]) hx hb dX8_firstOnTheWay_17 rfl hl (Nat.le_of_ble_eq_true rfl) rfl (fun ls hl => ?_)
    refine lv_iconst (v := 0) hx hb dX8_firstOnTheWay_18 k_i0 ?_
    refine lv_istore (lv' := [(4, .int 0), (3, .int r7), (0, .ref o_p0), (1, .int x1), (2, .int x2)]) hx hb dX8_firstOnTheWay_19 hl (Nat.le_of_ble_eq_true rfl) rfl (fun ls hl => ?_)
    exact B21 1000 x1 x2 r7 0 _ _ _ hf hw (lv_sub hl [2, 3, 4, 1, 0] rfl)
  · have hf := g_f hc hf
    refine lv_iload_n hx hb dX8_firstOnTheWay_9 rfl (lv_at hl 2 rfl) ?_
    exact hret1 x2 _ _ _ _ hf hw dX8_firstOnTheWay_10
theorem hX8_fieldWorth : yX8_fieldWorth.cls ≠ "java/lang/invoke/MethodHandle" ∧ yX8_fieldWorth.cls ≠ "java/lang/invoke/VarHandle" ∧ (parseMethodDescriptor yX8_fieldWorth.desc).map (fun d => d.parameters.length) = some 2 := by decide +kernel
set_option maxHeartbeats 4000000 in
set_option maxRecDepth 100000 in
theorem mX8_fieldWorth (l : Launch) (E : gE) (o_p0 : Nat) (a_p0 : (Nat → Nat)) (v_p0_families : Int32) (v_p0_wind : Int32) (v_p0_force : Int32) (v_p0_rain : Int32) (v_p0_lost : Int32) (v_p0_hour : Int32) (f_p0_home : (Nat → Int32)) (f_p0_seeds : (Nat → Int32)) (f_p0_ground : (Nat → Int32)) (x1 : Int32) (rv : Int32) (hf : fX8_fieldWorth v_p0_families f_p0_home f_p0_seeds f_p0_ground x1 = some rv) {sz : Nat} : gMi l yX8_fieldWorth (gW yX8_fieldWorth cX8_fieldWorth 3 (some .int)) ({ frames := 1, cells := 0, slots := 0, locals := 22 } : Room) E [.ref o_p0, .int x1] (wX8_fieldWorth E o_p0 a_p0 v_p0_families v_p0_wind v_p0_force v_p0_rain v_p0_lost v_p0_hour f_p0_home f_p0_seeds f_p0_ground) sz rv (wX8_fieldWorth E o_p0 a_p0 v_p0_families v_p0_wind v_p0_force v_p0_rain v_p0_lost v_p0_hour f_p0_home f_p0_seeds f_p0_ground) := by
  refine g_openI (own := RX8) (by decide) rfl (Nat.le_of_ble_eq_true rfl) (fun p e s m args below meth cd Q A hx hb hml hown hG hK hA hret hw ls hl => ?_)
  have hl : lv_has ls 3 [(0, .ref o_p0), (1, .int x1)] := hl
  have hret1 : ∀ (v : Int32)  (H : Heap) (locs : List Loc) (pc : Nat) (ls : Array Slot), some v = some rv → gS E A s.heap (wX8_fieldWorth E o_p0 a_p0 v_p0_families v_p0_wind v_p0_force v_p0_rain v_p0_lost v_p0_hour f_p0_home f_p0_seeds f_p0_ground) H locs → decode cX8_fieldWorth pc = .ok (.ireturn, 1) → W p l e ({ frames := 1, cells := 0, slots := 0, locals := 22 } : Room) s m args below meth cd H locs 0 0 Q (F0 m pc ls [.int v]) := by
    intro v  H locs pc ls h hw hd
    cases h
    exact hret H locs pc ls hw hd
  refine lv_aload_n hx hb dX8_fieldWorth_0 rfl (lv_at hl 0 rfl) ?_
  refine lv_iload_n hx hb dX8_fieldWorth_1 rfl (lv_at hl 1 rfl) ?_
  obtain ⟨r1, hc2, hf⟩ := gB_s hf
  refine g_ki (is := [0, 1]) (w1 := (wX6_familyAt E o_p0 a_p0 v_p0_families v_p0_wind v_p0_force v_p0_rain v_p0_lost v_p0_hour f_p0_home)) (ws' := (wX8_fieldWorth E o_p0 a_p0 v_p0_families v_p0_wind v_p0_force v_p0_rain v_p0_lost v_p0_hour f_p0_home f_p0_seeds f_p0_ground)) hw hA (g_rV hx hb hml hG hown hK hw (is := [0, 1]) rfl (by decide) (mX6_familyAt l E o_p0 a_p0 v_p0_families v_p0_wind v_p0_force v_p0_rain v_p0_lost v_p0_hour f_p0_home x1 r1 hc2) wd_27_21 wd_7_8 wd_7_9 wd_2_20 wd_7_10 hX6_familyAt g_allgood ⟨rfl, rfl⟩ ⟨Nat.le_of_ble_eq_true rfl, Nat.le_of_ble_eq_true rfl⟩ ⟨Nat.zero_le _, Nat.zero_le _⟩ (ci := 5) (q0 := 0) rfl rfl rfl rfl hl.1 rfl (Nat.le_of_ble_eq_true rfl) dX8_fieldWorth_2) rfl rfl rfl (fun H locs hw => ?_)
  refine lv_istore_n (lv' := [(2, .int r1), (0, .ref o_p0), (1, .int x1)]) hx hb dX8_fieldWorth_5 rfl hl (Nat.le_of_ble_eq_true rfl) rfl (fun ls hl => ?_)
  refine lv_aload_n hx hb dX8_fieldWorth_6 rfl (lv_at hl 1 rfl) ?_
  refine g_get hx hb hG hown hK hw inlX6 (ci := 5) rfl 0 4 (Nat.le_of_ble_eq_true rfl) rfl rfl wd_27_19 dX8_fieldWorth_7 ?_
  refine lv_iload_n hx hb dX8_fieldWorth_10 rfl (lv_at hl 2 rfl) ?_
  obtain ⟨r3, hc4, hf⟩ := gB_s hf
  refine g_ki (is := [3]) (w1 := (wX10_at E (a_p0 4) 36 f_p0_ground)) (ws' := (wX8_fieldWorth E o_p0 a_p0 v_p0_families v_p0_wind v_p0_force v_p0_rain v_p0_lost v_p0_hour f_p0_home f_p0_seeds f_p0_ground)) hw hA (g_rN (host := "SeedBank") hx hb hml hG hown hK hw (is := [3]) rfl (by decide) (mX10_at l E (a_p0 4) 36 f_p0_ground x1 r3 hc4) (List.mem_of_getElem? (i := 17) rfl) wd_15_23 wd_1_2 wd_16_0 hX10_at g_allgood ⟨rfl, rfl⟩ ⟨Nat.le_of_ble_eq_true rfl, Nat.le_of_ble_eq_true rfl⟩ ⟨Nat.zero_le _, Nat.zero_le _⟩ rfl hl.1 rfl (Nat.le_of_ble_eq_true rfl) dX8_fieldWorth_11) rfl rfl rfl (fun H locs hw => ?_)
  refine lv_aload_n hx hb dX8_fieldWorth_14 rfl (lv_at hl 1 rfl) ?_
  refine g_get hx hb hG hown hK hw inlX6 (ci := 5) rfl 0 1 (Nat.le_of_ble_eq_true rfl) rfl rfl wd_27_20 dX8_fieldWorth_15 ?_
  refine lv_iload_n hx hb dX8_fieldWorth_18 rfl (lv_at hl 0 rfl) ?_
  obtain ⟨r5, hc6, hf⟩ := gB_s hf
  refine g_ki (is := [2]) (w1 := (wX10_at E (a_p0 1) 6 f_p0_seeds)) (ws' := (wX8_fieldWorth E o_p0 a_p0 v_p0_families v_p0_wind v_p0_force v_p0_rain v_p0_lost v_p0_hour f_p0_home f_p0_seeds f_p0_ground)) hw hA (g_rN (host := "SeedBank") hx hb hml hG hown hK hw (is := [2]) rfl (by decide) (mX10_at l E (a_p0 1) 6 f_p0_seeds r1 r5 hc6) (List.mem_of_getElem? (i := 17) rfl) wd_15_23 wd_1_2 wd_16_0 hX10_at g_allgood ⟨rfl, rfl⟩ ⟨Nat.le_of_ble_eq_true rfl, Nat.le_of_ble_eq_true rfl⟩ ⟨Nat.zero_le _, Nat.zero_le _⟩ rfl hl.1 rfl (Nat.le_of_ble_eq_true rfl) dX8_fieldWorth_19) rfl rfl rfl (fun H locs hw => ?_)
  refine lv_iadd hx hb dX8_fieldWorth_22 ?_
  exact hret1 (r3 + r5) _ _ _ _ hf hw dX8_fieldWorth_23
theorem hX8_squareWorth : yX8_squareWorth.cls ≠ "java/lang/invoke/MethodHandle" ∧ yX8_squareWorth.cls ≠ "java/lang/invoke/VarHandle" ∧ (parseMethodDescriptor yX8_squareWorth.desc).map (fun d => d.parameters.length) = some 3 := by decide +kernel
set_option maxHeartbeats 4000000 in
set_option maxRecDepth 100000 in
theorem mX8_squareWorth (l : Launch) (E : gE) (o_p0 : Nat) (a_p0 : (Nat → Nat)) (v_p0_families : Int32) (v_p0_wind : Int32) (v_p0_force : Int32) (v_p0_rain : Int32) (v_p0_lost : Int32) (v_p0_hour : Int32) (f_p0_home : (Nat → Int32)) (f_p0_seeds : (Nat → Int32)) (f_p0_ground : (Nat → Int32)) (x1 : Int32) (x2 : Int32) (rv : Int32) (hf : fX8_squareWorth v_p0_families f_p0_home f_p0_seeds f_p0_ground x1 x2 = some rv) {sz : Nat} : gMi l yX8_squareWorth (gW yX8_squareWorth cX8_squareWorth 6 (some .int)) ({ frames := 2, cells := 0, slots := 0, locals := 44 } : Room) E [.ref o_p0, .int x1, .int x2] (wX8_squareWorth E o_p0 a_p0 v_p0_families v_p0_wind v_p0_force v_p0_rain v_p0_lost v_p0_hour f_p0_home f_p0_seeds f_p0_ground) sz rv (wX8_squareWorth E o_p0 a_p0 v_p0_families v_p0_wind v_p0_force v_p0_rain v_p0_lost v_p0_hour f_p0_home f_p0_seeds f_p0_ground) := by
  refine g_openI (own := RX8) (by decide) rfl (Nat.le_of_ble_eq_true rfl) (fun p e s m args below meth cd Q A hx hb hml hown hG hK hA hret hw ls hl => ?_)
  have hl : lv_has ls 6 [(0, .ref o_p0), (1, .int x1), (2, .int x2)] := hl
  have hret1 : ∀ (v : Int32)  (H : Heap) (locs : List Loc) (pc : Nat) (ls : Array Slot), some v = some rv → gS E A s.heap (wX8_squareWorth E o_p0 a_p0 v_p0_families v_p0_wind v_p0_force v_p0_rain v_p0_lost v_p0_hour f_p0_home f_p0_seeds f_p0_ground) H locs → decode cX8_squareWorth pc = .ok (.ireturn, 1) → W p l e ({ frames := 2, cells := 0, slots := 0, locals := 44 } : Room) s m args below meth cd H locs 0 0 Q (F0 m pc ls [.int v]) := by
    intro v  H locs pc ls h hw hd
    cases h
    exact hret H locs pc ls hw hd
  have B14 : ∀ (K5 : Int32 → Int32 → Int32 → Int32 → Option (Int32)) (hK5 : ∀ (x1 : Int32) (x2 : Int32) (x3 : Int32) (x4 : Int32) (H : Heap) (locs : List Loc) (ls : Array Slot), K5 x1 x2 x3 x4 = some rv → gS E A s.heap (wX8_squareWorth E o_p0 a_p0 v_p0_families v_p0_wind v_p0_force v_p0_rain v_p0_lost v_p0_hour f_p0_home f_p0_seeds f_p0_ground) H locs → lv_has ls 6 [(0, .ref o_p0), (1, .int x1), (2, .int x2), (3, .int x3), (4, .int x4)] → W p l e ({ frames := 2, cells := 0, slots := 0, locals := 44 } : Room) s m args below meth cd H locs 0 0 Q (F0 m 5 ls [])), ∀ n : Nat, ∀ (x1 : Int32) (x2 : Int32) (x3 : Int32) (x4 : Int32) (x5 : Int32) (H : Heap) (locs : List Loc) (ls : Array Slot), fX8_squareWorth_b14 K5 v_p0_families f_p0_home f_p0_seeds f_p0_ground n x1 x2 x3 x4 x5 = some rv → gS E A s.heap (wX8_squareWorth E o_p0 a_p0 v_p0_families v_p0_wind v_p0_force v_p0_rain v_p0_lost v_p0_hour f_p0_home f_p0_seeds f_p0_ground) H locs → lv_has ls 6 [(0, .ref o_p0), (1, .int x1), (2, .int x2), (3, .int x3), (4, .int x4), (5, .int x5)] → W p l e ({ frames := 2, cells := 0, slots := 0, locals := 44 } : Room) s m args below meth cd H locs 0 0 Q (F0 m 14 ls []) := by
    intro K5 hK5
    intro n
    induction n with
    | zero => intro x1 x2 x3 x4 x5 H locs ls hf hw hl; exact g_no hf
    | succ n ih =>
      intro x1 x2 x3 x4 x5 H locs ls hf hw hl
      refine lv_iload hx hb dX8_squareWorth_14 (lv_at hl 5 rfl) ?_
      refine lv_iload_n hx hb dX8_squareWorth_16 rfl (lv_at hl 2 rfl) ?_
      refine lv_icmp_ge (tgt := 43) hx hb dX8_squareWorth_17 (by decide) (fun hc => ?_) (fun hc => ?_)
      · have hf := g_t hc hf
        refine lv_iinc (lv' := [(4, .int (x4 + 1)), (0, .ref o_p0), (1, .int x1), (2, .int x2), (3, .int x3), (5, .int x5)]) hx hb dX8_squareWorth_43 hl (k := 4) rfl (k_inc1 _) (Nat.le_of_ble_eq_true rfl) rfl (fun ls hl => ?_)
        refine lv_goto (tgt := 5) hx hb dX8_squareWorth_46 (by decide) ?_
        exact hK5 x1 x2 x3 (x4 + 1) _ _ _ hf hw (lv_sub hl [1, 2, 3, 4, 0] rfl)
      · have hf := g_f hc hf
        refine lv_iload_n hx hb dX8_squareWorth_20 rfl (lv_at hl 3 rfl) ?_
        refine lv_aload_n hx hb dX8_squareWorth_21 rfl (lv_at hl 0 rfl) ?_
        refine lv_iload_n hx hb dX8_squareWorth_22 rfl (lv_at hl 1 rfl) ?_
        refine lv_bipush (v := 6) hx hb dX8_squareWorth_23 k_b6 ?_
        refine lv_iload hx hb dX8_squareWorth_25 (lv_at hl 4 rfl) ?_
        refine lv_imul hx hb dX8_squareWorth_27 ?_
        refine lv_iadd hx hb dX8_squareWorth_28 ?_
        refine lv_iload hx hb dX8_squareWorth_29 (lv_at hl 5 rfl) ?_
        refine lv_iadd hx hb dX8_squareWorth_31 ?_
        obtain ⟨r1, hc2, hf⟩ := gB_s hf
        refine g_ki (is := [0, 1, 2, 3]) (w1 := (wX8_fieldWorth E o_p0 a_p0 v_p0_families v_p0_wind v_p0_force v_p0_rain v_p0_lost v_p0_hour f_p0_home f_p0_seeds f_p0_ground)) (ws' := (wX8_squareWorth E o_p0 a_p0 v_p0_families v_p0_wind v_p0_force v_p0_rain v_p0_lost v_p0_hour f_p0_home f_p0_seeds f_p0_ground)) hw hA (g_rS hx hb hml hG hown hK hw (is := [0, 1, 2, 3]) rfl (by decide) (mX8_fieldWorth l E o_p0 a_p0 v_p0_families v_p0_wind v_p0_force v_p0_rain v_p0_lost v_p0_hour f_p0_home f_p0_seeds f_p0_ground ((x1 + (6 * x4)) + x5) r1 hc2) wd_27_16 wd_27_17 wd_25_12 wd_27_18 hX8_fieldWorth g_allgood ⟨rfl, rfl⟩ ⟨Nat.le_of_ble_eq_true rfl, Nat.le_of_ble_eq_true rfl⟩ ⟨Nat.zero_le _, Nat.zero_le _⟩ rfl hl.1 rfl (Nat.le_of_ble_eq_true rfl) dX8_squareWorth_32) rfl rfl rfl (fun H locs hw => ?_)
        refine lv_iadd hx hb dX8_squareWorth_35 ?_
        refine lv_istore_n (lv' := [(3, .int (x3 + r1)), (0, .ref o_p0), (1, .int x1), (2, .int x2), (4, .int x4), (5, .int x5)]) hx hb dX8_squareWorth_36 rfl hl (Nat.le_of_ble_eq_true rfl) rfl (fun ls hl => ?_)
        refine lv_iinc (lv' := [(5, .int (x5 + 1)), (3, .int (x3 + r1)), (0, .ref o_p0), (1, .int x1), (2, .int x2), (4, .int x4)]) hx hb dX8_squareWorth_37 hl (k := 5) rfl (k_inc1 _) (Nat.le_of_ble_eq_true rfl) rfl (fun ls hl => ?_)
        refine lv_goto (tgt := 14) hx hb dX8_squareWorth_40 (by decide) ?_
        exact ih x1 x2 (x3 + r1) x4 (x5 + 1) _ _ _ hf hw (lv_sub hl [2, 3, 4, 1, 5, 0] rfl)
  have B5 : ∀ n : Nat, ∀ (x1 : Int32) (x2 : Int32) (x3 : Int32) (x4 : Int32) (H : Heap) (locs : List Loc) (ls : Array Slot), fX8_squareWorth_b5 v_p0_families f_p0_home f_p0_seeds f_p0_ground n x1 x2 x3 x4 = some rv → gS E A s.heap (wX8_squareWorth E o_p0 a_p0 v_p0_families v_p0_wind v_p0_force v_p0_rain v_p0_lost v_p0_hour f_p0_home f_p0_seeds f_p0_ground) H locs → lv_has ls 6 [(0, .ref o_p0), (1, .int x1), (2, .int x2), (3, .int x3), (4, .int x4)] → W p l e ({ frames := 2, cells := 0, slots := 0, locals := 44 } : Room) s m args below meth cd H locs 0 0 Q (F0 m 5 ls []) := by
    intro n
    induction n with
    | zero => intro x1 x2 x3 x4 H locs ls hf hw hl; exact g_no hf
    | succ n ih =>
      intro x1 x2 x3 x4 H locs ls hf hw hl
      refine lv_iload hx hb dX8_squareWorth_5 (lv_at hl 4 rfl) ?_
      refine lv_iload_n hx hb dX8_squareWorth_7 rfl (lv_at hl 2 rfl) ?_
      refine lv_icmp_ge (tgt := 49) hx hb dX8_squareWorth_8 (by decide) (fun hc => ?_) (fun hc => ?_)
      · have hf := g_t hc hf
        refine lv_iload_n hx hb dX8_squareWorth_49 rfl (lv_at hl 3 rfl) ?_
        exact hret1 x3 _ _ _ _ hf hw dX8_squareWorth_50
      · have hf := g_f hc hf
        refine lv_iconst (v := 0) hx hb dX8_squareWorth_11 k_i0 ?_
        refine lv_istore (lv' := [(5, .int 0), (0, .ref o_p0), (1, .int x1), (2, .int x2), (3, .int x3), (4, .int x4)]) hx hb dX8_squareWorth_12 hl (Nat.le_of_ble_eq_true rfl) rfl (fun ls hl => ?_)
        exact B14 (fX8_squareWorth_b5 v_p0_families f_p0_home f_p0_seeds f_p0_ground n) ih 1000 x1 x2 x3 x4 0 _ _ _ hf hw (lv_sub hl [1, 2, 3, 4, 5, 0] rfl)
  refine lv_iconst (v := 0) hx hb dX8_squareWorth_0 k_i0 ?_
  refine lv_istore_n (lv' := [(3, .int 0), (0, .ref o_p0), (1, .int x1), (2, .int x2)]) hx hb dX8_squareWorth_1 rfl hl (Nat.le_of_ble_eq_true rfl) rfl (fun ls hl => ?_)
  refine lv_iconst (v := 0) hx hb dX8_squareWorth_2 k_i0 ?_
  refine lv_istore (lv' := [(4, .int 0), (3, .int 0), (0, .ref o_p0), (1, .int x1), (2, .int x2)]) hx hb dX8_squareWorth_3 hl (Nat.le_of_ble_eq_true rfl) rfl (fun ls hl => ?_)
  exact B5 1000 x1 x2 0 0 _ _ _ hf hw (lv_sub hl [2, 3, 4, 1, 0] rfl)
theorem hX8_richestCorner : yX8_richestCorner.cls ≠ "java/lang/invoke/MethodHandle" ∧ yX8_richestCorner.cls ≠ "java/lang/invoke/VarHandle" ∧ (parseMethodDescriptor yX8_richestCorner.desc).map (fun d => d.parameters.length) = some 2 := by decide +kernel
set_option maxHeartbeats 4000000 in
set_option maxRecDepth 100000 in
theorem mX8_richestCorner (l : Launch) (E : gE) (o_p0 : Nat) (a_p0 : (Nat → Nat)) (v_p0_families : Int32) (v_p0_wind : Int32) (v_p0_force : Int32) (v_p0_rain : Int32) (v_p0_lost : Int32) (v_p0_hour : Int32) (f_p0_home : (Nat → Int32)) (f_p0_seeds : (Nat → Int32)) (f_p0_ground : (Nat → Int32)) (x1 : Int32) (rv : Int32) (hf : fX8_richestCorner v_p0_families f_p0_home f_p0_seeds f_p0_ground x1 = some rv) {sz : Nat} : gMi l yX8_richestCorner (gW yX8_richestCorner cX8_richestCorner 6 (some .int)) ({ frames := 3, cells := 0, slots := 0, locals := 69 } : Room) E [.ref o_p0, .int x1] (wX8_richestCorner E o_p0 a_p0 v_p0_families v_p0_wind v_p0_force v_p0_rain v_p0_lost v_p0_hour f_p0_home f_p0_seeds f_p0_ground) sz rv (wX8_richestCorner E o_p0 a_p0 v_p0_families v_p0_wind v_p0_force v_p0_rain v_p0_lost v_p0_hour f_p0_home f_p0_seeds f_p0_ground) := by
  refine g_openI (own := RX8) (by decide) rfl (Nat.le_of_ble_eq_true rfl) (fun p e s m args below meth cd Q A hx hb hml hown hG hK hA hret hw ls hl => ?_)
  have hl : lv_has ls 6 [(0, .ref o_p0), (1, .int x1)] := hl
  have hret1 : ∀ (v : Int32)  (H : Heap) (locs : List Loc) (pc : Nat) (ls : Array Slot), some v = some rv → gS E A s.heap (wX8_richestCorner E o_p0 a_p0 v_p0_families v_p0_wind v_p0_force v_p0_rain v_p0_lost v_p0_hour f_p0_home f_p0_seeds f_p0_ground) H locs → decode cX8_richestCorner pc = .ok (.ireturn, 1) → W p l e ({ frames := 3, cells := 0, slots := 0, locals := 69 } : Room) s m args below meth cd H locs 0 0 Q (F0 m pc ls [.int v]) := by
    intro v  H locs pc ls h hw hd
    cases h
    exact hret H locs pc ls hw hd
  have B52 : ∀ (K15 : Int32 → Int32 → Int32 → Int32 → Option (Int32)) (hK15 : ∀ (x1 : Int32) (x2 : Int32) (x3 : Int32) (x4 : Int32) (H : Heap) (locs : List Loc) (ls : Array Slot), K15 x1 x2 x3 x4 = some rv → gS E A s.heap (wX8_richestCorner E o_p0 a_p0 v_p0_families v_p0_wind v_p0_force v_p0_rain v_p0_lost v_p0_hour f_p0_home f_p0_seeds f_p0_ground) H locs → lv_has ls 6 [(0, .ref o_p0), (1, .int x1), (2, .int x2), (3, .int x3), (4, .int x4)] → W p l e ({ frames := 3, cells := 0, slots := 0, locals := 69 } : Room) s m args below meth cd H locs 0 0 Q (F0 m 15 ls [])), ∀ (x1 : Int32) (x2 : Int32) (x3 : Int32) (x4 : Int32) (H : Heap) (locs : List Loc) (ls : Array Slot), fX8_richestCorner_b52 K15 v_p0_families f_p0_home f_p0_seeds f_p0_ground x1 x2 x3 x4 = some rv → gS E A s.heap (wX8_richestCorner E o_p0 a_p0 v_p0_families v_p0_wind v_p0_force v_p0_rain v_p0_lost v_p0_hour f_p0_home f_p0_seeds f_p0_ground) H locs → lv_has ls 6 [(0, .ref o_p0), (1, .int x1), (2, .int x2), (3, .int x3), (4, .int x4)] → W p l e ({ frames := 3, cells := 0, slots := 0, locals := 69 } : Room) s m args below meth cd H locs 0 0 Q (F0 m 52 ls []) := by
    intro K15 hK15 x1 x2 x3 x4 H locs ls hf hw hl
    refine lv_iinc (lv' := [(4, .int (x4 + 1)), (0, .ref o_p0), (1, .int x1), (2, .int x2), (3, .int x3)]) hx hb dX8_richestCorner_52 hl (k := 4) rfl (k_inc1 _) (Nat.le_of_ble_eq_true rfl) rfl (fun ls hl => ?_)
    refine lv_goto (tgt := 15) hx hb dX8_richestCorner_55 (by decide) ?_
    exact hK15 x1 x2 x3 (x4 + 1) _ _ _ hf hw (lv_sub hl [1, 2, 3, 4, 0] rfl)
  have B15 : ∀ (K4 : Int32 → Int32 → Int32 → Option (Int32)) (hK4 : ∀ (x1 : Int32) (x2 : Int32) (x3 : Int32) (H : Heap) (locs : List Loc) (ls : Array Slot), K4 x1 x2 x3 = some rv → gS E A s.heap (wX8_richestCorner E o_p0 a_p0 v_p0_families v_p0_wind v_p0_force v_p0_rain v_p0_lost v_p0_hour f_p0_home f_p0_seeds f_p0_ground) H locs → lv_has ls 6 [(0, .ref o_p0), (1, .int x1), (2, .int x2), (3, .int x3)] → W p l e ({ frames := 3, cells := 0, slots := 0, locals := 69 } : Room) s m args below meth cd H locs 0 0 Q (F0 m 4 ls [])), ∀ n : Nat, ∀ (x1 : Int32) (x2 : Int32) (x3 : Int32) (x4 : Int32) (H : Heap) (locs : List Loc) (ls : Array Slot), fX8_richestCorner_b15 K4 v_p0_families f_p0_home f_p0_seeds f_p0_ground n x1 x2 x3 x4 = some rv → gS E A s.heap (wX8_richestCorner E o_p0 a_p0 v_p0_families v_p0_wind v_p0_force v_p0_rain v_p0_lost v_p0_hour f_p0_home f_p0_seeds f_p0_ground) H locs → lv_has ls 6 [(0, .ref o_p0), (1, .int x1), (2, .int x2), (3, .int x3), (4, .int x4)] → W p l e ({ frames := 3, cells := 0, slots := 0, locals := 69 } : Room) s m args below meth cd H locs 0 0 Q (F0 m 15 ls []) := by
    intro K4 hK4
    intro n
    induction n with
    | zero => intro x1 x2 x3 x4 H locs ls hf hw hl; exact g_no hf
    | succ n ih =>
      intro x1 x2 x3 x4 H locs ls hf hw hl
      refine lv_iload hx hb dX8_richestCorner_15 (lv_at hl 4 rfl) ?_
      refine lv_bipush (v := 6) hx hb dX8_richestCorner_17 k_b6 ?_
      refine lv_iload_n hx hb dX8_richestCorner_19 rfl (lv_at hl 1 rfl) ?_
      refine lv_isub hx hb dX8_richestCorner_20 ?_
      refine lv_icmp_gt (tgt := 58) hx hb dX8_richestCorner_21 (by decide) (fun hc => ?_) (fun hc => ?_)
      · have hf := g_t hc hf
        refine lv_iinc (lv' := [(3, .int (x3 + 1)), (0, .ref o_p0), (1, .int x1), (2, .int x2), (4, .int x4)]) hx hb dX8_richestCorner_58 hl (k := 3) rfl (k_inc1 _) (Nat.le_of_ble_eq_true rfl) rfl (fun ls hl => ?_)
        refine lv_goto (tgt := 4) hx hb dX8_richestCorner_61 (by decide) ?_
        exact hK4 x1 x2 (x3 + 1) _ _ _ hf hw (lv_sub hl [1, 2, 3, 0] rfl)
      · have hf := g_f hc hf
        refine lv_bipush (v := 6) hx hb dX8_richestCorner_24 k_b6 ?_
        refine lv_iload_n hx hb dX8_richestCorner_26 rfl (lv_at hl 3 rfl) ?_
        refine lv_imul hx hb dX8_richestCorner_27 ?_
        refine lv_iload hx hb dX8_richestCorner_28 (lv_at hl 4 rfl) ?_
        refine lv_iadd hx hb dX8_richestCorner_30 ?_
        refine lv_istore (lv' := [(5, .int ((6 * x3) + x4)), (0, .ref o_p0), (1, .int x1), (2, .int x2), (3, .int x3), (4, .int x4)]) hx hb dX8_richestCorner_31 hl (Nat.le_of_ble_eq_true rfl) rfl (fun ls hl => ?_)
        refine lv_aload_n hx hb dX8_richestCorner_33 rfl (lv_at hl 1 rfl) ?_
        refine lv_iload hx hb dX8_richestCorner_34 (lv_at hl 0 rfl) ?_
        refine lv_iload_n hx hb dX8_richestCorner_36 rfl (lv_at hl 2 rfl) ?_
        obtain ⟨r1, hc2, hf⟩ := gB_s hf
        refine g_ki (is := [0, 1, 2, 3]) (w1 := (wX8_squareWorth E o_p0 a_p0 v_p0_families v_p0_wind v_p0_force v_p0_rain v_p0_lost v_p0_hour f_p0_home f_p0_seeds f_p0_ground)) (ws' := (wX8_richestCorner E o_p0 a_p0 v_p0_families v_p0_wind v_p0_force v_p0_rain v_p0_lost v_p0_hour f_p0_home f_p0_seeds f_p0_ground)) hw hA (g_rS hx hb hml hG hown hK hw (is := [0, 1, 2, 3]) rfl (by decide) (mX8_squareWorth l E o_p0 a_p0 v_p0_families v_p0_wind v_p0_force v_p0_rain v_p0_lost v_p0_hour f_p0_home f_p0_seeds f_p0_ground ((6 * x3) + x4) x1 r1 hc2) wd_27_13 wd_27_14 wd_25_12 wd_27_15 hX8_squareWorth g_allgood ⟨rfl, rfl⟩ ⟨Nat.le_of_ble_eq_true rfl, Nat.le_of_ble_eq_true rfl⟩ ⟨Nat.zero_le _, Nat.zero_le _⟩ rfl hl.1 rfl (Nat.le_of_ble_eq_true rfl) dX8_richestCorner_37) rfl rfl rfl (fun H locs hw => ?_)
        refine lv_aload_n hx hb dX8_richestCorner_40 rfl (lv_at hl 1 rfl) ?_
        refine lv_iload_n hx hb dX8_richestCorner_41 rfl (lv_at hl 3 rfl) ?_
        refine lv_iload_n hx hb dX8_richestCorner_42 rfl (lv_at hl 2 rfl) ?_
        obtain ⟨r3, hc4, hf⟩ := gB_s hf
        refine g_ki (is := [0, 1, 2, 3]) (w1 := (wX8_squareWorth E o_p0 a_p0 v_p0_families v_p0_wind v_p0_force v_p0_rain v_p0_lost v_p0_hour f_p0_home f_p0_seeds f_p0_ground)) (ws' := (wX8_richestCorner E o_p0 a_p0 v_p0_families v_p0_wind v_p0_force v_p0_rain v_p0_lost v_p0_hour f_p0_home f_p0_seeds f_p0_ground)) hw hA (g_rS hx hb hml hG hown hK hw (is := [0, 1, 2, 3]) rfl (by decide) (mX8_squareWorth l E o_p0 a_p0 v_p0_families v_p0_wind v_p0_force v_p0_rain v_p0_lost v_p0_hour f_p0_home f_p0_seeds f_p0_ground x2 x1 r3 hc4) wd_27_13 wd_27_14 wd_25_12 wd_27_15 hX8_squareWorth g_allgood ⟨rfl, rfl⟩ ⟨Nat.le_of_ble_eq_true rfl, Nat.le_of_ble_eq_true rfl⟩ ⟨Nat.zero_le _, Nat.zero_le _⟩ rfl hl.1 rfl (Nat.le_of_ble_eq_true rfl) dX8_richestCorner_43) rfl rfl rfl (fun H locs hw => ?_)
        refine lv_icmp_le (tgt := 52) hx hb dX8_richestCorner_46 (by decide) (fun hc => ?_) (fun hc => ?_)
        · have hf := g_t hc hf
          exact B52 (fX8_richestCorner_b15 K4 v_p0_families f_p0_home f_p0_seeds f_p0_ground n) ih x1 x2 x3 x4 _ _ _ hf hw (lv_sub hl [1, 2, 3, 4, 5] rfl)
        · have hf := g_f hc hf
          refine lv_iload hx hb dX8_richestCorner_49 (lv_at hl 0 rfl) ?_
          refine lv_istore_n (lv' := [(2, .int ((6 * x3) + x4)), (5, .int ((6 * x3) + x4)), (0, .ref o_p0), (1, .int x1), (3, .int x3), (4, .int x4)]) hx hb dX8_richestCorner_51 rfl hl (Nat.le_of_ble_eq_true rfl) rfl (fun ls hl => ?_)
          exact B52 (fX8_richestCorner_b15 K4 v_p0_families f_p0_home f_p0_seeds f_p0_ground n) ih x1 ((6 * x3) + x4) x3 x4 _ _ _ hf hw (lv_sub hl [2, 3, 0, 4, 5] rfl)
  have B4 : ∀ n : Nat, ∀ (x1 : Int32) (x2 : Int32) (x3 : Int32) (H : Heap) (locs : List Loc) (ls : Array Slot), fX8_richestCorner_b4 v_p0_families f_p0_home f_p0_seeds f_p0_ground n x1 x2 x3 = some rv → gS E A s.heap (wX8_richestCorner E o_p0 a_p0 v_p0_families v_p0_wind v_p0_force v_p0_rain v_p0_lost v_p0_hour f_p0_home f_p0_seeds f_p0_ground) H locs → lv_has ls 6 [(0, .ref o_p0), (1, .int x1), (2, .int x2), (3, .int x3)] → W p l e ({ frames := 3, cells := 0, slots := 0, locals := 69 } : Room) s m args below meth cd H locs 0 0 Q (F0 m 4 ls []) := by
    intro n
    induction n with
    | zero => intro x1 x2 x3 H locs ls hf hw hl; exact g_no hf
    | succ n ih =>
      intro x1 x2 x3 H locs ls hf hw hl
      refine lv_iload_n hx hb dX8_richestCorner_4 rfl (lv_at hl 3 rfl) ?_
      refine lv_bipush (v := 6) hx hb dX8_richestCorner_5 k_b6 ?_
      refine lv_iload_n hx hb dX8_richestCorner_7 rfl (lv_at hl 1 rfl) ?_
      refine lv_isub hx hb dX8_richestCorner_8 ?_
      refine lv_icmp_gt (tgt := 64) hx hb dX8_richestCorner_9 (by decide) (fun hc => ?_) (fun hc => ?_)
      · have hf := g_t hc hf
        refine lv_iload_n hx hb dX8_richestCorner_64 rfl (lv_at hl 2 rfl) ?_
        exact hret1 x2 _ _ _ _ hf hw dX8_richestCorner_65
      · have hf := g_f hc hf
        refine lv_iconst (v := 0) hx hb dX8_richestCorner_12 k_i0 ?_
        refine lv_istore (lv' := [(4, .int 0), (0, .ref o_p0), (1, .int x1), (2, .int x2), (3, .int x3)]) hx hb dX8_richestCorner_13 hl (Nat.le_of_ble_eq_true rfl) rfl (fun ls hl => ?_)
        exact B15 (fX8_richestCorner_b4 v_p0_families f_p0_home f_p0_seeds f_p0_ground n) ih 1000 x1 x2 x3 0 _ _ _ hf hw (lv_sub hl [1, 2, 3, 4, 0] rfl)
  refine lv_iconst (v := 0) hx hb dX8_richestCorner_0 k_i0 ?_
  refine lv_istore_n (lv' := [(2, .int 0), (0, .ref o_p0), (1, .int x1)]) hx hb dX8_richestCorner_1 rfl hl (Nat.le_of_ble_eq_true rfl) rfl (fun ls hl => ?_)
  refine lv_iconst (v := 0) hx hb dX8_richestCorner_2 k_i0 ?_
  refine lv_istore_n (lv' := [(3, .int 0), (2, .int 0), (0, .ref o_p0), (1, .int x1)]) hx hb dX8_richestCorner_3 rfl hl (Nat.le_of_ble_eq_true rfl) rfl (fun ls hl => ?_)
  exact B4 1000 x1 0 0 _ _ _ hf hw (lv_sub hl [2, 3, 1, 0] rfl)
theorem hX8_richerThan : yX8_richerThan.cls ≠ "java/lang/invoke/MethodHandle" ∧ yX8_richerThan.cls ≠ "java/lang/invoke/VarHandle" ∧ (parseMethodDescriptor yX8_richerThan.desc).map (fun d => d.parameters.length) = some 2 := by decide +kernel
set_option maxHeartbeats 4000000 in
set_option maxRecDepth 100000 in
theorem mX8_richerThan (l : Launch) (E : gE) (o_p0 : Nat) (a_p0 : (Nat → Nat)) (v_p0_families : Int32) (v_p0_wind : Int32) (v_p0_force : Int32) (v_p0_rain : Int32) (v_p0_lost : Int32) (v_p0_hour : Int32) (f_p0_seeds : (Nat → Int32)) (x1 : Int32) (rv : Int32) (hf : fX8_richerThan v_p0_families f_p0_seeds x1 = some rv) {sz : Nat} : gMi l yX8_richerThan (gW yX8_richerThan cX8_richerThan 6 (some .int)) ({ frames := 1, cells := 0, slots := 0, locals := 21 } : Room) E [.ref o_p0, .int x1] (wX8_richerThan E o_p0 a_p0 v_p0_families v_p0_wind v_p0_force v_p0_rain v_p0_lost v_p0_hour f_p0_seeds) sz rv (wX8_richerThan E o_p0 a_p0 v_p0_families v_p0_wind v_p0_force v_p0_rain v_p0_lost v_p0_hour f_p0_seeds) := by
  refine g_openI (own := RX8) (by decide) rfl (Nat.le_of_ble_eq_true rfl) (fun p e s m args below meth cd Q A hx hb hml hown hG hK hA hret hw ls hl => ?_)
  have hl : lv_has ls 6 [(0, .ref o_p0), (1, .int x1)] := hl
  have hret1 : ∀ (v : Int32)  (H : Heap) (locs : List Loc) (pc : Nat) (ls : Array Slot), some v = some rv → gS E A s.heap (wX8_richerThan E o_p0 a_p0 v_p0_families v_p0_wind v_p0_force v_p0_rain v_p0_lost v_p0_hour f_p0_seeds) H locs → decode cX8_richerThan pc = .ok (.ireturn, 1) → W p l e ({ frames := 1, cells := 0, slots := 0, locals := 21 } : Room) s m args below meth cd H locs 0 0 Q (F0 m pc ls [.int v]) := by
    intro v  H locs pc ls h hw hd
    cases h
    exact hret H locs pc ls hw hd
  have B76 : ∀ (K14 : Int32 → Int32 → Int32 → Int32 → Option (Int32)) (hK14 : ∀ (x1 : Int32) (x2 : Int32) (x3 : Int32) (x4 : Int32) (H : Heap) (locs : List Loc) (ls : Array Slot), K14 x1 x2 x3 x4 = some rv → gS E A s.heap (wX8_richerThan E o_p0 a_p0 v_p0_families v_p0_wind v_p0_force v_p0_rain v_p0_lost v_p0_hour f_p0_seeds) H locs → lv_has ls 6 [(0, .ref o_p0), (1, .int x1), (2, .int x2), (3, .int x3), (4, .int x4)] → W p l e ({ frames := 1, cells := 0, slots := 0, locals := 21 } : Room) s m args below meth cd H locs 0 0 Q (F0 m 14 ls [])), ∀ (x1 : Int32) (x2 : Int32) (x4 : Int32) (s0 : Int32) (s1 : Int32) (H : Heap) (locs : List Loc) (ls : Array Slot), fX8_richerThan_b76 K14 v_p0_families f_p0_seeds x1 x2 x4 s0 s1 = some rv → gS E A s.heap (wX8_richerThan E o_p0 a_p0 v_p0_families v_p0_wind v_p0_force v_p0_rain v_p0_lost v_p0_hour f_p0_seeds) H locs → lv_has ls 6 [(0, .ref o_p0), (1, .int x1), (2, .int x2), (4, .int x4)] → W p l e ({ frames := 1, cells := 0, slots := 0, locals := 21 } : Room) s m args below meth cd H locs 0 0 Q (F0 m 76 ls [.int s1, .int s0]) := by
    intro K14 hK14 x1 x2 x4 s0 s1 H locs ls hf hw hl
    refine lv_iadd hx hb dX8_richerThan_76 ?_
    refine lv_istore_n (lv' := [(3, .int (s0 + s1)), (0, .ref o_p0), (1, .int x1), (2, .int x2), (4, .int x4)]) hx hb dX8_richerThan_77 rfl hl (Nat.le_of_ble_eq_true rfl) rfl (fun ls hl => ?_)
    refine lv_iinc (lv' := [(4, .int (x4 + 1)), (3, .int (s0 + s1)), (0, .ref o_p0), (1, .int x1), (2, .int x2)]) hx hb dX8_richerThan_78 hl (k := 4) rfl (k_inc1 _) (Nat.le_of_ble_eq_true rfl) rfl (fun ls hl => ?_)
    refine lv_goto (tgt := 14) hx hb dX8_richerThan_81 (by decide) ?_
    exact hK14 x1 x2 (s0 + s1) (x4 + 1) _ _ _ hf hw (lv_sub hl [2, 3, 4, 1, 0] rfl)
  have B75 : ∀ (K14 : Int32 → Int32 → Int32 → Int32 → Option (Int32)) (hK14 : ∀ (x1 : Int32) (x2 : Int32) (x3 : Int32) (x4 : Int32) (H : Heap) (locs : List Loc) (ls : Array Slot), K14 x1 x2 x3 x4 = some rv → gS E A s.heap (wX8_richerThan E o_p0 a_p0 v_p0_families v_p0_wind v_p0_force v_p0_rain v_p0_lost v_p0_hour f_p0_seeds) H locs → lv_has ls 6 [(0, .ref o_p0), (1, .int x1), (2, .int x2), (3, .int x3), (4, .int x4)] → W p l e ({ frames := 1, cells := 0, slots := 0, locals := 21 } : Room) s m args below meth cd H locs 0 0 Q (F0 m 14 ls [])), ∀ (x1 : Int32) (x2 : Int32) (x4 : Int32) (s0 : Int32) (H : Heap) (locs : List Loc) (ls : Array Slot), fX8_richerThan_b75 K14 v_p0_families f_p0_seeds x1 x2 x4 s0 = some rv → gS E A s.heap (wX8_richerThan E o_p0 a_p0 v_p0_families v_p0_wind v_p0_force v_p0_rain v_p0_lost v_p0_hour f_p0_seeds) H locs → lv_has ls 6 [(0, .ref o_p0), (1, .int x1), (2, .int x2), (4, .int x4)] → W p l e ({ frames := 1, cells := 0, slots := 0, locals := 21 } : Room) s m args below meth cd H locs 0 0 Q (F0 m 75 ls [.int s0]) := by
    intro K14 hK14 x1 x2 x4 s0 H locs ls hf hw hl
    refine lv_iconst (v := 0) hx hb dX8_richerThan_75 k_i0 ?_
    exact B76 K14 hK14 x1 x2 x4 s0 0 _ _ _ hf hw (lv_sub hl [0, 1, 2, 3] rfl)
  have B54 : ∀ (K14 : Int32 → Int32 → Int32 → Int32 → Option (Int32)) (hK14 : ∀ (x1 : Int32) (x2 : Int32) (x3 : Int32) (x4 : Int32) (H : Heap) (locs : List Loc) (ls : Array Slot), K14 x1 x2 x3 x4 = some rv → gS E A s.heap (wX8_richerThan E o_p0 a_p0 v_p0_families v_p0_wind v_p0_force v_p0_rain v_p0_lost v_p0_hour f_p0_seeds) H locs → lv_has ls 6 [(0, .ref o_p0), (1, .int x1), (2, .int x2), (3, .int x3), (4, .int x4)] → W p l e ({ frames := 1, cells := 0, slots := 0, locals := 21 } : Room) s m args below meth cd H locs 0 0 Q (F0 m 14 ls [])), ∀ (x1 : Int32) (x2 : Int32) (x3 : Int32) (x4 : Int32) (s0 : Int32) (H : Heap) (locs : List Loc) (ls : Array Slot), fX8_richerThan_b54 K14 v_p0_families f_p0_seeds x1 x2 x3 x4 s0 = some rv → gS E A s.heap (wX8_richerThan E o_p0 a_p0 v_p0_families v_p0_wind v_p0_force v_p0_rain v_p0_lost v_p0_hour f_p0_seeds) H locs → lv_has ls 6 [(0, .ref o_p0), (1, .int x1), (2, .int x2), (3, .int x3), (4, .int x4)] → W p l e ({ frames := 1, cells := 0, slots := 0, locals := 21 } : Room) s m args below meth cd H locs 0 0 Q (F0 m 54 ls [.int s0]) := by
    intro K14 hK14 x1 x2 x3 x4 s0 H locs ls hf hw hl
    refine lv_istore (lv' := [(5, .int s0), (0, .ref o_p0), (1, .int x1), (2, .int x2), (3, .int x3), (4, .int x4)]) hx hb dX8_richerThan_54 hl (Nat.le_of_ble_eq_true rfl) rfl (fun ls hl => ?_)
    refine lv_iload_n hx hb dX8_richerThan_56 rfl (lv_at hl 4 rfl) ?_
    refine lv_aload_n hx hb dX8_richerThan_57 rfl (lv_at hl 1 rfl) ?_
    refine lv_iload hx hb dX8_richerThan_58 (lv_at hl 5 rfl) ?_
    obtain ⟨r1, hc2, hf⟩ := gB_s hf
    refine g_ki (is := [0]) (w1 := (wX6_isThere E o_p0 a_p0 v_p0_families v_p0_wind v_p0_force v_p0_rain v_p0_lost v_p0_hour)) (ws' := (wX8_richerThan E o_p0 a_p0 v_p0_families v_p0_wind v_p0_force v_p0_rain v_p0_lost v_p0_hour f_p0_seeds)) hw hA (g_rV hx hb hml hG hown hK hw (is := [0]) rfl (by decide) (mX6_isThere l E o_p0 a_p0 v_p0_families v_p0_wind v_p0_force v_p0_rain v_p0_lost v_p0_hour x4 r1 hc2) wd_26_12 wd_9_9 wd_9_10 wd_2_20 wd_9_11 hX6_isThere g_allgood ⟨rfl, rfl⟩ ⟨Nat.le_of_ble_eq_true rfl, Nat.le_of_ble_eq_true rfl⟩ ⟨Nat.zero_le _, Nat.zero_le _⟩ (ci := 5) (q0 := 0) rfl rfl rfl rfl hl.1 rfl (Nat.le_of_ble_eq_true rfl) dX8_richerThan_60) rfl rfl rfl (fun H locs hw => ?_)
    refine lv_if_eq (tgt := 75) hx hb dX8_richerThan_63 (by decide) (fun hc => ?_) (fun hc => ?_)
    · have hf := g_t hc hf
      exact B75 K14 hK14 x1 x2 x4 x3 _ _ _ hf hw (lv_sub hl [1, 2, 3, 5] rfl)
    · have hf := g_f hc hf
      refine lv_iload hx hb dX8_richerThan_66 (lv_at hl 0 rfl) ?_
      refine lv_if_eq (tgt := 75) hx hb dX8_richerThan_68 (by decide) (fun hc => ?_) (fun hc => ?_)
      · have hf := g_t hc hf
        exact B75 K14 hK14 x1 x2 x4 x3 _ _ _ hf hw (lv_sub hl [1, 2, 3, 5] rfl)
      · have hf := g_f hc hf
        refine lv_iconst (v := 1) hx hb dX8_richerThan_71 k_i1 ?_
        refine lv_goto (tgt := 76) hx hb dX8_richerThan_72 (by decide) ?_
        exact B76 K14 hK14 x1 x2 x4 x3 1 _ _ _ hf hw (lv_sub hl [1, 2, 3, 5] rfl)
  have B49 : ∀ (K14 : Int32 → Int32 → Int32 → Int32 → Option (Int32)) (hK14 : ∀ (x1 : Int32) (x2 : Int32) (x3 : Int32) (x4 : Int32) (H : Heap) (locs : List Loc) (ls : Array Slot), K14 x1 x2 x3 x4 = some rv → gS E A s.heap (wX8_richerThan E o_p0 a_p0 v_p0_families v_p0_wind v_p0_force v_p0_rain v_p0_lost v_p0_hour f_p0_seeds) H locs → lv_has ls 6 [(0, .ref o_p0), (1, .int x1), (2, .int x2), (3, .int x3), (4, .int x4)] → W p l e ({ frames := 1, cells := 0, slots := 0, locals := 21 } : Room) s m args below meth cd H locs 0 0 Q (F0 m 14 ls [])), ∀ (x1 : Int32) (x2 : Int32) (x3 : Int32) (x4 : Int32) (H : Heap) (locs : List Loc) (ls : Array Slot), fX8_richerThan_b49 K14 v_p0_families f_p0_seeds x1 x2 x3 x4 = some rv → gS E A s.heap (wX8_richerThan E o_p0 a_p0 v_p0_families v_p0_wind v_p0_force v_p0_rain v_p0_lost v_p0_hour f_p0_seeds) H locs → lv_has ls 6 [(0, .ref o_p0), (1, .int x1), (2, .int x2), (3, .int x3), (4, .int x4)] → W p l e ({ frames := 1, cells := 0, slots := 0, locals := 21 } : Room) s m args below meth cd H locs 0 0 Q (F0 m 49 ls []) := by
    intro K14 hK14 x1 x2 x3 x4 H locs ls hf hw hl
    refine lv_iconst (v := 1) hx hb dX8_richerThan_49 k_i1 ?_
    refine lv_goto (tgt := 54) hx hb dX8_richerThan_50 (by decide) ?_
    exact B54 K14 hK14 x1 x2 x3 x4 1 _ _ _ hf hw (lv_sub hl [0, 1, 2, 3, 4] rfl)
  have B53 : ∀ (K14 : Int32 → Int32 → Int32 → Int32 → Option (Int32)) (hK14 : ∀ (x1 : Int32) (x2 : Int32) (x3 : Int32) (x4 : Int32) (H : Heap) (locs : List Loc) (ls : Array Slot), K14 x1 x2 x3 x4 = some rv → gS E A s.heap (wX8_richerThan E o_p0 a_p0 v_p0_families v_p0_wind v_p0_force v_p0_rain v_p0_lost v_p0_hour f_p0_seeds) H locs → lv_has ls 6 [(0, .ref o_p0), (1, .int x1), (2, .int x2), (3, .int x3), (4, .int x4)] → W p l e ({ frames := 1, cells := 0, slots := 0, locals := 21 } : Room) s m args below meth cd H locs 0 0 Q (F0 m 14 ls [])), ∀ (x1 : Int32) (x2 : Int32) (x3 : Int32) (x4 : Int32) (H : Heap) (locs : List Loc) (ls : Array Slot), fX8_richerThan_b53 K14 v_p0_families f_p0_seeds x1 x2 x3 x4 = some rv → gS E A s.heap (wX8_richerThan E o_p0 a_p0 v_p0_families v_p0_wind v_p0_force v_p0_rain v_p0_lost v_p0_hour f_p0_seeds) H locs → lv_has ls 6 [(0, .ref o_p0), (1, .int x1), (2, .int x2), (3, .int x3), (4, .int x4)] → W p l e ({ frames := 1, cells := 0, slots := 0, locals := 21 } : Room) s m args below meth cd H locs 0 0 Q (F0 m 53 ls []) := by
    intro K14 hK14 x1 x2 x3 x4 H locs ls hf hw hl
    refine lv_iconst (v := 0) hx hb dX8_richerThan_53 k_i0 ?_
    exact B54 K14 hK14 x1 x2 x3 x4 0 _ _ _ hf hw (lv_sub hl [0, 1, 2, 3, 4] rfl)
  have B14 : ∀ n : Nat, ∀ (x1 : Int32) (x2 : Int32) (x3 : Int32) (x4 : Int32) (H : Heap) (locs : List Loc) (ls : Array Slot), fX8_richerThan_b14 v_p0_families f_p0_seeds n x1 x2 x3 x4 = some rv → gS E A s.heap (wX8_richerThan E o_p0 a_p0 v_p0_families v_p0_wind v_p0_force v_p0_rain v_p0_lost v_p0_hour f_p0_seeds) H locs → lv_has ls 6 [(0, .ref o_p0), (1, .int x1), (2, .int x2), (3, .int x3), (4, .int x4)] → W p l e ({ frames := 1, cells := 0, slots := 0, locals := 21 } : Room) s m args below meth cd H locs 0 0 Q (F0 m 14 ls []) := by
    intro n
    induction n with
    | zero => intro x1 x2 x3 x4 H locs ls hf hw hl; exact g_no hf
    | succ n ih =>
      intro x1 x2 x3 x4 H locs ls hf hw hl
      refine lv_iload hx hb dX8_richerThan_14 (lv_at hl 4 rfl) ?_
      refine lv_bipush (v := 6) hx hb dX8_richerThan_16 k_b6 ?_
      refine lv_icmp_ge (tgt := 84) hx hb dX8_richerThan_18 (by decide) (fun hc => ?_) (fun hc => ?_)
      · have hf := g_t hc hf
        refine lv_iload_n hx hb dX8_richerThan_84 rfl (lv_at hl 3 rfl) ?_
        exact hret1 x3 _ _ _ _ hf hw dX8_richerThan_85
      · have hf := g_f hc hf
        refine lv_aload_n hx hb dX8_richerThan_21 rfl (lv_at hl 0 rfl) ?_
        refine g_get hx hb hG hown hK hw inlX6 (ci := 5) rfl 0 1 (Nat.le_of_ble_eq_true rfl) rfl rfl wd_27_20 dX8_richerThan_22 ?_
        refine lv_iload hx hb dX8_richerThan_25 (lv_at hl 4 rfl) ?_
        obtain ⟨hi3, hf⟩ := gA_s hf
        refine g_iald hx hb hK hw 1 rfl hi3 dX8_richerThan_27 ?_
        refine lv_iload_n hx hb dX8_richerThan_28 rfl (lv_at hl 2 rfl) ?_
        refine lv_icmp_gt (tgt := 49) hx hb dX8_richerThan_29 (by decide) (fun hc => ?_) (fun hc => ?_)
        · have hf := g_t hc hf
          exact B49 (fX8_richerThan_b14 v_p0_families f_p0_seeds n) ih x1 x2 x3 x4 _ _ _ hf hw (lv_sub hl [0, 1, 2, 3, 4] rfl)
        · have hf := g_f hc hf
          refine lv_aload_n hx hb dX8_richerThan_32 rfl (lv_at hl 0 rfl) ?_
          refine g_get hx hb hG hown hK hw inlX6 (ci := 5) rfl 0 1 (Nat.le_of_ble_eq_true rfl) rfl rfl wd_27_20 dX8_richerThan_33 ?_
          refine lv_iload hx hb dX8_richerThan_36 (lv_at hl 4 rfl) ?_
          obtain ⟨hi4, hf⟩ := gA_s hf
          refine g_iald hx hb hK hw 1 rfl hi4 dX8_richerThan_38 ?_
          refine lv_iload_n hx hb dX8_richerThan_39 rfl (lv_at hl 2 rfl) ?_
          refine lv_icmp_ne (tgt := 53) hx hb dX8_richerThan_40 (by decide) (fun hc => ?_) (fun hc => ?_)
          · have hf := g_f hc hf
            exact B53 (fX8_richerThan_b14 v_p0_families f_p0_seeds n) ih x1 x2 x3 x4 _ _ _ hf hw (lv_sub hl [0, 1, 2, 3, 4] rfl)
          · have hf := g_t hc hf
            refine lv_iload hx hb dX8_richerThan_43 (lv_at hl 4 rfl) ?_
            refine lv_iload_n hx hb dX8_richerThan_45 rfl (lv_at hl 1 rfl) ?_
            refine lv_icmp_ge (tgt := 53) hx hb dX8_richerThan_46 (by decide) (fun hc => ?_) (fun hc => ?_)
            · have hf := g_t hc hf
              exact B53 (fX8_richerThan_b14 v_p0_families f_p0_seeds n) ih x1 x2 x3 x4 _ _ _ hf hw (lv_sub hl [0, 1, 2, 3, 4] rfl)
            · have hf := g_f hc hf
              exact B49 (fX8_richerThan_b14 v_p0_families f_p0_seeds n) ih x1 x2 x3 x4 _ _ _ hf hw (lv_sub hl [0, 1, 2, 3, 4] rfl)
  refine lv_aload_n hx hb dX8_richerThan_0 rfl (lv_at hl 0 rfl) ?_
  refine g_get hx hb hG hown hK hw inlX6 (ci := 5) rfl 0 1 (Nat.le_of_ble_eq_true rfl) rfl rfl wd_27_20 dX8_richerThan_1 ?_
  refine lv_iload_n hx hb dX8_richerThan_4 rfl (lv_at hl 1 rfl) ?_
  obtain ⟨r5, hc6, hf⟩ := gB_s hf
  refine g_ki (is := [1]) (w1 := (wX10_at E (a_p0 1) 6 f_p0_seeds)) (ws' := (wX8_richerThan E o_p0 a_p0 v_p0_families v_p0_wind v_p0_force v_p0_rain v_p0_lost v_p0_hour f_p0_seeds)) hw hA (g_rN (host := "SeedBank") hx hb hml hG hown hK hw (is := [1]) rfl (by decide) (mX10_at l E (a_p0 1) 6 f_p0_seeds x1 r5 hc6) (List.mem_of_getElem? (i := 17) rfl) wd_15_23 wd_1_2 wd_16_0 hX10_at g_allgood ⟨rfl, rfl⟩ ⟨Nat.le_of_ble_eq_true rfl, Nat.le_of_ble_eq_true rfl⟩ ⟨Nat.zero_le _, Nat.zero_le _⟩ rfl hl.1 rfl (Nat.le_of_ble_eq_true rfl) dX8_richerThan_5) rfl rfl rfl (fun H locs hw => ?_)
  refine lv_istore_n (lv' := [(2, .int r5), (0, .ref o_p0), (1, .int x1)]) hx hb dX8_richerThan_8 rfl hl (Nat.le_of_ble_eq_true rfl) rfl (fun ls hl => ?_)
  refine lv_iconst (v := 0) hx hb dX8_richerThan_9 k_i0 ?_
  refine lv_istore_n (lv' := [(3, .int 0), (2, .int r5), (0, .ref o_p0), (1, .int x1)]) hx hb dX8_richerThan_10 rfl hl (Nat.le_of_ble_eq_true rfl) rfl (fun ls hl => ?_)
  refine lv_iconst (v := 0) hx hb dX8_richerThan_11 k_i0 ?_
  refine lv_istore (lv' := [(4, .int 0), (3, .int 0), (2, .int r5), (0, .ref o_p0), (1, .int x1)]) hx hb dX8_richerThan_12 hl (Nat.le_of_ble_eq_true rfl) rfl (fun ls hl => ?_)
  exact B14 1000 x1 r5 0 0 _ _ _ hf hw (lv_sub hl [3, 4, 2, 1, 0] rfl)
theorem hX8_taxOf : yX8_taxOf.cls ≠ "java/lang/invoke/MethodHandle" ∧ yX8_taxOf.cls ≠ "java/lang/invoke/VarHandle" ∧ (parseMethodDescriptor yX8_taxOf.desc).map (fun d => d.parameters.length) = some 3 := by decide +kernel
set_option maxHeartbeats 4000000 in
set_option maxRecDepth 100000 in
theorem mX8_taxOf (l : Launch) (E : gE) (o_p0 : Nat) (a_p0 : (Nat → Nat)) (v_p0_families : Int32) (v_p0_wind : Int32) (v_p0_force : Int32) (v_p0_rain : Int32) (v_p0_lost : Int32) (v_p0_hour : Int32) (f_p0_seeds : (Nat → Int32)) (x1 : Int32) (x2 : Int32) (rv : Int32) (hf : fX8_taxOf v_p0_families f_p0_seeds x1 x2 = some rv) {sz : Nat} : gMi l yX8_taxOf (gW yX8_taxOf cX8_taxOf 6 (some .int)) ({ frames := 2, cells := 0, slots := 0, locals := 46 } : Room) E [.ref o_p0, .int x1, .int x2] (wX8_taxOf E o_p0 a_p0 v_p0_families v_p0_wind v_p0_force v_p0_rain v_p0_lost v_p0_hour f_p0_seeds) sz rv (wX8_taxOf E o_p0 a_p0 v_p0_families v_p0_wind v_p0_force v_p0_rain v_p0_lost v_p0_hour f_p0_seeds) := by
  refine g_openI (own := RX8) (by decide) rfl (Nat.le_of_ble_eq_true rfl) (fun p e s m args below meth cd Q A hx hb hml hown hG hK hA hret hw ls hl => ?_)
  have hl : lv_has ls 6 [(0, .ref o_p0), (1, .int x1), (2, .int x2)] := hl
  have hret1 : ∀ (v : Int32)  (H : Heap) (locs : List Loc) (pc : Nat) (ls : Array Slot), some v = some rv → gS E A s.heap (wX8_taxOf E o_p0 a_p0 v_p0_families v_p0_wind v_p0_force v_p0_rain v_p0_lost v_p0_hour f_p0_seeds) H locs → decode cX8_taxOf pc = .ok (.ireturn, 1) → W p l e ({ frames := 2, cells := 0, slots := 0, locals := 46 } : Room) s m args below meth cd H locs 0 0 Q (F0 m pc ls [.int v]) := by
    intro v  H locs pc ls h hw hd
    cases h
    exact hret H locs pc ls hw hd
  have B50 : ∀ (K17 : Int32 → Int32 → Int32 → Int32 → Int32 → Option (Int32)) (hK17 : ∀ (x1 : Int32) (x2 : Int32) (x3 : Int32) (x4 : Int32) (x5 : Int32) (H : Heap) (locs : List Loc) (ls : Array Slot), K17 x1 x2 x3 x4 x5 = some rv → gS E A s.heap (wX8_taxOf E o_p0 a_p0 v_p0_families v_p0_wind v_p0_force v_p0_rain v_p0_lost v_p0_hour f_p0_seeds) H locs → lv_has ls 6 [(0, .ref o_p0), (1, .int x1), (2, .int x2), (3, .int x3), (4, .int x4), (5, .int x5)] → W p l e ({ frames := 2, cells := 0, slots := 0, locals := 46 } : Room) s m args below meth cd H locs 0 0 Q (F0 m 17 ls [])), ∀ (x1 : Int32) (x2 : Int32) (x3 : Int32) (x5 : Int32) (s0 : Int32) (s1 : Int32) (H : Heap) (locs : List Loc) (ls : Array Slot), fX8_taxOf_b50 K17 v_p0_families f_p0_seeds x1 x2 x3 x5 s0 s1 = some rv → gS E A s.heap (wX8_taxOf E o_p0 a_p0 v_p0_families v_p0_wind v_p0_force v_p0_rain v_p0_lost v_p0_hour f_p0_seeds) H locs → lv_has ls 6 [(0, .ref o_p0), (1, .int x1), (2, .int x2), (3, .int x3), (5, .int x5)] → W p l e ({ frames := 2, cells := 0, slots := 0, locals := 46 } : Room) s m args below meth cd H locs 0 0 Q (F0 m 50 ls [.int s1, .int s0]) := by
    intro K17 hK17 x1 x2 x3 x5 s0 s1 H locs ls hf hw hl
    refine lv_isub hx hb dX8_taxOf_50 ?_
    refine lv_istore (lv' := [(4, .int (s0 - s1)), (0, .ref o_p0), (1, .int x1), (2, .int x2), (3, .int x3), (5, .int x5)]) hx hb dX8_taxOf_51 hl (Nat.le_of_ble_eq_true rfl) rfl (fun ls hl => ?_)
    refine lv_iinc (lv' := [(5, .int (x5 + 1)), (4, .int (s0 - s1)), (0, .ref o_p0), (1, .int x1), (2, .int x2), (3, .int x3)]) hx hb dX8_taxOf_53 hl (k := 5) rfl (k_inc1 _) (Nat.le_of_ble_eq_true rfl) rfl (fun ls hl => ?_)
    refine lv_goto (tgt := 17) hx hb dX8_taxOf_56 (by decide) ?_
    exact hK17 x1 x2 x3 (s0 - s1) (x5 + 1) _ _ _ hf hw (lv_sub hl [2, 3, 4, 5, 1, 0] rfl)
  have B92 : ∀ (s0 : Int32) (H : Heap) (locs : List Loc) (ls : Array Slot), fX8_taxOf_b92 s0 = some rv → gS E A s.heap (wX8_taxOf E o_p0 a_p0 v_p0_families v_p0_wind v_p0_force v_p0_rain v_p0_lost v_p0_hour f_p0_seeds) H locs → lv_has ls 6 [] → W p l e ({ frames := 2, cells := 0, slots := 0, locals := 46 } : Room) s m args below meth cd H locs 0 0 Q (F0 m 92 ls [.int s0]) := by
    intro  s0 H locs ls hf hw hl
    exact hret1 s0 _ _ _ _ hf hw dX8_taxOf_92
  have B17 : ∀ n : Nat, ∀ (x1 : Int32) (x2 : Int32) (x3 : Int32) (x4 : Int32) (x5 : Int32) (H : Heap) (locs : List Loc) (ls : Array Slot), fX8_taxOf_b17 v_p0_families f_p0_seeds n x1 x2 x3 x4 x5 = some rv → gS E A s.heap (wX8_taxOf E o_p0 a_p0 v_p0_families v_p0_wind v_p0_force v_p0_rain v_p0_lost v_p0_hour f_p0_seeds) H locs → lv_has ls 6 [(0, .ref o_p0), (1, .int x1), (2, .int x2), (3, .int x3), (4, .int x4), (5, .int x5)] → W p l e ({ frames := 2, cells := 0, slots := 0, locals := 46 } : Room) s m args below meth cd H locs 0 0 Q (F0 m 17 ls []) := by
    intro n
    induction n with
    | zero => intro x1 x2 x3 x4 x5 H locs ls hf hw hl; exact g_no hf
    | succ n ih =>
      intro x1 x2 x3 x4 x5 H locs ls hf hw hl
      refine lv_iload hx hb dX8_taxOf_17 (lv_at hl 5 rfl) ?_
      refine lv_bipush (v := 6) hx hb dX8_taxOf_19 k_b6 ?_
      refine lv_icmp_ge (tgt := 59) hx hb dX8_taxOf_21 (by decide) (fun hc => ?_) (fun hc => ?_)
      · have hf := g_t hc hf
        refine lv_iload_n hx hb dX8_taxOf_59 rfl (lv_at hl 2 rfl) ?_
        refine lv_aload_n hx hb dX8_taxOf_60 rfl (lv_at hl 0 rfl) ?_
        refine g_get hx hb hG hown hK hw inlX6 (ci := 5) rfl 0 1 (Nat.le_of_ble_eq_true rfl) rfl rfl wd_27_20 dX8_taxOf_61 ?_
        refine lv_iload_n hx hb dX8_taxOf_64 rfl (lv_at hl 1 rfl) ?_
        obtain ⟨r1, hc2, hf⟩ := gB_s hf
        refine g_ki (is := [1]) (w1 := (wX10_at E (a_p0 1) 6 f_p0_seeds)) (ws' := (wX8_taxOf E o_p0 a_p0 v_p0_families v_p0_wind v_p0_force v_p0_rain v_p0_lost v_p0_hour f_p0_seeds)) hw hA (g_rN (host := "SeedBank") hx hb hml hG hown hK hw (is := [1]) rfl (by decide) (mX10_at l E (a_p0 1) 6 f_p0_seeds x1 r1 hc2) (List.mem_of_getElem? (i := 17) rfl) wd_15_23 wd_1_2 wd_16_0 hX10_at g_allgood ⟨rfl, rfl⟩ ⟨Nat.le_of_ble_eq_true rfl, Nat.le_of_ble_eq_true rfl⟩ ⟨Nat.zero_le _, Nat.zero_le _⟩ rfl hl.1 rfl (Nat.le_of_ble_eq_true rfl) dX8_taxOf_65) rfl rfl rfl (fun H locs hw => ?_)
        refine lv_imul hx hb dX8_taxOf_68 ?_
        refine lv_iload_n hx hb dX8_taxOf_69 rfl (lv_at hl 3 rfl) ?_
        obtain ⟨hd3, hf⟩ := gD_s hf
        refine lv_idiv hx hb dX8_taxOf_70 hd3 ?_
        refine lv_istore (lv' := [(5, .int ((x2 * r1) / x3)), (0, .ref o_p0), (1, .int x1), (2, .int x2), (3, .int x3), (4, .int x4)]) hx hb dX8_taxOf_71 hl (Nat.le_of_ble_eq_true rfl) rfl (fun ls hl => ?_)
        refine lv_aload_n hx hb dX8_taxOf_73 rfl (lv_at hl 1 rfl) ?_
        refine lv_iload_n hx hb dX8_taxOf_74 rfl (lv_at hl 2 rfl) ?_
        obtain ⟨r4, hc5, hf⟩ := gB_s hf
        refine g_ki (is := [0, 1]) (w1 := (wX8_richerThan E o_p0 a_p0 v_p0_families v_p0_wind v_p0_force v_p0_rain v_p0_lost v_p0_hour f_p0_seeds)) (ws' := (wX8_taxOf E o_p0 a_p0 v_p0_families v_p0_wind v_p0_force v_p0_rain v_p0_lost v_p0_hour f_p0_seeds)) hw hA (g_rS hx hb hml hG hown hK hw (is := [0, 1]) rfl (by decide) (mX8_richerThan l E o_p0 a_p0 v_p0_families v_p0_wind v_p0_force v_p0_rain v_p0_lost v_p0_hour f_p0_seeds x1 r4 hc5) wd_30_6 wd_30_7 wd_25_12 wd_30_8 hX8_richerThan g_allgood ⟨rfl, rfl⟩ ⟨Nat.le_of_ble_eq_true rfl, Nat.le_of_ble_eq_true rfl⟩ ⟨Nat.zero_le _, Nat.zero_le _⟩ rfl hl.1 rfl (Nat.le_of_ble_eq_true rfl) dX8_taxOf_75) rfl rfl rfl (fun H locs hw => ?_)
        refine lv_iload hx hb dX8_taxOf_78 (lv_at hl 5 rfl) ?_
        refine lv_icmp_ge (tgt := 90) hx hb dX8_taxOf_80 (by decide) (fun hc => ?_) (fun hc => ?_)
        · have hf := g_t hc hf
          refine lv_iload hx hb dX8_taxOf_90 (lv_at hl 0 rfl) ?_
          exact B92 ((x2 * r1) / x3) _ _ _ hf hw (lv_sub hl [] rfl)
        · have hf := g_f hc hf
          refine lv_iload hx hb dX8_taxOf_83 (lv_at hl 0 rfl) ?_
          refine lv_iconst (v := 1) hx hb dX8_taxOf_85 k_i1 ?_
          refine lv_iadd hx hb dX8_taxOf_86 ?_
          refine lv_goto (tgt := 92) hx hb dX8_taxOf_87 (by decide) ?_
          exact B92 (((x2 * r1) / x3) + 1) _ _ _ hf hw (lv_sub hl [] rfl)
      · have hf := g_f hc hf
        refine lv_iload hx hb dX8_taxOf_24 (lv_at hl 4 rfl) ?_
        refine lv_aload_n hx hb dX8_taxOf_26 rfl (lv_at hl 0 rfl) ?_
        refine lv_iload hx hb dX8_taxOf_27 (lv_at hl 5 rfl) ?_
        obtain ⟨r6, hc7, hf⟩ := gB_s hf
        refine g_ki (is := [0]) (w1 := (wX6_isThere E o_p0 a_p0 v_p0_families v_p0_wind v_p0_force v_p0_rain v_p0_lost v_p0_hour)) (ws' := (wX8_taxOf E o_p0 a_p0 v_p0_families v_p0_wind v_p0_force v_p0_rain v_p0_lost v_p0_hour f_p0_seeds)) hw hA (g_rV hx hb hml hG hown hK hw (is := [0]) rfl (by decide) (mX6_isThere l E o_p0 a_p0 v_p0_families v_p0_wind v_p0_force v_p0_rain v_p0_lost v_p0_hour x5 r6 hc7) wd_26_12 wd_9_9 wd_9_10 wd_2_20 wd_9_11 hX6_isThere g_allgood ⟨rfl, rfl⟩ ⟨Nat.le_of_ble_eq_true rfl, Nat.le_of_ble_eq_true rfl⟩ ⟨Nat.zero_le _, Nat.zero_le _⟩ (ci := 5) (q0 := 0) rfl rfl rfl rfl hl.1 rfl (Nat.le_of_ble_eq_true rfl) dX8_taxOf_29) rfl rfl rfl (fun H locs hw => ?_)
        refine lv_if_eq (tgt := 49) hx hb dX8_taxOf_32 (by decide) (fun hc => ?_) (fun hc => ?_)
        · have hf := g_t hc hf
          refine lv_iconst (v := 0) hx hb dX8_taxOf_49 k_i0 ?_
          exact B50 (fX8_taxOf_b17 v_p0_families f_p0_seeds n) ih x1 x2 x3 x5 x4 0 _ _ _ hf hw (lv_sub hl [0, 1, 2, 3, 5] rfl)
        · have hf := g_f hc hf
          refine lv_iload_n hx hb dX8_taxOf_35 rfl (lv_at hl 2 rfl) ?_
          refine lv_aload_n hx hb dX8_taxOf_36 rfl (lv_at hl 0 rfl) ?_
          refine g_get hx hb hG hown hK hw inlX6 (ci := 5) rfl 0 1 (Nat.le_of_ble_eq_true rfl) rfl rfl wd_27_20 dX8_taxOf_37 ?_
          refine lv_iload hx hb dX8_taxOf_40 (lv_at hl 5 rfl) ?_
          obtain ⟨hi8, hf⟩ := gA_s hf
          refine g_iald hx hb hK hw 1 rfl hi8 dX8_taxOf_42 ?_
          refine lv_imul hx hb dX8_taxOf_43 ?_
          refine lv_iload_n hx hb dX8_taxOf_44 rfl (lv_at hl 3 rfl) ?_
          obtain ⟨hd9, hf⟩ := gD_s hf
          refine lv_idiv hx hb dX8_taxOf_45 hd9 ?_
          refine lv_goto (tgt := 50) hx hb dX8_taxOf_46 (by decide) ?_
          exact B50 (fX8_taxOf_b17 v_p0_families f_p0_seeds n) ih x1 x2 x3 x5 x4 ((x2 * (f_p0_seeds (Int32.toNatClampNeg x5))) / x3) _ _ _ hf hw (lv_sub hl [0, 1, 2, 3, 5] rfl)
  refine lv_aload_n hx hb dX8_taxOf_0 rfl (lv_at hl 0 rfl) ?_
  obtain ⟨r10, hc11, hf⟩ := gB_s hf
  refine g_ki (is := [0, 1]) (w1 := (wX6_allSeeds E o_p0 a_p0 v_p0_families v_p0_wind v_p0_force v_p0_rain v_p0_lost v_p0_hour f_p0_seeds)) (ws' := (wX8_taxOf E o_p0 a_p0 v_p0_families v_p0_wind v_p0_force v_p0_rain v_p0_lost v_p0_hour f_p0_seeds)) hw hA (g_rV hx hb hml hG hown hK hw (is := [0, 1]) rfl (by decide) (mX6_allSeeds l E o_p0 a_p0 v_p0_families v_p0_wind v_p0_force v_p0_rain v_p0_lost v_p0_hour f_p0_seeds r10 hc11) wd_30_5 wd_23_9 wd_23_10 wd_2_20 wd_23_11 hX6_allSeeds g_allgood ⟨rfl, rfl⟩ ⟨Nat.le_of_ble_eq_true rfl, Nat.le_of_ble_eq_true rfl⟩ ⟨Nat.zero_le _, Nat.zero_le _⟩ (ci := 5) (q0 := 0) rfl rfl rfl rfl hl.1 rfl (Nat.le_of_ble_eq_true rfl) dX8_taxOf_1) rfl rfl rfl (fun H locs hw => ?_)
  refine lv_istore_n (lv' := [(3, .int r10), (0, .ref o_p0), (1, .int x1), (2, .int x2)]) hx hb dX8_taxOf_4 rfl hl (Nat.le_of_ble_eq_true rfl) rfl (fun ls hl => ?_)
  refine lv_iload_n hx hb dX8_taxOf_5 rfl (lv_at hl 0 rfl) ?_
  refine lv_if_gt (tgt := 11) hx hb dX8_taxOf_6 (by decide) (fun hc => ?_) (fun hc => ?_)
  · have hf := g_t hc hf
    refine lv_iload_n hx hb dX8_taxOf_11 rfl (lv_at hl 3 rfl) ?_
    refine lv_istore (lv' := [(4, .int x2), (3, .int r10), (0, .ref o_p0), (1, .int x1), (2, .int x2)]) hx hb dX8_taxOf_12 hl (Nat.le_of_ble_eq_true rfl) rfl (fun ls hl => ?_)
    refine lv_iconst (v := 0) hx hb dX8_taxOf_14 k_i0 ?_
    refine lv_istore (lv' := [(5, .int 0), (4, .int x2), (3, .int r10), (0, .ref o_p0), (1, .int x1), (2, .int x2)]) hx hb dX8_taxOf_15 hl (Nat.le_of_ble_eq_true rfl) rfl (fun ls hl => ?_)
    exact B17 1000 x1 x2 r10 x2 0 _ _ _ hf hw (lv_sub hl [3, 4, 5, 2, 1, 0] rfl)
  · have hf := g_f hc hf
    refine lv_iconst (v := 0) hx hb dX8_taxOf_9 k_i0 ?_
    exact hret1 0 _ _ _ _ hf hw dX8_taxOf_10
theorem hX9_note : yX9_note.cls = RX9 ∧ yX9_note.cls ≠ "java/lang/invoke/MethodHandle" ∧ yX9_note.cls ≠ "java/lang/invoke/VarHandle" ∧ (parseMethodDescriptor yX9_note.desc).map (fun d => d.parameters.length) = some 2 := by decide +kernel
set_option maxHeartbeats 4000000 in
set_option maxRecDepth 100000 in
theorem mX9_note (l : Launch) (E : gE) (o_t : Nat) (a_t : (Nat → Nat)) (v_t_count : Int32) (f_t_breaths : (Nat → Int32)) (f_t_flews : (Nat → Int32)) (x1 : Int32) (x2 : Int32) (z_t_count : Int32) (z_t_breaths : (Nat → Int32)) (z_t_flews : (Nat → Int32)) (hf : fX9_note v_t_count f_t_breaths f_t_flews x1 x2 = some (z_t_count, z_t_breaths, z_t_flews)) {sz : Nat} : gMv l yX9_note (gW yX9_note cX9_note 3 none) ({ frames := 0, cells := 0, slots := 0, locals := 0 } : Room) E [.ref o_t, .int x1, .int x2] (wX9_note E o_t a_t v_t_count f_t_breaths f_t_flews) sz (wX9_note E o_t a_t z_t_count z_t_breaths z_t_flews) := by
  refine g_openV (own := RX9) (by decide) rfl (Nat.le_of_ble_eq_true rfl) (fun p e s m args below meth cd Q A hx hb hml hown hG hK hA hret hw ls hl => ?_)
  have hl : lv_has ls 3 [(0, .ref o_t), (1, .int x1), (2, .int x2)] := hl
  have hret1 : ∀ (v_t_count : Int32) (f_t_breaths : (Nat → Int32)) (f_t_flews : (Nat → Int32)) (H : Heap) (locs : List Loc) (pc : Nat) (ls : Array Slot), some (v_t_count, f_t_breaths, f_t_flews) = some (z_t_count, z_t_breaths, z_t_flews) → gS E A s.heap (wX9_note E o_t a_t v_t_count f_t_breaths f_t_flews) H locs → decode cX9_note pc = .ok (.return_, 1) → W p l e ({ frames := 0, cells := 0, slots := 0, locals := 0 } : Room) s m args below meth cd H locs 0 0 Q (F0 m pc ls []) := by
    intro v_t_count f_t_breaths f_t_flews H locs pc ls h hw hd
    cases h
    exact hret H locs pc ls hw hd
  have B16 : ∀ (v_t_count : Int32) (f_t_breaths : (Nat → Int32)) (f_t_flews : (Nat → Int32)) (H : Heap) (locs : List Loc) (ls : Array Slot), fX9_note_b16 v_t_count f_t_breaths f_t_flews = some (z_t_count, z_t_breaths, z_t_flews) → gS E A s.heap (wX9_note E o_t a_t v_t_count f_t_breaths f_t_flews) H locs → lv_has ls 3 [] → W p l e ({ frames := 0, cells := 0, slots := 0, locals := 0 } : Room) s m args below meth cd H locs 0 0 Q (F0 m 16 ls []) := by
    intro  v_t_count f_t_breaths f_t_flews H locs ls hf hw hl
    exact hret1 v_t_count f_t_breaths f_t_flews _ _ _ _ hf hw dX9_note_16
  refine lv_aload_n hx hb dX9_note_0 rfl (lv_at hl 0 rfl) ?_
  refine g_get hx hb hG hown hK hw inlX9 (ci := 7) rfl 0 2 (Nat.le_of_ble_eq_true rfl) rfl rfl wd_3_22 dX9_note_1 ?_
  refine lv_if_lt (tgt := 16) hx hb dX9_note_4 (by decide) (fun hc => ?_) (fun hc => ?_)
  · have hf := g_t hc hf
    exact B16 v_t_count f_t_breaths f_t_flews _ _ _ hf hw (lv_sub hl [] rfl)
  · have hf := g_f hc hf
    refine lv_aload_n hx hb dX9_note_7 rfl (lv_at hl 0 rfl) ?_
    refine g_get hx hb hG hown hK hw inlX9 (ci := 7) rfl 0 2 (Nat.le_of_ble_eq_true rfl) rfl rfl wd_3_22 dX9_note_8 ?_
    refine lv_bipush (v := 8) hx hb dX9_note_11 k_b8 ?_
    refine lv_icmp_lt (tgt := 17) hx hb dX9_note_13 (by decide) (fun hc => ?_) (fun hc => ?_)
    · have hf := g_t hc hf
      refine lv_aload_n hx hb dX9_note_17 rfl (lv_at hl 0 rfl) ?_
      refine g_get hx hb hG hown hK hw inlX9 (ci := 7) rfl 0 0 (Nat.le_of_ble_eq_true rfl) rfl rfl wd_3_20 dX9_note_18 ?_
      refine lv_aload_n hx hb dX9_note_21 rfl (lv_at hl 0 rfl) ?_
      refine g_get hx hb hG hown hK hw inlX9 (ci := 7) rfl 0 2 (Nat.le_of_ble_eq_true rfl) rfl rfl wd_3_22 dX9_note_22 ?_
      refine lv_iload_n hx hb dX9_note_25 rfl (lv_at hl 1 rfl) ?_
      obtain ⟨hi1, hf⟩ := gA_s hf
      refine g_iast (ws' := (wX9_note E o_t a_t v_t_count (upd f_t_breaths (Int32.toNatClampNeg v_t_count) x1) f_t_flews)) hx hb hK hw 1 rfl hi1 rfl dX9_note_26 (fun H locs hw => ?_)
      refine lv_aload_n hx hb dX9_note_27 rfl (lv_at hl 0 rfl) ?_
      refine g_get hx hb hG hown hK hw inlX9 (ci := 7) rfl 0 1 (Nat.le_of_ble_eq_true rfl) rfl rfl wd_3_21 dX9_note_28 ?_
      refine lv_aload_n hx hb dX9_note_31 rfl (lv_at hl 0 rfl) ?_
      refine g_get hx hb hG hown hK hw inlX9 (ci := 7) rfl 0 2 (Nat.le_of_ble_eq_true rfl) rfl rfl wd_3_22 dX9_note_32 ?_
      refine lv_iload_n hx hb dX9_note_35 rfl (lv_at hl 2 rfl) ?_
      obtain ⟨hi2, hf⟩ := gA_s hf
      refine g_iast (ws' := (wX9_note E o_t a_t v_t_count (upd f_t_breaths (Int32.toNatClampNeg v_t_count) x1) (upd f_t_flews (Int32.toNatClampNeg v_t_count) x2))) hx hb hK hw 2 rfl hi2 rfl dX9_note_36 (fun H locs hw => ?_)
      refine lv_aload_n hx hb dX9_note_37 rfl (lv_at hl 0 rfl) ?_
      refine lv_dup hx hb dX9_note_38 rfl ?_
      refine g_get hx hb hG hown hK hw inlX9 (ci := 7) rfl 0 2 (Nat.le_of_ble_eq_true rfl) rfl rfl wd_3_22 dX9_note_39 ?_
      refine lv_iconst (v := 1) hx hb dX9_note_42 k_i1 ?_
      refine lv_iadd hx hb dX9_note_43 ?_
      refine g_put (ws' := (wX9_note E o_t a_t (v_t_count + 1) (upd f_t_breaths (Int32.toNatClampNeg v_t_count) x1) (upd f_t_flews (Int32.toNatClampNeg v_t_count) x2))) hx hb hG hown hK hw inlX9 tyX9_ok nmX9 (ci := 7) rfl 0 2 (Nat.le_of_ble_eq_true rfl) rfl wd_3_22 rfl rfl rfl (Nat.le_of_ble_eq_true rfl) rfl dX9_note_44 (fun H locs hw => ?_)
      exact hret1 (v_t_count + 1) (upd f_t_breaths (Int32.toNatClampNeg v_t_count) x1) (upd f_t_flews (Int32.toNatClampNeg v_t_count) x2) _ _ _ _ hf hw dX9_note_47
    · have hf := g_f hc hf
      exact B16 v_t_count f_t_breaths f_t_flews _ _ _ hf hw (lv_sub hl [] rfl)
theorem hX10_family : yX10_family.cls = RX10 ∧ yX10_family.cls ≠ "java/lang/invoke/MethodHandle" ∧ yX10_family.cls ≠ "java/lang/invoke/VarHandle" ∧ (parseMethodDescriptor yX10_family.desc).map (fun d => d.parameters.length) = some 4 := by decide +kernel
set_option maxHeartbeats 4000000 in
set_option maxRecDepth 100000 in
theorem mX10_family (l : Launch) (E : gE) (o_t : Nat) (o_t_firstImage : Nat) (o_t_secondImage : Nat) (o_t_pad : Nat) (o_t_hours : Nat) (o_t_growth : Nat) (o_t_flight : Nat) (o_t_draws : Nat) (o_t_now : Nat) (o_t_now_sights : Nat) (o_t_now_meadow : Nat) (a_t_now_meadow : (Nat → Nat)) (v_t_imagesKept : Int32) (v_t_now_meadow_families : Int32) (v_t_now_meadow_wind : Int32) (v_t_now_meadow_force : Int32) (v_t_now_meadow_rain : Int32) (v_t_now_meadow_lost : Int32) (v_t_now_meadow_hour : Int32) (f_t_now_meadow_home : (Nat → Int32)) (f_t_now_meadow_seeds : (Nat → Int32)) (f_t_now_meadow_lungs : (Nat → Int32)) (f_t_now_meadow_blown : (Nat → Int32)) (x1 : Int32) (x2 : Int32) (x3 : Int32) (x4 : Int32) (rv : Int32) (z_t_now_meadow_families : Int32) (z_t_now_meadow_home : (Nat → Int32)) (z_t_now_meadow_seeds : (Nat → Int32)) (z_t_now_meadow_lungs : (Nat → Int32)) (z_t_now_meadow_blown : (Nat → Int32)) (hf : fX10_family v_t_now_meadow_families f_t_now_meadow_home f_t_now_meadow_seeds f_t_now_meadow_lungs f_t_now_meadow_blown x1 x2 x3 x4 = some (rv, z_t_now_meadow_families, z_t_now_meadow_home, z_t_now_meadow_seeds, z_t_now_meadow_lungs, z_t_now_meadow_blown)) {sz : Nat} : gMi l yX10_family (gW yX10_family cX10_family 6 (some .int)) ({ frames := 2, cells := 0, slots := 0, locals := 40 } : Room) E [.ref o_t, .int x1, .int x2, .int x3, .int x4] (wX10_family E o_t o_t_firstImage o_t_secondImage o_t_pad o_t_hours o_t_growth o_t_flight o_t_draws o_t_now o_t_now_sights o_t_now_meadow a_t_now_meadow v_t_imagesKept v_t_now_meadow_families v_t_now_meadow_wind v_t_now_meadow_force v_t_now_meadow_rain v_t_now_meadow_lost v_t_now_meadow_hour f_t_now_meadow_home f_t_now_meadow_seeds f_t_now_meadow_lungs f_t_now_meadow_blown) sz rv (wX10_family E o_t o_t_firstImage o_t_secondImage o_t_pad o_t_hours o_t_growth o_t_flight o_t_draws o_t_now o_t_now_sights o_t_now_meadow a_t_now_meadow v_t_imagesKept z_t_now_meadow_families v_t_now_meadow_wind v_t_now_meadow_force v_t_now_meadow_rain v_t_now_meadow_lost v_t_now_meadow_hour z_t_now_meadow_home z_t_now_meadow_seeds z_t_now_meadow_lungs z_t_now_meadow_blown) := by
  refine g_openI (own := RX10) (by decide) rfl (Nat.le_of_ble_eq_true rfl) (fun p e s m args below meth cd Q A hx hb hml hown hG hK hA hret hw ls hl => ?_)
  have hl : lv_has ls 6 [(0, .ref o_t), (1, .int x1), (2, .int x2), (3, .int x3), (4, .int x4)] := hl
  have hret1 : ∀ (v : Int32) (v_t_now_meadow_families : Int32) (f_t_now_meadow_home : (Nat → Int32)) (f_t_now_meadow_seeds : (Nat → Int32)) (f_t_now_meadow_lungs : (Nat → Int32)) (f_t_now_meadow_blown : (Nat → Int32)) (H : Heap) (locs : List Loc) (pc : Nat) (ls : Array Slot), some (v, v_t_now_meadow_families, f_t_now_meadow_home, f_t_now_meadow_seeds, f_t_now_meadow_lungs, f_t_now_meadow_blown) = some (rv, z_t_now_meadow_families, z_t_now_meadow_home, z_t_now_meadow_seeds, z_t_now_meadow_lungs, z_t_now_meadow_blown) → gS E A s.heap (wX10_family E o_t o_t_firstImage o_t_secondImage o_t_pad o_t_hours o_t_growth o_t_flight o_t_draws o_t_now o_t_now_sights o_t_now_meadow a_t_now_meadow v_t_imagesKept v_t_now_meadow_families v_t_now_meadow_wind v_t_now_meadow_force v_t_now_meadow_rain v_t_now_meadow_lost v_t_now_meadow_hour f_t_now_meadow_home f_t_now_meadow_seeds f_t_now_meadow_lungs f_t_now_meadow_blown) H locs → decode cX10_family pc = .ok (.ireturn, 1) → W p l e ({ frames := 2, cells := 0, slots := 0, locals := 40 } : Room) s m args below meth cd H locs 0 0 Q (F0 m pc ls [.int v]) := by
    intro v v_t_now_meadow_families f_t_now_meadow_home f_t_now_meadow_seeds f_t_now_meadow_lungs f_t_now_meadow_blown H locs pc ls h hw hd
    cases h
    exact hret H locs pc ls hw hd
  have B39 : ∀ (v_t_now_meadow_families : Int32) (f_t_now_meadow_home : (Nat → Int32)) (f_t_now_meadow_seeds : (Nat → Int32)) (f_t_now_meadow_lungs : (Nat → Int32)) (f_t_now_meadow_blown : (Nat → Int32)) (H : Heap) (locs : List Loc) (ls : Array Slot), fX10_family_b39 v_t_now_meadow_families f_t_now_meadow_home f_t_now_meadow_seeds f_t_now_meadow_lungs f_t_now_meadow_blown = some (rv, z_t_now_meadow_families, z_t_now_meadow_home, z_t_now_meadow_seeds, z_t_now_meadow_lungs, z_t_now_meadow_blown) → gS E A s.heap (wX10_family E o_t o_t_firstImage o_t_secondImage o_t_pad o_t_hours o_t_growth o_t_flight o_t_draws o_t_now o_t_now_sights o_t_now_meadow a_t_now_meadow v_t_imagesKept v_t_now_meadow_families v_t_now_meadow_wind v_t_now_meadow_force v_t_now_meadow_rain v_t_now_meadow_lost v_t_now_meadow_hour f_t_now_meadow_home f_t_now_meadow_seeds f_t_now_meadow_lungs f_t_now_meadow_blown) H locs → lv_has ls 6 [] → W p l e ({ frames := 2, cells := 0, slots := 0, locals := 40 } : Room) s m args below meth cd H locs 0 0 Q (F0 m 39 ls []) := by
    intro  v_t_now_meadow_families f_t_now_meadow_home f_t_now_meadow_seeds f_t_now_meadow_lungs f_t_now_meadow_blown H locs ls hf hw hl
    refine lv_bipush (v := -2) hx hb dX10_family_39 k_bm2 ?_
    exact hret1 (-2) v_t_now_meadow_families f_t_now_meadow_home f_t_now_meadow_seeds f_t_now_meadow_lungs f_t_now_meadow_blown _ _ _ _ hf hw dX10_family_41
  have B70 : ∀ (v_t_now_meadow_families : Int32) (f_t_now_meadow_home : (Nat → Int32)) (f_t_now_meadow_seeds : (Nat → Int32)) (f_t_now_meadow_lungs : (Nat → Int32)) (f_t_now_meadow_blown : (Nat → Int32)) (x1 : Int32) (x2 : Int32) (x3 : Int32) (x4 : Int32) (H : Heap) (locs : List Loc) (ls : Array Slot), fX10_family_b70 v_t_now_meadow_families f_t_now_meadow_home f_t_now_meadow_seeds f_t_now_meadow_lungs f_t_now_meadow_blown x1 x2 x3 x4 = some (rv, z_t_now_meadow_families, z_t_now_meadow_home, z_t_now_meadow_seeds, z_t_now_meadow_lungs, z_t_now_meadow_blown) → gS E A s.heap (wX10_family E o_t o_t_firstImage o_t_secondImage o_t_pad o_t_hours o_t_growth o_t_flight o_t_draws o_t_now o_t_now_sights o_t_now_meadow a_t_now_meadow v_t_imagesKept v_t_now_meadow_families v_t_now_meadow_wind v_t_now_meadow_force v_t_now_meadow_rain v_t_now_meadow_lost v_t_now_meadow_hour f_t_now_meadow_home f_t_now_meadow_seeds f_t_now_meadow_lungs f_t_now_meadow_blown) H locs → lv_has ls 6 [(0, .ref o_t), (1, .int x1), (2, .int x2), (3, .int x3), (4, .int x4)] → W p l e ({ frames := 2, cells := 0, slots := 0, locals := 40 } : Room) s m args below meth cd H locs 0 0 Q (F0 m 70 ls []) := by
    intro  v_t_now_meadow_families f_t_now_meadow_home f_t_now_meadow_seeds f_t_now_meadow_lungs f_t_now_meadow_blown x1 x2 x3 x4 H locs ls hf hw hl
    refine lv_aload_n hx hb dX10_family_70 rfl (lv_at hl 0 rfl) ?_
    refine g_get hx hb hG hown hK hw inlX10 (ci := 8) rfl 0 0 (Nat.le_of_ble_eq_true rfl) rfl rfl wd_1_15 dX10_family_71 ?_
    refine g_get hx hb hG hown hK hw inlX4 (ci := 3) rfl 1 0 (Nat.le_of_ble_eq_true rfl) rfl rfl wd_7_0 dX10_family_74 ?_
    refine lv_iload_n hx hb dX10_family_77 rfl (lv_at hl 1 rfl) ?_
    refine lv_iload_n hx hb dX10_family_78 rfl (lv_at hl 2 rfl) ?_
    refine lv_iload_n hx hb dX10_family_79 rfl (lv_at hl 3 rfl) ?_
    refine lv_iload hx hb dX10_family_80 (lv_at hl 4 rfl) ?_
    obtain ⟨r1, hc2, hf⟩ := gB_s hf
    refine g_kv (is := [2, 3, 4, 5, 6]) (w1 := (wX6_settle E o_t_now_meadow a_t_now_meadow r1.1 v_t_now_meadow_wind v_t_now_meadow_force v_t_now_meadow_rain v_t_now_meadow_lost v_t_now_meadow_hour r1.2.1 r1.2.2.1 r1.2.2.2.1 r1.2.2.2.2)) (ws' := (wX10_family E o_t o_t_firstImage o_t_secondImage o_t_pad o_t_hours o_t_growth o_t_flight o_t_draws o_t_now o_t_now_sights o_t_now_meadow a_t_now_meadow v_t_imagesKept r1.1 v_t_now_meadow_wind v_t_now_meadow_force v_t_now_meadow_rain v_t_now_meadow_lost v_t_now_meadow_hour r1.2.1 r1.2.2.1 r1.2.2.2.1 r1.2.2.2.2)) hw hA (g_rV hx hb hml hG hown hK hw (is := [2, 3, 4, 5, 6]) rfl (by decide) (mX6_settle l E o_t_now_meadow a_t_now_meadow v_t_now_meadow_families v_t_now_meadow_wind v_t_now_meadow_force v_t_now_meadow_rain v_t_now_meadow_lost v_t_now_meadow_hour f_t_now_meadow_home f_t_now_meadow_seeds f_t_now_meadow_lungs f_t_now_meadow_blown x1 x2 x3 x4 r1.1 r1.2.1 r1.2.2.1 r1.2.2.2.1 r1.2.2.2.2 hc2) wd_7_11 wd_7_12 wd_7_13 wd_2_20 wd_7_14 hX6_settle g_allgood ⟨rfl, rfl⟩ ⟨Nat.le_of_ble_eq_true rfl, Nat.le_of_ble_eq_true rfl⟩ ⟨Nat.zero_le _, Nat.zero_le _⟩ (ci := 5) (q0 := 0) rfl rfl rfl rfl hl.1 rfl (Nat.le_of_ble_eq_true rfl) dX10_family_82) rfl rfl rfl (fun H locs hw => ?_)
    refine lv_aload_n hx hb dX10_family_85 rfl (lv_at hl 0 rfl) ?_
    refine g_get hx hb hG hown hK hw inlX10 (ci := 8) rfl 0 0 (Nat.le_of_ble_eq_true rfl) rfl rfl wd_1_15 dX10_family_86 ?_
    refine g_get hx hb hG hown hK hw inlX4 (ci := 3) rfl 1 0 (Nat.le_of_ble_eq_true rfl) rfl rfl wd_7_0 dX10_family_89 ?_
    obtain ⟨r3, hc4, hf⟩ := gB_s hf
    refine g_ki (is := [2]) (w1 := (wX6_howManyFamilies E o_t_now_meadow a_t_now_meadow r1.1 v_t_now_meadow_wind v_t_now_meadow_force v_t_now_meadow_rain v_t_now_meadow_lost v_t_now_meadow_hour)) (ws' := (wX10_family E o_t o_t_firstImage o_t_secondImage o_t_pad o_t_hours o_t_growth o_t_flight o_t_draws o_t_now o_t_now_sights o_t_now_meadow a_t_now_meadow v_t_imagesKept r1.1 v_t_now_meadow_wind v_t_now_meadow_force v_t_now_meadow_rain v_t_now_meadow_lost v_t_now_meadow_hour r1.2.1 r1.2.2.1 r1.2.2.2.1 r1.2.2.2.2)) hw hA (g_rV hx hb hml hG hown hK hw (is := [2]) rfl (by decide) (mX6_howManyFamilies l E o_t_now_meadow a_t_now_meadow r1.1 v_t_now_meadow_wind v_t_now_meadow_force v_t_now_meadow_rain v_t_now_meadow_lost v_t_now_meadow_hour r3 hc4) wd_7_15 wd_7_16 wd_7_17 wd_2_20 wd_7_18 hX6_howManyFamilies g_allgood ⟨rfl, rfl⟩ ⟨Nat.le_of_ble_eq_true rfl, Nat.le_of_ble_eq_true rfl⟩ ⟨Nat.zero_le _, Nat.zero_le _⟩ (ci := 5) (q0 := 0) rfl rfl rfl rfl hl.1 rfl (Nat.le_of_ble_eq_true rfl) dX10_family_92) rfl rfl rfl (fun H locs hw => ?_)
    exact hret1 r3 r1.1 r1.2.1 r1.2.2.1 r1.2.2.2.1 r1.2.2.2.2 _ _ _ _ hf hw dX10_family_95
  refine lv_iload_n hx hb dX10_family_0 rfl (lv_at hl 1 rfl) ?_
  refine lv_iconst (v := 0) hx hb dX10_family_1 k_i0 ?_
  refine lv_iconst (v := 5) hx hb dX10_family_2 k_i5 ?_
  obtain ⟨r5, hc6, hf⟩ := gB_s hf
  refine g_ki (is := []) (w1 := (wX10_within E)) (ws' := (wX10_family E o_t o_t_firstImage o_t_secondImage o_t_pad o_t_hours o_t_growth o_t_flight o_t_draws o_t_now o_t_now_sights o_t_now_meadow a_t_now_meadow v_t_imagesKept v_t_now_meadow_families v_t_now_meadow_wind v_t_now_meadow_force v_t_now_meadow_rain v_t_now_meadow_lost v_t_now_meadow_hour f_t_now_meadow_home f_t_now_meadow_seeds f_t_now_meadow_lungs f_t_now_meadow_blown)) hw hA (g_rS hx hb hml hG hown hK hw (is := []) rfl (by decide) (mX10_within l E x1 0 5 r5 hc6) wd_7_1 wd_7_2 wd_1_2 wd_7_3 hX10_within g_allgood ⟨rfl, rfl⟩ ⟨Nat.le_of_ble_eq_true rfl, Nat.le_of_ble_eq_true rfl⟩ ⟨Nat.zero_le _, Nat.zero_le _⟩ rfl hl.1 rfl (Nat.le_of_ble_eq_true rfl) dX10_family_3) rfl rfl rfl (fun H locs hw => ?_)
  refine lv_if_ne (tgt := 11) hx hb dX10_family_6 (by decide) (fun hc => ?_) (fun hc => ?_)
  · have hf := g_f hc hf
    refine lv_iload_n hx hb dX10_family_11 rfl (lv_at hl 2 rfl) ?_
    obtain ⟨r7, hc8, hf⟩ := gB_s hf
    refine g_ki (is := []) (w1 := (wX10_isField E)) (ws' := (wX10_family E o_t o_t_firstImage o_t_secondImage o_t_pad o_t_hours o_t_growth o_t_flight o_t_draws o_t_now o_t_now_sights o_t_now_meadow a_t_now_meadow v_t_imagesKept v_t_now_meadow_families v_t_now_meadow_wind v_t_now_meadow_force v_t_now_meadow_rain v_t_now_meadow_lost v_t_now_meadow_hour f_t_now_meadow_home f_t_now_meadow_seeds f_t_now_meadow_lungs f_t_now_meadow_blown)) hw hA (g_rS hx hb hml hG hown hK hw (is := []) rfl (by decide) (mX10_isField l E x2 r7 hc8) wd_7_4 wd_7_5 wd_1_2 wd_7_6 hX10_isField g_allgood ⟨rfl, rfl⟩ ⟨Nat.le_of_ble_eq_true rfl, Nat.le_of_ble_eq_true rfl⟩ ⟨Nat.zero_le _, Nat.zero_le _⟩ rfl hl.1 rfl (Nat.le_of_ble_eq_true rfl) dX10_family_12) rfl rfl rfl (fun H locs hw => ?_)
    refine lv_if_eq (tgt := 39) hx hb dX10_family_15 (by decide) (fun hc => ?_) (fun hc => ?_)
    · have hf := g_t hc hf
      exact B39 v_t_now_meadow_families f_t_now_meadow_home f_t_now_meadow_seeds f_t_now_meadow_lungs f_t_now_meadow_blown _ _ _ hf hw (lv_sub hl [] rfl)
    · have hf := g_f hc hf
      refine lv_iload_n hx hb dX10_family_18 rfl (lv_at hl 3 rfl) ?_
      refine lv_iconst (v := 0) hx hb dX10_family_19 k_i0 ?_
      refine lv_bipush (v := 60) hx hb dX10_family_20 k_b60 ?_
      obtain ⟨r9, hc10, hf⟩ := gB_s hf
      refine g_ki (is := []) (w1 := (wX10_within E)) (ws' := (wX10_family E o_t o_t_firstImage o_t_secondImage o_t_pad o_t_hours o_t_growth o_t_flight o_t_draws o_t_now o_t_now_sights o_t_now_meadow a_t_now_meadow v_t_imagesKept v_t_now_meadow_families v_t_now_meadow_wind v_t_now_meadow_force v_t_now_meadow_rain v_t_now_meadow_lost v_t_now_meadow_hour f_t_now_meadow_home f_t_now_meadow_seeds f_t_now_meadow_lungs f_t_now_meadow_blown)) hw hA (g_rS hx hb hml hG hown hK hw (is := []) rfl (by decide) (mX10_within l E x3 0 60 r9 hc10) wd_7_1 wd_7_2 wd_1_2 wd_7_3 hX10_within g_allgood ⟨rfl, rfl⟩ ⟨Nat.le_of_ble_eq_true rfl, Nat.le_of_ble_eq_true rfl⟩ ⟨Nat.zero_le _, Nat.zero_le _⟩ rfl hl.1 rfl (Nat.le_of_ble_eq_true rfl) dX10_family_22) rfl rfl rfl (fun H locs hw => ?_)
      refine lv_if_eq (tgt := 39) hx hb dX10_family_25 (by decide) (fun hc => ?_) (fun hc => ?_)
      · have hf := g_t hc hf
        exact B39 v_t_now_meadow_families f_t_now_meadow_home f_t_now_meadow_seeds f_t_now_meadow_lungs f_t_now_meadow_blown _ _ _ hf hw (lv_sub hl [] rfl)
      · have hf := g_f hc hf
        refine lv_iload hx hb dX10_family_28 (lv_at hl 4 rfl) ?_
        refine lv_iconst (v := 1) hx hb dX10_family_30 k_i1 ?_
        refine lv_bipush (v := 9) hx hb dX10_family_31 k_b9 ?_
        obtain ⟨r11, hc12, hf⟩ := gB_s hf
        refine g_ki (is := []) (w1 := (wX10_within E)) (ws' := (wX10_family E o_t o_t_firstImage o_t_secondImage o_t_pad o_t_hours o_t_growth o_t_flight o_t_draws o_t_now o_t_now_sights o_t_now_meadow a_t_now_meadow v_t_imagesKept v_t_now_meadow_families v_t_now_meadow_wind v_t_now_meadow_force v_t_now_meadow_rain v_t_now_meadow_lost v_t_now_meadow_hour f_t_now_meadow_home f_t_now_meadow_seeds f_t_now_meadow_lungs f_t_now_meadow_blown)) hw hA (g_rS hx hb hml hG hown hK hw (is := []) rfl (by decide) (mX10_within l E x4 1 9 r11 hc12) wd_7_1 wd_7_2 wd_1_2 wd_7_3 hX10_within g_allgood ⟨rfl, rfl⟩ ⟨Nat.le_of_ble_eq_true rfl, Nat.le_of_ble_eq_true rfl⟩ ⟨Nat.zero_le _, Nat.zero_le _⟩ rfl hl.1 rfl (Nat.le_of_ble_eq_true rfl) dX10_family_33) rfl rfl rfl (fun H locs hw => ?_)
        refine lv_if_ne (tgt := 42) hx hb dX10_family_36 (by decide) (fun hc => ?_) (fun hc => ?_)
        · have hf := g_f hc hf
          refine lv_aload_n hx hb dX10_family_42 rfl (lv_at hl 0 rfl) ?_
          refine g_get hx hb hG hown hK hw inlX10 (ci := 8) rfl 0 0 (Nat.le_of_ble_eq_true rfl) rfl rfl wd_1_15 dX10_family_43 ?_
          refine g_get hx hb hG hown hK hw inlX4 (ci := 3) rfl 1 0 (Nat.le_of_ble_eq_true rfl) rfl rfl wd_7_0 dX10_family_46 ?_
          refine lv_iload_n hx hb dX10_family_49 rfl (lv_at hl 2 rfl) ?_
          obtain ⟨r13, hc14, hf⟩ := gB_s hf
          refine g_ki (is := [2, 3]) (w1 := (wX6_familyAt E o_t_now_meadow a_t_now_meadow v_t_now_meadow_families v_t_now_meadow_wind v_t_now_meadow_force v_t_now_meadow_rain v_t_now_meadow_lost v_t_now_meadow_hour f_t_now_meadow_home)) (ws' := (wX10_family E o_t o_t_firstImage o_t_secondImage o_t_pad o_t_hours o_t_growth o_t_flight o_t_draws o_t_now o_t_now_sights o_t_now_meadow a_t_now_meadow v_t_imagesKept v_t_now_meadow_families v_t_now_meadow_wind v_t_now_meadow_force v_t_now_meadow_rain v_t_now_meadow_lost v_t_now_meadow_hour f_t_now_meadow_home f_t_now_meadow_seeds f_t_now_meadow_lungs f_t_now_meadow_blown)) hw hA (g_rV hx hb hml hG hown hK hw (is := [2, 3]) rfl (by decide) (mX6_familyAt l E o_t_now_meadow a_t_now_meadow v_t_now_meadow_families v_t_now_meadow_wind v_t_now_meadow_force v_t_now_meadow_rain v_t_now_meadow_lost v_t_now_meadow_hour f_t_now_meadow_home x2 r13 hc14) wd_7_7 wd_7_8 wd_7_9 wd_2_20 wd_7_10 hX6_familyAt g_allgood ⟨rfl, rfl⟩ ⟨Nat.le_of_ble_eq_true rfl, Nat.le_of_ble_eq_true rfl⟩ ⟨Nat.zero_le _, Nat.zero_le _⟩ (ci := 5) (q0 := 0) rfl rfl rfl rfl hl.1 rfl (Nat.le_of_ble_eq_true rfl) dX10_family_50) rfl rfl rfl (fun H locs hw => ?_)
          refine lv_istore (lv' := [(5, .int r13), (0, .ref o_t), (1, .int x1), (2, .int x2), (3, .int x3), (4, .int x4)]) hx hb dX10_family_53 hl (Nat.le_of_ble_eq_true rfl) rfl (fun ls hl => ?_)
          refine lv_iload hx hb dX10_family_55 (lv_at hl 0 rfl) ?_
          refine lv_iconst (v := -1) hx hb dX10_family_57 k_im1 ?_
          refine lv_icmp_eq (tgt := 70) hx hb dX10_family_58 (by decide) (fun hc => ?_) (fun hc => ?_)
          · have hf := g_t hc hf
            exact B70 v_t_now_meadow_families f_t_now_meadow_home f_t_now_meadow_seeds f_t_now_meadow_lungs f_t_now_meadow_blown x1 x2 x3 x4 _ _ _ hf hw (lv_sub hl [1, 2, 3, 4, 5] rfl)
          · have hf := g_f hc hf
            refine lv_iload hx hb dX10_family_61 (lv_at hl 0 rfl) ?_
            refine lv_iload_n hx hb dX10_family_63 rfl (lv_at hl 2 rfl) ?_
            refine lv_icmp_eq (tgt := 70) hx hb dX10_family_64 (by decide) (fun hc => ?_) (fun hc => ?_)
            · have hf := g_t hc hf
              exact B70 v_t_now_meadow_families f_t_now_meadow_home f_t_now_meadow_seeds f_t_now_meadow_lungs f_t_now_meadow_blown x1 x2 x3 x4 _ _ _ hf hw (lv_sub hl [1, 2, 3, 4, 5] rfl)
            · have hf := g_f hc hf
              refine lv_bipush (v := -3) hx hb dX10_family_67 k_bm3 ?_
              exact hret1 (-3) v_t_now_meadow_families f_t_now_meadow_home f_t_now_meadow_seeds f_t_now_meadow_lungs f_t_now_meadow_blown _ _ _ _ hf hw dX10_family_69
        · have hf := g_t hc hf
          exact B39 v_t_now_meadow_families f_t_now_meadow_home f_t_now_meadow_seeds f_t_now_meadow_lungs f_t_now_meadow_blown _ _ _ hf hw (lv_sub hl [] rfl)
  · have hf := g_t hc hf
    refine lv_iconst (v := -1) hx hb dX10_family_9 k_im1 ?_
    exact hret1 (-1) v_t_now_meadow_families f_t_now_meadow_home f_t_now_meadow_seeds f_t_now_meadow_lungs f_t_now_meadow_blown _ _ _ _ hf hw dX10_family_10
theorem hX10_leave : yX10_leave.cls = RX10 ∧ yX10_leave.cls ≠ "java/lang/invoke/MethodHandle" ∧ yX10_leave.cls ≠ "java/lang/invoke/VarHandle" ∧ (parseMethodDescriptor yX10_leave.desc).map (fun d => d.parameters.length) = some 1 := by decide +kernel
set_option maxHeartbeats 4000000 in
set_option maxRecDepth 100000 in
theorem mX10_leave (l : Launch) (E : gE) (o_t : Nat) (o_t_firstImage : Nat) (o_t_secondImage : Nat) (o_t_pad : Nat) (o_t_hours : Nat) (o_t_growth : Nat) (o_t_flight : Nat) (o_t_draws : Nat) (o_t_now : Nat) (o_t_now_sights : Nat) (o_t_now_meadow : Nat) (a_t_now_meadow : (Nat → Nat)) (v_t_imagesKept : Int32) (v_t_now_meadow_families : Int32) (v_t_now_meadow_wind : Int32) (v_t_now_meadow_force : Int32) (v_t_now_meadow_rain : Int32) (v_t_now_meadow_lost : Int32) (v_t_now_meadow_hour : Int32) (f_t_now_meadow_home : (Nat → Int32)) (f_t_now_meadow_seeds : (Nat → Int32)) (f_t_now_meadow_ground : (Nat → Int32)) (x1 : Int32) (rv : Int32) (z_t_now_meadow_families : Int32) (z_t_now_meadow_lost : Int32) (z_t_now_meadow_seeds : (Nat → Int32)) (z_t_now_meadow_ground : (Nat → Int32)) (hf : fX10_leave v_t_now_meadow_families v_t_now_meadow_lost f_t_now_meadow_home f_t_now_meadow_seeds f_t_now_meadow_ground x1 = some (rv, z_t_now_meadow_families, z_t_now_meadow_lost, z_t_now_meadow_seeds, z_t_now_meadow_ground)) {sz : Nat} : gMi l yX10_leave (gW yX10_leave cX10_leave 2 (some .int)) ({ frames := 2, cells := 0, slots := 0, locals := 45 } : Room) E [.ref o_t, .int x1] (wX10_leave E o_t o_t_firstImage o_t_secondImage o_t_pad o_t_hours o_t_growth o_t_flight o_t_draws o_t_now o_t_now_sights o_t_now_meadow a_t_now_meadow v_t_imagesKept v_t_now_meadow_families v_t_now_meadow_wind v_t_now_meadow_force v_t_now_meadow_rain v_t_now_meadow_lost v_t_now_meadow_hour f_t_now_meadow_home f_t_now_meadow_seeds f_t_now_meadow_ground) sz rv (wX10_leave E o_t o_t_firstImage o_t_secondImage o_t_pad o_t_hours o_t_growth o_t_flight o_t_draws o_t_now o_t_now_sights o_t_now_meadow a_t_now_meadow v_t_imagesKept z_t_now_meadow_families v_t_now_meadow_wind v_t_now_meadow_force v_t_now_meadow_rain z_t_now_meadow_lost v_t_now_meadow_hour f_t_now_meadow_home z_t_now_meadow_seeds z_t_now_meadow_ground) := by
  refine g_openI (own := RX10) (by decide) rfl (Nat.le_of_ble_eq_true rfl) (fun p e s m args below meth cd Q A hx hb hml hown hG hK hA hret hw ls hl => ?_)
  have hl : lv_has ls 2 [(0, .ref o_t), (1, .int x1)] := hl
  have hret1 : ∀ (v : Int32) (v_t_now_meadow_families : Int32) (v_t_now_meadow_lost : Int32) (f_t_now_meadow_seeds : (Nat → Int32)) (f_t_now_meadow_ground : (Nat → Int32)) (H : Heap) (locs : List Loc) (pc : Nat) (ls : Array Slot), some (v, v_t_now_meadow_families, v_t_now_meadow_lost, f_t_now_meadow_seeds, f_t_now_meadow_ground) = some (rv, z_t_now_meadow_families, z_t_now_meadow_lost, z_t_now_meadow_seeds, z_t_now_meadow_ground) → gS E A s.heap (wX10_leave E o_t o_t_firstImage o_t_secondImage o_t_pad o_t_hours o_t_growth o_t_flight o_t_draws o_t_now o_t_now_sights o_t_now_meadow a_t_now_meadow v_t_imagesKept v_t_now_meadow_families v_t_now_meadow_wind v_t_now_meadow_force v_t_now_meadow_rain v_t_now_meadow_lost v_t_now_meadow_hour f_t_now_meadow_home f_t_now_meadow_seeds f_t_now_meadow_ground) H locs → decode cX10_leave pc = .ok (.ireturn, 1) → W p l e ({ frames := 2, cells := 0, slots := 0, locals := 45 } : Room) s m args below meth cd H locs 0 0 Q (F0 m pc ls [.int v]) := by
    intro v v_t_now_meadow_families v_t_now_meadow_lost f_t_now_meadow_seeds f_t_now_meadow_ground H locs pc ls h hw hd
    cases h
    exact hret H locs pc ls hw hd
  refine lv_aload_n hx hb dX10_leave_0 rfl (lv_at hl 0 rfl) ?_
  refine g_get hx hb hG hown hK hw inlX10 (ci := 8) rfl 0 0 (Nat.le_of_ble_eq_true rfl) rfl rfl wd_1_15 dX10_leave_1 ?_
  refine g_get hx hb hG hown hK hw inlX4 (ci := 3) rfl 1 0 (Nat.le_of_ble_eq_true rfl) rfl rfl wd_7_0 dX10_leave_4 ?_
  refine lv_iload_n hx hb dX10_leave_7 rfl (lv_at hl 1 rfl) ?_
  obtain ⟨r1, hc2, hf⟩ := gB_s hf
  refine g_ki (is := [2]) (w1 := (wX6_isThere E o_t_now_meadow a_t_now_meadow v_t_now_meadow_families v_t_now_meadow_wind v_t_now_meadow_force v_t_now_meadow_rain v_t_now_meadow_lost v_t_now_meadow_hour)) (ws' := (wX10_leave E o_t o_t_firstImage o_t_secondImage o_t_pad o_t_hours o_t_growth o_t_flight o_t_draws o_t_now o_t_now_sights o_t_now_meadow a_t_now_meadow v_t_imagesKept v_t_now_meadow_families v_t_now_meadow_wind v_t_now_meadow_force v_t_now_meadow_rain v_t_now_meadow_lost v_t_now_meadow_hour f_t_now_meadow_home f_t_now_meadow_seeds f_t_now_meadow_ground)) hw hA (g_rV hx hb hml hG hown hK hw (is := [2]) rfl (by decide) (mX6_isThere l E o_t_now_meadow a_t_now_meadow v_t_now_meadow_families v_t_now_meadow_wind v_t_now_meadow_force v_t_now_meadow_rain v_t_now_meadow_lost v_t_now_meadow_hour x1 r1 hc2) wd_9_8 wd_9_9 wd_9_10 wd_2_20 wd_9_11 hX6_isThere g_allgood ⟨rfl, rfl⟩ ⟨Nat.le_of_ble_eq_true rfl, Nat.le_of_ble_eq_true rfl⟩ ⟨Nat.zero_le _, Nat.zero_le _⟩ (ci := 5) (q0 := 0) rfl rfl rfl rfl hl.1 rfl (Nat.le_of_ble_eq_true rfl) dX10_leave_8) rfl rfl rfl (fun H locs hw => ?_)
  refine lv_if_ne (tgt := 16) hx hb dX10_leave_11 (by decide) (fun hc => ?_) (fun hc => ?_)
  · have hf := g_f hc hf
    refine lv_aload_n hx hb dX10_leave_16 rfl (lv_at hl 0 rfl) ?_
    refine g_get hx hb hG hown hK hw inlX10 (ci := 8) rfl 0 0 (Nat.le_of_ble_eq_true rfl) rfl rfl wd_1_15 dX10_leave_17 ?_
    refine g_get hx hb hG hown hK hw inlX4 (ci := 3) rfl 1 0 (Nat.le_of_ble_eq_true rfl) rfl rfl wd_7_0 dX10_leave_20 ?_
    refine lv_iload_n hx hb dX10_leave_23 rfl (lv_at hl 1 rfl) ?_
    obtain ⟨r3, hc4, hf⟩ := gB_s hf
    refine g_kv (is := [2, 3, 4, 5]) (w1 := (wX6_moveOut E o_t_now_meadow a_t_now_meadow r3.1 v_t_now_meadow_wind v_t_now_meadow_force v_t_now_meadow_rain r3.2.1 v_t_now_meadow_hour f_t_now_meadow_home r3.2.2.1 r3.2.2.2)) (ws' := (wX10_leave E o_t o_t_firstImage o_t_secondImage o_t_pad o_t_hours o_t_growth o_t_flight o_t_draws o_t_now o_t_now_sights o_t_now_meadow a_t_now_meadow v_t_imagesKept r3.1 v_t_now_meadow_wind v_t_now_meadow_force v_t_now_meadow_rain r3.2.1 v_t_now_meadow_hour f_t_now_meadow_home r3.2.2.1 r3.2.2.2)) hw hA (g_rV hx hb hml hG hown hK hw (is := [2, 3, 4, 5]) rfl (by decide) (mX6_moveOut l E o_t_now_meadow a_t_now_meadow v_t_now_meadow_families v_t_now_meadow_wind v_t_now_meadow_force v_t_now_meadow_rain v_t_now_meadow_lost v_t_now_meadow_hour f_t_now_meadow_home f_t_now_meadow_seeds f_t_now_meadow_ground x1 r3.1 r3.2.1 r3.2.2.1 r3.2.2.2 hc4) wd_9_12 wd_9_13 wd_9_14 wd_2_20 wd_9_15 hX6_moveOut g_allgood ⟨rfl, rfl⟩ ⟨Nat.le_of_ble_eq_true rfl, Nat.le_of_ble_eq_true rfl⟩ ⟨Nat.zero_le _, Nat.zero_le _⟩ (ci := 5) (q0 := 0) rfl rfl rfl rfl hl.1 rfl (Nat.le_of_ble_eq_true rfl) dX10_leave_24) rfl rfl rfl (fun H locs hw => ?_)
    refine lv_aload_n hx hb dX10_leave_27 rfl (lv_at hl 0 rfl) ?_
    refine g_get hx hb hG hown hK hw inlX10 (ci := 8) rfl 0 0 (Nat.le_of_ble_eq_true rfl) rfl rfl wd_1_15 dX10_leave_28 ?_
    refine g_get hx hb hG hown hK hw inlX4 (ci := 3) rfl 1 0 (Nat.le_of_ble_eq_true rfl) rfl rfl wd_7_0 dX10_leave_31 ?_
    obtain ⟨r5, hc6, hf⟩ := gB_s hf
    refine g_ki (is := [2]) (w1 := (wX6_howManyFamilies E o_t_now_meadow a_t_now_meadow r3.1 v_t_now_meadow_wind v_t_now_meadow_force v_t_now_meadow_rain r3.2.1 v_t_now_meadow_hour)) (ws' := (wX10_leave E o_t o_t_firstImage o_t_secondImage o_t_pad o_t_hours o_t_growth o_t_flight o_t_draws o_t_now o_t_now_sights o_t_now_meadow a_t_now_meadow v_t_imagesKept r3.1 v_t_now_meadow_wind v_t_now_meadow_force v_t_now_meadow_rain r3.2.1 v_t_now_meadow_hour f_t_now_meadow_home r3.2.2.1 r3.2.2.2)) hw hA (g_rV hx hb hml hG hown hK hw (is := [2]) rfl (by decide) (mX6_howManyFamilies l E o_t_now_meadow a_t_now_meadow r3.1 v_t_now_meadow_wind v_t_now_meadow_force v_t_now_meadow_rain r3.2.1 v_t_now_meadow_hour r5 hc6) wd_7_15 wd_7_16 wd_7_17 wd_2_20 wd_7_18 hX6_howManyFamilies g_allgood ⟨rfl, rfl⟩ ⟨Nat.le_of_ble_eq_true rfl, Nat.le_of_ble_eq_true rfl⟩ ⟨Nat.zero_le _, Nat.zero_le _⟩ (ci := 5) (q0 := 0) rfl rfl rfl rfl hl.1 rfl (Nat.le_of_ble_eq_true rfl) dX10_leave_34) rfl rfl rfl (fun H locs hw => ?_)
    exact hret1 r5 r3.1 r3.2.1 r3.2.2.1 r3.2.2.2 _ _ _ _ hf hw dX10_leave_37
  · have hf := g_t hc hf
    refine lv_iconst (v := -1) hx hb dX10_leave_14 k_im1 ?_
    exact hret1 (-1) v_t_now_meadow_families v_t_now_meadow_lost f_t_now_meadow_seeds f_t_now_meadow_ground _ _ _ _ hf hw dX10_leave_15
theorem hX10_lay : yX10_lay.cls = RX10 ∧ yX10_lay.cls ≠ "java/lang/invoke/MethodHandle" ∧ yX10_lay.cls ≠ "java/lang/invoke/VarHandle" ∧ (parseMethodDescriptor yX10_lay.desc).map (fun d => d.parameters.length) = some 2 := by decide +kernel
set_option maxHeartbeats 4000000 in
set_option maxRecDepth 100000 in
theorem mX10_lay (l : Launch) (E : gE) (o_t : Nat) (o_t_firstImage : Nat) (o_t_secondImage : Nat) (o_t_pad : Nat) (o_t_hours : Nat) (o_t_growth : Nat) (o_t_flight : Nat) (o_t_draws : Nat) (o_t_now : Nat) (o_t_now_sights : Nat) (o_t_now_meadow : Nat) (a_t_now_meadow : (Nat → Nat)) (v_t_imagesKept : Int32) (v_t_now_meadow_families : Int32) (v_t_now_meadow_wind : Int32) (v_t_now_meadow_force : Int32) (v_t_now_meadow_rain : Int32) (v_t_now_meadow_lost : Int32) (v_t_now_meadow_hour : Int32) (f_t_now_meadow_ground : (Nat → Int32)) (x1 : Int32) (x2 : Int32) (rv : Int32) (z_t_now_meadow_ground : (Nat → Int32)) (hf : fX10_lay f_t_now_meadow_ground x1 x2 = some (rv, z_t_now_meadow_ground)) {sz : Nat} : gMi l yX10_lay (gW yX10_lay cX10_lay 4 (some .int)) ({ frames := 1, cells := 0, slots := 0, locals := 22 } : Room) E [.ref o_t, .int x1, .int x2] (wX10_lay E o_t o_t_firstImage o_t_secondImage o_t_pad o_t_hours o_t_growth o_t_flight o_t_draws o_t_now o_t_now_sights o_t_now_meadow a_t_now_meadow v_t_imagesKept v_t_now_meadow_families v_t_now_meadow_wind v_t_now_meadow_force v_t_now_meadow_rain v_t_now_meadow_lost v_t_now_meadow_hour f_t_now_meadow_ground) sz rv (wX10_lay E o_t o_t_firstImage o_t_secondImage o_t_pad o_t_hours o_t_growth o_t_flight o_t_draws o_t_now o_t_now_sights o_t_now_meadow a_t_now_meadow v_t_imagesKept v_t_now_meadow_families v_t_now_meadow_wind v_t_now_meadow_force v_t_now_meadow_rain v_t_now_meadow_lost v_t_now_meadow_hour z_t_now_meadow_ground) := by
  refine g_openI (own := RX10) (by decide) rfl (Nat.le_of_ble_eq_true rfl) (fun p e s m args below meth cd Q A hx hb hml hown hG hK hA hret hw ls hl => ?_)
  have hl : lv_has ls 4 [(0, .ref o_t), (1, .int x1), (2, .int x2)] := hl
  have hret1 : ∀ (v : Int32) (f_t_now_meadow_ground : (Nat → Int32)) (H : Heap) (locs : List Loc) (pc : Nat) (ls : Array Slot), some (v, f_t_now_meadow_ground) = some (rv, z_t_now_meadow_ground) → gS E A s.heap (wX10_lay E o_t o_t_firstImage o_t_secondImage o_t_pad o_t_hours o_t_growth o_t_flight o_t_draws o_t_now o_t_now_sights o_t_now_meadow a_t_now_meadow v_t_imagesKept v_t_now_meadow_families v_t_now_meadow_wind v_t_now_meadow_force v_t_now_meadow_rain v_t_now_meadow_lost v_t_now_meadow_hour f_t_now_meadow_ground) H locs → decode cX10_lay pc = .ok (.ireturn, 1) → W p l e ({ frames := 1, cells := 0, slots := 0, locals := 22 } : Room) s m args below meth cd H locs 0 0 Q (F0 m pc ls [.int v]) := by
    intro v f_t_now_meadow_ground H locs pc ls h hw hd
    cases h
    exact hret H locs pc ls hw hd
  have B18 : ∀ (f_t_now_meadow_ground : (Nat → Int32)) (H : Heap) (locs : List Loc) (ls : Array Slot), fX10_lay_b18 f_t_now_meadow_ground = some (rv, z_t_now_meadow_ground) → gS E A s.heap (wX10_lay E o_t o_t_firstImage o_t_secondImage o_t_pad o_t_hours o_t_growth o_t_flight o_t_draws o_t_now o_t_now_sights o_t_now_meadow a_t_now_meadow v_t_imagesKept v_t_now_meadow_families v_t_now_meadow_wind v_t_now_meadow_force v_t_now_meadow_rain v_t_now_meadow_lost v_t_now_meadow_hour f_t_now_meadow_ground) H locs → lv_has ls 4 [] → W p l e ({ frames := 1, cells := 0, slots := 0, locals := 22 } : Room) s m args below meth cd H locs 0 0 Q (F0 m 18 ls []) := by
    intro  f_t_now_meadow_ground H locs ls hf hw hl
    refine lv_bipush (v := -2) hx hb dX10_lay_18 k_bm2 ?_
    exact hret1 (-2) f_t_now_meadow_ground _ _ _ _ hf hw dX10_lay_20
  refine lv_iload_n hx hb dX10_lay_0 rfl (lv_at hl 1 rfl) ?_
  obtain ⟨r1, hc2, hf⟩ := gB_s hf
  refine g_ki (is := []) (w1 := (wX10_isField E)) (ws' := (wX10_lay E o_t o_t_firstImage o_t_secondImage o_t_pad o_t_hours o_t_growth o_t_flight o_t_draws o_t_now o_t_now_sights o_t_now_meadow a_t_now_meadow v_t_imagesKept v_t_now_meadow_families v_t_now_meadow_wind v_t_now_meadow_force v_t_now_meadow_rain v_t_now_meadow_lost v_t_now_meadow_hour f_t_now_meadow_ground)) hw hA (g_rS hx hb hml hG hown hK hw (is := []) rfl (by decide) (mX10_isField l E x1 r1 hc2) wd_7_4 wd_7_5 wd_1_2 wd_7_6 hX10_isField g_allgood ⟨rfl, rfl⟩ ⟨Nat.le_of_ble_eq_true rfl, Nat.le_of_ble_eq_true rfl⟩ ⟨Nat.zero_le _, Nat.zero_le _⟩ rfl hl.1 rfl (Nat.le_of_ble_eq_true rfl) dX10_lay_1) rfl rfl rfl (fun H locs hw => ?_)
  refine lv_if_eq (tgt := 18) hx hb dX10_lay_4 (by decide) (fun hc => ?_) (fun hc => ?_)
  · have hf := g_t hc hf
    exact B18 f_t_now_meadow_ground _ _ _ hf hw (lv_sub hl [] rfl)
  · have hf := g_f hc hf
    refine lv_iload_n hx hb dX10_lay_7 rfl (lv_at hl 2 rfl) ?_
    refine lv_iconst (v := 0) hx hb dX10_lay_8 k_i0 ?_
    refine lv_sipush (v := 999) hx hb dX10_lay_9 k_s999 ?_
    obtain ⟨r3, hc4, hf⟩ := gB_s hf
    refine g_ki (is := []) (w1 := (wX10_within E)) (ws' := (wX10_lay E o_t o_t_firstImage o_t_secondImage o_t_pad o_t_hours o_t_growth o_t_flight o_t_draws o_t_now o_t_now_sights o_t_now_meadow a_t_now_meadow v_t_imagesKept v_t_now_meadow_families v_t_now_meadow_wind v_t_now_meadow_force v_t_now_meadow_rain v_t_now_meadow_lost v_t_now_meadow_hour f_t_now_meadow_ground)) hw hA (g_rS hx hb hml hG hown hK hw (is := []) rfl (by decide) (mX10_within l E x2 0 999 r3 hc4) wd_7_1 wd_7_2 wd_1_2 wd_7_3 hX10_within g_allgood ⟨rfl, rfl⟩ ⟨Nat.le_of_ble_eq_true rfl, Nat.le_of_ble_eq_true rfl⟩ ⟨Nat.zero_le _, Nat.zero_le _⟩ rfl hl.1 rfl (Nat.le_of_ble_eq_true rfl) dX10_lay_12) rfl rfl rfl (fun H locs hw => ?_)
    refine lv_if_ne (tgt := 21) hx hb dX10_lay_15 (by decide) (fun hc => ?_) (fun hc => ?_)
    · have hf := g_f hc hf
      refine lv_aload_n hx hb dX10_lay_21 rfl (lv_at hl 0 rfl) ?_
      refine g_get hx hb hG hown hK hw inlX10 (ci := 8) rfl 0 0 (Nat.le_of_ble_eq_true rfl) rfl rfl wd_1_15 dX10_lay_22 ?_
      refine g_get hx hb hG hown hK hw inlX4 (ci := 3) rfl 1 0 (Nat.le_of_ble_eq_true rfl) rfl rfl wd_7_0 dX10_lay_25 ?_
      refine g_get hx hb hG hown hK hw inlX6 (ci := 5) rfl 2 4 (Nat.le_of_ble_eq_true rfl) rfl rfl wd_10_10 dX10_lay_28 ?_
      refine lv_iload_n hx hb dX10_lay_31 rfl (lv_at hl 1 rfl) ?_
      obtain ⟨hi5, hf⟩ := gA_s hf
      refine g_iald hx hb hK hw 3 rfl hi5 dX10_lay_32 ?_
      refine lv_istore_n (lv' := [(3, .int (f_t_now_meadow_ground (Int32.toNatClampNeg x1))), (0, .ref o_t), (1, .int x1), (2, .int x2)]) hx hb dX10_lay_33 rfl hl (Nat.le_of_ble_eq_true rfl) rfl (fun ls hl => ?_)
      refine lv_aload_n hx hb dX10_lay_34 rfl (lv_at hl 1 rfl) ?_
      refine g_get hx hb hG hown hK hw inlX10 (ci := 8) rfl 0 0 (Nat.le_of_ble_eq_true rfl) rfl rfl wd_1_15 dX10_lay_35 ?_
      refine g_get hx hb hG hown hK hw inlX4 (ci := 3) rfl 1 0 (Nat.le_of_ble_eq_true rfl) rfl rfl wd_7_0 dX10_lay_38 ?_
      refine g_get hx hb hG hown hK hw inlX6 (ci := 5) rfl 2 4 (Nat.le_of_ble_eq_true rfl) rfl rfl wd_10_10 dX10_lay_41 ?_
      refine lv_iload_n hx hb dX10_lay_44 rfl (lv_at hl 2 rfl) ?_
      refine lv_iload_n hx hb dX10_lay_45 rfl (lv_at hl 3 rfl) ?_
      obtain ⟨hi6, hf⟩ := gA_s hf
      refine g_iast (ws' := (wX10_lay E o_t o_t_firstImage o_t_secondImage o_t_pad o_t_hours o_t_growth o_t_flight o_t_draws o_t_now o_t_now_sights o_t_now_meadow a_t_now_meadow v_t_imagesKept v_t_now_meadow_families v_t_now_meadow_wind v_t_now_meadow_force v_t_now_meadow_rain v_t_now_meadow_lost v_t_now_meadow_hour (upd f_t_now_meadow_ground (Int32.toNatClampNeg x1) x2))) hx hb hK hw 3 rfl hi6 rfl dX10_lay_46 (fun H locs hw => ?_)
      refine lv_iload_n hx hb dX10_lay_47 rfl (lv_at hl 0 rfl) ?_
      exact hret1 (f_t_now_meadow_ground (Int32.toNatClampNeg x1)) (upd f_t_now_meadow_ground (Int32.toNatClampNeg x1) x2) _ _ _ _ hf hw dX10_lay_48
    · have hf := g_t hc hf
      exact B18 f_t_now_meadow_ground _ _ _ hf hw (lv_sub hl [] rfl)
theorem hX10_changeRain : yX10_changeRain.cls = RX10 ∧ yX10_changeRain.cls ≠ "java/lang/invoke/MethodHandle" ∧ yX10_changeRain.cls ≠ "java/lang/invoke/VarHandle" ∧ (parseMethodDescriptor yX10_changeRain.desc).map (fun d => d.parameters.length) = some 1 := by decide +kernel
set_option maxHeartbeats 4000000 in
set_option maxRecDepth 100000 in
theorem mX10_changeRain (l : Launch) (E : gE) (o_t : Nat) (o_t_firstImage : Nat) (o_t_secondImage : Nat) (o_t_pad : Nat) (o_t_hours : Nat) (o_t_growth : Nat) (o_t_flight : Nat) (o_t_draws : Nat) (o_t_now : Nat) (o_t_now_sights : Nat) (o_t_now_meadow : Nat) (a_t_now_meadow : (Nat → Nat)) (v_t_imagesKept : Int32) (v_t_now_meadow_families : Int32) (v_t_now_meadow_wind : Int32) (v_t_now_meadow_force : Int32) (v_t_now_meadow_rain : Int32) (v_t_now_meadow_lost : Int32) (v_t_now_meadow_hour : Int32) (x1 : Int32) (rv : Int32) (z_t_now_meadow_rain : Int32) (hf : fX10_changeRain v_t_now_meadow_rain x1 = some (rv, z_t_now_meadow_rain)) {sz : Nat} : gMi l yX10_changeRain (gW yX10_changeRain cX10_changeRain 3 (some .int)) ({ frames := 0, cells := 0, slots := 0, locals := 0 } : Room) E [.ref o_t, .int x1] (wX10_changeRain E o_t o_t_firstImage o_t_secondImage o_t_pad o_t_hours o_t_growth o_t_flight o_t_draws o_t_now o_t_now_sights o_t_now_meadow a_t_now_meadow v_t_imagesKept v_t_now_meadow_families v_t_now_meadow_wind v_t_now_meadow_force v_t_now_meadow_rain v_t_now_meadow_lost v_t_now_meadow_hour) sz rv (wX10_changeRain E o_t o_t_firstImage o_t_secondImage o_t_pad o_t_hours o_t_growth o_t_flight o_t_draws o_t_now o_t_now_sights o_t_now_meadow a_t_now_meadow v_t_imagesKept v_t_now_meadow_families v_t_now_meadow_wind v_t_now_meadow_force z_t_now_meadow_rain v_t_now_meadow_lost v_t_now_meadow_hour) := by
  refine g_openI (own := RX10) (by decide) rfl (Nat.le_of_ble_eq_true rfl) (fun p e s m args below meth cd Q A hx hb hml hown hG hK hA hret hw ls hl => ?_)
  have hl : lv_has ls 3 [(0, .ref o_t), (1, .int x1)] := hl
  have hret1 : ∀ (v : Int32) (v_t_now_meadow_rain : Int32) (H : Heap) (locs : List Loc) (pc : Nat) (ls : Array Slot), some (v, v_t_now_meadow_rain) = some (rv, z_t_now_meadow_rain) → gS E A s.heap (wX10_changeRain E o_t o_t_firstImage o_t_secondImage o_t_pad o_t_hours o_t_growth o_t_flight o_t_draws o_t_now o_t_now_sights o_t_now_meadow a_t_now_meadow v_t_imagesKept v_t_now_meadow_families v_t_now_meadow_wind v_t_now_meadow_force v_t_now_meadow_rain v_t_now_meadow_lost v_t_now_meadow_hour) H locs → decode cX10_changeRain pc = .ok (.ireturn, 1) → W p l e ({ frames := 0, cells := 0, slots := 0, locals := 0 } : Room) s m args below meth cd H locs 0 0 Q (F0 m pc ls [.int v]) := by
    intro v v_t_now_meadow_rain H locs pc ls h hw hd
    cases h
    exact hret H locs pc ls hw hd
  refine lv_aload_n hx hb dX10_changeRain_0 rfl (lv_at hl 0 rfl) ?_
  refine g_get hx hb hG hown hK hw inlX10 (ci := 8) rfl 0 0 (Nat.le_of_ble_eq_true rfl) rfl rfl wd_1_15 dX10_changeRain_1 ?_
  refine g_get hx hb hG hown hK hw inlX4 (ci := 3) rfl 1 0 (Nat.le_of_ble_eq_true rfl) rfl rfl wd_7_0 dX10_changeRain_4 ?_
  refine g_get hx hb hG hown hK hw inlX6 (ci := 5) rfl 2 8 (Nat.le_of_ble_eq_true rfl) rfl rfl wd_11_10 dX10_changeRain_7 ?_
  refine lv_istore_n (lv' := [(2, .int v_t_now_meadow_rain), (0, .ref o_t), (1, .int x1)]) hx hb dX10_changeRain_10 rfl hl (Nat.le_of_ble_eq_true rfl) rfl (fun ls hl => ?_)
  refine lv_aload_n hx hb dX10_changeRain_11 rfl (lv_at hl 1 rfl) ?_
  refine g_get hx hb hG hown hK hw inlX10 (ci := 8) rfl 0 0 (Nat.le_of_ble_eq_true rfl) rfl rfl wd_1_15 dX10_changeRain_12 ?_
  refine g_get hx hb hG hown hK hw inlX4 (ci := 3) rfl 1 0 (Nat.le_of_ble_eq_true rfl) rfl rfl wd_7_0 dX10_changeRain_15 ?_
  refine lv_iload_n hx hb dX10_changeRain_18 rfl (lv_at hl 2 rfl) ?_
  refine g_put (ws' := (wX10_changeRain E o_t o_t_firstImage o_t_secondImage o_t_pad o_t_hours o_t_growth o_t_flight o_t_draws o_t_now o_t_now_sights o_t_now_meadow a_t_now_meadow v_t_imagesKept v_t_now_meadow_families v_t_now_meadow_wind v_t_now_meadow_force x1 v_t_now_meadow_lost v_t_now_meadow_hour)) hx hb hG hown hK hw inlX6 tyX6_ok nmX6 (ci := 5) rfl 2 8 (Nat.le_of_ble_eq_true rfl) rfl wd_11_10 rfl rfl rfl (Nat.le_of_ble_eq_true rfl) rfl dX10_changeRain_19 (fun H locs hw => ?_)
  refine lv_iload_n hx hb dX10_changeRain_22 rfl (lv_at hl 0 rfl) ?_
  exact hret1 v_t_now_meadow_rain x1 _ _ _ _ hf hw dX10_changeRain_23
theorem hX10_changeForce : yX10_changeForce.cls = RX10 ∧ yX10_changeForce.cls ≠ "java/lang/invoke/MethodHandle" ∧ yX10_changeForce.cls ≠ "java/lang/invoke/VarHandle" ∧ (parseMethodDescriptor yX10_changeForce.desc).map (fun d => d.parameters.length) = some 1 := by decide +kernel
set_option maxHeartbeats 4000000 in
set_option maxRecDepth 100000 in
theorem mX10_changeForce (l : Launch) (E : gE) (o_t : Nat) (o_t_firstImage : Nat) (o_t_secondImage : Nat) (o_t_pad : Nat) (o_t_hours : Nat) (o_t_growth : Nat) (o_t_flight : Nat) (o_t_draws : Nat) (o_t_now : Nat) (o_t_now_sights : Nat) (o_t_now_meadow : Nat) (a_t_now_meadow : (Nat → Nat)) (v_t_imagesKept : Int32) (v_t_now_meadow_families : Int32) (v_t_now_meadow_wind : Int32) (v_t_now_meadow_force : Int32) (v_t_now_meadow_rain : Int32) (v_t_now_meadow_lost : Int32) (v_t_now_meadow_hour : Int32) (x1 : Int32) (rv : Int32) (z_t_now_meadow_force : Int32) (hf : fX10_changeForce v_t_now_meadow_force x1 = some (rv, z_t_now_meadow_force)) {sz : Nat} : gMi l yX10_changeForce (gW yX10_changeForce cX10_changeForce 3 (some .int)) ({ frames := 0, cells := 0, slots := 0, locals := 0 } : Room) E [.ref o_t, .int x1] (wX10_changeForce E o_t o_t_firstImage o_t_secondImage o_t_pad o_t_hours o_t_growth o_t_flight o_t_draws o_t_now o_t_now_sights o_t_now_meadow a_t_now_meadow v_t_imagesKept v_t_now_meadow_families v_t_now_meadow_wind v_t_now_meadow_force v_t_now_meadow_rain v_t_now_meadow_lost v_t_now_meadow_hour) sz rv (wX10_changeForce E o_t o_t_firstImage o_t_secondImage o_t_pad o_t_hours o_t_growth o_t_flight o_t_draws o_t_now o_t_now_sights o_t_now_meadow a_t_now_meadow v_t_imagesKept v_t_now_meadow_families v_t_now_meadow_wind z_t_now_meadow_force v_t_now_meadow_rain v_t_now_meadow_lost v_t_now_meadow_hour) := by
  refine g_openI (own := RX10) (by decide) rfl (Nat.le_of_ble_eq_true rfl) (fun p e s m args below meth cd Q A hx hb hml hown hG hK hA hret hw ls hl => ?_)
  have hl : lv_has ls 3 [(0, .ref o_t), (1, .int x1)] := hl
  have hret1 : ∀ (v : Int32) (v_t_now_meadow_force : Int32) (H : Heap) (locs : List Loc) (pc : Nat) (ls : Array Slot), some (v, v_t_now_meadow_force) = some (rv, z_t_now_meadow_force) → gS E A s.heap (wX10_changeForce E o_t o_t_firstImage o_t_secondImage o_t_pad o_t_hours o_t_growth o_t_flight o_t_draws o_t_now o_t_now_sights o_t_now_meadow a_t_now_meadow v_t_imagesKept v_t_now_meadow_families v_t_now_meadow_wind v_t_now_meadow_force v_t_now_meadow_rain v_t_now_meadow_lost v_t_now_meadow_hour) H locs → decode cX10_changeForce pc = .ok (.ireturn, 1) → W p l e ({ frames := 0, cells := 0, slots := 0, locals := 0 } : Room) s m args below meth cd H locs 0 0 Q (F0 m pc ls [.int v]) := by
    intro v v_t_now_meadow_force H locs pc ls h hw hd
    cases h
    exact hret H locs pc ls hw hd
  refine lv_aload_n hx hb dX10_changeForce_0 rfl (lv_at hl 0 rfl) ?_
  refine g_get hx hb hG hown hK hw inlX10 (ci := 8) rfl 0 0 (Nat.le_of_ble_eq_true rfl) rfl rfl wd_1_15 dX10_changeForce_1 ?_
  refine g_get hx hb hG hown hK hw inlX4 (ci := 3) rfl 1 0 (Nat.le_of_ble_eq_true rfl) rfl rfl wd_7_0 dX10_changeForce_4 ?_
  refine g_get hx hb hG hown hK hw inlX6 (ci := 5) rfl 2 7 (Nat.le_of_ble_eq_true rfl) rfl rfl wd_11_5 dX10_changeForce_7 ?_
  refine lv_istore_n (lv' := [(2, .int v_t_now_meadow_force), (0, .ref o_t), (1, .int x1)]) hx hb dX10_changeForce_10 rfl hl (Nat.le_of_ble_eq_true rfl) rfl (fun ls hl => ?_)
  refine lv_aload_n hx hb dX10_changeForce_11 rfl (lv_at hl 1 rfl) ?_
  refine g_get hx hb hG hown hK hw inlX10 (ci := 8) rfl 0 0 (Nat.le_of_ble_eq_true rfl) rfl rfl wd_1_15 dX10_changeForce_12 ?_
  refine g_get hx hb hG hown hK hw inlX4 (ci := 3) rfl 1 0 (Nat.le_of_ble_eq_true rfl) rfl rfl wd_7_0 dX10_changeForce_15 ?_
  refine lv_iload_n hx hb dX10_changeForce_18 rfl (lv_at hl 2 rfl) ?_
  refine g_put (ws' := (wX10_changeForce E o_t o_t_firstImage o_t_secondImage o_t_pad o_t_hours o_t_growth o_t_flight o_t_draws o_t_now o_t_now_sights o_t_now_meadow a_t_now_meadow v_t_imagesKept v_t_now_meadow_families v_t_now_meadow_wind x1 v_t_now_meadow_rain v_t_now_meadow_lost v_t_now_meadow_hour)) hx hb hG hown hK hw inlX6 tyX6_ok nmX6 (ci := 5) rfl 2 7 (Nat.le_of_ble_eq_true rfl) rfl wd_11_5 rfl rfl rfl (Nat.le_of_ble_eq_true rfl) rfl dX10_changeForce_19 (fun H locs hw => ?_)
  refine lv_iload_n hx hb dX10_changeForce_22 rfl (lv_at hl 0 rfl) ?_
  exact hret1 v_t_now_meadow_force x1 _ _ _ _ hf hw dX10_changeForce_23
theorem hX10_turnWind : yX10_turnWind.cls = RX10 ∧ yX10_turnWind.cls ≠ "java/lang/invoke/MethodHandle" ∧ yX10_turnWind.cls ≠ "java/lang/invoke/VarHandle" ∧ (parseMethodDescriptor yX10_turnWind.desc).map (fun d => d.parameters.length) = some 1 := by decide +kernel
set_option maxHeartbeats 4000000 in
set_option maxRecDepth 100000 in
theorem mX10_turnWind (l : Launch) (E : gE) (o_t : Nat) (o_t_firstImage : Nat) (o_t_secondImage : Nat) (o_t_pad : Nat) (o_t_hours : Nat) (o_t_growth : Nat) (o_t_flight : Nat) (o_t_draws : Nat) (o_t_now : Nat) (o_t_now_sights : Nat) (o_t_now_meadow : Nat) (a_t_now_meadow : (Nat → Nat)) (v_t_imagesKept : Int32) (v_t_now_meadow_families : Int32) (v_t_now_meadow_wind : Int32) (v_t_now_meadow_force : Int32) (v_t_now_meadow_rain : Int32) (v_t_now_meadow_lost : Int32) (v_t_now_meadow_hour : Int32) (x1 : Int32) (rv : Int32) (z_t_now_meadow_wind : Int32) (hf : fX10_turnWind v_t_now_meadow_wind x1 = some (rv, z_t_now_meadow_wind)) {sz : Nat} : gMi l yX10_turnWind (gW yX10_turnWind cX10_turnWind 3 (some .int)) ({ frames := 0, cells := 0, slots := 0, locals := 0 } : Room) E [.ref o_t, .int x1] (wX10_turnWind E o_t o_t_firstImage o_t_secondImage o_t_pad o_t_hours o_t_growth o_t_flight o_t_draws o_t_now o_t_now_sights o_t_now_meadow a_t_now_meadow v_t_imagesKept v_t_now_meadow_families v_t_now_meadow_wind v_t_now_meadow_force v_t_now_meadow_rain v_t_now_meadow_lost v_t_now_meadow_hour) sz rv (wX10_turnWind E o_t o_t_firstImage o_t_secondImage o_t_pad o_t_hours o_t_growth o_t_flight o_t_draws o_t_now o_t_now_sights o_t_now_meadow a_t_now_meadow v_t_imagesKept v_t_now_meadow_families z_t_now_meadow_wind v_t_now_meadow_force v_t_now_meadow_rain v_t_now_meadow_lost v_t_now_meadow_hour) := by
  refine g_openI (own := RX10) (by decide) rfl (Nat.le_of_ble_eq_true rfl) (fun p e s m args below meth cd Q A hx hb hml hown hG hK hA hret hw ls hl => ?_)
  have hl : lv_has ls 3 [(0, .ref o_t), (1, .int x1)] := hl
  have hret1 : ∀ (v : Int32) (v_t_now_meadow_wind : Int32) (H : Heap) (locs : List Loc) (pc : Nat) (ls : Array Slot), some (v, v_t_now_meadow_wind) = some (rv, z_t_now_meadow_wind) → gS E A s.heap (wX10_turnWind E o_t o_t_firstImage o_t_secondImage o_t_pad o_t_hours o_t_growth o_t_flight o_t_draws o_t_now o_t_now_sights o_t_now_meadow a_t_now_meadow v_t_imagesKept v_t_now_meadow_families v_t_now_meadow_wind v_t_now_meadow_force v_t_now_meadow_rain v_t_now_meadow_lost v_t_now_meadow_hour) H locs → decode cX10_turnWind pc = .ok (.ireturn, 1) → W p l e ({ frames := 0, cells := 0, slots := 0, locals := 0 } : Room) s m args below meth cd H locs 0 0 Q (F0 m pc ls [.int v]) := by
    intro v v_t_now_meadow_wind H locs pc ls h hw hd
    cases h
    exact hret H locs pc ls hw hd
  refine lv_aload_n hx hb dX10_turnWind_0 rfl (lv_at hl 0 rfl) ?_
  refine g_get hx hb hG hown hK hw inlX10 (ci := 8) rfl 0 0 (Nat.le_of_ble_eq_true rfl) rfl rfl wd_1_15 dX10_turnWind_1 ?_
  refine g_get hx hb hG hown hK hw inlX4 (ci := 3) rfl 1 0 (Nat.le_of_ble_eq_true rfl) rfl rfl wd_7_0 dX10_turnWind_4 ?_
  refine g_get hx hb hG hown hK hw inlX6 (ci := 5) rfl 2 6 (Nat.le_of_ble_eq_true rfl) rfl rfl wd_11_0 dX10_turnWind_7 ?_
  refine lv_istore_n (lv' := [(2, .int v_t_now_meadow_wind), (0, .ref o_t), (1, .int x1)]) hx hb dX10_turnWind_10 rfl hl (Nat.le_of_ble_eq_true rfl) rfl (fun ls hl => ?_)
  refine lv_aload_n hx hb dX10_turnWind_11 rfl (lv_at hl 1 rfl) ?_
  refine g_get hx hb hG hown hK hw inlX10 (ci := 8) rfl 0 0 (Nat.le_of_ble_eq_true rfl) rfl rfl wd_1_15 dX10_turnWind_12 ?_
  refine g_get hx hb hG hown hK hw inlX4 (ci := 3) rfl 1 0 (Nat.le_of_ble_eq_true rfl) rfl rfl wd_7_0 dX10_turnWind_15 ?_
  refine lv_iload_n hx hb dX10_turnWind_18 rfl (lv_at hl 2 rfl) ?_
  refine g_put (ws' := (wX10_turnWind E o_t o_t_firstImage o_t_secondImage o_t_pad o_t_hours o_t_growth o_t_flight o_t_draws o_t_now o_t_now_sights o_t_now_meadow a_t_now_meadow v_t_imagesKept v_t_now_meadow_families x1 v_t_now_meadow_force v_t_now_meadow_rain v_t_now_meadow_lost v_t_now_meadow_hour)) hx hb hG hown hK hw inlX6 tyX6_ok nmX6 (ci := 5) rfl 2 6 (Nat.le_of_ble_eq_true rfl) rfl wd_11_0 rfl rfl rfl (Nat.le_of_ble_eq_true rfl) rfl dX10_turnWind_19 (fun H locs hw => ?_)
  refine lv_iload_n hx hb dX10_turnWind_22 rfl (lv_at hl 0 rfl) ?_
  exact hret1 v_t_now_meadow_wind x1 _ _ _ _ hf hw dX10_turnWind_23
theorem hX10_set : yX10_set.cls = RX10 ∧ yX10_set.cls ≠ "java/lang/invoke/MethodHandle" ∧ yX10_set.cls ≠ "java/lang/invoke/VarHandle" ∧ (parseMethodDescriptor yX10_set.desc).map (fun d => d.parameters.length) = some 2 := by decide +kernel
set_option maxHeartbeats 4000000 in
set_option maxRecDepth 100000 in
theorem mX10_set (l : Launch) (E : gE) (o_t : Nat) (o_t_firstImage : Nat) (o_t_secondImage : Nat) (o_t_pad : Nat) (o_t_hours : Nat) (o_t_growth : Nat) (o_t_flight : Nat) (o_t_draws : Nat) (o_t_now : Nat) (o_t_now_sights : Nat) (o_t_now_meadow : Nat) (a_t_now_meadow : (Nat → Nat)) (v_t_imagesKept : Int32) (v_t_now_meadow_families : Int32) (v_t_now_meadow_wind : Int32) (v_t_now_meadow_force : Int32) (v_t_now_meadow_rain : Int32) (v_t_now_meadow_lost : Int32) (v_t_now_meadow_hour : Int32) (x1 : Int32) (x2 : Int32) (rv : Int32) (z_t_now_meadow_wind : Int32) (z_t_now_meadow_force : Int32) (z_t_now_meadow_rain : Int32) (hf : fX10_set v_t_now_meadow_wind v_t_now_meadow_force v_t_now_meadow_rain x1 x2 = some (rv, z_t_now_meadow_wind, z_t_now_meadow_force, z_t_now_meadow_rain)) {sz : Nat} : gMi l yX10_set (gW yX10_set cX10_set 3 (some .int)) ({ frames := 1, cells := 0, slots := 0, locals := 22 } : Room) E [.ref o_t, .int x1, .int x2] (wX10_set E o_t o_t_firstImage o_t_secondImage o_t_pad o_t_hours o_t_growth o_t_flight o_t_draws o_t_now o_t_now_sights o_t_now_meadow a_t_now_meadow v_t_imagesKept v_t_now_meadow_families v_t_now_meadow_wind v_t_now_meadow_force v_t_now_meadow_rain v_t_now_meadow_lost v_t_now_meadow_hour) sz rv (wX10_set E o_t o_t_firstImage o_t_secondImage o_t_pad o_t_hours o_t_growth o_t_flight o_t_draws o_t_now o_t_now_sights o_t_now_meadow a_t_now_meadow v_t_imagesKept v_t_now_meadow_families z_t_now_meadow_wind z_t_now_meadow_force z_t_now_meadow_rain v_t_now_meadow_lost v_t_now_meadow_hour) := by
  refine g_openI (own := RX10) (by decide) rfl (Nat.le_of_ble_eq_true rfl) (fun p e s m args below meth cd Q A hx hb hml hown hG hK hA hret hw ls hl => ?_)
  have hl : lv_has ls 3 [(0, .ref o_t), (1, .int x1), (2, .int x2)] := hl
  have hret1 : ∀ (v : Int32) (v_t_now_meadow_wind : Int32) (v_t_now_meadow_force : Int32) (v_t_now_meadow_rain : Int32) (H : Heap) (locs : List Loc) (pc : Nat) (ls : Array Slot), some (v, v_t_now_meadow_wind, v_t_now_meadow_force, v_t_now_meadow_rain) = some (rv, z_t_now_meadow_wind, z_t_now_meadow_force, z_t_now_meadow_rain) → gS E A s.heap (wX10_set E o_t o_t_firstImage o_t_secondImage o_t_pad o_t_hours o_t_growth o_t_flight o_t_draws o_t_now o_t_now_sights o_t_now_meadow a_t_now_meadow v_t_imagesKept v_t_now_meadow_families v_t_now_meadow_wind v_t_now_meadow_force v_t_now_meadow_rain v_t_now_meadow_lost v_t_now_meadow_hour) H locs → decode cX10_set pc = .ok (.ireturn, 1) → W p l e ({ frames := 1, cells := 0, slots := 0, locals := 22 } : Room) s m args below meth cd H locs 0 0 Q (F0 m pc ls [.int v]) := by
    intro v v_t_now_meadow_wind v_t_now_meadow_force v_t_now_meadow_rain H locs pc ls h hw hd
    cases h
    exact hret H locs pc ls hw hd
  have B87 : ∀ (v_t_now_meadow_wind : Int32) (v_t_now_meadow_force : Int32) (v_t_now_meadow_rain : Int32) (s0 : Int32) (H : Heap) (locs : List Loc) (ls : Array Slot), fX10_set_b87 v_t_now_meadow_wind v_t_now_meadow_force v_t_now_meadow_rain s0 = some (rv, z_t_now_meadow_wind, z_t_now_meadow_force, z_t_now_meadow_rain) → gS E A s.heap (wX10_set E o_t o_t_firstImage o_t_secondImage o_t_pad o_t_hours o_t_growth o_t_flight o_t_draws o_t_now o_t_now_sights o_t_now_meadow a_t_now_meadow v_t_imagesKept v_t_now_meadow_families v_t_now_meadow_wind v_t_now_meadow_force v_t_now_meadow_rain v_t_now_meadow_lost v_t_now_meadow_hour) H locs → lv_has ls 3 [] → W p l e ({ frames := 1, cells := 0, slots := 0, locals := 22 } : Room) s m args below meth cd H locs 0 0 Q (F0 m 87 ls [.int s0]) := by
    intro  v_t_now_meadow_wind v_t_now_meadow_force v_t_now_meadow_rain s0 H locs ls hf hw hl
    exact hret1 s0 v_t_now_meadow_wind v_t_now_meadow_force v_t_now_meadow_rain _ _ _ _ hf hw dX10_set_87
  have B67 : ∀ (v_t_now_meadow_wind : Int32) (v_t_now_meadow_force : Int32) (v_t_now_meadow_rain : Int32) (s0 : Int32) (H : Heap) (locs : List Loc) (ls : Array Slot), fX10_set_b67 v_t_now_meadow_wind v_t_now_meadow_force v_t_now_meadow_rain s0 = some (rv, z_t_now_meadow_wind, z_t_now_meadow_force, z_t_now_meadow_rain) → gS E A s.heap (wX10_set E o_t o_t_firstImage o_t_secondImage o_t_pad o_t_hours o_t_growth o_t_flight o_t_draws o_t_now o_t_now_sights o_t_now_meadow a_t_now_meadow v_t_imagesKept v_t_now_meadow_families v_t_now_meadow_wind v_t_now_meadow_force v_t_now_meadow_rain v_t_now_meadow_lost v_t_now_meadow_hour) H locs → lv_has ls 3 [] → W p l e ({ frames := 1, cells := 0, slots := 0, locals := 22 } : Room) s m args below meth cd H locs 0 0 Q (F0 m 67 ls [.int s0]) := by
    intro  v_t_now_meadow_wind v_t_now_meadow_force v_t_now_meadow_rain s0 H locs ls hf hw hl
    exact hret1 s0 v_t_now_meadow_wind v_t_now_meadow_force v_t_now_meadow_rain _ _ _ _ hf hw dX10_set_67
  have B47 : ∀ (v_t_now_meadow_wind : Int32) (v_t_now_meadow_force : Int32) (v_t_now_meadow_rain : Int32) (s0 : Int32) (H : Heap) (locs : List Loc) (ls : Array Slot), fX10_set_b47 v_t_now_meadow_wind v_t_now_meadow_force v_t_now_meadow_rain s0 = some (rv, z_t_now_meadow_wind, z_t_now_meadow_force, z_t_now_meadow_rain) → gS E A s.heap (wX10_set E o_t o_t_firstImage o_t_secondImage o_t_pad o_t_hours o_t_growth o_t_flight o_t_draws o_t_now o_t_now_sights o_t_now_meadow a_t_now_meadow v_t_imagesKept v_t_now_meadow_families v_t_now_meadow_wind v_t_now_meadow_force v_t_now_meadow_rain v_t_now_meadow_lost v_t_now_meadow_hour) H locs → lv_has ls 3 [] → W p l e ({ frames := 1, cells := 0, slots := 0, locals := 22 } : Room) s m args below meth cd H locs 0 0 Q (F0 m 47 ls [.int s0]) := by
    intro  v_t_now_meadow_wind v_t_now_meadow_force v_t_now_meadow_rain s0 H locs ls hf hw hl
    exact hret1 s0 v_t_now_meadow_wind v_t_now_meadow_force v_t_now_meadow_rain _ _ _ _ hf hw dX10_set_47
  refine lv_iload_n hx hb dX10_set_0 rfl (lv_at hl 1 rfl) ?_
  by_cases hs1 : x1 = 0
  · have hf := g_t hs1 hf
    refine lv_tableIn (off := 27) (tgt := 28) hx hb dX10_set_1 (by rw [hs1]; decide) (by rw [hs1]; decide) (by rw [hs1] <;> rfl) (by decide) ?_
    refine lv_iload_n hx hb dX10_set_28 rfl (lv_at hl 2 rfl) ?_
    refine lv_iconst (v := 0) hx hb dX10_set_29 k_i0 ?_
    refine lv_iconst (v := 3) hx hb dX10_set_30 k_i3 ?_
    obtain ⟨r2, hc3, hf⟩ := gB_s hf
    refine g_ki (is := []) (w1 := (wX10_within E)) (ws' := (wX10_set E o_t o_t_firstImage o_t_secondImage o_t_pad o_t_hours o_t_growth o_t_flight o_t_draws o_t_now o_t_now_sights o_t_now_meadow a_t_now_meadow v_t_imagesKept v_t_now_meadow_families v_t_now_meadow_wind v_t_now_meadow_force v_t_now_meadow_rain v_t_now_meadow_lost v_t_now_meadow_hour)) hw hA (g_rS hx hb hml hG hown hK hw (is := []) rfl (by decide) (mX10_within l E x2 0 3 r2 hc3) wd_7_1 wd_7_2 wd_1_2 wd_7_3 hX10_within g_allgood ⟨rfl, rfl⟩ ⟨Nat.le_of_ble_eq_true rfl, Nat.le_of_ble_eq_true rfl⟩ ⟨Nat.zero_le _, Nat.zero_le _⟩ rfl hl.1 rfl (Nat.le_of_ble_eq_true rfl) dX10_set_31) rfl rfl rfl (fun H locs hw => ?_)
    refine lv_if_eq (tgt := 45) hx hb dX10_set_34 (by decide) (fun hc => ?_) (fun hc => ?_)
    · have hf := g_t hc hf
      refine lv_bipush (v := -2) hx hb dX10_set_45 k_bm2 ?_
      exact B47 v_t_now_meadow_wind v_t_now_meadow_force v_t_now_meadow_rain (-2) _ _ _ hf hw (lv_sub hl [] rfl)
    · have hf := g_f hc hf
      refine lv_aload_n hx hb dX10_set_37 rfl (lv_at hl 0 rfl) ?_
      refine lv_iload_n hx hb dX10_set_38 rfl (lv_at hl 2 rfl) ?_
      obtain ⟨r4, hc5, hf⟩ := gB_s hf
      refine g_ki (is := [0, 1, 2]) (w1 := (wX10_turnWind E o_t o_t_firstImage o_t_secondImage o_t_pad o_t_hours o_t_growth o_t_flight o_t_draws o_t_now o_t_now_sights o_t_now_meadow a_t_now_meadow v_t_imagesKept v_t_now_meadow_families r4.2 v_t_now_meadow_force v_t_now_meadow_rain v_t_now_meadow_lost v_t_now_meadow_hour)) (ws' := (wX10_set E o_t o_t_firstImage o_t_secondImage o_t_pad o_t_hours o_t_growth o_t_flight o_t_draws o_t_now o_t_now_sights o_t_now_meadow a_t_now_meadow v_t_imagesKept v_t_now_meadow_families r4.2 v_t_now_meadow_force v_t_now_meadow_rain v_t_now_meadow_lost v_t_now_meadow_hour)) hw hA (g_rV hx hb hml hG hown hK hw (is := [0, 1, 2]) rfl (by decide) (mX10_turnWind l E o_t o_t_firstImage o_t_secondImage o_t_pad o_t_hours o_t_growth o_t_flight o_t_draws o_t_now o_t_now_sights o_t_now_meadow a_t_now_meadow v_t_imagesKept v_t_now_meadow_families v_t_now_meadow_wind v_t_now_meadow_force v_t_now_meadow_rain v_t_now_meadow_lost v_t_now_meadow_hour x2 r4.1 r4.2 hc5) wd_10_20 wd_10_21 wd_10_22 wd_1_2 wd_10_23 hX10_turnWind g_allgood ⟨rfl, rfl⟩ ⟨Nat.le_of_ble_eq_true rfl, Nat.le_of_ble_eq_true rfl⟩ ⟨Nat.zero_le _, Nat.zero_le _⟩ (ci := 8) (q0 := 0) rfl rfl rfl rfl hl.1 rfl (Nat.le_of_ble_eq_true rfl) dX10_set_39) rfl rfl rfl (fun H locs hw => ?_)
      refine lv_goto (tgt := 47) hx hb dX10_set_42 (by decide) ?_
      exact B47 r4.2 v_t_now_meadow_force v_t_now_meadow_rain r4.1 _ _ _ hf hw (lv_sub hl [] rfl)
  have hf := g_f hs1 hf
  by_cases hs6 : x1 = 1
  · have hf := g_t hs6 hf
    refine lv_tableIn (off := 47) (tgt := 48) hx hb dX10_set_1 (by rw [hs6]; decide) (by rw [hs6]; decide) (by rw [hs6] <;> rfl) (by decide) ?_
    refine lv_iload_n hx hb dX10_set_48 rfl (lv_at hl 2 rfl) ?_
    refine lv_iconst (v := 0) hx hb dX10_set_49 k_i0 ?_
    refine lv_iconst (v := 5) hx hb dX10_set_50 k_i5 ?_
    obtain ⟨r7, hc8, hf⟩ := gB_s hf
    refine g_ki (is := []) (w1 := (wX10_within E)) (ws' := (wX10_set E o_t o_t_firstImage o_t_secondImage o_t_pad o_t_hours o_t_growth o_t_flight o_t_draws o_t_now o_t_now_sights o_t_now_meadow a_t_now_meadow v_t_imagesKept v_t_now_meadow_families v_t_now_meadow_wind v_t_now_meadow_force v_t_now_meadow_rain v_t_now_meadow_lost v_t_now_meadow_hour)) hw hA (g_rS hx hb hml hG hown hK hw (is := []) rfl (by decide) (mX10_within l E x2 0 5 r7 hc8) wd_7_1 wd_7_2 wd_1_2 wd_7_3 hX10_within g_allgood ⟨rfl, rfl⟩ ⟨Nat.le_of_ble_eq_true rfl, Nat.le_of_ble_eq_true rfl⟩ ⟨Nat.zero_le _, Nat.zero_le _⟩ rfl hl.1 rfl (Nat.le_of_ble_eq_true rfl) dX10_set_51) rfl rfl rfl (fun H locs hw => ?_)
    refine lv_if_eq (tgt := 65) hx hb dX10_set_54 (by decide) (fun hc => ?_) (fun hc => ?_)
    · have hf := g_t hc hf
      refine lv_bipush (v := -2) hx hb dX10_set_65 k_bm2 ?_
      exact B67 v_t_now_meadow_wind v_t_now_meadow_force v_t_now_meadow_rain (-2) _ _ _ hf hw (lv_sub hl [] rfl)
    · have hf := g_f hc hf
      refine lv_aload_n hx hb dX10_set_57 rfl (lv_at hl 0 rfl) ?_
      refine lv_iload_n hx hb dX10_set_58 rfl (lv_at hl 2 rfl) ?_
      obtain ⟨r9, hc10, hf⟩ := gB_s hf
      refine g_ki (is := [0, 1, 2]) (w1 := (wX10_changeForce E o_t o_t_firstImage o_t_secondImage o_t_pad o_t_hours o_t_growth o_t_flight o_t_draws o_t_now o_t_now_sights o_t_now_meadow a_t_now_meadow v_t_imagesKept v_t_now_meadow_families v_t_now_meadow_wind r9.2 v_t_now_meadow_rain v_t_now_meadow_lost v_t_now_meadow_hour)) (ws' := (wX10_set E o_t o_t_firstImage o_t_secondImage o_t_pad o_t_hours o_t_growth o_t_flight o_t_draws o_t_now o_t_now_sights o_t_now_meadow a_t_now_meadow v_t_imagesKept v_t_now_meadow_families v_t_now_meadow_wind r9.2 v_t_now_meadow_rain v_t_now_meadow_lost v_t_now_meadow_hour)) hw hA (g_rV hx hb hml hG hown hK hw (is := [0, 1, 2]) rfl (by decide) (mX10_changeForce l E o_t o_t_firstImage o_t_secondImage o_t_pad o_t_hours o_t_growth o_t_flight o_t_draws o_t_now o_t_now_sights o_t_now_meadow a_t_now_meadow v_t_imagesKept v_t_now_meadow_families v_t_now_meadow_wind v_t_now_meadow_force v_t_now_meadow_rain v_t_now_meadow_lost v_t_now_meadow_hour x2 r9.1 r9.2 hc10) wd_11_1 wd_11_2 wd_11_3 wd_1_2 wd_11_4 hX10_changeForce g_allgood ⟨rfl, rfl⟩ ⟨Nat.le_of_ble_eq_true rfl, Nat.le_of_ble_eq_true rfl⟩ ⟨Nat.zero_le _, Nat.zero_le _⟩ (ci := 8) (q0 := 0) rfl rfl rfl rfl hl.1 rfl (Nat.le_of_ble_eq_true rfl) dX10_set_59) rfl rfl rfl (fun H locs hw => ?_)
      refine lv_goto (tgt := 67) hx hb dX10_set_62 (by decide) ?_
      exact B67 v_t_now_meadow_wind r9.2 v_t_now_meadow_rain r9.1 _ _ _ hf hw (lv_sub hl [] rfl)
  have hf := g_f hs6 hf
  by_cases hs11 : x1 = 2
  · have hf := g_t hs11 hf
    refine lv_tableIn (off := 67) (tgt := 68) hx hb dX10_set_1 (by rw [hs11]; decide) (by rw [hs11]; decide) (by rw [hs11] <;> rfl) (by decide) ?_
    refine lv_iload_n hx hb dX10_set_68 rfl (lv_at hl 2 rfl) ?_
    refine lv_iconst (v := 0) hx hb dX10_set_69 k_i0 ?_
    refine lv_iconst (v := 1) hx hb dX10_set_70 k_i1 ?_
    obtain ⟨r12, hc13, hf⟩ := gB_s hf
    refine g_ki (is := []) (w1 := (wX10_within E)) (ws' := (wX10_set E o_t o_t_firstImage o_t_secondImage o_t_pad o_t_hours o_t_growth o_t_flight o_t_draws o_t_now o_t_now_sights o_t_now_meadow a_t_now_meadow v_t_imagesKept v_t_now_meadow_families v_t_now_meadow_wind v_t_now_meadow_force v_t_now_meadow_rain v_t_now_meadow_lost v_t_now_meadow_hour)) hw hA (g_rS hx hb hml hG hown hK hw (is := []) rfl (by decide) (mX10_within l E x2 0 1 r12 hc13) wd_7_1 wd_7_2 wd_1_2 wd_7_3 hX10_within g_allgood ⟨rfl, rfl⟩ ⟨Nat.le_of_ble_eq_true rfl, Nat.le_of_ble_eq_true rfl⟩ ⟨Nat.zero_le _, Nat.zero_le _⟩ rfl hl.1 rfl (Nat.le_of_ble_eq_true rfl) dX10_set_71) rfl rfl rfl (fun H locs hw => ?_)
    refine lv_if_eq (tgt := 85) hx hb dX10_set_74 (by decide) (fun hc => ?_) (fun hc => ?_)
    · have hf := g_t hc hf
      refine lv_bipush (v := -2) hx hb dX10_set_85 k_bm2 ?_
      exact B87 v_t_now_meadow_wind v_t_now_meadow_force v_t_now_meadow_rain (-2) _ _ _ hf hw (lv_sub hl [] rfl)
    · have hf := g_f hc hf
      refine lv_aload_n hx hb dX10_set_77 rfl (lv_at hl 0 rfl) ?_
      refine lv_iload_n hx hb dX10_set_78 rfl (lv_at hl 2 rfl) ?_
      obtain ⟨r14, hc15, hf⟩ := gB_s hf
      refine g_ki (is := [0, 1, 2]) (w1 := (wX10_changeRain E o_t o_t_firstImage o_t_secondImage o_t_pad o_t_hours o_t_growth o_t_flight o_t_draws o_t_now o_t_now_sights o_t_now_meadow a_t_now_meadow v_t_imagesKept v_t_now_meadow_families v_t_now_meadow_wind v_t_now_meadow_force r14.2 v_t_now_meadow_lost v_t_now_meadow_hour)) (ws' := (wX10_set E o_t o_t_firstImage o_t_secondImage o_t_pad o_t_hours o_t_growth o_t_flight o_t_draws o_t_now o_t_now_sights o_t_now_meadow a_t_now_meadow v_t_imagesKept v_t_now_meadow_families v_t_now_meadow_wind v_t_now_meadow_force r14.2 v_t_now_meadow_lost v_t_now_meadow_hour)) hw hA (g_rV hx hb hml hG hown hK hw (is := [0, 1, 2]) rfl (by decide) (mX10_changeRain l E o_t o_t_firstImage o_t_secondImage o_t_pad o_t_hours o_t_growth o_t_flight o_t_draws o_t_now o_t_now_sights o_t_now_meadow a_t_now_meadow v_t_imagesKept v_t_now_meadow_families v_t_now_meadow_wind v_t_now_meadow_force v_t_now_meadow_rain v_t_now_meadow_lost v_t_now_meadow_hour x2 r14.1 r14.2 hc15) wd_11_6 wd_11_7 wd_11_8 wd_1_2 wd_11_9 hX10_changeRain g_allgood ⟨rfl, rfl⟩ ⟨Nat.le_of_ble_eq_true rfl, Nat.le_of_ble_eq_true rfl⟩ ⟨Nat.zero_le _, Nat.zero_le _⟩ (ci := 8) (q0 := 0) rfl rfl rfl rfl hl.1 rfl (Nat.le_of_ble_eq_true rfl) dX10_set_79) rfl rfl rfl (fun H locs hw => ?_)
      refine lv_goto (tgt := 87) hx hb dX10_set_82 (by decide) ?_
      exact B87 v_t_now_meadow_wind v_t_now_meadow_force r14.2 r14.1 _ _ _ hf hw (lv_sub hl [] rfl)
  have hf := g_f hs11 hf
  have nhs1 := lv_neT hs1 (show (0 : Int32).toInt = 0 from by decide)
  have nhs6 := lv_neT hs6 (show (1 : Int32).toInt = 1 from by decide)
  have nhs11 := lv_neT hs11 (show (2 : Int32).toInt = 2 from by decide)
  refine lv_tableOut (tgt := 88) hx hb dX10_set_1 (by omega) (by decide) ?_
  refine lv_bipush (v := -2) hx hb dX10_set_88 k_bm2 ?_
  exact hret1 (-2) v_t_now_meadow_wind v_t_now_meadow_force v_t_now_meadow_rain _ _ _ _ hf hw dX10_set_90
