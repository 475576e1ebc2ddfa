theorem hX11_happen : yX11_happen.cls = RX11 ∧ yX11_happen.cls ≠ "java/lang/invoke/MethodHandle" ∧ yX11_happen.cls ≠ "java/lang/invoke/VarHandle" ∧ (parseMethodDescriptor yX11_happen.desc).map (fun d => d.parameters.length) = some 3 := by decide +kernel
set_option maxHeartbeats 4000000 in
set_option maxRecDepth 100000 in
theorem mX11_happen (l : Launch) (E : gE) (o_t : Nat) (a_t : (Nat → Nat)) (v_t_there : Int32) (v_t_wind : Int32) (v_t_force : Int32) (v_t_rains : Int32) (v_t_lost : Int32) (v_t_hours : Int32) (v_t_sights : Int32) (v_t_padMany : Int32) (v_t_acts : Int32) (v_t_blownMany : Int32) (v_t_badAct : Int32) (v_t_badWhy : Int32) (v_t_ruinAct : Int32) (v_t_ruinWho : Int32) (v_t_keptAt : Int32) (v_t_isWriting : Int32) (f_t_at : (Nat → Int32)) (f_t_stem : (Nat → Int32)) (f_t_blown : (Nat → Int32)) (f_t_heap : (Nat → Int32)) (x1 : Int32) (x2 : Int32) (x3 : Int32) (z_t_wind : Int32) (z_t_force : Int32) (z_t_rains : Int32) (z_t_lost : Int32) (z_t_hours : Int32) (z_t_blownMany : Int32) (z_t_stem : (Nat → Int32)) (z_t_blown : (Nat → Int32)) (z_t_heap : (Nat → Int32)) (hf : fX11_happen v_t_there v_t_wind v_t_force v_t_rains v_t_lost v_t_hours v_t_blownMany f_t_at f_t_stem f_t_blown f_t_heap x1 x2 x3 = some (z_t_wind, z_t_force, z_t_rains, z_t_lost, z_t_hours, z_t_blownMany, z_t_stem, z_t_blown, z_t_heap)) {sz : Nat} : gMv l yX11_happen (gW yX11_happen cX11_happen 4 none) ({ frames := 5, cells := 0, slots := 0, locals := 116 } : Room) E [.ref o_t, .int x1, .int x2, .int x3] (wX11_happen E o_t a_t v_t_there v_t_wind v_t_force v_t_rains v_t_lost v_t_hours v_t_sights v_t_padMany v_t_acts v_t_blownMany v_t_badAct v_t_badWhy v_t_ruinAct v_t_ruinWho v_t_keptAt v_t_isWriting f_t_at f_t_stem f_t_blown f_t_heap) sz (wX11_happen E o_t a_t v_t_there z_t_wind z_t_force z_t_rains z_t_lost z_t_hours v_t_sights v_t_padMany v_t_acts z_t_blownMany v_t_badAct v_t_badWhy v_t_ruinAct v_t_ruinWho v_t_keptAt v_t_isWriting f_t_at z_t_stem z_t_blown z_t_heap) := by
  refine g_openV (own := RX11) (by decide) rfl (Nat.le_of_ble_eq_true rfl) (fun p e s m args below meth cd Q A hx hb hml hown hG hK hA hret hw ls hl => ?_)
  have hl : lv_has ls 4 [(0, .ref o_t), (1, .int x1), (2, .int x2), (3, .int x3)] := hl
  have hret1 : ∀ (t : Int32 × Int32 × Int32 × Int32 × Int32 × Int32 × (Nat → Int32) × (Nat → Int32) × (Nat → Int32)) (H : Heap) (locs : List Loc) (pc : Nat) (ls : Array Slot), some t = some (z_t_wind, z_t_force, z_t_rains, z_t_lost, z_t_hours, z_t_blownMany, z_t_stem, z_t_blown, z_t_heap) → gS E A s.heap (wX11_happen E o_t a_t v_t_there t.1 t.2.1 t.2.2.1 t.2.2.2.1 t.2.2.2.2.1 v_t_sights v_t_padMany v_t_acts t.2.2.2.2.2.1 v_t_badAct v_t_badWhy v_t_ruinAct v_t_ruinWho v_t_keptAt v_t_isWriting f_t_at t.2.2.2.2.2.2.1 t.2.2.2.2.2.2.2.1 t.2.2.2.2.2.2.2.2) H locs → decode cX11_happen pc = .ok (.return_, 1) → W p l e ({ frames := 5, cells := 0, slots := 0, locals := 116 } : Room) s m args below meth cd H locs 0 0 Q (F0 m pc ls []) := by
    intro t H locs pc ls h hw hd
    obtain rfl : t = (z_t_wind, z_t_force, z_t_rains, z_t_lost, z_t_hours, z_t_blownMany, z_t_stem, z_t_blown, z_t_heap) := Option.some.inj h
    exact hret H locs pc ls hw hd
  have B118 : ∀ (v_t_wind : Int32) (v_t_force : Int32) (v_t_rains : Int32) (v_t_lost : Int32) (v_t_hours : Int32) (v_t_blownMany : Int32) (f_t_stem : (Nat → Int32)) (f_t_blown : (Nat → Int32)) (f_t_heap : (Nat → Int32)) (H : Heap) (locs : List Loc) (ls : Array Slot), fX11_happen_b118 v_t_wind v_t_force v_t_rains v_t_lost v_t_hours v_t_blownMany f_t_stem f_t_blown f_t_heap = some (z_t_wind, z_t_force, z_t_rains, z_t_lost, z_t_hours, z_t_blownMany, z_t_stem, z_t_blown, z_t_heap) → gS E A s.heap (wX11_happen E o_t a_t v_t_there v_t_wind v_t_force v_t_rains v_t_lost v_t_hours v_t_sights v_t_padMany v_t_acts v_t_blownMany v_t_badAct v_t_badWhy v_t_ruinAct v_t_ruinWho v_t_keptAt v_t_isWriting f_t_at f_t_stem f_t_blown f_t_heap) H locs → lv_has ls 4 [] → W p l e ({ frames := 5, cells := 0, slots := 0, locals := 116 } : Room) s m args below meth cd H locs 0 0 Q (F0 m 118 ls []) := by
    intro  v_t_wind v_t_force v_t_rains v_t_lost v_t_hours v_t_blownMany f_t_stem f_t_blown f_t_heap H locs ls hf hw hl
    exact hret1 (v_t_wind, v_t_force, v_t_rains, v_t_lost, v_t_hours, v_t_blownMany, f_t_stem, f_t_blown, f_t_heap) _ _ _ _ hf hw dX11_happen_118
  refine lv_iload_n hx hb dX11_happen_0 rfl (lv_at hl 1 rfl) ?_
  by_cases hs1 : x1 = 0
  · have hf := g_t hs1 hf
    refine lv_tableIn (off := 39) (tgt := 40) hx hb dX11_happen_1 (by rw [hs1]; decide) (by rw [hs1]; decide) (by rw [hs1] <;> rfl) (by decide) ?_
    refine lv_aload_n hx hb dX11_happen_40 rfl (lv_at hl 0 rfl) ?_
    refine g_get hx hb hG hown hK hw inlX11 (ci := 9) rfl 0 4 (Nat.le_of_ble_eq_true rfl) rfl rfl wd_6_0 dX11_happen_41 ?_
    refine lv_iload_n hx hb dX11_happen_44 rfl (lv_at hl 2 rfl) ?_
    refine lv_dup2_11 hx hb dX11_happen_45 rfl rfl ?_
    obtain ⟨hi2, hf⟩ := gA_s hf
    refine g_iald hx hb hK hw 3 rfl hi2 dX11_happen_46 ?_
    refine lv_iload_n hx hb dX11_happen_47 rfl (lv_at hl 3 rfl) ?_
    refine lv_iadd hx hb dX11_happen_48 ?_
    obtain ⟨hi3, hf⟩ := gA_s hf
    refine g_iast (ws' := (wX11_happen E o_t a_t v_t_there v_t_wind v_t_force v_t_rains v_t_lost v_t_hours v_t_sights v_t_padMany v_t_acts v_t_blownMany v_t_badAct v_t_badWhy v_t_ruinAct v_t_ruinWho v_t_keptAt v_t_isWriting f_t_at f_t_stem (upd f_t_blown (Int32.toNatClampNeg x2) ((f_t_blown (Int32.toNatClampNeg x2)) + x3)) f_t_heap)) hx hb hK hw 3 rfl hi3 rfl dX11_happen_49 (fun H locs hw => ?_)
    refine lv_aload_n hx hb dX11_happen_50 rfl (lv_at hl 0 rfl) ?_
    refine lv_iload_n hx hb dX11_happen_51 rfl (lv_at hl 2 rfl) ?_
    refine lv_iload_n hx hb dX11_happen_52 rfl (lv_at hl 3 rfl) ?_
    obtain ⟨⟨r4_0, r4_1, r4_2, r4_3⟩, hc5, hf⟩ := gB_s hf
    refine g_kv (is := [0, 1, 2, 4]) (isR := [3]) (nW := 5) (w1 := (wX11_blow E o_t a_t v_t_there v_t_wind v_t_force v_t_rains r4_0 v_t_hours v_t_sights v_t_padMany v_t_acts r4_1 v_t_badAct v_t_badWhy v_t_ruinAct v_t_ruinWho v_t_keptAt v_t_isWriting f_t_at r4_2 r4_3)) (ws' := (wX11_happen E o_t a_t v_t_there v_t_wind v_t_force v_t_rains r4_0 v_t_hours v_t_sights v_t_padMany v_t_acts r4_1 v_t_badAct v_t_badWhy v_t_ruinAct v_t_ruinWho v_t_keptAt v_t_isWriting f_t_at r4_2 (upd f_t_blown (Int32.toNatClampNeg x2) ((f_t_blown (Int32.toNatClampNeg x2)) + x3)) r4_3)) hw hA (g_rV hx hb hml hG hown hK hw (is := [0, 1, 2, 4]) rfl (by decide) (mX11_blow l E o_t a_t v_t_there v_t_wind v_t_force v_t_rains v_t_lost v_t_hours v_t_sights v_t_padMany v_t_acts v_t_blownMany v_t_badAct v_t_badWhy v_t_ruinAct v_t_ruinWho v_t_keptAt v_t_isWriting f_t_at f_t_stem f_t_heap x2 x3 r4_0 r4_1 r4_2 r4_3 hc5) wd_20_16 wd_20_17 wd_20_18 wd_1_5 wd_20_19 hX11_blow g_allgood ⟨rfl, rfl⟩ ⟨Nat.le_of_ble_eq_true rfl, Nat.le_of_ble_eq_true rfl⟩ ⟨Nat.zero_le _, Nat.zero_le _⟩ (ci := 9) (q0 := 0) rfl rfl rfl rfl hl.1 rfl (Nat.le_of_ble_eq_true rfl) dX11_happen_53) rfl (g_had [o_t, (a_t 1), (a_t 2), (a_t 5)] rfl rfl) rfl (⟨⟨_, rfl, rfl⟩, trivial⟩) rfl rfl (by decide) (fun H locs hw => ?_)
    refine lv_goto (tgt := 118) hx hb dX11_happen_56 (by decide) ?_
    exact B118 v_t_wind v_t_force v_t_rains r4_0 v_t_hours r4_1 r4_2 (upd f_t_blown (Int32.toNatClampNeg x2) ((f_t_blown (Int32.toNatClampNeg x2)) + x3)) r4_3 _ _ _ hf hw (lv_sub hl [] rfl)
  have hf := g_f hs1 hf
  by_cases hs6 : x1 = 1
  · have hf := g_t hs6 hf
    refine lv_tableIn (off := 58) (tgt := 59) hx hb dX11_happen_1 (by rw [hs6]; decide) (by rw [hs6]; decide) (by rw [hs6] <;> rfl) (by decide) ?_
    refine lv_aload_n hx hb dX11_happen_59 rfl (lv_at hl 0 rfl) ?_
    refine lv_iload_n hx hb dX11_happen_60 rfl (lv_at hl 2 rfl) ?_
    refine lv_aload_n hx hb dX11_happen_61 rfl (lv_at hl 0 rfl) ?_
    refine g_get hx hb hG hown hK hw inlX11 (ci := 9) rfl 0 2 (Nat.le_of_ble_eq_true rfl) rfl rfl wd_5_22 dX11_happen_62 ?_
    refine lv_iload_n hx hb dX11_happen_65 rfl (lv_at hl 2 rfl) ?_
    obtain ⟨hi7, hf⟩ := gA_s hf
    refine g_iald hx hb hK hw 2 rfl hi7 dX11_happen_66 ?_
    obtain ⟨⟨r8_0, r8_1, r8_2, r8_3⟩, hc9, hf⟩ := gB_s hf
    refine g_kv (is := [0, 1, 2, 4]) (isR := [3]) (nW := 5) (w1 := (wX11_blow E o_t a_t v_t_there v_t_wind v_t_force v_t_rains r8_0 v_t_hours v_t_sights v_t_padMany v_t_acts r8_1 v_t_badAct v_t_badWhy v_t_ruinAct v_t_ruinWho v_t_keptAt v_t_isWriting f_t_at r8_2 r8_3)) (ws' := (wX11_happen E o_t a_t v_t_there v_t_wind v_t_force v_t_rains r8_0 v_t_hours v_t_sights v_t_padMany v_t_acts r8_1 v_t_badAct v_t_badWhy v_t_ruinAct v_t_ruinWho v_t_keptAt v_t_isWriting f_t_at r8_2 f_t_blown r8_3)) hw hA (g_rV hx hb hml hG hown hK hw (is := [0, 1, 2, 4]) rfl (by decide) (mX11_blow l E o_t a_t v_t_there v_t_wind v_t_force v_t_rains v_t_lost v_t_hours v_t_sights v_t_padMany v_t_acts v_t_blownMany v_t_badAct v_t_badWhy v_t_ruinAct v_t_ruinWho v_t_keptAt v_t_isWriting f_t_at f_t_stem f_t_heap x2 (f_t_stem (Int32.toNatClampNeg x2)) r8_0 r8_1 r8_2 r8_3 hc9) wd_20_16 wd_20_17 wd_20_18 wd_1_5 wd_20_19 hX11_blow g_allgood ⟨rfl, rfl⟩ ⟨Nat.le_of_ble_eq_true rfl, Nat.le_of_ble_eq_true rfl⟩ ⟨Nat.zero_le _, Nat.zero_le _⟩ (ci := 9) (q0 := 0) rfl rfl rfl rfl hl.1 rfl (Nat.le_of_ble_eq_true rfl) dX11_happen_67) rfl (g_had [o_t, (a_t 1), (a_t 2), (a_t 5)] rfl rfl) rfl (⟨⟨_, rfl, rfl⟩, trivial⟩) rfl rfl (by decide) (fun H locs hw => ?_)
    refine lv_goto (tgt := 118) hx hb dX11_happen_70 (by decide) ?_
    exact B118 v_t_wind v_t_force v_t_rains r8_0 v_t_hours r8_1 r8_2 f_t_blown r8_3 _ _ _ hf hw (lv_sub hl [] rfl)
  have hf := g_f hs6 hf
  by_cases hs10 : x1 = 2
  · have hf := g_t hs10 hf
    refine lv_tableIn (off := 72) (tgt := 73) hx hb dX11_happen_1 (by rw [hs10]; decide) (by rw [hs10]; decide) (by rw [hs10] <;> rfl) (by decide) ?_
    refine lv_aload_n hx hb dX11_happen_73 rfl (lv_at hl 0 rfl) ?_
    refine lv_iload_n hx hb dX11_happen_74 rfl (lv_at hl 2 rfl) ?_
    obtain ⟨⟨r11_0, r11_1⟩, hc12, hf⟩ := gB_s hf
    refine g_kv (is := [0, 1, 2, 4]) (isR := [3]) (nW := 5) (w1 := (wX11_mow E o_t a_t v_t_there v_t_wind v_t_force v_t_rains v_t_lost v_t_hours v_t_sights v_t_padMany v_t_acts v_t_blownMany v_t_badAct v_t_badWhy v_t_ruinAct v_t_ruinWho v_t_keptAt v_t_isWriting f_t_at r11_0 r11_1)) (ws' := (wX11_happen E o_t a_t v_t_there v_t_wind v_t_force v_t_rains v_t_lost v_t_hours v_t_sights v_t_padMany v_t_acts v_t_blownMany v_t_badAct v_t_badWhy v_t_ruinAct v_t_ruinWho v_t_keptAt v_t_isWriting f_t_at r11_0 f_t_blown r11_1)) hw hA (g_rV hx hb hml hG hown hK hw (is := [0, 1, 2, 4]) rfl (by decide) (mX11_mow l E o_t a_t v_t_there v_t_wind v_t_force v_t_rains v_t_lost v_t_hours v_t_sights v_t_padMany v_t_acts v_t_blownMany v_t_badAct v_t_badWhy v_t_ruinAct v_t_ruinWho v_t_keptAt v_t_isWriting f_t_at f_t_stem f_t_heap x2 r11_0 r11_1 hc12) wd_21_9 wd_21_10 wd_21_11 wd_1_5 wd_21_12 hX11_mow g_allgood ⟨rfl, rfl⟩ ⟨Nat.le_of_ble_eq_true rfl, Nat.le_of_ble_eq_true rfl⟩ ⟨Nat.zero_le _, Nat.zero_le _⟩ (ci := 9) (q0 := 0) rfl rfl rfl rfl hl.1 rfl (Nat.le_of_ble_eq_true rfl) dX11_happen_75) rfl (g_had [o_t, (a_t 1), (a_t 2), (a_t 5)] rfl rfl) rfl (⟨⟨_, rfl, rfl⟩, trivial⟩) rfl rfl (by decide) (fun H locs hw => ?_)
    refine lv_goto (tgt := 118) hx hb dX11_happen_78 (by decide) ?_
    exact B118 v_t_wind v_t_force v_t_rains v_t_lost v_t_hours v_t_blownMany r11_0 f_t_blown r11_1 _ _ _ hf hw (lv_sub hl [] rfl)
  have hf := g_f hs10 hf
  by_cases hs13 : x1 = 3
  · have hf := g_t hs13 hf
    refine lv_tableIn (off := 80) (tgt := 81) hx hb dX11_happen_1 (by rw [hs13]; decide) (by rw [hs13]; decide) (by rw [hs13] <;> rfl) (by decide) ?_
    refine lv_aload_n hx hb dX11_happen_81 rfl (lv_at hl 0 rfl) ?_
    refine lv_iload_n hx hb dX11_happen_82 rfl (lv_at hl 2 rfl) ?_
    refine g_put (ws' := (wX11_happen E o_t a_t v_t_there x2 v_t_force v_t_rains v_t_lost v_t_hours v_t_sights v_t_padMany v_t_acts v_t_blownMany v_t_badAct v_t_badWhy v_t_ruinAct v_t_ruinWho v_t_keptAt v_t_isWriting f_t_at f_t_stem f_t_blown f_t_heap)) hx hb hG hown hK hw inlX11 tyX11_ok nmX11 (ci := 9) rfl 0 6 (Nat.le_of_ble_eq_true rfl) rfl wd_11_17 rfl rfl rfl (Nat.le_of_ble_eq_true rfl) rfl dX11_happen_83 (fun H locs hw => ?_)
    refine lv_aload_n hx hb dX11_happen_86 rfl (lv_at hl 0 rfl) ?_
    refine lv_iload_n hx hb dX11_happen_87 rfl (lv_at hl 3 rfl) ?_
    refine g_put (ws' := (wX11_happen E o_t a_t v_t_there x2 x3 v_t_rains v_t_lost v_t_hours v_t_sights v_t_padMany v_t_acts v_t_blownMany v_t_badAct v_t_badWhy v_t_ruinAct v_t_ruinWho v_t_keptAt v_t_isWriting f_t_at f_t_stem f_t_blown f_t_heap)) hx hb hG hown hK hw inlX11 tyX11_ok nmX11 (ci := 9) rfl 0 7 (Nat.le_of_ble_eq_true rfl) rfl wd_6_19 rfl rfl rfl (Nat.le_of_ble_eq_true rfl) rfl dX11_happen_88 (fun H locs hw => ?_)
    refine lv_goto (tgt := 118) hx hb dX11_happen_91 (by decide) ?_
    exact B118 x2 x3 v_t_rains v_t_lost v_t_hours v_t_blownMany f_t_stem f_t_blown f_t_heap _ _ _ hf hw (lv_sub hl [] rfl)
  have hf := g_f hs13 hf
  by_cases hs14 : x1 = 4
  · have hf := g_t hs14 hf
    refine lv_tableIn (off := 93) (tgt := 94) hx hb dX11_happen_1 (by rw [hs14]; decide) (by rw [hs14]; decide) (by rw [hs14] <;> rfl) (by decide) ?_
    refine lv_aload_n hx hb dX11_happen_94 rfl (lv_at hl 0 rfl) ?_
    refine lv_iconst (v := 1) hx hb dX11_happen_95 k_i1 ?_
    refine lv_aload_n hx hb dX11_happen_96 rfl (lv_at hl 0 rfl) ?_
    refine g_get hx hb hG hown hK hw inlX11 (ci := 9) rfl 0 8 (Nat.le_of_ble_eq_true rfl) rfl rfl wd_11_18 dX11_happen_97 ?_
    refine lv_isub hx hb dX11_happen_100 ?_
    refine g_put (ws' := (wX11_happen E o_t a_t v_t_there v_t_wind v_t_force (1 - v_t_rains) v_t_lost v_t_hours v_t_sights v_t_padMany v_t_acts v_t_blownMany v_t_badAct v_t_badWhy v_t_ruinAct v_t_ruinWho v_t_keptAt v_t_isWriting f_t_at f_t_stem f_t_blown f_t_heap)) hx hb hG hown hK hw inlX11 tyX11_ok nmX11 (ci := 9) rfl 0 8 (Nat.le_of_ble_eq_true rfl) rfl wd_11_18 rfl rfl rfl (Nat.le_of_ble_eq_true rfl) rfl dX11_happen_101 (fun H locs hw => ?_)
    refine lv_goto (tgt := 118) hx hb dX11_happen_104 (by decide) ?_
    exact B118 v_t_wind v_t_force (1 - v_t_rains) v_t_lost v_t_hours v_t_blownMany f_t_stem f_t_blown f_t_heap _ _ _ hf hw (lv_sub hl [] rfl)
  have hf := g_f hs14 hf
  by_cases hs15 : x1 = 5
  · have hf := g_t hs15 hf
    refine lv_tableIn (off := 106) (tgt := 107) hx hb dX11_happen_1 (by rw [hs15]; decide) (by rw [hs15]; decide) (by rw [hs15] <;> rfl) (by decide) ?_
    refine lv_aload_n hx hb dX11_happen_107 rfl (lv_at hl 0 rfl) ?_
    obtain ⟨⟨r16_0, r16_1⟩, hc17, hf⟩ := gB_s hf
    refine g_kv (is := [0, 4]) (isR := [1, 2, 3]) (nW := 5) (w1 := (wX11_eat E o_t a_t v_t_there v_t_wind v_t_force v_t_rains r16_0 v_t_hours v_t_sights v_t_padMany v_t_acts v_t_blownMany v_t_badAct v_t_badWhy v_t_ruinAct v_t_ruinWho v_t_keptAt v_t_isWriting r16_1)) (ws' := (wX11_happen E o_t a_t v_t_there v_t_wind v_t_force v_t_rains r16_0 v_t_hours v_t_sights v_t_padMany v_t_acts v_t_blownMany v_t_badAct v_t_badWhy v_t_ruinAct v_t_ruinWho v_t_keptAt v_t_isWriting f_t_at f_t_stem f_t_blown r16_1)) hw hA (g_rV hx hb hml hG hown hK hw (is := [0, 4]) rfl (by decide) (mX11_eat l E o_t a_t v_t_there v_t_wind v_t_force v_t_rains v_t_lost v_t_hours v_t_sights v_t_padMany v_t_acts v_t_blownMany v_t_badAct v_t_badWhy v_t_ruinAct v_t_ruinWho v_t_keptAt v_t_isWriting f_t_heap r16_0 r16_1 hc17) wd_21_13 wd_21_14 wd_21_15 wd_1_5 wd_21_16 hX11_eat g_allgood ⟨rfl, rfl⟩ ⟨Nat.le_of_ble_eq_true rfl, Nat.le_of_ble_eq_true rfl⟩ ⟨Nat.zero_le _, Nat.zero_le _⟩ (ci := 9) (q0 := 0) rfl rfl rfl rfl hl.1 rfl (Nat.le_of_ble_eq_true rfl) dX11_happen_108) rfl (g_had [o_t, (a_t 5)] rfl rfl) rfl (⟨⟨_, rfl, rfl⟩, ⟨⟨_, rfl, rfl⟩, ⟨⟨_, rfl, rfl⟩, trivial⟩⟩⟩) rfl rfl (by decide) (fun H locs hw => ?_)
    refine lv_goto (tgt := 118) hx hb dX11_happen_111 (by decide) ?_
    exact B118 v_t_wind v_t_force v_t_rains r16_0 v_t_hours v_t_blownMany f_t_stem f_t_blown r16_1 _ _ _ hf hw (lv_sub hl [] rfl)
  have hf := g_f hs15 hf
  have nhs1 := lv_neT hs1 (show (0 : Int32).toInt = 0 from by decide)
  have nhs6 := lv_neT hs6 (show (1 : Int32).toInt = 1 from by decide)
  have nhs10 := lv_neT hs10 (show (2 : Int32).toInt = 2 from by decide)
  have nhs13 := lv_neT hs13 (show (3 : Int32).toInt = 3 from by decide)
  have nhs14 := lv_neT hs14 (show (4 : Int32).toInt = 4 from by decide)
  have nhs15 := lv_neT hs15 (show (5 : Int32).toInt = 5 from by decide)
  refine lv_tableOut (tgt := 114) hx hb dX11_happen_1 (by omega) (by decide) ?_
  refine lv_aload_n hx hb dX11_happen_114 rfl (lv_at hl 0 rfl) ?_
  obtain ⟨⟨r18_0, r18_1⟩, hc19, hf⟩ := gB_s hf
  refine g_kv (is := [0, 3]) (isR := [1, 2, 4]) (nW := 5) (w1 := (wX11_passHour E o_t a_t v_t_there v_t_wind v_t_force v_t_rains v_t_lost r18_0 v_t_sights v_t_padMany v_t_acts v_t_blownMany v_t_badAct v_t_badWhy v_t_ruinAct v_t_ruinWho v_t_keptAt v_t_isWriting r18_1)) (ws' := (wX11_happen E o_t a_t v_t_there v_t_wind v_t_force v_t_rains v_t_lost r18_0 v_t_sights v_t_padMany v_t_acts v_t_blownMany v_t_badAct v_t_badWhy v_t_ruinAct v_t_ruinWho v_t_keptAt v_t_isWriting f_t_at f_t_stem r18_1 f_t_heap)) hw hA (g_rV hx hb hml hG hown hK hw (is := [0, 3]) rfl (by decide) (mX11_passHour l E o_t a_t v_t_there v_t_wind v_t_force v_t_rains v_t_lost v_t_hours v_t_sights v_t_padMany v_t_acts v_t_blownMany v_t_badAct v_t_badWhy v_t_ruinAct v_t_ruinWho v_t_keptAt v_t_isWriting f_t_blown r18_0 r18_1 hc19) wd_21_17 wd_21_18 wd_21_19 wd_1_5 wd_21_20 hX11_passHour g_allgood ⟨rfl, rfl⟩ ⟨Nat.le_of_ble_eq_true rfl, Nat.le_of_ble_eq_true rfl⟩ ⟨Nat.zero_le _, Nat.zero_le _⟩ (ci := 9) (q0 := 0) rfl rfl rfl rfl hl.1 rfl (Nat.le_of_ble_eq_true rfl) dX11_happen_115) rfl (g_had [o_t, (a_t 4)] rfl rfl) rfl (⟨⟨_, rfl, rfl⟩, ⟨⟨_, rfl, rfl⟩, ⟨⟨_, rfl, rfl⟩, trivial⟩⟩⟩) rfl rfl (by decide) (fun H locs hw => ?_)
  exact B118 v_t_wind v_t_force v_t_rains v_t_lost r18_0 v_t_blownMany f_t_stem r18_1 f_t_heap _ _ _ hf hw (lv_sub hl [] rfl)
theorem hX11_keepNow : yX11_keepNow.cls = RX11 ∧ yX11_keepNow.cls ≠ "java/lang/invoke/MethodHandle" ∧ yX11_keepNow.cls ≠ "java/lang/invoke/VarHandle" ∧ (parseMethodDescriptor yX11_keepNow.desc).map (fun d => d.parameters.length) = some 0 := by decide +kernel
set_option maxHeartbeats 4000000 in
set_option maxRecDepth 100000 in
theorem mX11_keepNow (l : Launch) (E : gE) (o_t : Nat) (a_t : (Nat → Nat)) (v_t_there : Int32) (v_t_wind : Int32) (v_t_force : Int32) (v_t_rains : Int32) (v_t_lost : Int32) (v_t_hours : Int32) (v_t_sights : Int32) (v_t_padMany : Int32) (v_t_acts : Int32) (v_t_blownMany : Int32) (v_t_badAct : Int32) (v_t_badWhy : Int32) (v_t_ruinAct : Int32) (v_t_ruinWho : Int32) (v_t_keptAt : Int32) (v_t_isWriting : Int32) (f_t_stem : (Nat → Int32)) (f_t_blown : (Nat → Int32)) (f_t_heap : (Nat → Int32)) (f_t_had : (Nat → Int32)) (z_t_had : (Nat → Int32)) (hf : fX11_keepNow v_t_wind v_t_force v_t_rains v_t_lost v_t_hours f_t_stem f_t_blown f_t_heap f_t_had = some z_t_had) {sz : Nat} : gMv l yX11_keepNow (gW yX11_keepNow cX11_keepNow 2 none) ({ frames := 0, cells := 0, slots := 0, locals := 0 } : Room) E [.ref o_t] (wX11_keepNow E o_t a_t v_t_there v_t_wind v_t_force v_t_rains v_t_lost v_t_hours v_t_sights v_t_padMany v_t_acts v_t_blownMany v_t_badAct v_t_badWhy v_t_ruinAct v_t_ruinWho v_t_keptAt v_t_isWriting f_t_stem f_t_blown f_t_heap f_t_had) sz (wX11_keepNow E o_t a_t v_t_there v_t_wind v_t_force v_t_rains v_t_lost v_t_hours v_t_sights v_t_padMany v_t_acts v_t_blownMany v_t_badAct v_t_badWhy v_t_ruinAct v_t_ruinWho v_t_keptAt v_t_isWriting f_t_stem f_t_blown f_t_heap z_t_had) := by
  refine g_openV (own := RX11) (by decide) rfl (Nat.le_of_ble_eq_true rfl) (fun p e s m args below meth cd Q A hx hb hml hown hG hK hA hret hw ls hl => ?_)
  have hl : lv_has ls 2 [(0, .ref o_t)] := hl
  have hret1 : ∀ (t : (Nat → Int32)) (H : Heap) (locs : List Loc) (pc : Nat) (ls : Array Slot), some t = some z_t_had → gS E A s.heap (wX11_keepNow E o_t a_t v_t_there v_t_wind v_t_force v_t_rains v_t_lost v_t_hours v_t_sights v_t_padMany v_t_acts v_t_blownMany v_t_badAct v_t_badWhy v_t_ruinAct v_t_ruinWho v_t_keptAt v_t_isWriting f_t_stem f_t_blown f_t_heap t) H locs → decode cX11_keepNow pc = .ok (.return_, 1) → W p l e ({ frames := 0, cells := 0, slots := 0, locals := 0 } : Room) s m args below meth cd H locs 0 0 Q (F0 m pc ls []) := by
    intro t H locs pc ls h hw hd
    obtain rfl : t = z_t_had := Option.some.inj h
    exact hret H locs pc ls hw hd
  have B43 : ∀ n : Nat, ∀ (f_t_had : (Nat → Int32)) (x1 : Int32) (H : Heap) (locs : List Loc) (ls : Array Slot), fX11_keepNow_b43 v_t_wind v_t_force v_t_rains v_t_lost v_t_hours f_t_heap n f_t_had x1 = some z_t_had → gS E A s.heap (wX11_keepNow E o_t a_t v_t_there v_t_wind v_t_force v_t_rains v_t_lost v_t_hours v_t_sights v_t_padMany v_t_acts v_t_blownMany v_t_badAct v_t_badWhy v_t_ruinAct v_t_ruinWho v_t_keptAt v_t_isWriting f_t_stem f_t_blown f_t_heap f_t_had) H locs → lv_has ls 2 [(0, .ref o_t), (1, .int x1)] → W p l e ({ frames := 0, cells := 0, slots := 0, locals := 0 } : Room) s m args below meth cd H locs 0 0 Q (F0 m 43 ls []) := by
    intro n
    induction n with
    | zero => intro f_t_had x1 H locs ls hf hw hl; exact g_no hf
    | succ n ih =>
      intro f_t_had x1 H locs ls hf hw hl
      refine lv_iload_n hx hb dX11_keepNow_43 rfl (lv_at hl 1 rfl) ?_
      refine lv_bipush (v := 36) hx hb dX11_keepNow_44 k_b36 ?_
      refine lv_icmp_ge (tgt := 70) hx hb dX11_keepNow_46 (by decide) (fun hc => ?_) (fun hc => ?_)
      · have hf := g_t hc hf
        refine lv_aload_n hx hb dX11_keepNow_70 rfl (lv_at hl 0 rfl) ?_
        refine g_get hx hb hG hown hK hw inlX11 (ci := 9) rfl 0 21 (Nat.le_of_ble_eq_true rfl) rfl rfl wd_6_8 dX11_keepNow_71 ?_
        refine lv_bipush (v := 48) hx hb dX11_keepNow_74 k_b48 ?_
        refine lv_aload_n hx hb dX11_keepNow_76 rfl (lv_at hl 0 rfl) ?_
        refine g_get hx hb hG hown hK hw inlX11 (ci := 9) rfl 0 6 (Nat.le_of_ble_eq_true rfl) rfl rfl wd_11_17 dX11_keepNow_77 ?_
        obtain ⟨hi1, hf⟩ := gA_s hf
        refine g_iast (ws' := (wX11_keepNow E o_t a_t v_t_there v_t_wind v_t_force v_t_rains v_t_lost v_t_hours v_t_sights v_t_padMany v_t_acts v_t_blownMany v_t_badAct v_t_badWhy v_t_ruinAct v_t_ruinWho v_t_keptAt v_t_isWriting f_t_stem f_t_blown f_t_heap (upd f_t_had (Int32.toNatClampNeg 48) v_t_wind))) hx hb hK hw 4 rfl hi1 rfl dX11_keepNow_80 (fun H locs hw => ?_)
        refine lv_aload_n hx hb dX11_keepNow_81 rfl (lv_at hl 0 rfl) ?_
        refine g_get hx hb hG hown hK hw inlX11 (ci := 9) rfl 0 21 (Nat.le_of_ble_eq_true rfl) rfl rfl wd_6_8 dX11_keepNow_82 ?_
        refine lv_bipush (v := 49) hx hb dX11_keepNow_85 k_b49 ?_
        refine lv_aload_n hx hb dX11_keepNow_87 rfl (lv_at hl 0 rfl) ?_
        refine g_get hx hb hG hown hK hw inlX11 (ci := 9) rfl 0 7 (Nat.le_of_ble_eq_true rfl) rfl rfl wd_6_19 dX11_keepNow_88 ?_
        obtain ⟨hi2, hf⟩ := gA_s hf
        refine g_iast (ws' := (wX11_keepNow E o_t a_t v_t_there v_t_wind v_t_force v_t_rains v_t_lost v_t_hours v_t_sights v_t_padMany v_t_acts v_t_blownMany v_t_badAct v_t_badWhy v_t_ruinAct v_t_ruinWho v_t_keptAt v_t_isWriting f_t_stem f_t_blown f_t_heap (upd (upd f_t_had (Int32.toNatClampNeg 48) v_t_wind) (Int32.toNatClampNeg 49) v_t_force))) hx hb hK hw 4 rfl hi2 rfl dX11_keepNow_91 (fun H locs hw => ?_)
        refine lv_aload_n hx hb dX11_keepNow_92 rfl (lv_at hl 0 rfl) ?_
        refine g_get hx hb hG hown hK hw inlX11 (ci := 9) rfl 0 21 (Nat.le_of_ble_eq_true rfl) rfl rfl wd_6_8 dX11_keepNow_93 ?_
        refine lv_bipush (v := 50) hx hb dX11_keepNow_96 k_b50 ?_
        refine lv_aload_n hx hb dX11_keepNow_98 rfl (lv_at hl 0 rfl) ?_
        refine g_get hx hb hG hown hK hw inlX11 (ci := 9) rfl 0 8 (Nat.le_of_ble_eq_true rfl) rfl rfl wd_11_18 dX11_keepNow_99 ?_
        obtain ⟨hi3, hf⟩ := gA_s hf
        refine g_iast (ws' := (wX11_keepNow E o_t a_t v_t_there v_t_wind v_t_force v_t_rains v_t_lost v_t_hours v_t_sights v_t_padMany v_t_acts v_t_blownMany v_t_badAct v_t_badWhy v_t_ruinAct v_t_ruinWho v_t_keptAt v_t_isWriting f_t_stem f_t_blown f_t_heap (upd (upd (upd f_t_had (Int32.toNatClampNeg 48) v_t_wind) (Int32.toNatClampNeg 49) v_t_force) (Int32.toNatClampNeg 50) v_t_rains))) hx hb hK hw 4 rfl hi3 rfl dX11_keepNow_102 (fun H locs hw => ?_)
        refine lv_aload_n hx hb dX11_keepNow_103 rfl (lv_at hl 0 rfl) ?_
        refine g_get hx hb hG hown hK hw inlX11 (ci := 9) rfl 0 21 (Nat.le_of_ble_eq_true rfl) rfl rfl wd_6_8 dX11_keepNow_104 ?_
        refine lv_bipush (v := 51) hx hb dX11_keepNow_107 k_b51 ?_
        refine lv_aload_n hx hb dX11_keepNow_109 rfl (lv_at hl 0 rfl) ?_
        refine g_get hx hb hG hown hK hw inlX11 (ci := 9) rfl 0 9 (Nat.le_of_ble_eq_true rfl) rfl rfl wd_10_5 dX11_keepNow_110 ?_
        obtain ⟨hi4, hf⟩ := gA_s hf
        refine g_iast (ws' := (wX11_keepNow E o_t a_t v_t_there v_t_wind v_t_force v_t_rains v_t_lost v_t_hours v_t_sights v_t_padMany v_t_acts v_t_blownMany v_t_badAct v_t_badWhy v_t_ruinAct v_t_ruinWho v_t_keptAt v_t_isWriting f_t_stem f_t_blown f_t_heap (upd (upd (upd (upd f_t_had (Int32.toNatClampNeg 48) v_t_wind) (Int32.toNatClampNeg 49) v_t_force) (Int32.toNatClampNeg 50) v_t_rains) (Int32.toNatClampNeg 51) v_t_lost))) hx hb hK hw 4 rfl hi4 rfl dX11_keepNow_113 (fun H locs hw => ?_)
        refine lv_aload_n hx hb dX11_keepNow_114 rfl (lv_at hl 0 rfl) ?_
        refine g_get hx hb hG hown hK hw inlX11 (ci := 9) rfl 0 21 (Nat.le_of_ble_eq_true rfl) rfl rfl wd_6_8 dX11_keepNow_115 ?_
        refine lv_bipush (v := 52) hx hb dX11_keepNow_118 k_b52 ?_
        refine lv_aload_n hx hb dX11_keepNow_120 rfl (lv_at hl 0 rfl) ?_
        refine g_get hx hb hG hown hK hw inlX11 (ci := 9) rfl 0 10 (Nat.le_of_ble_eq_true rfl) rfl rfl wd_19_12 dX11_keepNow_121 ?_
        obtain ⟨hi5, hf⟩ := gA_s hf
        refine g_iast (ws' := (wX11_keepNow E o_t a_t v_t_there v_t_wind v_t_force v_t_rains v_t_lost v_t_hours v_t_sights v_t_padMany v_t_acts v_t_blownMany v_t_badAct v_t_badWhy v_t_ruinAct v_t_ruinWho v_t_keptAt v_t_isWriting f_t_stem f_t_blown f_t_heap (upd (upd (upd (upd (upd f_t_had (Int32.toNatClampNeg 48) v_t_wind) (Int32.toNatClampNeg 49) v_t_force) (Int32.toNatClampNeg 50) v_t_rains) (Int32.toNatClampNeg 51) v_t_lost) (Int32.toNatClampNeg 52) v_t_hours))) hx hb hK hw 4 rfl hi5 rfl dX11_keepNow_124 (fun H locs hw => ?_)
        exact hret1 (upd (upd (upd (upd (upd f_t_had (Int32.toNatClampNeg 48) v_t_wind) (Int32.toNatClampNeg 49) v_t_force) (Int32.toNatClampNeg 50) v_t_rains) (Int32.toNatClampNeg 51) v_t_lost) (Int32.toNatClampNeg 52) v_t_hours) _ _ _ _ hf hw dX11_keepNow_125
      · have hf := g_f hc hf
        refine lv_aload_n hx hb dX11_keepNow_49 rfl (lv_at hl 0 rfl) ?_
        refine g_get hx hb hG hown hK hw inlX11 (ci := 9) rfl 0 21 (Nat.le_of_ble_eq_true rfl) rfl rfl wd_6_8 dX11_keepNow_50 ?_
        refine lv_bipush (v := 12) hx hb dX11_keepNow_53 k_b12 ?_
        refine lv_iload_n hx hb dX11_keepNow_55 rfl (lv_at hl 1 rfl) ?_
        refine lv_iadd hx hb dX11_keepNow_56 ?_
        refine lv_aload_n hx hb dX11_keepNow_57 rfl (lv_at hl 0 rfl) ?_
        refine g_get hx hb hG hown hK hw inlX11 (ci := 9) rfl 0 5 (Nat.le_of_ble_eq_true rfl) rfl rfl wd_6_1 dX11_keepNow_58 ?_
        refine lv_iload_n hx hb dX11_keepNow_61 rfl (lv_at hl 1 rfl) ?_
        obtain ⟨hi6, hf⟩ := gA_s hf
        refine g_iald hx hb hK hw 3 rfl hi6 dX11_keepNow_62 ?_
        obtain ⟨hi7, hf⟩ := gA_s hf
        refine g_iast (ws' := (wX11_keepNow E o_t a_t v_t_there v_t_wind v_t_force v_t_rains v_t_lost v_t_hours v_t_sights v_t_padMany v_t_acts v_t_blownMany v_t_badAct v_t_badWhy v_t_ruinAct v_t_ruinWho v_t_keptAt v_t_isWriting f_t_stem f_t_blown f_t_heap (upd f_t_had (Int32.toNatClampNeg (12 + x1)) (f_t_heap (Int32.toNatClampNeg x1))))) hx hb hK hw 4 rfl hi7 rfl dX11_keepNow_63 (fun H locs hw => ?_)
        refine lv_iinc (lv' := [(1, .int (x1 + 1)), (0, .ref o_t)]) hx hb dX11_keepNow_64 hl (k := 1) rfl (k_inc1 _) (Nat.le_of_ble_eq_true rfl) rfl (fun ls hl => ?_)
        refine lv_goto (tgt := 43) hx hb dX11_keepNow_67 (by decide) ?_
        exact ih (upd f_t_had (Int32.toNatClampNeg (12 + x1)) (f_t_heap (Int32.toNatClampNeg x1))) (x1 + 1) _ _ _ hf hw (lv_sub hl [1, 0] rfl)
  have B2 : ∀ n : Nat, ∀ (f_t_had : (Nat → Int32)) (x1 : Int32) (H : Heap) (locs : List Loc) (ls : Array Slot), fX11_keepNow_b2 v_t_wind v_t_force v_t_rains v_t_lost v_t_hours f_t_stem f_t_blown f_t_heap n f_t_had x1 = some z_t_had → gS E A s.heap (wX11_keepNow E o_t a_t v_t_there v_t_wind v_t_force v_t_rains v_t_lost v_t_hours v_t_sights v_t_padMany v_t_acts v_t_blownMany v_t_badAct v_t_badWhy v_t_ruinAct v_t_ruinWho v_t_keptAt v_t_isWriting f_t_stem f_t_blown f_t_heap f_t_had) H locs → lv_has ls 2 [(0, .ref o_t), (1, .int x1)] → W p l e ({ frames := 0, cells := 0, slots := 0, locals := 0 } : Room) s m args below meth cd H locs 0 0 Q (F0 m 2 ls []) := by
    intro n
    induction n with
    | zero => intro f_t_had x1 H locs ls hf hw hl; exact g_no hf
    | succ n ih =>
      intro f_t_had x1 H locs ls hf hw hl
      refine lv_iload_n hx hb dX11_keepNow_2 rfl (lv_at hl 1 rfl) ?_
      refine lv_bipush (v := 6) hx hb dX11_keepNow_3 k_b6 ?_
      refine lv_icmp_ge (tgt := 41) hx hb dX11_keepNow_5 (by decide) (fun hc => ?_) (fun hc => ?_)
      · have hf := g_t hc hf
        refine lv_iconst (v := 0) hx hb dX11_keepNow_41 k_i0 ?_
        refine lv_istore_n (lv' := [(1, .int 0), (0, .ref o_t)]) hx hb dX11_keepNow_42 rfl hl (Nat.le_of_ble_eq_true rfl) rfl (fun ls hl => ?_)
        exact B43 1000 f_t_had 0 _ _ _ hf hw (lv_sub hl [1, 0] rfl)
      · have hf := g_f hc hf
        refine lv_aload_n hx hb dX11_keepNow_8 rfl (lv_at hl 0 rfl) ?_
        refine g_get hx hb hG hown hK hw inlX11 (ci := 9) rfl 0 21 (Nat.le_of_ble_eq_true rfl) rfl rfl wd_6_8 dX11_keepNow_9 ?_
        refine lv_iload_n hx hb dX11_keepNow_12 rfl (lv_at hl 1 rfl) ?_
        refine lv_aload_n hx hb dX11_keepNow_13 rfl (lv_at hl 0 rfl) ?_
        refine g_get hx hb hG hown hK hw inlX11 (ci := 9) rfl 0 2 (Nat.le_of_ble_eq_true rfl) rfl rfl wd_5_22 dX11_keepNow_14 ?_
        refine lv_iload_n hx hb dX11_keepNow_17 rfl (lv_at hl 1 rfl) ?_
        obtain ⟨hi8, hf⟩ := gA_s hf
        refine g_iald hx hb hK hw 1 rfl hi8 dX11_keepNow_18 ?_
        obtain ⟨hi9, hf⟩ := gA_s hf
        refine g_iast (ws' := (wX11_keepNow E o_t a_t v_t_there v_t_wind v_t_force v_t_rains v_t_lost v_t_hours v_t_sights v_t_padMany v_t_acts v_t_blownMany v_t_badAct v_t_badWhy v_t_ruinAct v_t_ruinWho v_t_keptAt v_t_isWriting f_t_stem f_t_blown f_t_heap (upd f_t_had (Int32.toNatClampNeg x1) (f_t_stem (Int32.toNatClampNeg x1))))) hx hb hK hw 4 rfl hi9 rfl dX11_keepNow_19 (fun H locs hw => ?_)
        refine lv_aload_n hx hb dX11_keepNow_20 rfl (lv_at hl 0 rfl) ?_
        refine g_get hx hb hG hown hK hw inlX11 (ci := 9) rfl 0 21 (Nat.le_of_ble_eq_true rfl) rfl rfl wd_6_8 dX11_keepNow_21 ?_
        refine lv_bipush (v := 6) hx hb dX11_keepNow_24 k_b6 ?_
        refine lv_iload_n hx hb dX11_keepNow_26 rfl (lv_at hl 1 rfl) ?_
        refine lv_iadd hx hb dX11_keepNow_27 ?_
        refine lv_aload_n hx hb dX11_keepNow_28 rfl (lv_at hl 0 rfl) ?_
        refine g_get hx hb hG hown hK hw inlX11 (ci := 9) rfl 0 4 (Nat.le_of_ble_eq_true rfl) rfl rfl wd_6_0 dX11_keepNow_29 ?_
        refine lv_iload_n hx hb dX11_keepNow_32 rfl (lv_at hl 1 rfl) ?_
        obtain ⟨hi10, hf⟩ := gA_s hf
        refine g_iald hx hb hK hw 2 rfl hi10 dX11_keepNow_33 ?_
        obtain ⟨hi11, hf⟩ := gA_s hf
        refine g_iast (ws' := (wX11_keepNow E o_t a_t v_t_there v_t_wind v_t_force v_t_rains v_t_lost v_t_hours v_t_sights v_t_padMany v_t_acts v_t_blownMany v_t_badAct v_t_badWhy v_t_ruinAct v_t_ruinWho v_t_keptAt v_t_isWriting f_t_stem f_t_blown f_t_heap (upd (upd f_t_had (Int32.toNatClampNeg x1) (f_t_stem (Int32.toNatClampNeg x1))) (Int32.toNatClampNeg (6 + x1)) (f_t_blown (Int32.toNatClampNeg x1))))) hx hb hK hw 4 rfl hi11 rfl dX11_keepNow_34 (fun H locs hw => ?_)
        refine lv_iinc (lv' := [(1, .int (x1 + 1)), (0, .ref o_t)]) hx hb dX11_keepNow_35 hl (k := 1) rfl (k_inc1 _) (Nat.le_of_ble_eq_true rfl) rfl (fun ls hl => ?_)
        refine lv_goto (tgt := 2) hx hb dX11_keepNow_38 (by decide) ?_
        exact ih (upd (upd f_t_had (Int32.toNatClampNeg x1) (f_t_stem (Int32.toNatClampNeg x1))) (Int32.toNatClampNeg (6 + x1)) (f_t_blown (Int32.toNatClampNeg x1))) (x1 + 1) _ _ _ hf hw (lv_sub hl [1, 0] rfl)
  refine lv_iconst (v := 0) hx hb dX11_keepNow_0 k_i0 ?_
  refine lv_istore_n (lv' := [(1, .int 0), (0, .ref o_t)]) hx hb dX11_keepNow_1 rfl hl (Nat.le_of_ble_eq_true rfl) rfl (fun ls hl => ?_)
  exact B2 1000 f_t_had 0 _ _ _ hf hw (lv_sub hl [1, 0] rfl)
theorem hX11_back : yX11_back.cls = RX11 ∧ yX11_back.cls ≠ "java/lang/invoke/MethodHandle" ∧ yX11_back.cls ≠ "java/lang/invoke/VarHandle" ∧ (parseMethodDescriptor yX11_back.desc).map (fun d => d.parameters.length) = some 1 := by decide +kernel
set_option maxHeartbeats 4000000 in
set_option maxRecDepth 100000 in
theorem mX11_back (l : Launch) (E : gE) (o_t : Nat) (a_t : (Nat → Nat)) (v_t_there : Int32) (v_t_wind : Int32) (v_t_force : Int32) (v_t_rains : Int32) (v_t_lost : Int32) (v_t_hours : Int32) (v_t_sights : Int32) (v_t_padMany : Int32) (v_t_acts : Int32) (v_t_blownMany : Int32) (v_t_badAct : Int32) (v_t_badWhy : Int32) (v_t_ruinAct : Int32) (v_t_ruinWho : Int32) (v_t_keptAt : Int32) (v_t_isWriting : Int32) (f_t_stem : (Nat → Int32)) (f_t_blown : (Nat → Int32)) (f_t_heap : (Nat → Int32)) (f_t_had : (Nat → Int32)) (x1 : Int32) (rv : Int32) (z_t_wind : Int32) (z_t_force : Int32) (z_t_rains : Int32) (z_t_lost : Int32) (z_t_hours : Int32) (z_t_stem : (Nat → Int32)) (z_t_blown : (Nat → Int32)) (z_t_heap : (Nat → Int32)) (hf : fX11_back v_t_wind v_t_force v_t_rains v_t_lost v_t_hours f_t_stem f_t_blown f_t_heap f_t_had x1 = some (rv, z_t_wind, z_t_force, z_t_rains, z_t_lost, z_t_hours, z_t_stem, z_t_blown, z_t_heap)) {sz : Nat} : gMi l yX11_back (gW yX11_back cX11_back 3 (some .int)) ({ frames := 0, cells := 0, slots := 0, locals := 0 } : Room) E [.ref o_t, .int x1] (wX11_back E o_t a_t v_t_there v_t_wind v_t_force v_t_rains v_t_lost v_t_hours v_t_sights v_t_padMany v_t_acts v_t_blownMany v_t_badAct v_t_badWhy v_t_ruinAct v_t_ruinWho v_t_keptAt v_t_isWriting f_t_stem f_t_blown f_t_heap f_t_had) sz rv (wX11_back E o_t a_t v_t_there z_t_wind z_t_force z_t_rains z_t_lost z_t_hours v_t_sights v_t_padMany v_t_acts v_t_blownMany v_t_badAct v_t_badWhy v_t_ruinAct v_t_ruinWho v_t_keptAt v_t_isWriting z_t_stem z_t_blown z_t_heap f_t_had) := by
  refine g_openI (own := RX11) (by decide) rfl (Nat.le_of_ble_eq_true rfl) (fun p e s m args below meth cd Q A hx hb hml hown hG hK hA hret hw ls hl => ?_)
  have hl : lv_has ls 3 [(0, .ref o_t), (1, .int x1)] := hl
  have hret1 : ∀ (t : Int32 × Int32 × Int32 × Int32 × Int32 × Int32 × (Nat → Int32) × (Nat → Int32) × (Nat → Int32)) (H : Heap) (locs : List Loc) (pc : Nat) (ls : Array Slot), some t = some (rv, z_t_wind, z_t_force, z_t_rains, z_t_lost, z_t_hours, z_t_stem, z_t_blown, z_t_heap) → gS E A s.heap (wX11_back E o_t a_t v_t_there t.2.1 t.2.2.1 t.2.2.2.1 t.2.2.2.2.1 t.2.2.2.2.2.1 v_t_sights v_t_padMany v_t_acts v_t_blownMany v_t_badAct v_t_badWhy v_t_ruinAct v_t_ruinWho v_t_keptAt v_t_isWriting t.2.2.2.2.2.2.1 t.2.2.2.2.2.2.2.1 t.2.2.2.2.2.2.2.2 f_t_had) H locs → decode cX11_back pc = .ok (.ireturn, 1) → W p l e ({ frames := 0, cells := 0, slots := 0, locals := 0 } : Room) s m args below meth cd H locs 0 0 Q (F0 m pc ls [.int t.1]) := by
    intro t H locs pc ls h hw hd
    obtain rfl : t = (rv, z_t_wind, z_t_force, z_t_rains, z_t_lost, z_t_hours, z_t_stem, z_t_blown, z_t_heap) := Option.some.inj h
    exact hret H locs pc ls hw hd
  have B43 : ∀ n : Nat, ∀ (v_t_wind : Int32) (v_t_force : Int32) (v_t_rains : Int32) (v_t_lost : Int32) (v_t_hours : Int32) (f_t_stem : (Nat → Int32)) (f_t_blown : (Nat → Int32)) (f_t_heap : (Nat → Int32)) (x1 : Int32) (x2 : Int32) (H : Heap) (locs : List Loc) (ls : Array Slot), fX11_back_b43 f_t_had n v_t_wind v_t_force v_t_rains v_t_lost v_t_hours f_t_stem f_t_blown f_t_heap x1 x2 = some (rv, z_t_wind, z_t_force, z_t_rains, z_t_lost, z_t_hours, z_t_stem, z_t_blown, z_t_heap) → gS E A s.heap (wX11_back E o_t a_t v_t_there v_t_wind v_t_force v_t_rains v_t_lost v_t_hours v_t_sights v_t_padMany v_t_acts v_t_blownMany v_t_badAct v_t_badWhy v_t_ruinAct v_t_ruinWho v_t_keptAt v_t_isWriting f_t_stem f_t_blown f_t_heap f_t_had) H locs → lv_has ls 3 [(0, .ref o_t), (1, .int x1), (2, .int x2)] → W p l e ({ frames := 0, cells := 0, slots := 0, locals := 0 } : Room) s m args below meth cd H locs 0 0 Q (F0 m 43 ls []) := by
    intro n
    induction n with
    | zero => intro v_t_wind v_t_force v_t_rains v_t_lost v_t_hours f_t_stem f_t_blown f_t_heap x1 x2 H locs ls hf hw hl; exact g_no hf
    | succ n ih =>
      intro v_t_wind v_t_force v_t_rains v_t_lost v_t_hours f_t_stem f_t_blown f_t_heap x1 x2 H locs ls hf hw hl
      refine lv_iload_n hx hb dX11_back_43 rfl (lv_at hl 2 rfl) ?_
      refine lv_bipush (v := 36) hx hb dX11_back_44 k_b36 ?_
      refine lv_icmp_ge (tgt := 70) hx hb dX11_back_46 (by decide) (fun hc => ?_) (fun hc => ?_)
      · have hf := g_t hc hf
        refine lv_aload_n hx hb dX11_back_70 rfl (lv_at hl 0 rfl) ?_
        refine lv_aload_n hx hb dX11_back_71 rfl (lv_at hl 0 rfl) ?_
        refine g_get hx hb hG hown hK hw inlX11 (ci := 9) rfl 0 21 (Nat.le_of_ble_eq_true rfl) rfl rfl wd_6_8 dX11_back_72 ?_
        refine lv_bipush (v := 48) hx hb dX11_back_75 k_b48 ?_
        obtain ⟨hi1, hf⟩ := gA_s hf
        refine g_iald hx hb hK hw 4 rfl hi1 dX11_back_77 ?_
        refine g_put (ws' := (wX11_back E o_t a_t v_t_there (f_t_had (Int32.toNatClampNeg 48)) v_t_force v_t_rains v_t_lost v_t_hours v_t_sights v_t_padMany v_t_acts v_t_blownMany v_t_badAct v_t_badWhy v_t_ruinAct v_t_ruinWho v_t_keptAt v_t_isWriting f_t_stem f_t_blown f_t_heap f_t_had)) hx hb hG hown hK hw inlX11 tyX11_ok nmX11 (ci := 9) rfl 0 6 (Nat.le_of_ble_eq_true rfl) rfl wd_11_17 rfl rfl rfl (Nat.le_of_ble_eq_true rfl) rfl dX11_back_78 (fun H locs hw => ?_)
        refine lv_aload_n hx hb dX11_back_81 rfl (lv_at hl 0 rfl) ?_
        refine lv_aload_n hx hb dX11_back_82 rfl (lv_at hl 0 rfl) ?_
        refine g_get hx hb hG hown hK hw inlX11 (ci := 9) rfl 0 21 (Nat.le_of_ble_eq_true rfl) rfl rfl wd_6_8 dX11_back_83 ?_
        refine lv_bipush (v := 49) hx hb dX11_back_86 k_b49 ?_
        obtain ⟨hi2, hf⟩ := gA_s hf
        refine g_iald hx hb hK hw 4 rfl hi2 dX11_back_88 ?_
        refine g_put (ws' := (wX11_back E o_t a_t v_t_there (f_t_had (Int32.toNatClampNeg 48)) (f_t_had (Int32.toNatClampNeg 49)) v_t_rains v_t_lost v_t_hours v_t_sights v_t_padMany v_t_acts v_t_blownMany v_t_badAct v_t_badWhy v_t_ruinAct v_t_ruinWho v_t_keptAt v_t_isWriting f_t_stem f_t_blown f_t_heap f_t_had)) hx hb hG hown hK hw inlX11 tyX11_ok nmX11 (ci := 9) rfl 0 7 (Nat.le_of_ble_eq_true rfl) rfl wd_6_19 rfl rfl rfl (Nat.le_of_ble_eq_true rfl) rfl dX11_back_89 (fun H locs hw => ?_)
        refine lv_aload_n hx hb dX11_back_92 rfl (lv_at hl 0 rfl) ?_
        refine lv_aload_n hx hb dX11_back_93 rfl (lv_at hl 0 rfl) ?_
        refine g_get hx hb hG hown hK hw inlX11 (ci := 9) rfl 0 21 (Nat.le_of_ble_eq_true rfl) rfl rfl wd_6_8 dX11_back_94 ?_
        refine lv_bipush (v := 50) hx hb dX11_back_97 k_b50 ?_
        obtain ⟨hi3, hf⟩ := gA_s hf
        refine g_iald hx hb hK hw 4 rfl hi3 dX11_back_99 ?_
        refine g_put (ws' := (wX11_back E o_t a_t v_t_there (f_t_had (Int32.toNatClampNeg 48)) (f_t_had (Int32.toNatClampNeg 49)) (f_t_had (Int32.toNatClampNeg 50)) v_t_lost v_t_hours v_t_sights v_t_padMany v_t_acts v_t_blownMany v_t_badAct v_t_badWhy v_t_ruinAct v_t_ruinWho v_t_keptAt v_t_isWriting f_t_stem f_t_blown f_t_heap f_t_had)) hx hb hG hown hK hw inlX11 tyX11_ok nmX11 (ci := 9) rfl 0 8 (Nat.le_of_ble_eq_true rfl) rfl wd_11_18 rfl rfl rfl (Nat.le_of_ble_eq_true rfl) rfl dX11_back_100 (fun H locs hw => ?_)
        refine lv_aload_n hx hb dX11_back_103 rfl (lv_at hl 0 rfl) ?_
        refine lv_aload_n hx hb dX11_back_104 rfl (lv_at hl 0 rfl) ?_
        refine g_get hx hb hG hown hK hw inlX11 (ci := 9) rfl 0 21 (Nat.le_of_ble_eq_true rfl) rfl rfl wd_6_8 dX11_back_105 ?_
        refine lv_bipush (v := 51) hx hb dX11_back_108 k_b51 ?_
        obtain ⟨hi4, hf⟩ := gA_s hf
        refine g_iald hx hb hK hw 4 rfl hi4 dX11_back_110 ?_
        refine g_put (ws' := (wX11_back E o_t a_t v_t_there (f_t_had (Int32.toNatClampNeg 48)) (f_t_had (Int32.toNatClampNeg 49)) (f_t_had (Int32.toNatClampNeg 50)) (f_t_had (Int32.toNatClampNeg 51)) v_t_hours v_t_sights v_t_padMany v_t_acts v_t_blownMany v_t_badAct v_t_badWhy v_t_ruinAct v_t_ruinWho v_t_keptAt v_t_isWriting f_t_stem f_t_blown f_t_heap f_t_had)) hx hb hG hown hK hw inlX11 tyX11_ok nmX11 (ci := 9) rfl 0 9 (Nat.le_of_ble_eq_true rfl) rfl wd_10_5 rfl rfl rfl (Nat.le_of_ble_eq_true rfl) rfl dX11_back_111 (fun H locs hw => ?_)
        refine lv_aload_n hx hb dX11_back_114 rfl (lv_at hl 0 rfl) ?_
        refine lv_aload_n hx hb dX11_back_115 rfl (lv_at hl 0 rfl) ?_
        refine g_get hx hb hG hown hK hw inlX11 (ci := 9) rfl 0 21 (Nat.le_of_ble_eq_true rfl) rfl rfl wd_6_8 dX11_back_116 ?_
        refine lv_bipush (v := 52) hx hb dX11_back_119 k_b52 ?_
        obtain ⟨hi5, hf⟩ := gA_s hf
        refine g_iald hx hb hK hw 4 rfl hi5 dX11_back_121 ?_
        refine g_put (ws' := (wX11_back E o_t a_t v_t_there (f_t_had (Int32.toNatClampNeg 48)) (f_t_had (Int32.toNatClampNeg 49)) (f_t_had (Int32.toNatClampNeg 50)) (f_t_had (Int32.toNatClampNeg 51)) (f_t_had (Int32.toNatClampNeg 52)) v_t_sights v_t_padMany v_t_acts v_t_blownMany v_t_badAct v_t_badWhy v_t_ruinAct v_t_ruinWho v_t_keptAt v_t_isWriting f_t_stem f_t_blown f_t_heap f_t_had)) hx hb hG hown hK hw inlX11 tyX11_ok nmX11 (ci := 9) rfl 0 10 (Nat.le_of_ble_eq_true rfl) rfl wd_19_12 rfl rfl rfl (Nat.le_of_ble_eq_true rfl) rfl dX11_back_122 (fun H locs hw => ?_)
        refine lv_iload_n hx hb dX11_back_125 rfl (lv_at hl 1 rfl) ?_
        exact hret1 (x1, (f_t_had (Int32.toNatClampNeg 48)), (f_t_had (Int32.toNatClampNeg 49)), (f_t_had (Int32.toNatClampNeg 50)), (f_t_had (Int32.toNatClampNeg 51)), (f_t_had (Int32.toNatClampNeg 52)), f_t_stem, f_t_blown, f_t_heap) _ _ _ _ hf hw dX11_back_126
      · have hf := g_f hc hf
        refine lv_aload_n hx hb dX11_back_49 rfl (lv_at hl 0 rfl) ?_
        refine g_get hx hb hG hown hK hw inlX11 (ci := 9) rfl 0 5 (Nat.le_of_ble_eq_true rfl) rfl rfl wd_6_1 dX11_back_50 ?_
        refine lv_iload_n hx hb dX11_back_53 rfl (lv_at hl 2 rfl) ?_
        refine lv_aload_n hx hb dX11_back_54 rfl (lv_at hl 0 rfl) ?_
        refine g_get hx hb hG hown hK hw inlX11 (ci := 9) rfl 0 21 (Nat.le_of_ble_eq_true rfl) rfl rfl wd_6_8 dX11_back_55 ?_
        refine lv_bipush (v := 12) hx hb dX11_back_58 k_b12 ?_
        refine lv_iload_n hx hb dX11_back_60 rfl (lv_at hl 2 rfl) ?_
        refine lv_iadd hx hb dX11_back_61 ?_
        obtain ⟨hi6, hf⟩ := gA_s hf
        refine g_iald hx hb hK hw 4 rfl hi6 dX11_back_62 ?_
        obtain ⟨hi7, hf⟩ := gA_s hf
        refine g_iast (ws' := (wX11_back E o_t a_t v_t_there v_t_wind v_t_force v_t_rains v_t_lost v_t_hours v_t_sights v_t_padMany v_t_acts v_t_blownMany v_t_badAct v_t_badWhy v_t_ruinAct v_t_ruinWho v_t_keptAt v_t_isWriting f_t_stem f_t_blown (upd f_t_heap (Int32.toNatClampNeg x2) (f_t_had (Int32.toNatClampNeg (12 + x2)))) f_t_had)) hx hb hK hw 3 rfl hi7 rfl dX11_back_63 (fun H locs hw => ?_)
        refine lv_iinc (lv' := [(2, .int (x2 + 1)), (0, .ref o_t), (1, .int x1)]) hx hb dX11_back_64 hl (k := 2) rfl (k_inc1 _) (Nat.le_of_ble_eq_true rfl) rfl (fun ls hl => ?_)
        refine lv_goto (tgt := 43) hx hb dX11_back_67 (by decide) ?_
        exact ih v_t_wind v_t_force v_t_rains v_t_lost v_t_hours f_t_stem f_t_blown (upd f_t_heap (Int32.toNatClampNeg x2) (f_t_had (Int32.toNatClampNeg (12 + x2)))) x1 (x2 + 1) _ _ _ hf hw (lv_sub hl [1, 2, 0] rfl)
  have B2 : ∀ n : Nat, ∀ (v_t_wind : Int32) (v_t_force : Int32) (v_t_rains : Int32) (v_t_lost : Int32) (v_t_hours : Int32) (f_t_stem : (Nat → Int32)) (f_t_blown : (Nat → Int32)) (f_t_heap : (Nat → Int32)) (x1 : Int32) (x2 : Int32) (H : Heap) (locs : List Loc) (ls : Array Slot), fX11_back_b2 f_t_had n v_t_wind v_t_force v_t_rains v_t_lost v_t_hours f_t_stem f_t_blown f_t_heap x1 x2 = some (rv, z_t_wind, z_t_force, z_t_rains, z_t_lost, z_t_hours, z_t_stem, z_t_blown, z_t_heap) → gS E A s.heap (wX11_back E o_t a_t v_t_there v_t_wind v_t_force v_t_rains v_t_lost v_t_hours v_t_sights v_t_padMany v_t_acts v_t_blownMany v_t_badAct v_t_badWhy v_t_ruinAct v_t_ruinWho v_t_keptAt v_t_isWriting f_t_stem f_t_blown f_t_heap f_t_had) H locs → lv_has ls 3 [(0, .ref o_t), (1, .int x1), (2, .int x2)] → W p l e ({ frames := 0, cells := 0, slots := 0, locals := 0 } : Room) s m args below meth cd H locs 0 0 Q (F0 m 2 ls []) := by
    intro n
    induction n with
    | zero => intro v_t_wind v_t_force v_t_rains v_t_lost v_t_hours f_t_stem f_t_blown f_t_heap x1 x2 H locs ls hf hw hl; exact g_no hf
    | succ n ih =>
      intro v_t_wind v_t_force v_t_rains v_t_lost v_t_hours f_t_stem f_t_blown f_t_heap x1 x2 H locs ls hf hw hl
      refine lv_iload_n hx hb dX11_back_2 rfl (lv_at hl 2 rfl) ?_
      refine lv_bipush (v := 6) hx hb dX11_back_3 k_b6 ?_
      refine lv_icmp_ge (tgt := 41) hx hb dX11_back_5 (by decide) (fun hc => ?_) (fun hc => ?_)
      · have hf := g_t hc hf
        refine lv_iconst (v := 0) hx hb dX11_back_41 k_i0 ?_
        refine lv_istore_n (lv' := [(2, .int 0), (0, .ref o_t), (1, .int x1)]) hx hb dX11_back_42 rfl hl (Nat.le_of_ble_eq_true rfl) rfl (fun ls hl => ?_)
        exact B43 1000 v_t_wind v_t_force v_t_rains v_t_lost v_t_hours f_t_stem f_t_blown f_t_heap x1 0 _ _ _ hf hw (lv_sub hl [1, 2, 0] rfl)
      · have hf := g_f hc hf
        refine lv_aload_n hx hb dX11_back_8 rfl (lv_at hl 0 rfl) ?_
        refine g_get hx hb hG hown hK hw inlX11 (ci := 9) rfl 0 2 (Nat.le_of_ble_eq_true rfl) rfl rfl wd_5_22 dX11_back_9 ?_
        refine lv_iload_n hx hb dX11_back_12 rfl (lv_at hl 2 rfl) ?_
        refine lv_aload_n hx hb dX11_back_13 rfl (lv_at hl 0 rfl) ?_
        refine g_get hx hb hG hown hK hw inlX11 (ci := 9) rfl 0 21 (Nat.le_of_ble_eq_true rfl) rfl rfl wd_6_8 dX11_back_14 ?_
        refine lv_iload_n hx hb dX11_back_17 rfl (lv_at hl 2 rfl) ?_
        obtain ⟨hi8, hf⟩ := gA_s hf
        refine g_iald hx hb hK hw 4 rfl hi8 dX11_back_18 ?_
        obtain ⟨hi9, hf⟩ := gA_s hf
        refine g_iast (ws' := (wX11_back E o_t a_t v_t_there v_t_wind v_t_force v_t_rains v_t_lost v_t_hours v_t_sights v_t_padMany v_t_acts v_t_blownMany v_t_badAct v_t_badWhy v_t_ruinAct v_t_ruinWho v_t_keptAt v_t_isWriting (upd f_t_stem (Int32.toNatClampNeg x2) (f_t_had (Int32.toNatClampNeg x2))) f_t_blown f_t_heap f_t_had)) hx hb hK hw 1 rfl hi9 rfl dX11_back_19 (fun H locs hw => ?_)
        refine lv_aload_n hx hb dX11_back_20 rfl (lv_at hl 0 rfl) ?_
        refine g_get hx hb hG hown hK hw inlX11 (ci := 9) rfl 0 4 (Nat.le_of_ble_eq_true rfl) rfl rfl wd_6_0 dX11_back_21 ?_
        refine lv_iload_n hx hb dX11_back_24 rfl (lv_at hl 2 rfl) ?_
        refine lv_aload_n hx hb dX11_back_25 rfl (lv_at hl 0 rfl) ?_
        refine g_get hx hb hG hown hK hw inlX11 (ci := 9) rfl 0 21 (Nat.le_of_ble_eq_true rfl) rfl rfl wd_6_8 dX11_back_26 ?_
        refine lv_bipush (v := 6) hx hb dX11_back_29 k_b6 ?_
        refine lv_iload_n hx hb dX11_back_31 rfl (lv_at hl 2 rfl) ?_
        refine lv_iadd hx hb dX11_back_32 ?_
        obtain ⟨hi10, hf⟩ := gA_s hf
        refine g_iald hx hb hK hw 4 rfl hi10 dX11_back_33 ?_
        obtain ⟨hi11, hf⟩ := gA_s hf
        refine g_iast (ws' := (wX11_back E o_t a_t v_t_there v_t_wind v_t_force v_t_rains v_t_lost v_t_hours v_t_sights v_t_padMany v_t_acts v_t_blownMany v_t_badAct v_t_badWhy v_t_ruinAct v_t_ruinWho v_t_keptAt v_t_isWriting (upd f_t_stem (Int32.toNatClampNeg x2) (f_t_had (Int32.toNatClampNeg x2))) (upd f_t_blown (Int32.toNatClampNeg x2) (f_t_had (Int32.toNatClampNeg (6 + x2)))) f_t_heap f_t_had)) hx hb hK hw 2 rfl hi11 rfl dX11_back_34 (fun H locs hw => ?_)
        refine lv_iinc (lv' := [(2, .int (x2 + 1)), (0, .ref o_t), (1, .int x1)]) hx hb dX11_back_35 hl (k := 2) rfl (k_inc1 _) (Nat.le_of_ble_eq_true rfl) rfl (fun ls hl => ?_)
        refine lv_goto (tgt := 2) hx hb dX11_back_38 (by decide) ?_
        exact ih v_t_wind v_t_force v_t_rains v_t_lost v_t_hours (upd f_t_stem (Int32.toNatClampNeg x2) (f_t_had (Int32.toNatClampNeg x2))) (upd f_t_blown (Int32.toNatClampNeg x2) (f_t_had (Int32.toNatClampNeg (6 + x2)))) f_t_heap x1 (x2 + 1) _ _ _ hf hw (lv_sub hl [1, 2, 0] rfl)
  refine lv_iconst (v := 0) hx hb dX11_back_0 k_i0 ?_
  refine lv_istore_n (lv' := [(2, .int 0), (0, .ref o_t), (1, .int x1)]) hx hb dX11_back_1 rfl hl (Nat.le_of_ble_eq_true rfl) rfl (fun ls hl => ?_)
  exact B2 1000 v_t_wind v_t_force v_t_rains v_t_lost v_t_hours f_t_stem f_t_blown f_t_heap x1 0 _ _ _ hf hw (lv_sub hl [1, 2, 0] rfl)
theorem hX11_rich : yX11_rich.cls = RX11 ∧ yX11_rich.cls ≠ "java/lang/invoke/MethodHandle" ∧ yX11_rich.cls ≠ "java/lang/invoke/VarHandle" ∧ (parseMethodDescriptor yX11_rich.desc).map (fun d => d.parameters.length) = some 0 := by decide +kernel
set_option maxHeartbeats 4000000 in
set_option maxRecDepth 100000 in
theorem mX11_rich (l : Launch) (E : gE) (o_t : Nat) (a_t : (Nat → Nat)) (v_t_there : Int32) (v_t_wind : Int32) (v_t_force : Int32) (v_t_rains : Int32) (v_t_lost : Int32) (v_t_hours : Int32) (v_t_sights : Int32) (v_t_padMany : Int32) (v_t_acts : Int32) (v_t_blownMany : Int32) (v_t_badAct : Int32) (v_t_badWhy : Int32) (v_t_ruinAct : Int32) (v_t_ruinWho : Int32) (v_t_keptAt : Int32) (v_t_isWriting : Int32) (f_t_stem : (Nat → Int32)) (rv : Int32) (hf : fX11_rich v_t_there f_t_stem = some rv) {sz : Nat} : gMi l yX11_rich (gW yX11_rich cX11_rich 3 (some .int)) ({ frames := 2, cells := 0, slots := 0, locals := 46 } : Room) E [.ref o_t] (wX11_rich E o_t a_t v_t_there v_t_wind v_t_force v_t_rains v_t_lost v_t_hours v_t_sights v_t_padMany v_t_acts v_t_blownMany v_t_badAct v_t_badWhy v_t_ruinAct v_t_ruinWho v_t_keptAt v_t_isWriting f_t_stem) sz rv (wX11_rich E o_t a_t v_t_there v_t_wind v_t_force v_t_rains v_t_lost v_t_hours v_t_sights v_t_padMany v_t_acts v_t_blownMany v_t_badAct v_t_badWhy v_t_ruinAct v_t_ruinWho v_t_keptAt v_t_isWriting f_t_stem) := by
  refine g_openI (own := RX11) (by decide) rfl (Nat.le_of_ble_eq_true rfl) (fun p e s m args below meth cd Q A hx hb hml hown hG hK hA hret hw ls hl => ?_)
  have hl : lv_has ls 3 [(0, .ref o_t)] := hl
  have hret1 : ∀ (t : Int32) (H : Heap) (locs : List Loc) (pc : Nat) (ls : Array Slot), some t = some rv → gS E A s.heap (wX11_rich E o_t a_t v_t_there v_t_wind v_t_force v_t_rains v_t_lost v_t_hours v_t_sights v_t_padMany v_t_acts v_t_blownMany v_t_badAct v_t_badWhy v_t_ruinAct v_t_ruinWho v_t_keptAt v_t_isWriting f_t_stem) H locs → decode cX11_rich pc = .ok (.ireturn, 1) → W p l e ({ frames := 2, cells := 0, slots := 0, locals := 46 } : Room) s m args below meth cd H locs 0 0 Q (F0 m pc ls [.int t]) := by
    intro t H locs pc ls h hw hd
    obtain rfl : t = rv := Option.some.inj h
    exact hret H locs pc ls hw hd
  have B35 : ∀ (K4 : Int32 → Int32 → Option (Int32)) (hK4 : ∀ (x1 : Int32) (x2 : Int32) (H : Heap) (locs : List Loc) (ls : Array Slot), K4 x1 x2 = some rv → gS E A s.heap (wX11_rich E o_t a_t v_t_there v_t_wind v_t_force v_t_rains v_t_lost v_t_hours v_t_sights v_t_padMany v_t_acts v_t_blownMany v_t_badAct v_t_badWhy v_t_ruinAct v_t_ruinWho v_t_keptAt v_t_isWriting f_t_stem) H locs → lv_has ls 3 [(0, .ref o_t), (1, .int x1), (2, .int x2)] → W p l e ({ frames := 2, cells := 0, slots := 0, locals := 46 } : Room) s m args below meth cd H locs 0 0 Q (F0 m 4 ls [])), ∀ (x2 : Int32) (s0 : Int32) (s1 : Int32) (H : Heap) (locs : List Loc) (ls : Array Slot), fX11_rich_b35 K4 v_t_there f_t_stem x2 s0 s1 = some rv → gS E A s.heap (wX11_rich E o_t a_t v_t_there v_t_wind v_t_force v_t_rains v_t_lost v_t_hours v_t_sights v_t_padMany v_t_acts v_t_blownMany v_t_badAct v_t_badWhy v_t_ruinAct v_t_ruinWho v_t_keptAt v_t_isWriting f_t_stem) H locs → lv_has ls 3 [(0, .ref o_t), (2, .int x2)] → W p l e ({ frames := 2, cells := 0, slots := 0, locals := 46 } : Room) s m args below meth cd H locs 0 0 Q (F0 m 35 ls [.int s1, .int s0]) := by
    intro K4 hK4 x2 s0 s1 H locs ls hf hw hl
    refine lv_ior hx hb dX11_rich_35 ?_
    refine lv_istore_n (lv' := [(1, .int (s0 ||| s1)), (0, .ref o_t), (2, .int x2)]) hx hb dX11_rich_36 rfl hl (Nat.le_of_ble_eq_true rfl) rfl (fun ls hl => ?_)
    refine lv_iinc (lv' := [(2, .int (x2 + 1)), (1, .int (s0 ||| s1)), (0, .ref o_t)]) hx hb dX11_rich_37 hl (k := 2) rfl (k_inc1 _) (Nat.le_of_ble_eq_true rfl) rfl (fun ls hl => ?_)
    refine lv_goto (tgt := 4) hx hb dX11_rich_40 (by decide) ?_
    exact hK4 (s0 ||| s1) (x2 + 1) _ _ _ hf hw (lv_sub hl [2, 1, 0] rfl)
  have B34 : ∀ (K4 : Int32 → Int32 → Option (Int32)) (hK4 : ∀ (x1 : Int32) (x2 : Int32) (H : Heap) (locs : List Loc) (ls : Array Slot), K4 x1 x2 = some rv → gS E A s.heap (wX11_rich E o_t a_t v_t_there v_t_wind v_t_force v_t_rains v_t_lost v_t_hours v_t_sights v_t_padMany v_t_acts v_t_blownMany v_t_badAct v_t_badWhy v_t_ruinAct v_t_ruinWho v_t_keptAt v_t_isWriting f_t_stem) H locs → lv_has ls 3 [(0, .ref o_t), (1, .int x1), (2, .int x2)] → W p l e ({ frames := 2, cells := 0, slots := 0, locals := 46 } : Room) s m args below meth cd H locs 0 0 Q (F0 m 4 ls [])), ∀ (x2 : Int32) (s0 : Int32) (H : Heap) (locs : List Loc) (ls : Array Slot), fX11_rich_b34 K4 v_t_there f_t_stem x2 s0 = some rv → gS E A s.heap (wX11_rich E o_t a_t v_t_there v_t_wind v_t_force v_t_rains v_t_lost v_t_hours v_t_sights v_t_padMany v_t_acts v_t_blownMany v_t_badAct v_t_badWhy v_t_ruinAct v_t_ruinWho v_t_keptAt v_t_isWriting f_t_stem) H locs → lv_has ls 3 [(0, .ref o_t), (2, .int x2)] → W p l e ({ frames := 2, cells := 0, slots := 0, locals := 46 } : Room) s m args below meth cd H locs 0 0 Q (F0 m 34 ls [.int s0]) := by
    intro K4 hK4 x2 s0 H locs ls hf hw hl
    refine lv_iconst (v := 0) hx hb dX11_rich_34 k_i0 ?_
    exact B35 K4 hK4 x2 s0 0 _ _ _ hf hw (lv_sub hl [0, 1] rfl)
  have B4 : ∀ n : Nat, ∀ (x1 : Int32) (x2 : Int32) (H : Heap) (locs : List Loc) (ls : Array Slot), fX11_rich_b4 v_t_there f_t_stem n x1 x2 = some rv → gS E A s.heap (wX11_rich E o_t a_t v_t_there v_t_wind v_t_force v_t_rains v_t_lost v_t_hours v_t_sights v_t_padMany v_t_acts v_t_blownMany v_t_badAct v_t_badWhy v_t_ruinAct v_t_ruinWho v_t_keptAt v_t_isWriting f_t_stem) H locs → lv_has ls 3 [(0, .ref o_t), (1, .int x1), (2, .int x2)] → W p l e ({ frames := 2, cells := 0, slots := 0, locals := 46 } : Room) s m args below meth cd H locs 0 0 Q (F0 m 4 ls []) := by
    intro n
    induction n with
    | zero => intro x1 x2 H locs ls hf hw hl; exact g_no hf
    | succ n ih =>
      intro x1 x2 H locs ls hf hw hl
      refine lv_iload_n hx hb dX11_rich_4 rfl (lv_at hl 2 rfl) ?_
      refine lv_bipush (v := 6) hx hb dX11_rich_5 k_b6 ?_
      refine lv_icmp_ge (tgt := 43) hx hb dX11_rich_7 (by decide) (fun hc => ?_) (fun hc => ?_)
      · have hf := g_t hc hf
        refine lv_iload_n hx hb dX11_rich_43 rfl (lv_at hl 1 rfl) ?_
        exact hret1 x1 _ _ _ _ hf hw dX11_rich_44
      · have hf := g_f hc hf
        refine lv_iload_n hx hb dX11_rich_10 rfl (lv_at hl 1 rfl) ?_
        refine lv_aload_n hx hb dX11_rich_11 rfl (lv_at hl 0 rfl) ?_
        refine lv_iload_n hx hb dX11_rich_12 rfl (lv_at hl 2 rfl) ?_
        obtain ⟨r1, hc2, hf⟩ := gB_s hf
        refine g_ki0 (is := [0]) hw hA (g_rV hx hb hml hG hown hK hw (is := [0]) rfl (by decide) (mX11_isFamily l E o_t a_t v_t_there v_t_wind v_t_force v_t_rains v_t_lost v_t_hours v_t_sights v_t_padMany v_t_acts v_t_blownMany v_t_badAct v_t_badWhy v_t_ruinAct v_t_ruinWho v_t_keptAt v_t_isWriting x2 r1 hc2) wd_8_21 wd_8_22 wd_8_23 wd_1_5 wd_9_0 hX11_isFamily g_allgood ⟨rfl, rfl⟩ ⟨Nat.le_of_ble_eq_true rfl, Nat.le_of_ble_eq_true rfl⟩ ⟨Nat.zero_le _, Nat.zero_le _⟩ (ci := 9) (q0 := 0) rfl rfl rfl rfl hl.1 rfl (Nat.le_of_ble_eq_true rfl) dX11_rich_13) rfl (fun H locs hw => ?_)
        refine lv_if_eq (tgt := 34) hx hb dX11_rich_16 (by decide) (fun hc => ?_) (fun hc => ?_)
        · have hf := g_t hc hf
          exact B34 (fX11_rich_b4 v_t_there f_t_stem n) ih x2 x1 _ _ _ hf hw (lv_sub hl [0, 2] rfl)
        · have hf := g_f hc hf
          refine lv_aload_n hx hb dX11_rich_19 rfl (lv_at hl 0 rfl) ?_
          refine g_get hx hb hG hown hK hw inlX11 (ci := 9) rfl 0 2 (Nat.le_of_ble_eq_true rfl) rfl rfl wd_5_22 dX11_rich_20 ?_
          refine lv_iload_n hx hb dX11_rich_23 rfl (lv_at hl 2 rfl) ?_
          obtain ⟨hi3, hf⟩ := gA_s hf
          refine g_iald hx hb hK hw 1 rfl hi3 dX11_rich_24 ?_
          refine lv_if_le (tgt := 34) hx hb dX11_rich_25 (by decide) (fun hc => ?_) (fun hc => ?_)
          · have hf := g_t hc hf
            exact B34 (fX11_rich_b4 v_t_there f_t_stem n) ih x2 x1 _ _ _ hf hw (lv_sub hl [0, 2] rfl)
          · have hf := g_f hc hf
            refine lv_iconst (v := 1) hx hb dX11_rich_28 k_i1 ?_
            refine lv_iload_n hx hb dX11_rich_29 rfl (lv_at hl 2 rfl) ?_
            refine lv_ishl hx hb dX11_rich_30 ?_
            refine lv_goto (tgt := 35) hx hb dX11_rich_31 (by decide) ?_
            exact B35 (fX11_rich_b4 v_t_there f_t_stem n) ih x2 x1 (1 <<< (x2 &&& 31)) _ _ _ hf hw (lv_sub hl [0, 2] rfl)
  refine lv_iconst (v := 0) hx hb dX11_rich_0 k_i0 ?_
  refine lv_istore_n (lv' := [(1, .int 0), (0, .ref o_t)]) hx hb dX11_rich_1 rfl hl (Nat.le_of_ble_eq_true rfl) rfl (fun ls hl => ?_)
  refine lv_iconst (v := 0) hx hb dX11_rich_2 k_i0 ?_
  refine lv_istore_n (lv' := [(2, .int 0), (1, .int 0), (0, .ref o_t)]) hx hb dX11_rich_3 rfl hl (Nat.le_of_ble_eq_true rfl) rfl (fun ls hl => ?_)
  exact B4 1000 0 0 _ _ _ hf hw (lv_sub hl [2, 1, 0] rfl)
theorem hX11_leastOf : yX11_leastOf.cls ≠ "java/lang/invoke/MethodHandle" ∧ yX11_leastOf.cls ≠ "java/lang/invoke/VarHandle" ∧ (parseMethodDescriptor yX11_leastOf.desc).map (fun d => d.parameters.length) = some 1 := by decide +kernel
set_option maxHeartbeats 4000000 in
set_option maxRecDepth 100000 in
theorem mX11_leastOf (l : Launch) (E : gE) (x0 : Int32) (rv : Int32) (hf : fX11_leastOf x0 = some rv) {sz : Nat} : gMi l yX11_leastOf (gW yX11_leastOf cX11_leastOf 2 (some .int)) ({ frames := 0, cells := 0, slots := 0, locals := 0 } : Room) E [.int x0] (wX11_leastOf E) sz rv (wX11_leastOf E) := by
  refine g_openI (own := RX11) (by decide) rfl (Nat.le_of_ble_eq_true rfl) (fun p e s m args below meth cd Q A hx hb hml hown hG hK hA hret hw ls hl => ?_)
  have hl : lv_has ls 2 [(0, .int x0)] := hl
  have hret1 : ∀ (t : Int32) (H : Heap) (locs : List Loc) (pc : Nat) (ls : Array Slot), some t = some rv → gS E A s.heap (wX11_leastOf E) H locs → decode cX11_leastOf pc = .ok (.ireturn, 1) → W p l e ({ frames := 0, cells := 0, slots := 0, locals := 0 } : Room) s m args below meth cd H locs 0 0 Q (F0 m pc ls [.int t]) := by
    intro t H locs pc ls h hw hd
    obtain rfl : t = rv := Option.some.inj h
    exact hret H locs pc ls hw hd
  have B2 : ∀ n : Nat, ∀ (x0 : Int32) (x1 : Int32) (H : Heap) (locs : List Loc) (ls : Array Slot), fX11_leastOf_b2 n x0 x1 = some rv → gS E A s.heap (wX11_leastOf E) H locs → lv_has ls 2 [(0, .int x0), (1, .int x1)] → W p l e ({ frames := 0, cells := 0, slots := 0, locals := 0 } : Room) s m args below meth cd H locs 0 0 Q (F0 m 2 ls []) := by
    intro n
    induction n with
    | zero => intro x0 x1 H locs ls hf hw hl; exact g_no hf
    | succ n ih =>
      intro x0 x1 H locs ls hf hw hl
      refine lv_iload_n hx hb dX11_leastOf_2 rfl (lv_at hl 0 rfl) ?_
      refine lv_iload_n hx hb dX11_leastOf_3 rfl (lv_at hl 1 rfl) ?_
      refine lv_ishr hx hb dX11_leastOf_4 ?_
      refine lv_iconst (v := 1) hx hb dX11_leastOf_5 k_i1 ?_
      refine lv_iand hx hb dX11_leastOf_6 ?_
      refine lv_if_ne (tgt := 16) hx hb dX11_leastOf_7 (by decide) (fun hc => ?_) (fun hc => ?_)
      · have hf := g_f hc hf
        refine lv_iload_n hx hb dX11_leastOf_16 rfl (lv_at hl 1 rfl) ?_
        exact hret1 x1 _ _ _ _ hf hw dX11_leastOf_17
      · have hf := g_t hc hf
        refine lv_iinc (lv' := [(1, .int (x1 + 1)), (0, .int x0)]) hx hb dX11_leastOf_10 hl (k := 1) rfl (k_inc1 _) (Nat.le_of_ble_eq_true rfl) rfl (fun ls hl => ?_)
        refine lv_goto (tgt := 2) hx hb dX11_leastOf_13 (by decide) ?_
        exact ih x0 (x1 + 1) _ _ _ hf hw (lv_sub hl [1, 0] rfl)
  refine lv_iconst (v := 0) hx hb dX11_leastOf_0 k_i0 ?_
  refine lv_istore_n (lv' := [(1, .int 0), (0, .int x0)]) hx hb dX11_leastOf_1 rfl hl (Nat.le_of_ble_eq_true rfl) rfl (fun ls hl => ?_)
  exact B2 1000 x0 0 _ _ _ hf hw (lv_sub hl [1, 0] rfl)
theorem hX11_goOne : yX11_goOne.cls = RX11 ∧ yX11_goOne.cls ≠ "java/lang/invoke/MethodHandle" ∧ yX11_goOne.cls ≠ "java/lang/invoke/VarHandle" ∧ (parseMethodDescriptor yX11_goOne.desc).map (fun d => d.parameters.length) = some 1 := by decide +kernel
set_option maxHeartbeats 4000000 in
set_option maxRecDepth 100000 in
theorem mX11_goOne (l : Launch) (E : gE) (o_t : Nat) (a_t : (Nat → Nat)) (v_t_there : Int32) (v_t_wind : Int32) (v_t_force : Int32) (v_t_rains : Int32) (v_t_lost : Int32) (v_t_hours : Int32) (v_t_sights : Int32) (v_t_padMany : Int32) (v_t_acts : Int32) (v_t_blownMany : Int32) (v_t_badAct : Int32) (v_t_badWhy : Int32) (v_t_ruinAct : Int32) (v_t_ruinWho : Int32) (v_t_keptAt : Int32) (v_t_isWriting : Int32) (f_t_at : (Nat → Int32)) (f_t_stem : (Nat → Int32)) (f_t_blown : (Nat → Int32)) (f_t_heap : (Nat → Int32)) (f_t_act : (Nat → Int32)) (f_t_who : (Nat → Int32)) (f_t_much : (Nat → Int32)) (x1 : Int32) (z_t_wind : Int32) (z_t_force : Int32) (z_t_rains : Int32) (z_t_lost : Int32) (z_t_hours : Int32) (z_t_blownMany : Int32) (z_t_ruinAct : Int32) (z_t_ruinWho : Int32) (z_t_stem : (Nat → Int32)) (z_t_blown : (Nat → Int32)) (z_t_heap : (Nat → Int32)) (hf : fX11_goOne v_t_there v_t_wind v_t_force v_t_rains v_t_lost v_t_hours v_t_blownMany v_t_ruinAct v_t_ruinWho f_t_at f_t_stem f_t_blown f_t_heap f_t_act f_t_who f_t_much x1 = some (z_t_wind, z_t_force, z_t_rains, z_t_lost, z_t_hours, z_t_blownMany, z_t_ruinAct, z_t_ruinWho, z_t_stem, z_t_blown, z_t_heap)) {sz : Nat} : gMv l yX11_goOne (gW yX11_goOne cX11_goOne 4 none) ({ frames := 6, cells := 0, slots := 0, locals := 139 } : Room) E [.ref o_t, .int x1] (wX11_goOne E o_t a_t v_t_there v_t_wind v_t_force v_t_rains v_t_lost v_t_hours v_t_sights v_t_padMany v_t_acts v_t_blownMany v_t_badAct v_t_badWhy v_t_ruinAct v_t_ruinWho v_t_keptAt v_t_isWriting f_t_at f_t_stem f_t_blown f_t_heap f_t_act f_t_who f_t_much) sz (wX11_goOne E o_t a_t v_t_there z_t_wind z_t_force z_t_rains z_t_lost z_t_hours v_t_sights v_t_padMany v_t_acts z_t_blownMany v_t_badAct v_t_badWhy z_t_ruinAct z_t_ruinWho v_t_keptAt v_t_isWriting f_t_at z_t_stem z_t_blown z_t_heap f_t_act f_t_who f_t_much) := by
  refine g_openV (own := RX11) (by decide) rfl (Nat.le_of_ble_eq_true rfl) (fun p e s m args below meth cd Q A hx hb hml hown hG hK hA hret hw ls hl => ?_)
  have hl : lv_has ls 4 [(0, .ref o_t), (1, .int x1)] := hl
  have hret1 : ∀ (t : Int32 × Int32 × Int32 × Int32 × Int32 × Int32 × Int32 × Int32 × (Nat → Int32) × (Nat → Int32) × (Nat → Int32)) (H : Heap) (locs : List Loc) (pc : Nat) (ls : Array Slot), some t = some (z_t_wind, z_t_force, z_t_rains, z_t_lost, z_t_hours, z_t_blownMany, z_t_ruinAct, z_t_ruinWho, z_t_stem, z_t_blown, z_t_heap) → gS E A s.heap (wX11_goOne E o_t a_t v_t_there t.1 t.2.1 t.2.2.1 t.2.2.2.1 t.2.2.2.2.1 v_t_sights v_t_padMany v_t_acts t.2.2.2.2.2.1 v_t_badAct v_t_badWhy t.2.2.2.2.2.2.1 t.2.2.2.2.2.2.2.1 v_t_keptAt v_t_isWriting f_t_at t.2.2.2.2.2.2.2.2.1 t.2.2.2.2.2.2.2.2.2.1 t.2.2.2.2.2.2.2.2.2.2 f_t_act f_t_who f_t_much) H locs → decode cX11_goOne pc = .ok (.return_, 1) → W p l e ({ frames := 6, cells := 0, slots := 0, locals := 139 } : Room) s m args below meth cd H locs 0 0 Q (F0 m pc ls []) := by
    intro t H locs pc ls h hw hd
    obtain rfl : t = (z_t_wind, z_t_force, z_t_rains, z_t_lost, z_t_hours, z_t_blownMany, z_t_ruinAct, z_t_ruinWho, z_t_stem, z_t_blown, z_t_heap) := Option.some.inj h
    exact hret H locs pc ls hw hd
  have B60 : ∀ (v_t_wind : Int32) (v_t_force : Int32) (v_t_rains : Int32) (v_t_lost : Int32) (v_t_hours : Int32) (v_t_blownMany : Int32) (v_t_ruinAct : Int32) (v_t_ruinWho : Int32) (f_t_stem : (Nat → Int32)) (f_t_blown : (Nat → Int32)) (f_t_heap : (Nat → Int32)) (H : Heap) (locs : List Loc) (ls : Array Slot), fX11_goOne_b60 v_t_wind v_t_force v_t_rains v_t_lost v_t_hours v_t_blownMany v_t_ruinAct v_t_ruinWho f_t_stem f_t_blown f_t_heap = some (z_t_wind, z_t_force, z_t_rains, z_t_lost, z_t_hours, z_t_blownMany, z_t_ruinAct, z_t_ruinWho, z_t_stem, z_t_blown, z_t_heap) → gS E A s.heap (wX11_goOne E o_t a_t v_t_there v_t_wind v_t_force v_t_rains v_t_lost v_t_hours v_t_sights v_t_padMany v_t_acts v_t_blownMany v_t_badAct v_t_badWhy v_t_ruinAct v_t_ruinWho v_t_keptAt v_t_isWriting f_t_at f_t_stem f_t_blown f_t_heap f_t_act f_t_who f_t_much) H locs → lv_has ls 4 [] → W p l e ({ frames := 6, cells := 0, slots := 0, locals := 139 } : Room) s m args below meth cd H locs 0 0 Q (F0 m 60 ls []) := by
    intro  v_t_wind v_t_force v_t_rains v_t_lost v_t_hours v_t_blownMany v_t_ruinAct v_t_ruinWho f_t_stem f_t_blown f_t_heap H locs ls hf hw hl
    exact hret1 (v_t_wind, v_t_force, v_t_rains, v_t_lost, v_t_hours, v_t_blownMany, v_t_ruinAct, v_t_ruinWho, f_t_stem, f_t_blown, f_t_heap) _ _ _ _ hf hw dX11_goOne_60
  refine lv_aload_n hx hb dX11_goOne_0 rfl (lv_at hl 0 rfl) ?_
  obtain ⟨r1, hc2, hf⟩ := gB_s hf
  refine g_ki0 (is := [0, 2]) hw hA (g_rV hx hb hml hG hown hK hw (is := [0, 2]) rfl (by decide) (mX11_rich l E o_t a_t v_t_there v_t_wind v_t_force v_t_rains v_t_lost v_t_hours v_t_sights v_t_padMany v_t_acts v_t_blownMany v_t_badAct v_t_badWhy v_t_ruinAct v_t_ruinWho v_t_keptAt v_t_isWriting f_t_stem r1 hc2) wd_20_8 wd_20_9 wd_20_10 wd_1_5 wd_20_11 hX11_rich g_allgood ⟨rfl, rfl⟩ ⟨Nat.le_of_ble_eq_true rfl, Nat.le_of_ble_eq_true rfl⟩ ⟨Nat.zero_le _, Nat.zero_le _⟩ (ci := 9) (q0 := 0) rfl rfl rfl rfl hl.1 rfl (Nat.le_of_ble_eq_true rfl) dX11_goOne_1) rfl (fun H locs hw => ?_)
  refine lv_istore_n (lv' := [(2, .int r1), (0, .ref o_t), (1, .int x1)]) hx hb dX11_goOne_4 rfl hl (Nat.le_of_ble_eq_true rfl) rfl (fun ls hl => ?_)
  refine lv_aload_n hx hb dX11_goOne_5 rfl (lv_at hl 1 rfl) ?_
  refine lv_aload_n hx hb dX11_goOne_6 rfl (lv_at hl 1 rfl) ?_
  refine g_get hx hb hG hown hK hw inlX11 (ci := 9) rfl 0 16 (Nat.le_of_ble_eq_true rfl) rfl rfl wd_6_5 dX11_goOne_7 ?_
  refine lv_iload_n hx hb dX11_goOne_10 rfl (lv_at hl 2 rfl) ?_
  obtain ⟨hi3, hf⟩ := gA_s hf
  refine g_iald hx hb hK hw 5 rfl hi3 dX11_goOne_11 ?_
  refine lv_aload_n hx hb dX11_goOne_12 rfl (lv_at hl 1 rfl) ?_
  refine g_get hx hb hG hown hK hw inlX11 (ci := 9) rfl 0 17 (Nat.le_of_ble_eq_true rfl) rfl rfl wd_6_6 dX11_goOne_13 ?_
  refine lv_iload_n hx hb dX11_goOne_16 rfl (lv_at hl 2 rfl) ?_
  obtain ⟨hi4, hf⟩ := gA_s hf
  refine g_iald hx hb hK hw 6 rfl hi4 dX11_goOne_17 ?_
  refine lv_aload_n hx hb dX11_goOne_18 rfl (lv_at hl 1 rfl) ?_
  refine g_get hx hb hG hown hK hw inlX11 (ci := 9) rfl 0 18 (Nat.le_of_ble_eq_true rfl) rfl rfl wd_6_7 dX11_goOne_19 ?_
  refine lv_iload_n hx hb dX11_goOne_22 rfl (lv_at hl 2 rfl) ?_
  obtain ⟨hi5, hf⟩ := gA_s hf
  refine g_iald hx hb hK hw 7 rfl hi5 dX11_goOne_23 ?_
  obtain ⟨⟨r6_0, r6_1, r6_2, r6_3, r6_4, r6_5, r6_6, r6_7, r6_8⟩, hc7, hf⟩ := gB_s hf
  refine g_kv (is := [0, 1, 2, 3, 4]) (isR := [5, 6, 7]) (nW := 8) (w1 := (wX11_happen E o_t a_t v_t_there r6_0 r6_1 r6_2 r6_3 r6_4 v_t_sights v_t_padMany v_t_acts r6_5 v_t_badAct v_t_badWhy v_t_ruinAct v_t_ruinWho v_t_keptAt v_t_isWriting f_t_at r6_6 r6_7 r6_8)) (ws' := (wX11_goOne E o_t a_t v_t_there r6_0 r6_1 r6_2 r6_3 r6_4 v_t_sights v_t_padMany v_t_acts r6_5 v_t_badAct v_t_badWhy v_t_ruinAct v_t_ruinWho v_t_keptAt v_t_isWriting f_t_at r6_6 r6_7 r6_8 f_t_act f_t_who f_t_much)) hw hA (g_rV hx hb hml hG hown hK hw (is := [0, 1, 2, 3, 4]) rfl (by decide) (mX11_happen l E o_t a_t v_t_there v_t_wind v_t_force v_t_rains v_t_lost v_t_hours v_t_sights v_t_padMany v_t_acts v_t_blownMany v_t_badAct v_t_badWhy v_t_ruinAct v_t_ruinWho v_t_keptAt v_t_isWriting f_t_at f_t_stem f_t_blown f_t_heap (f_t_act (Int32.toNatClampNeg x1)) (f_t_who (Int32.toNatClampNeg x1)) (f_t_much (Int32.toNatClampNeg x1)) r6_0 r6_1 r6_2 r6_3 r6_4 r6_5 r6_6 r6_7 r6_8 hc7) wd_20_12 wd_20_13 wd_20_14 wd_1_5 wd_20_15 hX11_happen g_allgood ⟨rfl, rfl⟩ ⟨Nat.le_of_ble_eq_true rfl, Nat.le_of_ble_eq_true rfl⟩ ⟨Nat.zero_le _, Nat.zero_le _⟩ (ci := 9) (q0 := 0) rfl rfl rfl rfl hl.1 rfl (Nat.le_of_ble_eq_true rfl) dX11_goOne_24) rfl (g_had [o_t, (a_t 1), (a_t 2), (a_t 4), (a_t 5)] rfl rfl) rfl (⟨⟨_, rfl, rfl⟩, ⟨⟨_, rfl, rfl⟩, ⟨⟨_, rfl, rfl⟩, trivial⟩⟩⟩) rfl rfl (by decide) (fun H locs hw => ?_)
  refine lv_iload_n hx hb dX11_goOne_27 rfl (lv_at hl 0 rfl) ?_
  refine lv_aload_n hx hb dX11_goOne_28 rfl (lv_at hl 1 rfl) ?_
  obtain ⟨r8, hc9, hf⟩ := gB_s hf
  refine g_ki0 (is := [0, 2]) hw hA (g_rV hx hb hml hG hown hK hw (is := [0, 2]) rfl (by decide) (mX11_rich l E o_t a_t v_t_there r6_0 r6_1 r6_2 r6_3 r6_4 v_t_sights v_t_padMany v_t_acts r6_5 v_t_badAct v_t_badWhy v_t_ruinAct v_t_ruinWho v_t_keptAt v_t_isWriting r6_6 r8 hc9) wd_20_8 wd_20_9 wd_20_10 wd_1_5 wd_20_11 hX11_rich g_allgood ⟨rfl, rfl⟩ ⟨Nat.le_of_ble_eq_true rfl, Nat.le_of_ble_eq_true rfl⟩ ⟨Nat.zero_le _, Nat.zero_le _⟩ (ci := 9) (q0 := 0) rfl rfl rfl rfl hl.1 rfl (Nat.le_of_ble_eq_true rfl) dX11_goOne_29) rfl (fun H locs hw => ?_)
  refine lv_iconst (v := -1) hx hb dX11_goOne_32 k_im1 ?_
  refine lv_ixor hx hb dX11_goOne_33 ?_
  refine lv_iand hx hb dX11_goOne_34 ?_
  refine lv_istore_n (lv' := [(3, .int (r1 &&& (r8 ^^^ (-1)))), (2, .int r1), (0, .ref o_t), (1, .int x1)]) hx hb dX11_goOne_35 rfl hl (Nat.le_of_ble_eq_true rfl) rfl (fun ls hl => ?_)
  refine lv_iload_n hx hb dX11_goOne_36 rfl (lv_at hl 0 rfl) ?_
  refine lv_if_eq (tgt := 60) hx hb dX11_goOne_37 (by decide) (fun hc => ?_) (fun hc => ?_)
  · have hf := g_t hc hf
    exact B60 r6_0 r6_1 r6_2 r6_3 r6_4 r6_5 v_t_ruinAct v_t_ruinWho r6_6 r6_7 r6_8 _ _ _ hf hw (lv_sub hl [] rfl)
  · have hf := g_f hc hf
    refine lv_aload_n hx hb dX11_goOne_40 rfl (lv_at hl 2 rfl) ?_
    refine g_get hx hb hG hown hK hw inlX11 (ci := 9) rfl 0 24 (Nat.le_of_ble_eq_true rfl) rfl rfl wd_19_18 dX11_goOne_41 ?_
    refine lv_if_ge (tgt := 60) hx hb dX11_goOne_44 (by decide) (fun hc => ?_) (fun hc => ?_)
    · have hf := g_t hc hf
      exact B60 r6_0 r6_1 r6_2 r6_3 r6_4 r6_5 v_t_ruinAct v_t_ruinWho r6_6 r6_7 r6_8 _ _ _ hf hw (lv_sub hl [] rfl)
    · have hf := g_f hc hf
      refine lv_aload_n hx hb dX11_goOne_47 rfl (lv_at hl 2 rfl) ?_
      refine lv_iload_n hx hb dX11_goOne_48 rfl (lv_at hl 3 rfl) ?_
      refine g_put (ws' := (wX11_goOne E o_t a_t v_t_there r6_0 r6_1 r6_2 r6_3 r6_4 v_t_sights v_t_padMany v_t_acts r6_5 v_t_badAct v_t_badWhy x1 v_t_ruinWho v_t_keptAt v_t_isWriting f_t_at r6_6 r6_7 r6_8 f_t_act f_t_who f_t_much)) hx hb hG hown hK hw inlX11 tyX11_ok nmX11 (ci := 9) rfl 0 24 (Nat.le_of_ble_eq_true rfl) rfl wd_19_18 rfl rfl rfl (Nat.le_of_ble_eq_true rfl) rfl dX11_goOne_49 (fun H locs hw => ?_)
      refine lv_aload_n hx hb dX11_goOne_52 rfl (lv_at hl 2 rfl) ?_
      refine lv_iload_n hx hb dX11_goOne_53 rfl (lv_at hl 0 rfl) ?_
      obtain ⟨r10, hc11, hf⟩ := gB_s hf
      refine g_ki0 (is := []) hw hA (g_rS hx hb hml hG hown hK hw (is := []) rfl (by decide) (mX11_leastOf l E (r1 &&& (r8 ^^^ (-1))) r10 hc11) wd_21_21 wd_21_22 wd_1_5 wd_21_23 hX11_leastOf g_allgood ⟨rfl, rfl⟩ ⟨Nat.le_of_ble_eq_true rfl, Nat.le_of_ble_eq_true rfl⟩ ⟨Nat.zero_le _, Nat.zero_le _⟩ rfl hl.1 rfl (Nat.le_of_ble_eq_true rfl) dX11_goOne_54) rfl (fun H locs hw => ?_)
      refine g_put (ws' := (wX11_goOne E o_t a_t v_t_there r6_0 r6_1 r6_2 r6_3 r6_4 v_t_sights v_t_padMany v_t_acts r6_5 v_t_badAct v_t_badWhy x1 r10 v_t_keptAt v_t_isWriting f_t_at r6_6 r6_7 r6_8 f_t_act f_t_who f_t_much)) hx hb hG hown hK hw inlX11 tyX11_ok nmX11 (ci := 9) rfl 0 25 (Nat.le_of_ble_eq_true rfl) rfl wd_19_19 rfl rfl rfl (Nat.le_of_ble_eq_true rfl) rfl dX11_goOne_57 (fun H locs hw => ?_)
      exact B60 r6_0 r6_1 r6_2 r6_3 r6_4 r6_5 x1 r10 r6_6 r6_7 r6_8 _ _ _ hf hw (lv_sub hl [] rfl)
theorem hX11_goHours : yX11_goHours.cls = RX11 ∧ yX11_goHours.cls ≠ "java/lang/invoke/MethodHandle" ∧ yX11_goHours.cls ≠ "java/lang/invoke/VarHandle" ∧ (parseMethodDescriptor yX11_goHours.desc).map (fun d => d.parameters.length) = some 0 := by decide +kernel
set_option maxHeartbeats 4000000 in
set_option maxRecDepth 100000 in
theorem mX11_goHours (l : Launch) (E : gE) (o_t : Nat) (a_t : (Nat → Nat)) (v_t_there : Int32) (v_t_wind : Int32) (v_t_force : Int32) (v_t_rains : Int32) (v_t_lost : Int32) (v_t_hours : Int32) (v_t_sights : Int32) (v_t_padMany : Int32) (v_t_acts : Int32) (v_t_blownMany : Int32) (v_t_badAct : Int32) (v_t_badWhy : Int32) (v_t_ruinAct : Int32) (v_t_ruinWho : Int32) (v_t_keptAt : Int32) (v_t_isWriting : Int32) (f_t_at : (Nat → Int32)) (f_t_stem : (Nat → Int32)) (f_t_lungs : (Nat → Int32)) (f_t_blown : (Nat → Int32)) (f_t_heap : (Nat → Int32)) (f_t_act : (Nat → Int32)) (f_t_who : (Nat → Int32)) (f_t_much : (Nat → Int32)) (z_t_wind : Int32) (z_t_force : Int32) (z_t_rains : Int32) (z_t_lost : Int32) (z_t_hours : Int32) (z_t_blownMany : Int32) (z_t_badAct : Int32) (z_t_badWhy : Int32) (z_t_ruinAct : Int32) (z_t_ruinWho : Int32) (z_t_stem : (Nat → Int32)) (z_t_blown : (Nat → Int32)) (z_t_heap : (Nat → Int32)) (hf : fX11_goHours v_t_there v_t_wind v_t_force v_t_rains v_t_lost v_t_hours v_t_acts v_t_blownMany v_t_badAct v_t_badWhy v_t_ruinAct v_t_ruinWho f_t_at f_t_stem f_t_lungs f_t_blown f_t_heap f_t_act f_t_who f_t_much = some (z_t_wind, z_t_force, z_t_rains, z_t_lost, z_t_hours, z_t_blownMany, z_t_badAct, z_t_badWhy, z_t_ruinAct, z_t_ruinWho, z_t_stem, z_t_blown, z_t_heap)) {sz : Nat} : gMv l yX11_goHours (gW yX11_goHours cX11_goHours 3 none) ({ frames := 7, cells := 0, slots := 0, locals := 162 } : Room) E [.ref o_t] (wX11_goHours E o_t a_t v_t_there v_t_wind v_t_force v_t_rains v_t_lost v_t_hours v_t_sights v_t_padMany v_t_acts v_t_blownMany v_t_badAct v_t_badWhy v_t_ruinAct v_t_ruinWho v_t_keptAt v_t_isWriting f_t_at f_t_stem f_t_lungs f_t_blown f_t_heap f_t_act f_t_who f_t_much) sz (wX11_goHours E o_t a_t v_t_there z_t_wind z_t_force z_t_rains z_t_lost z_t_hours v_t_sights v_t_padMany v_t_acts z_t_blownMany z_t_badAct z_t_badWhy z_t_ruinAct z_t_ruinWho v_t_keptAt v_t_isWriting f_t_at z_t_stem f_t_lungs z_t_blown z_t_heap f_t_act f_t_who f_t_much) := by
  refine g_openV (own := RX11) (by decide) rfl (Nat.le_of_ble_eq_true rfl) (fun p e s m args below meth cd Q A hx hb hml hown hG hK hA hret hw ls hl => ?_)
  have hl : lv_has ls 3 [(0, .ref o_t)] := hl
  have hret1 : ∀ (t : Int32 × Int32 × Int32 × Int32 × Int32 × Int32 × Int32 × Int32 × Int32 × Int32 × (Nat → Int32) × (Nat → Int32) × (Nat → Int32)) (H : Heap) (locs : List Loc) (pc : Nat) (ls : Array Slot), some t = some (z_t_wind, z_t_force, z_t_rains, z_t_lost, z_t_hours, z_t_blownMany, z_t_badAct, z_t_badWhy, z_t_ruinAct, z_t_ruinWho, z_t_stem, z_t_blown, z_t_heap) → gS E A s.heap (wX11_goHours E o_t a_t v_t_there t.1 t.2.1 t.2.2.1 t.2.2.2.1 t.2.2.2.2.1 v_t_sights v_t_padMany v_t_acts t.2.2.2.2.2.1 t.2.2.2.2.2.2.1 t.2.2.2.2.2.2.2.1 t.2.2.2.2.2.2.2.2.1 t.2.2.2.2.2.2.2.2.2.1 v_t_keptAt v_t_isWriting f_t_at t.2.2.2.2.2.2.2.2.2.2.1 f_t_lungs t.2.2.2.2.2.2.2.2.2.2.2.1 t.2.2.2.2.2.2.2.2.2.2.2.2 f_t_act f_t_who f_t_much) H locs → decode cX11_goHours pc = .ok (.return_, 1) → W p l e ({ frames := 7, cells := 0, slots := 0, locals := 162 } : Room) s m args below meth cd H locs 0 0 Q (F0 m pc ls []) := by
    intro t H locs pc ls h hw hd
    obtain rfl : t = (z_t_wind, z_t_force, z_t_rains, z_t_lost, z_t_hours, z_t_blownMany, z_t_badAct, z_t_badWhy, z_t_ruinAct, z_t_ruinWho, z_t_stem, z_t_blown, z_t_heap) := Option.some.inj h
    exact hret H locs pc ls hw hd
  have B112 : ∀ (v_t_wind : Int32) (v_t_force : Int32) (v_t_rains : Int32) (v_t_lost : Int32) (v_t_hours : Int32) (v_t_blownMany : Int32) (v_t_badAct : Int32) (v_t_badWhy : Int32) (v_t_ruinAct : Int32) (v_t_ruinWho : Int32) (f_t_stem : (Nat → Int32)) (f_t_blown : (Nat → Int32)) (f_t_heap : (Nat → Int32)) (H : Heap) (locs : List Loc) (ls : Array Slot), fX11_goHours_b112 v_t_wind v_t_force v_t_rains v_t_lost v_t_hours v_t_blownMany v_t_badAct v_t_badWhy v_t_ruinAct v_t_ruinWho f_t_stem f_t_blown f_t_heap = some (z_t_wind, z_t_force, z_t_rains, z_t_lost, z_t_hours, z_t_blownMany, z_t_badAct, z_t_badWhy, z_t_ruinAct, z_t_ruinWho, z_t_stem, z_t_blown, z_t_heap) → gS E A s.heap (wX11_goHours E o_t a_t v_t_there v_t_wind v_t_force v_t_rains v_t_lost v_t_hours v_t_sights v_t_padMany v_t_acts v_t_blownMany v_t_badAct v_t_badWhy v_t_ruinAct v_t_ruinWho v_t_keptAt v_t_isWriting f_t_at f_t_stem f_t_lungs f_t_blown f_t_heap f_t_act f_t_who f_t_much) H locs → lv_has ls 3 [] → W p l e ({ frames := 7, cells := 0, slots := 0, locals := 162 } : Room) s m args below meth cd H locs 0 0 Q (F0 m 112 ls []) := by
    intro  v_t_wind v_t_force v_t_rains v_t_lost v_t_hours v_t_blownMany v_t_badAct v_t_badWhy v_t_ruinAct v_t_ruinWho f_t_stem f_t_blown f_t_heap H locs ls hf hw hl
    exact hret1 (v_t_wind, v_t_force, v_t_rains, v_t_lost, v_t_hours, v_t_blownMany, v_t_badAct, v_t_badWhy, v_t_ruinAct, v_t_ruinWho, f_t_stem, f_t_blown, f_t_heap) _ _ _ _ hf hw dX11_goHours_112
  have B106 : ∀ (K31 : Int32 → Int32 → Int32 → Int32 → Int32 → Int32 → Int32 → Int32 → Int32 → Int32 → (Nat → Int32) → (Nat → Int32) → (Nat → Int32) → Int32 → Option (Int32 × Int32 × Int32 × Int32 × Int32 × Int32 × Int32 × Int32 × Int32 × Int32 × (Nat → Int32) × (Nat → Int32) × (Nat → Int32))) (hK31 : ∀ (v_t_wind : Int32) (v_t_force : Int32) (v_t_rains : Int32) (v_t_lost : Int32) (v_t_hours : Int32) (v_t_blownMany : Int32) (v_t_badAct : Int32) (v_t_badWhy : Int32) (v_t_ruinAct : Int32) (v_t_ruinWho : Int32) (f_t_stem : (Nat → Int32)) (f_t_blown : (Nat → Int32)) (f_t_heap : (Nat → Int32)) (x1 : Int32) (H : Heap) (locs : List Loc) (ls : Array Slot), K31 v_t_wind v_t_force v_t_rains v_t_lost v_t_hours v_t_blownMany v_t_badAct v_t_badWhy v_t_ruinAct v_t_ruinWho f_t_stem f_t_blown f_t_heap x1 = some (z_t_wind, z_t_force, z_t_rains, z_t_lost, z_t_hours, z_t_blownMany, z_t_badAct, z_t_badWhy, z_t_ruinAct, z_t_ruinWho, z_t_stem, z_t_blown, z_t_heap) → gS E A s.heap (wX11_goHours E o_t a_t v_t_there v_t_wind v_t_force v_t_rains v_t_lost v_t_hours v_t_sights v_t_padMany v_t_acts v_t_blownMany v_t_badAct v_t_badWhy v_t_ruinAct v_t_ruinWho v_t_keptAt v_t_isWriting f_t_at f_t_stem f_t_lungs f_t_blown f_t_heap f_t_act f_t_who f_t_much) H locs → lv_has ls 3 [(0, .ref o_t), (1, .int x1)] → W p l e ({ frames := 7, cells := 0, slots := 0, locals := 162 } : Room) s m args below meth cd H locs 0 0 Q (F0 m 31 ls [])), ∀ (v_t_wind : Int32) (v_t_force : Int32) (v_t_rains : Int32) (v_t_lost : Int32) (v_t_hours : Int32) (v_t_blownMany : Int32) (v_t_badAct : Int32) (v_t_badWhy : Int32) (v_t_ruinAct : Int32) (v_t_ruinWho : Int32) (f_t_stem : (Nat → Int32)) (f_t_blown : (Nat → Int32)) (f_t_heap : (Nat → Int32)) (x1 : Int32) (H : Heap) (locs : List Loc) (ls : Array Slot), fX11_goHours_b106 K31 v_t_there v_t_acts f_t_at f_t_lungs f_t_act f_t_who f_t_much v_t_wind v_t_force v_t_rains v_t_lost v_t_hours v_t_blownMany v_t_badAct v_t_badWhy v_t_ruinAct v_t_ruinWho f_t_stem f_t_blown f_t_heap x1 = some (z_t_wind, z_t_force, z_t_rains, z_t_lost, z_t_hours, z_t_blownMany, z_t_badAct, z_t_badWhy, z_t_ruinAct, z_t_ruinWho, z_t_stem, z_t_blown, z_t_heap) → gS E A s.heap (wX11_goHours E o_t a_t v_t_there v_t_wind v_t_force v_t_rains v_t_lost v_t_hours v_t_sights v_t_padMany v_t_acts v_t_blownMany v_t_badAct v_t_badWhy v_t_ruinAct v_t_ruinWho v_t_keptAt v_t_isWriting f_t_at f_t_stem f_t_lungs f_t_blown f_t_heap f_t_act f_t_who f_t_much) H locs → lv_has ls 3 [(0, .ref o_t), (1, .int x1)] → W p l e ({ frames := 7, cells := 0, slots := 0, locals := 162 } : Room) s m args below meth cd H locs 0 0 Q (F0 m 106 ls []) := by
    intro K31 hK31 v_t_wind v_t_force v_t_rains v_t_lost v_t_hours v_t_blownMany v_t_badAct v_t_badWhy v_t_ruinAct v_t_ruinWho f_t_stem f_t_blown f_t_heap x1 H locs ls hf hw hl
    refine lv_iinc (lv' := [(1, .int (x1 + 1)), (0, .ref o_t)]) hx hb dX11_goHours_106 hl (k := 1) rfl (k_inc1 _) (Nat.le_of_ble_eq_true rfl) rfl (fun ls hl => ?_)
    refine lv_goto (tgt := 31) hx hb dX11_goHours_109 (by decide) ?_
    exact hK31 v_t_wind v_t_force v_t_rains v_t_lost v_t_hours v_t_blownMany v_t_badAct v_t_badWhy v_t_ruinAct v_t_ruinWho f_t_stem f_t_blown f_t_heap (x1 + 1) _ _ _ hf hw (lv_sub hl [1, 0] rfl)
  have B94 : ∀ (K31 : Int32 → Int32 → Int32 → Int32 → Int32 → Int32 → Int32 → Int32 → Int32 → Int32 → (Nat → Int32) → (Nat → Int32) → (Nat → Int32) → Int32 → Option (Int32 × Int32 × Int32 × Int32 × Int32 × Int32 × Int32 × Int32 × Int32 × Int32 × (Nat → Int32) × (Nat → Int32) × (Nat → Int32))) (hK31 : ∀ (v_t_wind : Int32) (v_t_force : Int32) (v_t_rains : Int32) (v_t_lost : Int32) (v_t_hours : Int32) (v_t_blownMany : Int32) (v_t_badAct : Int32) (v_t_badWhy : Int32) (v_t_ruinAct : Int32) (v_t_ruinWho : Int32) (f_t_stem : (Nat → Int32)) (f_t_blown : (Nat → Int32)) (f_t_heap : (Nat → Int32)) (x1 : Int32) (H : Heap) (locs : List Loc) (ls : Array Slot), K31 v_t_wind v_t_force v_t_rains v_t_lost v_t_hours v_t_blownMany v_t_badAct v_t_badWhy v_t_ruinAct v_t_ruinWho f_t_stem f_t_blown f_t_heap x1 = some (z_t_wind, z_t_force, z_t_rains, z_t_lost, z_t_hours, z_t_blownMany, z_t_badAct, z_t_badWhy, z_t_ruinAct, z_t_ruinWho, z_t_stem, z_t_blown, z_t_heap) → gS E A s.heap (wX11_goHours E o_t a_t v_t_there v_t_wind v_t_force v_t_rains v_t_lost v_t_hours v_t_sights v_t_padMany v_t_acts v_t_blownMany v_t_badAct v_t_badWhy v_t_ruinAct v_t_ruinWho v_t_keptAt v_t_isWriting f_t_at f_t_stem f_t_lungs f_t_blown f_t_heap f_t_act f_t_who f_t_much) H locs → lv_has ls 3 [(0, .ref o_t), (1, .int x1)] → W p l e ({ frames := 7, cells := 0, slots := 0, locals := 162 } : Room) s m args below meth cd H locs 0 0 Q (F0 m 31 ls [])), ∀ (v_t_wind : Int32) (v_t_force : Int32) (v_t_rains : Int32) (v_t_lost : Int32) (v_t_hours : Int32) (v_t_blownMany : Int32) (v_t_badAct : Int32) (v_t_badWhy : Int32) (v_t_ruinAct : Int32) (v_t_ruinWho : Int32) (f_t_stem : (Nat → Int32)) (f_t_blown : (Nat → Int32)) (f_t_heap : (Nat → Int32)) (x1 : Int32) (x2 : Int32) (s1 : Int32) (H : Heap) (locs : List Loc) (ls : Array Slot), fX11_goHours_b94 K31 v_t_there v_t_acts f_t_at f_t_lungs f_t_act f_t_who f_t_much v_t_wind v_t_force v_t_rains v_t_lost v_t_hours v_t_blownMany v_t_badAct v_t_badWhy v_t_ruinAct v_t_ruinWho f_t_stem f_t_blown f_t_heap x1 x2 s1 = some (z_t_wind, z_t_force, z_t_rains, z_t_lost, z_t_hours, z_t_blownMany, z_t_badAct, z_t_badWhy, z_t_ruinAct, z_t_ruinWho, z_t_stem, z_t_blown, z_t_heap) → gS E A s.heap (wX11_goHours E o_t a_t v_t_there v_t_wind v_t_force v_t_rains v_t_lost v_t_hours v_t_sights v_t_padMany v_t_acts v_t_blownMany v_t_badAct v_t_badWhy v_t_ruinAct v_t_ruinWho v_t_keptAt v_t_isWriting f_t_at f_t_stem f_t_lungs f_t_blown f_t_heap f_t_act f_t_who f_t_much) H locs → lv_has ls 3 [(0, .ref o_t), (1, .int x1), (2, .int x2)] → W p l e ({ frames := 7, cells := 0, slots := 0, locals := 162 } : Room) s m args below meth cd H locs 0 0 Q (F0 m 94 ls [.int s1, .ref o_t]) := by
    intro K31 hK31 v_t_wind v_t_force v_t_rains v_t_lost v_t_hours v_t_blownMany v_t_badAct v_t_badWhy v_t_ruinAct v_t_ruinWho f_t_stem f_t_blown f_t_heap x1 x2 s1 H locs ls hf hw hl
    refine g_put (ws' := (wX11_goHours E o_t a_t v_t_there v_t_wind v_t_force v_t_rains v_t_lost v_t_hours v_t_sights v_t_padMany v_t_acts v_t_blownMany v_t_badAct s1 v_t_ruinAct v_t_ruinWho v_t_keptAt v_t_isWriting f_t_at f_t_stem f_t_lungs f_t_blown f_t_heap f_t_act f_t_who f_t_much)) hx hb hG hown hK hw inlX11 tyX11_ok nmX11 (ci := 9) rfl 0 23 (Nat.le_of_ble_eq_true rfl) rfl wd_19_2 rfl rfl rfl (Nat.le_of_ble_eq_true rfl) rfl dX11_goHours_94 (fun H locs hw => ?_)
    refine lv_iload_n hx hb dX11_goHours_97 rfl (lv_at hl 2 rfl) ?_
    refine lv_if_ne (tgt := 106) hx hb dX11_goHours_98 (by decide) (fun hc => ?_) (fun hc => ?_)
    · have hf := g_f hc hf
      exact B106 K31 hK31 v_t_wind v_t_force v_t_rains v_t_lost v_t_hours v_t_blownMany v_t_badAct s1 v_t_ruinAct v_t_ruinWho f_t_stem f_t_blown f_t_heap x1 _ _ _ hf hw (lv_sub hl [0, 1] rfl)
    · have hf := g_t hc hf
      refine lv_aload_n hx hb dX11_goHours_101 rfl (lv_at hl 0 rfl) ?_
      refine lv_iload_n hx hb dX11_goHours_102 rfl (lv_at hl 1 rfl) ?_
      obtain ⟨⟨r1_0, r1_1, r1_2, r1_3, r1_4, r1_5, r1_6, r1_7, r1_8, r1_9, r1_10⟩, hc2, hf⟩ := gB_s hf
      refine g_kv (is := [0, 1, 2, 4, 5, 6, 7, 8]) (isR := [3]) (nW := 9) (w1 := (wX11_goOne E o_t a_t v_t_there r1_0 r1_1 r1_2 r1_3 r1_4 v_t_sights v_t_padMany v_t_acts r1_5 v_t_badAct s1 r1_6 r1_7 v_t_keptAt v_t_isWriting f_t_at r1_8 r1_9 r1_10 f_t_act f_t_who f_t_much)) (ws' := (wX11_goHours E o_t a_t v_t_there r1_0 r1_1 r1_2 r1_3 r1_4 v_t_sights v_t_padMany v_t_acts r1_5 v_t_badAct s1 r1_6 r1_7 v_t_keptAt v_t_isWriting f_t_at r1_8 f_t_lungs r1_9 r1_10 f_t_act f_t_who f_t_much)) hw hA (g_rV hx hb hml hG hown hK hw (is := [0, 1, 2, 4, 5, 6, 7, 8]) rfl (by decide) (mX11_goOne l E o_t a_t v_t_there v_t_wind v_t_force v_t_rains v_t_lost v_t_hours v_t_sights v_t_padMany v_t_acts v_t_blownMany v_t_badAct s1 v_t_ruinAct v_t_ruinWho v_t_keptAt v_t_isWriting f_t_at f_t_stem f_t_blown f_t_heap f_t_act f_t_who f_t_much x1 r1_0 r1_1 r1_2 r1_3 r1_4 r1_5 r1_6 r1_7 r1_8 r1_9 r1_10 hc2) wd_20_4 wd_20_5 wd_20_6 wd_1_5 wd_20_7 hX11_goOne g_allgood ⟨rfl, rfl⟩ ⟨Nat.le_of_ble_eq_true rfl, Nat.le_of_ble_eq_true rfl⟩ ⟨Nat.zero_le _, Nat.zero_le _⟩ (ci := 9) (q0 := 0) rfl rfl rfl rfl hl.1 rfl (Nat.le_of_ble_eq_true rfl) dX11_goHours_103) rfl (g_had [o_t, (a_t 1), (a_t 2), (a_t 4), (a_t 5), (a_t 16), (a_t 17), (a_t 18)] rfl rfl) rfl (⟨⟨_, rfl, rfl⟩, trivial⟩) rfl rfl (by decide) (fun H locs hw => ?_)
      exact B106 K31 hK31 r1_0 r1_1 r1_2 r1_3 r1_4 r1_5 v_t_badAct s1 r1_6 r1_7 r1_8 r1_9 r1_10 x1 _ _ _ hf hw (lv_sub hl [0, 1] rfl)
  have B80 : ∀ (K31 : Int32 → Int32 → Int32 → Int32 → Int32 → Int32 → Int32 → Int32 → Int32 → Int32 → (Nat → Int32) → (Nat → Int32) → (Nat → Int32) → Int32 → Option (Int32 × Int32 × Int32 × Int32 × Int32 × Int32 × Int32 × Int32 × Int32 × Int32 × (Nat → Int32) × (Nat → Int32) × (Nat → Int32))) (hK31 : ∀ (v_t_wind : Int32) (v_t_force : Int32) (v_t_rains : Int32) (v_t_lost : Int32) (v_t_hours : Int32) (v_t_blownMany : Int32) (v_t_badAct : Int32) (v_t_badWhy : Int32) (v_t_ruinAct : Int32) (v_t_ruinWho : Int32) (f_t_stem : (Nat → Int32)) (f_t_blown : (Nat → Int32)) (f_t_heap : (Nat → Int32)) (x1 : Int32) (H : Heap) (locs : List Loc) (ls : Array Slot), K31 v_t_wind v_t_force v_t_rains v_t_lost v_t_hours v_t_blownMany v_t_badAct v_t_badWhy v_t_ruinAct v_t_ruinWho f_t_stem f_t_blown f_t_heap x1 = some (z_t_wind, z_t_force, z_t_rains, z_t_lost, z_t_hours, z_t_blownMany, z_t_badAct, z_t_badWhy, z_t_ruinAct, z_t_ruinWho, z_t_stem, z_t_blown, z_t_heap) → gS E A s.heap (wX11_goHours E o_t a_t v_t_there v_t_wind v_t_force v_t_rains v_t_lost v_t_hours v_t_sights v_t_padMany v_t_acts v_t_blownMany v_t_badAct v_t_badWhy v_t_ruinAct v_t_ruinWho v_t_keptAt v_t_isWriting f_t_at f_t_stem f_t_lungs f_t_blown f_t_heap f_t_act f_t_who f_t_much) H locs → lv_has ls 3 [(0, .ref o_t), (1, .int x1)] → W p l e ({ frames := 7, cells := 0, slots := 0, locals := 162 } : Room) s m args below meth cd H locs 0 0 Q (F0 m 31 ls [])), ∀ (v_t_wind : Int32) (v_t_force : Int32) (v_t_rains : Int32) (v_t_lost : Int32) (v_t_hours : Int32) (v_t_blownMany : Int32) (v_t_badAct : Int32) (v_t_badWhy : Int32) (v_t_ruinAct : Int32) (v_t_ruinWho : Int32) (f_t_stem : (Nat → Int32)) (f_t_blown : (Nat → Int32)) (f_t_heap : (Nat → Int32)) (x1 : Int32) (x2 : Int32) (s1 : Int32) (H : Heap) (locs : List Loc) (ls : Array Slot), fX11_goHours_b80 K31 v_t_there v_t_acts f_t_at f_t_lungs f_t_act f_t_who f_t_much v_t_wind v_t_force v_t_rains v_t_lost v_t_hours v_t_blownMany v_t_badAct v_t_badWhy v_t_ruinAct v_t_ruinWho f_t_stem f_t_blown f_t_heap x1 x2 s1 = some (z_t_wind, z_t_force, z_t_rains, z_t_lost, z_t_hours, z_t_blownMany, z_t_badAct, z_t_badWhy, z_t_ruinAct, z_t_ruinWho, z_t_stem, z_t_blown, z_t_heap) → gS E A s.heap (wX11_goHours E o_t a_t v_t_there v_t_wind v_t_force v_t_rains v_t_lost v_t_hours v_t_sights v_t_padMany v_t_acts v_t_blownMany v_t_badAct v_t_badWhy v_t_ruinAct v_t_ruinWho v_t_keptAt v_t_isWriting f_t_at f_t_stem f_t_lungs f_t_blown f_t_heap f_t_act f_t_who f_t_much) H locs → lv_has ls 3 [(0, .ref o_t), (1, .int x1), (2, .int x2)] → W p l e ({ frames := 7, cells := 0, slots := 0, locals := 162 } : Room) s m args below meth cd H locs 0 0 Q (F0 m 80 ls [.int s1, .ref o_t]) := by
    intro K31 hK31 v_t_wind v_t_force v_t_rains v_t_lost v_t_hours v_t_blownMany v_t_badAct v_t_badWhy v_t_ruinAct v_t_ruinWho f_t_stem f_t_blown f_t_heap x1 x2 s1 H locs ls hf hw hl
    refine g_put (ws' := (wX11_goHours E o_t a_t v_t_there v_t_wind v_t_force v_t_rains v_t_lost v_t_hours v_t_sights v_t_padMany v_t_acts v_t_blownMany s1 v_t_badWhy v_t_ruinAct v_t_ruinWho v_t_keptAt v_t_isWriting f_t_at f_t_stem f_t_lungs f_t_blown f_t_heap f_t_act f_t_who f_t_much)) hx hb hG hown hK hw inlX11 tyX11_ok nmX11 (ci := 9) rfl 0 22 (Nat.le_of_ble_eq_true rfl) rfl wd_19_1 rfl rfl rfl (Nat.le_of_ble_eq_true rfl) rfl dX11_goHours_80 (fun H locs hw => ?_)
    refine lv_aload_n hx hb dX11_goHours_83 rfl (lv_at hl 0 rfl) ?_
    refine lv_iload_n hx hb dX11_goHours_84 rfl (lv_at hl 2 rfl) ?_
    refine lv_if_le (tgt := 92) hx hb dX11_goHours_85 (by decide) (fun hc => ?_) (fun hc => ?_)
    · have hf := g_t hc hf
      refine lv_bipush (v := -6) hx hb dX11_goHours_92 k_bm6 ?_
      exact B94 K31 hK31 v_t_wind v_t_force v_t_rains v_t_lost v_t_hours v_t_blownMany s1 v_t_badWhy v_t_ruinAct v_t_ruinWho f_t_stem f_t_blown f_t_heap x1 x2 (-6) _ _ _ hf hw (lv_sub hl [0, 1, 2] rfl)
    · have hf := g_f hc hf
      refine lv_iload_n hx hb dX11_goHours_88 rfl (lv_at hl 2 rfl) ?_
      refine lv_goto (tgt := 94) hx hb dX11_goHours_89 (by decide) ?_
      exact B94 K31 hK31 v_t_wind v_t_force v_t_rains v_t_lost v_t_hours v_t_blownMany s1 v_t_badWhy v_t_ruinAct v_t_ruinWho f_t_stem f_t_blown f_t_heap x1 x2 x2 _ _ _ hf hw (lv_sub hl [0, 1, 2] rfl)
  have B31 : ∀ n : Nat, ∀ (v_t_wind : Int32) (v_t_force : Int32) (v_t_rains : Int32) (v_t_lost : Int32) (v_t_hours : Int32) (v_t_blownMany : Int32) (v_t_badAct : Int32) (v_t_badWhy : Int32) (v_t_ruinAct : Int32) (v_t_ruinWho : Int32) (f_t_stem : (Nat → Int32)) (f_t_blown : (Nat → Int32)) (f_t_heap : (Nat → Int32)) (x1 : Int32) (H : Heap) (locs : List Loc) (ls : Array Slot), fX11_goHours_b31 v_t_there v_t_acts f_t_at f_t_lungs f_t_act f_t_who f_t_much n v_t_wind v_t_force v_t_rains v_t_lost v_t_hours v_t_blownMany v_t_badAct v_t_badWhy v_t_ruinAct v_t_ruinWho f_t_stem f_t_blown f_t_heap x1 = some (z_t_wind, z_t_force, z_t_rains, z_t_lost, z_t_hours, z_t_blownMany, z_t_badAct, z_t_badWhy, z_t_ruinAct, z_t_ruinWho, z_t_stem, z_t_blown, z_t_heap) → gS E A s.heap (wX11_goHours E o_t a_t v_t_there v_t_wind v_t_force v_t_rains v_t_lost v_t_hours v_t_sights v_t_padMany v_t_acts v_t_blownMany v_t_badAct v_t_badWhy v_t_ruinAct v_t_ruinWho v_t_keptAt v_t_isWriting f_t_at f_t_stem f_t_lungs f_t_blown f_t_heap f_t_act f_t_who f_t_much) H locs → lv_has ls 3 [(0, .ref o_t), (1, .int x1)] → W p l e ({ frames := 7, cells := 0, slots := 0, locals := 162 } : Room) s m args below meth cd H locs 0 0 Q (F0 m 31 ls []) := by
    intro n
    induction n with
    | zero => intro v_t_wind v_t_force v_t_rains v_t_lost v_t_hours v_t_blownMany v_t_badAct v_t_badWhy v_t_ruinAct v_t_ruinWho f_t_stem f_t_blown f_t_heap x1 H locs ls hf hw hl; exact g_no hf
    | succ n ih =>
      intro v_t_wind v_t_force v_t_rains v_t_lost v_t_hours v_t_blownMany v_t_badAct v_t_badWhy v_t_ruinAct v_t_ruinWho f_t_stem f_t_blown f_t_heap x1 H locs ls hf hw hl
      refine lv_iload_n hx hb dX11_goHours_31 rfl (lv_at hl 1 rfl) ?_
      refine lv_aload_n hx hb dX11_goHours_32 rfl (lv_at hl 0 rfl) ?_
      refine g_get hx hb hG hown hK hw inlX11 (ci := 9) rfl 0 19 (Nat.le_of_ble_eq_true rfl) rfl rfl wd_14_3 dX11_goHours_33 ?_
      refine lv_icmp_ge (tgt := 112) hx hb dX11_goHours_36 (by decide) (fun hc => ?_) (fun hc => ?_)
      · have hf := g_t hc hf
        exact B112 v_t_wind v_t_force v_t_rains v_t_lost v_t_hours v_t_blownMany v_t_badAct v_t_badWhy v_t_ruinAct v_t_ruinWho f_t_stem f_t_blown f_t_heap _ _ _ hf hw (lv_sub hl [] rfl)
      · have hf := g_f hc hf
        refine lv_aload_n hx hb dX11_goHours_39 rfl (lv_at hl 0 rfl) ?_
        refine g_get hx hb hG hown hK hw inlX11 (ci := 9) rfl 0 22 (Nat.le_of_ble_eq_true rfl) rfl rfl wd_19_1 dX11_goHours_40 ?_
        refine lv_if_ge (tgt := 112) hx hb dX11_goHours_43 (by decide) (fun hc => ?_) (fun hc => ?_)
        · have hf := g_t hc hf
          exact B112 v_t_wind v_t_force v_t_rains v_t_lost v_t_hours v_t_blownMany v_t_badAct v_t_badWhy v_t_ruinAct v_t_ruinWho f_t_stem f_t_blown f_t_heap _ _ _ hf hw (lv_sub hl [] rfl)
        · have hf := g_f hc hf
          refine lv_aload_n hx hb dX11_goHours_46 rfl (lv_at hl 0 rfl) ?_
          refine lv_aload_n hx hb dX11_goHours_47 rfl (lv_at hl 0 rfl) ?_
          refine g_get hx hb hG hown hK hw inlX11 (ci := 9) rfl 0 16 (Nat.le_of_ble_eq_true rfl) rfl rfl wd_6_5 dX11_goHours_48 ?_
          refine lv_iload_n hx hb dX11_goHours_51 rfl (lv_at hl 1 rfl) ?_
          obtain ⟨hi3, hf⟩ := gA_s hf
          refine g_iald hx hb hK hw 6 rfl hi3 dX11_goHours_52 ?_
          refine lv_aload_n hx hb dX11_goHours_53 rfl (lv_at hl 0 rfl) ?_
          refine g_get hx hb hG hown hK hw inlX11 (ci := 9) rfl 0 17 (Nat.le_of_ble_eq_true rfl) rfl rfl wd_6_6 dX11_goHours_54 ?_
          refine lv_iload_n hx hb dX11_goHours_57 rfl (lv_at hl 1 rfl) ?_
          obtain ⟨hi4, hf⟩ := gA_s hf
          refine g_iald hx hb hK hw 7 rfl hi4 dX11_goHours_58 ?_
          refine lv_aload_n hx hb dX11_goHours_59 rfl (lv_at hl 0 rfl) ?_
          refine g_get hx hb hG hown hK hw inlX11 (ci := 9) rfl 0 18 (Nat.le_of_ble_eq_true rfl) rfl rfl wd_6_7 dX11_goHours_60 ?_
          refine lv_iload_n hx hb dX11_goHours_63 rfl (lv_at hl 1 rfl) ?_
          obtain ⟨hi5, hf⟩ := gA_s hf
          refine g_iald hx hb hK hw 8 rfl hi5 dX11_goHours_64 ?_
          obtain ⟨r6, hc7, hf⟩ := gB_s hf
          refine g_ki0 (is := [0, 1, 2, 3, 4, 5]) hw hA (g_rV hx hb hml hG hown hK hw (is := [0, 1, 2, 3, 4, 5]) rfl (by decide) (mX11_whyNot l E o_t a_t v_t_there v_t_wind v_t_force v_t_rains v_t_lost v_t_hours v_t_sights v_t_padMany v_t_acts v_t_blownMany v_t_badAct v_t_badWhy v_t_ruinAct v_t_ruinWho v_t_keptAt v_t_isWriting f_t_at f_t_stem f_t_lungs f_t_blown f_t_heap (f_t_act (Int32.toNatClampNeg x1)) (f_t_who (Int32.toNatClampNeg x1)) (f_t_much (Int32.toNatClampNeg x1)) r6 hc7) wd_19_20 wd_19_21 wd_19_22 wd_1_5 wd_19_23 hX11_whyNot g_allgood ⟨rfl, rfl⟩ ⟨Nat.le_of_ble_eq_true rfl, Nat.le_of_ble_eq_true rfl⟩ ⟨Nat.zero_le _, Nat.zero_le _⟩ (ci := 9) (q0 := 0) rfl rfl rfl rfl hl.1 rfl (Nat.le_of_ble_eq_true rfl) dX11_goHours_65) rfl (fun H locs hw => ?_)
          refine lv_istore_n (lv' := [(2, .int r6), (0, .ref o_t), (1, .int x1)]) hx hb dX11_goHours_68 rfl hl (Nat.le_of_ble_eq_true rfl) rfl (fun ls hl => ?_)
          refine lv_aload_n hx hb dX11_goHours_69 rfl (lv_at hl 1 rfl) ?_
          refine lv_iload_n hx hb dX11_goHours_70 rfl (lv_at hl 0 rfl) ?_
          refine lv_if_le (tgt := 78) hx hb dX11_goHours_71 (by decide) (fun hc => ?_) (fun hc => ?_)
          · have hf := g_t hc hf
            refine lv_bipush (v := -6) hx hb dX11_goHours_78 k_bm6 ?_
            exact B80 (fX11_goHours_b31 v_t_there v_t_acts f_t_at f_t_lungs f_t_act f_t_who f_t_much n) ih v_t_wind v_t_force v_t_rains v_t_lost v_t_hours v_t_blownMany v_t_badAct v_t_badWhy v_t_ruinAct v_t_ruinWho f_t_stem f_t_blown f_t_heap x1 r6 (-6) _ _ _ hf hw (lv_sub hl [1, 2, 0] rfl)
          · have hf := g_f hc hf
            refine lv_iload_n hx hb dX11_goHours_74 rfl (lv_at hl 2 rfl) ?_
            refine lv_goto (tgt := 80) hx hb dX11_goHours_75 (by decide) ?_
            exact B80 (fX11_goHours_b31 v_t_there v_t_acts f_t_at f_t_lungs f_t_act f_t_who f_t_much n) ih v_t_wind v_t_force v_t_rains v_t_lost v_t_hours v_t_blownMany v_t_badAct v_t_badWhy v_t_ruinAct v_t_ruinWho f_t_stem f_t_blown f_t_heap x1 r6 x1 _ _ _ hf hw (lv_sub hl [1, 2, 0] rfl)
  refine lv_aload_n hx hb dX11_goHours_0 rfl (lv_at hl 0 rfl) ?_
  refine lv_iconst (v := 0) hx hb dX11_goHours_1 k_i0 ?_
  refine g_put (ws' := (wX11_goHours E o_t a_t v_t_there v_t_wind v_t_force v_t_rains v_t_lost v_t_hours v_t_sights v_t_padMany v_t_acts 0 v_t_badAct v_t_badWhy v_t_ruinAct v_t_ruinWho v_t_keptAt v_t_isWriting f_t_at f_t_stem f_t_lungs f_t_blown f_t_heap f_t_act f_t_who f_t_much)) hx hb hG hown hK hw inlX11 tyX11_ok nmX11 (ci := 9) rfl 0 20 (Nat.le_of_ble_eq_true rfl) rfl wd_19_3 rfl rfl rfl (Nat.le_of_ble_eq_true rfl) rfl dX11_goHours_2 (fun H locs hw => ?_)
  refine lv_aload_n hx hb dX11_goHours_5 rfl (lv_at hl 0 rfl) ?_
  refine lv_bipush (v := -6) hx hb dX11_goHours_6 k_bm6 ?_
  refine g_put (ws' := (wX11_goHours E o_t a_t v_t_there v_t_wind v_t_force v_t_rains v_t_lost v_t_hours v_t_sights v_t_padMany v_t_acts 0 (-6) v_t_badWhy v_t_ruinAct v_t_ruinWho v_t_keptAt v_t_isWriting f_t_at f_t_stem f_t_lungs f_t_blown f_t_heap f_t_act f_t_who f_t_much)) hx hb hG hown hK hw inlX11 tyX11_ok nmX11 (ci := 9) rfl 0 22 (Nat.le_of_ble_eq_true rfl) rfl wd_19_1 rfl rfl rfl (Nat.le_of_ble_eq_true rfl) rfl dX11_goHours_8 (fun H locs hw => ?_)
  refine lv_aload_n hx hb dX11_goHours_11 rfl (lv_at hl 0 rfl) ?_
  refine lv_bipush (v := -6) hx hb dX11_goHours_12 k_bm6 ?_
  refine g_put (ws' := (wX11_goHours E o_t a_t v_t_there v_t_wind v_t_force v_t_rains v_t_lost v_t_hours v_t_sights v_t_padMany v_t_acts 0 (-6) (-6) v_t_ruinAct v_t_ruinWho v_t_keptAt v_t_isWriting f_t_at f_t_stem f_t_lungs f_t_blown f_t_heap f_t_act f_t_who f_t_much)) hx hb hG hown hK hw inlX11 tyX11_ok nmX11 (ci := 9) rfl 0 23 (Nat.le_of_ble_eq_true rfl) rfl wd_19_2 rfl rfl rfl (Nat.le_of_ble_eq_true rfl) rfl dX11_goHours_14 (fun H locs hw => ?_)
  refine lv_aload_n hx hb dX11_goHours_17 rfl (lv_at hl 0 rfl) ?_
  refine lv_bipush (v := -6) hx hb dX11_goHours_18 k_bm6 ?_
  refine g_put (ws' := (wX11_goHours E o_t a_t v_t_there v_t_wind v_t_force v_t_rains v_t_lost v_t_hours v_t_sights v_t_padMany v_t_acts 0 (-6) (-6) (-6) v_t_ruinWho v_t_keptAt v_t_isWriting f_t_at f_t_stem f_t_lungs f_t_blown f_t_heap f_t_act f_t_who f_t_much)) hx hb hG hown hK hw inlX11 tyX11_ok nmX11 (ci := 9) rfl 0 24 (Nat.le_of_ble_eq_true rfl) rfl wd_19_18 rfl rfl rfl (Nat.le_of_ble_eq_true rfl) rfl dX11_goHours_20 (fun H locs hw => ?_)
  refine lv_aload_n hx hb dX11_goHours_23 rfl (lv_at hl 0 rfl) ?_
  refine lv_bipush (v := -6) hx hb dX11_goHours_24 k_bm6 ?_
  refine g_put (ws' := (wX11_goHours E o_t a_t v_t_there v_t_wind v_t_force v_t_rains v_t_lost v_t_hours v_t_sights v_t_padMany v_t_acts 0 (-6) (-6) (-6) (-6) v_t_keptAt v_t_isWriting f_t_at f_t_stem f_t_lungs f_t_blown f_t_heap f_t_act f_t_who f_t_much)) hx hb hG hown hK hw inlX11 tyX11_ok nmX11 (ci := 9) rfl 0 25 (Nat.le_of_ble_eq_true rfl) rfl wd_19_19 rfl rfl rfl (Nat.le_of_ble_eq_true rfl) rfl dX11_goHours_26 (fun H locs hw => ?_)
  refine lv_iconst (v := 0) hx hb dX11_goHours_29 k_i0 ?_
  refine lv_istore_n (lv' := [(1, .int 0), (0, .ref o_t)]) hx hb dX11_goHours_30 rfl hl (Nat.le_of_ble_eq_true rfl) rfl (fun ls hl => ?_)
  exact B31 1000 v_t_wind v_t_force v_t_rains v_t_lost v_t_hours 0 (-6) (-6) (-6) (-6) f_t_stem f_t_blown f_t_heap 0 _ _ _ hf hw (lv_sub hl [1, 0] rfl)
theorem hX11_refusal : yX11_refusal.cls = RX11 ∧ yX11_refusal.cls ≠ "java/lang/invoke/MethodHandle" ∧ yX11_refusal.cls ≠ "java/lang/invoke/VarHandle" ∧ (parseMethodDescriptor yX11_refusal.desc).map (fun d => d.parameters.length) = some 0 := by decide +kernel
set_option maxHeartbeats 4000000 in
set_option maxRecDepth 100000 in
theorem mX11_refusal (l : Launch) (E : gE) (o_t : Nat) (a_t : (Nat → Nat)) (v_t_there : Int32) (v_t_wind : Int32) (v_t_force : Int32) (v_t_rains : Int32) (v_t_lost : Int32) (v_t_hours : Int32) (v_t_sights : Int32) (v_t_padMany : Int32) (v_t_acts : Int32) (v_t_blownMany : Int32) (v_t_badAct : Int32) (v_t_badWhy : Int32) (v_t_ruinAct : Int32) (v_t_ruinWho : Int32) (v_t_keptAt : Int32) (v_t_isWriting : Int32) (f_t_at : (Nat → Int32)) (f_t_stem : (Nat → Int32)) (f_t_lungs : (Nat → Int32)) (f_t_blown : (Nat → Int32)) (f_t_heap : (Nat → Int32)) (f_t_pad : (Nat → Int32)) (f_t_act : (Nat → Int32)) (f_t_who : (Nat → Int32)) (f_t_much : (Nat → Int32)) (f_t_had : (Nat → Int32)) (rv : Int32) (z_t_wind : Int32) (z_t_force : Int32) (z_t_rains : Int32) (z_t_lost : Int32) (z_t_hours : Int32) (z_t_acts : Int32) (z_t_blownMany : Int32) (z_t_badAct : Int32) (z_t_badWhy : Int32) (z_t_ruinAct : Int32) (z_t_ruinWho : Int32) (z_t_stem : (Nat → Int32)) (z_t_blown : (Nat → Int32)) (z_t_heap : (Nat → Int32)) (z_t_act : (Nat → Int32)) (z_t_who : (Nat → Int32)) (z_t_much : (Nat → Int32)) (z_t_had : (Nat → Int32)) (hf : fX11_refusal v_t_there v_t_wind v_t_force v_t_rains v_t_lost v_t_hours v_t_padMany v_t_acts v_t_blownMany v_t_badAct v_t_badWhy v_t_ruinAct v_t_ruinWho f_t_at f_t_stem f_t_lungs f_t_blown f_t_heap f_t_pad f_t_act f_t_who f_t_much f_t_had = some (rv, z_t_wind, z_t_force, z_t_rains, z_t_lost, z_t_hours, z_t_acts, z_t_blownMany, z_t_badAct, z_t_badWhy, z_t_ruinAct, z_t_ruinWho, z_t_stem, z_t_blown, z_t_heap, z_t_act, z_t_who, z_t_much, z_t_had)) {sz : Nat} : gMi l yX11_refusal (gW yX11_refusal cX11_refusal 1 (some .int)) ({ frames := 8, cells := 0, slots := 0, locals := 184 } : Room) E [.ref o_t] (wX11_refusal E o_t a_t v_t_there v_t_wind v_t_force v_t_rains v_t_lost v_t_hours v_t_sights v_t_padMany v_t_acts v_t_blownMany v_t_badAct v_t_badWhy v_t_ruinAct v_t_ruinWho v_t_keptAt v_t_isWriting f_t_at f_t_stem f_t_lungs f_t_blown f_t_heap f_t_pad f_t_act f_t_who f_t_much f_t_had) sz rv (wX11_refusal E o_t a_t v_t_there z_t_wind z_t_force z_t_rains z_t_lost z_t_hours v_t_sights v_t_padMany z_t_acts z_t_blownMany z_t_badAct z_t_badWhy z_t_ruinAct z_t_ruinWho v_t_keptAt v_t_isWriting f_t_at z_t_stem f_t_lungs z_t_blown z_t_heap f_t_pad z_t_act z_t_who z_t_much z_t_had) := by
  refine g_openI (own := RX11) (by decide) rfl (Nat.le_of_ble_eq_true rfl) (fun p e s m args below meth cd Q A hx hb hml hown hG hK hA hret hw ls hl => ?_)
  have hl : lv_has ls 1 [(0, .ref o_t)] := hl
  have hret1 : ∀ (t : Int32 × Int32 × Int32 × Int32 × Int32 × Int32 × Int32 × Int32 × Int32 × Int32 × Int32 × Int32 × (Nat → Int32) × (Nat → Int32) × (Nat → Int32) × (Nat → Int32) × (Nat → Int32) × (Nat → Int32) × (Nat → Int32)) (H : Heap) (locs : List Loc) (pc : Nat) (ls : Array Slot), some t = some (rv, z_t_wind, z_t_force, z_t_rains, z_t_lost, z_t_hours, z_t_acts, z_t_blownMany, z_t_badAct, z_t_badWhy, z_t_ruinAct, z_t_ruinWho, z_t_stem, z_t_blown, z_t_heap, z_t_act, z_t_who, z_t_much, z_t_had) → gS E A s.heap (wX11_refusal E o_t a_t v_t_there t.2.1 t.2.2.1 t.2.2.2.1 t.2.2.2.2.1 t.2.2.2.2.2.1 v_t_sights v_t_padMany t.2.2.2.2.2.2.1 t.2.2.2.2.2.2.2.1 t.2.2.2.2.2.2.2.2.1 t.2.2.2.2.2.2.2.2.2.1 t.2.2.2.2.2.2.2.2.2.2.1 t.2.2.2.2.2.2.2.2.2.2.2.1 v_t_keptAt v_t_isWriting f_t_at t.2.2.2.2.2.2.2.2.2.2.2.2.1 f_t_lungs t.2.2.2.2.2.2.2.2.2.2.2.2.2.1 t.2.2.2.2.2.2.2.2.2.2.2.2.2.2.1 f_t_pad t.2.2.2.2.2.2.2.2.2.2.2.2.2.2.2.1 t.2.2.2.2.2.2.2.2.2.2.2.2.2.2.2.2.1 t.2.2.2.2.2.2.2.2.2.2.2.2.2.2.2.2.2.1 t.2.2.2.2.2.2.2.2.2.2.2.2.2.2.2.2.2.2) H locs → decode cX11_refusal pc = .ok (.ireturn, 1) → W p l e ({ frames := 8, cells := 0, slots := 0, locals := 184 } : Room) s m args below meth cd H locs 0 0 Q (F0 m pc ls [.int t.1]) := by
    intro t H locs pc ls h hw hd
    obtain rfl : t = (rv, z_t_wind, z_t_force, z_t_rains, z_t_lost, z_t_hours, z_t_acts, z_t_blownMany, z_t_badAct, z_t_badWhy, z_t_ruinAct, z_t_ruinWho, z_t_stem, z_t_blown, z_t_heap, z_t_act, z_t_who, z_t_much, z_t_had) := Option.some.inj h
    exact hret H locs pc ls hw hd
  have B32 : ∀ (v_t_wind : Int32) (v_t_force : Int32) (v_t_rains : Int32) (v_t_lost : Int32) (v_t_hours : Int32) (v_t_acts : Int32) (v_t_blownMany : Int32) (v_t_badAct : Int32) (v_t_badWhy : Int32) (v_t_ruinAct : Int32) (v_t_ruinWho : Int32) (f_t_stem : (Nat → Int32)) (f_t_blown : (Nat → Int32)) (f_t_heap : (Nat → Int32)) (f_t_act : (Nat → Int32)) (f_t_who : (Nat → Int32)) (f_t_much : (Nat → Int32)) (f_t_had : (Nat → Int32)) (s0 : Int32) (H : Heap) (locs : List Loc) (ls : Array Slot), fX11_refusal_b32 v_t_wind v_t_force v_t_rains v_t_lost v_t_hours v_t_acts v_t_blownMany v_t_badAct v_t_badWhy v_t_ruinAct v_t_ruinWho f_t_stem f_t_blown f_t_heap f_t_act f_t_who f_t_much f_t_had s0 = some (rv, z_t_wind, z_t_force, z_t_rains, z_t_lost, z_t_hours, z_t_acts, z_t_blownMany, z_t_badAct, z_t_badWhy, z_t_ruinAct, z_t_ruinWho, z_t_stem, z_t_blown, z_t_heap, z_t_act, z_t_who, z_t_much, z_t_had) → gS E A s.heap (wX11_refusal E o_t a_t v_t_there v_t_wind v_t_force v_t_rains v_t_lost v_t_hours v_t_sights v_t_padMany v_t_acts v_t_blownMany v_t_badAct v_t_badWhy v_t_ruinAct v_t_ruinWho v_t_keptAt v_t_isWriting f_t_at f_t_stem f_t_lungs f_t_blown f_t_heap f_t_pad f_t_act f_t_who f_t_much f_t_had) H locs → lv_has ls 1 [] → W p l e ({ frames := 8, cells := 0, slots := 0, locals := 184 } : Room) s m args below meth cd H locs 0 0 Q (F0 m 32 ls [.int s0]) := by
    intro  v_t_wind v_t_force v_t_rains v_t_lost v_t_hours v_t_acts v_t_blownMany v_t_badAct v_t_badWhy v_t_ruinAct v_t_ruinWho f_t_stem f_t_blown f_t_heap f_t_act f_t_who f_t_much f_t_had s0 H locs ls hf hw hl
    exact hret1 (s0, v_t_wind, v_t_force, v_t_rains, v_t_lost, v_t_hours, v_t_acts, v_t_blownMany, v_t_badAct, v_t_badWhy, v_t_ruinAct, v_t_ruinWho, f_t_stem, f_t_blown, f_t_heap, f_t_act, f_t_who, f_t_much, f_t_had) _ _ _ _ hf hw dX11_refusal_32
  refine lv_aload_n hx hb dX11_refusal_0 rfl (lv_at hl 0 rfl) ?_
  obtain ⟨r1, hc2, hf⟩ := gB_s hf
  refine g_kv (is := [0, 2, 4, 5, 10]) (isR := [1, 3, 6, 7, 8, 9]) (nW := 11) (w1 := (wX11_keepNow E o_t a_t v_t_there v_t_wind v_t_force v_t_rains v_t_lost v_t_hours v_t_sights v_t_padMany v_t_acts v_t_blownMany v_t_badAct v_t_badWhy v_t_ruinAct v_t_ruinWho v_t_keptAt v_t_isWriting f_t_stem f_t_blown f_t_heap r1)) (ws' := (wX11_refusal E o_t a_t v_t_there v_t_wind v_t_force v_t_rains v_t_lost v_t_hours v_t_sights v_t_padMany v_t_acts v_t_blownMany v_t_badAct v_t_badWhy v_t_ruinAct v_t_ruinWho v_t_keptAt v_t_isWriting f_t_at f_t_stem f_t_lungs f_t_blown f_t_heap f_t_pad f_t_act f_t_who f_t_much r1)) hw hA (g_rV hx hb hml hG hown hK hw (is := [0, 2, 4, 5, 10]) rfl (by decide) (mX11_keepNow l E o_t a_t v_t_there v_t_wind v_t_force v_t_rains v_t_lost v_t_hours v_t_sights v_t_padMany v_t_acts v_t_blownMany v_t_badAct v_t_badWhy v_t_ruinAct v_t_ruinWho v_t_keptAt v_t_isWriting f_t_stem f_t_blown f_t_heap f_t_had r1 hc2) wd_19_8 wd_19_9 wd_19_10 wd_1_5 wd_19_11 hX11_keepNow g_allgood ⟨rfl, rfl⟩ ⟨Nat.le_of_ble_eq_true rfl, Nat.le_of_ble_eq_true rfl⟩ ⟨Nat.zero_le _, Nat.zero_le _⟩ (ci := 9) (q0 := 0) rfl rfl rfl rfl hl.1 rfl (Nat.le_of_ble_eq_true rfl) dX11_refusal_1) rfl (g_had [o_t, (a_t 2), (a_t 4), (a_t 5), (a_t 21)] rfl rfl) rfl (⟨⟨_, rfl, rfl⟩, ⟨⟨_, rfl, rfl⟩, ⟨⟨_, rfl, rfl⟩, ⟨⟨_, rfl, rfl⟩, ⟨⟨_, rfl, rfl⟩, ⟨⟨_, rfl, rfl⟩, trivial⟩⟩⟩⟩⟩⟩) rfl rfl (by decide) (fun H locs hw => ?_)
  refine lv_aload_n hx hb dX11_refusal_4 rfl (lv_at hl 0 rfl) ?_
  obtain ⟨⟨r3_0, r3_1, r3_2, r3_3, r3_4⟩, hc4, hf⟩ := gB_s hf
  refine g_ki (is := [0, 6, 7, 8, 9]) (isR := [1, 2, 3, 4, 5, 10]) (nW := 11) (w1 := (wX11_fault E o_t a_t v_t_there v_t_wind v_t_force v_t_rains v_t_lost v_t_hours v_t_sights v_t_padMany r3_1 v_t_blownMany v_t_badAct v_t_badWhy v_t_ruinAct v_t_ruinWho v_t_keptAt v_t_isWriting f_t_pad r3_2 r3_3 r3_4)) (ws' := (wX11_refusal E o_t a_t v_t_there v_t_wind v_t_force v_t_rains v_t_lost v_t_hours v_t_sights v_t_padMany r3_1 v_t_blownMany v_t_badAct v_t_badWhy v_t_ruinAct v_t_ruinWho v_t_keptAt v_t_isWriting f_t_at f_t_stem f_t_lungs f_t_blown f_t_heap f_t_pad r3_2 r3_3 r3_4 r1)) hw hA (g_rV hx hb hml hG hown hK hw (is := [0, 6, 7, 8, 9]) rfl (by decide) (mX11_fault l E o_t a_t v_t_there v_t_wind v_t_force v_t_rains v_t_lost v_t_hours v_t_sights v_t_padMany v_t_acts v_t_blownMany v_t_badAct v_t_badWhy v_t_ruinAct v_t_ruinWho v_t_keptAt v_t_isWriting f_t_pad f_t_act f_t_who f_t_much r3_0 r3_1 r3_2 r3_3 r3_4 hc4) wd_19_13 wd_14_0 wd_14_1 wd_1_5 wd_14_2 hX11_fault g_allgood ⟨rfl, rfl⟩ ⟨Nat.le_of_ble_eq_true rfl, Nat.le_of_ble_eq_true rfl⟩ ⟨Nat.zero_le _, Nat.zero_le _⟩ (ci := 9) (q0 := 0) rfl rfl rfl rfl hl.1 rfl (Nat.le_of_ble_eq_true rfl) dX11_refusal_5) rfl (g_had [o_t, (a_t 14), (a_t 16), (a_t 17), (a_t 18)] rfl rfl) rfl (⟨⟨_, rfl, rfl⟩, ⟨⟨_, rfl, rfl⟩, ⟨⟨_, rfl, rfl⟩, ⟨⟨_, rfl, rfl⟩, ⟨⟨_, rfl, rfl⟩, ⟨⟨_, rfl, rfl⟩, trivial⟩⟩⟩⟩⟩⟩) rfl rfl (by decide) (fun H locs hw => ?_)
  refine lv_if_lt (tgt := 14) hx hb dX11_refusal_8 (by decide) (fun hc => ?_) (fun hc => ?_)
  · have hf := g_t hc hf
    refine lv_aload_n hx hb dX11_refusal_14 rfl (lv_at hl 0 rfl) ?_
    obtain ⟨⟨r5_0, r5_1, r5_2, r5_3, r5_4, r5_5, r5_6, r5_7, r5_8, r5_9, r5_10, r5_11, r5_12⟩, hc6, hf⟩ := gB_s hf
    refine g_kv (is := [0, 1, 2, 3, 4, 5, 7, 8, 9]) (isR := [6, 10]) (nW := 11) (w1 := (wX11_goHours E o_t a_t v_t_there r5_0 r5_1 r5_2 r5_3 r5_4 v_t_sights v_t_padMany r3_1 r5_5 r5_6 r5_7 r5_8 r5_9 v_t_keptAt v_t_isWriting f_t_at r5_10 f_t_lungs r5_11 r5_12 r3_2 r3_3 r3_4)) (ws' := (wX11_refusal E o_t a_t v_t_there r5_0 r5_1 r5_2 r5_3 r5_4 v_t_sights v_t_padMany r3_1 r5_5 r5_6 r5_7 r5_8 r5_9 v_t_keptAt v_t_isWriting f_t_at r5_10 f_t_lungs r5_11 r5_12 f_t_pad r3_2 r3_3 r3_4 r1)) hw hA (g_rV hx hb hml hG hown hK hw (is := [0, 1, 2, 3, 4, 5, 7, 8, 9]) rfl (by decide) (mX11_goHours l E o_t a_t v_t_there v_t_wind v_t_force v_t_rains v_t_lost v_t_hours v_t_sights v_t_padMany r3_1 v_t_blownMany v_t_badAct v_t_badWhy v_t_ruinAct v_t_ruinWho v_t_keptAt v_t_isWriting f_t_at f_t_stem f_t_lungs f_t_blown f_t_heap r3_2 r3_3 r3_4 r5_0 r5_1 r5_2 r5_3 r5_4 r5_5 r5_6 r5_7 r5_8 r5_9 r5_10 r5_11 r5_12 hc6) wd_19_14 wd_19_15 wd_19_16 wd_1_5 wd_19_17 hX11_goHours g_allgood ⟨rfl, rfl⟩ ⟨Nat.le_of_ble_eq_true rfl, Nat.le_of_ble_eq_true rfl⟩ ⟨Nat.zero_le _, Nat.zero_le _⟩ (ci := 9) (q0 := 0) rfl rfl rfl rfl hl.1 rfl (Nat.le_of_ble_eq_true rfl) dX11_refusal_15) rfl (g_had [o_t, (a_t 1), (a_t 2), (a_t 3), (a_t 4), (a_t 5), (a_t 16), (a_t 17), (a_t 18)] rfl rfl) rfl (⟨⟨_, rfl, rfl⟩, ⟨⟨_, rfl, rfl⟩, trivial⟩⟩) rfl rfl (by decide) (fun H locs hw => ?_)
    refine lv_aload_n hx hb dX11_refusal_18 rfl (lv_at hl 0 rfl) ?_
    refine g_get hx hb hG hown hK hw inlX11 (ci := 9) rfl 0 22 (Nat.le_of_ble_eq_true rfl) rfl rfl wd_19_1 dX11_refusal_19 ?_
    refine lv_if_lt (tgt := 30) hx hb dX11_refusal_22 (by decide) (fun hc => ?_) (fun hc => ?_)
    · have hf := g_t hc hf
      refine lv_bipush (v := -6) hx hb dX11_refusal_30 k_bm6 ?_
      exact B32 r5_0 r5_1 r5_2 r5_3 r5_4 r3_1 r5_5 r5_6 r5_7 r5_8 r5_9 r5_10 r5_11 r5_12 r3_2 r3_3 r3_4 r1 (-6) _ _ _ hf hw (lv_sub hl [] rfl)
    · have hf := g_f hc hf
      refine lv_bipush (v := -3) hx hb dX11_refusal_25 k_bm3 ?_
      refine lv_goto (tgt := 32) hx hb dX11_refusal_27 (by decide) ?_
      exact B32 r5_0 r5_1 r5_2 r5_3 r5_4 r3_1 r5_5 r5_6 r5_7 r5_8 r5_9 r5_10 r5_11 r5_12 r3_2 r3_3 r3_4 r1 (-3) _ _ _ hf hw (lv_sub hl [] rfl)
  · have hf := g_f hc hf
    refine lv_bipush (v := -5) hx hb dX11_refusal_11 k_bm5 ?_
    exact hret1 ((-5), v_t_wind, v_t_force, v_t_rains, v_t_lost, v_t_hours, r3_1, v_t_blownMany, v_t_badAct, v_t_badWhy, v_t_ruinAct, v_t_ruinWho, f_t_stem, f_t_blown, f_t_heap, r3_2, r3_3, r3_4, r1) _ _ _ _ hf hw dX11_refusal_13
theorem hX11_judge : yX11_judge.cls = RX11 ∧ yX11_judge.cls ≠ "java/lang/invoke/MethodHandle" ∧ yX11_judge.cls ≠ "java/lang/invoke/VarHandle" ∧ (parseMethodDescriptor yX11_judge.desc).map (fun d => d.parameters.length) = some 1 := by decide +kernel
set_option maxHeartbeats 4000000 in
set_option maxRecDepth 100000 in
theorem mX11_judge (l : Launch) (E : gE) (o_t : Nat) (a_t : (Nat → Nat)) (v_t_there : Int32) (v_t_wind : Int32) (v_t_force : Int32) (v_t_rains : Int32) (v_t_lost : Int32) (v_t_hours : Int32) (v_t_sights : Int32) (v_t_padMany : Int32) (v_t_acts : Int32) (v_t_blownMany : Int32) (v_t_badAct : Int32) (v_t_badWhy : Int32) (v_t_ruinAct : Int32) (v_t_ruinWho : Int32) (v_t_keptAt : Int32) (v_t_isWriting : Int32) (f_t_at : (Nat → Int32)) (f_t_stem : (Nat → Int32)) (f_t_lungs : (Nat → Int32)) (f_t_blown : (Nat → Int32)) (f_t_heap : (Nat → Int32)) (f_t_pad : (Nat → Int32)) (f_t_act : (Nat → Int32)) (f_t_who : (Nat → Int32)) (f_t_much : (Nat → Int32)) (f_t_had : (Nat → Int32)) (x1 : Int32) (rv : Int32) (z_t_wind : Int32) (z_t_force : Int32) (z_t_rains : Int32) (z_t_lost : Int32) (z_t_hours : Int32) (z_t_acts : Int32) (z_t_blownMany : Int32) (z_t_badAct : Int32) (z_t_badWhy : Int32) (z_t_ruinAct : Int32) (z_t_ruinWho : Int32) (z_t_stem : (Nat → Int32)) (z_t_blown : (Nat → Int32)) (z_t_heap : (Nat → Int32)) (z_t_act : (Nat → Int32)) (z_t_who : (Nat → Int32)) (z_t_much : (Nat → Int32)) (z_t_had : (Nat → Int32)) (hf : fX11_judge v_t_there v_t_wind v_t_force v_t_rains v_t_lost v_t_hours v_t_padMany v_t_acts v_t_blownMany v_t_badAct v_t_badWhy v_t_ruinAct v_t_ruinWho f_t_at f_t_stem f_t_lungs f_t_blown f_t_heap f_t_pad f_t_act f_t_who f_t_much f_t_had x1 = some (rv, z_t_wind, z_t_force, z_t_rains, z_t_lost, z_t_hours, z_t_acts, z_t_blownMany, z_t_badAct, z_t_badWhy, z_t_ruinAct, z_t_ruinWho, z_t_stem, z_t_blown, z_t_heap, z_t_act, z_t_who, z_t_much, z_t_had)) {sz : Nat} : gMi l yX11_judge (gW yX11_judge cX11_judge 3 (some .int)) ({ frames := 9, cells := 0, slots := 0, locals := 204 } : Room) E [.ref o_t, .int x1] (wX11_judge E o_t a_t v_t_there v_t_wind v_t_force v_t_rains v_t_lost v_t_hours v_t_sights v_t_padMany v_t_acts v_t_blownMany v_t_badAct v_t_badWhy v_t_ruinAct v_t_ruinWho v_t_keptAt v_t_isWriting f_t_at f_t_stem f_t_lungs f_t_blown f_t_heap f_t_pad f_t_act f_t_who f_t_much f_t_had) sz rv (wX11_judge E o_t a_t v_t_there z_t_wind z_t_force z_t_rains z_t_lost z_t_hours v_t_sights v_t_padMany z_t_acts z_t_blownMany z_t_badAct z_t_badWhy z_t_ruinAct z_t_ruinWho v_t_keptAt v_t_isWriting f_t_at z_t_stem f_t_lungs z_t_blown z_t_heap f_t_pad z_t_act z_t_who z_t_much z_t_had) := by
  refine g_openI (own := RX11) (by decide) rfl (Nat.le_of_ble_eq_true rfl) (fun p e s m args below meth cd Q A hx hb hml hown hG hK hA hret hw ls hl => ?_)
  have hl : lv_has ls 3 [(0, .ref o_t), (1, .int x1)] := hl
  have hret1 : ∀ (t : Int32 × Int32 × Int32 × Int32 × Int32 × Int32 × Int32 × Int32 × Int32 × Int32 × Int32 × Int32 × (Nat → Int32) × (Nat → Int32) × (Nat → Int32) × (Nat → Int32) × (Nat → Int32) × (Nat → Int32) × (Nat → Int32)) (H : Heap) (locs : List Loc) (pc : Nat) (ls : Array Slot), some t = some (rv, z_t_wind, z_t_force, z_t_rains, z_t_lost, z_t_hours, z_t_acts, z_t_blownMany, z_t_badAct, z_t_badWhy, z_t_ruinAct, z_t_ruinWho, z_t_stem, z_t_blown, z_t_heap, z_t_act, z_t_who, z_t_much, z_t_had) → gS E A s.heap (wX11_judge E o_t a_t v_t_there t.2.1 t.2.2.1 t.2.2.2.1 t.2.2.2.2.1 t.2.2.2.2.2.1 v_t_sights v_t_padMany t.2.2.2.2.2.2.1 t.2.2.2.2.2.2.2.1 t.2.2.2.2.2.2.2.2.1 t.2.2.2.2.2.2.2.2.2.1 t.2.2.2.2.2.2.2.2.2.2.1 t.2.2.2.2.2.2.2.2.2.2.2.1 v_t_keptAt v_t_isWriting f_t_at t.2.2.2.2.2.2.2.2.2.2.2.2.1 f_t_lungs t.2.2.2.2.2.2.2.2.2.2.2.2.2.1 t.2.2.2.2.2.2.2.2.2.2.2.2.2.2.1 f_t_pad t.2.2.2.2.2.2.2.2.2.2.2.2.2.2.2.1 t.2.2.2.2.2.2.2.2.2.2.2.2.2.2.2.2.1 t.2.2.2.2.2.2.2.2.2.2.2.2.2.2.2.2.2.1 t.2.2.2.2.2.2.2.2.2.2.2.2.2.2.2.2.2.2) H locs → decode cX11_judge pc = .ok (.ireturn, 1) → W p l e ({ frames := 9, cells := 0, slots := 0, locals := 204 } : Room) s m args below meth cd H locs 0 0 Q (F0 m pc ls [.int t.1]) := by
    intro t H locs pc ls h hw hd
    obtain rfl : t = (rv, z_t_wind, z_t_force, z_t_rains, z_t_lost, z_t_hours, z_t_acts, z_t_blownMany, z_t_badAct, z_t_badWhy, z_t_ruinAct, z_t_ruinWho, z_t_stem, z_t_blown, z_t_heap, z_t_act, z_t_who, z_t_much, z_t_had) := Option.some.inj h
    exact hret H locs pc ls hw hd
  have B41 : ∀ (v_t_wind : Int32) (v_t_force : Int32) (v_t_rains : Int32) (v_t_lost : Int32) (v_t_hours : Int32) (v_t_acts : Int32) (v_t_blownMany : Int32) (v_t_badAct : Int32) (v_t_badWhy : Int32) (v_t_ruinAct : Int32) (v_t_ruinWho : Int32) (f_t_stem : (Nat → Int32)) (f_t_blown : (Nat → Int32)) (f_t_heap : (Nat → Int32)) (f_t_act : (Nat → Int32)) (f_t_who : (Nat → Int32)) (f_t_much : (Nat → Int32)) (f_t_had : (Nat → Int32)) (x2 : Int32) (H : Heap) (locs : List Loc) (ls : Array Slot), fX11_judge_b41 v_t_wind v_t_force v_t_rains v_t_lost v_t_hours v_t_acts v_t_blownMany v_t_badAct v_t_badWhy v_t_ruinAct v_t_ruinWho f_t_stem f_t_blown f_t_heap f_t_act f_t_who f_t_much f_t_had x2 = some (rv, z_t_wind, z_t_force, z_t_rains, z_t_lost, z_t_hours, z_t_acts, z_t_blownMany, z_t_badAct, z_t_badWhy, z_t_ruinAct, z_t_ruinWho, z_t_stem, z_t_blown, z_t_heap, z_t_act, z_t_who, z_t_much, z_t_had) → gS E A s.heap (wX11_judge E o_t a_t v_t_there v_t_wind v_t_force v_t_rains v_t_lost v_t_hours v_t_sights v_t_padMany v_t_acts v_t_blownMany v_t_badAct v_t_badWhy v_t_ruinAct v_t_ruinWho v_t_keptAt v_t_isWriting f_t_at f_t_stem f_t_lungs f_t_blown f_t_heap f_t_pad f_t_act f_t_who f_t_much f_t_had) H locs → lv_has ls 3 [(2, .int x2)] → W p l e ({ frames := 9, cells := 0, slots := 0, locals := 204 } : Room) s m args below meth cd H locs 0 0 Q (F0 m 41 ls []) := by
    intro  v_t_wind v_t_force v_t_rains v_t_lost v_t_hours v_t_acts v_t_blownMany v_t_badAct v_t_badWhy v_t_ruinAct v_t_ruinWho f_t_stem f_t_blown f_t_heap f_t_act f_t_who f_t_much f_t_had x2 H locs ls hf hw hl
    refine lv_iload_n hx hb dX11_judge_41 rfl (lv_at hl 0 rfl) ?_
    exact hret1 (x2, v_t_wind, v_t_force, v_t_rains, v_t_lost, v_t_hours, v_t_acts, v_t_blownMany, v_t_badAct, v_t_badWhy, v_t_ruinAct, v_t_ruinWho, f_t_stem, f_t_blown, f_t_heap, f_t_act, f_t_who, f_t_much, f_t_had) _ _ _ _ hf hw dX11_judge_42
  have B70 : ∀ (v_t_wind : Int32) (v_t_force : Int32) (v_t_rains : Int32) (v_t_lost : Int32) (v_t_hours : Int32) (v_t_acts : Int32) (v_t_blownMany : Int32) (v_t_badAct : Int32) (v_t_badWhy : Int32) (v_t_ruinAct : Int32) (v_t_ruinWho : Int32) (f_t_stem : (Nat → Int32)) (f_t_blown : (Nat → Int32)) (f_t_heap : (Nat → Int32)) (f_t_act : (Nat → Int32)) (f_t_who : (Nat → Int32)) (f_t_much : (Nat → Int32)) (f_t_had : (Nat → Int32)) (s0 : Int32) (H : Heap) (locs : List Loc) (ls : Array Slot), fX11_judge_b70 v_t_wind v_t_force v_t_rains v_t_lost v_t_hours v_t_acts v_t_blownMany v_t_badAct v_t_badWhy v_t_ruinAct v_t_ruinWho f_t_stem f_t_blown f_t_heap f_t_act f_t_who f_t_much f_t_had s0 = some (rv, z_t_wind, z_t_force, z_t_rains, z_t_lost, z_t_hours, z_t_acts, z_t_blownMany, z_t_badAct, z_t_badWhy, z_t_ruinAct, z_t_ruinWho, z_t_stem, z_t_blown, z_t_heap, z_t_act, z_t_who, z_t_much, z_t_had) → gS E A s.heap (wX11_judge E o_t a_t v_t_there v_t_wind v_t_force v_t_rains v_t_lost v_t_hours v_t_sights v_t_padMany v_t_acts v_t_blownMany v_t_badAct v_t_badWhy v_t_ruinAct v_t_ruinWho v_t_keptAt v_t_isWriting f_t_at f_t_stem f_t_lungs f_t_blown f_t_heap f_t_pad f_t_act f_t_who f_t_much f_t_had) H locs → lv_has ls 3 [] → W p l e ({ frames := 9, cells := 0, slots := 0, locals := 204 } : Room) s m args below meth cd H locs 0 0 Q (F0 m 70 ls [.int s0]) := by
    intro  v_t_wind v_t_force v_t_rains v_t_lost v_t_hours v_t_acts v_t_blownMany v_t_badAct v_t_badWhy v_t_ruinAct v_t_ruinWho f_t_stem f_t_blown f_t_heap f_t_act f_t_who f_t_much f_t_had s0 H locs ls hf hw hl
    exact hret1 (s0, v_t_wind, v_t_force, v_t_rains, v_t_lost, v_t_hours, v_t_acts, v_t_blownMany, v_t_badAct, v_t_badWhy, v_t_ruinAct, v_t_ruinWho, f_t_stem, f_t_blown, f_t_heap, f_t_act, f_t_who, f_t_much, f_t_had) _ _ _ _ hf hw dX11_judge_70
  have B43 : ∀ (v_t_wind : Int32) (v_t_force : Int32) (v_t_rains : Int32) (v_t_lost : Int32) (v_t_hours : Int32) (v_t_acts : Int32) (v_t_blownMany : Int32) (v_t_badAct : Int32) (v_t_badWhy : Int32) (v_t_ruinAct : Int32) (v_t_ruinWho : Int32) (f_t_stem : (Nat → Int32)) (f_t_blown : (Nat → Int32)) (f_t_heap : (Nat → Int32)) (f_t_act : (Nat → Int32)) (f_t_who : (Nat → Int32)) (f_t_much : (Nat → Int32)) (f_t_had : (Nat → Int32)) (x1 : Int32) (H : Heap) (locs : List Loc) (ls : Array Slot), fX11_judge_b43 v_t_wind v_t_force v_t_rains v_t_lost v_t_hours v_t_acts v_t_blownMany v_t_badAct v_t_badWhy v_t_ruinAct v_t_ruinWho f_t_stem f_t_blown f_t_heap f_t_act f_t_who f_t_much f_t_had x1 = some (rv, z_t_wind, z_t_force, z_t_rains, z_t_lost, z_t_hours, z_t_acts, z_t_blownMany, z_t_badAct, z_t_badWhy, z_t_ruinAct, z_t_ruinWho, z_t_stem, z_t_blown, z_t_heap, z_t_act, z_t_who, z_t_much, z_t_had) → gS E A s.heap (wX11_judge E o_t a_t v_t_there v_t_wind v_t_force v_t_rains v_t_lost v_t_hours v_t_sights v_t_padMany v_t_acts v_t_blownMany v_t_badAct v_t_badWhy v_t_ruinAct v_t_ruinWho v_t_keptAt v_t_isWriting f_t_at f_t_stem f_t_lungs f_t_blown f_t_heap f_t_pad f_t_act f_t_who f_t_much f_t_had) H locs → lv_has ls 3 [(0, .ref o_t), (1, .int x1)] → W p l e ({ frames := 9, cells := 0, slots := 0, locals := 204 } : Room) s m args below meth cd H locs 0 0 Q (F0 m 43 ls []) := by
    intro  v_t_wind v_t_force v_t_rains v_t_lost v_t_hours v_t_acts v_t_blownMany v_t_badAct v_t_badWhy v_t_ruinAct v_t_ruinWho f_t_stem f_t_blown f_t_heap f_t_act f_t_who f_t_much f_t_had x1 H locs ls hf hw hl
    refine lv_iload_n hx hb dX11_judge_43 rfl (lv_at hl 1 rfl) ?_
    refine lv_if_ne (tgt := 54) hx hb dX11_judge_44 (by decide) (fun hc => ?_) (fun hc => ?_)
    · have hf := g_f hc hf
      refine lv_iload_n hx hb dX11_judge_54 rfl (lv_at hl 1 rfl) ?_
      refine lv_iconst (v := 1) hx hb dX11_judge_55 k_i1 ?_
      refine lv_icmp_ne (tgt := 66) hx hb dX11_judge_56 (by decide) (fun hc => ?_) (fun hc => ?_)
      · have hf := g_f hc hf
        refine lv_aload_n hx hb dX11_judge_66 rfl (lv_at hl 0 rfl) ?_
        refine g_get hx hb hG hown hK hw inlX11 (ci := 9) rfl 0 20 (Nat.le_of_ble_eq_true rfl) rfl rfl wd_19_3 dX11_judge_67 ?_
        exact B70 v_t_wind v_t_force v_t_rains v_t_lost v_t_hours v_t_acts v_t_blownMany v_t_badAct v_t_badWhy v_t_ruinAct v_t_ruinWho f_t_stem f_t_blown f_t_heap f_t_act f_t_who f_t_much f_t_had v_t_blownMany _ _ _ hf hw (lv_sub hl [] rfl)
      · have hf := g_t hc hf
        refine lv_aload_n hx hb dX11_judge_59 rfl (lv_at hl 0 rfl) ?_
        refine g_get hx hb hG hown hK hw inlX11 (ci := 9) rfl 0 23 (Nat.le_of_ble_eq_true rfl) rfl rfl wd_19_2 dX11_judge_60 ?_
        refine lv_goto (tgt := 70) hx hb dX11_judge_63 (by decide) ?_
        exact B70 v_t_wind v_t_force v_t_rains v_t_lost v_t_hours v_t_acts v_t_blownMany v_t_badAct v_t_badWhy v_t_ruinAct v_t_ruinWho f_t_stem f_t_blown f_t_heap f_t_act f_t_who f_t_much f_t_had v_t_badWhy _ _ _ hf hw (lv_sub hl [] rfl)
    · have hf := g_t hc hf
      refine lv_aload_n hx hb dX11_judge_47 rfl (lv_at hl 0 rfl) ?_
      refine g_get hx hb hG hown hK hw inlX11 (ci := 9) rfl 0 22 (Nat.le_of_ble_eq_true rfl) rfl rfl wd_19_1 dX11_judge_48 ?_
      refine lv_goto (tgt := 70) hx hb dX11_judge_51 (by decide) ?_
      exact B70 v_t_wind v_t_force v_t_rains v_t_lost v_t_hours v_t_acts v_t_blownMany v_t_badAct v_t_badWhy v_t_ruinAct v_t_ruinWho f_t_stem f_t_blown f_t_heap f_t_act f_t_who f_t_much f_t_had v_t_badAct _ _ _ hf hw (lv_sub hl [] rfl)
  refine lv_iload_n hx hb dX11_judge_0 rfl (lv_at hl 1 rfl) ?_
  refine lv_i2l hx hb dX11_judge_1 rfl ?_
  refine lv_lconst (v := 0) hx hb dX11_judge_2 k_l0 ?_
  refine lv_ldc2 hx hb hown (hG _ wd_11_15) dX11_judge_3 ?_
  obtain ⟨r1, hc2, hf⟩ := gB_s hf
  refine g_ki0 (is := []) hw hA (g_rS hx hb hml hG hown hK hw (is := []) rfl (by decide) (mX11_in l E (Int32.toInt64 x1) 0 2 r1 hc2) wd_8_10 wd_8_11 wd_1_5 wd_8_12 hX11_in g_allgood ⟨rfl, rfl⟩ ⟨Nat.le_of_ble_eq_true rfl, Nat.le_of_ble_eq_true rfl⟩ ⟨Nat.zero_le _, Nat.zero_le _⟩ rfl hl.1 rfl (Nat.le_of_ble_eq_true rfl) dX11_judge_6) rfl (fun H locs hw => ?_)
  refine lv_if_ne (tgt := 15) hx hb dX11_judge_9 (by decide) (fun hc => ?_) (fun hc => ?_)
  · have hf := g_f hc hf
    refine lv_aload_n hx hb dX11_judge_15 rfl (lv_at hl 0 rfl) ?_
    refine lv_aload_n hx hb dX11_judge_16 rfl (lv_at hl 0 rfl) ?_
    obtain ⟨⟨r3_0, r3_1, r3_2, r3_3, r3_4, r3_5, r3_6, r3_7, r3_8, r3_9, r3_10, r3_11, r3_12, r3_13, r3_14, r3_15, r3_16, r3_17, r3_18⟩, hc4, hf⟩ := gB_s hf
    refine g_ki (is := [0, 1, 2, 3, 4, 5, 6, 7, 8, 9, 10]) (isR := []) (nW := 11) (w1 := (wX11_refusal E o_t a_t v_t_there r3_1 r3_2 r3_3 r3_4 r3_5 v_t_sights v_t_padMany r3_6 r3_7 r3_8 r3_9 r3_10 r3_11 v_t_keptAt v_t_isWriting f_t_at r3_12 f_t_lungs r3_13 r3_14 f_t_pad r3_15 r3_16 r3_17 r3_18)) (ws' := (wX11_judge E o_t a_t v_t_there r3_1 r3_2 r3_3 r3_4 r3_5 v_t_sights v_t_padMany r3_6 r3_7 r3_8 r3_9 r3_10 r3_11 v_t_keptAt v_t_isWriting f_t_at r3_12 f_t_lungs r3_13 r3_14 f_t_pad r3_15 r3_16 r3_17 r3_18)) hw hA (g_rV hx hb hml hG hown hK hw (is := [0, 1, 2, 3, 4, 5, 6, 7, 8, 9, 10]) rfl (by decide) (mX11_refusal l E o_t a_t v_t_there v_t_wind v_t_force v_t_rains v_t_lost v_t_hours v_t_sights v_t_padMany v_t_acts v_t_blownMany v_t_badAct v_t_badWhy v_t_ruinAct v_t_ruinWho v_t_keptAt v_t_isWriting f_t_at f_t_stem f_t_lungs f_t_blown f_t_heap f_t_pad f_t_act f_t_who f_t_much f_t_had r3_0 r3_1 r3_2 r3_3 r3_4 r3_5 r3_6 r3_7 r3_8 r3_9 r3_10 r3_11 r3_12 r3_13 r3_14 r3_15 r3_16 r3_17 r3_18 hc4) wd_19_4 wd_19_5 wd_19_6 wd_1_5 wd_19_7 hX11_refusal g_allgood ⟨rfl, rfl⟩ ⟨Nat.le_of_ble_eq_true rfl, Nat.le_of_ble_eq_true rfl⟩ ⟨Nat.zero_le _, Nat.zero_le _⟩ (ci := 9) (q0 := 0) rfl rfl rfl rfl hl.1 rfl (Nat.le_of_ble_eq_true rfl) dX11_judge_17) rfl (g_had [o_t, (a_t 1), (a_t 2), (a_t 3), (a_t 4), (a_t 5), (a_t 14), (a_t 16), (a_t 17), (a_t 18), (a_t 21)] rfl rfl) rfl (trivial) rfl rfl (by decide) (fun H locs hw => ?_)
    obtain ⟨⟨r5_0, r5_1, r5_2, r5_3, r5_4, r5_5, r5_6, r5_7, r5_8⟩, hc6, hf⟩ := gB_s hf
    refine g_ki (is := [0, 2, 4, 5, 10]) (isR := [1, 3, 6, 7, 8, 9]) (nW := 11) (w1 := (wX11_back E o_t a_t v_t_there r5_1 r5_2 r5_3 r5_4 r5_5 v_t_sights v_t_padMany r3_6 r3_7 r3_8 r3_9 r3_10 r3_11 v_t_keptAt v_t_isWriting r5_6 r5_7 r5_8 r3_18)) (ws' := (wX11_judge E o_t a_t v_t_there r5_1 r5_2 r5_3 r5_4 r5_5 v_t_sights v_t_padMany r3_6 r3_7 r3_8 r3_9 r3_10 r3_11 v_t_keptAt v_t_isWriting f_t_at r5_6 f_t_lungs r5_7 r5_8 f_t_pad r3_15 r3_16 r3_17 r3_18)) hw hA (g_rV hx hb hml hG hown hK hw (is := [0, 2, 4, 5, 10]) rfl (by decide) (mX11_back l E o_t a_t v_t_there r3_1 r3_2 r3_3 r3_4 r3_5 v_t_sights v_t_padMany r3_6 r3_7 r3_8 r3_9 r3_10 r3_11 v_t_keptAt v_t_isWriting r3_12 r3_13 r3_14 r3_18 r3_0 r5_0 r5_1 r5_2 r5_3 r5_4 r5_5 r5_6 r5_7 r5_8 hc6) wd_22_0 wd_22_1 wd_22_2 wd_1_5 wd_22_3 hX11_back g_allgood ⟨rfl, rfl⟩ ⟨Nat.le_of_ble_eq_true rfl, Nat.le_of_ble_eq_true rfl⟩ ⟨Nat.zero_le _, Nat.zero_le _⟩ (ci := 9) (q0 := 0) rfl rfl rfl rfl hl.1 rfl (Nat.le_of_ble_eq_true rfl) dX11_judge_20) rfl (g_had [o_t, (a_t 2), (a_t 4), (a_t 5), (a_t 21)] rfl rfl) rfl (⟨⟨_, rfl, rfl⟩, ⟨⟨_, rfl, rfl⟩, ⟨⟨_, rfl, rfl⟩, ⟨⟨_, rfl, rfl⟩, ⟨⟨_, rfl, rfl⟩, ⟨⟨_, rfl, rfl⟩, trivial⟩⟩⟩⟩⟩⟩) rfl rfl (by decide) (fun H locs hw => ?_)
    refine lv_istore_n (lv' := [(2, .int r5_0), (0, .ref o_t), (1, .int x1)]) hx hb dX11_judge_23 rfl hl (Nat.le_of_ble_eq_true rfl) rfl (fun ls hl => ?_)
    refine lv_iload_n hx hb dX11_judge_24 rfl (lv_at hl 0 rfl) ?_
    refine lv_bipush (v := -5) hx hb dX11_judge_25 k_bm5 ?_
    refine lv_icmp_eq (tgt := 41) hx hb dX11_judge_27 (by decide) (fun hc => ?_) (fun hc => ?_)
    · have hf := g_t hc hf
      exact B41 r5_1 r5_2 r5_3 r5_4 r5_5 r3_6 r3_7 r3_8 r3_9 r3_10 r3_11 r5_6 r5_7 r5_8 r3_15 r3_16 r3_17 r3_18 r5_0 _ _ _ hf hw (lv_sub hl [0] rfl)
    · have hf := g_f hc hf
      refine lv_iload_n hx hb dX11_judge_30 rfl (lv_at hl 2 rfl) ?_
      refine lv_iconst (v := 1) hx hb dX11_judge_31 k_i1 ?_
      refine lv_icmp_le (tgt := 43) hx hb dX11_judge_32 (by decide) (fun hc => ?_) (fun hc => ?_)
      · have hf := g_t hc hf
        exact B43 r5_1 r5_2 r5_3 r5_4 r5_5 r3_6 r3_7 r3_8 r3_9 r3_10 r3_11 r5_6 r5_7 r5_8 r3_15 r3_16 r3_17 r3_18 x1 _ _ _ hf hw (lv_sub hl [1, 2] rfl)
      · have hf := g_f hc hf
        refine lv_iload_n hx hb dX11_judge_35 rfl (lv_at hl 0 rfl) ?_
        refine lv_bipush (v := -3) hx hb dX11_judge_36 k_bm3 ?_
        refine lv_icmp_ne (tgt := 43) hx hb dX11_judge_38 (by decide) (fun hc => ?_) (fun hc => ?_)
        · have hf := g_f hc hf
          exact B43 r5_1 r5_2 r5_3 r5_4 r5_5 r3_6 r3_7 r3_8 r3_9 r3_10 r3_11 r5_6 r5_7 r5_8 r3_15 r3_16 r3_17 r3_18 x1 _ _ _ hf hw (lv_sub hl [1, 2] rfl)
        · have hf := g_t hc hf
          exact B41 r5_1 r5_2 r5_3 r5_4 r5_5 r3_6 r3_7 r3_8 r3_9 r3_10 r3_11 r5_6 r5_7 r5_8 r3_15 r3_16 r3_17 r3_18 r5_0 _ _ _ hf hw (lv_sub hl [0] rfl)
  · have hf := g_t hc hf
    refine lv_bipush (v := -2) hx hb dX11_judge_12 k_bm2 ?_
    exact hret1 ((-2), v_t_wind, v_t_force, v_t_rains, v_t_lost, v_t_hours, v_t_acts, v_t_blownMany, v_t_badAct, v_t_badWhy, v_t_ruinAct, v_t_ruinWho, f_t_stem, f_t_blown, f_t_heap, f_t_act, f_t_who, f_t_much, f_t_had) _ _ _ _ hf hw dX11_judge_14
theorem hX11_behind : yX11_behind.cls = RX11 ∧ yX11_behind.cls ≠ "java/lang/invoke/MethodHandle" ∧ yX11_behind.cls ≠ "java/lang/invoke/VarHandle" ∧ (parseMethodDescriptor yX11_behind.desc).map (fun d => d.parameters.length) = some 2 := by decide +kernel
set_option maxHeartbeats 4000000 in
set_option maxRecDepth 100000 in
theorem mX11_behind (l : Launch) (E : gE) (o_t : Nat) (a_t : (Nat → Nat)) (v_t_there : Int32) (v_t_wind : Int32) (v_t_force : Int32) (v_t_rains : Int32) (v_t_lost : Int32) (v_t_hours : Int32) (v_t_sights : Int32) (v_t_padMany : Int32) (v_t_acts : Int32) (v_t_blownMany : Int32) (v_t_badAct : Int32) (v_t_badWhy : Int32) (v_t_ruinAct : Int32) (v_t_ruinWho : Int32) (v_t_keptAt : Int32) (v_t_isWriting : Int32) (f_t_at : (Nat → Int32)) (f_t_stem : (Nat → Int32)) (f_t_lungs : (Nat → Int32)) (f_t_blown : (Nat → Int32)) (f_t_heap : (Nat → Int32)) (f_t_pad : (Nat → Int32)) (f_t_act : (Nat → Int32)) (f_t_who : (Nat → Int32)) (f_t_much : (Nat → Int32)) (f_t_had : (Nat → Int32)) (x1 : Int32) (x2 : Int32) (rv : Int32) (z_t_wind : Int32) (z_t_force : Int32) (z_t_rains : Int32) (z_t_lost : Int32) (z_t_hours : Int32) (z_t_acts : Int32) (z_t_blownMany : Int32) (z_t_badAct : Int32) (z_t_badWhy : Int32) (z_t_ruinAct : Int32) (z_t_ruinWho : Int32) (z_t_stem : (Nat → Int32)) (z_t_blown : (Nat → Int32)) (z_t_heap : (Nat → Int32)) (z_t_act : (Nat → Int32)) (z_t_who : (Nat → Int32)) (z_t_much : (Nat → Int32)) (z_t_had : (Nat → Int32)) (hf : fX11_behind v_t_there v_t_wind v_t_force v_t_rains v_t_lost v_t_hours v_t_padMany v_t_acts v_t_blownMany v_t_badAct v_t_badWhy v_t_ruinAct v_t_ruinWho f_t_at f_t_stem f_t_lungs f_t_blown f_t_heap f_t_pad f_t_act f_t_who f_t_much f_t_had x1 x2 = some (rv, z_t_wind, z_t_force, z_t_rains, z_t_lost, z_t_hours, z_t_acts, z_t_blownMany, z_t_badAct, z_t_badWhy, z_t_ruinAct, z_t_ruinWho, z_t_stem, z_t_blown, z_t_heap, z_t_act, z_t_who, z_t_much, z_t_had)) {sz : Nat} : gMi l yX11_behind (gW yX11_behind cX11_behind 4 (some .int)) ({ frames := 9, cells := 0, slots := 0, locals := 204 } : Room) E [.ref o_t, .int x1, .int x2] (wX11_behind E o_t a_t v_t_there v_t_wind v_t_force v_t_rains v_t_lost v_t_hours v_t_sights v_t_padMany v_t_acts v_t_blownMany v_t_badAct v_t_badWhy v_t_ruinAct v_t_ruinWho v_t_keptAt v_t_isWriting f_t_at f_t_stem f_t_lungs f_t_blown f_t_heap f_t_pad f_t_act f_t_who f_t_much f_t_had) sz rv (wX11_behind E o_t a_t v_t_there z_t_wind z_t_force z_t_rains z_t_lost z_t_hours v_t_sights v_t_padMany z_t_acts z_t_blownMany z_t_badAct z_t_badWhy z_t_ruinAct z_t_ruinWho v_t_keptAt v_t_isWriting f_t_at z_t_stem f_t_lungs z_t_blown z_t_heap f_t_pad z_t_act z_t_who z_t_much z_t_had) := by
  refine g_openI (own := RX11) (by decide) rfl (Nat.le_of_ble_eq_true rfl) (fun p e s m args below meth cd Q A hx hb hml hown hG hK hA hret hw ls hl => ?_)
  have hl : lv_has ls 4 [(0, .ref o_t), (1, .int x1), (2, .int x2)] := hl
  have hret1 : ∀ (t : Int32 × Int32 × Int32 × Int32 × Int32 × Int32 × Int32 × Int32 × Int32 × Int32 × Int32 × Int32 × (Nat → Int32) × (Nat → Int32) × (Nat → Int32) × (Nat → Int32) × (Nat → Int32) × (Nat → Int32) × (Nat → Int32)) (H : Heap) (locs : List Loc) (pc : Nat) (ls : Array Slot), some t = some (rv, z_t_wind, z_t_force, z_t_rains, z_t_lost, z_t_hours, z_t_acts, z_t_blownMany, z_t_badAct, z_t_badWhy, z_t_ruinAct, z_t_ruinWho, z_t_stem, z_t_blown, z_t_heap, z_t_act, z_t_who, z_t_much, z_t_had) → gS E A s.heap (wX11_behind E o_t a_t v_t_there t.2.1 t.2.2.1 t.2.2.2.1 t.2.2.2.2.1 t.2.2.2.2.2.1 v_t_sights v_t_padMany t.2.2.2.2.2.2.1 t.2.2.2.2.2.2.2.1 t.2.2.2.2.2.2.2.2.1 t.2.2.2.2.2.2.2.2.2.1 t.2.2.2.2.2.2.2.2.2.2.1 t.2.2.2.2.2.2.2.2.2.2.2.1 v_t_keptAt v_t_isWriting f_t_at t.2.2.2.2.2.2.2.2.2.2.2.2.1 f_t_lungs t.2.2.2.2.2.2.2.2.2.2.2.2.2.1 t.2.2.2.2.2.2.2.2.2.2.2.2.2.2.1 f_t_pad t.2.2.2.2.2.2.2.2.2.2.2.2.2.2.2.1 t.2.2.2.2.2.2.2.2.2.2.2.2.2.2.2.2.1 t.2.2.2.2.2.2.2.2.2.2.2.2.2.2.2.2.2.1 t.2.2.2.2.2.2.2.2.2.2.2.2.2.2.2.2.2.2) H locs → decode cX11_behind pc = .ok (.ireturn, 1) → W p l e ({ frames := 9, cells := 0, slots := 0, locals := 204 } : Room) s m args below meth cd H locs 0 0 Q (F0 m pc ls [.int t.1]) := by
    intro t H locs pc ls h hw hd
    obtain rfl : t = (rv, z_t_wind, z_t_force, z_t_rains, z_t_lost, z_t_hours, z_t_acts, z_t_blownMany, z_t_badAct, z_t_badWhy, z_t_ruinAct, z_t_ruinWho, z_t_stem, z_t_blown, z_t_heap, z_t_act, z_t_who, z_t_much, z_t_had) := Option.some.inj h
    exact hret H locs pc ls hw hd
  have B58 : ∀ (v_t_wind : Int32) (v_t_force : Int32) (v_t_rains : Int32) (v_t_lost : Int32) (v_t_hours : Int32) (v_t_acts : Int32) (v_t_blownMany : Int32) (v_t_badAct : Int32) (v_t_badWhy : Int32) (v_t_ruinAct : Int32) (v_t_ruinWho : Int32) (f_t_stem : (Nat → Int32)) (f_t_blown : (Nat → Int32)) (f_t_heap : (Nat → Int32)) (f_t_act : (Nat → Int32)) (f_t_who : (Nat → Int32)) (f_t_much : (Nat → Int32)) (f_t_had : (Nat → Int32)) (s1 : Int32) (H : Heap) (locs : List Loc) (ls : Array Slot), fX11_behind_b58 v_t_wind v_t_force v_t_rains v_t_lost v_t_hours v_t_acts v_t_blownMany v_t_badAct v_t_badWhy v_t_ruinAct v_t_ruinWho f_t_stem f_t_blown f_t_heap f_t_act f_t_who f_t_much f_t_had s1 = some (rv, z_t_wind, z_t_force, z_t_rains, z_t_lost, z_t_hours, z_t_acts, z_t_blownMany, z_t_badAct, z_t_badWhy, z_t_ruinAct, z_t_ruinWho, z_t_stem, z_t_blown, z_t_heap, z_t_act, z_t_who, z_t_much, z_t_had) → gS E A s.heap (wX11_behind E o_t a_t v_t_there v_t_wind v_t_force v_t_rains v_t_lost v_t_hours v_t_sights v_t_padMany v_t_acts v_t_blownMany v_t_badAct v_t_badWhy v_t_ruinAct v_t_ruinWho v_t_keptAt v_t_isWriting f_t_at f_t_stem f_t_lungs f_t_blown f_t_heap f_t_pad f_t_act f_t_who f_t_much f_t_had) H locs → lv_has ls 4 [] → W p l e ({ frames := 9, cells := 0, slots := 0, locals := 204 } : Room) s m args below meth cd H locs 0 0 Q (F0 m 58 ls [.int s1, .ref o_t]) := by
    intro  v_t_wind v_t_force v_t_rains v_t_lost v_t_hours v_t_acts v_t_blownMany v_t_badAct v_t_badWhy v_t_ruinAct v_t_ruinWho f_t_stem f_t_blown f_t_heap f_t_act f_t_who f_t_much f_t_had s1 H locs ls hf hw hl
    obtain ⟨⟨r1_0, r1_1, r1_2, r1_3, r1_4, r1_5, r1_6, r1_7, r1_8⟩, hc2, hf⟩ := gB_s hf
    refine g_ki (is := [0, 2, 4, 5, 10]) (isR := [1, 3, 6, 7, 8, 9]) (nW := 11) (w1 := (wX11_back E o_t a_t v_t_there r1_1 r1_2 r1_3 r1_4 r1_5 v_t_sights v_t_padMany v_t_acts v_t_blownMany v_t_badAct v_t_badWhy v_t_ruinAct v_t_ruinWho v_t_keptAt v_t_isWriting r1_6 r1_7 r1_8 f_t_had)) (ws' := (wX11_behind E o_t a_t v_t_there r1_1 r1_2 r1_3 r1_4 r1_5 v_t_sights v_t_padMany v_t_acts v_t_blownMany v_t_badAct v_t_badWhy v_t_ruinAct v_t_ruinWho v_t_keptAt v_t_isWriting f_t_at r1_6 f_t_lungs r1_7 r1_8 f_t_pad f_t_act f_t_who f_t_much f_t_had)) hw hA (g_rV hx hb hml hG hown hK hw (is := [0, 2, 4, 5, 10]) rfl (by decide) (mX11_back l E o_t a_t v_t_there v_t_wind v_t_force v_t_rains v_t_lost v_t_hours v_t_sights v_t_padMany v_t_acts v_t_blownMany v_t_badAct v_t_badWhy v_t_ruinAct v_t_ruinWho v_t_keptAt v_t_isWriting f_t_stem f_t_blown f_t_heap f_t_had s1 r1_0 r1_1 r1_2 r1_3 r1_4 r1_5 r1_6 r1_7 r1_8 hc2) wd_22_0 wd_22_1 wd_22_2 wd_1_5 wd_22_3 hX11_back g_allgood ⟨rfl, rfl⟩ ⟨Nat.le_of_ble_eq_true rfl, Nat.le_of_ble_eq_true rfl⟩ ⟨Nat.zero_le _, Nat.zero_le _⟩ (ci := 9) (q0 := 0) rfl rfl rfl rfl hl.1 rfl (Nat.le_of_ble_eq_true rfl) dX11_behind_58) rfl (g_had [o_t, (a_t 2), (a_t 4), (a_t 5), (a_t 21)] rfl rfl) rfl (⟨⟨_, rfl, rfl⟩, ⟨⟨_, rfl, rfl⟩, ⟨⟨_, rfl, rfl⟩, ⟨⟨_, rfl, rfl⟩, ⟨⟨_, rfl, rfl⟩, ⟨⟨_, rfl, rfl⟩, trivial⟩⟩⟩⟩⟩⟩) rfl rfl (by decide) (fun H locs hw => ?_)
    exact hret1 (r1_0, r1_1, r1_2, r1_3, r1_4, r1_5, v_t_acts, v_t_blownMany, v_t_badAct, v_t_badWhy, v_t_ruinAct, v_t_ruinWho, r1_6, r1_7, r1_8, f_t_act, f_t_who, f_t_much, f_t_had) _ _ _ _ hf hw dX11_behind_61
  refine lv_aload_n hx hb dX11_behind_0 rfl (lv_at hl 0 rfl) ?_
  refine lv_iload_n hx hb dX11_behind_1 rfl (lv_at hl 1 rfl) ?_
  obtain ⟨r3, hc4, hf⟩ := gB_s hf
  refine g_ki0 (is := [0]) hw hA (g_rV hx hb hml hG hown hK hw (is := [0]) rfl (by decide) (mX11_isFamily l E o_t a_t v_t_there v_t_wind v_t_force v_t_rains v_t_lost v_t_hours v_t_sights v_t_padMany v_t_acts v_t_blownMany v_t_badAct v_t_badWhy v_t_ruinAct v_t_ruinWho v_t_keptAt v_t_isWriting x1 r3 hc4) wd_8_21 wd_8_22 wd_8_23 wd_1_5 wd_9_0 hX11_isFamily g_allgood ⟨rfl, rfl⟩ ⟨Nat.le_of_ble_eq_true rfl, Nat.le_of_ble_eq_true rfl⟩ ⟨Nat.zero_le _, Nat.zero_le _⟩ (ci := 9) (q0 := 0) rfl rfl rfl rfl hl.1 rfl (Nat.le_of_ble_eq_true rfl) dX11_behind_2) rfl (fun H locs hw => ?_)
  refine lv_if_ne (tgt := 10) hx hb dX11_behind_5 (by decide) (fun hc => ?_) (fun hc => ?_)
  · have hf := g_f hc hf
    refine lv_iload_n hx hb dX11_behind_10 rfl (lv_at hl 2 rfl) ?_
    refine lv_i2l hx hb dX11_behind_11 rfl ?_
    refine lv_lconst (v := 0) hx hb dX11_behind_12 k_l0 ?_
    refine lv_lconst (v := 1) hx hb dX11_behind_13 k_l1 ?_
    obtain ⟨r5, hc6, hf⟩ := gB_s hf
    refine g_ki0 (is := []) hw hA (g_rS hx hb hml hG hown hK hw (is := []) rfl (by decide) (mX11_in l E (Int32.toInt64 x2) 0 1 r5 hc6) wd_8_10 wd_8_11 wd_1_5 wd_8_12 hX11_in g_allgood ⟨rfl, rfl⟩ ⟨Nat.le_of_ble_eq_true rfl, Nat.le_of_ble_eq_true rfl⟩ ⟨Nat.zero_le _, Nat.zero_le _⟩ rfl hl.1 rfl (Nat.le_of_ble_eq_true rfl) dX11_behind_14) rfl (fun H locs hw => ?_)
    refine lv_if_ne (tgt := 23) hx hb dX11_behind_17 (by decide) (fun hc => ?_) (fun hc => ?_)
    · have hf := g_f hc hf
      refine lv_aload_n hx hb dX11_behind_23 rfl (lv_at hl 0 rfl) ?_
      obtain ⟨⟨r7_0, r7_1, r7_2, r7_3, r7_4, r7_5, r7_6, r7_7, r7_8, r7_9, r7_10, r7_11, r7_12, r7_13, r7_14, r7_15, r7_16, r7_17, r7_18⟩, hc8, hf⟩ := gB_s hf
      refine g_ki (is := [0, 1, 2, 3, 4, 5, 6, 7, 8, 9, 10]) (isR := []) (nW := 11) (w1 := (wX11_refusal E o_t a_t v_t_there r7_1 r7_2 r7_3 r7_4 r7_5 v_t_sights v_t_padMany r7_6 r7_7 r7_8 r7_9 r7_10 r7_11 v_t_keptAt v_t_isWriting f_t_at r7_12 f_t_lungs r7_13 r7_14 f_t_pad r7_15 r7_16 r7_17 r7_18)) (ws' := (wX11_behind E o_t a_t v_t_there r7_1 r7_2 r7_3 r7_4 r7_5 v_t_sights v_t_padMany r7_6 r7_7 r7_8 r7_9 r7_10 r7_11 v_t_keptAt v_t_isWriting f_t_at r7_12 f_t_lungs r7_13 r7_14 f_t_pad r7_15 r7_16 r7_17 r7_18)) hw hA (g_rV hx hb hml hG hown hK hw (is := [0, 1, 2, 3, 4, 5, 6, 7, 8, 9, 10]) rfl (by decide) (mX11_refusal l E o_t a_t v_t_there v_t_wind v_t_force v_t_rains v_t_lost v_t_hours v_t_sights v_t_padMany v_t_acts v_t_blownMany v_t_badAct v_t_badWhy v_t_ruinAct v_t_ruinWho v_t_keptAt v_t_isWriting f_t_at f_t_stem f_t_lungs f_t_blown f_t_heap f_t_pad f_t_act f_t_who f_t_much f_t_had r7_0 r7_1 r7_2 r7_3 r7_4 r7_5 r7_6 r7_7 r7_8 r7_9 r7_10 r7_11 r7_12 r7_13 r7_14 r7_15 r7_16 r7_17 r7_18 hc8) wd_19_4 wd_19_5 wd_19_6 wd_1_5 wd_19_7 hX11_refusal g_allgood ⟨rfl, rfl⟩ ⟨Nat.le_of_ble_eq_true rfl, Nat.le_of_ble_eq_true rfl⟩ ⟨Nat.zero_le _, Nat.zero_le _⟩ (ci := 9) (q0 := 0) rfl rfl rfl rfl hl.1 rfl (Nat.le_of_ble_eq_true rfl) dX11_behind_24) rfl (g_had [o_t, (a_t 1), (a_t 2), (a_t 3), (a_t 4), (a_t 5), (a_t 14), (a_t 16), (a_t 17), (a_t 18), (a_t 21)] rfl rfl) rfl (trivial) rfl rfl (by decide) (fun H locs hw => ?_)
      refine lv_istore_n (lv' := [(3, .int r7_0), (0, .ref o_t), (1, .int x1), (2, .int x2)]) hx hb dX11_behind_27 rfl hl (Nat.le_of_ble_eq_true rfl) rfl (fun ls hl => ?_)
      refine lv_aload_n hx hb dX11_behind_28 rfl (lv_at hl 1 rfl) ?_
      refine lv_iload_n hx hb dX11_behind_29 rfl (lv_at hl 0 rfl) ?_
      refine lv_bipush (v := -6) hx hb dX11_behind_30 k_bm6 ?_
      refine lv_icmp_eq (tgt := 39) hx hb dX11_behind_32 (by decide) (fun hc => ?_) (fun hc => ?_)
      · have hf := g_t hc hf
        refine lv_iload_n hx hb dX11_behind_39 rfl (lv_at hl 3 rfl) ?_
        refine lv_if_ne (tgt := 52) hx hb dX11_behind_40 (by decide) (fun hc => ?_) (fun hc => ?_)
        · have hf := g_f hc hf
          refine lv_aload_n hx hb dX11_behind_52 rfl (lv_at hl 1 rfl) ?_
          refine g_get hx hb hG hown hK hw inlX11 (ci := 9) rfl 0 4 (Nat.le_of_ble_eq_true rfl) rfl rfl wd_6_0 dX11_behind_53 ?_
          refine lv_iload_n hx hb dX11_behind_56 rfl (lv_at hl 2 rfl) ?_
          obtain ⟨hi9, hf⟩ := gA_s hf
          refine g_iald hx hb hK hw 4 rfl hi9 dX11_behind_57 ?_
          exact B58 r7_1 r7_2 r7_3 r7_4 r7_5 r7_6 r7_7 r7_8 r7_9 r7_10 r7_11 r7_12 r7_13 r7_14 r7_15 r7_16 r7_17 r7_18 (r7_13 (Int32.toNatClampNeg x1)) _ _ _ hf hw (lv_sub hl [] rfl)
        · have hf := g_t hc hf
          refine lv_aload_n hx hb dX11_behind_43 rfl (lv_at hl 1 rfl) ?_
          refine g_get hx hb hG hown hK hw inlX11 (ci := 9) rfl 0 2 (Nat.le_of_ble_eq_true rfl) rfl rfl wd_5_22 dX11_behind_44 ?_
          refine lv_iload_n hx hb dX11_behind_47 rfl (lv_at hl 2 rfl) ?_
          obtain ⟨hi10, hf⟩ := gA_s hf
          refine g_iald hx hb hK hw 2 rfl hi10 dX11_behind_48 ?_
          refine lv_goto (tgt := 58) hx hb dX11_behind_49 (by decide) ?_
          exact B58 r7_1 r7_2 r7_3 r7_4 r7_5 r7_6 r7_7 r7_8 r7_9 r7_10 r7_11 r7_12 r7_13 r7_14 r7_15 r7_16 r7_17 r7_18 (r7_12 (Int32.toNatClampNeg x1)) _ _ _ hf hw (lv_sub hl [] rfl)
      · have hf := g_f hc hf
        refine lv_iload_n hx hb dX11_behind_35 rfl (lv_at hl 0 rfl) ?_
        refine lv_goto (tgt := 58) hx hb dX11_behind_36 (by decide) ?_
        exact B58 r7_1 r7_2 r7_3 r7_4 r7_5 r7_6 r7_7 r7_8 r7_9 r7_10 r7_11 r7_12 r7_13 r7_14 r7_15 r7_16 r7_17 r7_18 r7_0 _ _ _ hf hw (lv_sub hl [] rfl)
    · have hf := g_t hc hf
      refine lv_bipush (v := -2) hx hb dX11_behind_20 k_bm2 ?_
      exact hret1 ((-2), v_t_wind, v_t_force, v_t_rains, v_t_lost, v_t_hours, v_t_acts, v_t_blownMany, v_t_badAct, v_t_badWhy, v_t_ruinAct, v_t_ruinWho, f_t_stem, f_t_blown, f_t_heap, f_t_act, f_t_who, f_t_much, f_t_had) _ _ _ _ hf hw dX11_behind_22
  · have hf := g_t hc hf
    refine lv_iconst (v := -1) hx hb dX11_behind_8 k_im1 ?_
    exact hret1 ((-1), v_t_wind, v_t_force, v_t_rains, v_t_lost, v_t_hours, v_t_acts, v_t_blownMany, v_t_badAct, v_t_badWhy, v_t_ruinAct, v_t_ruinWho, f_t_stem, f_t_blown, f_t_heap, f_t_act, f_t_who, f_t_much, f_t_had) _ _ _ _ hf hw dX11_behind_9
theorem hX11_lies : yX11_lies.cls = RX11 ∧ yX11_lies.cls ≠ "java/lang/invoke/MethodHandle" ∧ yX11_lies.cls ≠ "java/lang/invoke/VarHandle" ∧ (parseMethodDescriptor yX11_lies.desc).map (fun d => d.parameters.length) = some 1 := by decide +kernel
set_option maxHeartbeats 4000000 in
set_option maxRecDepth 100000 in
theorem mX11_lies (l : Launch) (E : gE) (o_t : Nat) (a_t : (Nat → Nat)) (v_t_there : Int32) (v_t_wind : Int32) (v_t_force : Int32) (v_t_rains : Int32) (v_t_lost : Int32) (v_t_hours : Int32) (v_t_sights : Int32) (v_t_padMany : Int32) (v_t_acts : Int32) (v_t_blownMany : Int32) (v_t_badAct : Int32) (v_t_badWhy : Int32) (v_t_ruinAct : Int32) (v_t_ruinWho : Int32) (v_t_keptAt : Int32) (v_t_isWriting : Int32) (f_t_at : (Nat → Int32)) (f_t_stem : (Nat → Int32)) (f_t_lungs : (Nat → Int32)) (f_t_blown : (Nat → Int32)) (f_t_heap : (Nat → Int32)) (f_t_pad : (Nat → Int32)) (f_t_act : (Nat → Int32)) (f_t_who : (Nat → Int32)) (f_t_much : (Nat → Int32)) (f_t_had : (Nat → Int32)) (x1 : Int32) (rv : Int32) (z_t_wind : Int32) (z_t_force : Int32) (z_t_rains : Int32) (z_t_lost : Int32) (z_t_hours : Int32) (z_t_acts : Int32) (z_t_blownMany : Int32) (z_t_badAct : Int32) (z_t_badWhy : Int32) (z_t_ruinAct : Int32) (z_t_ruinWho : Int32) (z_t_stem : (Nat → Int32)) (z_t_blown : (Nat → Int32)) (z_t_heap : (Nat → Int32)) (z_t_act : (Nat → Int32)) (z_t_who : (Nat → Int32)) (z_t_much : (Nat → Int32)) (z_t_had : (Nat → Int32)) (hf : fX11_lies v_t_there v_t_wind v_t_force v_t_rains v_t_lost v_t_hours v_t_padMany v_t_acts v_t_blownMany v_t_badAct v_t_badWhy v_t_ruinAct v_t_ruinWho f_t_at f_t_stem f_t_lungs f_t_blown f_t_heap f_t_pad f_t_act f_t_who f_t_much f_t_had x1 = some (rv, z_t_wind, z_t_force, z_t_rains, z_t_lost, z_t_hours, z_t_acts, z_t_blownMany, z_t_badAct, z_t_badWhy, z_t_ruinAct, z_t_ruinWho, z_t_stem, z_t_blown, z_t_heap, z_t_act, z_t_who, z_t_much, z_t_had)) {sz : Nat} : gMi l yX11_lies (gW yX11_lies cX11_lies 3 (some .int)) ({ frames := 9, cells := 0, slots := 0, locals := 204 } : Room) E [.ref o_t, .int x1] (wX11_lies E o_t a_t v_t_there v_t_wind v_t_force v_t_rains v_t_lost v_t_hours v_t_sights v_t_padMany v_t_acts v_t_blownMany v_t_badAct v_t_badWhy v_t_ruinAct v_t_ruinWho v_t_keptAt v_t_isWriting f_t_at f_t_stem f_t_lungs f_t_blown f_t_heap f_t_pad f_t_act f_t_who f_t_much f_t_had) sz rv (wX11_lies E o_t a_t v_t_there z_t_wind z_t_force z_t_rains z_t_lost z_t_hours v_t_sights v_t_padMany z_t_acts z_t_blownMany z_t_badAct z_t_badWhy z_t_ruinAct z_t_ruinWho v_t_keptAt v_t_isWriting f_t_at z_t_stem f_t_lungs z_t_blown z_t_heap f_t_pad z_t_act z_t_who z_t_much z_t_had) := by
  refine g_openI (own := RX11) (by decide) rfl (Nat.le_of_ble_eq_true rfl) (fun p e s m args below meth cd Q A hx hb hml hown hG hK hA hret hw ls hl => ?_)
  have hl : lv_has ls 3 [(0, .ref o_t), (1, .int x1)] := hl
  have hret1 : ∀ (t : Int32 × Int32 × Int32 × Int32 × Int32 × Int32 × Int32 × Int32 × Int32 × Int32 × Int32 × Int32 × (Nat → Int32) × (Nat → Int32) × (Nat → Int32) × (Nat → Int32) × (Nat → Int32) × (Nat → Int32) × (Nat → Int32)) (H : Heap) (locs : List Loc) (pc : Nat) (ls : Array Slot), some t = some (rv, z_t_wind, z_t_force, z_t_rains, z_t_lost, z_t_hours, z_t_acts, z_t_blownMany, z_t_badAct, z_t_badWhy, z_t_ruinAct, z_t_ruinWho, z_t_stem, z_t_blown, z_t_heap, z_t_act, z_t_who, z_t_much, z_t_had) → gS E A s.heap (wX11_lies E o_t a_t v_t_there t.2.1 t.2.2.1 t.2.2.2.1 t.2.2.2.2.1 t.2.2.2.2.2.1 v_t_sights v_t_padMany t.2.2.2.2.2.2.1 t.2.2.2.2.2.2.2.1 t.2.2.2.2.2.2.2.2.1 t.2.2.2.2.2.2.2.2.2.1 t.2.2.2.2.2.2.2.2.2.2.1 t.2.2.2.2.2.2.2.2.2.2.2.1 v_t_keptAt v_t_isWriting f_t_at t.2.2.2.2.2.2.2.2.2.2.2.2.1 f_t_lungs t.2.2.2.2.2.2.2.2.2.2.2.2.2.1 t.2.2.2.2.2.2.2.2.2.2.2.2.2.2.1 f_t_pad t.2.2.2.2.2.2.2.2.2.2.2.2.2.2.2.1 t.2.2.2.2.2.2.2.2.2.2.2.2.2.2.2.2.1 t.2.2.2.2.2.2.2.2.2.2.2.2.2.2.2.2.2.1 t.2.2.2.2.2.2.2.2.2.2.2.2.2.2.2.2.2.2) H locs → decode cX11_lies pc = .ok (.ireturn, 1) → W p l e ({ frames := 9, cells := 0, slots := 0, locals := 204 } : Room) s m args below meth cd H locs 0 0 Q (F0 m pc ls [.int t.1]) := by
    intro t H locs pc ls h hw hd
    obtain rfl : t = (rv, z_t_wind, z_t_force, z_t_rains, z_t_lost, z_t_hours, z_t_acts, z_t_blownMany, z_t_badAct, z_t_badWhy, z_t_ruinAct, z_t_ruinWho, z_t_stem, z_t_blown, z_t_heap, z_t_act, z_t_who, z_t_much, z_t_had) := Option.some.inj h
    exact hret H locs pc ls hw hd
  have B32 : ∀ (v_t_wind : Int32) (v_t_force : Int32) (v_t_rains : Int32) (v_t_lost : Int32) (v_t_hours : Int32) (v_t_acts : Int32) (v_t_blownMany : Int32) (v_t_badAct : Int32) (v_t_badWhy : Int32) (v_t_ruinAct : Int32) (v_t_ruinWho : Int32) (f_t_stem : (Nat → Int32)) (f_t_blown : (Nat → Int32)) (f_t_heap : (Nat → Int32)) (f_t_act : (Nat → Int32)) (f_t_who : (Nat → Int32)) (f_t_much : (Nat → Int32)) (f_t_had : (Nat → Int32)) (s1 : Int32) (H : Heap) (locs : List Loc) (ls : Array Slot), fX11_lies_b32 v_t_wind v_t_force v_t_rains v_t_lost v_t_hours v_t_acts v_t_blownMany v_t_badAct v_t_badWhy v_t_ruinAct v_t_ruinWho f_t_stem f_t_blown f_t_heap f_t_act f_t_who f_t_much f_t_had s1 = some (rv, z_t_wind, z_t_force, z_t_rains, z_t_lost, z_t_hours, z_t_acts, z_t_blownMany, z_t_badAct, z_t_badWhy, z_t_ruinAct, z_t_ruinWho, z_t_stem, z_t_blown, z_t_heap, z_t_act, z_t_who, z_t_much, z_t_had) → gS E A s.heap (wX11_lies E o_t a_t v_t_there v_t_wind v_t_force v_t_rains v_t_lost v_t_hours v_t_sights v_t_padMany v_t_acts v_t_blownMany v_t_badAct v_t_badWhy v_t_ruinAct v_t_ruinWho v_t_keptAt v_t_isWriting f_t_at f_t_stem f_t_lungs f_t_blown f_t_heap f_t_pad f_t_act f_t_who f_t_much f_t_had) H locs → lv_has ls 3 [] → W p l e ({ frames := 9, cells := 0, slots := 0, locals := 204 } : Room) s m args below meth cd H locs 0 0 Q (F0 m 32 ls [.int s1, .ref o_t]) := by
    intro  v_t_wind v_t_force v_t_rains v_t_lost v_t_hours v_t_acts v_t_blownMany v_t_badAct v_t_badWhy v_t_ruinAct v_t_ruinWho f_t_stem f_t_blown f_t_heap f_t_act f_t_who f_t_much f_t_had s1 H locs ls hf hw hl
    obtain ⟨⟨r1_0, r1_1, r1_2, r1_3, r1_4, r1_5, r1_6, r1_7, r1_8⟩, hc2, hf⟩ := gB_s hf
    refine g_ki (is := [0, 2, 4, 5, 10]) (isR := [1, 3, 6, 7, 8, 9]) (nW := 11) (w1 := (wX11_back E o_t a_t v_t_there r1_1 r1_2 r1_3 r1_4 r1_5 v_t_sights v_t_padMany v_t_acts v_t_blownMany v_t_badAct v_t_badWhy v_t_ruinAct v_t_ruinWho v_t_keptAt v_t_isWriting r1_6 r1_7 r1_8 f_t_had)) (ws' := (wX11_lies E o_t a_t v_t_there r1_1 r1_2 r1_3 r1_4 r1_5 v_t_sights v_t_padMany v_t_acts v_t_blownMany v_t_badAct v_t_badWhy v_t_ruinAct v_t_ruinWho v_t_keptAt v_t_isWriting f_t_at r1_6 f_t_lungs r1_7 r1_8 f_t_pad f_t_act f_t_who f_t_much f_t_had)) hw hA (g_rV hx hb hml hG hown hK hw (is := [0, 2, 4, 5, 10]) rfl (by decide) (mX11_back l E o_t a_t v_t_there v_t_wind v_t_force v_t_rains v_t_lost v_t_hours v_t_sights v_t_padMany v_t_acts v_t_blownMany v_t_badAct v_t_badWhy v_t_ruinAct v_t_ruinWho v_t_keptAt v_t_isWriting f_t_stem f_t_blown f_t_heap f_t_had s1 r1_0 r1_1 r1_2 r1_3 r1_4 r1_5 r1_6 r1_7 r1_8 hc2) wd_22_0 wd_22_1 wd_22_2 wd_1_5 wd_22_3 hX11_back g_allgood ⟨rfl, rfl⟩ ⟨Nat.le_of_ble_eq_true rfl, Nat.le_of_ble_eq_true rfl⟩ ⟨Nat.zero_le _, Nat.zero_le _⟩ (ci := 9) (q0 := 0) rfl rfl rfl rfl hl.1 rfl (Nat.le_of_ble_eq_true rfl) dX11_lies_32) rfl (g_had [o_t, (a_t 2), (a_t 4), (a_t 5), (a_t 21)] rfl rfl) rfl (⟨⟨_, rfl, rfl⟩, ⟨⟨_, rfl, rfl⟩, ⟨⟨_, rfl, rfl⟩, ⟨⟨_, rfl, rfl⟩, ⟨⟨_, rfl, rfl⟩, ⟨⟨_, rfl, rfl⟩, trivial⟩⟩⟩⟩⟩⟩) rfl rfl (by decide) (fun H locs hw => ?_)
    exact hret1 (r1_0, r1_1, r1_2, r1_3, r1_4, r1_5, v_t_acts, v_t_blownMany, v_t_badAct, v_t_badWhy, v_t_ruinAct, v_t_ruinWho, r1_6, r1_7, r1_8, f_t_act, f_t_who, f_t_much, f_t_had) _ _ _ _ hf hw dX11_lies_35
  refine lv_iload_n hx hb dX11_lies_0 rfl (lv_at hl 1 rfl) ?_
  obtain ⟨r3, hc4, hf⟩ := gB_s hf
  refine g_ki0 (is := []) hw hA (g_rS hx hb hml hG hown hK hw (is := []) rfl (by decide) (mX11_isField l E x1 r3 hc4) wd_8_13 wd_8_14 wd_1_5 wd_8_15 hX11_isField g_allgood ⟨rfl, rfl⟩ ⟨Nat.le_of_ble_eq_true rfl, Nat.le_of_ble_eq_true rfl⟩ ⟨Nat.zero_le _, Nat.zero_le _⟩ rfl hl.1 rfl (Nat.le_of_ble_eq_true rfl) dX11_lies_1) rfl (fun H locs hw => ?_)
  refine lv_if_ne (tgt := 10) hx hb dX11_lies_4 (by decide) (fun hc => ?_) (fun hc => ?_)
  · have hf := g_f hc hf
    refine lv_aload_n hx hb dX11_lies_10 rfl (lv_at hl 0 rfl) ?_
    obtain ⟨⟨r5_0, r5_1, r5_2, r5_3, r5_4, r5_5, r5_6, r5_7, r5_8, r5_9, r5_10, r5_11, r5_12, r5_13, r5_14, r5_15, r5_16, r5_17, r5_18⟩, hc6, hf⟩ := gB_s hf
    refine g_ki (is := [0, 1, 2, 3, 4, 5, 6, 7, 8, 9, 10]) (isR := []) (nW := 11) (w1 := (wX11_refusal E o_t a_t v_t_there r5_1 r5_2 r5_3 r5_4 r5_5 v_t_sights v_t_padMany r5_6 r5_7 r5_8 r5_9 r5_10 r5_11 v_t_keptAt v_t_isWriting f_t_at r5_12 f_t_lungs r5_13 r5_14 f_t_pad r5_15 r5_16 r5_17 r5_18)) (ws' := (wX11_lies E o_t a_t v_t_there r5_1 r5_2 r5_3 r5_4 r5_5 v_t_sights v_t_padMany r5_6 r5_7 r5_8 r5_9 r5_10 r5_11 v_t_keptAt v_t_isWriting f_t_at r5_12 f_t_lungs r5_13 r5_14 f_t_pad r5_15 r5_16 r5_17 r5_18)) hw hA (g_rV hx hb hml hG hown hK hw (is := [0, 1, 2, 3, 4, 5, 6, 7, 8, 9, 10]) rfl (by decide) (mX11_refusal l E o_t a_t v_t_there v_t_wind v_t_force v_t_rains v_t_lost v_t_hours v_t_sights v_t_padMany v_t_acts v_t_blownMany v_t_badAct v_t_badWhy v_t_ruinAct v_t_ruinWho v_t_keptAt v_t_isWriting f_t_at f_t_stem f_t_lungs f_t_blown f_t_heap f_t_pad f_t_act f_t_who f_t_much f_t_had r5_0 r5_1 r5_2 r5_3 r5_4 r5_5 r5_6 r5_7 r5_8 r5_9 r5_10 r5_11 r5_12 r5_13 r5_14 r5_15 r5_16 r5_17 r5_18 hc6) wd_19_4 wd_19_5 wd_19_6 wd_1_5 wd_19_7 hX11_refusal g_allgood ⟨rfl, rfl⟩ ⟨Nat.le_of_ble_eq_true rfl, Nat.le_of_ble_eq_true rfl⟩ ⟨Nat.zero_le _, Nat.zero_le _⟩ (ci := 9) (q0 := 0) rfl rfl rfl rfl hl.1 rfl (Nat.le_of_ble_eq_true rfl) dX11_lies_11) rfl (g_had [o_t, (a_t 1), (a_t 2), (a_t 3), (a_t 4), (a_t 5), (a_t 14), (a_t 16), (a_t 17), (a_t 18), (a_t 21)] rfl rfl) rfl (trivial) rfl rfl (by decide) (fun H locs hw => ?_)
    refine lv_istore_n (lv' := [(2, .int r5_0), (0, .ref o_t), (1, .int x1)]) hx hb dX11_lies_14 rfl hl (Nat.le_of_ble_eq_true rfl) rfl (fun ls hl => ?_)
    refine lv_aload_n hx hb dX11_lies_15 rfl (lv_at hl 1 rfl) ?_
    refine lv_iload_n hx hb dX11_lies_16 rfl (lv_at hl 0 rfl) ?_
    refine lv_bipush (v := -6) hx hb dX11_lies_17 k_bm6 ?_
    refine lv_icmp_eq (tgt := 26) hx hb dX11_lies_19 (by decide) (fun hc => ?_) (fun hc => ?_)
    · have hf := g_t hc hf
      refine lv_aload_n hx hb dX11_lies_26 rfl (lv_at hl 1 rfl) ?_
      refine g_get hx hb hG hown hK hw inlX11 (ci := 9) rfl 0 5 (Nat.le_of_ble_eq_true rfl) rfl rfl wd_6_1 dX11_lies_27 ?_
      refine lv_iload_n hx hb dX11_lies_30 rfl (lv_at hl 2 rfl) ?_
      obtain ⟨hi7, hf⟩ := gA_s hf
      refine g_iald hx hb hK hw 5 rfl hi7 dX11_lies_31 ?_
      exact B32 r5_1 r5_2 r5_3 r5_4 r5_5 r5_6 r5_7 r5_8 r5_9 r5_10 r5_11 r5_12 r5_13 r5_14 r5_15 r5_16 r5_17 r5_18 (r5_14 (Int32.toNatClampNeg x1)) _ _ _ hf hw (lv_sub hl [] rfl)
    · have hf := g_f hc hf
      refine lv_iload_n hx hb dX11_lies_22 rfl (lv_at hl 0 rfl) ?_
      refine lv_goto (tgt := 32) hx hb dX11_lies_23 (by decide) ?_
      exact B32 r5_1 r5_2 r5_3 r5_4 r5_5 r5_6 r5_7 r5_8 r5_9 r5_10 r5_11 r5_12 r5_13 r5_14 r5_15 r5_16 r5_17 r5_18 r5_0 _ _ _ hf hw (lv_sub hl [] rfl)
  · have hf := g_t hc hf
    refine lv_bipush (v := -2) hx hb dX11_lies_7 k_bm2 ?_
    exact hret1 ((-2), v_t_wind, v_t_force, v_t_rains, v_t_lost, v_t_hours, v_t_acts, v_t_blownMany, v_t_badAct, v_t_badWhy, v_t_ruinAct, v_t_ruinWho, f_t_stem, f_t_blown, f_t_heap, f_t_act, f_t_who, f_t_much, f_t_had) _ _ _ _ hf hw dX11_lies_9
theorem hX11_allSeeds : yX11_allSeeds.cls = RX11 ∧ yX11_allSeeds.cls ≠ "java/lang/invoke/MethodHandle" ∧ yX11_allSeeds.cls ≠ "java/lang/invoke/VarHandle" ∧ (parseMethodDescriptor yX11_allSeeds.desc).map (fun d => d.parameters.length) = some 0 := by decide +kernel
set_option maxHeartbeats 4000000 in
set_option maxRecDepth 100000 in
theorem mX11_allSeeds (l : Launch) (E : gE) (o_t : Nat) (a_t : (Nat → Nat)) (v_t_there : Int32) (v_t_wind : Int32) (v_t_force : Int32) (v_t_rains : Int32) (v_t_lost : Int32) (v_t_hours : Int32) (v_t_sights : Int32) (v_t_padMany : Int32) (v_t_acts : Int32) (v_t_blownMany : Int32) (v_t_badAct : Int32) (v_t_badWhy : Int32) (v_t_ruinAct : Int32) (v_t_ruinWho : Int32) (v_t_keptAt : Int32) (v_t_isWriting : Int32) (f_t_stem : (Nat → Int32)) (rv : Int32) (hf : fX11_allSeeds v_t_there f_t_stem = some rv) {sz : Nat} : gMi l yX11_allSeeds (gW yX11_allSeeds cX11_allSeeds 3 (some .int)) ({ frames := 2, cells := 0, slots := 0, locals := 46 } : Room) E [.ref o_t] (wX11_allSeeds E o_t a_t v_t_there v_t_wind v_t_force v_t_rains v_t_lost v_t_hours v_t_sights v_t_padMany v_t_acts v_t_blownMany v_t_badAct v_t_badWhy v_t_ruinAct v_t_ruinWho v_t_keptAt v_t_isWriting f_t_stem) sz rv (wX11_allSeeds E o_t a_t v_t_there v_t_wind v_t_force v_t_rains v_t_lost v_t_hours v_t_sights v_t_padMany v_t_acts v_t_blownMany v_t_badAct v_t_badWhy v_t_ruinAct v_t_ruinWho v_t_keptAt v_t_isWriting f_t_stem) := by
  refine g_openI (own := RX11) (by decide) rfl (Nat.le_of_ble_eq_true rfl) (fun p e s m args below meth cd Q A hx hb hml hown hG hK hA hret hw ls hl => ?_)
  have hl : lv_has ls 3 [(0, .ref o_t)] := hl
  have hret1 : ∀ (t : Int32) (H : Heap) (locs : List Loc) (pc : Nat) (ls : Array Slot), some t = some rv → gS E A s.heap (wX11_allSeeds E o_t a_t v_t_there v_t_wind v_t_force v_t_rains v_t_lost v_t_hours v_t_sights v_t_padMany v_t_acts v_t_blownMany v_t_badAct v_t_badWhy v_t_ruinAct v_t_ruinWho v_t_keptAt v_t_isWriting f_t_stem) H locs → decode cX11_allSeeds pc = .ok (.ireturn, 1) → W p l e ({ frames := 2, cells := 0, slots := 0, locals := 46 } : Room) s m args below meth cd H locs 0 0 Q (F0 m pc ls [.int t]) := by
    intro t H locs pc ls h hw hd
    obtain rfl : t = rv := Option.some.inj h
    exact hret H locs pc ls hw hd
  have B29 : ∀ (K4 : Int32 → Int32 → Option (Int32)) (hK4 : ∀ (x1 : Int32) (x2 : Int32) (H : Heap) (locs : List Loc) (ls : Array Slot), K4 x1 x2 = some rv → gS E A s.heap (wX11_allSeeds E o_t a_t v_t_there v_t_wind v_t_force v_t_rains v_t_lost v_t_hours v_t_sights v_t_padMany v_t_acts v_t_blownMany v_t_badAct v_t_badWhy v_t_ruinAct v_t_ruinWho v_t_keptAt v_t_isWriting f_t_stem) H locs → lv_has ls 3 [(0, .ref o_t), (1, .int x1), (2, .int x2)] → W p l e ({ frames := 2, cells := 0, slots := 0, locals := 46 } : Room) s m args below meth cd H locs 0 0 Q (F0 m 4 ls [])), ∀ (x2 : Int32) (s0 : Int32) (s1 : Int32) (H : Heap) (locs : List Loc) (ls : Array Slot), fX11_allSeeds_b29 K4 v_t_there f_t_stem x2 s0 s1 = some rv → gS E A s.heap (wX11_allSeeds E o_t a_t v_t_there v_t_wind v_t_force v_t_rains v_t_lost v_t_hours v_t_sights v_t_padMany v_t_acts v_t_blownMany v_t_badAct v_t_badWhy v_t_ruinAct v_t_ruinWho v_t_keptAt v_t_isWriting f_t_stem) H locs → lv_has ls 3 [(0, .ref o_t), (2, .int x2)] → W p l e ({ frames := 2, cells := 0, slots := 0, locals := 46 } : Room) s m args below meth cd H locs 0 0 Q (F0 m 29 ls [.int s1, .int s0]) := by
    intro K4 hK4 x2 s0 s1 H locs ls hf hw hl
    refine lv_iadd hx hb dX11_allSeeds_29 ?_
    refine lv_istore_n (lv' := [(1, .int (s0 + s1)), (0, .ref o_t), (2, .int x2)]) hx hb dX11_allSeeds_30 rfl hl (Nat.le_of_ble_eq_true rfl) rfl (fun ls hl => ?_)
    refine lv_iinc (lv' := [(2, .int (x2 + 1)), (1, .int (s0 + s1)), (0, .ref o_t)]) hx hb dX11_allSeeds_31 hl (k := 2) rfl (k_inc1 _) (Nat.le_of_ble_eq_true rfl) rfl (fun ls hl => ?_)
    refine lv_goto (tgt := 4) hx hb dX11_allSeeds_34 (by decide) ?_
    exact hK4 (s0 + s1) (x2 + 1) _ _ _ hf hw (lv_sub hl [2, 1, 0] rfl)
  have B4 : ∀ n : Nat, ∀ (x1 : Int32) (x2 : Int32) (H : Heap) (locs : List Loc) (ls : Array Slot), fX11_allSeeds_b4 v_t_there f_t_stem n x1 x2 = some rv → gS E A s.heap (wX11_allSeeds E o_t a_t v_t_there v_t_wind v_t_force v_t_rains v_t_lost v_t_hours v_t_sights v_t_padMany v_t_acts v_t_blownMany v_t_badAct v_t_badWhy v_t_ruinAct v_t_ruinWho v_t_keptAt v_t_isWriting f_t_stem) H locs → lv_has ls 3 [(0, .ref o_t), (1, .int x1), (2, .int x2)] → W p l e ({ frames := 2, cells := 0, slots := 0, locals := 46 } : Room) s m args below meth cd H locs 0 0 Q (F0 m 4 ls []) := by
    intro n
    induction n with
    | zero => intro x1 x2 H locs ls hf hw hl; exact g_no hf
    | succ n ih =>
      intro x1 x2 H locs ls hf hw hl
      refine lv_iload_n hx hb dX11_allSeeds_4 rfl (lv_at hl 2 rfl) ?_
      refine lv_bipush (v := 6) hx hb dX11_allSeeds_5 k_b6 ?_
      refine lv_icmp_ge (tgt := 37) hx hb dX11_allSeeds_7 (by decide) (fun hc => ?_) (fun hc => ?_)
      · have hf := g_t hc hf
        refine lv_iload_n hx hb dX11_allSeeds_37 rfl (lv_at hl 1 rfl) ?_
        exact hret1 x1 _ _ _ _ hf hw dX11_allSeeds_38
      · have hf := g_f hc hf
        refine lv_iload_n hx hb dX11_allSeeds_10 rfl (lv_at hl 1 rfl) ?_
        refine lv_aload_n hx hb dX11_allSeeds_11 rfl (lv_at hl 0 rfl) ?_
        refine lv_iload_n hx hb dX11_allSeeds_12 rfl (lv_at hl 2 rfl) ?_
        obtain ⟨r1, hc2, hf⟩ := gB_s hf
        refine g_ki0 (is := [0]) hw hA (g_rV hx hb hml hG hown hK hw (is := [0]) rfl (by decide) (mX11_isFamily l E o_t a_t v_t_there v_t_wind v_t_force v_t_rains v_t_lost v_t_hours v_t_sights v_t_padMany v_t_acts v_t_blownMany v_t_badAct v_t_badWhy v_t_ruinAct v_t_ruinWho v_t_keptAt v_t_isWriting x2 r1 hc2) wd_8_21 wd_8_22 wd_8_23 wd_1_5 wd_9_0 hX11_isFamily g_allgood ⟨rfl, rfl⟩ ⟨Nat.le_of_ble_eq_true rfl, Nat.le_of_ble_eq_true rfl⟩ ⟨Nat.zero_le _, Nat.zero_le _⟩ (ci := 9) (q0 := 0) rfl rfl rfl rfl hl.1 rfl (Nat.le_of_ble_eq_true rfl) dX11_allSeeds_13) rfl (fun H locs hw => ?_)
        refine lv_if_eq (tgt := 28) hx hb dX11_allSeeds_16 (by decide) (fun hc => ?_) (fun hc => ?_)
        · have hf := g_t hc hf
          refine lv_iconst (v := 0) hx hb dX11_allSeeds_28 k_i0 ?_
          exact B29 (fX11_allSeeds_b4 v_t_there f_t_stem n) ih x2 x1 0 _ _ _ hf hw (lv_sub hl [0, 2] rfl)
        · have hf := g_f hc hf
          refine lv_aload_n hx hb dX11_allSeeds_19 rfl (lv_at hl 0 rfl) ?_
          refine g_get hx hb hG hown hK hw inlX11 (ci := 9) rfl 0 2 (Nat.le_of_ble_eq_true rfl) rfl rfl wd_5_22 dX11_allSeeds_20 ?_
          refine lv_iload_n hx hb dX11_allSeeds_23 rfl (lv_at hl 2 rfl) ?_
          obtain ⟨hi3, hf⟩ := gA_s hf
          refine g_iald hx hb hK hw 1 rfl hi3 dX11_allSeeds_24 ?_
          refine lv_goto (tgt := 29) hx hb dX11_allSeeds_25 (by decide) ?_
          exact B29 (fX11_allSeeds_b4 v_t_there f_t_stem n) ih x2 x1 (f_t_stem (Int32.toNatClampNeg x2)) _ _ _ hf hw (lv_sub hl [0, 2] rfl)
  refine lv_iconst (v := 0) hx hb dX11_allSeeds_0 k_i0 ?_
  refine lv_istore_n (lv' := [(1, .int 0), (0, .ref o_t)]) hx hb dX11_allSeeds_1 rfl hl (Nat.le_of_ble_eq_true rfl) rfl (fun ls hl => ?_)
  refine lv_iconst (v := 0) hx hb dX11_allSeeds_2 k_i0 ?_
  refine lv_istore_n (lv' := [(2, .int 0), (1, .int 0), (0, .ref o_t)]) hx hb dX11_allSeeds_3 rfl hl (Nat.le_of_ble_eq_true rfl) rfl (fun ls hl => ?_)
  exact B4 1000 0 0 _ _ _ hf hw (lv_sub hl [2, 1, 0] rfl)
theorem hX11_allLies : yX11_allLies.cls = RX11 ∧ yX11_allLies.cls ≠ "java/lang/invoke/MethodHandle" ∧ yX11_allLies.cls ≠ "java/lang/invoke/VarHandle" ∧ (parseMethodDescriptor yX11_allLies.desc).map (fun d => d.parameters.length) = some 0 := by decide +kernel
set_option maxHeartbeats 4000000 in
set_option maxRecDepth 100000 in
theorem mX11_allLies (l : Launch) (E : gE) (o_t : Nat) (a_t : (Nat → Nat)) (v_t_there : Int32) (v_t_wind : Int32) (v_t_force : Int32) (v_t_rains : Int32) (v_t_lost : Int32) (v_t_hours : Int32) (v_t_sights : Int32) (v_t_padMany : Int32) (v_t_acts : Int32) (v_t_blownMany : Int32) (v_t_badAct : Int32) (v_t_badWhy : Int32) (v_t_ruinAct : Int32) (v_t_ruinWho : Int32) (v_t_keptAt : Int32) (v_t_isWriting : Int32) (f_t_heap : (Nat → Int32)) (rv : Int32) (hf : fX11_allLies f_t_heap = some rv) {sz : Nat} : gMi l yX11_allLies (gW yX11_allLies cX11_allLies 3 (some .int)) ({ frames := 0, cells := 0, slots := 0, locals := 0 } : Room) E [.ref o_t] (wX11_allLies E o_t a_t v_t_there v_t_wind v_t_force v_t_rains v_t_lost v_t_hours v_t_sights v_t_padMany v_t_acts v_t_blownMany v_t_badAct v_t_badWhy v_t_ruinAct v_t_ruinWho v_t_keptAt v_t_isWriting f_t_heap) sz rv (wX11_allLies E o_t a_t v_t_there v_t_wind v_t_force v_t_rains v_t_lost v_t_hours v_t_sights v_t_padMany v_t_acts v_t_blownMany v_t_badAct v_t_badWhy v_t_ruinAct v_t_ruinWho v_t_keptAt v_t_isWriting f_t_heap) := by
  refine g_openI (own := RX11) (by decide) rfl (Nat.le_of_ble_eq_true rfl) (fun p e s m args below meth cd Q A hx hb hml hown hG hK hA hret hw ls hl => ?_)
  have hl : lv_has ls 3 [(0, .ref o_t)] := hl
  have hret1 : ∀ (t : Int32) (H : Heap) (locs : List Loc) (pc : Nat) (ls : Array Slot), some t = some rv → gS E A s.heap (wX11_allLies E o_t a_t v_t_there v_t_wind v_t_force v_t_rains v_t_lost v_t_hours v_t_sights v_t_padMany v_t_acts v_t_blownMany v_t_badAct v_t_badWhy v_t_ruinAct v_t_ruinWho v_t_keptAt v_t_isWriting f_t_heap) H locs → decode cX11_allLies pc = .ok (.ireturn, 1) → W p l e ({ frames := 0, cells := 0, slots := 0, locals := 0 } : Room) s m args below meth cd H locs 0 0 Q (F0 m pc ls [.int t]) := by
    intro t H locs pc ls h hw hd
    obtain rfl : t = rv := Option.some.inj h
    exact hret H locs pc ls hw hd
  have B4 : ∀ n : Nat, ∀ (x1 : Int32) (x2 : Int32) (H : Heap) (locs : List Loc) (ls : Array Slot), fX11_allLies_b4 f_t_heap n x1 x2 = some rv → gS E A s.heap (wX11_allLies E o_t a_t v_t_there v_t_wind v_t_force v_t_rains v_t_lost v_t_hours v_t_sights v_t_padMany v_t_acts v_t_blownMany v_t_badAct v_t_badWhy v_t_ruinAct v_t_ruinWho v_t_keptAt v_t_isWriting f_t_heap) H locs → lv_has ls 3 [(0, .ref o_t), (1, .int x1), (2, .int x2)] → W p l e ({ frames := 0, cells := 0, slots := 0, locals := 0 } : Room) s m args below meth cd H locs 0 0 Q (F0 m 4 ls []) := by
    intro n
    induction n with
    | zero => intro x1 x2 H locs ls hf hw hl; exact g_no hf
    | succ n ih =>
      intro x1 x2 H locs ls hf hw hl
      refine lv_iload_n hx hb dX11_allLies_4 rfl (lv_at hl 2 rfl) ?_
      refine lv_bipush (v := 36) hx hb dX11_allLies_5 k_b36 ?_
      refine lv_icmp_ge (tgt := 25) hx hb dX11_allLies_7 (by decide) (fun hc => ?_) (fun hc => ?_)
      · have hf := g_t hc hf
        refine lv_iload_n hx hb dX11_allLies_25 rfl (lv_at hl 1 rfl) ?_
        exact hret1 x1 _ _ _ _ hf hw dX11_allLies_26
      · have hf := g_f hc hf
        refine lv_iload_n hx hb dX11_allLies_10 rfl (lv_at hl 1 rfl) ?_
        refine lv_aload_n hx hb dX11_allLies_11 rfl (lv_at hl 0 rfl) ?_
        refine g_get hx hb hG hown hK hw inlX11 (ci := 9) rfl 0 5 (Nat.le_of_ble_eq_true rfl) rfl rfl wd_6_1 dX11_allLies_12 ?_
        refine lv_iload_n hx hb dX11_allLies_15 rfl (lv_at hl 2 rfl) ?_
        obtain ⟨hi1, hf⟩ := gA_s hf
        refine g_iald hx hb hK hw 1 rfl hi1 dX11_allLies_16 ?_
        refine lv_iadd hx hb dX11_allLies_17 ?_
        refine lv_istore_n (lv' := [(1, .int (x1 + (f_t_heap (Int32.toNatClampNeg x2)))), (0, .ref o_t), (2, .int x2)]) hx hb dX11_allLies_18 rfl hl (Nat.le_of_ble_eq_true rfl) rfl (fun ls hl => ?_)
        refine lv_iinc (lv' := [(2, .int (x2 + 1)), (1, .int (x1 + (f_t_heap (Int32.toNatClampNeg x2)))), (0, .ref o_t)]) hx hb dX11_allLies_19 hl (k := 2) rfl (k_inc1 _) (Nat.le_of_ble_eq_true rfl) rfl (fun ls hl => ?_)
        refine lv_goto (tgt := 4) hx hb dX11_allLies_22 (by decide) ?_
        exact ih (x1 + (f_t_heap (Int32.toNatClampNeg x2))) (x2 + 1) _ _ _ hf hw (lv_sub hl [2, 1, 0] rfl)
  refine lv_iconst (v := 0) hx hb dX11_allLies_0 k_i0 ?_
  refine lv_istore_n (lv' := [(1, .int 0), (0, .ref o_t)]) hx hb dX11_allLies_1 rfl hl (Nat.le_of_ble_eq_true rfl) rfl (fun ls hl => ?_)
  refine lv_iconst (v := 0) hx hb dX11_allLies_2 k_i0 ?_
  refine lv_istore_n (lv' := [(2, .int 0), (1, .int 0), (0, .ref o_t)]) hx hb dX11_allLies_3 rfl hl (Nat.le_of_ble_eq_true rfl) rfl (fun ls hl => ?_)
  exact B4 1000 0 0 _ _ _ hf hw (lv_sub hl [2, 1, 0] rfl)
theorem hX11_total : yX11_total.cls = RX11 ∧ yX11_total.cls ≠ "java/lang/invoke/MethodHandle" ∧ yX11_total.cls ≠ "java/lang/invoke/VarHandle" ∧ (parseMethodDescriptor yX11_total.desc).map (fun d => d.parameters.length) = some 1 := by decide +kernel
set_option maxHeartbeats 4000000 in
set_option maxRecDepth 100000 in
theorem mX11_total (l : Launch) (E : gE) (o_t : Nat) (a_t : (Nat → Nat)) (v_t_there : Int32) (v_t_wind : Int32) (v_t_force : Int32) (v_t_rains : Int32) (v_t_lost : Int32) (v_t_hours : Int32) (v_t_sights : Int32) (v_t_padMany : Int32) (v_t_acts : Int32) (v_t_blownMany : Int32) (v_t_badAct : Int32) (v_t_badWhy : Int32) (v_t_ruinAct : Int32) (v_t_ruinWho : Int32) (v_t_keptAt : Int32) (v_t_isWriting : Int32) (f_t_at : (Nat → Int32)) (f_t_stem : (Nat → Int32)) (f_t_lungs : (Nat → Int32)) (f_t_blown : (Nat → Int32)) (f_t_heap : (Nat → Int32)) (f_t_pad : (Nat → Int32)) (f_t_act : (Nat → Int32)) (f_t_who : (Nat → Int32)) (f_t_much : (Nat → Int32)) (f_t_had : (Nat → Int32)) (x1 : Int32) (rv : Int32) (z_t_wind : Int32) (z_t_force : Int32) (z_t_rains : Int32) (z_t_lost : Int32) (z_t_hours : Int32) (z_t_acts : Int32) (z_t_blownMany : Int32) (z_t_badAct : Int32) (z_t_badWhy : Int32) (z_t_ruinAct : Int32) (z_t_ruinWho : Int32) (z_t_stem : (Nat → Int32)) (z_t_blown : (Nat → Int32)) (z_t_heap : (Nat → Int32)) (z_t_act : (Nat → Int32)) (z_t_who : (Nat → Int32)) (z_t_much : (Nat → Int32)) (z_t_had : (Nat → Int32)) (hf : fX11_total v_t_there v_t_wind v_t_force v_t_rains v_t_lost v_t_hours v_t_padMany v_t_acts v_t_blownMany v_t_badAct v_t_badWhy v_t_ruinAct v_t_ruinWho f_t_at f_t_stem f_t_lungs f_t_blown f_t_heap f_t_pad f_t_act f_t_who f_t_much f_t_had x1 = some (rv, z_t_wind, z_t_force, z_t_rains, z_t_lost, z_t_hours, z_t_acts, z_t_blownMany, z_t_badAct, z_t_badWhy, z_t_ruinAct, z_t_ruinWho, z_t_stem, z_t_blown, z_t_heap, z_t_act, z_t_who, z_t_much, z_t_had)) {sz : Nat} : gMi l yX11_total (gW yX11_total cX11_total 3 (some .int)) ({ frames := 9, cells := 0, slots := 0, locals := 204 } : Room) E [.ref o_t, .int x1] (wX11_total E o_t a_t v_t_there v_t_wind v_t_force v_t_rains v_t_lost v_t_hours v_t_sights v_t_padMany v_t_acts v_t_blownMany v_t_badAct v_t_badWhy v_t_ruinAct v_t_ruinWho v_t_keptAt v_t_isWriting f_t_at f_t_stem f_t_lungs f_t_blown f_t_heap f_t_pad f_t_act f_t_who f_t_much f_t_had) sz rv (wX11_total E o_t a_t v_t_there z_t_wind z_t_force z_t_rains z_t_lost z_t_hours v_t_sights v_t_padMany z_t_acts z_t_blownMany z_t_badAct z_t_badWhy z_t_ruinAct z_t_ruinWho v_t_keptAt v_t_isWriting f_t_at z_t_stem f_t_lungs z_t_blown z_t_heap f_t_pad z_t_act z_t_who z_t_much z_t_had) := by
  refine g_openI (own := RX11) (by decide) rfl (Nat.le_of_ble_eq_true rfl) (fun p e s m args below meth cd Q A hx hb hml hown hG hK hA hret hw ls hl => ?_)
  have hl : lv_has ls 3 [(0, .ref o_t), (1, .int x1)] := hl
  have hret1 : ∀ (t : Int32 × Int32 × Int32 × Int32 × Int32 × Int32 × Int32 × Int32 × Int32 × Int32 × Int32 × Int32 × (Nat → Int32) × (Nat → Int32) × (Nat → Int32) × (Nat → Int32) × (Nat → Int32) × (Nat → Int32) × (Nat → Int32)) (H : Heap) (locs : List Loc) (pc : Nat) (ls : Array Slot), some t = some (rv, z_t_wind, z_t_force, z_t_rains, z_t_lost, z_t_hours, z_t_acts, z_t_blownMany, z_t_badAct, z_t_badWhy, z_t_ruinAct, z_t_ruinWho, z_t_stem, z_t_blown, z_t_heap, z_t_act, z_t_who, z_t_much, z_t_had) → gS E A s.heap (wX11_total E o_t a_t v_t_there t.2.1 t.2.2.1 t.2.2.2.1 t.2.2.2.2.1 t.2.2.2.2.2.1 v_t_sights v_t_padMany t.2.2.2.2.2.2.1 t.2.2.2.2.2.2.2.1 t.2.2.2.2.2.2.2.2.1 t.2.2.2.2.2.2.2.2.2.1 t.2.2.2.2.2.2.2.2.2.2.1 t.2.2.2.2.2.2.2.2.2.2.2.1 v_t_keptAt v_t_isWriting f_t_at t.2.2.2.2.2.2.2.2.2.2.2.2.1 f_t_lungs t.2.2.2.2.2.2.2.2.2.2.2.2.2.1 t.2.2.2.2.2.2.2.2.2.2.2.2.2.2.1 f_t_pad t.2.2.2.2.2.2.2.2.2.2.2.2.2.2.2.1 t.2.2.2.2.2.2.2.2.2.2.2.2.2.2.2.2.1 t.2.2.2.2.2.2.2.2.2.2.2.2.2.2.2.2.2.1 t.2.2.2.2.2.2.2.2.2.2.2.2.2.2.2.2.2.2) H locs → decode cX11_total pc = .ok (.ireturn, 1) → W p l e ({ frames := 9, cells := 0, slots := 0, locals := 204 } : Room) s m args below meth cd H locs 0 0 Q (F0 m pc ls [.int t.1]) := by
    intro t H locs pc ls h hw hd
    obtain rfl : t = (rv, z_t_wind, z_t_force, z_t_rains, z_t_lost, z_t_hours, z_t_acts, z_t_blownMany, z_t_badAct, z_t_badWhy, z_t_ruinAct, z_t_ruinWho, z_t_stem, z_t_blown, z_t_heap, z_t_act, z_t_who, z_t_much, z_t_had) := Option.some.inj h
    exact hret H locs pc ls hw hd
  have B70 : ∀ (v_t_wind : Int32) (v_t_force : Int32) (v_t_rains : Int32) (v_t_lost : Int32) (v_t_hours : Int32) (v_t_acts : Int32) (v_t_blownMany : Int32) (v_t_badAct : Int32) (v_t_badWhy : Int32) (v_t_ruinAct : Int32) (v_t_ruinWho : Int32) (f_t_stem : (Nat → Int32)) (f_t_blown : (Nat → Int32)) (f_t_heap : (Nat → Int32)) (f_t_act : (Nat → Int32)) (f_t_who : (Nat → Int32)) (f_t_much : (Nat → Int32)) (f_t_had : (Nat → Int32)) (s1 : Int32) (H : Heap) (locs : List Loc) (ls : Array Slot), fX11_total_b70 v_t_wind v_t_force v_t_rains v_t_lost v_t_hours v_t_acts v_t_blownMany v_t_badAct v_t_badWhy v_t_ruinAct v_t_ruinWho f_t_stem f_t_blown f_t_heap f_t_act f_t_who f_t_much f_t_had s1 = some (rv, z_t_wind, z_t_force, z_t_rains, z_t_lost, z_t_hours, z_t_acts, z_t_blownMany, z_t_badAct, z_t_badWhy, z_t_ruinAct, z_t_ruinWho, z_t_stem, z_t_blown, z_t_heap, z_t_act, z_t_who, z_t_much, z_t_had) → gS E A s.heap (wX11_total E o_t a_t v_t_there v_t_wind v_t_force v_t_rains v_t_lost v_t_hours v_t_sights v_t_padMany v_t_acts v_t_blownMany v_t_badAct v_t_badWhy v_t_ruinAct v_t_ruinWho v_t_keptAt v_t_isWriting f_t_at f_t_stem f_t_lungs f_t_blown f_t_heap f_t_pad f_t_act f_t_who f_t_much f_t_had) H locs → lv_has ls 3 [] → W p l e ({ frames := 9, cells := 0, slots := 0, locals := 204 } : Room) s m args below meth cd H locs 0 0 Q (F0 m 70 ls [.int s1, .ref o_t]) := by
    intro  v_t_wind v_t_force v_t_rains v_t_lost v_t_hours v_t_acts v_t_blownMany v_t_badAct v_t_badWhy v_t_ruinAct v_t_ruinWho f_t_stem f_t_blown f_t_heap f_t_act f_t_who f_t_much f_t_had s1 H locs ls hf hw hl
    obtain ⟨⟨r1_0, r1_1, r1_2, r1_3, r1_4, r1_5, r1_6, r1_7, r1_8⟩, hc2, hf⟩ := gB_s hf
    refine g_ki (is := [0, 2, 4, 5, 10]) (isR := [1, 3, 6, 7, 8, 9]) (nW := 11) (w1 := (wX11_back E o_t a_t v_t_there r1_1 r1_2 r1_3 r1_4 r1_5 v_t_sights v_t_padMany v_t_acts v_t_blownMany v_t_badAct v_t_badWhy v_t_ruinAct v_t_ruinWho v_t_keptAt v_t_isWriting r1_6 r1_7 r1_8 f_t_had)) (ws' := (wX11_total E o_t a_t v_t_there r1_1 r1_2 r1_3 r1_4 r1_5 v_t_sights v_t_padMany v_t_acts v_t_blownMany v_t_badAct v_t_badWhy v_t_ruinAct v_t_ruinWho v_t_keptAt v_t_isWriting f_t_at r1_6 f_t_lungs r1_7 r1_8 f_t_pad f_t_act f_t_who f_t_much f_t_had)) hw hA (g_rV hx hb hml hG hown hK hw (is := [0, 2, 4, 5, 10]) rfl (by decide) (mX11_back l E o_t a_t v_t_there v_t_wind v_t_force v_t_rains v_t_lost v_t_hours v_t_sights v_t_padMany v_t_acts v_t_blownMany v_t_badAct v_t_badWhy v_t_ruinAct v_t_ruinWho v_t_keptAt v_t_isWriting f_t_stem f_t_blown f_t_heap f_t_had s1 r1_0 r1_1 r1_2 r1_3 r1_4 r1_5 r1_6 r1_7 r1_8 hc2) wd_22_0 wd_22_1 wd_22_2 wd_1_5 wd_22_3 hX11_back g_allgood ⟨rfl, rfl⟩ ⟨Nat.le_of_ble_eq_true rfl, Nat.le_of_ble_eq_true rfl⟩ ⟨Nat.zero_le _, Nat.zero_le _⟩ (ci := 9) (q0 := 0) rfl rfl rfl rfl hl.1 rfl (Nat.le_of_ble_eq_true rfl) dX11_total_70) rfl (g_had [o_t, (a_t 2), (a_t 4), (a_t 5), (a_t 21)] rfl rfl) rfl (⟨⟨_, rfl, rfl⟩, ⟨⟨_, rfl, rfl⟩, ⟨⟨_, rfl, rfl⟩, ⟨⟨_, rfl, rfl⟩, ⟨⟨_, rfl, rfl⟩, ⟨⟨_, rfl, rfl⟩, trivial⟩⟩⟩⟩⟩⟩) rfl rfl (by decide) (fun H locs hw => ?_)
    exact hret1 (r1_0, r1_1, r1_2, r1_3, r1_4, r1_5, v_t_acts, v_t_blownMany, v_t_badAct, v_t_badWhy, v_t_ruinAct, v_t_ruinWho, r1_6, r1_7, r1_8, f_t_act, f_t_who, f_t_much, f_t_had) _ _ _ _ hf hw dX11_total_73
  refine lv_iload_n hx hb dX11_total_0 rfl (lv_at hl 1 rfl) ?_
  refine lv_i2l hx hb dX11_total_1 rfl ?_
  refine lv_lconst (v := 0) hx hb dX11_total_2 k_l0 ?_
  refine lv_ldc2 hx hb hown (hG _ wd_11_16) dX11_total_3 ?_
  obtain ⟨r3, hc4, hf⟩ := gB_s hf
  refine g_ki0 (is := []) hw hA (g_rS hx hb hml hG hown hK hw (is := []) rfl (by decide) (mX11_in l E (Int32.toInt64 x1) 0 3 r3 hc4) wd_8_10 wd_8_11 wd_1_5 wd_8_12 hX11_in g_allgood ⟨rfl, rfl⟩ ⟨Nat.le_of_ble_eq_true rfl, Nat.le_of_ble_eq_true rfl⟩ ⟨Nat.zero_le _, Nat.zero_le _⟩ rfl hl.1 rfl (Nat.le_of_ble_eq_true rfl) dX11_total_6) rfl (fun H locs hw => ?_)
  refine lv_if_ne (tgt := 15) hx hb dX11_total_9 (by decide) (fun hc => ?_) (fun hc => ?_)
  · have hf := g_f hc hf
    refine lv_aload_n hx hb dX11_total_15 rfl (lv_at hl 0 rfl) ?_
    obtain ⟨⟨r5_0, r5_1, r5_2, r5_3, r5_4, r5_5, r5_6, r5_7, r5_8, r5_9, r5_10, r5_11, r5_12, r5_13, r5_14, r5_15, r5_16, r5_17, r5_18⟩, hc6, hf⟩ := gB_s hf
    refine g_ki (is := [0, 1, 2, 3, 4, 5, 6, 7, 8, 9, 10]) (isR := []) (nW := 11) (w1 := (wX11_refusal E o_t a_t v_t_there r5_1 r5_2 r5_3 r5_4 r5_5 v_t_sights v_t_padMany r5_6 r5_7 r5_8 r5_9 r5_10 r5_11 v_t_keptAt v_t_isWriting f_t_at r5_12 f_t_lungs r5_13 r5_14 f_t_pad r5_15 r5_16 r5_17 r5_18)) (ws' := (wX11_total E o_t a_t v_t_there r5_1 r5_2 r5_3 r5_4 r5_5 v_t_sights v_t_padMany r5_6 r5_7 r5_8 r5_9 r5_10 r5_11 v_t_keptAt v_t_isWriting f_t_at r5_12 f_t_lungs r5_13 r5_14 f_t_pad r5_15 r5_16 r5_17 r5_18)) hw hA (g_rV hx hb hml hG hown hK hw (is := [0, 1, 2, 3, 4, 5, 6, 7, 8, 9, 10]) rfl (by decide) (mX11_refusal l E o_t a_t v_t_there v_t_wind v_t_force v_t_rains v_t_lost v_t_hours v_t_sights v_t_padMany v_t_acts v_t_blownMany v_t_badAct v_t_badWhy v_t_ruinAct v_t_ruinWho v_t_keptAt v_t_isWriting f_t_at f_t_stem f_t_lungs f_t_blown f_t_heap f_t_pad f_t_act f_t_who f_t_much f_t_had r5_0 r5_1 r5_2 r5_3 r5_4 r5_5 r5_6 r5_7 r5_8 r5_9 r5_10 r5_11 r5_12 r5_13 r5_14 r5_15 r5_16 r5_17 r5_18 hc6) wd_19_4 wd_19_5 wd_19_6 wd_1_5 wd_19_7 hX11_refusal g_allgood ⟨rfl, rfl⟩ ⟨Nat.le_of_ble_eq_true rfl, Nat.le_of_ble_eq_true rfl⟩ ⟨Nat.zero_le _, Nat.zero_le _⟩ (ci := 9) (q0 := 0) rfl rfl rfl rfl hl.1 rfl (Nat.le_of_ble_eq_true rfl) dX11_total_16) rfl (g_had [o_t, (a_t 1), (a_t 2), (a_t 3), (a_t 4), (a_t 5), (a_t 14), (a_t 16), (a_t 17), (a_t 18), (a_t 21)] rfl rfl) rfl (trivial) rfl rfl (by decide) (fun H locs hw => ?_)
    refine lv_istore_n (lv' := [(2, .int r5_0), (0, .ref o_t), (1, .int x1)]) hx hb dX11_total_19 rfl hl (Nat.le_of_ble_eq_true rfl) rfl (fun ls hl => ?_)
    refine lv_aload_n hx hb dX11_total_20 rfl (lv_at hl 1 rfl) ?_
    refine lv_iload_n hx hb dX11_total_21 rfl (lv_at hl 0 rfl) ?_
    refine lv_bipush (v := -6) hx hb dX11_total_22 k_bm6 ?_
    refine lv_icmp_eq (tgt := 31) hx hb dX11_total_24 (by decide) (fun hc => ?_) (fun hc => ?_)
    · have hf := g_t hc hf
      refine lv_iload_n hx hb dX11_total_31 rfl (lv_at hl 2 rfl) ?_
      refine lv_if_ne (tgt := 42) hx hb dX11_total_32 (by decide) (fun hc => ?_) (fun hc => ?_)
      · have hf := g_f hc hf
        refine lv_iload_n hx hb dX11_total_42 rfl (lv_at hl 2 rfl) ?_
        refine lv_iconst (v := 1) hx hb dX11_total_43 k_i1 ?_
        refine lv_icmp_ne (tgt := 54) hx hb dX11_total_44 (by decide) (fun hc => ?_) (fun hc => ?_)
        · have hf := g_f hc hf
          refine lv_iload_n hx hb dX11_total_54 rfl (lv_at hl 2 rfl) ?_
          refine lv_iconst (v := 2) hx hb dX11_total_55 k_i2 ?_
          refine lv_icmp_ne (tgt := 66) hx hb dX11_total_56 (by decide) (fun hc => ?_) (fun hc => ?_)
          · have hf := g_f hc hf
            refine lv_aload_n hx hb dX11_total_66 rfl (lv_at hl 1 rfl) ?_
            refine g_get hx hb hG hown hK hw inlX11 (ci := 9) rfl 0 10 (Nat.le_of_ble_eq_true rfl) rfl rfl wd_19_12 dX11_total_67 ?_
            exact B70 r5_1 r5_2 r5_3 r5_4 r5_5 r5_6 r5_7 r5_8 r5_9 r5_10 r5_11 r5_12 r5_13 r5_14 r5_15 r5_16 r5_17 r5_18 r5_5 _ _ _ hf hw (lv_sub hl [] rfl)
          · have hf := g_t hc hf
            refine lv_aload_n hx hb dX11_total_59 rfl (lv_at hl 1 rfl) ?_
            refine g_get hx hb hG hown hK hw inlX11 (ci := 9) rfl 0 9 (Nat.le_of_ble_eq_true rfl) rfl rfl wd_10_5 dX11_total_60 ?_
            refine lv_goto (tgt := 70) hx hb dX11_total_63 (by decide) ?_
            exact B70 r5_1 r5_2 r5_3 r5_4 r5_5 r5_6 r5_7 r5_8 r5_9 r5_10 r5_11 r5_12 r5_13 r5_14 r5_15 r5_16 r5_17 r5_18 r5_4 _ _ _ hf hw (lv_sub hl [] rfl)
        · have hf := g_t hc hf
          refine lv_aload_n hx hb dX11_total_47 rfl (lv_at hl 1 rfl) ?_
          obtain ⟨r7, hc8, hf⟩ := gB_s hf
          refine g_ki0 (is := [0, 5]) hw hA (g_rV hx hb hml hG hown hK hw (is := [0, 5]) rfl (by decide) (mX11_allLies l E o_t a_t v_t_there r5_1 r5_2 r5_3 r5_4 r5_5 v_t_sights v_t_padMany r5_6 r5_7 r5_8 r5_9 r5_10 r5_11 v_t_keptAt v_t_isWriting r5_14 r7 hc8) wd_24_2 wd_24_3 wd_24_4 wd_1_5 wd_24_5 hX11_allLies g_allgood ⟨rfl, rfl⟩ ⟨Nat.le_of_ble_eq_true rfl, Nat.le_of_ble_eq_true rfl⟩ ⟨Nat.zero_le _, Nat.zero_le _⟩ (ci := 9) (q0 := 0) rfl rfl rfl rfl hl.1 rfl (Nat.le_of_ble_eq_true rfl) dX11_total_48) rfl (fun H locs hw => ?_)
          refine lv_goto (tgt := 70) hx hb dX11_total_51 (by decide) ?_
          exact B70 r5_1 r5_2 r5_3 r5_4 r5_5 r5_6 r5_7 r5_8 r5_9 r5_10 r5_11 r5_12 r5_13 r5_14 r5_15 r5_16 r5_17 r5_18 r7 _ _ _ hf hw (lv_sub hl [] rfl)
      · have hf := g_t hc hf
        refine lv_aload_n hx hb dX11_total_35 rfl (lv_at hl 1 rfl) ?_
        obtain ⟨r9, hc10, hf⟩ := gB_s hf
        refine g_ki0 (is := [0, 2]) hw hA (g_rV hx hb hml hG hown hK hw (is := [0, 2]) rfl (by decide) (mX11_allSeeds l E o_t a_t v_t_there r5_1 r5_2 r5_3 r5_4 r5_5 v_t_sights v_t_padMany r5_6 r5_7 r5_8 r5_9 r5_10 r5_11 v_t_keptAt v_t_isWriting r5_12 r9 hc10) wd_23_22 wd_23_23 wd_24_0 wd_1_5 wd_24_1 hX11_allSeeds g_allgood ⟨rfl, rfl⟩ ⟨Nat.le_of_ble_eq_true rfl, Nat.le_of_ble_eq_true rfl⟩ ⟨Nat.zero_le _, Nat.zero_le _⟩ (ci := 9) (q0 := 0) rfl rfl rfl rfl hl.1 rfl (Nat.le_of_ble_eq_true rfl) dX11_total_36) rfl (fun H locs hw => ?_)
        refine lv_goto (tgt := 70) hx hb dX11_total_39 (by decide) ?_
        exact B70 r5_1 r5_2 r5_3 r5_4 r5_5 r5_6 r5_7 r5_8 r5_9 r5_10 r5_11 r5_12 r5_13 r5_14 r5_15 r5_16 r5_17 r5_18 r9 _ _ _ hf hw (lv_sub hl [] rfl)
    · have hf := g_f hc hf
      refine lv_iload_n hx hb dX11_total_27 rfl (lv_at hl 0 rfl) ?_
      refine lv_goto (tgt := 70) hx hb dX11_total_28 (by decide) ?_
      exact B70 r5_1 r5_2 r5_3 r5_4 r5_5 r5_6 r5_7 r5_8 r5_9 r5_10 r5_11 r5_12 r5_13 r5_14 r5_15 r5_16 r5_17 r5_18 r5_0 _ _ _ hf hw (lv_sub hl [] rfl)
  · have hf := g_t hc hf
    refine lv_bipush (v := -2) hx hb dX11_total_12 k_bm2 ?_
    exact hret1 ((-2), v_t_wind, v_t_force, v_t_rains, v_t_lost, v_t_hours, v_t_acts, v_t_blownMany, v_t_badAct, v_t_badWhy, v_t_ruinAct, v_t_ruinWho, f_t_stem, f_t_blown, f_t_heap, f_t_act, f_t_who, f_t_much, f_t_had) _ _ _ _ hf hw dX11_total_14
theorem hX11_ruined : yX11_ruined.cls = RX11 ∧ yX11_ruined.cls ≠ "java/lang/invoke/MethodHandle" ∧ yX11_ruined.cls ≠ "java/lang/invoke/VarHandle" ∧ (parseMethodDescriptor yX11_ruined.desc).map (fun d => d.parameters.length) = some 1 := by decide +kernel
set_option maxHeartbeats 4000000 in
set_option maxRecDepth 100000 in
theorem mX11_ruined (l : Launch) (E : gE) (o_t : Nat) (a_t : (Nat → Nat)) (v_t_there : Int32) (v_t_wind : Int32) (v_t_force : Int32) (v_t_rains : Int32) (v_t_lost : Int32) (v_t_hours : Int32) (v_t_sights : Int32) (v_t_padMany : Int32) (v_t_acts : Int32) (v_t_blownMany : Int32) (v_t_badAct : Int32) (v_t_badWhy : Int32) (v_t_ruinAct : Int32) (v_t_ruinWho : Int32) (v_t_keptAt : Int32) (v_t_isWriting : Int32) (f_t_at : (Nat → Int32)) (f_t_stem : (Nat → Int32)) (f_t_lungs : (Nat → Int32)) (f_t_blown : (Nat → Int32)) (f_t_heap : (Nat → Int32)) (f_t_pad : (Nat → Int32)) (f_t_act : (Nat → Int32)) (f_t_who : (Nat → Int32)) (f_t_much : (Nat → Int32)) (f_t_had : (Nat → Int32)) (x1 : Int32) (rv : Int32) (z_t_wind : Int32) (z_t_force : Int32) (z_t_rains : Int32) (z_t_lost : Int32) (z_t_hours : Int32) (z_t_acts : Int32) (z_t_blownMany : Int32) (z_t_badAct : Int32) (z_t_badWhy : Int32) (z_t_ruinAct : Int32) (z_t_ruinWho : Int32) (z_t_stem : (Nat → Int32)) (z_t_blown : (Nat → Int32)) (z_t_heap : (Nat → Int32)) (z_t_act : (Nat → Int32)) (z_t_who : (Nat → Int32)) (z_t_much : (Nat → Int32)) (z_t_had : (Nat → Int32)) (hf : fX11_ruined v_t_there v_t_wind v_t_force v_t_rains v_t_lost v_t_hours v_t_padMany v_t_acts v_t_blownMany v_t_badAct v_t_badWhy v_t_ruinAct v_t_ruinWho f_t_at f_t_stem f_t_lungs f_t_blown f_t_heap f_t_pad f_t_act f_t_who f_t_much f_t_had x1 = some (rv, z_t_wind, z_t_force, z_t_rains, z_t_lost, z_t_hours, z_t_acts, z_t_blownMany, z_t_badAct, z_t_badWhy, z_t_ruinAct, z_t_ruinWho, z_t_stem, z_t_blown, z_t_heap, z_t_act, z_t_who, z_t_much, z_t_had)) {sz : Nat} : gMi l yX11_ruined (gW yX11_ruined cX11_ruined 3 (some .int)) ({ frames := 9, cells := 0, slots := 0, locals := 204 } : Room) E [.ref o_t, .int x1] (wX11_ruined E o_t a_t v_t_there v_t_wind v_t_force v_t_rains v_t_lost v_t_hours v_t_sights v_t_padMany v_t_acts v_t_blownMany v_t_badAct v_t_badWhy v_t_ruinAct v_t_ruinWho v_t_keptAt v_t_isWriting f_t_at f_t_stem f_t_lungs f_t_blown f_t_heap f_t_pad f_t_act f_t_who f_t_much f_t_had) sz rv (wX11_ruined E o_t a_t v_t_there z_t_wind z_t_force z_t_rains z_t_lost z_t_hours v_t_sights v_t_padMany z_t_acts z_t_blownMany z_t_badAct z_t_badWhy z_t_ruinAct z_t_ruinWho v_t_keptAt v_t_isWriting f_t_at z_t_stem f_t_lungs z_t_blown z_t_heap f_t_pad z_t_act z_t_who z_t_much z_t_had) := by
  refine g_openI (own := RX11) (by decide) rfl (Nat.le_of_ble_eq_true rfl) (fun p e s m args below meth cd Q A hx hb hml hown hG hK hA hret hw ls hl => ?_)
  have hl : lv_has ls 3 [(0, .ref o_t), (1, .int x1)] := hl
  have hret1 : ∀ (t : Int32 × Int32 × Int32 × Int32 × Int32 × Int32 × Int32 × Int32 × Int32 × Int32 × Int32 × Int32 × (Nat → Int32) × (Nat → Int32) × (Nat → Int32) × (Nat → Int32) × (Nat → Int32) × (Nat → Int32) × (Nat → Int32)) (H : Heap) (locs : List Loc) (pc : Nat) (ls : Array Slot), some t = some (rv, z_t_wind, z_t_force, z_t_rains, z_t_lost, z_t_hours, z_t_acts, z_t_blownMany, z_t_badAct, z_t_badWhy, z_t_ruinAct, z_t_ruinWho, z_t_stem, z_t_blown, z_t_heap, z_t_act, z_t_who, z_t_much, z_t_had) → gS E A s.heap (wX11_ruined E o_t a_t v_t_there t.2.1 t.2.2.1 t.2.2.2.1 t.2.2.2.2.1 t.2.2.2.2.2.1 v_t_sights v_t_padMany t.2.2.2.2.2.2.1 t.2.2.2.2.2.2.2.1 t.2.2.2.2.2.2.2.2.1 t.2.2.2.2.2.2.2.2.2.1 t.2.2.2.2.2.2.2.2.2.2.1 t.2.2.2.2.2.2.2.2.2.2.2.1 v_t_keptAt v_t_isWriting f_t_at t.2.2.2.2.2.2.2.2.2.2.2.2.1 f_t_lungs t.2.2.2.2.2.2.2.2.2.2.2.2.2.1 t.2.2.2.2.2.2.2.2.2.2.2.2.2.2.1 f_t_pad t.2.2.2.2.2.2.2.2.2.2.2.2.2.2.2.1 t.2.2.2.2.2.2.2.2.2.2.2.2.2.2.2.2.1 t.2.2.2.2.2.2.2.2.2.2.2.2.2.2.2.2.2.1 t.2.2.2.2.2.2.2.2.2.2.2.2.2.2.2.2.2.2) H locs → decode cX11_ruined pc = .ok (.ireturn, 1) → W p l e ({ frames := 9, cells := 0, slots := 0, locals := 204 } : Room) s m args below meth cd H locs 0 0 Q (F0 m pc ls [.int t.1]) := by
    intro t H locs pc ls h hw hd
    obtain rfl : t = (rv, z_t_wind, z_t_force, z_t_rains, z_t_lost, z_t_hours, z_t_acts, z_t_blownMany, z_t_badAct, z_t_badWhy, z_t_ruinAct, z_t_ruinWho, z_t_stem, z_t_blown, z_t_heap, z_t_act, z_t_who, z_t_much, z_t_had) := Option.some.inj h
    exact hret H locs pc ls hw hd
  have B47 : ∀ (v_t_wind : Int32) (v_t_force : Int32) (v_t_rains : Int32) (v_t_lost : Int32) (v_t_hours : Int32) (v_t_acts : Int32) (v_t_blownMany : Int32) (v_t_badAct : Int32) (v_t_badWhy : Int32) (v_t_ruinAct : Int32) (v_t_ruinWho : Int32) (f_t_stem : (Nat → Int32)) (f_t_blown : (Nat → Int32)) (f_t_heap : (Nat → Int32)) (f_t_act : (Nat → Int32)) (f_t_who : (Nat → Int32)) (f_t_much : (Nat → Int32)) (f_t_had : (Nat → Int32)) (s0 : Int32) (H : Heap) (locs : List Loc) (ls : Array Slot), fX11_ruined_b47 v_t_wind v_t_force v_t_rains v_t_lost v_t_hours v_t_acts v_t_blownMany v_t_badAct v_t_badWhy v_t_ruinAct v_t_ruinWho f_t_stem f_t_blown f_t_heap f_t_act f_t_who f_t_much f_t_had s0 = some (rv, z_t_wind, z_t_force, z_t_rains, z_t_lost, z_t_hours, z_t_acts, z_t_blownMany, z_t_badAct, z_t_badWhy, z_t_ruinAct, z_t_ruinWho, z_t_stem, z_t_blown, z_t_heap, z_t_act, z_t_who, z_t_much, z_t_had) → gS E A s.heap (wX11_ruined E o_t a_t v_t_there v_t_wind v_t_force v_t_rains v_t_lost v_t_hours v_t_sights v_t_padMany v_t_acts v_t_blownMany v_t_badAct v_t_badWhy v_t_ruinAct v_t_ruinWho v_t_keptAt v_t_isWriting f_t_at f_t_stem f_t_lungs f_t_blown f_t_heap f_t_pad f_t_act f_t_who f_t_much f_t_had) H locs → lv_has ls 3 [] → W p l e ({ frames := 9, cells := 0, slots := 0, locals := 204 } : Room) s m args below meth cd H locs 0 0 Q (F0 m 47 ls [.int s0]) := by
    intro  v_t_wind v_t_force v_t_rains v_t_lost v_t_hours v_t_acts v_t_blownMany v_t_badAct v_t_badWhy v_t_ruinAct v_t_ruinWho f_t_stem f_t_blown f_t_heap f_t_act f_t_who f_t_much f_t_had s0 H locs ls hf hw hl
    exact hret1 (s0, v_t_wind, v_t_force, v_t_rains, v_t_lost, v_t_hours, v_t_acts, v_t_blownMany, v_t_badAct, v_t_badWhy, v_t_ruinAct, v_t_ruinWho, f_t_stem, f_t_blown, f_t_heap, f_t_act, f_t_who, f_t_much, f_t_had) _ _ _ _ hf hw dX11_ruined_47
  refine lv_iload_n hx hb dX11_ruined_0 rfl (lv_at hl 1 rfl) ?_
  refine lv_i2l hx hb dX11_ruined_1 rfl ?_
  refine lv_lconst (v := 0) hx hb dX11_ruined_2 k_l0 ?_
  refine lv_lconst (v := 1) hx hb dX11_ruined_3 k_l1 ?_
  obtain ⟨r1, hc2, hf⟩ := gB_s hf
  refine g_ki0 (is := []) hw hA (g_rS hx hb hml hG hown hK hw (is := []) rfl (by decide) (mX11_in l E (Int32.toInt64 x1) 0 1 r1 hc2) wd_8_10 wd_8_11 wd_1_5 wd_8_12 hX11_in g_allgood ⟨rfl, rfl⟩ ⟨Nat.le_of_ble_eq_true rfl, Nat.le_of_ble_eq_true rfl⟩ ⟨Nat.zero_le _, Nat.zero_le _⟩ rfl hl.1 rfl (Nat.le_of_ble_eq_true rfl) dX11_ruined_4) rfl (fun H locs hw => ?_)
  refine lv_if_ne (tgt := 13) hx hb dX11_ruined_7 (by decide) (fun hc => ?_) (fun hc => ?_)
  · have hf := g_f hc hf
    refine lv_aload_n hx hb dX11_ruined_13 rfl (lv_at hl 0 rfl) ?_
    refine lv_aload_n hx hb dX11_ruined_14 rfl (lv_at hl 0 rfl) ?_
    obtain ⟨⟨r3_0, r3_1, r3_2, r3_3, r3_4, r3_5, r3_6, r3_7, r3_8, r3_9, r3_10, r3_11, r3_12, r3_13, r3_14, r3_15, r3_16, r3_17, r3_18⟩, hc4, hf⟩ := gB_s hf
    refine g_ki (is := [0, 1, 2, 3, 4, 5, 6, 7, 8, 9, 10]) (isR := []) (nW := 11) (w1 := (wX11_refusal E o_t a_t v_t_there r3_1 r3_2 r3_3 r3_4 r3_5 v_t_sights v_t_padMany r3_6 r3_7 r3_8 r3_9 r3_10 r3_11 v_t_keptAt v_t_isWriting f_t_at r3_12 f_t_lungs r3_13 r3_14 f_t_pad r3_15 r3_16 r3_17 r3_18)) (ws' := (wX11_ruined E o_t a_t v_t_there r3_1 r3_2 r3_3 r3_4 r3_5 v_t_sights v_t_padMany r3_6 r3_7 r3_8 r3_9 r3_10 r3_11 v_t_keptAt v_t_isWriting f_t_at r3_12 f_t_lungs r3_13 r3_14 f_t_pad r3_15 r3_16 r3_17 r3_18)) hw hA (g_rV hx hb hml hG hown hK hw (is := [0, 1, 2, 3, 4, 5, 6, 7, 8, 9, 10]) rfl (by decide) (mX11_refusal l E o_t a_t v_t_there v_t_wind v_t_force v_t_rains v_t_lost v_t_hours v_t_sights v_t_padMany v_t_acts v_t_blownMany v_t_badAct v_t_badWhy v_t_ruinAct v_t_ruinWho v_t_keptAt v_t_isWriting f_t_at f_t_stem f_t_lungs f_t_blown f_t_heap f_t_pad f_t_act f_t_who f_t_much f_t_had r3_0 r3_1 r3_2 r3_3 r3_4 r3_5 r3_6 r3_7 r3_8 r3_9 r3_10 r3_11 r3_12 r3_13 r3_14 r3_15 r3_16 r3_17 r3_18 hc4) wd_19_4 wd_19_5 wd_19_6 wd_1_5 wd_19_7 hX11_refusal g_allgood ⟨rfl, rfl⟩ ⟨Nat.le_of_ble_eq_true rfl, Nat.le_of_ble_eq_true rfl⟩ ⟨Nat.zero_le _, Nat.zero_le _⟩ (ci := 9) (q0 := 0) rfl rfl rfl rfl hl.1 rfl (Nat.le_of_ble_eq_true rfl) dX11_ruined_15) rfl (g_had [o_t, (a_t 1), (a_t 2), (a_t 3), (a_t 4), (a_t 5), (a_t 14), (a_t 16), (a_t 17), (a_t 18), (a_t 21)] rfl rfl) rfl (trivial) rfl rfl (by decide) (fun H locs hw => ?_)
    obtain ⟨⟨r5_0, r5_1, r5_2, r5_3, r5_4, r5_5, r5_6, r5_7, r5_8⟩, hc6, hf⟩ := gB_s hf
    refine g_ki (is := [0, 2, 4, 5, 10]) (isR := [1, 3, 6, 7, 8, 9]) (nW := 11) (w1 := (wX11_back E o_t a_t v_t_there r5_1 r5_2 r5_3 r5_4 r5_5 v_t_sights v_t_padMany r3_6 r3_7 r3_8 r3_9 r3_10 r3_11 v_t_keptAt v_t_isWriting r5_6 r5_7 r5_8 r3_18)) (ws' := (wX11_ruined E o_t a_t v_t_there r5_1 r5_2 r5_3 r5_4 r5_5 v_t_sights v_t_padMany r3_6 r3_7 r3_8 r3_9 r3_10 r3_11 v_t_keptAt v_t_isWriting f_t_at r5_6 f_t_lungs r5_7 r5_8 f_t_pad r3_15 r3_16 r3_17 r3_18)) hw hA (g_rV hx hb hml hG hown hK hw (is := [0, 2, 4, 5, 10]) rfl (by decide) (mX11_back l E o_t a_t v_t_there r3_1 r3_2 r3_3 r3_4 r3_5 v_t_sights v_t_padMany r3_6 r3_7 r3_8 r3_9 r3_10 r3_11 v_t_keptAt v_t_isWriting r3_12 r3_13 r3_14 r3_18 r3_0 r5_0 r5_1 r5_2 r5_3 r5_4 r5_5 r5_6 r5_7 r5_8 hc6) wd_22_0 wd_22_1 wd_22_2 wd_1_5 wd_22_3 hX11_back g_allgood ⟨rfl, rfl⟩ ⟨Nat.le_of_ble_eq_true rfl, Nat.le_of_ble_eq_true rfl⟩ ⟨Nat.zero_le _, Nat.zero_le _⟩ (ci := 9) (q0 := 0) rfl rfl rfl rfl hl.1 rfl (Nat.le_of_ble_eq_true rfl) dX11_ruined_18) rfl (g_had [o_t, (a_t 2), (a_t 4), (a_t 5), (a_t 21)] rfl rfl) rfl (⟨⟨_, rfl, rfl⟩, ⟨⟨_, rfl, rfl⟩, ⟨⟨_, rfl, rfl⟩, ⟨⟨_, rfl, rfl⟩, ⟨⟨_, rfl, rfl⟩, ⟨⟨_, rfl, rfl⟩, trivial⟩⟩⟩⟩⟩⟩) rfl rfl (by decide) (fun H locs hw => ?_)
    refine lv_istore_n (lv' := [(2, .int r5_0), (0, .ref o_t), (1, .int x1)]) hx hb dX11_ruined_21 rfl hl (Nat.le_of_ble_eq_true rfl) rfl (fun ls hl => ?_)
    refine lv_iload_n hx hb dX11_ruined_22 rfl (lv_at hl 0 rfl) ?_
    refine lv_bipush (v := -6) hx hb dX11_ruined_23 k_bm6 ?_
    refine lv_icmp_eq (tgt := 32) hx hb dX11_ruined_25 (by decide) (fun hc => ?_) (fun hc => ?_)
    · have hf := g_t hc hf
      refine lv_iload_n hx hb dX11_ruined_32 rfl (lv_at hl 2 rfl) ?_
      refine lv_if_ne (tgt := 43) hx hb dX11_ruined_33 (by decide) (fun hc => ?_) (fun hc => ?_)
      · have hf := g_f hc hf
        refine lv_aload_n hx hb dX11_ruined_43 rfl (lv_at hl 1 rfl) ?_
        refine g_get hx hb hG hown hK hw inlX11 (ci := 9) rfl 0 25 (Nat.le_of_ble_eq_true rfl) rfl rfl wd_19_19 dX11_ruined_44 ?_
        exact B47 r5_1 r5_2 r5_3 r5_4 r5_5 r3_6 r3_7 r3_8 r3_9 r3_10 r3_11 r5_6 r5_7 r5_8 r3_15 r3_16 r3_17 r3_18 r3_11 _ _ _ hf hw (lv_sub hl [] rfl)
      · have hf := g_t hc hf
        refine lv_aload_n hx hb dX11_ruined_36 rfl (lv_at hl 1 rfl) ?_
        refine g_get hx hb hG hown hK hw inlX11 (ci := 9) rfl 0 24 (Nat.le_of_ble_eq_true rfl) rfl rfl wd_19_18 dX11_ruined_37 ?_
        refine lv_goto (tgt := 47) hx hb dX11_ruined_40 (by decide) ?_
        exact B47 r5_1 r5_2 r5_3 r5_4 r5_5 r3_6 r3_7 r3_8 r3_9 r3_10 r3_11 r5_6 r5_7 r5_8 r3_15 r3_16 r3_17 r3_18 r3_10 _ _ _ hf hw (lv_sub hl [] rfl)
    · have hf := g_f hc hf
      refine lv_iload_n hx hb dX11_ruined_28 rfl (lv_at hl 0 rfl) ?_
      refine lv_goto (tgt := 47) hx hb dX11_ruined_29 (by decide) ?_
      exact B47 r5_1 r5_2 r5_3 r5_4 r5_5 r3_6 r3_7 r3_8 r3_9 r3_10 r3_11 r5_6 r5_7 r5_8 r3_15 r3_16 r3_17 r3_18 r5_0 _ _ _ hf hw (lv_sub hl [] rfl)
  · have hf := g_t hc hf
    refine lv_bipush (v := -2) hx hb dX11_ruined_10 k_bm2 ?_
    exact hret1 ((-2), v_t_wind, v_t_force, v_t_rains, v_t_lost, v_t_hours, v_t_acts, v_t_blownMany, v_t_badAct, v_t_badWhy, v_t_ruinAct, v_t_ruinWho, f_t_stem, f_t_blown, f_t_heap, f_t_act, f_t_who, f_t_much, f_t_had) _ _ _ _ hf hw dX11_ruined_12
