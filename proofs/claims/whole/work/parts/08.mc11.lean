theorem hX6_cough : yX6_cough.cls = RX6 ∧ yX6_cough.cls ≠ "java/lang/invoke/MethodHandle" ∧ yX6_cough.cls ≠ "java/lang/invoke/VarHandle" ∧ (parseMethodDescriptor yX6_cough.desc).map (fun d => d.parameters.length) = some 1 := by decide +kernel
set_option maxHeartbeats 4000000 in
set_option maxRecDepth 100000 in
theorem mX6_cough (l : Launch) (E : gE) (o_t : Nat) (a_t : (Nat → Nat)) (v_t_families : Int32) (v_t_wind : Int32) (v_t_force : Int32) (v_t_rain : Int32) (v_t_lost : Int32) (v_t_hour : Int32) (f_t_home : (Nat → Int32)) (f_t_seeds : (Nat → Int32)) (f_t_ground : (Nat → Int32)) (x1 : Int32) (z_t_lost : Int32) (z_t_seeds : (Nat → Int32)) (z_t_ground : (Nat → Int32)) (hf : fX6_cough v_t_families v_t_wind v_t_force v_t_lost f_t_home f_t_seeds f_t_ground x1 = some (z_t_lost, z_t_seeds, z_t_ground)) {sz : Nat} : gMv l yX6_cough (gW yX6_cough cX6_cough 3 none) ({ frames := 2, cells := 0, slots := 0, locals := 49 } : Room) E [.ref o_t, .int x1] (wX6_cough E o_t a_t v_t_families v_t_wind v_t_force v_t_rain v_t_lost v_t_hour f_t_home f_t_seeds f_t_ground) sz (wX6_cough E o_t a_t v_t_families v_t_wind v_t_force v_t_rain z_t_lost v_t_hour f_t_home z_t_seeds z_t_ground) := by
  refine g_openV (own := RX6) (by decide) rfl (Nat.le_of_ble_eq_true rfl) (fun p e s m args below meth cd Q A hx hb hml hown hG hK hA hret hw ls hl => ?_)
  have hl : lv_has ls 3 [(0, .ref o_t), (1, .int x1)] := hl
  have hret1 : ∀ (t : Int32 × (Nat → Int32) × (Nat → Int32)) (H : Heap) (locs : List Loc) (pc : Nat) (ls : Array Slot), some t = some (z_t_lost, z_t_seeds, z_t_ground) → gS E A s.heap (wX6_cough E o_t a_t v_t_families v_t_wind v_t_force v_t_rain t.1 v_t_hour f_t_home t.2.1 t.2.2) H locs → decode cX6_cough pc = .ok (.return_, 1) → W p l e ({ frames := 2, cells := 0, slots := 0, locals := 49 } : Room) s m args below meth cd H locs 0 0 Q (F0 m pc ls []) := by
    intro t H locs pc ls h hw hd
    obtain rfl : t = (z_t_lost, z_t_seeds, z_t_ground) := Option.some.inj h
    exact hret H locs pc ls hw hd
  have B44 : ∀ (v_t_lost : Int32) (f_t_seeds : (Nat → Int32)) (f_t_ground : (Nat → Int32)) (H : Heap) (locs : List Loc) (ls : Array Slot), fX6_cough_b44 v_t_lost f_t_seeds f_t_ground = some (z_t_lost, z_t_seeds, z_t_ground) → gS E A s.heap (wX6_cough E o_t a_t v_t_families v_t_wind v_t_force v_t_rain v_t_lost v_t_hour f_t_home f_t_seeds f_t_ground) H locs → lv_has ls 3 [] → W p l e ({ frames := 2, cells := 0, slots := 0, locals := 49 } : Room) s m args below meth cd H locs 0 0 Q (F0 m 44 ls []) := by
    intro  v_t_lost f_t_seeds f_t_ground H locs ls hf hw hl
    exact hret1 (v_t_lost, f_t_seeds, f_t_ground) _ _ _ _ hf hw dX6_cough_44
  refine lv_aload_n hx hb dX6_cough_0 rfl (lv_at hl 0 rfl) ?_
  refine lv_iload_n hx hb dX6_cough_1 rfl (lv_at hl 1 rfl) ?_
  obtain ⟨r1, hc2, hf⟩ := gB_s hf
  refine g_ki0 (is := [0]) hw hA (g_rV hx hb hml hG hown hK hw (is := [0]) rfl (by decide) (mX6_isThere l E o_t a_t v_t_families v_t_wind v_t_force v_t_rain v_t_lost v_t_hour x1 r1 hc2) wd_9_16 wd_9_9 wd_9_10 wd_2_20 wd_9_11 hX6_isThere g_allgood ⟨rfl, rfl⟩ ⟨Nat.le_of_ble_eq_true rfl, Nat.le_of_ble_eq_true rfl⟩ ⟨Nat.zero_le _, Nat.zero_le _⟩ (ci := 5) (q0 := 0) rfl rfl rfl rfl hl.1 rfl (Nat.le_of_ble_eq_true rfl) dX6_cough_2) rfl (fun H locs hw => ?_)
  refine lv_if_eq (tgt := 44) hx hb dX6_cough_5 (by decide) (fun hc => ?_) (fun hc => ?_)
  · have hf := g_t hc hf
    exact B44 v_t_lost f_t_seeds f_t_ground _ _ _ hf hw (lv_sub hl [] rfl)
  · have hf := g_f hc hf
    refine lv_aload_n hx hb dX6_cough_8 rfl (lv_at hl 0 rfl) ?_
    refine g_get hx hb hG hown hK hw inlX6 (ci := 5) rfl 0 1 (Nat.le_of_ble_eq_true rfl) rfl rfl wd_3_7 dX6_cough_9 ?_
    refine lv_iload_n hx hb dX6_cough_12 rfl (lv_at hl 1 rfl) ?_
    obtain ⟨hi3, hf⟩ := gA_s hf
    refine g_iald hx hb hK hw 2 rfl hi3 dX6_cough_13 ?_
    refine lv_istore_n (lv' := [(2, .int (f_t_seeds (Int32.toNatClampNeg x1))), (0, .ref o_t), (1, .int x1)]) hx hb dX6_cough_14 rfl hl (Nat.le_of_ble_eq_true rfl) rfl (fun ls hl => ?_)
    refine lv_aload_n hx hb dX6_cough_15 rfl (lv_at hl 1 rfl) ?_
    refine g_get hx hb hG hown hK hw inlX6 (ci := 5) rfl 0 1 (Nat.le_of_ble_eq_true rfl) rfl rfl wd_3_7 dX6_cough_16 ?_
    refine lv_iload_n hx hb dX6_cough_19 rfl (lv_at hl 2 rfl) ?_
    refine lv_iconst (v := 0) hx hb dX6_cough_20 k_i0 ?_
    obtain ⟨hi4, hf⟩ := gA_s hf
    refine g_iast (ws' := (wX6_cough E o_t a_t v_t_families v_t_wind v_t_force v_t_rain v_t_lost v_t_hour f_t_home (upd f_t_seeds (Int32.toNatClampNeg x1) 0) f_t_ground)) hx hb hK hw 2 rfl hi4 rfl dX6_cough_21 (fun H locs hw => ?_)
    refine lv_aload_n hx hb dX6_cough_22 rfl (lv_at hl 1 rfl) ?_
    refine lv_aload_n hx hb dX6_cough_23 rfl (lv_at hl 1 rfl) ?_
    refine g_get hx hb hG hown hK hw inlX6 (ci := 5) rfl 0 0 (Nat.le_of_ble_eq_true rfl) rfl rfl wd_3_6 dX6_cough_24 ?_
    refine lv_iload_n hx hb dX6_cough_27 rfl (lv_at hl 2 rfl) ?_
    obtain ⟨hi5, hf⟩ := gA_s hf
    refine g_iald hx hb hK hw 1 rfl hi5 dX6_cough_28 ?_
    refine lv_aload_n hx hb dX6_cough_29 rfl (lv_at hl 1 rfl) ?_
    refine g_get hx hb hG hown hK hw inlX6 (ci := 5) rfl 0 6 (Nat.le_of_ble_eq_true rfl) rfl rfl wd_3_12 dX6_cough_30 ?_
    refine lv_aload_n hx hb dX6_cough_33 rfl (lv_at hl 1 rfl) ?_
    refine g_get hx hb hG hown hK hw inlX6 (ci := 5) rfl 0 7 (Nat.le_of_ble_eq_true rfl) rfl rfl wd_3_13 dX6_cough_34 ?_
    obtain ⟨r6, hc7, hf⟩ := gB_s hf
    refine g_ki0 (is := []) hw hA (g_rN (host := "SeedBank") hx hb hml hG hown hK hw (is := []) rfl (by decide) (mX10_downwind l E (f_t_home (Int32.toNatClampNeg x1)) v_t_wind v_t_force r6 hc7) (List.mem_of_getElem? (i := 13) rfl) wd_17_12 wd_1_2 wd_17_13 hX10_downwind g_allgood ⟨rfl, rfl⟩ ⟨Nat.le_of_ble_eq_true rfl, Nat.le_of_ble_eq_true rfl⟩ ⟨Nat.zero_le _, Nat.zero_le _⟩ rfl hl.1 rfl (Nat.le_of_ble_eq_true rfl) dX6_cough_37) rfl (fun H locs hw => ?_)
    refine lv_iload_n hx hb dX6_cough_40 rfl (lv_at hl 0 rfl) ?_
    obtain ⟨⟨r8_0, r8_1, r8_2⟩, hc9, hf⟩ := gB_s hf
    refine g_kv (is := [0, 1, 2, 3]) (isR := []) (nW := 4) (w1 := (wX6_arrive E o_t a_t v_t_families v_t_wind v_t_force v_t_rain r8_0 v_t_hour f_t_home r8_1 r8_2)) (ws' := (wX6_cough E o_t a_t v_t_families v_t_wind v_t_force v_t_rain r8_0 v_t_hour f_t_home r8_1 r8_2)) hw hA (g_rV hx hb hml hG hown hK hw (is := [0, 1, 2, 3]) rfl (by decide) (mX6_arrive l E o_t a_t v_t_families v_t_wind v_t_force v_t_rain v_t_lost v_t_hour f_t_home (upd f_t_seeds (Int32.toNatClampNeg x1) 0) f_t_ground r6 (f_t_seeds (Int32.toNatClampNeg x1)) r8_0 r8_1 r8_2 hc9) wd_17_14 wd_17_15 wd_17_16 wd_2_20 wd_17_17 hX6_arrive g_allgood ⟨rfl, rfl⟩ ⟨Nat.le_of_ble_eq_true rfl, Nat.le_of_ble_eq_true rfl⟩ ⟨Nat.zero_le _, Nat.zero_le _⟩ (ci := 5) (q0 := 0) rfl rfl rfl rfl hl.1 rfl (Nat.le_of_ble_eq_true rfl) dX6_cough_41) rfl (g_had [o_t, (a_t 0), (a_t 1), (a_t 4)] rfl rfl) rfl (trivial) rfl rfl (by decide) (fun H locs hw => ?_)
    exact B44 r8_0 r8_1 r8_2 _ _ _ hf hw (lv_sub hl [] rfl)
theorem hX6_puff : yX6_puff.cls = RX6 ∧ yX6_puff.cls ≠ "java/lang/invoke/MethodHandle" ∧ yX6_puff.cls ≠ "java/lang/invoke/VarHandle" ∧ (parseMethodDescriptor yX6_puff.desc).map (fun d => d.parameters.length) = some 2 := by decide +kernel
set_option maxHeartbeats 4000000 in
set_option maxRecDepth 100000 in
theorem mX6_puff (l : Launch) (E : gE) (o_t : Nat) (a_t : (Nat → Nat)) (v_t_families : Int32) (v_t_wind : Int32) (v_t_force : Int32) (v_t_rain : Int32) (v_t_lost : Int32) (v_t_hour : Int32) (f_t_home : (Nat → Int32)) (f_t_seeds : (Nat → Int32)) (f_t_blown : (Nat → Int32)) (f_t_ground : (Nat → Int32)) (x1 : Int32) (x2 : Int32) (z_t_lost : Int32) (z_t_seeds : (Nat → Int32)) (z_t_blown : (Nat → Int32)) (z_t_ground : (Nat → Int32)) (hf : fX6_puff v_t_families v_t_wind v_t_force v_t_lost f_t_home f_t_seeds f_t_blown f_t_ground x1 x2 = some (z_t_lost, z_t_seeds, z_t_blown, z_t_ground)) {sz : Nat} : gMv l yX6_puff (gW yX6_puff cX6_puff 3 none) ({ frames := 2, cells := 0, slots := 0, locals := 49 } : Room) E [.ref o_t, .int x1, .int x2] (wX6_puff E o_t a_t v_t_families v_t_wind v_t_force v_t_rain v_t_lost v_t_hour f_t_home f_t_seeds f_t_blown f_t_ground) sz (wX6_puff E o_t a_t v_t_families v_t_wind v_t_force v_t_rain z_t_lost v_t_hour f_t_home z_t_seeds z_t_blown z_t_ground) := by
  refine g_openV (own := RX6) (by decide) rfl (Nat.le_of_ble_eq_true rfl) (fun p e s m args below meth cd Q A hx hb hml hown hG hK hA hret hw ls hl => ?_)
  have hl : lv_has ls 3 [(0, .ref o_t), (1, .int x1), (2, .int x2)] := hl
  have hret1 : ∀ (t : Int32 × (Nat → Int32) × (Nat → Int32) × (Nat → Int32)) (H : Heap) (locs : List Loc) (pc : Nat) (ls : Array Slot), some t = some (z_t_lost, z_t_seeds, z_t_blown, z_t_ground) → gS E A s.heap (wX6_puff E o_t a_t v_t_families v_t_wind v_t_force v_t_rain t.1 v_t_hour f_t_home t.2.1 t.2.2.1 t.2.2.2) H locs → decode cX6_puff pc = .ok (.return_, 1) → W p l e ({ frames := 2, cells := 0, slots := 0, locals := 49 } : Room) s m args below meth cd H locs 0 0 Q (F0 m pc ls []) := by
    intro t H locs pc ls h hw hd
    obtain rfl : t = (z_t_lost, z_t_seeds, z_t_blown, z_t_ground) := Option.some.inj h
    exact hret H locs pc ls hw hd
  have B50 : ∀ (v_t_lost : Int32) (f_t_seeds : (Nat → Int32)) (f_t_blown : (Nat → Int32)) (f_t_ground : (Nat → Int32)) (H : Heap) (locs : List Loc) (ls : Array Slot), fX6_puff_b50 v_t_lost f_t_seeds f_t_blown f_t_ground = some (z_t_lost, z_t_seeds, z_t_blown, z_t_ground) → gS E A s.heap (wX6_puff E o_t a_t v_t_families v_t_wind v_t_force v_t_rain v_t_lost v_t_hour f_t_home f_t_seeds f_t_blown f_t_ground) H locs → lv_has ls 3 [] → W p l e ({ frames := 2, cells := 0, slots := 0, locals := 49 } : Room) s m args below meth cd H locs 0 0 Q (F0 m 50 ls []) := by
    intro  v_t_lost f_t_seeds f_t_blown f_t_ground H locs ls hf hw hl
    exact hret1 (v_t_lost, f_t_seeds, f_t_blown, f_t_ground) _ _ _ _ hf hw dX6_puff_50
  refine lv_aload_n hx hb dX6_puff_0 rfl (lv_at hl 0 rfl) ?_
  refine lv_iload_n hx hb dX6_puff_1 rfl (lv_at hl 1 rfl) ?_
  obtain ⟨r1, hc2, hf⟩ := gB_s hf
  refine g_ki0 (is := [0]) hw hA (g_rV hx hb hml hG hown hK hw (is := [0]) rfl (by decide) (mX6_isThere l E o_t a_t v_t_families v_t_wind v_t_force v_t_rain v_t_lost v_t_hour x1 r1 hc2) wd_9_16 wd_9_9 wd_9_10 wd_2_20 wd_9_11 hX6_isThere g_allgood ⟨rfl, rfl⟩ ⟨Nat.le_of_ble_eq_true rfl, Nat.le_of_ble_eq_true rfl⟩ ⟨Nat.zero_le _, Nat.zero_le _⟩ (ci := 5) (q0 := 0) rfl rfl rfl rfl hl.1 rfl (Nat.le_of_ble_eq_true rfl) dX6_puff_2) rfl (fun H locs hw => ?_)
  refine lv_if_eq (tgt := 50) hx hb dX6_puff_5 (by decide) (fun hc => ?_) (fun hc => ?_)
  · have hf := g_t hc hf
    exact B50 v_t_lost f_t_seeds f_t_blown f_t_ground _ _ _ hf hw (lv_sub hl [] rfl)
  · have hf := g_f hc hf
    refine lv_aload_n hx hb dX6_puff_8 rfl (lv_at hl 0 rfl) ?_
    refine g_get hx hb hG hown hK hw inlX6 (ci := 5) rfl 0 3 (Nat.le_of_ble_eq_true rfl) rfl rfl wd_3_9 dX6_puff_9 ?_
    refine lv_iload_n hx hb dX6_puff_12 rfl (lv_at hl 1 rfl) ?_
    refine lv_dup2_11 hx hb dX6_puff_13 rfl rfl ?_
    obtain ⟨hi3, hf⟩ := gA_s hf
    refine g_iald hx hb hK hw 3 rfl hi3 dX6_puff_14 ?_
    refine lv_iload_n hx hb dX6_puff_15 rfl (lv_at hl 2 rfl) ?_
    refine lv_iadd hx hb dX6_puff_16 ?_
    obtain ⟨hi4, hf⟩ := gA_s hf
    refine g_iast (ws' := (wX6_puff E o_t a_t v_t_families v_t_wind v_t_force v_t_rain v_t_lost v_t_hour f_t_home f_t_seeds (upd f_t_blown (Int32.toNatClampNeg x1) ((f_t_blown (Int32.toNatClampNeg x1)) + x2)) f_t_ground)) hx hb hK hw 3 rfl hi4 rfl dX6_puff_17 (fun H locs hw => ?_)
    refine lv_aload_n hx hb dX6_puff_18 rfl (lv_at hl 0 rfl) ?_
    refine g_get hx hb hG hown hK hw inlX6 (ci := 5) rfl 0 1 (Nat.le_of_ble_eq_true rfl) rfl rfl wd_3_7 dX6_puff_19 ?_
    refine lv_iload_n hx hb dX6_puff_22 rfl (lv_at hl 1 rfl) ?_
    refine lv_dup2_11 hx hb dX6_puff_23 rfl rfl ?_
    obtain ⟨hi5, hf⟩ := gA_s hf
    refine g_iald hx hb hK hw 2 rfl hi5 dX6_puff_24 ?_
    refine lv_iload_n hx hb dX6_puff_25 rfl (lv_at hl 2 rfl) ?_
    refine lv_isub hx hb dX6_puff_26 ?_
    obtain ⟨hi6, hf⟩ := gA_s hf
    refine g_iast (ws' := (wX6_puff E o_t a_t v_t_families v_t_wind v_t_force v_t_rain v_t_lost v_t_hour f_t_home (upd f_t_seeds (Int32.toNatClampNeg x1) ((f_t_seeds (Int32.toNatClampNeg x1)) - x2)) (upd f_t_blown (Int32.toNatClampNeg x1) ((f_t_blown (Int32.toNatClampNeg x1)) + x2)) f_t_ground)) hx hb hK hw 2 rfl hi6 rfl dX6_puff_27 (fun H locs hw => ?_)
    refine lv_aload_n hx hb dX6_puff_28 rfl (lv_at hl 0 rfl) ?_
    refine lv_aload_n hx hb dX6_puff_29 rfl (lv_at hl 0 rfl) ?_
    refine g_get hx hb hG hown hK hw inlX6 (ci := 5) rfl 0 0 (Nat.le_of_ble_eq_true rfl) rfl rfl wd_3_6 dX6_puff_30 ?_
    refine lv_iload_n hx hb dX6_puff_33 rfl (lv_at hl 1 rfl) ?_
    obtain ⟨hi7, hf⟩ := gA_s hf
    refine g_iald hx hb hK hw 1 rfl hi7 dX6_puff_34 ?_
    refine lv_aload_n hx hb dX6_puff_35 rfl (lv_at hl 0 rfl) ?_
    refine g_get hx hb hG hown hK hw inlX6 (ci := 5) rfl 0 6 (Nat.le_of_ble_eq_true rfl) rfl rfl wd_3_12 dX6_puff_36 ?_
    refine lv_aload_n hx hb dX6_puff_39 rfl (lv_at hl 0 rfl) ?_
    refine g_get hx hb hG hown hK hw inlX6 (ci := 5) rfl 0 7 (Nat.le_of_ble_eq_true rfl) rfl rfl wd_3_13 dX6_puff_40 ?_
    obtain ⟨r8, hc9, hf⟩ := gB_s hf
    refine g_ki0 (is := []) hw hA (g_rN (host := "SeedBank") hx hb hml hG hown hK hw (is := []) rfl (by decide) (mX10_downwind l E (f_t_home (Int32.toNatClampNeg x1)) v_t_wind v_t_force r8 hc9) (List.mem_of_getElem? (i := 13) rfl) wd_17_12 wd_1_2 wd_17_13 hX10_downwind g_allgood ⟨rfl, rfl⟩ ⟨Nat.le_of_ble_eq_true rfl, Nat.le_of_ble_eq_true rfl⟩ ⟨Nat.zero_le _, Nat.zero_le _⟩ rfl hl.1 rfl (Nat.le_of_ble_eq_true rfl) dX6_puff_43) rfl (fun H locs hw => ?_)
    refine lv_iload_n hx hb dX6_puff_46 rfl (lv_at hl 2 rfl) ?_
    obtain ⟨⟨r10_0, r10_1, r10_2⟩, hc11, hf⟩ := gB_s hf
    refine g_kv (is := [0, 1, 2, 4]) (isR := [3]) (nW := 5) (w1 := (wX6_arrive E o_t a_t v_t_families v_t_wind v_t_force v_t_rain r10_0 v_t_hour f_t_home r10_1 r10_2)) (ws' := (wX6_puff E o_t a_t v_t_families v_t_wind v_t_force v_t_rain r10_0 v_t_hour f_t_home r10_1 (upd f_t_blown (Int32.toNatClampNeg x1) ((f_t_blown (Int32.toNatClampNeg x1)) + x2)) r10_2)) hw hA (g_rV hx hb hml hG hown hK hw (is := [0, 1, 2, 4]) rfl (by decide) (mX6_arrive l E o_t a_t v_t_families v_t_wind v_t_force v_t_rain v_t_lost v_t_hour f_t_home (upd f_t_seeds (Int32.toNatClampNeg x1) ((f_t_seeds (Int32.toNatClampNeg x1)) - x2)) f_t_ground r8 x2 r10_0 r10_1 r10_2 hc11) wd_17_14 wd_17_15 wd_17_16 wd_2_20 wd_17_17 hX6_arrive g_allgood ⟨rfl, rfl⟩ ⟨Nat.le_of_ble_eq_true rfl, Nat.le_of_ble_eq_true rfl⟩ ⟨Nat.zero_le _, Nat.zero_le _⟩ (ci := 5) (q0 := 0) rfl rfl rfl rfl hl.1 rfl (Nat.le_of_ble_eq_true rfl) dX6_puff_47) rfl (g_had [o_t, (a_t 0), (a_t 1), (a_t 4)] rfl rfl) rfl (⟨⟨_, rfl, rfl⟩, trivial⟩) rfl rfl (by decide) (fun H locs hw => ?_)
    exact B50 r10_0 r10_1 (upd f_t_blown (Int32.toNatClampNeg x1) ((f_t_blown (Int32.toNatClampNeg x1)) + x2)) r10_2 _ _ _ hf hw (lv_sub hl [] rfl)
theorem hX0_carryOut : yX0_carryOut.cls ≠ "java/lang/invoke/MethodHandle" ∧ yX0_carryOut.cls ≠ "java/lang/invoke/VarHandle" ∧ (parseMethodDescriptor yX0_carryOut.desc).map (fun d => d.parameters.length) = some 4 := by decide +kernel
set_option maxHeartbeats 4000000 in
set_option maxRecDepth 100000 in
theorem mX0_carryOut (l : Launch) (E : gE) (o_p0 : Nat) (a_p0 : (Nat → Nat)) (v_p0_families : Int32) (v_p0_wind : Int32) (v_p0_force : Int32) (v_p0_rain : Int32) (v_p0_lost : Int32) (v_p0_hour : Int32) (f_p0_home : (Nat → Int32)) (f_p0_seeds : (Nat → Int32)) (f_p0_blown : (Nat → Int32)) (f_p0_ground : (Nat → Int32)) (x1 : Int32) (x2 : Int32) (x3 : Int32) (z_p0_wind : Int32) (z_p0_force : Int32) (z_p0_rain : Int32) (z_p0_lost : Int32) (z_p0_hour : Int32) (z_p0_seeds : (Nat → Int32)) (z_p0_blown : (Nat → Int32)) (z_p0_ground : (Nat → Int32)) (hf : fX0_carryOut v_p0_families v_p0_wind v_p0_force v_p0_rain v_p0_lost v_p0_hour f_p0_home f_p0_seeds f_p0_blown f_p0_ground x1 x2 x3 = some (z_p0_wind, z_p0_force, z_p0_rain, z_p0_lost, z_p0_hour, z_p0_seeds, z_p0_blown, z_p0_ground)) {sz : Nat} : gMv l yX0_carryOut (gW yX0_carryOut cX0_carryOut 4 none) ({ frames := 3, cells := 0, slots := 0, locals := 71 } : Room) E [.ref o_p0, .int x1, .int x2, .int x3] (wX0_carryOut E o_p0 a_p0 v_p0_families v_p0_wind v_p0_force v_p0_rain v_p0_lost v_p0_hour f_p0_home f_p0_seeds f_p0_blown f_p0_ground) sz (wX0_carryOut E o_p0 a_p0 v_p0_families z_p0_wind z_p0_force z_p0_rain z_p0_lost z_p0_hour f_p0_home z_p0_seeds z_p0_blown z_p0_ground) := by
  refine g_openV (own := RX0) (by decide) rfl (Nat.le_of_ble_eq_true rfl) (fun p e s m args below meth cd Q A hx hb hml hown hG hK hA hret hw ls hl => ?_)
  have hl : lv_has ls 4 [(0, .ref o_p0), (1, .int x1), (2, .int x2), (3, .int x3)] := hl
  have hret1 : ∀ (t : Int32 × Int32 × Int32 × Int32 × Int32 × (Nat → Int32) × (Nat → Int32) × (Nat → Int32)) (H : Heap) (locs : List Loc) (pc : Nat) (ls : Array Slot), some t = some (z_p0_wind, z_p0_force, z_p0_rain, z_p0_lost, z_p0_hour, z_p0_seeds, z_p0_blown, z_p0_ground) → gS E A s.heap (wX0_carryOut E o_p0 a_p0 v_p0_families t.1 t.2.1 t.2.2.1 t.2.2.2.1 t.2.2.2.2.1 f_p0_home t.2.2.2.2.2.1 t.2.2.2.2.2.2.1 t.2.2.2.2.2.2.2) H locs → decode cX0_carryOut pc = .ok (.return_, 1) → W p l e ({ frames := 3, cells := 0, slots := 0, locals := 71 } : Room) s m args below meth cd H locs 0 0 Q (F0 m pc ls []) := by
    intro t H locs pc ls h hw hd
    obtain rfl : t = (z_p0_wind, z_p0_force, z_p0_rain, z_p0_lost, z_p0_hour, z_p0_seeds, z_p0_blown, z_p0_ground) := Option.some.inj h
    exact hret H locs pc ls hw hd
  have B102 : ∀ (v_p0_wind : Int32) (v_p0_force : Int32) (v_p0_rain : Int32) (v_p0_lost : Int32) (v_p0_hour : Int32) (f_p0_seeds : (Nat → Int32)) (f_p0_blown : (Nat → Int32)) (f_p0_ground : (Nat → Int32)) (H : Heap) (locs : List Loc) (ls : Array Slot), fX0_carryOut_b102 v_p0_wind v_p0_force v_p0_rain v_p0_lost v_p0_hour f_p0_seeds f_p0_blown f_p0_ground = some (z_p0_wind, z_p0_force, z_p0_rain, z_p0_lost, z_p0_hour, z_p0_seeds, z_p0_blown, z_p0_ground) → gS E A s.heap (wX0_carryOut E o_p0 a_p0 v_p0_families v_p0_wind v_p0_force v_p0_rain v_p0_lost v_p0_hour f_p0_home f_p0_seeds f_p0_blown f_p0_ground) H locs → lv_has ls 4 [] → W p l e ({ frames := 3, cells := 0, slots := 0, locals := 71 } : Room) s m args below meth cd H locs 0 0 Q (F0 m 102 ls []) := by
    intro  v_p0_wind v_p0_force v_p0_rain v_p0_lost v_p0_hour f_p0_seeds f_p0_blown f_p0_ground H locs ls hf hw hl
    exact hret1 (v_p0_wind, v_p0_force, v_p0_rain, v_p0_lost, v_p0_hour, f_p0_seeds, f_p0_blown, f_p0_ground) _ _ _ _ hf hw dX0_carryOut_102
  refine lv_iload_n hx hb dX0_carryOut_0 rfl (lv_at hl 1 rfl) ?_
  by_cases hs1 : x1 = 0
  · have hf := g_t hs1 hf
    refine lv_tableIn (off := 39) (tgt := 40) hx hb dX0_carryOut_1 (by rw [hs1]; decide) (by rw [hs1]; decide) (by rw [hs1] <;> rfl) (by decide) ?_
    refine lv_aload_n hx hb dX0_carryOut_40 rfl (lv_at hl 0 rfl) ?_
    refine lv_iload_n hx hb dX0_carryOut_41 rfl (lv_at hl 2 rfl) ?_
    refine lv_iload_n hx hb dX0_carryOut_42 rfl (lv_at hl 3 rfl) ?_
    obtain ⟨⟨r2_0, r2_1, r2_2, r2_3⟩, hc3, hf⟩ := gB_s hf
    refine g_kv (is := [0, 1, 2, 3, 4]) (isR := []) (nW := 5) (w1 := (wX6_puff E o_p0 a_p0 v_p0_families v_p0_wind v_p0_force v_p0_rain r2_0 v_p0_hour f_p0_home r2_1 r2_2 r2_3)) (ws' := (wX0_carryOut E o_p0 a_p0 v_p0_families v_p0_wind v_p0_force v_p0_rain r2_0 v_p0_hour f_p0_home r2_1 r2_2 r2_3)) hw hA (g_rV hx hb hml hG hown hK hw (is := [0, 1, 2, 3, 4]) rfl (by decide) (mX6_puff l E o_p0 a_p0 v_p0_families v_p0_wind v_p0_force v_p0_rain v_p0_lost v_p0_hour f_p0_home f_p0_seeds f_p0_blown f_p0_ground x2 x3 r2_0 r2_1 r2_2 r2_3 hc3) wd_17_8 wd_17_9 wd_17_10 wd_2_20 wd_17_11 hX6_puff g_allgood ⟨rfl, rfl⟩ ⟨Nat.le_of_ble_eq_true rfl, Nat.le_of_ble_eq_true rfl⟩ ⟨Nat.zero_le _, Nat.zero_le _⟩ (ci := 5) (q0 := 0) rfl rfl rfl rfl hl.1 rfl (Nat.le_of_ble_eq_true rfl) dX0_carryOut_43) rfl (g_had [o_p0, (a_p0 0), (a_p0 1), (a_p0 3), (a_p0 4)] rfl rfl) rfl (trivial) rfl rfl (by decide) (fun H locs hw => ?_)
    refine lv_goto (tgt := 102) hx hb dX0_carryOut_46 (by decide) ?_
    exact B102 v_p0_wind v_p0_force v_p0_rain r2_0 v_p0_hour r2_1 r2_2 r2_3 _ _ _ hf hw (lv_sub hl [] rfl)
  have hf := g_f hs1 hf
  by_cases hs4 : x1 = 1
  · have hf := g_t hs4 hf
    refine lv_tableIn (off := 48) (tgt := 49) hx hb dX0_carryOut_1 (by rw [hs4]; decide) (by rw [hs4]; decide) (by rw [hs4] <;> rfl) (by decide) ?_
    refine lv_aload_n hx hb dX0_carryOut_49 rfl (lv_at hl 0 rfl) ?_
    refine lv_iload_n hx hb dX0_carryOut_50 rfl (lv_at hl 2 rfl) ?_
    obtain ⟨⟨r5_0, r5_1, r5_2⟩, hc6, hf⟩ := gB_s hf
    refine g_kv (is := [0, 1, 2, 4]) (isR := [3]) (nW := 5) (w1 := (wX6_cough E o_p0 a_p0 v_p0_families v_p0_wind v_p0_force v_p0_rain r5_0 v_p0_hour f_p0_home r5_1 r5_2)) (ws' := (wX0_carryOut E o_p0 a_p0 v_p0_families v_p0_wind v_p0_force v_p0_rain r5_0 v_p0_hour f_p0_home r5_1 f_p0_blown r5_2)) hw hA (g_rV hx hb hml hG hown hK hw (is := [0, 1, 2, 4]) rfl (by decide) (mX6_cough l E o_p0 a_p0 v_p0_families v_p0_wind v_p0_force v_p0_rain v_p0_lost v_p0_hour f_p0_home f_p0_seeds f_p0_ground x2 r5_0 r5_1 r5_2 hc6) wd_17_19 wd_17_20 wd_17_21 wd_2_20 wd_17_22 hX6_cough g_allgood ⟨rfl, rfl⟩ ⟨Nat.le_of_ble_eq_true rfl, Nat.le_of_ble_eq_true rfl⟩ ⟨Nat.zero_le _, Nat.zero_le _⟩ (ci := 5) (q0 := 0) rfl rfl rfl rfl hl.1 rfl (Nat.le_of_ble_eq_true rfl) dX0_carryOut_51) rfl (g_had [o_p0, (a_p0 0), (a_p0 1), (a_p0 4)] rfl rfl) rfl (⟨⟨_, rfl, rfl⟩, trivial⟩) rfl rfl (by decide) (fun H locs hw => ?_)
    refine lv_goto (tgt := 102) hx hb dX0_carryOut_54 (by decide) ?_
    exact B102 v_p0_wind v_p0_force v_p0_rain r5_0 v_p0_hour r5_1 f_p0_blown r5_2 _ _ _ hf hw (lv_sub hl [] rfl)
  have hf := g_f hs4 hf
  by_cases hs7 : x1 = 2
  · have hf := g_t hs7 hf
    refine lv_tableIn (off := 56) (tgt := 57) hx hb dX0_carryOut_1 (by rw [hs7]; decide) (by rw [hs7]; decide) (by rw [hs7] <;> rfl) (by decide) ?_
    refine lv_aload_n hx hb dX0_carryOut_57 rfl (lv_at hl 0 rfl) ?_
    refine lv_iload_n hx hb dX0_carryOut_58 rfl (lv_at hl 2 rfl) ?_
    obtain ⟨⟨r8_0, r8_1⟩, hc9, hf⟩ := gB_s hf
    refine g_kv (is := [0, 1, 2, 4]) (isR := [3]) (nW := 5) (w1 := (wX6_mow E o_p0 a_p0 v_p0_families v_p0_wind v_p0_force v_p0_rain v_p0_lost v_p0_hour f_p0_home r8_0 r8_1)) (ws' := (wX0_carryOut E o_p0 a_p0 v_p0_families v_p0_wind v_p0_force v_p0_rain v_p0_lost v_p0_hour f_p0_home r8_0 f_p0_blown r8_1)) hw hA (g_rV hx hb hml hG hown hK hw (is := [0, 1, 2, 4]) rfl (by decide) (mX6_mow l E o_p0 a_p0 v_p0_families v_p0_wind v_p0_force v_p0_rain v_p0_lost v_p0_hour f_p0_home f_p0_seeds f_p0_ground x2 r8_0 r8_1 hc9) wd_17_23 wd_18_0 wd_18_1 wd_2_20 wd_18_2 hX6_mow g_allgood ⟨rfl, rfl⟩ ⟨Nat.le_of_ble_eq_true rfl, Nat.le_of_ble_eq_true rfl⟩ ⟨Nat.zero_le _, Nat.zero_le _⟩ (ci := 5) (q0 := 0) rfl rfl rfl rfl hl.1 rfl (Nat.le_of_ble_eq_true rfl) dX0_carryOut_59) rfl (g_had [o_p0, (a_p0 0), (a_p0 1), (a_p0 4)] rfl rfl) rfl (⟨⟨_, rfl, rfl⟩, trivial⟩) rfl rfl (by decide) (fun H locs hw => ?_)
    refine lv_goto (tgt := 102) hx hb dX0_carryOut_62 (by decide) ?_
    exact B102 v_p0_wind v_p0_force v_p0_rain v_p0_lost v_p0_hour r8_0 f_p0_blown r8_1 _ _ _ hf hw (lv_sub hl [] rfl)
  have hf := g_f hs7 hf
  by_cases hs10 : x1 = 3
  · have hf := g_t hs10 hf
    refine lv_tableIn (off := 64) (tgt := 65) hx hb dX0_carryOut_1 (by rw [hs10]; decide) (by rw [hs10]; decide) (by rw [hs10] <;> rfl) (by decide) ?_
    refine lv_aload_n hx hb dX0_carryOut_65 rfl (lv_at hl 0 rfl) ?_
    refine lv_iload_n hx hb dX0_carryOut_66 rfl (lv_at hl 2 rfl) ?_
    refine g_put (ws' := (wX0_carryOut E o_p0 a_p0 v_p0_families x2 v_p0_force v_p0_rain v_p0_lost v_p0_hour f_p0_home f_p0_seeds f_p0_blown f_p0_ground)) hx hb hG hown hK hw inlX6 tyX6_ok nmX6 (ci := 5) rfl 0 6 (Nat.le_of_ble_eq_true rfl) rfl wd_17_6 rfl rfl rfl (Nat.le_of_ble_eq_true rfl) rfl dX0_carryOut_67 (fun H locs hw => ?_)
    refine lv_aload_n hx hb dX0_carryOut_70 rfl (lv_at hl 0 rfl) ?_
    refine lv_iload_n hx hb dX0_carryOut_71 rfl (lv_at hl 3 rfl) ?_
    refine g_put (ws' := (wX0_carryOut E o_p0 a_p0 v_p0_families x2 x3 v_p0_rain v_p0_lost v_p0_hour f_p0_home f_p0_seeds f_p0_blown f_p0_ground)) hx hb hG hown hK hw inlX6 tyX6_ok nmX6 (ci := 5) rfl 0 7 (Nat.le_of_ble_eq_true rfl) rfl wd_17_7 rfl rfl rfl (Nat.le_of_ble_eq_true rfl) rfl dX0_carryOut_72 (fun H locs hw => ?_)
    refine lv_goto (tgt := 102) hx hb dX0_carryOut_75 (by decide) ?_
    exact B102 x2 x3 v_p0_rain v_p0_lost v_p0_hour f_p0_seeds f_p0_blown f_p0_ground _ _ _ hf hw (lv_sub hl [] rfl)
  have hf := g_f hs10 hf
  by_cases hs11 : x1 = 4
  · have hf := g_t hs11 hf
    refine lv_tableIn (off := 77) (tgt := 78) hx hb dX0_carryOut_1 (by rw [hs11]; decide) (by rw [hs11]; decide) (by rw [hs11] <;> rfl) (by decide) ?_
    refine lv_aload_n hx hb dX0_carryOut_78 rfl (lv_at hl 0 rfl) ?_
    refine lv_iconst (v := 1) hx hb dX0_carryOut_79 k_i1 ?_
    refine lv_aload_n hx hb dX0_carryOut_80 rfl (lv_at hl 0 rfl) ?_
    refine g_get hx hb hG hown hK hw inlX6 (ci := 5) rfl 0 8 (Nat.le_of_ble_eq_true rfl) rfl rfl wd_16_15 dX0_carryOut_81 ?_
    refine lv_isub hx hb dX0_carryOut_84 ?_
    refine g_put (ws' := (wX0_carryOut E o_p0 a_p0 v_p0_families v_p0_wind v_p0_force (1 - v_p0_rain) v_p0_lost v_p0_hour f_p0_home f_p0_seeds f_p0_blown f_p0_ground)) hx hb hG hown hK hw inlX6 tyX6_ok nmX6 (ci := 5) rfl 0 8 (Nat.le_of_ble_eq_true rfl) rfl wd_16_15 rfl rfl rfl (Nat.le_of_ble_eq_true rfl) rfl dX0_carryOut_85 (fun H locs hw => ?_)
    refine lv_goto (tgt := 102) hx hb dX0_carryOut_88 (by decide) ?_
    exact B102 v_p0_wind v_p0_force (1 - v_p0_rain) v_p0_lost v_p0_hour f_p0_seeds f_p0_blown f_p0_ground _ _ _ hf hw (lv_sub hl [] rfl)
  have hf := g_f hs11 hf
  by_cases hs12 : x1 = 5
  · have hf := g_t hs12 hf
    refine lv_tableIn (off := 90) (tgt := 91) hx hb dX0_carryOut_1 (by rw [hs12]; decide) (by rw [hs12]; decide) (by rw [hs12] <;> rfl) (by decide) ?_
    refine lv_aload_n hx hb dX0_carryOut_91 rfl (lv_at hl 0 rfl) ?_
    obtain ⟨⟨r13_0, r13_1⟩, hc14, hf⟩ := gB_s hf
    refine g_kv (is := [0, 4]) (isR := [1, 2, 3]) (nW := 5) (w1 := (wX6_graze E o_p0 a_p0 v_p0_families v_p0_wind v_p0_force v_p0_rain r13_0 v_p0_hour r13_1)) (ws' := (wX0_carryOut E o_p0 a_p0 v_p0_families v_p0_wind v_p0_force v_p0_rain r13_0 v_p0_hour f_p0_home f_p0_seeds f_p0_blown r13_1)) hw hA (g_rV hx hb hml hG hown hK hw (is := [0, 4]) rfl (by decide) (mX6_graze l E o_p0 a_p0 v_p0_families v_p0_wind v_p0_force v_p0_rain v_p0_lost v_p0_hour f_p0_ground r13_0 r13_1 hc14) wd_18_7 wd_18_8 wd_18_9 wd_2_20 wd_18_10 hX6_graze g_allgood ⟨rfl, rfl⟩ ⟨Nat.le_of_ble_eq_true rfl, Nat.le_of_ble_eq_true rfl⟩ ⟨Nat.zero_le _, Nat.zero_le _⟩ (ci := 5) (q0 := 0) rfl rfl rfl rfl hl.1 rfl (Nat.le_of_ble_eq_true rfl) dX0_carryOut_92) rfl (g_had [o_p0, (a_p0 4)] rfl rfl) rfl (⟨⟨_, rfl, rfl⟩, ⟨⟨_, rfl, rfl⟩, ⟨⟨_, rfl, rfl⟩, trivial⟩⟩⟩) rfl rfl (by decide) (fun H locs hw => ?_)
    refine lv_goto (tgt := 102) hx hb dX0_carryOut_95 (by decide) ?_
    exact B102 v_p0_wind v_p0_force v_p0_rain r13_0 v_p0_hour f_p0_seeds f_p0_blown r13_1 _ _ _ hf hw (lv_sub hl [] rfl)
  have hf := g_f hs12 hf
  have nhs1 := lv_neT hs1 (show (0 : Int32).toInt = 0 from by decide)
  have nhs4 := lv_neT hs4 (show (1 : Int32).toInt = 1 from by decide)
  have nhs7 := lv_neT hs7 (show (2 : Int32).toInt = 2 from by decide)
  have nhs10 := lv_neT hs10 (show (3 : Int32).toInt = 3 from by decide)
  have nhs11 := lv_neT hs11 (show (4 : Int32).toInt = 4 from by decide)
  have nhs12 := lv_neT hs12 (show (5 : Int32).toInt = 5 from by decide)
  refine lv_tableOut (tgt := 98) hx hb dX0_carryOut_1 (by omega) (by decide) ?_
  refine lv_aload_n hx hb dX0_carryOut_98 rfl (lv_at hl 0 rfl) ?_
  obtain ⟨⟨r15_0, r15_1⟩, hc16, hf⟩ := gB_s hf
  refine g_kv (is := [0, 3]) (isR := [1, 2, 4]) (nW := 5) (w1 := (wX6_strikeHour E o_p0 a_p0 v_p0_families v_p0_wind v_p0_force v_p0_rain v_p0_lost r15_0 r15_1)) (ws' := (wX0_carryOut E o_p0 a_p0 v_p0_families v_p0_wind v_p0_force v_p0_rain v_p0_lost r15_0 f_p0_home f_p0_seeds r15_1 f_p0_ground)) hw hA (g_rV hx hb hml hG hown hK hw (is := [0, 3]) rfl (by decide) (mX6_strikeHour l E o_p0 a_p0 v_p0_families v_p0_wind v_p0_force v_p0_rain v_p0_lost v_p0_hour f_p0_blown r15_0 r15_1 hc16) wd_18_11 wd_18_12 wd_18_13 wd_2_20 wd_18_14 hX6_strikeHour g_allgood ⟨rfl, rfl⟩ ⟨Nat.le_of_ble_eq_true rfl, Nat.le_of_ble_eq_true rfl⟩ ⟨Nat.zero_le _, Nat.zero_le _⟩ (ci := 5) (q0 := 0) rfl rfl rfl rfl hl.1 rfl (Nat.le_of_ble_eq_true rfl) dX0_carryOut_99) rfl (g_had [o_p0, (a_p0 3)] rfl rfl) rfl (⟨⟨_, rfl, rfl⟩, ⟨⟨_, rfl, rfl⟩, ⟨⟨_, rfl, rfl⟩, trivial⟩⟩⟩) rfl rfl (by decide) (fun H locs hw => ?_)
  exact B102 v_p0_wind v_p0_force v_p0_rain v_p0_lost r15_0 f_p0_seeds r15_1 f_p0_ground _ _ _ hf hw (lv_sub hl [] rfl)
theorem hX6_copyFrom : yX6_copyFrom.cls = RX6 ∧ yX6_copyFrom.cls ≠ "java/lang/invoke/MethodHandle" ∧ yX6_copyFrom.cls ≠ "java/lang/invoke/VarHandle" ∧ (parseMethodDescriptor yX6_copyFrom.desc).map (fun d => d.parameters.length) = some 1 := by decide +kernel
set_option maxHeartbeats 4000000 in
set_option maxRecDepth 100000 in
theorem mX6_copyFrom (l : Launch) (E : gE) (o_p0 : Nat) (a_p0 : (Nat → Nat)) (o_t : Nat) (a_t : (Nat → Nat)) (v_p0_families : Int32) (v_p0_wind : Int32) (v_p0_force : Int32) (v_p0_rain : Int32) (v_p0_lost : Int32) (v_p0_hour : Int32) (v_t_families : Int32) (v_t_wind : Int32) (v_t_force : Int32) (v_t_rain : Int32) (v_t_lost : Int32) (v_t_hour : Int32) (f_p0_home : (Nat → Int32)) (f_p0_seeds : (Nat → Int32)) (f_p0_lungs : (Nat → Int32)) (f_p0_blown : (Nat → Int32)) (f_p0_ground : (Nat → Int32)) (f_t_home : (Nat → Int32)) (f_t_seeds : (Nat → Int32)) (f_t_lungs : (Nat → Int32)) (f_t_blown : (Nat → Int32)) (f_t_ground : (Nat → Int32)) (z_t_families : Int32) (z_t_wind : Int32) (z_t_force : Int32) (z_t_rain : Int32) (z_t_lost : Int32) (z_t_hour : Int32) (z_t_home : (Nat → Int32)) (z_t_seeds : (Nat → Int32)) (z_t_lungs : (Nat → Int32)) (z_t_blown : (Nat → Int32)) (z_t_ground : (Nat → Int32)) (hf : fX6_copyFrom v_p0_families v_p0_wind v_p0_force v_p0_rain v_p0_lost v_p0_hour v_t_families v_t_wind v_t_force v_t_rain v_t_lost v_t_hour f_p0_home f_p0_seeds f_p0_lungs f_p0_blown f_p0_ground f_t_home f_t_seeds f_t_lungs f_t_blown f_t_ground = some (z_t_families, z_t_wind, z_t_force, z_t_rain, z_t_lost, z_t_hour, z_t_home, z_t_seeds, z_t_lungs, z_t_blown, z_t_ground)) {sz : Nat} : gMv l yX6_copyFrom (gW yX6_copyFrom cX6_copyFrom 2 none) ({ frames := 1, cells := 0, slots := 0, locals := 18 } : Room) E [.ref o_t, .ref o_p0] (wX6_copyFrom E o_p0 a_p0 o_t a_t v_p0_families v_p0_wind v_p0_force v_p0_rain v_p0_lost v_p0_hour v_t_families v_t_wind v_t_force v_t_rain v_t_lost v_t_hour f_p0_home f_p0_seeds f_p0_lungs f_p0_blown f_p0_ground f_t_home f_t_seeds f_t_lungs f_t_blown f_t_ground) sz (wX6_copyFrom E o_p0 a_p0 o_t a_t v_p0_families v_p0_wind v_p0_force v_p0_rain v_p0_lost v_p0_hour z_t_families z_t_wind z_t_force z_t_rain z_t_lost z_t_hour f_p0_home f_p0_seeds f_p0_lungs f_p0_blown f_p0_ground z_t_home z_t_seeds z_t_lungs z_t_blown z_t_ground) := by
  refine g_openV (own := RX6) (by decide) rfl (Nat.le_of_ble_eq_true rfl) (fun p e s m args below meth cd Q A hx hb hml hown hG hK hA hret hw ls hl => ?_)
  have hl : lv_has ls 2 [(0, .ref o_t), (1, .ref o_p0)] := hl
  have hret1 : ∀ (t : Int32 × Int32 × Int32 × Int32 × Int32 × Int32 × (Nat → Int32) × (Nat → Int32) × (Nat → Int32) × (Nat → Int32) × (Nat → Int32)) (H : Heap) (locs : List Loc) (pc : Nat) (ls : Array Slot), some t = some (z_t_families, z_t_wind, z_t_force, z_t_rain, z_t_lost, z_t_hour, z_t_home, z_t_seeds, z_t_lungs, z_t_blown, z_t_ground) → gS E A s.heap (wX6_copyFrom E o_p0 a_p0 o_t a_t v_p0_families v_p0_wind v_p0_force v_p0_rain v_p0_lost v_p0_hour t.1 t.2.1 t.2.2.1 t.2.2.2.1 t.2.2.2.2.1 t.2.2.2.2.2.1 f_p0_home f_p0_seeds f_p0_lungs f_p0_blown f_p0_ground t.2.2.2.2.2.2.1 t.2.2.2.2.2.2.2.1 t.2.2.2.2.2.2.2.2.1 t.2.2.2.2.2.2.2.2.2.1 t.2.2.2.2.2.2.2.2.2.2) H locs → decode cX6_copyFrom pc = .ok (.return_, 1) → W p l e ({ frames := 1, cells := 0, slots := 0, locals := 18 } : Room) s m args below meth cd H locs 0 0 Q (F0 m pc ls []) := by
    intro t H locs pc ls h hw hd
    obtain rfl : t = (z_t_families, z_t_wind, z_t_force, z_t_rain, z_t_lost, z_t_hour, z_t_home, z_t_seeds, z_t_lungs, z_t_blown, z_t_ground) := Option.some.inj h
    exact hret H locs pc ls hw hd
  refine lv_aload_n hx hb dX6_copyFrom_0 rfl (lv_at hl 1 rfl) ?_
  refine g_get hx hb hG hown hK hw inlX6 (ci := 5) rfl 0 0 (Nat.le_of_ble_eq_true rfl) rfl rfl wd_3_6 dX6_copyFrom_1 ?_
  refine lv_iconst (v := 0) hx hb dX6_copyFrom_4 k_i0 ?_
  refine lv_aload_n hx hb dX6_copyFrom_5 rfl (lv_at hl 0 rfl) ?_
  refine g_get hx hb hG hown hK hw inlX6 (ci := 5) rfl 6 0 (Nat.le_of_ble_eq_true rfl) rfl rfl wd_3_6 dX6_copyFrom_6 ?_
  refine lv_iconst (v := 0) hx hb dX6_copyFrom_9 k_i0 ?_
  refine lv_bipush (v := 6) hx hb dX6_copyFrom_10 k_b6 ?_
  refine g_acpy (N := 6) (ws' := (wX6_copyFrom E o_p0 a_p0 o_t a_t v_p0_families v_p0_wind v_p0_force v_p0_rain v_p0_lost v_p0_hour v_t_families v_t_wind v_t_force v_t_rain v_t_lost v_t_hour f_p0_home f_p0_seeds f_p0_lungs f_p0_blown f_p0_ground f_p0_home f_t_seeds f_t_lungs f_t_blown f_t_ground)) hx hb (hml.trans hl.1.symm) hG hown wd_15_19 wd_15_20 wd_15_21 wd_15_22 hK hw 1 7 rfl rfl (by decide) (by decide) rfl ⟨Nat.le_of_ble_eq_true rfl, Nat.le_of_ble_eq_true rfl⟩ rfl dX6_copyFrom_12 (fun H locs hw => ?_)
  refine lv_aload_n hx hb dX6_copyFrom_15 rfl (lv_at hl 1 rfl) ?_
  refine g_get hx hb hG hown hK hw inlX6 (ci := 5) rfl 0 1 (Nat.le_of_ble_eq_true rfl) rfl rfl wd_3_7 dX6_copyFrom_16 ?_
  refine lv_iconst (v := 0) hx hb dX6_copyFrom_19 k_i0 ?_
  refine lv_aload_n hx hb dX6_copyFrom_20 rfl (lv_at hl 0 rfl) ?_
  refine g_get hx hb hG hown hK hw inlX6 (ci := 5) rfl 6 1 (Nat.le_of_ble_eq_true rfl) rfl rfl wd_3_7 dX6_copyFrom_21 ?_
  refine lv_iconst (v := 0) hx hb dX6_copyFrom_24 k_i0 ?_
  refine lv_bipush (v := 6) hx hb dX6_copyFrom_25 k_b6 ?_
  refine g_acpy (N := 6) (ws' := (wX6_copyFrom E o_p0 a_p0 o_t a_t v_p0_families v_p0_wind v_p0_force v_p0_rain v_p0_lost v_p0_hour v_t_families v_t_wind v_t_force v_t_rain v_t_lost v_t_hour f_p0_home f_p0_seeds f_p0_lungs f_p0_blown f_p0_ground f_p0_home f_p0_seeds f_t_lungs f_t_blown f_t_ground)) hx hb (hml.trans hl.1.symm) hG hown wd_15_19 wd_15_20 wd_15_21 wd_15_22 hK hw 2 8 rfl rfl (by decide) (by decide) rfl ⟨Nat.le_of_ble_eq_true rfl, Nat.le_of_ble_eq_true rfl⟩ rfl dX6_copyFrom_27 (fun H locs hw => ?_)
  refine lv_aload_n hx hb dX6_copyFrom_30 rfl (lv_at hl 1 rfl) ?_
  refine g_get hx hb hG hown hK hw inlX6 (ci := 5) rfl 0 2 (Nat.le_of_ble_eq_true rfl) rfl rfl wd_3_8 dX6_copyFrom_31 ?_
  refine lv_iconst (v := 0) hx hb dX6_copyFrom_34 k_i0 ?_
  refine lv_aload_n hx hb dX6_copyFrom_35 rfl (lv_at hl 0 rfl) ?_
  refine g_get hx hb hG hown hK hw inlX6 (ci := 5) rfl 6 2 (Nat.le_of_ble_eq_true rfl) rfl rfl wd_3_8 dX6_copyFrom_36 ?_
  refine lv_iconst (v := 0) hx hb dX6_copyFrom_39 k_i0 ?_
  refine lv_bipush (v := 6) hx hb dX6_copyFrom_40 k_b6 ?_
  refine g_acpy (N := 6) (ws' := (wX6_copyFrom E o_p0 a_p0 o_t a_t v_p0_families v_p0_wind v_p0_force v_p0_rain v_p0_lost v_p0_hour v_t_families v_t_wind v_t_force v_t_rain v_t_lost v_t_hour f_p0_home f_p0_seeds f_p0_lungs f_p0_blown f_p0_ground f_p0_home f_p0_seeds f_p0_lungs f_t_blown f_t_ground)) hx hb (hml.trans hl.1.symm) hG hown wd_15_19 wd_15_20 wd_15_21 wd_15_22 hK hw 3 9 rfl rfl (by decide) (by decide) rfl ⟨Nat.le_of_ble_eq_true rfl, Nat.le_of_ble_eq_true rfl⟩ rfl dX6_copyFrom_42 (fun H locs hw => ?_)
  refine lv_aload_n hx hb dX6_copyFrom_45 rfl (lv_at hl 1 rfl) ?_
  refine g_get hx hb hG hown hK hw inlX6 (ci := 5) rfl 0 3 (Nat.le_of_ble_eq_true rfl) rfl rfl wd_3_9 dX6_copyFrom_46 ?_
  refine lv_iconst (v := 0) hx hb dX6_copyFrom_49 k_i0 ?_
  refine lv_aload_n hx hb dX6_copyFrom_50 rfl (lv_at hl 0 rfl) ?_
  refine g_get hx hb hG hown hK hw inlX6 (ci := 5) rfl 6 3 (Nat.le_of_ble_eq_true rfl) rfl rfl wd_3_9 dX6_copyFrom_51 ?_
  refine lv_iconst (v := 0) hx hb dX6_copyFrom_54 k_i0 ?_
  refine lv_bipush (v := 6) hx hb dX6_copyFrom_55 k_b6 ?_
  refine g_acpy (N := 6) (ws' := (wX6_copyFrom E o_p0 a_p0 o_t a_t v_p0_families v_p0_wind v_p0_force v_p0_rain v_p0_lost v_p0_hour v_t_families v_t_wind v_t_force v_t_rain v_t_lost v_t_hour f_p0_home f_p0_seeds f_p0_lungs f_p0_blown f_p0_ground f_p0_home f_p0_seeds f_p0_lungs f_p0_blown f_t_ground)) hx hb (hml.trans hl.1.symm) hG hown wd_15_19 wd_15_20 wd_15_21 wd_15_22 hK hw 4 10 rfl rfl (by decide) (by decide) rfl ⟨Nat.le_of_ble_eq_true rfl, Nat.le_of_ble_eq_true rfl⟩ rfl dX6_copyFrom_57 (fun H locs hw => ?_)
  refine lv_aload_n hx hb dX6_copyFrom_60 rfl (lv_at hl 1 rfl) ?_
  refine g_get hx hb hG hown hK hw inlX6 (ci := 5) rfl 0 4 (Nat.le_of_ble_eq_true rfl) rfl rfl wd_3_10 dX6_copyFrom_61 ?_
  refine lv_iconst (v := 0) hx hb dX6_copyFrom_64 k_i0 ?_
  refine lv_aload_n hx hb dX6_copyFrom_65 rfl (lv_at hl 0 rfl) ?_
  refine g_get hx hb hG hown hK hw inlX6 (ci := 5) rfl 6 4 (Nat.le_of_ble_eq_true rfl) rfl rfl wd_3_10 dX6_copyFrom_66 ?_
  refine lv_iconst (v := 0) hx hb dX6_copyFrom_69 k_i0 ?_
  refine lv_bipush (v := 36) hx hb dX6_copyFrom_70 k_b36 ?_
  refine g_acpy (N := 36) (ws' := (wX6_copyFrom E o_p0 a_p0 o_t a_t v_p0_families v_p0_wind v_p0_force v_p0_rain v_p0_lost v_p0_hour v_t_families v_t_wind v_t_force v_t_rain v_t_lost v_t_hour f_p0_home f_p0_seeds f_p0_lungs f_p0_blown f_p0_ground f_p0_home f_p0_seeds f_p0_lungs f_p0_blown f_p0_ground)) hx hb (hml.trans hl.1.symm) hG hown wd_15_19 wd_15_20 wd_15_21 wd_15_22 hK hw 5 11 rfl rfl (by decide) (by decide) rfl ⟨Nat.le_of_ble_eq_true rfl, Nat.le_of_ble_eq_true rfl⟩ rfl dX6_copyFrom_72 (fun H locs hw => ?_)
  refine lv_aload_n hx hb dX6_copyFrom_75 rfl (lv_at hl 0 rfl) ?_
  refine lv_aload_n hx hb dX6_copyFrom_76 rfl (lv_at hl 1 rfl) ?_
  refine g_get hx hb hG hown hK hw inlX6 (ci := 5) rfl 0 5 (Nat.le_of_ble_eq_true rfl) rfl rfl wd_3_11 dX6_copyFrom_77 ?_
  refine g_put (ws' := (wX6_copyFrom E o_p0 a_p0 o_t a_t v_p0_families v_p0_wind v_p0_force v_p0_rain v_p0_lost v_p0_hour v_p0_families v_t_wind v_t_force v_t_rain v_t_lost v_t_hour f_p0_home f_p0_seeds f_p0_lungs f_p0_blown f_p0_ground f_p0_home f_p0_seeds f_p0_lungs f_p0_blown f_p0_ground)) hx hb hG hown hK hw inlX6 tyX6_ok nmX6 (ci := 5) rfl 6 5 (Nat.le_of_ble_eq_true rfl) rfl wd_3_11 rfl rfl rfl (Nat.le_of_ble_eq_true rfl) rfl dX6_copyFrom_80 (fun H locs hw => ?_)
  refine lv_aload_n hx hb dX6_copyFrom_83 rfl (lv_at hl 0 rfl) ?_
  refine lv_aload_n hx hb dX6_copyFrom_84 rfl (lv_at hl 1 rfl) ?_
  refine g_get hx hb hG hown hK hw inlX6 (ci := 5) rfl 0 6 (Nat.le_of_ble_eq_true rfl) rfl rfl wd_3_12 dX6_copyFrom_85 ?_
  refine g_put (ws' := (wX6_copyFrom E o_p0 a_p0 o_t a_t v_p0_families v_p0_wind v_p0_force v_p0_rain v_p0_lost v_p0_hour v_p0_families v_p0_wind v_t_force v_t_rain v_t_lost v_t_hour f_p0_home f_p0_seeds f_p0_lungs f_p0_blown f_p0_ground f_p0_home f_p0_seeds f_p0_lungs f_p0_blown f_p0_ground)) hx hb hG hown hK hw inlX6 tyX6_ok nmX6 (ci := 5) rfl 6 6 (Nat.le_of_ble_eq_true rfl) rfl wd_3_12 rfl rfl rfl (Nat.le_of_ble_eq_true rfl) rfl dX6_copyFrom_88 (fun H locs hw => ?_)
  refine lv_aload_n hx hb dX6_copyFrom_91 rfl (lv_at hl 0 rfl) ?_
  refine lv_aload_n hx hb dX6_copyFrom_92 rfl (lv_at hl 1 rfl) ?_
  refine g_get hx hb hG hown hK hw inlX6 (ci := 5) rfl 0 7 (Nat.le_of_ble_eq_true rfl) rfl rfl wd_3_13 dX6_copyFrom_93 ?_
  refine g_put (ws' := (wX6_copyFrom E o_p0 a_p0 o_t a_t v_p0_families v_p0_wind v_p0_force v_p0_rain v_p0_lost v_p0_hour v_p0_families v_p0_wind v_p0_force v_t_rain v_t_lost v_t_hour f_p0_home f_p0_seeds f_p0_lungs f_p0_blown f_p0_ground f_p0_home f_p0_seeds f_p0_lungs f_p0_blown f_p0_ground)) hx hb hG hown hK hw inlX6 tyX6_ok nmX6 (ci := 5) rfl 6 7 (Nat.le_of_ble_eq_true rfl) rfl wd_3_13 rfl rfl rfl (Nat.le_of_ble_eq_true rfl) rfl dX6_copyFrom_96 (fun H locs hw => ?_)
  refine lv_aload_n hx hb dX6_copyFrom_99 rfl (lv_at hl 0 rfl) ?_
  refine lv_aload_n hx hb dX6_copyFrom_100 rfl (lv_at hl 1 rfl) ?_
  refine g_get hx hb hG hown hK hw inlX6 (ci := 5) rfl 0 8 (Nat.le_of_ble_eq_true rfl) rfl rfl wd_3_14 dX6_copyFrom_101 ?_
  refine g_put (ws' := (wX6_copyFrom E o_p0 a_p0 o_t a_t v_p0_families v_p0_wind v_p0_force v_p0_rain v_p0_lost v_p0_hour v_p0_families v_p0_wind v_p0_force v_p0_rain v_t_lost v_t_hour f_p0_home f_p0_seeds f_p0_lungs f_p0_blown f_p0_ground f_p0_home f_p0_seeds f_p0_lungs f_p0_blown f_p0_ground)) hx hb hG hown hK hw inlX6 tyX6_ok nmX6 (ci := 5) rfl 6 8 (Nat.le_of_ble_eq_true rfl) rfl wd_3_14 rfl rfl rfl (Nat.le_of_ble_eq_true rfl) rfl dX6_copyFrom_104 (fun H locs hw => ?_)
  refine lv_aload_n hx hb dX6_copyFrom_107 rfl (lv_at hl 0 rfl) ?_
  refine lv_aload_n hx hb dX6_copyFrom_108 rfl (lv_at hl 1 rfl) ?_
  refine g_get hx hb hG hown hK hw inlX6 (ci := 5) rfl 0 9 (Nat.le_of_ble_eq_true rfl) rfl rfl wd_3_15 dX6_copyFrom_109 ?_
  refine g_put (ws' := (wX6_copyFrom E o_p0 a_p0 o_t a_t v_p0_families v_p0_wind v_p0_force v_p0_rain v_p0_lost v_p0_hour v_p0_families v_p0_wind v_p0_force v_p0_rain v_p0_lost v_t_hour f_p0_home f_p0_seeds f_p0_lungs f_p0_blown f_p0_ground f_p0_home f_p0_seeds f_p0_lungs f_p0_blown f_p0_ground)) hx hb hG hown hK hw inlX6 tyX6_ok nmX6 (ci := 5) rfl 6 9 (Nat.le_of_ble_eq_true rfl) rfl wd_3_15 rfl rfl rfl (Nat.le_of_ble_eq_true rfl) rfl dX6_copyFrom_112 (fun H locs hw => ?_)
  refine lv_aload_n hx hb dX6_copyFrom_115 rfl (lv_at hl 0 rfl) ?_
  refine lv_aload_n hx hb dX6_copyFrom_116 rfl (lv_at hl 1 rfl) ?_
  refine g_get hx hb hG hown hK hw inlX6 (ci := 5) rfl 0 10 (Nat.le_of_ble_eq_true rfl) rfl rfl wd_3_16 dX6_copyFrom_117 ?_
  refine g_put (ws' := (wX6_copyFrom E o_p0 a_p0 o_t a_t v_p0_families v_p0_wind v_p0_force v_p0_rain v_p0_lost v_p0_hour v_p0_families v_p0_wind v_p0_force v_p0_rain v_p0_lost v_p0_hour f_p0_home f_p0_seeds f_p0_lungs f_p0_blown f_p0_ground f_p0_home f_p0_seeds f_p0_lungs f_p0_blown f_p0_ground)) hx hb hG hown hK hw inlX6 tyX6_ok nmX6 (ci := 5) rfl 6 10 (Nat.le_of_ble_eq_true rfl) rfl wd_3_16 rfl rfl rfl (Nat.le_of_ble_eq_true rfl) rfl dX6_copyFrom_120 (fun H locs hw => ?_)
  exact hret1 (v_p0_families, v_p0_wind, v_p0_force, v_p0_rain, v_p0_lost, v_p0_hour, f_p0_home, f_p0_seeds, f_p0_lungs, f_p0_blown, f_p0_ground) _ _ _ _ hf hw dX6_copyFrom_123
theorem hX1_drawAct : yX1_drawAct.cls = RX1 ∧ yX1_drawAct.cls ≠ "java/lang/invoke/MethodHandle" ∧ yX1_drawAct.cls ≠ "java/lang/invoke/VarHandle" ∧ (parseMethodDescriptor yX1_drawAct.desc).map (fun d => d.parameters.length) = some 1 := by decide +kernel
set_option maxHeartbeats 4000000 in
set_option maxRecDepth 100000 in
theorem mX1_drawAct (l : Launch) (E : gE) (o_t : Nat) (o_t_meadow : Nat) (v_t_kind : Int32) (v_t_first : Int32) (v_t_second : Int32) (x1 : Int32) (z_t_kind : Int32) (z_t_first : Int32) (z_t_second : Int32) (hf : fX1_drawAct v_t_kind v_t_first v_t_second x1 = some (z_t_kind, z_t_first, z_t_second)) {sz : Nat} : gMv l yX1_drawAct (gW yX1_drawAct cX1_drawAct 2 none) ({ frames := 0, cells := 0, slots := 0, locals := 0 } : Room) E [.ref o_t, .int x1] (wX1_drawAct E o_t o_t_meadow v_t_kind v_t_first v_t_second) sz (wX1_drawAct E o_t o_t_meadow z_t_kind z_t_first z_t_second) := by
  refine g_openV (own := RX1) (by decide) rfl (Nat.le_of_ble_eq_true rfl) (fun p e s m args below meth cd Q A hx hb hml hown hG hK hA hret hw ls hl => ?_)
  have hl : lv_has ls 2 [(0, .ref o_t), (1, .int x1)] := hl
  have hret1 : ∀ (t : Int32 × Int32 × Int32) (H : Heap) (locs : List Loc) (pc : Nat) (ls : Array Slot), some t = some (z_t_kind, z_t_first, z_t_second) → gS E A s.heap (wX1_drawAct E o_t o_t_meadow t.1 t.2.1 t.2.2) H locs → decode cX1_drawAct pc = .ok (.return_, 1) → W p l e ({ frames := 0, cells := 0, slots := 0, locals := 0 } : Room) s m args below meth cd H locs 0 0 Q (F0 m pc ls []) := by
    intro t H locs pc ls h hw hd
    obtain rfl : t = (z_t_kind, z_t_first, z_t_second) := Option.some.inj h
    exact hret H locs pc ls hw hd
  have B137 : ∀ (v_t_kind : Int32) (v_t_first : Int32) (v_t_second : Int32) (H : Heap) (locs : List Loc) (ls : Array Slot), fX1_drawAct_b137 v_t_kind v_t_first v_t_second = some (z_t_kind, z_t_first, z_t_second) → gS E A s.heap (wX1_drawAct E o_t o_t_meadow v_t_kind v_t_first v_t_second) H locs → lv_has ls 2 [] → W p l e ({ frames := 0, cells := 0, slots := 0, locals := 0 } : Room) s m args below meth cd H locs 0 0 Q (F0 m 137 ls []) := by
    intro  v_t_kind v_t_first v_t_second H locs ls hf hw hl
    exact hret1 (v_t_kind, v_t_first, v_t_second) _ _ _ _ hf hw dX1_drawAct_137
  refine lv_aload_n hx hb dX1_drawAct_0 rfl (lv_at hl 0 rfl) ?_
  refine lv_iload_n hx hb dX1_drawAct_1 rfl (lv_at hl 1 rfl) ?_
  refine lv_bipush (v := 6) hx hb dX1_drawAct_2 k_b6 ?_
  refine g_irem hx hb dX1_drawAct_4 (by decide) ?_
  refine g_put (ws' := (wX1_drawAct E o_t o_t_meadow v_t_kind (x1 % 6) v_t_second)) hx hb hG hown hK hw inlX1 tyX1_ok nmX1 (ci := 0) rfl 0 2 (Nat.le_of_ble_eq_true rfl) rfl wd_5_15 rfl rfl rfl (Nat.le_of_ble_eq_true rfl) rfl dX1_drawAct_5 (fun H locs hw => ?_)
  refine lv_aload_n hx hb dX1_drawAct_8 rfl (lv_at hl 0 rfl) ?_
  refine lv_iconst (v := 0) hx hb dX1_drawAct_9 k_i0 ?_
  refine g_put (ws' := (wX1_drawAct E o_t o_t_meadow v_t_kind (x1 % 6) 0)) hx hb hG hown hK hw inlX1 tyX1_ok nmX1 (ci := 0) rfl 0 3 (Nat.le_of_ble_eq_true rfl) rfl wd_5_16 rfl rfl rfl (Nat.le_of_ble_eq_true rfl) rfl dX1_drawAct_10 (fun H locs hw => ?_)
  refine lv_iload_n hx hb dX1_drawAct_13 rfl (lv_at hl 1 rfl) ?_
  refine lv_bipush (v := 6) hx hb dX1_drawAct_14 k_b6 ?_
  refine lv_idiv hx hb dX1_drawAct_16 (by decide) ?_
  refine lv_bipush (v := 8) hx hb dX1_drawAct_17 k_b8 ?_
  refine g_irem hx hb dX1_drawAct_19 (by decide) ?_
  by_cases hs1 : ((x1 / 6) % 8) = 3
  · have hf := g_t hs1 hf
    refine lv_tableIn (off := 36) (tgt := 56) hx hb dX1_drawAct_20 (by rw [hs1]; decide) (by rw [hs1]; decide) (by rw [hs1] <;> rfl) (by decide) ?_
    refine lv_aload_n hx hb dX1_drawAct_56 rfl (lv_at hl 0 rfl) ?_
    refine lv_iconst (v := 2) hx hb dX1_drawAct_57 k_i2 ?_
    refine g_put (ws' := (wX1_drawAct E o_t o_t_meadow 2 (x1 % 6) 0)) hx hb hG hown hK hw inlX1 tyX1_ok nmX1 (ci := 0) rfl 0 1 (Nat.le_of_ble_eq_true rfl) rfl wd_5_14 rfl rfl rfl (Nat.le_of_ble_eq_true rfl) rfl dX1_drawAct_58 (fun H locs hw => ?_)
    refine lv_goto (tgt := 137) hx hb dX1_drawAct_61 (by decide) ?_
    exact B137 2 (x1 % 6) 0 _ _ _ hf hw (lv_sub hl [] rfl)
  have hf := g_f hs1 hf
  by_cases hs2 : ((x1 / 6) % 8) = 4
  · have hf := g_t hs2 hf
    refine lv_tableIn (off := 44) (tgt := 64) hx hb dX1_drawAct_20 (by rw [hs2]; decide) (by rw [hs2]; decide) (by rw [hs2] <;> rfl) (by decide) ?_
    refine lv_aload_n hx hb dX1_drawAct_64 rfl (lv_at hl 0 rfl) ?_
    refine lv_iconst (v := 1) hx hb dX1_drawAct_65 k_i1 ?_
    refine g_put (ws' := (wX1_drawAct E o_t o_t_meadow 1 (x1 % 6) 0)) hx hb hG hown hK hw inlX1 tyX1_ok nmX1 (ci := 0) rfl 0 1 (Nat.le_of_ble_eq_true rfl) rfl wd_5_14 rfl rfl rfl (Nat.le_of_ble_eq_true rfl) rfl dX1_drawAct_66 (fun H locs hw => ?_)
    refine lv_goto (tgt := 137) hx hb dX1_drawAct_69 (by decide) ?_
    exact B137 1 (x1 % 6) 0 _ _ _ hf hw (lv_sub hl [] rfl)
  have hf := g_f hs2 hf
  by_cases hs3 : ((x1 / 6) % 8) = 5
  · have hf := g_t hs3 hf
    refine lv_tableIn (off := 52) (tgt := 72) hx hb dX1_drawAct_20 (by rw [hs3]; decide) (by rw [hs3]; decide) (by rw [hs3] <;> rfl) (by decide) ?_
    refine lv_aload_n hx hb dX1_drawAct_72 rfl (lv_at hl 0 rfl) ?_
    refine lv_iconst (v := 3) hx hb dX1_drawAct_73 k_i3 ?_
    refine g_put (ws' := (wX1_drawAct E o_t o_t_meadow 3 (x1 % 6) 0)) hx hb hG hown hK hw inlX1 tyX1_ok nmX1 (ci := 0) rfl 0 1 (Nat.le_of_ble_eq_true rfl) rfl wd_5_14 rfl rfl rfl (Nat.le_of_ble_eq_true rfl) rfl dX1_drawAct_74 (fun H locs hw => ?_)
    refine lv_aload_n hx hb dX1_drawAct_77 rfl (lv_at hl 0 rfl) ?_
    refine lv_iload_n hx hb dX1_drawAct_78 rfl (lv_at hl 1 rfl) ?_
    refine lv_bipush (v := 48) hx hb dX1_drawAct_79 k_b48 ?_
    refine lv_idiv hx hb dX1_drawAct_81 (by decide) ?_
    refine lv_iconst (v := 4) hx hb dX1_drawAct_82 k_i4 ?_
    refine g_irem hx hb dX1_drawAct_83 (by decide) ?_
    refine g_put (ws' := (wX1_drawAct E o_t o_t_meadow 3 ((x1 / 48) % 4) 0)) hx hb hG hown hK hw inlX1 tyX1_ok nmX1 (ci := 0) rfl 0 2 (Nat.le_of_ble_eq_true rfl) rfl wd_5_15 rfl rfl rfl (Nat.le_of_ble_eq_true rfl) rfl dX1_drawAct_84 (fun H locs hw => ?_)
    refine lv_aload_n hx hb dX1_drawAct_87 rfl (lv_at hl 0 rfl) ?_
    refine lv_iload_n hx hb dX1_drawAct_88 rfl (lv_at hl 1 rfl) ?_
    refine lv_sipush (v := 192) hx hb dX1_drawAct_89 k_s192 ?_
    refine lv_idiv hx hb dX1_drawAct_92 (by decide) ?_
    refine lv_bipush (v := 6) hx hb dX1_drawAct_93 k_b6 ?_
    refine g_irem hx hb dX1_drawAct_95 (by decide) ?_
    refine g_put (ws' := (wX1_drawAct E o_t o_t_meadow 3 ((x1 / 48) % 4) ((x1 / 192) % 6))) hx hb hG hown hK hw inlX1 tyX1_ok nmX1 (ci := 0) rfl 0 3 (Nat.le_of_ble_eq_true rfl) rfl wd_5_16 rfl rfl rfl (Nat.le_of_ble_eq_true rfl) rfl dX1_drawAct_96 (fun H locs hw => ?_)
    refine lv_goto (tgt := 137) hx hb dX1_drawAct_99 (by decide) ?_
    exact B137 3 ((x1 / 48) % 4) ((x1 / 192) % 6) _ _ _ hf hw (lv_sub hl [] rfl)
  have hf := g_f hs3 hf
  by_cases hs4 : ((x1 / 6) % 8) = 6
  · have hf := g_t hs4 hf
    refine lv_tableIn (off := 82) (tgt := 102) hx hb dX1_drawAct_20 (by rw [hs4]; decide) (by rw [hs4]; decide) (by rw [hs4] <;> rfl) (by decide) ?_
    refine lv_aload_n hx hb dX1_drawAct_102 rfl (lv_at hl 0 rfl) ?_
    refine lv_iconst (v := 5) hx hb dX1_drawAct_103 k_i5 ?_
    refine g_put (ws' := (wX1_drawAct E o_t o_t_meadow 5 (x1 % 6) 0)) hx hb hG hown hK hw inlX1 tyX1_ok nmX1 (ci := 0) rfl 0 1 (Nat.le_of_ble_eq_true rfl) rfl wd_5_14 rfl rfl rfl (Nat.le_of_ble_eq_true rfl) rfl dX1_drawAct_104 (fun H locs hw => ?_)
    refine lv_goto (tgt := 137) hx hb dX1_drawAct_107 (by decide) ?_
    exact B137 5 (x1 % 6) 0 _ _ _ hf hw (lv_sub hl [] rfl)
  have hf := g_f hs4 hf
  by_cases hs5 : ((x1 / 6) % 8) = 7
  · have hf := g_t hs5 hf
    refine lv_tableIn (off := 90) (tgt := 110) hx hb dX1_drawAct_20 (by rw [hs5]; decide) (by rw [hs5]; decide) (by rw [hs5] <;> rfl) (by decide) ?_
    refine lv_aload_n hx hb dX1_drawAct_110 rfl (lv_at hl 0 rfl) ?_
    refine lv_bipush (v := 6) hx hb dX1_drawAct_111 k_b6 ?_
    refine g_put (ws' := (wX1_drawAct E o_t o_t_meadow 6 (x1 % 6) 0)) hx hb hG hown hK hw inlX1 tyX1_ok nmX1 (ci := 0) rfl 0 1 (Nat.le_of_ble_eq_true rfl) rfl wd_5_14 rfl rfl rfl (Nat.le_of_ble_eq_true rfl) rfl dX1_drawAct_113 (fun H locs hw => ?_)
    refine lv_goto (tgt := 137) hx hb dX1_drawAct_116 (by decide) ?_
    exact B137 6 (x1 % 6) 0 _ _ _ hf hw (lv_sub hl [] rfl)
  have hf := g_f hs5 hf
  have nhs1 := lv_neT hs1 (show (3 : Int32).toInt = 3 from by decide)
  have nhs2 := lv_neT hs2 (show (4 : Int32).toInt = 4 from by decide)
  have nhs3 := lv_neT hs3 (show (5 : Int32).toInt = 5 from by decide)
  have nhs4 := lv_neT hs4 (show (6 : Int32).toInt = 6 from by decide)
  have nhs5 := lv_neT hs5 (show (7 : Int32).toInt = 7 from by decide)
  refine lv_tableOut (tgt := 119) hx hb dX1_drawAct_20 (by omega) (by decide) ?_
  refine lv_aload_n hx hb dX1_drawAct_119 rfl (lv_at hl 0 rfl) ?_
  refine lv_iconst (v := 0) hx hb dX1_drawAct_120 k_i0 ?_
  refine g_put (ws' := (wX1_drawAct E o_t o_t_meadow 0 (x1 % 6) 0)) hx hb hG hown hK hw inlX1 tyX1_ok nmX1 (ci := 0) rfl 0 1 (Nat.le_of_ble_eq_true rfl) rfl wd_5_14 rfl rfl rfl (Nat.le_of_ble_eq_true rfl) rfl dX1_drawAct_121 (fun H locs hw => ?_)
  refine lv_aload_n hx hb dX1_drawAct_124 rfl (lv_at hl 0 rfl) ?_
  refine lv_iconst (v := 1) hx hb dX1_drawAct_125 k_i1 ?_
  refine lv_iload_n hx hb dX1_drawAct_126 rfl (lv_at hl 1 rfl) ?_
  refine lv_bipush (v := 48) hx hb dX1_drawAct_127 k_b48 ?_
  refine lv_idiv hx hb dX1_drawAct_129 (by decide) ?_
  refine lv_bipush (v := 9) hx hb dX1_drawAct_130 k_b9 ?_
  refine g_irem hx hb dX1_drawAct_132 (by decide) ?_
  refine lv_iadd hx hb dX1_drawAct_133 ?_
  refine g_put (ws' := (wX1_drawAct E o_t o_t_meadow 0 (x1 % 6) (1 + ((x1 / 48) % 9)))) hx hb hG hown hK hw inlX1 tyX1_ok nmX1 (ci := 0) rfl 0 3 (Nat.le_of_ble_eq_true rfl) rfl wd_5_16 rfl rfl rfl (Nat.le_of_ble_eq_true rfl) rfl dX1_drawAct_134 (fun H locs hw => ?_)
  exact B137 0 (x1 % 6) (1 + ((x1 / 48) % 9)) _ _ _ hf hw (lv_sub hl [] rfl)
theorem hX1_run : yX1_run.cls = RX1 ∧ yX1_run.cls ≠ "java/lang/invoke/MethodHandle" ∧ yX1_run.cls ≠ "java/lang/invoke/VarHandle" ∧ (parseMethodDescriptor yX1_run.desc).map (fun d => d.parameters.length) = some 3 := by decide +kernel
set_option maxHeartbeats 4000000 in
set_option maxRecDepth 100000 in
theorem mX1_run (l : Launch) (E : gE) (o_p0 : Nat) (a_p0 : (Nat → Nat)) (o_t : Nat) (o_t_meadow : Nat) (a_t_meadow : (Nat → Nat)) (v_p0_families : Int32) (v_p0_wind : Int32) (v_p0_force : Int32) (v_p0_rain : Int32) (v_p0_lost : Int32) (v_p0_hour : Int32) (v_t_kind : Int32) (v_t_first : Int32) (v_t_second : Int32) (v_t_meadow_families : Int32) (v_t_meadow_wind : Int32) (v_t_meadow_force : Int32) (v_t_meadow_rain : Int32) (v_t_meadow_lost : Int32) (v_t_meadow_hour : Int32) (f_p0_home : (Nat → Int32)) (f_p0_seeds : (Nat → Int32)) (f_p0_lungs : (Nat → Int32)) (f_p0_blown : (Nat → Int32)) (f_p0_ground : (Nat → Int32)) (f_t_meadow_home : (Nat → Int32)) (f_t_meadow_seeds : (Nat → Int32)) (f_t_meadow_lungs : (Nat → Int32)) (f_t_meadow_blown : (Nat → Int32)) (f_t_meadow_ground : (Nat → Int32)) (x2 : Int32) (x3 : Int32) (z_t_kind : Int32) (z_t_first : Int32) (z_t_second : Int32) (z_t_meadow_families : Int32) (z_t_meadow_wind : Int32) (z_t_meadow_force : Int32) (z_t_meadow_rain : Int32) (z_t_meadow_lost : Int32) (z_t_meadow_hour : Int32) (z_t_meadow_home : (Nat → Int32)) (z_t_meadow_seeds : (Nat → Int32)) (z_t_meadow_lungs : (Nat → Int32)) (z_t_meadow_blown : (Nat → Int32)) (z_t_meadow_ground : (Nat → Int32)) (hf : fX1_run v_p0_families v_p0_wind v_p0_force v_p0_rain v_p0_lost v_p0_hour v_t_kind v_t_first v_t_second v_t_meadow_families v_t_meadow_wind v_t_meadow_force v_t_meadow_rain v_t_meadow_lost v_t_meadow_hour f_p0_home f_p0_seeds f_p0_lungs f_p0_blown f_p0_ground f_t_meadow_home f_t_meadow_seeds f_t_meadow_lungs f_t_meadow_blown f_t_meadow_ground x2 x3 = some (z_t_kind, z_t_first, z_t_second, z_t_meadow_families, z_t_meadow_wind, z_t_meadow_force, z_t_meadow_rain, z_t_meadow_lost, z_t_meadow_hour, z_t_meadow_home, z_t_meadow_seeds, z_t_meadow_lungs, z_t_meadow_blown, z_t_meadow_ground)) {sz : Nat} : gMv l yX1_run (gW yX1_run cX1_run 6 none) ({ frames := 4, cells := 0, slots := 0, locals := 94 } : Room) E [.ref o_t, .ref o_p0, .int x2, .int x3] (wX1_run E o_p0 a_p0 o_t o_t_meadow a_t_meadow v_p0_families v_p0_wind v_p0_force v_p0_rain v_p0_lost v_p0_hour v_t_kind v_t_first v_t_second v_t_meadow_families v_t_meadow_wind v_t_meadow_force v_t_meadow_rain v_t_meadow_lost v_t_meadow_hour f_p0_home f_p0_seeds f_p0_lungs f_p0_blown f_p0_ground f_t_meadow_home f_t_meadow_seeds f_t_meadow_lungs f_t_meadow_blown f_t_meadow_ground) sz (wX1_run E o_p0 a_p0 o_t o_t_meadow a_t_meadow v_p0_families v_p0_wind v_p0_force v_p0_rain v_p0_lost v_p0_hour z_t_kind z_t_first z_t_second z_t_meadow_families z_t_meadow_wind z_t_meadow_force z_t_meadow_rain z_t_meadow_lost z_t_meadow_hour f_p0_home f_p0_seeds f_p0_lungs f_p0_blown f_p0_ground z_t_meadow_home z_t_meadow_seeds z_t_meadow_lungs z_t_meadow_blown z_t_meadow_ground) := by
  refine g_openV (own := RX1) (by decide) rfl (Nat.le_of_ble_eq_true rfl) (fun p e s m args below meth cd Q A hx hb hml hown hG hK hA hret hw ls hl => ?_)
  have hl : lv_has ls 6 [(0, .ref o_t), (1, .ref o_p0), (2, .int x2), (3, .int x3)] := hl
  have hret1 : ∀ (t : Int32 × Int32 × Int32 × Int32 × Int32 × Int32 × Int32 × Int32 × Int32 × (Nat → Int32) × (Nat → Int32) × (Nat → Int32) × (Nat → Int32) × (Nat → Int32)) (H : Heap) (locs : List Loc) (pc : Nat) (ls : Array Slot), some t = some (z_t_kind, z_t_first, z_t_second, z_t_meadow_families, z_t_meadow_wind, z_t_meadow_force, z_t_meadow_rain, z_t_meadow_lost, z_t_meadow_hour, z_t_meadow_home, z_t_meadow_seeds, z_t_meadow_lungs, z_t_meadow_blown, z_t_meadow_ground) → gS E A s.heap (wX1_run E o_p0 a_p0 o_t o_t_meadow a_t_meadow v_p0_families v_p0_wind v_p0_force v_p0_rain v_p0_lost v_p0_hour t.1 t.2.1 t.2.2.1 t.2.2.2.1 t.2.2.2.2.1 t.2.2.2.2.2.1 t.2.2.2.2.2.2.1 t.2.2.2.2.2.2.2.1 t.2.2.2.2.2.2.2.2.1 f_p0_home f_p0_seeds f_p0_lungs f_p0_blown f_p0_ground t.2.2.2.2.2.2.2.2.2.1 t.2.2.2.2.2.2.2.2.2.2.1 t.2.2.2.2.2.2.2.2.2.2.2.1 t.2.2.2.2.2.2.2.2.2.2.2.2.1 t.2.2.2.2.2.2.2.2.2.2.2.2.2) H locs → decode cX1_run pc = .ok (.return_, 1) → W p l e ({ frames := 4, cells := 0, slots := 0, locals := 94 } : Room) s m args below meth cd H locs 0 0 Q (F0 m pc ls []) := by
    intro t H locs pc ls h hw hd
    obtain rfl : t = (z_t_kind, z_t_first, z_t_second, z_t_meadow_families, z_t_meadow_wind, z_t_meadow_force, z_t_meadow_rain, z_t_meadow_lost, z_t_meadow_hour, z_t_meadow_home, z_t_meadow_seeds, z_t_meadow_lungs, z_t_meadow_blown, z_t_meadow_ground) := Option.some.inj h
    exact hret H locs pc ls hw hd
  have B80 : ∀ (K14 : Int32 → Int32 → Int32 → Int32 → Int32 → Int32 → Int32 → Int32 → Int32 → (Nat → Int32) → (Nat → Int32) → (Nat → Int32) → (Nat → Int32) → (Nat → Int32) → Int32 → Int32 → Int32 → Option (Int32 × Int32 × Int32 × Int32 × Int32 × Int32 × Int32 × Int32 × Int32 × (Nat → Int32) × (Nat → Int32) × (Nat → Int32) × (Nat → Int32) × (Nat → Int32))) (hK14 : ∀ (v_t_kind : Int32) (v_t_first : Int32) (v_t_second : Int32) (v_t_meadow_families : Int32) (v_t_meadow_wind : Int32) (v_t_meadow_force : Int32) (v_t_meadow_rain : Int32) (v_t_meadow_lost : Int32) (v_t_meadow_hour : Int32) (f_t_meadow_home : (Nat → Int32)) (f_t_meadow_seeds : (Nat → Int32)) (f_t_meadow_lungs : (Nat → Int32)) (f_t_meadow_blown : (Nat → Int32)) (f_t_meadow_ground : (Nat → Int32)) (x3 : Int32) (x4 : Int32) (x5 : Int32) (H : Heap) (locs : List Loc) (ls : Array Slot), K14 v_t_kind v_t_first v_t_second v_t_meadow_families v_t_meadow_wind v_t_meadow_force v_t_meadow_rain v_t_meadow_lost v_t_meadow_hour f_t_meadow_home f_t_meadow_seeds f_t_meadow_lungs f_t_meadow_blown f_t_meadow_ground x3 x4 x5 = some (z_t_kind, z_t_first, z_t_second, z_t_meadow_families, z_t_meadow_wind, z_t_meadow_force, z_t_meadow_rain, z_t_meadow_lost, z_t_meadow_hour, z_t_meadow_home, z_t_meadow_seeds, z_t_meadow_lungs, z_t_meadow_blown, z_t_meadow_ground) → gS E A s.heap (wX1_run E o_p0 a_p0 o_t o_t_meadow a_t_meadow v_p0_families v_p0_wind v_p0_force v_p0_rain v_p0_lost v_p0_hour v_t_kind v_t_first v_t_second v_t_meadow_families v_t_meadow_wind v_t_meadow_force v_t_meadow_rain v_t_meadow_lost v_t_meadow_hour f_p0_home f_p0_seeds f_p0_lungs f_p0_blown f_p0_ground f_t_meadow_home f_t_meadow_seeds f_t_meadow_lungs f_t_meadow_blown f_t_meadow_ground) H locs → lv_has ls 6 [(0, .ref o_t), (3, .int x3), (4, .int x4), (5, .int x5)] → W p l e ({ frames := 4, cells := 0, slots := 0, locals := 94 } : Room) s m args below meth cd H locs 0 0 Q (F0 m 14 ls [])), ∀ (v_t_kind : Int32) (v_t_first : Int32) (v_t_second : Int32) (v_t_meadow_families : Int32) (v_t_meadow_wind : Int32) (v_t_meadow_force : Int32) (v_t_meadow_rain : Int32) (v_t_meadow_lost : Int32) (v_t_meadow_hour : Int32) (f_t_meadow_home : (Nat → Int32)) (f_t_meadow_seeds : (Nat → Int32)) (f_t_meadow_lungs : (Nat → Int32)) (f_t_meadow_blown : (Nat → Int32)) (f_t_meadow_ground : (Nat → Int32)) (x3 : Int32) (x4 : Int32) (x5 : Int32) (H : Heap) (locs : List Loc) (ls : Array Slot), fX1_run_b80 K14 v_t_kind v_t_first v_t_second v_t_meadow_families v_t_meadow_wind v_t_meadow_force v_t_meadow_rain v_t_meadow_lost v_t_meadow_hour f_t_meadow_home f_t_meadow_seeds f_t_meadow_lungs f_t_meadow_blown f_t_meadow_ground x3 x4 x5 = some (z_t_kind, z_t_first, z_t_second, z_t_meadow_families, z_t_meadow_wind, z_t_meadow_force, z_t_meadow_rain, z_t_meadow_lost, z_t_meadow_hour, z_t_meadow_home, z_t_meadow_seeds, z_t_meadow_lungs, z_t_meadow_blown, z_t_meadow_ground) → gS E A s.heap (wX1_run E o_p0 a_p0 o_t o_t_meadow a_t_meadow v_p0_families v_p0_wind v_p0_force v_p0_rain v_p0_lost v_p0_hour v_t_kind v_t_first v_t_second v_t_meadow_families v_t_meadow_wind v_t_meadow_force v_t_meadow_rain v_t_meadow_lost v_t_meadow_hour f_p0_home f_p0_seeds f_p0_lungs f_p0_blown f_p0_ground f_t_meadow_home f_t_meadow_seeds f_t_meadow_lungs f_t_meadow_blown f_t_meadow_ground) H locs → lv_has ls 6 [(0, .ref o_t), (3, .int x3), (4, .int x4), (5, .int x5)] → W p l e ({ frames := 4, cells := 0, slots := 0, locals := 94 } : Room) s m args below meth cd H locs 0 0 Q (F0 m 80 ls []) := by
    intro K14 hK14 v_t_kind v_t_first v_t_second v_t_meadow_families v_t_meadow_wind v_t_meadow_force v_t_meadow_rain v_t_meadow_lost v_t_meadow_hour f_t_meadow_home f_t_meadow_seeds f_t_meadow_lungs f_t_meadow_blown f_t_meadow_ground x3 x4 x5 H locs ls hf hw hl
    refine lv_iinc (lv' := [(5, .int (x5 + 1)), (0, .ref o_t), (3, .int x3), (4, .int x4)]) hx hb dX1_run_80 hl (k := 3) rfl (k_inc1 _) (Nat.le_of_ble_eq_true rfl) rfl (fun ls hl => ?_)
    refine lv_goto (tgt := 14) hx hb dX1_run_83 (by decide) ?_
    exact hK14 v_t_kind v_t_first v_t_second v_t_meadow_families v_t_meadow_wind v_t_meadow_force v_t_meadow_rain v_t_meadow_lost v_t_meadow_hour f_t_meadow_home f_t_meadow_seeds f_t_meadow_lungs f_t_meadow_blown f_t_meadow_ground x3 x4 (x5 + 1) _ _ _ hf hw (lv_sub hl [1, 2, 3, 0] rfl)
  have B14 : ∀ n : Nat, ∀ (v_t_kind : Int32) (v_t_first : Int32) (v_t_second : Int32) (v_t_meadow_families : Int32) (v_t_meadow_wind : Int32) (v_t_meadow_force : Int32) (v_t_meadow_rain : Int32) (v_t_meadow_lost : Int32) (v_t_meadow_hour : Int32) (f_t_meadow_home : (Nat → Int32)) (f_t_meadow_seeds : (Nat → Int32)) (f_t_meadow_lungs : (Nat → Int32)) (f_t_meadow_blown : (Nat → Int32)) (f_t_meadow_ground : (Nat → Int32)) (x3 : Int32) (x4 : Int32) (x5 : Int32) (H : Heap) (locs : List Loc) (ls : Array Slot), fX1_run_b14 n v_t_kind v_t_first v_t_second v_t_meadow_families v_t_meadow_wind v_t_meadow_force v_t_meadow_rain v_t_meadow_lost v_t_meadow_hour f_t_meadow_home f_t_meadow_seeds f_t_meadow_lungs f_t_meadow_blown f_t_meadow_ground x3 x4 x5 = some (z_t_kind, z_t_first, z_t_second, z_t_meadow_families, z_t_meadow_wind, z_t_meadow_force, z_t_meadow_rain, z_t_meadow_lost, z_t_meadow_hour, z_t_meadow_home, z_t_meadow_seeds, z_t_meadow_lungs, z_t_meadow_blown, z_t_meadow_ground) → gS E A s.heap (wX1_run E o_p0 a_p0 o_t o_t_meadow a_t_meadow v_p0_families v_p0_wind v_p0_force v_p0_rain v_p0_lost v_p0_hour v_t_kind v_t_first v_t_second v_t_meadow_families v_t_meadow_wind v_t_meadow_force v_t_meadow_rain v_t_meadow_lost v_t_meadow_hour f_p0_home f_p0_seeds f_p0_lungs f_p0_blown f_p0_ground f_t_meadow_home f_t_meadow_seeds f_t_meadow_lungs f_t_meadow_blown f_t_meadow_ground) H locs → lv_has ls 6 [(0, .ref o_t), (3, .int x3), (4, .int x4), (5, .int x5)] → W p l e ({ frames := 4, cells := 0, slots := 0, locals := 94 } : Room) s m args below meth cd H locs 0 0 Q (F0 m 14 ls []) := by
    intro n
    induction n with
    | zero => intro v_t_kind v_t_first v_t_second v_t_meadow_families v_t_meadow_wind v_t_meadow_force v_t_meadow_rain v_t_meadow_lost v_t_meadow_hour f_t_meadow_home f_t_meadow_seeds f_t_meadow_lungs f_t_meadow_blown f_t_meadow_ground x3 x4 x5 H locs ls hf hw hl; exact g_no hf
    | succ n ih =>
      intro v_t_kind v_t_first v_t_second v_t_meadow_families v_t_meadow_wind v_t_meadow_force v_t_meadow_rain v_t_meadow_lost v_t_meadow_hour f_t_meadow_home f_t_meadow_seeds f_t_meadow_lungs f_t_meadow_blown f_t_meadow_ground x3 x4 x5 H locs ls hf hw hl
      refine lv_iload hx hb dX1_run_14 (lv_at hl 3 rfl) ?_
      refine lv_iload_n hx hb dX1_run_16 rfl (lv_at hl 1 rfl) ?_
      refine lv_icmp_ge (tgt := 86) hx hb dX1_run_17 (by decide) (fun hc => ?_) (fun hc => ?_)
      · have hf := g_t hc hf
        exact hret1 (v_t_kind, v_t_first, v_t_second, v_t_meadow_families, v_t_meadow_wind, v_t_meadow_force, v_t_meadow_rain, v_t_meadow_lost, v_t_meadow_hour, f_t_meadow_home, f_t_meadow_seeds, f_t_meadow_lungs, f_t_meadow_blown, f_t_meadow_ground) _ _ _ _ hf hw dX1_run_86
      · have hf := g_f hc hf
        refine lv_bipush (v := 75) hx hb dX1_run_20 k_b75 ?_
        refine lv_iload hx hb dX1_run_22 (lv_at hl 2 rfl) ?_
        refine lv_imul hx hb dX1_run_24 ?_
        refine lv_bipush (v := 74) hx hb dX1_run_25 k_b74 ?_
        refine lv_iadd hx hb dX1_run_27 ?_
        refine lv_ldc hx hb hown (hG _ wd_35_20) dX1_run_28 ?_
        refine g_irem hx hb dX1_run_30 (by decide) ?_
        refine lv_istore (lv' := [(4, .int (((75 * x4) + 74) % 65537)), (0, .ref o_t), (3, .int x3), (5, .int x5)]) hx hb dX1_run_31 hl (Nat.le_of_ble_eq_true rfl) rfl (fun ls hl => ?_)
        refine lv_aload_n hx hb dX1_run_33 rfl (lv_at hl 1 rfl) ?_
        refine lv_iload hx hb dX1_run_34 (lv_at hl 0 rfl) ?_
        obtain ⟨⟨r1_0, r1_1, r1_2⟩, hc2, hf⟩ := gB_s hf
        refine g_kv (is := [6]) (isR := [0, 1, 2, 3, 4, 5, 7, 8, 9, 10, 11, 12]) (nW := 13) (w1 := (wX1_drawAct E o_t o_t_meadow r1_0 r1_1 r1_2)) (ws' := (wX1_run E o_p0 a_p0 o_t o_t_meadow a_t_meadow v_p0_families v_p0_wind v_p0_force v_p0_rain v_p0_lost v_p0_hour r1_0 r1_1 r1_2 v_t_meadow_families v_t_meadow_wind v_t_meadow_force v_t_meadow_rain v_t_meadow_lost v_t_meadow_hour f_p0_home f_p0_seeds f_p0_lungs f_p0_blown f_p0_ground f_t_meadow_home f_t_meadow_seeds f_t_meadow_lungs f_t_meadow_blown f_t_meadow_ground)) hw hA (g_rV hx hb hml hG hown hK hw (is := [6]) rfl (by decide) (mX1_drawAct l E o_t o_t_meadow v_t_kind v_t_first v_t_second (((75 * x4) + 74) % 65537) r1_0 r1_1 r1_2 hc2) wd_35_22 wd_35_23 wd_36_0 wd_2_13 wd_36_1 hX1_drawAct g_allgood ⟨rfl, rfl⟩ ⟨Nat.le_of_ble_eq_true rfl, Nat.le_of_ble_eq_true rfl⟩ ⟨Nat.zero_le _, Nat.zero_le _⟩ (ci := 0) (q0 := 0) rfl rfl rfl rfl hl.1 rfl (Nat.le_of_ble_eq_true rfl) dX1_run_36) rfl (g_had [o_t] rfl rfl) rfl (⟨⟨_, rfl, rfl⟩, ⟨⟨_, rfl, rfl⟩, ⟨⟨_, rfl, rfl⟩, ⟨⟨_, rfl, rfl⟩, ⟨⟨_, rfl, rfl⟩, ⟨⟨_, rfl, rfl⟩, ⟨⟨_, rfl, rfl⟩, ⟨⟨_, rfl, rfl⟩, ⟨⟨_, rfl, rfl⟩, ⟨⟨_, rfl, rfl⟩, ⟨⟨_, rfl, rfl⟩, ⟨⟨_, rfl, rfl⟩, trivial⟩⟩⟩⟩⟩⟩⟩⟩⟩⟩⟩⟩) rfl rfl (by decide) (fun H locs hw => ?_)
        refine lv_aload_n hx hb dX1_run_39 rfl (lv_at hl 1 rfl) ?_
        refine g_get hx hb hG hown hK hw inlX1 (ci := 0) rfl 6 0 (Nat.le_of_ble_eq_true rfl) rfl rfl wd_5_13 dX1_run_40 ?_
        refine lv_aload_n hx hb dX1_run_43 rfl (lv_at hl 1 rfl) ?_
        refine g_get hx hb hG hown hK hw inlX1 (ci := 0) rfl 6 1 (Nat.le_of_ble_eq_true rfl) rfl rfl wd_5_14 dX1_run_44 ?_
        refine lv_aload_n hx hb dX1_run_47 rfl (lv_at hl 1 rfl) ?_
        refine g_get hx hb hG hown hK hw inlX1 (ci := 0) rfl 6 2 (Nat.le_of_ble_eq_true rfl) rfl rfl wd_5_15 dX1_run_48 ?_
        refine lv_aload_n hx hb dX1_run_51 rfl (lv_at hl 1 rfl) ?_
        refine g_get hx hb hG hown hK hw inlX1 (ci := 0) rfl 6 3 (Nat.le_of_ble_eq_true rfl) rfl rfl wd_5_16 dX1_run_52 ?_
        obtain ⟨r3, hc4, hf⟩ := gB_s hf
        refine g_ki0 (is := [7, 8, 9, 10, 11, 12]) hw hA (g_rS hx hb hml hG hown hK hw (is := [7, 8, 9, 10, 11, 12]) rfl (by decide) (mX0_whyNot l E o_t_meadow a_t_meadow v_t_meadow_families v_t_meadow_wind v_t_meadow_force v_t_meadow_rain v_t_meadow_lost v_t_meadow_hour f_t_meadow_home f_t_meadow_seeds f_t_meadow_lungs f_t_meadow_blown f_t_meadow_ground r1_0 r1_1 r1_2 r3 hc4) wd_36_2 wd_16_6 wd_16_7 wd_16_8 hX0_whyNot g_allgood ⟨rfl, rfl⟩ ⟨Nat.le_of_ble_eq_true rfl, Nat.le_of_ble_eq_true rfl⟩ ⟨Nat.zero_le _, Nat.zero_le _⟩ rfl hl.1 rfl (Nat.le_of_ble_eq_true rfl) dX1_run_55) rfl (fun H locs hw => ?_)
        refine lv_if_ne (tgt := 80) hx hb dX1_run_58 (by decide) (fun hc => ?_) (fun hc => ?_)
        · have hf := g_f hc hf
          exact B80 (fX1_run_b14 n) ih r1_0 r1_1 r1_2 v_t_meadow_families v_t_meadow_wind v_t_meadow_force v_t_meadow_rain v_t_meadow_lost v_t_meadow_hour f_t_meadow_home f_t_meadow_seeds f_t_meadow_lungs f_t_meadow_blown f_t_meadow_ground x3 (((75 * x4) + 74) % 65537) x5 _ _ _ hf hw (lv_sub hl [1, 2, 0, 3] rfl)
        · have hf := g_t hc hf
          refine lv_aload_n hx hb dX1_run_61 rfl (lv_at hl 1 rfl) ?_
          refine g_get hx hb hG hown hK hw inlX1 (ci := 0) rfl 6 0 (Nat.le_of_ble_eq_true rfl) rfl rfl wd_5_13 dX1_run_62 ?_
          refine lv_aload_n hx hb dX1_run_65 rfl (lv_at hl 1 rfl) ?_
          refine g_get hx hb hG hown hK hw inlX1 (ci := 0) rfl 6 1 (Nat.le_of_ble_eq_true rfl) rfl rfl wd_5_14 dX1_run_66 ?_
          refine lv_aload_n hx hb dX1_run_69 rfl (lv_at hl 1 rfl) ?_
          refine g_get hx hb hG hown hK hw inlX1 (ci := 0) rfl 6 2 (Nat.le_of_ble_eq_true rfl) rfl rfl wd_5_15 dX1_run_70 ?_
          refine lv_aload_n hx hb dX1_run_73 rfl (lv_at hl 1 rfl) ?_
          refine g_get hx hb hG hown hK hw inlX1 (ci := 0) rfl 6 3 (Nat.le_of_ble_eq_true rfl) rfl rfl wd_5_16 dX1_run_74 ?_
          obtain ⟨⟨r5_0, r5_1, r5_2, r5_3, r5_4, r5_5, r5_6, r5_7⟩, hc6, hf⟩ := gB_s hf
          refine g_kv (is := [7, 8, 9, 11, 12]) (isR := [0, 1, 2, 3, 4, 5, 6, 10]) (nW := 13) (w1 := (wX0_carryOut E o_t_meadow a_t_meadow v_t_meadow_families r5_0 r5_1 r5_2 r5_3 r5_4 f_t_meadow_home r5_5 r5_6 r5_7)) (ws' := (wX1_run E o_p0 a_p0 o_t o_t_meadow a_t_meadow v_p0_families v_p0_wind v_p0_force v_p0_rain v_p0_lost v_p0_hour r1_0 r1_1 r1_2 v_t_meadow_families r5_0 r5_1 r5_2 r5_3 r5_4 f_p0_home f_p0_seeds f_p0_lungs f_p0_blown f_p0_ground f_t_meadow_home r5_5 f_t_meadow_lungs r5_6 r5_7)) hw hA (g_rS hx hb hml hG hown hK hw (is := [7, 8, 9, 11, 12]) rfl (by decide) (mX0_carryOut l E o_t_meadow a_t_meadow v_t_meadow_families v_t_meadow_wind v_t_meadow_force v_t_meadow_rain v_t_meadow_lost v_t_meadow_hour f_t_meadow_home f_t_meadow_seeds f_t_meadow_blown f_t_meadow_ground r1_0 r1_1 r1_2 r5_0 r5_1 r5_2 r5_3 r5_4 r5_5 r5_6 r5_7 hc6) wd_36_3 wd_17_4 wd_16_7 wd_17_5 hX0_carryOut g_allgood ⟨rfl, rfl⟩ ⟨Nat.le_of_ble_eq_true rfl, Nat.le_of_ble_eq_true rfl⟩ ⟨Nat.zero_le _, Nat.zero_le _⟩ rfl hl.1 rfl (Nat.le_of_ble_eq_true rfl) dX1_run_77) rfl (g_had [o_t_meadow, (a_t_meadow 0), (a_t_meadow 1), (a_t_meadow 3), (a_t_meadow 4)] rfl rfl) rfl (⟨⟨_, rfl, rfl⟩, ⟨⟨_, rfl, rfl⟩, ⟨⟨_, rfl, rfl⟩, ⟨⟨_, rfl, rfl⟩, ⟨⟨_, rfl, rfl⟩, ⟨⟨_, rfl, rfl⟩, ⟨⟨_, rfl, rfl⟩, ⟨⟨_, rfl, rfl⟩, trivial⟩⟩⟩⟩⟩⟩⟩⟩) rfl rfl (by decide) (fun H locs hw => ?_)
          exact B80 (fX1_run_b14 n) ih r1_0 r1_1 r1_2 v_t_meadow_families r5_0 r5_1 r5_2 r5_3 r5_4 f_t_meadow_home r5_5 f_t_meadow_lungs r5_6 r5_7 x3 (((75 * x4) + 74) % 65537) x5 _ _ _ hf hw (lv_sub hl [1, 2, 0, 3] rfl)
  refine lv_aload_n hx hb dX1_run_0 rfl (lv_at hl 0 rfl) ?_
  refine g_get hx hb hG hown hK hw inlX1 (ci := 0) rfl 6 0 (Nat.le_of_ble_eq_true rfl) rfl rfl wd_5_13 dX1_run_1 ?_
  refine lv_aload_n hx hb dX1_run_4 rfl (lv_at hl 1 rfl) ?_
  obtain ⟨⟨r7_0, r7_1, r7_2, r7_3, r7_4, r7_5, r7_6, r7_7, r7_8, r7_9, r7_10⟩, hc8, hf⟩ := gB_s hf
  refine g_kv (is := [0, 1, 2, 3, 4, 5, 7, 8, 9, 10, 11, 12]) (isR := [6]) (nW := 13) (w1 := (wX6_copyFrom E o_p0 a_p0 o_t_meadow a_t_meadow v_p0_families v_p0_wind v_p0_force v_p0_rain v_p0_lost v_p0_hour r7_0 r7_1 r7_2 r7_3 r7_4 r7_5 f_p0_home f_p0_seeds f_p0_lungs f_p0_blown f_p0_ground r7_6 r7_7 r7_8 r7_9 r7_10)) (ws' := (wX1_run E o_p0 a_p0 o_t o_t_meadow a_t_meadow v_p0_families v_p0_wind v_p0_force v_p0_rain v_p0_lost v_p0_hour v_t_kind v_t_first v_t_second r7_0 r7_1 r7_2 r7_3 r7_4 r7_5 f_p0_home f_p0_seeds f_p0_lungs f_p0_blown f_p0_ground r7_6 r7_7 r7_8 r7_9 r7_10)) hw hA (g_rV hx hb hml hG hown hK hw (is := [0, 1, 2, 3, 4, 5, 7, 8, 9, 10, 11, 12]) rfl (by decide) (mX6_copyFrom l E o_p0 a_p0 o_t_meadow a_t_meadow v_p0_families v_p0_wind v_p0_force v_p0_rain v_p0_lost v_p0_hour v_t_meadow_families v_t_meadow_wind v_t_meadow_force v_t_meadow_rain v_t_meadow_lost v_t_meadow_hour f_p0_home f_p0_seeds f_p0_lungs f_p0_blown f_p0_ground f_t_meadow_home f_t_meadow_seeds f_t_meadow_lungs f_t_meadow_blown f_t_meadow_ground r7_0 r7_1 r7_2 r7_3 r7_4 r7_5 r7_6 r7_7 r7_8 r7_9 r7_10 hc8) wd_35_21 wd_15_16 wd_15_17 wd_2_20 wd_15_18 hX6_copyFrom g_allgood ⟨rfl, rfl⟩ ⟨Nat.le_of_ble_eq_true rfl, Nat.le_of_ble_eq_true rfl⟩ ⟨Nat.zero_le _, Nat.zero_le _⟩ (ci := 5) (q0 := 6) rfl rfl rfl rfl hl.1 rfl (Nat.le_of_ble_eq_true rfl) dX1_run_5) rfl (g_had [o_p0, (a_p0 0), (a_p0 1), (a_p0 2), (a_p0 3), (a_p0 4), o_t_meadow, (a_t_meadow 0), (a_t_meadow 1), (a_t_meadow 2), (a_t_meadow 3), (a_t_meadow 4)] rfl rfl) rfl (⟨⟨_, rfl, rfl⟩, trivial⟩) rfl rfl (by decide) (fun H locs hw => ?_)
  refine lv_iload_n hx hb dX1_run_8 rfl (lv_at hl 2 rfl) ?_
  refine lv_istore (lv' := [(4, .int x2), (0, .ref o_t), (1, .ref o_p0), (2, .int x2), (3, .int x3)]) hx hb dX1_run_9 hl (Nat.le_of_ble_eq_true rfl) rfl (fun ls hl => ?_)
  refine lv_iconst (v := 0) hx hb dX1_run_11 k_i0 ?_
  refine lv_istore (lv' := [(5, .int 0), (4, .int x2), (0, .ref o_t), (1, .ref o_p0), (2, .int x2), (3, .int x3)]) hx hb dX1_run_12 hl (Nat.le_of_ble_eq_true rfl) rfl (fun ls hl => ?_)
  exact B14 1000 v_t_kind v_t_first v_t_second r7_0 r7_1 r7_2 r7_3 r7_4 r7_5 r7_6 r7_7 r7_8 r7_9 r7_10 x3 x2 0 _ _ _ hf hw (lv_sub hl [2, 5, 1, 0] rfl)
theorem hX9_allAreBy : yX9_allAreBy.cls = RX9 ∧ yX9_allAreBy.cls ≠ "java/lang/invoke/MethodHandle" ∧ yX9_allAreBy.cls ≠ "java/lang/invoke/VarHandle" ∧ (parseMethodDescriptor yX9_allAreBy.desc).map (fun d => d.parameters.length) = some 2 := by decide +kernel
set_option maxHeartbeats 4000000 in
set_option maxRecDepth 100000 in
theorem mX9_allAreBy (l : Launch) (E : gE) (o_t : Nat) (a_t : (Nat → Nat)) (v_t_count : Int32) (f_t_breaths : (Nat → Int32)) (f_t_flews : (Nat → Int32)) (x1 : Int32) (x2 : Int32) (rv : Int32) (hf : fX9_allAreBy v_t_count f_t_breaths f_t_flews x1 x2 = some rv) {sz : Nat} : gMi l yX9_allAreBy (gW yX9_allAreBy cX9_allAreBy 4 (some .boolean)) ({ frames := 1, cells := 0, slots := 0, locals := 13 } : Room) E [.ref o_t, .int x1, .int x2] (wX9_allAreBy E o_t a_t v_t_count f_t_breaths f_t_flews) sz rv (wX9_allAreBy E o_t a_t v_t_count f_t_breaths f_t_flews) := by
  refine g_openZ (own := RX9) (by decide) rfl (Nat.le_of_ble_eq_true rfl) (fun p e s m args below meth cd Q A hx hb hml hown hG hK hA hret hw ls hl => ?_)
  have hl : lv_has ls 4 [(0, .ref o_t), (1, .int x1), (2, .int x2)] := hl
  have hret1 : ∀ (t : Int32) (H : Heap) (locs : List Loc) (pc : Nat) (ls : Array Slot), some t = some rv → t &&& 1 = t → gS E A s.heap (wX9_allAreBy E o_t a_t v_t_count f_t_breaths f_t_flews) H locs → decode cX9_allAreBy pc = .ok (.ireturn, 1) → W p l e ({ frames := 1, cells := 0, slots := 0, locals := 13 } : Room) s m args below meth cd H locs 0 0 Q (F0 m pc ls [.int t]) := by
    intro t H locs pc ls h hz hw hd
    obtain rfl : t = rv := Option.some.inj h
    exact hret H locs pc ls hz hw hd
  have B45 : ∀ (H : Heap) (locs : List Loc) (ls : Array Slot), fX9_allAreBy_b45 = some rv → gS E A s.heap (wX9_allAreBy E o_t a_t v_t_count f_t_breaths f_t_flews) H locs → lv_has ls 4 [] → W p l e ({ frames := 1, cells := 0, slots := 0, locals := 13 } : Room) s m args below meth cd H locs 0 0 Q (F0 m 45 ls []) := by
    intro   H locs ls hf hw hl
    refine lv_iconst (v := 1) hx hb dX9_allAreBy_45 k_i1 ?_
    obtain ⟨hz1, hf⟩ := gZ_s hf
    exact hret1 1 _ _ _ _ hf hz1 hw dX9_allAreBy_46
  have B2 : ∀ n : Nat, ∀ (x1 : Int32) (x2 : Int32) (x3 : Int32) (H : Heap) (locs : List Loc) (ls : Array Slot), fX9_allAreBy_b2 v_t_count f_t_breaths f_t_flews n x1 x2 x3 = some rv → gS E A s.heap (wX9_allAreBy E o_t a_t v_t_count f_t_breaths f_t_flews) H locs → lv_has ls 4 [(0, .ref o_t), (1, .int x1), (2, .int x2), (3, .int x3)] → W p l e ({ frames := 1, cells := 0, slots := 0, locals := 13 } : Room) s m args below meth cd H locs 0 0 Q (F0 m 2 ls []) := by
    intro n
    induction n with
    | zero => intro x1 x2 x3 H locs ls hf hw hl; exact g_no hf
    | succ n ih =>
      intro x1 x2 x3 H locs ls hf hw hl
      refine lv_iload_n hx hb dX9_allAreBy_2 rfl (lv_at hl 3 rfl) ?_
      refine lv_aload_n hx hb dX9_allAreBy_3 rfl (lv_at hl 0 rfl) ?_
      refine g_get hx hb hG hown hK hw inlX9 (ci := 7) rfl 0 2 (Nat.le_of_ble_eq_true rfl) rfl rfl wd_3_22 dX9_allAreBy_4 ?_
      refine lv_icmp_ge (tgt := 45) hx hb dX9_allAreBy_7 (by decide) (fun hc => ?_) (fun hc => ?_)
      · have hf := g_t hc hf
        exact B45 _ _ _ hf hw (lv_sub hl [] rfl)
      · have hf := g_f hc hf
        refine lv_iload_n hx hb dX9_allAreBy_10 rfl (lv_at hl 3 rfl) ?_
        refine lv_bipush (v := 8) hx hb dX9_allAreBy_11 k_b8 ?_
        refine lv_icmp_ge (tgt := 45) hx hb dX9_allAreBy_13 (by decide) (fun hc => ?_) (fun hc => ?_)
        · have hf := g_t hc hf
          exact B45 _ _ _ hf hw (lv_sub hl [] rfl)
        · have hf := g_f hc hf
          refine lv_aload_n hx hb dX9_allAreBy_16 rfl (lv_at hl 0 rfl) ?_
          refine g_get hx hb hG hown hK hw inlX9 (ci := 7) rfl 0 0 (Nat.le_of_ble_eq_true rfl) rfl rfl wd_3_20 dX9_allAreBy_17 ?_
          refine lv_iload_n hx hb dX9_allAreBy_20 rfl (lv_at hl 3 rfl) ?_
          obtain ⟨hi2, hf⟩ := gA_s hf
          refine g_iald hx hb hK hw 1 rfl hi2 dX9_allAreBy_21 ?_
          refine lv_iload_n hx hb dX9_allAreBy_22 rfl (lv_at hl 1 rfl) ?_
          refine lv_imul hx hb dX9_allAreBy_23 ?_
          refine lv_iload_n hx hb dX9_allAreBy_24 rfl (lv_at hl 2 rfl) ?_
          refine va_mmin hx hb (hml.trans hl.1.symm) hown (hG _ wd_32_3) (hG _ wd_18_4) (hG _ wd_18_5) (hG _ wd_18_6) (Nat.le_of_ble_eq_true rfl) (Nat.le_of_ble_eq_true rfl) (Nat.zero_le _) (Nat.zero_le _) dX9_allAreBy_25 ?_
          refine lv_aload_n hx hb dX9_allAreBy_28 rfl (lv_at hl 0 rfl) ?_
          refine g_get hx hb hG hown hK hw inlX9 (ci := 7) rfl 0 1 (Nat.le_of_ble_eq_true rfl) rfl rfl wd_3_21 dX9_allAreBy_29 ?_
          refine lv_iload_n hx hb dX9_allAreBy_32 rfl (lv_at hl 3 rfl) ?_
          obtain ⟨hi3, hf⟩ := gA_s hf
          refine g_iald hx hb hK hw 2 rfl hi3 dX9_allAreBy_33 ?_
          refine lv_icmp_eq (tgt := 39) hx hb dX9_allAreBy_34 (by decide) (fun hc => ?_) (fun hc => ?_)
          · have hf := g_t hc hf
            refine lv_iinc (lv' := [(3, .int (x3 + 1)), (0, .ref o_t), (1, .int x1), (2, .int x2)]) hx hb dX9_allAreBy_39 hl (k := 3) rfl (k_inc1 _) (Nat.le_of_ble_eq_true rfl) rfl (fun ls hl => ?_)
            refine lv_goto (tgt := 2) hx hb dX9_allAreBy_42 (by decide) ?_
            exact ih x1 x2 (x3 + 1) _ _ _ hf hw (lv_sub hl [1, 2, 3, 0] rfl)
          · have hf := g_f hc hf
            refine lv_iconst (v := 0) hx hb dX9_allAreBy_37 k_i0 ?_
            obtain ⟨hz4, hf⟩ := gZ_s hf
            exact hret1 0 _ _ _ _ hf hz4 hw dX9_allAreBy_38
  refine lv_iconst (v := 0) hx hb dX9_allAreBy_0 k_i0 ?_
  refine lv_istore_n (lv' := [(3, .int 0), (0, .ref o_t), (1, .int x1), (2, .int x2)]) hx hb dX9_allAreBy_1 rfl hl (Nat.le_of_ble_eq_true rfl) rfl (fun ls hl => ?_)
  exact B2 1000 x1 x2 0 _ _ _ hf hw (lv_sub hl [1, 2, 3, 0] rfl)
theorem hX2_gather : yX2_gather.cls = RX2 ∧ yX2_gather.cls ≠ "java/lang/invoke/MethodHandle" ∧ yX2_gather.cls ≠ "java/lang/invoke/VarHandle" ∧ (parseMethodDescriptor yX2_gather.desc).map (fun d => d.parameters.length) = some 1 := by decide +kernel
set_option maxHeartbeats 4000000 in
set_option maxRecDepth 100000 in
theorem mX2_gather (l : Launch) (E : gE) (o_p0 : Nat) (a_p0 : (Nat → Nat)) (o_t : Nat) (a_t : (Nat → Nat)) (v_p0_count : Int32) (v_t_count : Int32) (f_p0_breaths : (Nat → Int32)) (f_p0_flews : (Nat → Int32)) (f_t_twos : (Nat → Int32)) (z_t_count : Int32) (z_t_twos : (Nat → Int32)) (hf : fX2_gather v_p0_count v_t_count f_p0_breaths f_p0_flews f_t_twos = some (z_t_count, z_t_twos)) {sz : Nat} : gMv l yX2_gather (gW yX2_gather cX2_gather 4 none) ({ frames := 2, cells := 0, slots := 0, locals := 36 } : Room) E [.ref o_t, .ref o_p0] (wX2_gather E o_p0 a_p0 o_t a_t v_p0_count v_t_count f_p0_breaths f_p0_flews f_t_twos) sz (wX2_gather E o_p0 a_p0 o_t a_t v_p0_count z_t_count f_p0_breaths f_p0_flews z_t_twos) := by
  refine g_openV (own := RX2) (by decide) rfl (Nat.le_of_ble_eq_true rfl) (fun p e s m args below meth cd Q A hx hb hml hown hG hK hA hret hw ls hl => ?_)
  have hl : lv_has ls 4 [(0, .ref o_t), (1, .ref o_p0)] := hl
  have hret1 : ∀ (t : Int32 × (Nat → Int32)) (H : Heap) (locs : List Loc) (pc : Nat) (ls : Array Slot), some t = some (z_t_count, z_t_twos) → gS E A s.heap (wX2_gather E o_p0 a_p0 o_t a_t v_p0_count t.1 f_p0_breaths f_p0_flews t.2) H locs → decode cX2_gather pc = .ok (.return_, 1) → W p l e ({ frames := 2, cells := 0, slots := 0, locals := 36 } : Room) s m args below meth cd H locs 0 0 Q (F0 m pc ls []) := by
    intro t H locs pc ls h hw hd
    obtain rfl : t = (z_t_count, z_t_twos) := Option.some.inj h
    exact hret H locs pc ls hw hd
  have B67 : ∀ (K15 : Int32 → (Nat → Int32) → Int32 → Int32 → Option (Int32 × (Nat → Int32))) (hK15 : ∀ (v_t_count : Int32) (f_t_twos : (Nat → Int32)) (x2 : Int32) (x3 : Int32) (H : Heap) (locs : List Loc) (ls : Array Slot), K15 v_t_count f_t_twos x2 x3 = some (z_t_count, z_t_twos) → gS E A s.heap (wX2_gather E o_p0 a_p0 o_t a_t v_p0_count v_t_count f_p0_breaths f_p0_flews f_t_twos) H locs → lv_has ls 4 [(0, .ref o_t), (1, .ref o_p0), (2, .int x2), (3, .int x3)] → W p l e ({ frames := 2, cells := 0, slots := 0, locals := 36 } : Room) s m args below meth cd H locs 0 0 Q (F0 m 15 ls [])), ∀ (v_t_count : Int32) (f_t_twos : (Nat → Int32)) (x2 : Int32) (x3 : Int32) (H : Heap) (locs : List Loc) (ls : Array Slot), fX2_gather_b67 K15 v_p0_count f_p0_breaths f_p0_flews v_t_count f_t_twos x2 x3 = some (z_t_count, z_t_twos) → gS E A s.heap (wX2_gather E o_p0 a_p0 o_t a_t v_p0_count v_t_count f_p0_breaths f_p0_flews f_t_twos) H locs → lv_has ls 4 [(0, .ref o_t), (1, .ref o_p0), (2, .int x2), (3, .int x3)] → W p l e ({ frames := 2, cells := 0, slots := 0, locals := 36 } : Room) s m args below meth cd H locs 0 0 Q (F0 m 67 ls []) := by
    intro K15 hK15 v_t_count f_t_twos x2 x3 H locs ls hf hw hl
    refine lv_iinc (lv' := [(3, .int (x3 + 1)), (0, .ref o_t), (1, .ref o_p0), (2, .int x2)]) hx hb dX2_gather_67 hl (k := 3) rfl (k_inc1 _) (Nat.le_of_ble_eq_true rfl) rfl (fun ls hl => ?_)
    refine lv_goto (tgt := 15) hx hb dX2_gather_70 (by decide) ?_
    exact hK15 v_t_count f_t_twos x2 (x3 + 1) _ _ _ hf hw (lv_sub hl [1, 2, 3, 0] rfl)
  have B15 : ∀ (K7 : Int32 → (Nat → Int32) → Int32 → Option (Int32 × (Nat → Int32))) (hK7 : ∀ (v_t_count : Int32) (f_t_twos : (Nat → Int32)) (x2 : Int32) (H : Heap) (locs : List Loc) (ls : Array Slot), K7 v_t_count f_t_twos x2 = some (z_t_count, z_t_twos) → gS E A s.heap (wX2_gather E o_p0 a_p0 o_t a_t v_p0_count v_t_count f_p0_breaths f_p0_flews f_t_twos) H locs → lv_has ls 4 [(0, .ref o_t), (1, .ref o_p0), (2, .int x2)] → W p l e ({ frames := 2, cells := 0, slots := 0, locals := 36 } : Room) s m args below meth cd H locs 0 0 Q (F0 m 7 ls [])), ∀ n : Nat, ∀ (v_t_count : Int32) (f_t_twos : (Nat → Int32)) (x2 : Int32) (x3 : Int32) (H : Heap) (locs : List Loc) (ls : Array Slot), fX2_gather_b15 K7 v_p0_count f_p0_breaths f_p0_flews n v_t_count f_t_twos x2 x3 = some (z_t_count, z_t_twos) → gS E A s.heap (wX2_gather E o_p0 a_p0 o_t a_t v_p0_count v_t_count f_p0_breaths f_p0_flews f_t_twos) H locs → lv_has ls 4 [(0, .ref o_t), (1, .ref o_p0), (2, .int x2), (3, .int x3)] → W p l e ({ frames := 2, cells := 0, slots := 0, locals := 36 } : Room) s m args below meth cd H locs 0 0 Q (F0 m 15 ls []) := by
    intro K7 hK7
    intro n
    induction n with
    | zero => intro v_t_count f_t_twos x2 x3 H locs ls hf hw hl; exact g_no hf
    | succ n ih =>
      intro v_t_count f_t_twos x2 x3 H locs ls hf hw hl
      refine lv_iload_n hx hb dX2_gather_15 rfl (lv_at hl 3 rfl) ?_
      refine lv_bipush (v := 40) hx hb dX2_gather_16 k_b40 ?_
      refine lv_icmp_gt (tgt := 73) hx hb dX2_gather_18 (by decide) (fun hc => ?_) (fun hc => ?_)
      · have hf := g_t hc hf
        refine lv_iinc (lv' := [(2, .int (x2 + 1)), (0, .ref o_t), (1, .ref o_p0), (3, .int x3)]) hx hb dX2_gather_73 hl (k := 2) rfl (k_inc1 _) (Nat.le_of_ble_eq_true rfl) rfl (fun ls hl => ?_)
        refine lv_goto (tgt := 7) hx hb dX2_gather_76 (by decide) ?_
        exact hK7 v_t_count f_t_twos (x2 + 1) _ _ _ hf hw (lv_sub hl [1, 2, 0] rfl)
      · have hf := g_f hc hf
        refine lv_aload_n hx hb dX2_gather_21 rfl (lv_at hl 0 rfl) ?_
        refine g_get hx hb hG hown hK hw inlX2 (ci := 1) rfl 3 1 (Nat.le_of_ble_eq_true rfl) rfl rfl wd_5_5 dX2_gather_22 ?_
        refine lv_aload_n hx hb dX2_gather_25 rfl (lv_at hl 0 rfl) ?_
        refine g_get hx hb hG hown hK hw inlX2 (ci := 1) rfl 3 0 (Nat.le_of_ble_eq_true rfl) rfl rfl wd_5_4 dX2_gather_26 ?_
        refine g_alen hx hb hK hw 4 rfl dX2_gather_29 ?_
        refine lv_icmp_ge (tgt := 67) hx hb dX2_gather_30 (by decide) (fun hc => ?_) (fun hc => ?_)
        · have hf := g_t hc hf
          exact B67 (fX2_gather_b15 K7 v_p0_count f_p0_breaths f_p0_flews n) ih v_t_count f_t_twos x2 x3 _ _ _ hf hw (lv_sub hl [0, 1, 2, 3] rfl)
        · have hf := g_f hc hf
          refine lv_aload_n hx hb dX2_gather_33 rfl (lv_at hl 1 rfl) ?_
          refine lv_iload_n hx hb dX2_gather_34 rfl (lv_at hl 2 rfl) ?_
          refine lv_iload_n hx hb dX2_gather_35 rfl (lv_at hl 3 rfl) ?_
          obtain ⟨r1, hc2, hf⟩ := gB_s hf
          refine g_ki0 (is := [0, 1, 2]) hw hA (g_rV hx hb hml hG hown hK hw (is := [0, 1, 2]) rfl (by decide) (mX9_allAreBy l E o_p0 a_p0 v_p0_count f_p0_breaths f_p0_flews x2 x3 r1 hc2) wd_31_23 wd_32_0 wd_32_1 wd_3_0 wd_32_2 hX9_allAreBy g_allgood ⟨rfl, rfl⟩ ⟨Nat.le_of_ble_eq_true rfl, Nat.le_of_ble_eq_true rfl⟩ ⟨Nat.zero_le _, Nat.zero_le _⟩ (ci := 7) (q0 := 0) rfl rfl rfl rfl hl.1 rfl (Nat.le_of_ble_eq_true rfl) dX2_gather_36) rfl (fun H locs hw => ?_)
          refine lv_if_eq (tgt := 67) hx hb dX2_gather_39 (by decide) (fun hc => ?_) (fun hc => ?_)
          · have hf := g_t hc hf
            exact B67 (fX2_gather_b15 K7 v_p0_count f_p0_breaths f_p0_flews n) ih v_t_count f_t_twos x2 x3 _ _ _ hf hw (lv_sub hl [0, 1, 2, 3] rfl)
          · have hf := g_f hc hf
            refine lv_aload_n hx hb dX2_gather_42 rfl (lv_at hl 0 rfl) ?_
            refine g_get hx hb hG hown hK hw inlX2 (ci := 1) rfl 3 0 (Nat.le_of_ble_eq_true rfl) rfl rfl wd_5_4 dX2_gather_43 ?_
            refine lv_aload_n hx hb dX2_gather_46 rfl (lv_at hl 0 rfl) ?_
            refine g_get hx hb hG hown hK hw inlX2 (ci := 1) rfl 3 1 (Nat.le_of_ble_eq_true rfl) rfl rfl wd_5_5 dX2_gather_47 ?_
            refine lv_bipush (v := 100) hx hb dX2_gather_50 k_b100 ?_
            refine lv_iload_n hx hb dX2_gather_52 rfl (lv_at hl 2 rfl) ?_
            refine lv_imul hx hb dX2_gather_53 ?_
            refine lv_iload_n hx hb dX2_gather_54 rfl (lv_at hl 3 rfl) ?_
            refine lv_iadd hx hb dX2_gather_55 ?_
            obtain ⟨hi3, hf⟩ := gA_s hf
            refine g_iast (ws' := (wX2_gather E o_p0 a_p0 o_t a_t v_p0_count v_t_count f_p0_breaths f_p0_flews (upd f_t_twos (Int32.toNatClampNeg v_t_count) ((100 * x2) + x3)))) hx hb hK hw 4 rfl hi3 rfl dX2_gather_56 (fun H locs hw => ?_)
            refine lv_aload_n hx hb dX2_gather_57 rfl (lv_at hl 0 rfl) ?_
            refine lv_dup hx hb dX2_gather_58 rfl ?_
            refine g_get hx hb hG hown hK hw inlX2 (ci := 1) rfl 3 1 (Nat.le_of_ble_eq_true rfl) rfl rfl wd_5_5 dX2_gather_59 ?_
            refine lv_iconst (v := 1) hx hb dX2_gather_62 k_i1 ?_
            refine lv_iadd hx hb dX2_gather_63 ?_
            refine g_put (ws' := (wX2_gather E o_p0 a_p0 o_t a_t v_p0_count (v_t_count + 1) f_p0_breaths f_p0_flews (upd f_t_twos (Int32.toNatClampNeg v_t_count) ((100 * x2) + x3)))) hx hb hG hown hK hw inlX2 tyX2_ok nmX2 (ci := 1) rfl 3 1 (Nat.le_of_ble_eq_true rfl) rfl wd_5_5 rfl rfl rfl (Nat.le_of_ble_eq_true rfl) rfl dX2_gather_64 (fun H locs hw => ?_)
            exact B67 (fX2_gather_b15 K7 v_p0_count f_p0_breaths f_p0_flews n) ih (v_t_count + 1) (upd f_t_twos (Int32.toNatClampNeg v_t_count) ((100 * x2) + x3)) x2 x3 _ _ _ hf hw (lv_sub hl [0, 1, 2, 3] rfl)
  have B7 : ∀ n : Nat, ∀ (v_t_count : Int32) (f_t_twos : (Nat → Int32)) (x2 : Int32) (H : Heap) (locs : List Loc) (ls : Array Slot), fX2_gather_b7 v_p0_count f_p0_breaths f_p0_flews n v_t_count f_t_twos x2 = some (z_t_count, z_t_twos) → gS E A s.heap (wX2_gather E o_p0 a_p0 o_t a_t v_p0_count v_t_count f_p0_breaths f_p0_flews f_t_twos) H locs → lv_has ls 4 [(0, .ref o_t), (1, .ref o_p0), (2, .int x2)] → W p l e ({ frames := 2, cells := 0, slots := 0, locals := 36 } : Room) s m args below meth cd H locs 0 0 Q (F0 m 7 ls []) := by
    intro n
    induction n with
    | zero => intro v_t_count f_t_twos x2 H locs ls hf hw hl; exact g_no hf
    | succ n ih =>
      intro v_t_count f_t_twos x2 H locs ls hf hw hl
      refine lv_iload_n hx hb dX2_gather_7 rfl (lv_at hl 2 rfl) ?_
      refine lv_bipush (v := 9) hx hb dX2_gather_8 k_b9 ?_
      refine lv_icmp_gt (tgt := 79) hx hb dX2_gather_10 (by decide) (fun hc => ?_) (fun hc => ?_)
      · have hf := g_t hc hf
        exact hret1 (v_t_count, f_t_twos) _ _ _ _ hf hw dX2_gather_79
      · have hf := g_f hc hf
        refine lv_iconst (v := 1) hx hb dX2_gather_13 k_i1 ?_
        refine lv_istore_n (lv' := [(3, .int 1), (0, .ref o_t), (1, .ref o_p0), (2, .int x2)]) hx hb dX2_gather_14 rfl hl (Nat.le_of_ble_eq_true rfl) rfl (fun ls hl => ?_)
        exact B15 (fX2_gather_b7 v_p0_count f_p0_breaths f_p0_flews n) ih 1000 v_t_count f_t_twos x2 1 _ _ _ hf hw (lv_sub hl [1, 2, 3, 0] rfl)
  refine lv_aload_n hx hb dX2_gather_0 rfl (lv_at hl 0 rfl) ?_
  refine lv_iconst (v := 0) hx hb dX2_gather_1 k_i0 ?_
  refine g_put (ws' := (wX2_gather E o_p0 a_p0 o_t a_t v_p0_count 0 f_p0_breaths f_p0_flews f_t_twos)) hx hb hG hown hK hw inlX2 tyX2_ok nmX2 (ci := 1) rfl 3 1 (Nat.le_of_ble_eq_true rfl) rfl wd_5_5 rfl rfl rfl (Nat.le_of_ble_eq_true rfl) rfl dX2_gather_2 (fun H locs hw => ?_)
  refine lv_iconst (v := 1) hx hb dX2_gather_5 k_i1 ?_
  refine lv_istore_n (lv' := [(2, .int 1), (0, .ref o_t), (1, .ref o_p0)]) hx hb dX2_gather_6 rfl hl (Nat.le_of_ble_eq_true rfl) rfl (fun ls hl => ?_)
  exact B7 1000 0 f_t_twos 1 _ _ _ hf hw (lv_sub hl [1, 2, 0] rfl)
