theorem hX10_family : yX10_family.cls = RX10 ∧ yX10_family.cls ≠ "java/lang/invoke/MethodHandle" ∧ yX10_family.cls ≠ "java/lang/invoke/VarHandle" ∧ (parseMethodDescriptor yX10_family.desc).map (fun d => d.parameters.length) = some 4 := by decide +kernel
set_option maxHeartbeats 4000000 in
set_option maxRecDepth 100000 in
theorem mX10_family (l : Launch) (E : gE) (o_t : Nat) (o_t_firstImage : Nat) (o_t_secondImage : Nat) (o_t_pad : Nat) (o_t_hours : Nat) (o_t_growth : Nat) (o_t_flight : Nat) (o_t_draws : Nat) (o_t_now : Nat) (o_t_now_sights : Nat) (o_t_now_meadow : Nat) (a_t_now_meadow : (Nat → Nat)) (v_t_imagesKept : Int32) (v_t_now_meadow_families : Int32) (v_t_now_meadow_wind : Int32) (v_t_now_meadow_force : Int32) (v_t_now_meadow_rain : Int32) (v_t_now_meadow_lost : Int32) (v_t_now_meadow_hour : Int32) (f_t_now_meadow_home : (Nat → Int32)) (f_t_now_meadow_seeds : (Nat → Int32)) (f_t_now_meadow_lungs : (Nat → Int32)) (f_t_now_meadow_blown : (Nat → Int32)) (x1 : Int32) (x2 : Int32) (x3 : Int32) (x4 : Int32) (rv : Int32) (z_t_now_meadow_families : Int32) (z_t_now_meadow_home : (Nat → Int32)) (z_t_now_meadow_seeds : (Nat → Int32)) (z_t_now_meadow_lungs : (Nat → Int32)) (z_t_now_meadow_blown : (Nat → Int32)) (hf : fX10_family v_t_now_meadow_families f_t_now_meadow_home f_t_now_meadow_seeds f_t_now_meadow_lungs f_t_now_meadow_blown x1 x2 x3 x4 = some (rv, z_t_now_meadow_families, z_t_now_meadow_home, z_t_now_meadow_seeds, z_t_now_meadow_lungs, z_t_now_meadow_blown)) {sz : Nat} : gMi l yX10_family (gW yX10_family cX10_family 6 (some .int)) ({ frames := 2, cells := 0, slots := 0, locals := 40 } : Room) E [.ref o_t, .int x1, .int x2, .int x3, .int x4] (wX10_family E o_t o_t_firstImage o_t_secondImage o_t_pad o_t_hours o_t_growth o_t_flight o_t_draws o_t_now o_t_now_sights o_t_now_meadow a_t_now_meadow v_t_imagesKept v_t_now_meadow_families v_t_now_meadow_wind v_t_now_meadow_force v_t_now_meadow_rain v_t_now_meadow_lost v_t_now_meadow_hour f_t_now_meadow_home f_t_now_meadow_seeds f_t_now_meadow_lungs f_t_now_meadow_blown) sz rv (wX10_family E o_t o_t_firstImage o_t_secondImage o_t_pad o_t_hours o_t_growth o_t_flight o_t_draws o_t_now o_t_now_sights o_t_now_meadow a_t_now_meadow v_t_imagesKept z_t_now_meadow_families v_t_now_meadow_wind v_t_now_meadow_force v_t_now_meadow_rain v_t_now_meadow_lost v_t_now_meadow_hour z_t_now_meadow_home z_t_now_meadow_seeds z_t_now_meadow_lungs z_t_now_meadow_blown) := by
  refine g_openI (own := RX10) (by decide) rfl (Nat.le_of_ble_eq_true rfl) (fun p e s m args below meth cd Q A hx hb hml hown hG hK hA hret hw ls hl => ?_)
  have hl : lv_has ls 6 [(0, .ref o_t), (1, .int x1), (2, .int x2), (3, .int x3), (4, .int x4)] := hl
  have hret1 : ∀ (t : Int32 × Int32 × (Nat → Int32) × (Nat → Int32) × (Nat → Int32) × (Nat → Int32)) (H : Heap) (locs : List Loc) (pc : Nat) (ls : Array Slot), some t = some (rv, z_t_now_meadow_families, z_t_now_meadow_home, z_t_now_meadow_seeds, z_t_now_meadow_lungs, z_t_now_meadow_blown) → gS E A s.heap (wX10_family E o_t o_t_firstImage o_t_secondImage o_t_pad o_t_hours o_t_growth o_t_flight o_t_draws o_t_now o_t_now_sights o_t_now_meadow a_t_now_meadow v_t_imagesKept t.2.1 v_t_now_meadow_wind v_t_now_meadow_force v_t_now_meadow_rain v_t_now_meadow_lost v_t_now_meadow_hour t.2.2.1 t.2.2.2.1 t.2.2.2.2.1 t.2.2.2.2.2) H locs → decode cX10_family pc = .ok (.ireturn, 1) → W p l e ({ frames := 2, cells := 0, slots := 0, locals := 40 } : Room) s m args below meth cd H locs 0 0 Q (F0 m pc ls [.int t.1]) := by
    intro t H locs pc ls h hw hd
    obtain rfl : t = (rv, z_t_now_meadow_families, z_t_now_meadow_home, z_t_now_meadow_seeds, z_t_now_meadow_lungs, z_t_now_meadow_blown) := Option.some.inj h
    exact hret H locs pc ls hw hd
  have B39 : ∀ (v_t_now_meadow_families : Int32) (f_t_now_meadow_home : (Nat → Int32)) (f_t_now_meadow_seeds : (Nat → Int32)) (f_t_now_meadow_lungs : (Nat → Int32)) (f_t_now_meadow_blown : (Nat → Int32)) (H : Heap) (locs : List Loc) (ls : Array Slot), fX10_family_b39 v_t_now_meadow_families f_t_now_meadow_home f_t_now_meadow_seeds f_t_now_meadow_lungs f_t_now_meadow_blown = some (rv, z_t_now_meadow_families, z_t_now_meadow_home, z_t_now_meadow_seeds, z_t_now_meadow_lungs, z_t_now_meadow_blown) → gS E A s.heap (wX10_family E o_t o_t_firstImage o_t_secondImage o_t_pad o_t_hours o_t_growth o_t_flight o_t_draws o_t_now o_t_now_sights o_t_now_meadow a_t_now_meadow v_t_imagesKept v_t_now_meadow_families v_t_now_meadow_wind v_t_now_meadow_force v_t_now_meadow_rain v_t_now_meadow_lost v_t_now_meadow_hour f_t_now_meadow_home f_t_now_meadow_seeds f_t_now_meadow_lungs f_t_now_meadow_blown) H locs → lv_has ls 6 [] → W p l e ({ frames := 2, cells := 0, slots := 0, locals := 40 } : Room) s m args below meth cd H locs 0 0 Q (F0 m 39 ls []) := by
    intro  v_t_now_meadow_families f_t_now_meadow_home f_t_now_meadow_seeds f_t_now_meadow_lungs f_t_now_meadow_blown H locs ls hf hw hl
    refine lv_bipush (v := -2) hx hb dX10_family_39 k_bm2 ?_
    exact hret1 ((-2), v_t_now_meadow_families, f_t_now_meadow_home, f_t_now_meadow_seeds, f_t_now_meadow_lungs, f_t_now_meadow_blown) _ _ _ _ hf hw dX10_family_41
  have B70 : ∀ (v_t_now_meadow_families : Int32) (f_t_now_meadow_home : (Nat → Int32)) (f_t_now_meadow_seeds : (Nat → Int32)) (f_t_now_meadow_lungs : (Nat → Int32)) (f_t_now_meadow_blown : (Nat → Int32)) (x1 : Int32) (x2 : Int32) (x3 : Int32) (x4 : Int32) (H : Heap) (locs : List Loc) (ls : Array Slot), fX10_family_b70 v_t_now_meadow_families f_t_now_meadow_home f_t_now_meadow_seeds f_t_now_meadow_lungs f_t_now_meadow_blown x1 x2 x3 x4 = some (rv, z_t_now_meadow_families, z_t_now_meadow_home, z_t_now_meadow_seeds, z_t_now_meadow_lungs, z_t_now_meadow_blown) → gS E A s.heap (wX10_family E o_t o_t_firstImage o_t_secondImage o_t_pad o_t_hours o_t_growth o_t_flight o_t_draws o_t_now o_t_now_sights o_t_now_meadow a_t_now_meadow v_t_imagesKept v_t_now_meadow_families v_t_now_meadow_wind v_t_now_meadow_force v_t_now_meadow_rain v_t_now_meadow_lost v_t_now_meadow_hour f_t_now_meadow_home f_t_now_meadow_seeds f_t_now_meadow_lungs f_t_now_meadow_blown) H locs → lv_has ls 6 [(0, .ref o_t), (1, .int x1), (2, .int x2), (3, .int x3), (4, .int x4)] → W p l e ({ frames := 2, cells := 0, slots := 0, locals := 40 } : Room) s m args below meth cd H locs 0 0 Q (F0 m 70 ls []) := by
    intro  v_t_now_meadow_families f_t_now_meadow_home f_t_now_meadow_seeds f_t_now_meadow_lungs f_t_now_meadow_blown x1 x2 x3 x4 H locs ls hf hw hl
    refine lv_aload_n hx hb dX10_family_70 rfl (lv_at hl 0 rfl) ?_
    refine g_get hx hb hG hown hK hw inlX10 (ci := 8) rfl 0 0 (Nat.le_of_ble_eq_true rfl) rfl rfl wd_1_15 dX10_family_71 ?_
    refine g_get hx hb hG hown hK hw inlX4 (ci := 3) rfl 1 0 (Nat.le_of_ble_eq_true rfl) rfl rfl wd_7_0 dX10_family_74 ?_
    refine lv_iload_n hx hb dX10_family_77 rfl (lv_at hl 1 rfl) ?_
    refine lv_iload_n hx hb dX10_family_78 rfl (lv_at hl 2 rfl) ?_
    refine lv_iload_n hx hb dX10_family_79 rfl (lv_at hl 3 rfl) ?_
    refine lv_iload hx hb dX10_family_80 (lv_at hl 4 rfl) ?_
    obtain ⟨⟨r1_0, r1_1, r1_2, r1_3, r1_4⟩, hc2, hf⟩ := gB_s hf
    refine g_kv (is := [2, 3, 4, 5, 6]) (isR := [0, 1]) (nW := 7) (w1 := (wX6_settle E o_t_now_meadow a_t_now_meadow r1_0 v_t_now_meadow_wind v_t_now_meadow_force v_t_now_meadow_rain v_t_now_meadow_lost v_t_now_meadow_hour r1_1 r1_2 r1_3 r1_4)) (ws' := (wX10_family E o_t o_t_firstImage o_t_secondImage o_t_pad o_t_hours o_t_growth o_t_flight o_t_draws o_t_now o_t_now_sights o_t_now_meadow a_t_now_meadow v_t_imagesKept r1_0 v_t_now_meadow_wind v_t_now_meadow_force v_t_now_meadow_rain v_t_now_meadow_lost v_t_now_meadow_hour r1_1 r1_2 r1_3 r1_4)) hw hA (g_rV hx hb hml hG hown hK hw (is := [2, 3, 4, 5, 6]) rfl (by decide) (mX6_settle l E o_t_now_meadow a_t_now_meadow v_t_now_meadow_families v_t_now_meadow_wind v_t_now_meadow_force v_t_now_meadow_rain v_t_now_meadow_lost v_t_now_meadow_hour f_t_now_meadow_home f_t_now_meadow_seeds f_t_now_meadow_lungs f_t_now_meadow_blown x1 x2 x3 x4 r1_0 r1_1 r1_2 r1_3 r1_4 hc2) wd_7_11 wd_7_12 wd_7_13 wd_2_20 wd_7_14 hX6_settle g_allgood ⟨rfl, rfl⟩ ⟨Nat.le_of_ble_eq_true rfl, Nat.le_of_ble_eq_true rfl⟩ ⟨Nat.zero_le _, Nat.zero_le _⟩ (ci := 5) (q0 := 0) rfl rfl rfl rfl hl.1 rfl (Nat.le_of_ble_eq_true rfl) dX10_family_82) rfl (g_had [o_t_now_meadow, (a_t_now_meadow 0), (a_t_now_meadow 1), (a_t_now_meadow 2), (a_t_now_meadow 3)] rfl rfl) rfl (⟨⟨_, rfl, rfl⟩, ⟨⟨_, rfl, rfl⟩, trivial⟩⟩) rfl rfl (by decide) (fun H locs hw => ?_)
    refine lv_aload_n hx hb dX10_family_85 rfl (lv_at hl 0 rfl) ?_
    refine g_get hx hb hG hown hK hw inlX10 (ci := 8) rfl 0 0 (Nat.le_of_ble_eq_true rfl) rfl rfl wd_1_15 dX10_family_86 ?_
    refine g_get hx hb hG hown hK hw inlX4 (ci := 3) rfl 1 0 (Nat.le_of_ble_eq_true rfl) rfl rfl wd_7_0 dX10_family_89 ?_
    obtain ⟨r3, hc4, hf⟩ := gB_s hf
    refine g_ki0 (is := [2]) hw hA (g_rV hx hb hml hG hown hK hw (is := [2]) rfl (by decide) (mX6_howManyFamilies l E o_t_now_meadow a_t_now_meadow r1_0 v_t_now_meadow_wind v_t_now_meadow_force v_t_now_meadow_rain v_t_now_meadow_lost v_t_now_meadow_hour r3 hc4) wd_7_15 wd_7_16 wd_7_17 wd_2_20 wd_7_18 hX6_howManyFamilies g_allgood ⟨rfl, rfl⟩ ⟨Nat.le_of_ble_eq_true rfl, Nat.le_of_ble_eq_true rfl⟩ ⟨Nat.zero_le _, Nat.zero_le _⟩ (ci := 5) (q0 := 0) rfl rfl rfl rfl hl.1 rfl (Nat.le_of_ble_eq_true rfl) dX10_family_92) rfl (fun H locs hw => ?_)
    exact hret1 (r3, r1_0, r1_1, r1_2, r1_3, r1_4) _ _ _ _ hf hw dX10_family_95
  refine lv_iload_n hx hb dX10_family_0 rfl (lv_at hl 1 rfl) ?_
  refine lv_iconst (v := 0) hx hb dX10_family_1 k_i0 ?_
  refine lv_iconst (v := 5) hx hb dX10_family_2 k_i5 ?_
  obtain ⟨r5, hc6, hf⟩ := gB_s hf
  refine g_ki0 (is := []) hw hA (g_rS hx hb hml hG hown hK hw (is := []) rfl (by decide) (mX10_within l E x1 0 5 r5 hc6) wd_7_1 wd_7_2 wd_1_2 wd_7_3 hX10_within g_allgood ⟨rfl, rfl⟩ ⟨Nat.le_of_ble_eq_true rfl, Nat.le_of_ble_eq_true rfl⟩ ⟨Nat.zero_le _, Nat.zero_le _⟩ rfl hl.1 rfl (Nat.le_of_ble_eq_true rfl) dX10_family_3) rfl (fun H locs hw => ?_)
  refine lv_if_ne (tgt := 11) hx hb dX10_family_6 (by decide) (fun hc => ?_) (fun hc => ?_)
  · have hf := g_f hc hf
    refine lv_iload_n hx hb dX10_family_11 rfl (lv_at hl 2 rfl) ?_
    obtain ⟨r7, hc8, hf⟩ := gB_s hf
    refine g_ki0 (is := []) hw hA (g_rS hx hb hml hG hown hK hw (is := []) rfl (by decide) (mX10_isField l E x2 r7 hc8) wd_7_4 wd_7_5 wd_1_2 wd_7_6 hX10_isField g_allgood ⟨rfl, rfl⟩ ⟨Nat.le_of_ble_eq_true rfl, Nat.le_of_ble_eq_true rfl⟩ ⟨Nat.zero_le _, Nat.zero_le _⟩ rfl hl.1 rfl (Nat.le_of_ble_eq_true rfl) dX10_family_12) rfl (fun H locs hw => ?_)
    refine lv_if_eq (tgt := 39) hx hb dX10_family_15 (by decide) (fun hc => ?_) (fun hc => ?_)
    · have hf := g_t hc hf
      exact B39 v_t_now_meadow_families f_t_now_meadow_home f_t_now_meadow_seeds f_t_now_meadow_lungs f_t_now_meadow_blown _ _ _ hf hw (lv_sub hl [] rfl)
    · have hf := g_f hc hf
      refine lv_iload_n hx hb dX10_family_18 rfl (lv_at hl 3 rfl) ?_
      refine lv_iconst (v := 0) hx hb dX10_family_19 k_i0 ?_
      refine lv_bipush (v := 60) hx hb dX10_family_20 k_b60 ?_
      obtain ⟨r9, hc10, hf⟩ := gB_s hf
      refine g_ki0 (is := []) hw hA (g_rS hx hb hml hG hown hK hw (is := []) rfl (by decide) (mX10_within l E x3 0 60 r9 hc10) wd_7_1 wd_7_2 wd_1_2 wd_7_3 hX10_within g_allgood ⟨rfl, rfl⟩ ⟨Nat.le_of_ble_eq_true rfl, Nat.le_of_ble_eq_true rfl⟩ ⟨Nat.zero_le _, Nat.zero_le _⟩ rfl hl.1 rfl (Nat.le_of_ble_eq_true rfl) dX10_family_22) rfl (fun H locs hw => ?_)
      refine lv_if_eq (tgt := 39) hx hb dX10_family_25 (by decide) (fun hc => ?_) (fun hc => ?_)
      · have hf := g_t hc hf
        exact B39 v_t_now_meadow_families f_t_now_meadow_home f_t_now_meadow_seeds f_t_now_meadow_lungs f_t_now_meadow_blown _ _ _ hf hw (lv_sub hl [] rfl)
      · have hf := g_f hc hf
        refine lv_iload hx hb dX10_family_28 (lv_at hl 4 rfl) ?_
        refine lv_iconst (v := 1) hx hb dX10_family_30 k_i1 ?_
        refine lv_bipush (v := 9) hx hb dX10_family_31 k_b9 ?_
        obtain ⟨r11, hc12, hf⟩ := gB_s hf
        refine g_ki0 (is := []) hw hA (g_rS hx hb hml hG hown hK hw (is := []) rfl (by decide) (mX10_within l E x4 1 9 r11 hc12) wd_7_1 wd_7_2 wd_1_2 wd_7_3 hX10_within g_allgood ⟨rfl, rfl⟩ ⟨Nat.le_of_ble_eq_true rfl, Nat.le_of_ble_eq_true rfl⟩ ⟨Nat.zero_le _, Nat.zero_le _⟩ rfl hl.1 rfl (Nat.le_of_ble_eq_true rfl) dX10_family_33) rfl (fun H locs hw => ?_)
        refine lv_if_ne (tgt := 42) hx hb dX10_family_36 (by decide) (fun hc => ?_) (fun hc => ?_)
        · have hf := g_f hc hf
          refine lv_aload_n hx hb dX10_family_42 rfl (lv_at hl 0 rfl) ?_
          refine g_get hx hb hG hown hK hw inlX10 (ci := 8) rfl 0 0 (Nat.le_of_ble_eq_true rfl) rfl rfl wd_1_15 dX10_family_43 ?_
          refine g_get hx hb hG hown hK hw inlX4 (ci := 3) rfl 1 0 (Nat.le_of_ble_eq_true rfl) rfl rfl wd_7_0 dX10_family_46 ?_
          refine lv_iload_n hx hb dX10_family_49 rfl (lv_at hl 2 rfl) ?_
          obtain ⟨r13, hc14, hf⟩ := gB_s hf
          refine g_ki0 (is := [2, 3]) hw hA (g_rV hx hb hml hG hown hK hw (is := [2, 3]) rfl (by decide) (mX6_familyAt l E o_t_now_meadow a_t_now_meadow v_t_now_meadow_families v_t_now_meadow_wind v_t_now_meadow_force v_t_now_meadow_rain v_t_now_meadow_lost v_t_now_meadow_hour f_t_now_meadow_home x2 r13 hc14) wd_7_7 wd_7_8 wd_7_9 wd_2_20 wd_7_10 hX6_familyAt g_allgood ⟨rfl, rfl⟩ ⟨Nat.le_of_ble_eq_true rfl, Nat.le_of_ble_eq_true rfl⟩ ⟨Nat.zero_le _, Nat.zero_le _⟩ (ci := 5) (q0 := 0) rfl rfl rfl rfl hl.1 rfl (Nat.le_of_ble_eq_true rfl) dX10_family_50) rfl (fun H locs hw => ?_)
          refine lv_istore (lv' := [(5, .int r13), (0, .ref o_t), (1, .int x1), (2, .int x2), (3, .int x3), (4, .int x4)]) hx hb dX10_family_53 hl (Nat.le_of_ble_eq_true rfl) rfl (fun ls hl => ?_)
          refine lv_iload hx hb dX10_family_55 (lv_at hl 0 rfl) ?_
          refine lv_iconst (v := -1) hx hb dX10_family_57 k_im1 ?_
          refine lv_icmp_eq (tgt := 70) hx hb dX10_family_58 (by decide) (fun hc => ?_) (fun hc => ?_)
          · have hf := g_t hc hf
            exact B70 v_t_now_meadow_families f_t_now_meadow_home f_t_now_meadow_seeds f_t_now_meadow_lungs f_t_now_meadow_blown x1 x2 x3 x4 _ _ _ hf hw (lv_sub hl [1, 2, 3, 4, 5] rfl)
          · have hf := g_f hc hf
            refine lv_iload hx hb dX10_family_61 (lv_at hl 0 rfl) ?_
            refine lv_iload_n hx hb dX10_family_63 rfl (lv_at hl 2 rfl) ?_
            refine lv_icmp_eq (tgt := 70) hx hb dX10_family_64 (by decide) (fun hc => ?_) (fun hc => ?_)
            · have hf := g_t hc hf
              exact B70 v_t_now_meadow_families f_t_now_meadow_home f_t_now_meadow_seeds f_t_now_meadow_lungs f_t_now_meadow_blown x1 x2 x3 x4 _ _ _ hf hw (lv_sub hl [1, 2, 3, 4, 5] rfl)
            · have hf := g_f hc hf
              refine lv_bipush (v := -3) hx hb dX10_family_67 k_bm3 ?_
              exact hret1 ((-3), v_t_now_meadow_families, f_t_now_meadow_home, f_t_now_meadow_seeds, f_t_now_meadow_lungs, f_t_now_meadow_blown) _ _ _ _ hf hw dX10_family_69
        · have hf := g_t hc hf
          exact B39 v_t_now_meadow_families f_t_now_meadow_home f_t_now_meadow_seeds f_t_now_meadow_lungs f_t_now_meadow_blown _ _ _ hf hw (lv_sub hl [] rfl)
  · have hf := g_t hc hf
    refine lv_iconst (v := -1) hx hb dX10_family_9 k_im1 ?_
    exact hret1 ((-1), v_t_now_meadow_families, f_t_now_meadow_home, f_t_now_meadow_seeds, f_t_now_meadow_lungs, f_t_now_meadow_blown) _ _ _ _ hf hw dX10_family_10
theorem hX10_leave : yX10_leave.cls = RX10 ∧ yX10_leave.cls ≠ "java/lang/invoke/MethodHandle" ∧ yX10_leave.cls ≠ "java/lang/invoke/VarHandle" ∧ (parseMethodDescriptor yX10_leave.desc).map (fun d => d.parameters.length) = some 1 := by decide +kernel
set_option maxHeartbeats 4000000 in
set_option maxRecDepth 100000 in
theorem mX10_leave (l : Launch) (E : gE) (o_t : Nat) (o_t_firstImage : Nat) (o_t_secondImage : Nat) (o_t_pad : Nat) (o_t_hours : Nat) (o_t_growth : Nat) (o_t_flight : Nat) (o_t_draws : Nat) (o_t_now : Nat) (o_t_now_sights : Nat) (o_t_now_meadow : Nat) (a_t_now_meadow : (Nat → Nat)) (v_t_imagesKept : Int32) (v_t_now_meadow_families : Int32) (v_t_now_meadow_wind : Int32) (v_t_now_meadow_force : Int32) (v_t_now_meadow_rain : Int32) (v_t_now_meadow_lost : Int32) (v_t_now_meadow_hour : Int32) (f_t_now_meadow_home : (Nat → Int32)) (f_t_now_meadow_seeds : (Nat → Int32)) (f_t_now_meadow_ground : (Nat → Int32)) (x1 : Int32) (rv : Int32) (z_t_now_meadow_families : Int32) (z_t_now_meadow_lost : Int32) (z_t_now_meadow_seeds : (Nat → Int32)) (z_t_now_meadow_ground : (Nat → Int32)) (hf : fX10_leave v_t_now_meadow_families v_t_now_meadow_lost f_t_now_meadow_home f_t_now_meadow_seeds f_t_now_meadow_ground x1 = some (rv, z_t_now_meadow_families, z_t_now_meadow_lost, z_t_now_meadow_seeds, z_t_now_meadow_ground)) {sz : Nat} : gMi l yX10_leave (gW yX10_leave cX10_leave 2 (some .int)) ({ frames := 2, cells := 0, slots := 0, locals := 45 } : Room) E [.ref o_t, .int x1] (wX10_leave E o_t o_t_firstImage o_t_secondImage o_t_pad o_t_hours o_t_growth o_t_flight o_t_draws o_t_now o_t_now_sights o_t_now_meadow a_t_now_meadow v_t_imagesKept v_t_now_meadow_families v_t_now_meadow_wind v_t_now_meadow_force v_t_now_meadow_rain v_t_now_meadow_lost v_t_now_meadow_hour f_t_now_meadow_home f_t_now_meadow_seeds f_t_now_meadow_ground) sz rv (wX10_leave E o_t o_t_firstImage o_t_secondImage o_t_pad o_t_hours o_t_growth o_t_flight o_t_draws o_t_now o_t_now_sights o_t_now_meadow a_t_now_meadow v_t_imagesKept z_t_now_meadow_families v_t_now_meadow_wind v_t_now_meadow_force v_t_now_meadow_rain z_t_now_meadow_lost v_t_now_meadow_hour f_t_now_meadow_home z_t_now_meadow_seeds z_t_now_meadow_ground) := by
  refine g_openI (own := RX10) (by decide) rfl (Nat.le_of_ble_eq_true rfl) (fun p e s m args below meth cd Q A hx hb hml hown hG hK hA hret hw ls hl => ?_)
  have hl : lv_has ls 2 [(0, .ref o_t), (1, .int x1)] := hl
  have hret1 : ∀ (t : Int32 × Int32 × Int32 × (Nat → Int32) × (Nat → Int32)) (H : Heap) (locs : List Loc) (pc : Nat) (ls : Array Slot), some t = some (rv, z_t_now_meadow_families, z_t_now_meadow_lost, z_t_now_meadow_seeds, z_t_now_meadow_ground) → gS E A s.heap (wX10_leave E o_t o_t_firstImage o_t_secondImage o_t_pad o_t_hours o_t_growth o_t_flight o_t_draws o_t_now o_t_now_sights o_t_now_meadow a_t_now_meadow v_t_imagesKept t.2.1 v_t_now_meadow_wind v_t_now_meadow_force v_t_now_meadow_rain t.2.2.1 v_t_now_meadow_hour f_t_now_meadow_home t.2.2.2.1 t.2.2.2.2) H locs → decode cX10_leave pc = .ok (.ireturn, 1) → W p l e ({ frames := 2, cells := 0, slots := 0, locals := 45 } : Room) s m args below meth cd H locs 0 0 Q (F0 m pc ls [.int t.1]) := by
    intro t H locs pc ls h hw hd
    obtain rfl : t = (rv, z_t_now_meadow_families, z_t_now_meadow_lost, z_t_now_meadow_seeds, z_t_now_meadow_ground) := Option.some.inj h
    exact hret H locs pc ls hw hd
  refine lv_aload_n hx hb dX10_leave_0 rfl (lv_at hl 0 rfl) ?_
  refine g_get hx hb hG hown hK hw inlX10 (ci := 8) rfl 0 0 (Nat.le_of_ble_eq_true rfl) rfl rfl wd_1_15 dX10_leave_1 ?_
  refine g_get hx hb hG hown hK hw inlX4 (ci := 3) rfl 1 0 (Nat.le_of_ble_eq_true rfl) rfl rfl wd_7_0 dX10_leave_4 ?_
  refine lv_iload_n hx hb dX10_leave_7 rfl (lv_at hl 1 rfl) ?_
  obtain ⟨r1, hc2, hf⟩ := gB_s hf
  refine g_ki0 (is := [2]) hw hA (g_rV hx hb hml hG hown hK hw (is := [2]) rfl (by decide) (mX6_isThere l E o_t_now_meadow a_t_now_meadow v_t_now_meadow_families v_t_now_meadow_wind v_t_now_meadow_force v_t_now_meadow_rain v_t_now_meadow_lost v_t_now_meadow_hour x1 r1 hc2) wd_9_8 wd_9_9 wd_9_10 wd_2_20 wd_9_11 hX6_isThere g_allgood ⟨rfl, rfl⟩ ⟨Nat.le_of_ble_eq_true rfl, Nat.le_of_ble_eq_true rfl⟩ ⟨Nat.zero_le _, Nat.zero_le _⟩ (ci := 5) (q0 := 0) rfl rfl rfl rfl hl.1 rfl (Nat.le_of_ble_eq_true rfl) dX10_leave_8) rfl (fun H locs hw => ?_)
  refine lv_if_ne (tgt := 16) hx hb dX10_leave_11 (by decide) (fun hc => ?_) (fun hc => ?_)
  · have hf := g_f hc hf
    refine lv_aload_n hx hb dX10_leave_16 rfl (lv_at hl 0 rfl) ?_
    refine g_get hx hb hG hown hK hw inlX10 (ci := 8) rfl 0 0 (Nat.le_of_ble_eq_true rfl) rfl rfl wd_1_15 dX10_leave_17 ?_
    refine g_get hx hb hG hown hK hw inlX4 (ci := 3) rfl 1 0 (Nat.le_of_ble_eq_true rfl) rfl rfl wd_7_0 dX10_leave_20 ?_
    refine lv_iload_n hx hb dX10_leave_23 rfl (lv_at hl 1 rfl) ?_
    obtain ⟨⟨r3_0, r3_1, r3_2, r3_3⟩, hc4, hf⟩ := gB_s hf
    refine g_kv (is := [2, 3, 4, 5]) (isR := [0, 1]) (nW := 6) (w1 := (wX6_moveOut E o_t_now_meadow a_t_now_meadow r3_0 v_t_now_meadow_wind v_t_now_meadow_force v_t_now_meadow_rain r3_1 v_t_now_meadow_hour f_t_now_meadow_home r3_2 r3_3)) (ws' := (wX10_leave E o_t o_t_firstImage o_t_secondImage o_t_pad o_t_hours o_t_growth o_t_flight o_t_draws o_t_now o_t_now_sights o_t_now_meadow a_t_now_meadow v_t_imagesKept r3_0 v_t_now_meadow_wind v_t_now_meadow_force v_t_now_meadow_rain r3_1 v_t_now_meadow_hour f_t_now_meadow_home r3_2 r3_3)) hw hA (g_rV hx hb hml hG hown hK hw (is := [2, 3, 4, 5]) rfl (by decide) (mX6_moveOut l E o_t_now_meadow a_t_now_meadow v_t_now_meadow_families v_t_now_meadow_wind v_t_now_meadow_force v_t_now_meadow_rain v_t_now_meadow_lost v_t_now_meadow_hour f_t_now_meadow_home f_t_now_meadow_seeds f_t_now_meadow_ground x1 r3_0 r3_1 r3_2 r3_3 hc4) wd_9_12 wd_9_13 wd_9_14 wd_2_20 wd_9_15 hX6_moveOut g_allgood ⟨rfl, rfl⟩ ⟨Nat.le_of_ble_eq_true rfl, Nat.le_of_ble_eq_true rfl⟩ ⟨Nat.zero_le _, Nat.zero_le _⟩ (ci := 5) (q0 := 0) rfl rfl rfl rfl hl.1 rfl (Nat.le_of_ble_eq_true rfl) dX10_leave_24) rfl (g_had [o_t_now_meadow, (a_t_now_meadow 0), (a_t_now_meadow 1), (a_t_now_meadow 4)] rfl rfl) rfl (⟨⟨_, rfl, rfl⟩, ⟨⟨_, rfl, rfl⟩, trivial⟩⟩) rfl rfl (by decide) (fun H locs hw => ?_)
    refine lv_aload_n hx hb dX10_leave_27 rfl (lv_at hl 0 rfl) ?_
    refine g_get hx hb hG hown hK hw inlX10 (ci := 8) rfl 0 0 (Nat.le_of_ble_eq_true rfl) rfl rfl wd_1_15 dX10_leave_28 ?_
    refine g_get hx hb hG hown hK hw inlX4 (ci := 3) rfl 1 0 (Nat.le_of_ble_eq_true rfl) rfl rfl wd_7_0 dX10_leave_31 ?_
    obtain ⟨r5, hc6, hf⟩ := gB_s hf
    refine g_ki0 (is := [2]) hw hA (g_rV hx hb hml hG hown hK hw (is := [2]) rfl (by decide) (mX6_howManyFamilies l E o_t_now_meadow a_t_now_meadow r3_0 v_t_now_meadow_wind v_t_now_meadow_force v_t_now_meadow_rain r3_1 v_t_now_meadow_hour r5 hc6) wd_7_15 wd_7_16 wd_7_17 wd_2_20 wd_7_18 hX6_howManyFamilies g_allgood ⟨rfl, rfl⟩ ⟨Nat.le_of_ble_eq_true rfl, Nat.le_of_ble_eq_true rfl⟩ ⟨Nat.zero_le _, Nat.zero_le _⟩ (ci := 5) (q0 := 0) rfl rfl rfl rfl hl.1 rfl (Nat.le_of_ble_eq_true rfl) dX10_leave_34) rfl (fun H locs hw => ?_)
    exact hret1 (r5, r3_0, r3_1, r3_2, r3_3) _ _ _ _ hf hw dX10_leave_37
  · have hf := g_t hc hf
    refine lv_iconst (v := -1) hx hb dX10_leave_14 k_im1 ?_
    exact hret1 ((-1), v_t_now_meadow_families, v_t_now_meadow_lost, f_t_now_meadow_seeds, f_t_now_meadow_ground) _ _ _ _ hf hw dX10_leave_15
theorem hX10_lay : yX10_lay.cls = RX10 ∧ yX10_lay.cls ≠ "java/lang/invoke/MethodHandle" ∧ yX10_lay.cls ≠ "java/lang/invoke/VarHandle" ∧ (parseMethodDescriptor yX10_lay.desc).map (fun d => d.parameters.length) = some 2 := by decide +kernel
set_option maxHeartbeats 4000000 in
set_option maxRecDepth 100000 in
theorem mX10_lay (l : Launch) (E : gE) (o_t : Nat) (o_t_firstImage : Nat) (o_t_secondImage : Nat) (o_t_pad : Nat) (o_t_hours : Nat) (o_t_growth : Nat) (o_t_flight : Nat) (o_t_draws : Nat) (o_t_now : Nat) (o_t_now_sights : Nat) (o_t_now_meadow : Nat) (a_t_now_meadow : (Nat → Nat)) (v_t_imagesKept : Int32) (v_t_now_meadow_families : Int32) (v_t_now_meadow_wind : Int32) (v_t_now_meadow_force : Int32) (v_t_now_meadow_rain : Int32) (v_t_now_meadow_lost : Int32) (v_t_now_meadow_hour : Int32) (f_t_now_meadow_ground : (Nat → Int32)) (x1 : Int32) (x2 : Int32) (rv : Int32) (z_t_now_meadow_ground : (Nat → Int32)) (hf : fX10_lay f_t_now_meadow_ground x1 x2 = some (rv, z_t_now_meadow_ground)) {sz : Nat} : gMi l yX10_lay (gW yX10_lay cX10_lay 4 (some .int)) ({ frames := 1, cells := 0, slots := 0, locals := 22 } : Room) E [.ref o_t, .int x1, .int x2] (wX10_lay E o_t o_t_firstImage o_t_secondImage o_t_pad o_t_hours o_t_growth o_t_flight o_t_draws o_t_now o_t_now_sights o_t_now_meadow a_t_now_meadow v_t_imagesKept v_t_now_meadow_families v_t_now_meadow_wind v_t_now_meadow_force v_t_now_meadow_rain v_t_now_meadow_lost v_t_now_meadow_hour f_t_now_meadow_ground) sz rv (wX10_lay E o_t o_t_firstImage o_t_secondImage o_t_pad o_t_hours o_t_growth o_t_flight o_t_draws o_t_now o_t_now_sights o_t_now_meadow a_t_now_meadow v_t_imagesKept v_t_now_meadow_families v_t_now_meadow_wind v_t_now_meadow_force v_t_now_meadow_rain v_t_now_meadow_lost v_t_now_meadow_hour z_t_now_meadow_ground) := by
  refine g_openI (own := RX10) (by decide) rfl (Nat.le_of_ble_eq_true rfl) (fun p e s m args below meth cd Q A hx hb hml hown hG hK hA hret hw ls hl => ?_)
  have hl : lv_has ls 4 [(0, .ref o_t), (1, .int x1), (2, .int x2)] := hl
  have hret1 : ∀ (t : Int32 × (Nat → Int32)) (H : Heap) (locs : List Loc) (pc : Nat) (ls : Array Slot), some t = some (rv, z_t_now_meadow_ground) → gS E A s.heap (wX10_lay E o_t o_t_firstImage o_t_secondImage o_t_pad o_t_hours o_t_growth o_t_flight o_t_draws o_t_now o_t_now_sights o_t_now_meadow a_t_now_meadow v_t_imagesKept v_t_now_meadow_families v_t_now_meadow_wind v_t_now_meadow_force v_t_now_meadow_rain v_t_now_meadow_lost v_t_now_meadow_hour t.2) H locs → decode cX10_lay pc = .ok (.ireturn, 1) → W p l e ({ frames := 1, cells := 0, slots := 0, locals := 22 } : Room) s m args below meth cd H locs 0 0 Q (F0 m pc ls [.int t.1]) := by
    intro t H locs pc ls h hw hd
    obtain rfl : t = (rv, z_t_now_meadow_ground) := Option.some.inj h
    exact hret H locs pc ls hw hd
  have B18 : ∀ (f_t_now_meadow_ground : (Nat → Int32)) (H : Heap) (locs : List Loc) (ls : Array Slot), fX10_lay_b18 f_t_now_meadow_ground = some (rv, z_t_now_meadow_ground) → gS E A s.heap (wX10_lay E o_t o_t_firstImage o_t_secondImage o_t_pad o_t_hours o_t_growth o_t_flight o_t_draws o_t_now o_t_now_sights o_t_now_meadow a_t_now_meadow v_t_imagesKept v_t_now_meadow_families v_t_now_meadow_wind v_t_now_meadow_force v_t_now_meadow_rain v_t_now_meadow_lost v_t_now_meadow_hour f_t_now_meadow_ground) H locs → lv_has ls 4 [] → W p l e ({ frames := 1, cells := 0, slots := 0, locals := 22 } : Room) s m args below meth cd H locs 0 0 Q (F0 m 18 ls []) := by
    intro  f_t_now_meadow_ground H locs ls hf hw hl
    refine lv_bipush (v := -2) hx hb dX10_lay_18 k_bm2 ?_
    exact hret1 ((-2), f_t_now_meadow_ground) _ _ _ _ hf hw dX10_lay_20
  refine lv_iload_n hx hb dX10_lay_0 rfl (lv_at hl 1 rfl) ?_
  obtain ⟨r1, hc2, hf⟩ := gB_s hf
  refine g_ki0 (is := []) hw hA (g_rS hx hb hml hG hown hK hw (is := []) rfl (by decide) (mX10_isField l E x1 r1 hc2) wd_7_4 wd_7_5 wd_1_2 wd_7_6 hX10_isField g_allgood ⟨rfl, rfl⟩ ⟨Nat.le_of_ble_eq_true rfl, Nat.le_of_ble_eq_true rfl⟩ ⟨Nat.zero_le _, Nat.zero_le _⟩ rfl hl.1 rfl (Nat.le_of_ble_eq_true rfl) dX10_lay_1) rfl (fun H locs hw => ?_)
  refine lv_if_eq (tgt := 18) hx hb dX10_lay_4 (by decide) (fun hc => ?_) (fun hc => ?_)
  · have hf := g_t hc hf
    exact B18 f_t_now_meadow_ground _ _ _ hf hw (lv_sub hl [] rfl)
  · have hf := g_f hc hf
    refine lv_iload_n hx hb dX10_lay_7 rfl (lv_at hl 2 rfl) ?_
    refine lv_iconst (v := 0) hx hb dX10_lay_8 k_i0 ?_
    refine lv_sipush (v := 999) hx hb dX10_lay_9 k_s999 ?_
    obtain ⟨r3, hc4, hf⟩ := gB_s hf
    refine g_ki0 (is := []) hw hA (g_rS hx hb hml hG hown hK hw (is := []) rfl (by decide) (mX10_within l E x2 0 999 r3 hc4) wd_7_1 wd_7_2 wd_1_2 wd_7_3 hX10_within g_allgood ⟨rfl, rfl⟩ ⟨Nat.le_of_ble_eq_true rfl, Nat.le_of_ble_eq_true rfl⟩ ⟨Nat.zero_le _, Nat.zero_le _⟩ rfl hl.1 rfl (Nat.le_of_ble_eq_true rfl) dX10_lay_12) rfl (fun H locs hw => ?_)
    refine lv_if_ne (tgt := 21) hx hb dX10_lay_15 (by decide) (fun hc => ?_) (fun hc => ?_)
    · have hf := g_f hc hf
      refine lv_aload_n hx hb dX10_lay_21 rfl (lv_at hl 0 rfl) ?_
      refine g_get hx hb hG hown hK hw inlX10 (ci := 8) rfl 0 0 (Nat.le_of_ble_eq_true rfl) rfl rfl wd_1_15 dX10_lay_22 ?_
      refine g_get hx hb hG hown hK hw inlX4 (ci := 3) rfl 1 0 (Nat.le_of_ble_eq_true rfl) rfl rfl wd_7_0 dX10_lay_25 ?_
      refine g_get hx hb hG hown hK hw inlX6 (ci := 5) rfl 2 4 (Nat.le_of_ble_eq_true rfl) rfl rfl wd_10_10 dX10_lay_28 ?_
      refine lv_iload_n hx hb dX10_lay_31 rfl (lv_at hl 1 rfl) ?_
      obtain ⟨hi5, hf⟩ := gA_s hf
      refine g_iald hx hb hK hw 3 rfl hi5 dX10_lay_32 ?_
      refine lv_istore_n (lv' := [(3, .int (f_t_now_meadow_ground (Int32.toNatClampNeg x1))), (0, .ref o_t), (1, .int x1), (2, .int x2)]) hx hb dX10_lay_33 rfl hl (Nat.le_of_ble_eq_true rfl) rfl (fun ls hl => ?_)
      refine lv_aload_n hx hb dX10_lay_34 rfl (lv_at hl 1 rfl) ?_
      refine g_get hx hb hG hown hK hw inlX10 (ci := 8) rfl 0 0 (Nat.le_of_ble_eq_true rfl) rfl rfl wd_1_15 dX10_lay_35 ?_
      refine g_get hx hb hG hown hK hw inlX4 (ci := 3) rfl 1 0 (Nat.le_of_ble_eq_true rfl) rfl rfl wd_7_0 dX10_lay_38 ?_
      refine g_get hx hb hG hown hK hw inlX6 (ci := 5) rfl 2 4 (Nat.le_of_ble_eq_true rfl) rfl rfl wd_10_10 dX10_lay_41 ?_
      refine lv_iload_n hx hb dX10_lay_44 rfl (lv_at hl 2 rfl) ?_
      refine lv_iload_n hx hb dX10_lay_45 rfl (lv_at hl 3 rfl) ?_
      obtain ⟨hi6, hf⟩ := gA_s hf
      refine g_iast (ws' := (wX10_lay E o_t o_t_firstImage o_t_secondImage o_t_pad o_t_hours o_t_growth o_t_flight o_t_draws o_t_now o_t_now_sights o_t_now_meadow a_t_now_meadow v_t_imagesKept v_t_now_meadow_families v_t_now_meadow_wind v_t_now_meadow_force v_t_now_meadow_rain v_t_now_meadow_lost v_t_now_meadow_hour (upd f_t_now_meadow_ground (Int32.toNatClampNeg x1) x2))) hx hb hK hw 3 rfl hi6 rfl dX10_lay_46 (fun H locs hw => ?_)
      refine lv_iload_n hx hb dX10_lay_47 rfl (lv_at hl 0 rfl) ?_
      exact hret1 ((f_t_now_meadow_ground (Int32.toNatClampNeg x1)), (upd f_t_now_meadow_ground (Int32.toNatClampNeg x1) x2)) _ _ _ _ hf hw dX10_lay_48
    · have hf := g_t hc hf
      exact B18 f_t_now_meadow_ground _ _ _ hf hw (lv_sub hl [] rfl)
theorem hX10_changeRain : yX10_changeRain.cls = RX10 ∧ yX10_changeRain.cls ≠ "java/lang/invoke/MethodHandle" ∧ yX10_changeRain.cls ≠ "java/lang/invoke/VarHandle" ∧ (parseMethodDescriptor yX10_changeRain.desc).map (fun d => d.parameters.length) = some 1 := by decide +kernel
set_option maxHeartbeats 4000000 in
set_option maxRecDepth 100000 in
theorem mX10_changeRain (l : Launch) (E : gE) (o_t : Nat) (o_t_firstImage : Nat) (o_t_secondImage : Nat) (o_t_pad : Nat) (o_t_hours : Nat) (o_t_growth : Nat) (o_t_flight : Nat) (o_t_draws : Nat) (o_t_now : Nat) (o_t_now_sights : Nat) (o_t_now_meadow : Nat) (a_t_now_meadow : (Nat → Nat)) (v_t_imagesKept : Int32) (v_t_now_meadow_families : Int32) (v_t_now_meadow_wind : Int32) (v_t_now_meadow_force : Int32) (v_t_now_meadow_rain : Int32) (v_t_now_meadow_lost : Int32) (v_t_now_meadow_hour : Int32) (x1 : Int32) (rv : Int32) (z_t_now_meadow_rain : Int32) (hf : fX10_changeRain v_t_now_meadow_rain x1 = some (rv, z_t_now_meadow_rain)) {sz : Nat} : gMi l yX10_changeRain (gW yX10_changeRain cX10_changeRain 3 (some .int)) ({ frames := 0, cells := 0, slots := 0, locals := 0 } : Room) E [.ref o_t, .int x1] (wX10_changeRain E o_t o_t_firstImage o_t_secondImage o_t_pad o_t_hours o_t_growth o_t_flight o_t_draws o_t_now o_t_now_sights o_t_now_meadow a_t_now_meadow v_t_imagesKept v_t_now_meadow_families v_t_now_meadow_wind v_t_now_meadow_force v_t_now_meadow_rain v_t_now_meadow_lost v_t_now_meadow_hour) sz rv (wX10_changeRain E o_t o_t_firstImage o_t_secondImage o_t_pad o_t_hours o_t_growth o_t_flight o_t_draws o_t_now o_t_now_sights o_t_now_meadow a_t_now_meadow v_t_imagesKept v_t_now_meadow_families v_t_now_meadow_wind v_t_now_meadow_force z_t_now_meadow_rain v_t_now_meadow_lost v_t_now_meadow_hour) := by
  refine g_openI (own := RX10) (by decide) rfl (Nat.le_of_ble_eq_true rfl) (fun p e s m args below meth cd Q A hx hb hml hown hG hK hA hret hw ls hl => ?_)
  have hl : lv_has ls 3 [(0, .ref o_t), (1, .int x1)] := hl
  have hret1 : ∀ (t : Int32 × Int32) (H : Heap) (locs : List Loc) (pc : Nat) (ls : Array Slot), some t = some (rv, z_t_now_meadow_rain) → gS E A s.heap (wX10_changeRain E o_t o_t_firstImage o_t_secondImage o_t_pad o_t_hours o_t_growth o_t_flight o_t_draws o_t_now o_t_now_sights o_t_now_meadow a_t_now_meadow v_t_imagesKept v_t_now_meadow_families v_t_now_meadow_wind v_t_now_meadow_force t.2 v_t_now_meadow_lost v_t_now_meadow_hour) H locs → decode cX10_changeRain pc = .ok (.ireturn, 1) → W p l e ({ frames := 0, cells := 0, slots := 0, locals := 0 } : Room) s m args below meth cd H locs 0 0 Q (F0 m pc ls [.int t.1]) := by
    intro t H locs pc ls h hw hd
    obtain rfl : t = (rv, z_t_now_meadow_rain) := Option.some.inj h
    exact hret H locs pc ls hw hd
  refine lv_aload_n hx hb dX10_changeRain_0 rfl (lv_at hl 0 rfl) ?_
  refine g_get hx hb hG hown hK hw inlX10 (ci := 8) rfl 0 0 (Nat.le_of_ble_eq_true rfl) rfl rfl wd_1_15 dX10_changeRain_1 ?_
  refine g_get hx hb hG hown hK hw inlX4 (ci := 3) rfl 1 0 (Nat.le_of_ble_eq_true rfl) rfl rfl wd_7_0 dX10_changeRain_4 ?_
  refine g_get hx hb hG hown hK hw inlX6 (ci := 5) rfl 2 8 (Nat.le_of_ble_eq_true rfl) rfl rfl wd_11_10 dX10_changeRain_7 ?_
  refine lv_istore_n (lv' := [(2, .int v_t_now_meadow_rain), (0, .ref o_t), (1, .int x1)]) hx hb dX10_changeRain_10 rfl hl (Nat.le_of_ble_eq_true rfl) rfl (fun ls hl => ?_)
  refine lv_aload_n hx hb dX10_changeRain_11 rfl (lv_at hl 1 rfl) ?_
  refine g_get hx hb hG hown hK hw inlX10 (ci := 8) rfl 0 0 (Nat.le_of_ble_eq_true rfl) rfl rfl wd_1_15 dX10_changeRain_12 ?_
  refine g_get hx hb hG hown hK hw inlX4 (ci := 3) rfl 1 0 (Nat.le_of_ble_eq_true rfl) rfl rfl wd_7_0 dX10_changeRain_15 ?_
  refine lv_iload_n hx hb dX10_changeRain_18 rfl (lv_at hl 2 rfl) ?_
  refine g_put (ws' := (wX10_changeRain E o_t o_t_firstImage o_t_secondImage o_t_pad o_t_hours o_t_growth o_t_flight o_t_draws o_t_now o_t_now_sights o_t_now_meadow a_t_now_meadow v_t_imagesKept v_t_now_meadow_families v_t_now_meadow_wind v_t_now_meadow_force x1 v_t_now_meadow_lost v_t_now_meadow_hour)) hx hb hG hown hK hw inlX6 tyX6_ok nmX6 (ci := 5) rfl 2 8 (Nat.le_of_ble_eq_true rfl) rfl wd_11_10 rfl rfl rfl (Nat.le_of_ble_eq_true rfl) rfl dX10_changeRain_19 (fun H locs hw => ?_)
  refine lv_iload_n hx hb dX10_changeRain_22 rfl (lv_at hl 0 rfl) ?_
  exact hret1 (v_t_now_meadow_rain, x1) _ _ _ _ hf hw dX10_changeRain_23
theorem hX10_changeForce : yX10_changeForce.cls = RX10 ∧ yX10_changeForce.cls ≠ "java/lang/invoke/MethodHandle" ∧ yX10_changeForce.cls ≠ "java/lang/invoke/VarHandle" ∧ (parseMethodDescriptor yX10_changeForce.desc).map (fun d => d.parameters.length) = some 1 := by decide +kernel
set_option maxHeartbeats 4000000 in
set_option maxRecDepth 100000 in
theorem mX10_changeForce (l : Launch) (E : gE) (o_t : Nat) (o_t_firstImage : Nat) (o_t_secondImage : Nat) (o_t_pad : Nat) (o_t_hours : Nat) (o_t_growth : Nat) (o_t_flight : Nat) (o_t_draws : Nat) (o_t_now : Nat) (o_t_now_sights : Nat) (o_t_now_meadow : Nat) (a_t_now_meadow : (Nat → Nat)) (v_t_imagesKept : Int32) (v_t_now_meadow_families : Int32) (v_t_now_meadow_wind : Int32) (v_t_now_meadow_force : Int32) (v_t_now_meadow_rain : Int32) (v_t_now_meadow_lost : Int32) (v_t_now_meadow_hour : Int32) (x1 : Int32) (rv : Int32) (z_t_now_meadow_force : Int32) (hf : fX10_changeForce v_t_now_meadow_force x1 = some (rv, z_t_now_meadow_force)) {sz : Nat} : gMi l yX10_changeForce (gW yX10_changeForce cX10_changeForce 3 (some .int)) ({ frames := 0, cells := 0, slots := 0, locals := 0 } : Room) E [.ref o_t, .int x1] (wX10_changeForce E o_t o_t_firstImage o_t_secondImage o_t_pad o_t_hours o_t_growth o_t_flight o_t_draws o_t_now o_t_now_sights o_t_now_meadow a_t_now_meadow v_t_imagesKept v_t_now_meadow_families v_t_now_meadow_wind v_t_now_meadow_force v_t_now_meadow_rain v_t_now_meadow_lost v_t_now_meadow_hour) sz rv (wX10_changeForce E o_t o_t_firstImage o_t_secondImage o_t_pad o_t_hours o_t_growth o_t_flight o_t_draws o_t_now o_t_now_sights o_t_now_meadow a_t_now_meadow v_t_imagesKept v_t_now_meadow_families v_t_now_meadow_wind z_t_now_meadow_force v_t_now_meadow_rain v_t_now_meadow_lost v_t_now_meadow_hour) := by
  refine g_openI (own := RX10) (by decide) rfl (Nat.le_of_ble_eq_true rfl) (fun p e s m args below meth cd Q A hx hb hml hown hG hK hA hret hw ls hl => ?_)
  have hl : lv_has ls 3 [(0, .ref o_t), (1, .int x1)] := hl
  have hret1 : ∀ (t : Int32 × Int32) (H : Heap) (locs : List Loc) (pc : Nat) (ls : Array Slot), some t = some (rv, z_t_now_meadow_force) → gS E A s.heap (wX10_changeForce E o_t o_t_firstImage o_t_secondImage o_t_pad o_t_hours o_t_growth o_t_flight o_t_draws o_t_now o_t_now_sights o_t_now_meadow a_t_now_meadow v_t_imagesKept v_t_now_meadow_families v_t_now_meadow_wind t.2 v_t_now_meadow_rain v_t_now_meadow_lost v_t_now_meadow_hour) H locs → decode cX10_changeForce pc = .ok (.ireturn, 1) → W p l e ({ frames := 0, cells := 0, slots := 0, locals := 0 } : Room) s m args below meth cd H locs 0 0 Q (F0 m pc ls [.int t.1]) := by
    intro t H locs pc ls h hw hd
    obtain rfl : t = (rv, z_t_now_meadow_force) := Option.some.inj h
    exact hret H locs pc ls hw hd
  refine lv_aload_n hx hb dX10_changeForce_0 rfl (lv_at hl 0 rfl) ?_
  refine g_get hx hb hG hown hK hw inlX10 (ci := 8) rfl 0 0 (Nat.le_of_ble_eq_true rfl) rfl rfl wd_1_15 dX10_changeForce_1 ?_
  refine g_get hx hb hG hown hK hw inlX4 (ci := 3) rfl 1 0 (Nat.le_of_ble_eq_true rfl) rfl rfl wd_7_0 dX10_changeForce_4 ?_
  refine g_get hx hb hG hown hK hw inlX6 (ci := 5) rfl 2 7 (Nat.le_of_ble_eq_true rfl) rfl rfl wd_11_5 dX10_changeForce_7 ?_
  refine lv_istore_n (lv' := [(2, .int v_t_now_meadow_force), (0, .ref o_t), (1, .int x1)]) hx hb dX10_changeForce_10 rfl hl (Nat.le_of_ble_eq_true rfl) rfl (fun ls hl => ?_)
  refine lv_aload_n hx hb dX10_changeForce_11 rfl (lv_at hl 1 rfl) ?_
  refine g_get hx hb hG hown hK hw inlX10 (ci := 8) rfl 0 0 (Nat.le_of_ble_eq_true rfl) rfl rfl wd_1_15 dX10_changeForce_12 ?_
  refine g_get hx hb hG hown hK hw inlX4 (ci := 3) rfl 1 0 (Nat.le_of_ble_eq_true rfl) rfl rfl wd_7_0 dX10_changeForce_15 ?_
  refine lv_iload_n hx hb dX10_changeForce_18 rfl (lv_at hl 2 rfl) ?_
  refine g_put (ws' := (wX10_changeForce E o_t o_t_firstImage o_t_secondImage o_t_pad o_t_hours o_t_growth o_t_flight o_t_draws o_t_now o_t_now_sights o_t_now_meadow a_t_now_meadow v_t_imagesKept v_t_now_meadow_families v_t_now_meadow_wind x1 v_t_now_meadow_rain v_t_now_meadow_lost v_t_now_meadow_hour)) hx hb hG hown hK hw inlX6 tyX6_ok nmX6 (ci := 5) rfl 2 7 (Nat.le_of_ble_eq_true rfl) rfl wd_11_5 rfl rfl rfl (Nat.le_of_ble_eq_true rfl) rfl dX10_changeForce_19 (fun H locs hw => ?_)
  refine lv_iload_n hx hb dX10_changeForce_22 rfl (lv_at hl 0 rfl) ?_
  exact hret1 (v_t_now_meadow_force, x1) _ _ _ _ hf hw dX10_changeForce_23
theorem hX10_turnWind : yX10_turnWind.cls = RX10 ∧ yX10_turnWind.cls ≠ "java/lang/invoke/MethodHandle" ∧ yX10_turnWind.cls ≠ "java/lang/invoke/VarHandle" ∧ (parseMethodDescriptor yX10_turnWind.desc).map (fun d => d.parameters.length) = some 1 := by decide +kernel
set_option maxHeartbeats 4000000 in
set_option maxRecDepth 100000 in
theorem mX10_turnWind (l : Launch) (E : gE) (o_t : Nat) (o_t_firstImage : Nat) (o_t_secondImage : Nat) (o_t_pad : Nat) (o_t_hours : Nat) (o_t_growth : Nat) (o_t_flight : Nat) (o_t_draws : Nat) (o_t_now : Nat) (o_t_now_sights : Nat) (o_t_now_meadow : Nat) (a_t_now_meadow : (Nat → Nat)) (v_t_imagesKept : Int32) (v_t_now_meadow_families : Int32) (v_t_now_meadow_wind : Int32) (v_t_now_meadow_force : Int32) (v_t_now_meadow_rain : Int32) (v_t_now_meadow_lost : Int32) (v_t_now_meadow_hour : Int32) (x1 : Int32) (rv : Int32) (z_t_now_meadow_wind : Int32) (hf : fX10_turnWind v_t_now_meadow_wind x1 = some (rv, z_t_now_meadow_wind)) {sz : Nat} : gMi l yX10_turnWind (gW yX10_turnWind cX10_turnWind 3 (some .int)) ({ frames := 0, cells := 0, slots := 0, locals := 0 } : Room) E [.ref o_t, .int x1] (wX10_turnWind E o_t o_t_firstImage o_t_secondImage o_t_pad o_t_hours o_t_growth o_t_flight o_t_draws o_t_now o_t_now_sights o_t_now_meadow a_t_now_meadow v_t_imagesKept v_t_now_meadow_families v_t_now_meadow_wind v_t_now_meadow_force v_t_now_meadow_rain v_t_now_meadow_lost v_t_now_meadow_hour) sz rv (wX10_turnWind E o_t o_t_firstImage o_t_secondImage o_t_pad o_t_hours o_t_growth o_t_flight o_t_draws o_t_now o_t_now_sights o_t_now_meadow a_t_now_meadow v_t_imagesKept v_t_now_meadow_families z_t_now_meadow_wind v_t_now_meadow_force v_t_now_meadow_rain v_t_now_meadow_lost v_t_now_meadow_hour) := by
  refine g_openI (own := RX10) (by decide) rfl (Nat.le_of_ble_eq_true rfl) (fun p e s m args below meth cd Q A hx hb hml hown hG hK hA hret hw ls hl => ?_)
  have hl : lv_has ls 3 [(0, .ref o_t), (1, .int x1)] := hl
  have hret1 : ∀ (t : Int32 × Int32) (H : Heap) (locs : List Loc) (pc : Nat) (ls : Array Slot), some t = some (rv, z_t_now_meadow_wind) → gS E A s.heap (wX10_turnWind E o_t o_t_firstImage o_t_secondImage o_t_pad o_t_hours o_t_growth o_t_flight o_t_draws o_t_now o_t_now_sights o_t_now_meadow a_t_now_meadow v_t_imagesKept v_t_now_meadow_families t.2 v_t_now_meadow_force v_t_now_meadow_rain v_t_now_meadow_lost v_t_now_meadow_hour) H locs → decode cX10_turnWind pc = .ok (.ireturn, 1) → W p l e ({ frames := 0, cells := 0, slots := 0, locals := 0 } : Room) s m args below meth cd H locs 0 0 Q (F0 m pc ls [.int t.1]) := by
    intro t H locs pc ls h hw hd
    obtain rfl : t = (rv, z_t_now_meadow_wind) := Option.some.inj h
    exact hret H locs pc ls hw hd
  refine lv_aload_n hx hb dX10_turnWind_0 rfl (lv_at hl 0 rfl) ?_
  refine g_get hx hb hG hown hK hw inlX10 (ci := 8) rfl 0 0 (Nat.le_of_ble_eq_true rfl) rfl rfl wd_1_15 dX10_turnWind_1 ?_
  refine g_get hx hb hG hown hK hw inlX4 (ci := 3) rfl 1 0 (Nat.le_of_ble_eq_true rfl) rfl rfl wd_7_0 dX10_turnWind_4 ?_
  refine g_get hx hb hG hown hK hw inlX6 (ci := 5) rfl 2 6 (Nat.le_of_ble_eq_true rfl) rfl rfl wd_11_0 dX10_turnWind_7 ?_
  refine lv_istore_n (lv' := [(2, .int v_t_now_meadow_wind), (0, .ref o_t), (1, .int x1)]) hx hb dX10_turnWind_10 rfl hl (Nat.le_of_ble_eq_true rfl) rfl (fun ls hl => ?_)
  refine lv_aload_n hx hb dX10_turnWind_11 rfl (lv_at hl 1 rfl) ?_
  refine g_get hx hb hG hown hK hw inlX10 (ci := 8) rfl 0 0 (Nat.le_of_ble_eq_true rfl) rfl rfl wd_1_15 dX10_turnWind_12 ?_
  refine g_get hx hb hG hown hK hw inlX4 (ci := 3) rfl 1 0 (Nat.le_of_ble_eq_true rfl) rfl rfl wd_7_0 dX10_turnWind_15 ?_
  refine lv_iload_n hx hb dX10_turnWind_18 rfl (lv_at hl 2 rfl) ?_
  refine g_put (ws' := (wX10_turnWind E o_t o_t_firstImage o_t_secondImage o_t_pad o_t_hours o_t_growth o_t_flight o_t_draws o_t_now o_t_now_sights o_t_now_meadow a_t_now_meadow v_t_imagesKept v_t_now_meadow_families x1 v_t_now_meadow_force v_t_now_meadow_rain v_t_now_meadow_lost v_t_now_meadow_hour)) hx hb hG hown hK hw inlX6 tyX6_ok nmX6 (ci := 5) rfl 2 6 (Nat.le_of_ble_eq_true rfl) rfl wd_11_0 rfl rfl rfl (Nat.le_of_ble_eq_true rfl) rfl dX10_turnWind_19 (fun H locs hw => ?_)
  refine lv_iload_n hx hb dX10_turnWind_22 rfl (lv_at hl 0 rfl) ?_
  exact hret1 (v_t_now_meadow_wind, x1) _ _ _ _ hf hw dX10_turnWind_23
theorem hX10_set : yX10_set.cls = RX10 ∧ yX10_set.cls ≠ "java/lang/invoke/MethodHandle" ∧ yX10_set.cls ≠ "java/lang/invoke/VarHandle" ∧ (parseMethodDescriptor yX10_set.desc).map (fun d => d.parameters.length) = some 2 := by decide +kernel
set_option maxHeartbeats 4000000 in
set_option maxRecDepth 100000 in
theorem mX10_set (l : Launch) (E : gE) (o_t : Nat) (o_t_firstImage : Nat) (o_t_secondImage : Nat) (o_t_pad : Nat) (o_t_hours : Nat) (o_t_growth : Nat) (o_t_flight : Nat) (o_t_draws : Nat) (o_t_now : Nat) (o_t_now_sights : Nat) (o_t_now_meadow : Nat) (a_t_now_meadow : (Nat → Nat)) (v_t_imagesKept : Int32) (v_t_now_meadow_families : Int32) (v_t_now_meadow_wind : Int32) (v_t_now_meadow_force : Int32) (v_t_now_meadow_rain : Int32) (v_t_now_meadow_lost : Int32) (v_t_now_meadow_hour : Int32) (x1 : Int32) (x2 : Int32) (rv : Int32) (z_t_now_meadow_wind : Int32) (z_t_now_meadow_force : Int32) (z_t_now_meadow_rain : Int32) (hf : fX10_set v_t_now_meadow_wind v_t_now_meadow_force v_t_now_meadow_rain x1 x2 = some (rv, z_t_now_meadow_wind, z_t_now_meadow_force, z_t_now_meadow_rain)) {sz : Nat} : gMi l yX10_set (gW yX10_set cX10_set 3 (some .int)) ({ frames := 1, cells := 0, slots := 0, locals := 22 } : Room) E [.ref o_t, .int x1, .int x2] (wX10_set E o_t o_t_firstImage o_t_secondImage o_t_pad o_t_hours o_t_growth o_t_flight o_t_draws o_t_now o_t_now_sights o_t_now_meadow a_t_now_meadow v_t_imagesKept v_t_now_meadow_families v_t_now_meadow_wind v_t_now_meadow_force v_t_now_meadow_rain v_t_now_meadow_lost v_t_now_meadow_hour) sz rv (wX10_set E o_t o_t_firstImage o_t_secondImage o_t_pad o_t_hours o_t_growth o_t_flight o_t_draws o_t_now o_t_now_sights o_t_now_meadow a_t_now_meadow v_t_imagesKept v_t_now_meadow_families z_t_now_meadow_wind z_t_now_meadow_force z_t_now_meadow_rain v_t_now_meadow_lost v_t_now_meadow_hour) := by
  refine g_openI (own := RX10) (by decide) rfl (Nat.le_of_ble_eq_true rfl) (fun p e s m args below meth cd Q A hx hb hml hown hG hK hA hret hw ls hl => ?_)
  have hl : lv_has ls 3 [(0, .ref o_t), (1, .int x1), (2, .int x2)] := hl
  have hret1 : ∀ (t : Int32 × Int32 × Int32 × Int32) (H : Heap) (locs : List Loc) (pc : Nat) (ls : Array Slot), some t = some (rv, z_t_now_meadow_wind, z_t_now_meadow_force, z_t_now_meadow_rain) → gS E A s.heap (wX10_set E o_t o_t_firstImage o_t_secondImage o_t_pad o_t_hours o_t_growth o_t_flight o_t_draws o_t_now o_t_now_sights o_t_now_meadow a_t_now_meadow v_t_imagesKept v_t_now_meadow_families t.2.1 t.2.2.1 t.2.2.2 v_t_now_meadow_lost v_t_now_meadow_hour) H locs → decode cX10_set pc = .ok (.ireturn, 1) → W p l e ({ frames := 1, cells := 0, slots := 0, locals := 22 } : Room) s m args below meth cd H locs 0 0 Q (F0 m pc ls [.int t.1]) := by
    intro t H locs pc ls h hw hd
    obtain rfl : t = (rv, z_t_now_meadow_wind, z_t_now_meadow_force, z_t_now_meadow_rain) := Option.some.inj h
    exact hret H locs pc ls hw hd
  have B87 : ∀ (v_t_now_meadow_wind : Int32) (v_t_now_meadow_force : Int32) (v_t_now_meadow_rain : Int32) (s0 : Int32) (H : Heap) (locs : List Loc) (ls : Array Slot), fX10_set_b87 v_t_now_meadow_wind v_t_now_meadow_force v_t_now_meadow_rain s0 = some (rv, z_t_now_meadow_wind, z_t_now_meadow_force, z_t_now_meadow_rain) → gS E A s.heap (wX10_set E o_t o_t_firstImage o_t_secondImage o_t_pad o_t_hours o_t_growth o_t_flight o_t_draws o_t_now o_t_now_sights o_t_now_meadow a_t_now_meadow v_t_imagesKept v_t_now_meadow_families v_t_now_meadow_wind v_t_now_meadow_force v_t_now_meadow_rain v_t_now_meadow_lost v_t_now_meadow_hour) H locs → lv_has ls 3 [] → W p l e ({ frames := 1, cells := 0, slots := 0, locals := 22 } : Room) s m args below meth cd H locs 0 0 Q (F0 m 87 ls [.int s0]) := by
    intro  v_t_now_meadow_wind v_t_now_meadow_force v_t_now_meadow_rain s0 H locs ls hf hw hl
    exact hret1 (s0, v_t_now_meadow_wind, v_t_now_meadow_force, v_t_now_meadow_rain) _ _ _ _ hf hw dX10_set_87
  have B67 : ∀ (v_t_now_meadow_wind : Int32) (v_t_now_meadow_force : Int32) (v_t_now_meadow_rain : Int32) (s0 : Int32) (H : Heap) (locs : List Loc) (ls : Array Slot), fX10_set_b67 v_t_now_meadow_wind v_t_now_meadow_force v_t_now_meadow_rain s0 = some (rv, z_t_now_meadow_wind, z_t_now_meadow_force, z_t_now_meadow_rain) → gS E A s.heap (wX10_set E o_t o_t_firstImage o_t_secondImage o_t_pad o_t_hours o_t_growth o_t_flight o_t_draws o_t_now o_t_now_sights o_t_now_meadow a_t_now_meadow v_t_imagesKept v_t_now_meadow_families v_t_now_meadow_wind v_t_now_meadow_force v_t_now_meadow_rain v_t_now_meadow_lost v_t_now_meadow_hour) H locs → lv_has ls 3 [] → W p l e ({ frames := 1, cells := 0, slots := 0, locals := 22 } : Room) s m args below meth cd H locs 0 0 Q (F0 m 67 ls [.int s0]) := by
    intro  v_t_now_meadow_wind v_t_now_meadow_force v_t_now_meadow_rain s0 H locs ls hf hw hl
    exact hret1 (s0, v_t_now_meadow_wind, v_t_now_meadow_force, v_t_now_meadow_rain) _ _ _ _ hf hw dX10_set_67
  have B47 : ∀ (v_t_now_meadow_wind : Int32) (v_t_now_meadow_force : Int32) (v_t_now_meadow_rain : Int32) (s0 : Int32) (H : Heap) (locs : List Loc) (ls : Array Slot), fX10_set_b47 v_t_now_meadow_wind v_t_now_meadow_force v_t_now_meadow_rain s0 = some (rv, z_t_now_meadow_wind, z_t_now_meadow_force, z_t_now_meadow_rain) → gS E A s.heap (wX10_set E o_t o_t_firstImage o_t_secondImage o_t_pad o_t_hours o_t_growth o_t_flight o_t_draws o_t_now o_t_now_sights o_t_now_meadow a_t_now_meadow v_t_imagesKept v_t_now_meadow_families v_t_now_meadow_wind v_t_now_meadow_force v_t_now_meadow_rain v_t_now_meadow_lost v_t_now_meadow_hour) H locs → lv_has ls 3 [] → W p l e ({ frames := 1, cells := 0, slots := 0, locals := 22 } : Room) s m args below meth cd H locs 0 0 Q (F0 m 47 ls [.int s0]) := by
    intro  v_t_now_meadow_wind v_t_now_meadow_force v_t_now_meadow_rain s0 H locs ls hf hw hl
    exact hret1 (s0, v_t_now_meadow_wind, v_t_now_meadow_force, v_t_now_meadow_rain) _ _ _ _ hf hw dX10_set_47
  refine lv_iload_n hx hb dX10_set_0 rfl (lv_at hl 1 rfl) ?_
  by_cases hs1 : x1 = 0
  · have hf := g_t hs1 hf
    refine lv_tableIn (off := 27) (tgt := 28) hx hb dX10_set_1 (by rw [hs1]; decide) (by rw [hs1]; decide) (by rw [hs1] <;> rfl) (by decide) ?_
    refine lv_iload_n hx hb dX10_set_28 rfl (lv_at hl 2 rfl) ?_
    refine lv_iconst (v := 0) hx hb dX10_set_29 k_i0 ?_
    refine lv_iconst (v := 3) hx hb dX10_set_30 k_i3 ?_
    obtain ⟨r2, hc3, hf⟩ := gB_s hf
    refine g_ki0 (is := []) hw hA (g_rS hx hb hml hG hown hK hw (is := []) rfl (by decide) (mX10_within l E x2 0 3 r2 hc3) wd_7_1 wd_7_2 wd_1_2 wd_7_3 hX10_within g_allgood ⟨rfl, rfl⟩ ⟨Nat.le_of_ble_eq_true rfl, Nat.le_of_ble_eq_true rfl⟩ ⟨Nat.zero_le _, Nat.zero_le _⟩ rfl hl.1 rfl (Nat.le_of_ble_eq_true rfl) dX10_set_31) rfl (fun H locs hw => ?_)
    refine lv_if_eq (tgt := 45) hx hb dX10_set_34 (by decide) (fun hc => ?_) (fun hc => ?_)
    · have hf := g_t hc hf
      refine lv_bipush (v := -2) hx hb dX10_set_45 k_bm2 ?_
      exact B47 v_t_now_meadow_wind v_t_now_meadow_force v_t_now_meadow_rain (-2) _ _ _ hf hw (lv_sub hl [] rfl)
    · have hf := g_f hc hf
      refine lv_aload_n hx hb dX10_set_37 rfl (lv_at hl 0 rfl) ?_
      refine lv_iload_n hx hb dX10_set_38 rfl (lv_at hl 2 rfl) ?_
      obtain ⟨⟨r4_0, r4_1⟩, hc5, hf⟩ := gB_s hf
      refine g_ki (is := [0, 1, 2]) (isR := []) (nW := 3) (w1 := (wX10_turnWind E o_t o_t_firstImage o_t_secondImage o_t_pad o_t_hours o_t_growth o_t_flight o_t_draws o_t_now o_t_now_sights o_t_now_meadow a_t_now_meadow v_t_imagesKept v_t_now_meadow_families r4_1 v_t_now_meadow_force v_t_now_meadow_rain v_t_now_meadow_lost v_t_now_meadow_hour)) (ws' := (wX10_set E o_t o_t_firstImage o_t_secondImage o_t_pad o_t_hours o_t_growth o_t_flight o_t_draws o_t_now o_t_now_sights o_t_now_meadow a_t_now_meadow v_t_imagesKept v_t_now_meadow_families r4_1 v_t_now_meadow_force v_t_now_meadow_rain v_t_now_meadow_lost v_t_now_meadow_hour)) hw hA (g_rV hx hb hml hG hown hK hw (is := [0, 1, 2]) rfl (by decide) (mX10_turnWind l E o_t o_t_firstImage o_t_secondImage o_t_pad o_t_hours o_t_growth o_t_flight o_t_draws o_t_now o_t_now_sights o_t_now_meadow a_t_now_meadow v_t_imagesKept v_t_now_meadow_families v_t_now_meadow_wind v_t_now_meadow_force v_t_now_meadow_rain v_t_now_meadow_lost v_t_now_meadow_hour x2 r4_0 r4_1 hc5) wd_10_20 wd_10_21 wd_10_22 wd_1_2 wd_10_23 hX10_turnWind g_allgood ⟨rfl, rfl⟩ ⟨Nat.le_of_ble_eq_true rfl, Nat.le_of_ble_eq_true rfl⟩ ⟨Nat.zero_le _, Nat.zero_le _⟩ (ci := 8) (q0 := 0) rfl rfl rfl rfl hl.1 rfl (Nat.le_of_ble_eq_true rfl) dX10_set_39) rfl (g_had [o_t, o_t_now, o_t_now_meadow] rfl rfl) rfl (trivial) rfl rfl (by decide) (fun H locs hw => ?_)
      refine lv_goto (tgt := 47) hx hb dX10_set_42 (by decide) ?_
      exact B47 r4_1 v_t_now_meadow_force v_t_now_meadow_rain r4_0 _ _ _ hf hw (lv_sub hl [] rfl)
  have hf := g_f hs1 hf
  by_cases hs6 : x1 = 1
  · have hf := g_t hs6 hf
    refine lv_tableIn (off := 47) (tgt := 48) hx hb dX10_set_1 (by rw [hs6]; decide) (by rw [hs6]; decide) (by rw [hs6] <;> rfl) (by decide) ?_
    refine lv_iload_n hx hb dX10_set_48 rfl (lv_at hl 2 rfl) ?_
    refine lv_iconst (v := 0) hx hb dX10_set_49 k_i0 ?_
    refine lv_iconst (v := 5) hx hb dX10_set_50 k_i5 ?_
    obtain ⟨r7, hc8, hf⟩ := gB_s hf
    refine g_ki0 (is := []) hw hA (g_rS hx hb hml hG hown hK hw (is := []) rfl (by decide) (mX10_within l E x2 0 5 r7 hc8) wd_7_1 wd_7_2 wd_1_2 wd_7_3 hX10_within g_allgood ⟨rfl, rfl⟩ ⟨Nat.le_of_ble_eq_true rfl, Nat.le_of_ble_eq_true rfl⟩ ⟨Nat.zero_le _, Nat.zero_le _⟩ rfl hl.1 rfl (Nat.le_of_ble_eq_true rfl) dX10_set_51) rfl (fun H locs hw => ?_)
    refine lv_if_eq (tgt := 65) hx hb dX10_set_54 (by decide) (fun hc => ?_) (fun hc => ?_)
    · have hf := g_t hc hf
      refine lv_bipush (v := -2) hx hb dX10_set_65 k_bm2 ?_
      exact B67 v_t_now_meadow_wind v_t_now_meadow_force v_t_now_meadow_rain (-2) _ _ _ hf hw (lv_sub hl [] rfl)
    · have hf := g_f hc hf
      refine lv_aload_n hx hb dX10_set_57 rfl (lv_at hl 0 rfl) ?_
      refine lv_iload_n hx hb dX10_set_58 rfl (lv_at hl 2 rfl) ?_
      obtain ⟨⟨r9_0, r9_1⟩, hc10, hf⟩ := gB_s hf
      refine g_ki (is := [0, 1, 2]) (isR := []) (nW := 3) (w1 := (wX10_changeForce E o_t o_t_firstImage o_t_secondImage o_t_pad o_t_hours o_t_growth o_t_flight o_t_draws o_t_now o_t_now_sights o_t_now_meadow a_t_now_meadow v_t_imagesKept v_t_now_meadow_families v_t_now_meadow_wind r9_1 v_t_now_meadow_rain v_t_now_meadow_lost v_t_now_meadow_hour)) (ws' := (wX10_set E o_t o_t_firstImage o_t_secondImage o_t_pad o_t_hours o_t_growth o_t_flight o_t_draws o_t_now o_t_now_sights o_t_now_meadow a_t_now_meadow v_t_imagesKept v_t_now_meadow_families v_t_now_meadow_wind r9_1 v_t_now_meadow_rain v_t_now_meadow_lost v_t_now_meadow_hour)) hw hA (g_rV hx hb hml hG hown hK hw (is := [0, 1, 2]) rfl (by decide) (mX10_changeForce l E o_t o_t_firstImage o_t_secondImage o_t_pad o_t_hours o_t_growth o_t_flight o_t_draws o_t_now o_t_now_sights o_t_now_meadow a_t_now_meadow v_t_imagesKept v_t_now_meadow_families v_t_now_meadow_wind v_t_now_meadow_force v_t_now_meadow_rain v_t_now_meadow_lost v_t_now_meadow_hour x2 r9_0 r9_1 hc10) wd_11_1 wd_11_2 wd_11_3 wd_1_2 wd_11_4 hX10_changeForce g_allgood ⟨rfl, rfl⟩ ⟨Nat.le_of_ble_eq_true rfl, Nat.le_of_ble_eq_true rfl⟩ ⟨Nat.zero_le _, Nat.zero_le _⟩ (ci := 8) (q0 := 0) rfl rfl rfl rfl hl.1 rfl (Nat.le_of_ble_eq_true rfl) dX10_set_59) rfl (g_had [o_t, o_t_now, o_t_now_meadow] rfl rfl) rfl (trivial) rfl rfl (by decide) (fun H locs hw => ?_)
      refine lv_goto (tgt := 67) hx hb dX10_set_62 (by decide) ?_
      exact B67 v_t_now_meadow_wind r9_1 v_t_now_meadow_rain r9_0 _ _ _ hf hw (lv_sub hl [] rfl)
  have hf := g_f hs6 hf
  by_cases hs11 : x1 = 2
  · have hf := g_t hs11 hf
    refine lv_tableIn (off := 67) (tgt := 68) hx hb dX10_set_1 (by rw [hs11]; decide) (by rw [hs11]; decide) (by rw [hs11] <;> rfl) (by decide) ?_
    refine lv_iload_n hx hb dX10_set_68 rfl (lv_at hl 2 rfl) ?_
    refine lv_iconst (v := 0) hx hb dX10_set_69 k_i0 ?_
    refine lv_iconst (v := 1) hx hb dX10_set_70 k_i1 ?_
    obtain ⟨r12, hc13, hf⟩ := gB_s hf
    refine g_ki0 (is := []) hw hA (g_rS hx hb hml hG hown hK hw (is := []) rfl (by decide) (mX10_within l E x2 0 1 r12 hc13) wd_7_1 wd_7_2 wd_1_2 wd_7_3 hX10_within g_allgood ⟨rfl, rfl⟩ ⟨Nat.le_of_ble_eq_true rfl, Nat.le_of_ble_eq_true rfl⟩ ⟨Nat.zero_le _, Nat.zero_le _⟩ rfl hl.1 rfl (Nat.le_of_ble_eq_true rfl) dX10_set_71) rfl (fun H locs hw => ?_)
    refine lv_if_eq (tgt := 85) hx hb dX10_set_74 (by decide) (fun hc => ?_) (fun hc => ?_)
    · have hf := g_t hc hf
      refine lv_bipush (v := -2) hx hb dX10_set_85 k_bm2 ?_
      exact B87 v_t_now_meadow_wind v_t_now_meadow_force v_t_now_meadow_rain (-2) _ _ _ hf hw (lv_sub hl [] rfl)
    · have hf := g_f hc hf
      refine lv_aload_n hx hb dX10_set_77 rfl (lv_at hl 0 rfl) ?_
      refine lv_iload_n hx hb dX10_set_78 rfl (lv_at hl 2 rfl) ?_
      obtain ⟨⟨r14_0, r14_1⟩, hc15, hf⟩ := gB_s hf
      refine g_ki (is := [0, 1, 2]) (isR := []) (nW := 3) (w1 := (wX10_changeRain E o_t o_t_firstImage o_t_secondImage o_t_pad o_t_hours o_t_growth o_t_flight o_t_draws o_t_now o_t_now_sights o_t_now_meadow a_t_now_meadow v_t_imagesKept v_t_now_meadow_families v_t_now_meadow_wind v_t_now_meadow_force r14_1 v_t_now_meadow_lost v_t_now_meadow_hour)) (ws' := (wX10_set E o_t o_t_firstImage o_t_secondImage o_t_pad o_t_hours o_t_growth o_t_flight o_t_draws o_t_now o_t_now_sights o_t_now_meadow a_t_now_meadow v_t_imagesKept v_t_now_meadow_families v_t_now_meadow_wind v_t_now_meadow_force r14_1 v_t_now_meadow_lost v_t_now_meadow_hour)) hw hA (g_rV hx hb hml hG hown hK hw (is := [0, 1, 2]) rfl (by decide) (mX10_changeRain l E o_t o_t_firstImage o_t_secondImage o_t_pad o_t_hours o_t_growth o_t_flight o_t_draws o_t_now o_t_now_sights o_t_now_meadow a_t_now_meadow v_t_imagesKept v_t_now_meadow_families v_t_now_meadow_wind v_t_now_meadow_force v_t_now_meadow_rain v_t_now_meadow_lost v_t_now_meadow_hour x2 r14_0 r14_1 hc15) wd_11_6 wd_11_7 wd_11_8 wd_1_2 wd_11_9 hX10_changeRain g_allgood ⟨rfl, rfl⟩ ⟨Nat.le_of_ble_eq_true rfl, Nat.le_of_ble_eq_true rfl⟩ ⟨Nat.zero_le _, Nat.zero_le _⟩ (ci := 8) (q0 := 0) rfl rfl rfl rfl hl.1 rfl (Nat.le_of_ble_eq_true rfl) dX10_set_79) rfl (g_had [o_t, o_t_now, o_t_now_meadow] rfl rfl) rfl (trivial) rfl rfl (by decide) (fun H locs hw => ?_)
      refine lv_goto (tgt := 87) hx hb dX10_set_82 (by decide) ?_
      exact B87 v_t_now_meadow_wind v_t_now_meadow_force r14_1 r14_0 _ _ _ hf hw (lv_sub hl [] rfl)
  have hf := g_f hs11 hf
  have nhs1 := lv_neT hs1 (show (0 : Int32).toInt = 0 from by decide)
  have nhs6 := lv_neT hs6 (show (1 : Int32).toInt = 1 from by decide)
  have nhs11 := lv_neT hs11 (show (2 : Int32).toInt = 2 from by decide)
  refine lv_tableOut (tgt := 88) hx hb dX10_set_1 (by omega) (by decide) ?_
  refine lv_bipush (v := -2) hx hb dX10_set_88 k_bm2 ?_
  exact hret1 ((-2), v_t_now_meadow_wind, v_t_now_meadow_force, v_t_now_meadow_rain) _ _ _ _ hf hw dX10_set_90
theorem hX10_say : yX10_say.cls = RX10 ∧ yX10_say.cls ≠ "java/lang/invoke/MethodHandle" ∧ yX10_say.cls ≠ "java/lang/invoke/VarHandle" ∧ (parseMethodDescriptor yX10_say.desc).map (fun d => d.parameters.length) = some 1 := by decide +kernel
set_option maxHeartbeats 4000000 in
set_option maxRecDepth 100000 in
theorem mX10_say (l : Launch) (E : gE) (o_t : Nat) (o_t_now : Nat) (o_t_firstImage : Nat) (o_t_secondImage : Nat) (o_t_hours : Nat) (o_t_growth : Nat) (o_t_flight : Nat) (o_t_draws : Nat) (o_t_pad : Nat) (a_t_pad : (Nat → Nat)) (v_t_imagesKept : Int32) (v_t_pad_signs : Int32) (v_t_pad_acts : Int32) (v_t_pad_reading : Int32) (v_t_pad_begun : Int32) (v_t_pad_brokenAt : Int32) (f_t_pad_kinds : (Nat → Int32)) (f_t_pad_firsts : (Nat → Int32)) (f_t_pad_seconds : (Nat → Int32)) (x1 : Int32) (rv : Int32) (z_t_pad_signs : Int32) (z_t_pad_acts : Int32) (z_t_pad_reading : Int32) (z_t_pad_begun : Int32) (z_t_pad_brokenAt : Int32) (z_t_pad_kinds : (Nat → Int32)) (z_t_pad_firsts : (Nat → Int32)) (z_t_pad_seconds : (Nat → Int32)) (hf : fX10_say v_t_pad_signs v_t_pad_acts v_t_pad_reading v_t_pad_begun v_t_pad_brokenAt f_t_pad_kinds f_t_pad_firsts f_t_pad_seconds x1 = some (rv, z_t_pad_signs, z_t_pad_acts, z_t_pad_reading, z_t_pad_begun, z_t_pad_brokenAt, z_t_pad_kinds, z_t_pad_firsts, z_t_pad_seconds)) {sz : Nat} : gMi l yX10_say (gW yX10_say cX10_say 2 (some .int)) ({ frames := 4, cells := 0, slots := 0, locals := 86 } : Room) E [.ref o_t, .int x1] (wX10_say E o_t o_t_now o_t_firstImage o_t_secondImage o_t_hours o_t_growth o_t_flight o_t_draws o_t_pad a_t_pad v_t_imagesKept v_t_pad_signs v_t_pad_acts v_t_pad_reading v_t_pad_begun v_t_pad_brokenAt f_t_pad_kinds f_t_pad_firsts f_t_pad_seconds) sz rv (wX10_say E o_t o_t_now o_t_firstImage o_t_secondImage o_t_hours o_t_growth o_t_flight o_t_draws o_t_pad a_t_pad v_t_imagesKept z_t_pad_signs z_t_pad_acts z_t_pad_reading z_t_pad_begun z_t_pad_brokenAt z_t_pad_kinds z_t_pad_firsts z_t_pad_seconds) := by
  refine g_openI (own := RX10) (by decide) rfl (Nat.le_of_ble_eq_true rfl) (fun p e s m args below meth cd Q A hx hb hml hown hG hK hA hret hw ls hl => ?_)
  have hl : lv_has ls 2 [(0, .ref o_t), (1, .int x1)] := hl
  have hret1 : ∀ (t : Int32 × Int32 × Int32 × Int32 × Int32 × Int32 × (Nat → Int32) × (Nat → Int32) × (Nat → Int32)) (H : Heap) (locs : List Loc) (pc : Nat) (ls : Array Slot), some t = some (rv, z_t_pad_signs, z_t_pad_acts, z_t_pad_reading, z_t_pad_begun, z_t_pad_brokenAt, z_t_pad_kinds, z_t_pad_firsts, z_t_pad_seconds) → gS E A s.heap (wX10_say E o_t o_t_now o_t_firstImage o_t_secondImage o_t_hours o_t_growth o_t_flight o_t_draws o_t_pad a_t_pad v_t_imagesKept t.2.1 t.2.2.1 t.2.2.2.1 t.2.2.2.2.1 t.2.2.2.2.2.1 t.2.2.2.2.2.2.1 t.2.2.2.2.2.2.2.1 t.2.2.2.2.2.2.2.2) H locs → decode cX10_say pc = .ok (.ireturn, 1) → W p l e ({ frames := 4, cells := 0, slots := 0, locals := 86 } : Room) s m args below meth cd H locs 0 0 Q (F0 m pc ls [.int t.1]) := by
    intro t H locs pc ls h hw hd
    obtain rfl : t = (rv, z_t_pad_signs, z_t_pad_acts, z_t_pad_reading, z_t_pad_begun, z_t_pad_brokenAt, z_t_pad_kinds, z_t_pad_firsts, z_t_pad_seconds) := Option.some.inj h
    exact hret H locs pc ls hw hd
  refine lv_iload_n hx hb dX10_say_0 rfl (lv_at hl 1 rfl) ?_
  refine lv_bipush (v := 33) hx hb dX10_say_1 k_b33 ?_
  refine lv_bipush (v := 126) hx hb dX10_say_3 k_b126 ?_
  obtain ⟨r1, hc2, hf⟩ := gB_s hf
  refine g_ki0 (is := []) hw hA (g_rS hx hb hml hG hown hK hw (is := []) rfl (by decide) (mX10_within l E x1 33 126 r1 hc2) wd_7_1 wd_7_2 wd_1_2 wd_7_3 hX10_within g_allgood ⟨rfl, rfl⟩ ⟨Nat.le_of_ble_eq_true rfl, Nat.le_of_ble_eq_true rfl⟩ ⟨Nat.zero_le _, Nat.zero_le _⟩ rfl hl.1 rfl (Nat.le_of_ble_eq_true rfl) dX10_say_5) rfl (fun H locs hw => ?_)
  refine lv_if_ne (tgt := 14) hx hb dX10_say_8 (by decide) (fun hc => ?_) (fun hc => ?_)
  · have hf := g_f hc hf
    refine lv_aload_n hx hb dX10_say_14 rfl (lv_at hl 0 rfl) ?_
    refine g_get hx hb hG hown hK hw inlX10 (ci := 8) rfl 0 4 (Nat.le_of_ble_eq_true rfl) rfl rfl wd_1_22 dX10_say_15 ?_
    refine g_get hx hb hG hown hK hw inlX7 (ci := 6) rfl 1 3 (Nat.le_of_ble_eq_true rfl) rfl rfl wd_11_23 dX10_say_18 ?_
    refine lv_bipush (v := 60) hx hb dX10_say_21 k_b60 ?_
    refine lv_icmp_lt (tgt := 29) hx hb dX10_say_23 (by decide) (fun hc => ?_) (fun hc => ?_)
    · have hf := g_t hc hf
      refine lv_aload_n hx hb dX10_say_29 rfl (lv_at hl 0 rfl) ?_
      refine g_get hx hb hG hown hK hw inlX10 (ci := 8) rfl 0 4 (Nat.le_of_ble_eq_true rfl) rfl rfl wd_1_22 dX10_say_30 ?_
      refine lv_iload_n hx hb dX10_say_33 rfl (lv_at hl 1 rfl) ?_
      obtain ⟨⟨r3_0, r3_1, r3_2, r3_3, r3_4, r3_5, r3_6, r3_7⟩, hc4, hf⟩ := gB_s hf
      refine g_kv (is := [1, 2, 3, 4]) (isR := [0]) (nW := 5) (w1 := (wX7_write E o_t_pad a_t_pad r3_0 r3_1 r3_2 r3_3 r3_4 r3_5 r3_6 r3_7)) (ws' := (wX10_say E o_t o_t_now o_t_firstImage o_t_secondImage o_t_hours o_t_growth o_t_flight o_t_draws o_t_pad a_t_pad v_t_imagesKept r3_0 r3_1 r3_2 r3_3 r3_4 r3_5 r3_6 r3_7)) hw hA (g_rV hx hb hml hG hown hK hw (is := [1, 2, 3, 4]) rfl (by decide) (mX7_write l E o_t_pad a_t_pad v_t_pad_signs v_t_pad_acts v_t_pad_reading v_t_pad_begun v_t_pad_brokenAt f_t_pad_kinds f_t_pad_firsts f_t_pad_seconds x1 r3_0 r3_1 r3_2 r3_3 r3_4 r3_5 r3_6 r3_7 hc4) wd_12_0 wd_12_1 wd_12_2 wd_1_21 wd_12_3 hX7_write g_allgood ⟨rfl, rfl⟩ ⟨Nat.le_of_ble_eq_true rfl, Nat.le_of_ble_eq_true rfl⟩ ⟨Nat.zero_le _, Nat.zero_le _⟩ (ci := 6) (q0 := 0) rfl rfl rfl rfl hl.1 rfl (Nat.le_of_ble_eq_true rfl) dX10_say_34) rfl (g_had [o_t_pad, (a_t_pad 0), (a_t_pad 1), (a_t_pad 2)] rfl rfl) rfl (⟨⟨_, rfl, rfl⟩, trivial⟩) rfl rfl (by decide) (fun H locs hw => ?_)
      refine lv_aload_n hx hb dX10_say_37 rfl (lv_at hl 0 rfl) ?_
      refine g_get hx hb hG hown hK hw inlX10 (ci := 8) rfl 0 4 (Nat.le_of_ble_eq_true rfl) rfl rfl wd_1_22 dX10_say_38 ?_
      refine g_get hx hb hG hown hK hw inlX7 (ci := 6) rfl 1 3 (Nat.le_of_ble_eq_true rfl) rfl rfl wd_11_23 dX10_say_41 ?_
      exact hret1 (r3_0, r3_0, r3_1, r3_2, r3_3, r3_4, r3_5, r3_6, r3_7) _ _ _ _ hf hw dX10_say_44
    · have hf := g_f hc hf
      refine lv_bipush (v := -4) hx hb dX10_say_26 k_bm4 ?_
      exact hret1 ((-4), v_t_pad_signs, v_t_pad_acts, v_t_pad_reading, v_t_pad_begun, v_t_pad_brokenAt, f_t_pad_kinds, f_t_pad_firsts, f_t_pad_seconds) _ _ _ _ hf hw dX10_say_28
  · have hf := g_t hc hf
    refine lv_bipush (v := -2) hx hb dX10_say_11 k_bm2 ?_
    exact hret1 ((-2), v_t_pad_signs, v_t_pad_acts, v_t_pad_reading, v_t_pad_begun, v_t_pad_brokenAt, f_t_pad_kinds, f_t_pad_firsts, f_t_pad_seconds) _ _ _ _ hf hw dX10_say_13
theorem hX10_wipe : yX10_wipe.cls = RX10 ∧ yX10_wipe.cls ≠ "java/lang/invoke/MethodHandle" ∧ yX10_wipe.cls ≠ "java/lang/invoke/VarHandle" ∧ (parseMethodDescriptor yX10_wipe.desc).map (fun d => d.parameters.length) = some 0 := by decide +kernel
set_option maxHeartbeats 4000000 in
set_option maxRecDepth 100000 in
theorem mX10_wipe (l : Launch) (E : gE) (o_t : Nat) (o_t_now : Nat) (o_t_firstImage : Nat) (o_t_secondImage : Nat) (o_t_hours : Nat) (o_t_growth : Nat) (o_t_flight : Nat) (o_t_draws : Nat) (o_t_pad : Nat) (a_t_pad : (Nat → Nat)) (v_t_imagesKept : Int32) (v_t_pad_signs : Int32) (v_t_pad_acts : Int32) (v_t_pad_reading : Int32) (v_t_pad_begun : Int32) (v_t_pad_brokenAt : Int32) (rv : Int32) (z_t_pad_signs : Int32) (z_t_pad_acts : Int32) (z_t_pad_reading : Int32) (hf : fX10_wipe v_t_pad_signs v_t_pad_acts v_t_pad_reading = some (rv, z_t_pad_signs, z_t_pad_acts, z_t_pad_reading)) {sz : Nat} : gMi l yX10_wipe (gW yX10_wipe cX10_wipe 2 (some .int)) ({ frames := 1, cells := 0, slots := 0, locals := 20 } : Room) E [.ref o_t] (wX10_wipe E o_t o_t_now o_t_firstImage o_t_secondImage o_t_hours o_t_growth o_t_flight o_t_draws o_t_pad a_t_pad v_t_imagesKept v_t_pad_signs v_t_pad_acts v_t_pad_reading v_t_pad_begun v_t_pad_brokenAt) sz rv (wX10_wipe E o_t o_t_now o_t_firstImage o_t_secondImage o_t_hours o_t_growth o_t_flight o_t_draws o_t_pad a_t_pad v_t_imagesKept z_t_pad_signs z_t_pad_acts z_t_pad_reading v_t_pad_begun v_t_pad_brokenAt) := by
  refine g_openI (own := RX10) (by decide) rfl (Nat.le_of_ble_eq_true rfl) (fun p e s m args below meth cd Q A hx hb hml hown hG hK hA hret hw ls hl => ?_)
  have hl : lv_has ls 2 [(0, .ref o_t)] := hl
  have hret1 : ∀ (t : Int32 × Int32 × Int32 × Int32) (H : Heap) (locs : List Loc) (pc : Nat) (ls : Array Slot), some t = some (rv, z_t_pad_signs, z_t_pad_acts, z_t_pad_reading) → gS E A s.heap (wX10_wipe E o_t o_t_now o_t_firstImage o_t_secondImage o_t_hours o_t_growth o_t_flight o_t_draws o_t_pad a_t_pad v_t_imagesKept t.2.1 t.2.2.1 t.2.2.2 v_t_pad_begun v_t_pad_brokenAt) H locs → decode cX10_wipe pc = .ok (.ireturn, 1) → W p l e ({ frames := 1, cells := 0, slots := 0, locals := 20 } : Room) s m args below meth cd H locs 0 0 Q (F0 m pc ls [.int t.1]) := by
    intro t H locs pc ls h hw hd
    obtain rfl : t = (rv, z_t_pad_signs, z_t_pad_acts, z_t_pad_reading) := Option.some.inj h
    exact hret H locs pc ls hw hd
  refine lv_aload_n hx hb dX10_wipe_0 rfl (lv_at hl 0 rfl) ?_
  refine g_get hx hb hG hown hK hw inlX10 (ci := 8) rfl 0 4 (Nat.le_of_ble_eq_true rfl) rfl rfl wd_1_22 dX10_wipe_1 ?_
  refine g_get hx hb hG hown hK hw inlX7 (ci := 6) rfl 1 3 (Nat.le_of_ble_eq_true rfl) rfl rfl wd_11_23 dX10_wipe_4 ?_
  refine lv_istore_n (lv' := [(1, .int v_t_pad_signs), (0, .ref o_t)]) hx hb dX10_wipe_7 rfl hl (Nat.le_of_ble_eq_true rfl) rfl (fun ls hl => ?_)
  refine lv_aload_n hx hb dX10_wipe_8 rfl (lv_at hl 1 rfl) ?_
  refine g_get hx hb hG hown hK hw inlX10 (ci := 8) rfl 0 4 (Nat.le_of_ble_eq_true rfl) rfl rfl wd_1_22 dX10_wipe_9 ?_
  obtain ⟨⟨r1_0, r1_1, r1_2⟩, hc2, hf⟩ := gB_s hf
  refine g_kv (is := [1]) (isR := [0]) (nW := 2) (w1 := (wX7_clear E o_t_pad a_t_pad r1_0 r1_1 r1_2 v_t_pad_begun v_t_pad_brokenAt)) (ws' := (wX10_wipe E o_t o_t_now o_t_firstImage o_t_secondImage o_t_hours o_t_growth o_t_flight o_t_draws o_t_pad a_t_pad v_t_imagesKept r1_0 r1_1 r1_2 v_t_pad_begun v_t_pad_brokenAt)) hw hA (g_rV hx hb hml hG hown hK hw (is := [1]) rfl (by decide) (mX7_clear l E o_t_pad a_t_pad v_t_pad_signs v_t_pad_acts v_t_pad_reading v_t_pad_begun v_t_pad_brokenAt r1_0 r1_1 r1_2 hc2) wd_13_7 wd_13_8 wd_13_9 wd_1_21 wd_13_10 hX7_clear g_allgood ⟨rfl, rfl⟩ ⟨Nat.le_of_ble_eq_true rfl, Nat.le_of_ble_eq_true rfl⟩ ⟨Nat.zero_le _, Nat.zero_le _⟩ (ci := 6) (q0 := 0) rfl rfl rfl rfl hl.1 rfl (Nat.le_of_ble_eq_true rfl) dX10_wipe_12) rfl (g_had [o_t_pad] rfl rfl) rfl (⟨⟨_, rfl, rfl⟩, trivial⟩) rfl rfl (by decide) (fun H locs hw => ?_)
  refine lv_iload_n hx hb dX10_wipe_15 rfl (lv_at hl 0 rfl) ?_
  exact hret1 (v_t_pad_signs, r1_0, r1_1, r1_2) _ _ _ _ hf hw dX10_wipe_16
theorem hX10_fault : yX10_fault.cls = RX10 ∧ yX10_fault.cls ≠ "java/lang/invoke/MethodHandle" ∧ yX10_fault.cls ≠ "java/lang/invoke/VarHandle" ∧ (parseMethodDescriptor yX10_fault.desc).map (fun d => d.parameters.length) = some 0 := by decide +kernel
set_option maxHeartbeats 4000000 in
set_option maxRecDepth 100000 in
theorem mX10_fault (l : Launch) (E : gE) (o_t : Nat) (o_t_now : Nat) (o_t_firstImage : Nat) (o_t_secondImage : Nat) (o_t_hours : Nat) (o_t_growth : Nat) (o_t_flight : Nat) (o_t_draws : Nat) (o_t_pad : Nat) (a_t_pad : (Nat → Nat)) (v_t_imagesKept : Int32) (v_t_pad_signs : Int32) (v_t_pad_acts : Int32) (v_t_pad_reading : Int32) (v_t_pad_begun : Int32) (v_t_pad_brokenAt : Int32) (rv : Int32) (hf : fX10_fault v_t_pad_signs v_t_pad_reading v_t_pad_brokenAt = some rv) {sz : Nat} : gMi l yX10_fault (gW yX10_fault cX10_fault 1 (some .int)) ({ frames := 1, cells := 0, slots := 0, locals := 20 } : Room) E [.ref o_t] (wX10_fault E o_t o_t_now o_t_firstImage o_t_secondImage o_t_hours o_t_growth o_t_flight o_t_draws o_t_pad a_t_pad v_t_imagesKept v_t_pad_signs v_t_pad_acts v_t_pad_reading v_t_pad_begun v_t_pad_brokenAt) sz rv (wX10_fault E o_t o_t_now o_t_firstImage o_t_secondImage o_t_hours o_t_growth o_t_flight o_t_draws o_t_pad a_t_pad v_t_imagesKept v_t_pad_signs v_t_pad_acts v_t_pad_reading v_t_pad_begun v_t_pad_brokenAt) := by
  refine g_openI (own := RX10) (by decide) rfl (Nat.le_of_ble_eq_true rfl) (fun p e s m args below meth cd Q A hx hb hml hown hG hK hA hret hw ls hl => ?_)
  have hl : lv_has ls 1 [(0, .ref o_t)] := hl
  have hret1 : ∀ (t : Int32) (H : Heap) (locs : List Loc) (pc : Nat) (ls : Array Slot), some t = some rv → gS E A s.heap (wX10_fault E o_t o_t_now o_t_firstImage o_t_secondImage o_t_hours o_t_growth o_t_flight o_t_draws o_t_pad a_t_pad v_t_imagesKept v_t_pad_signs v_t_pad_acts v_t_pad_reading v_t_pad_begun v_t_pad_brokenAt) H locs → decode cX10_fault pc = .ok (.ireturn, 1) → W p l e ({ frames := 1, cells := 0, slots := 0, locals := 20 } : Room) s m args below meth cd H locs 0 0 Q (F0 m pc ls [.int t]) := by
    intro t H locs pc ls h hw hd
    obtain rfl : t = rv := Option.some.inj h
    exact hret H locs pc ls hw hd
  refine lv_aload_n hx hb dX10_fault_0 rfl (lv_at hl 0 rfl) ?_
  refine g_get hx hb hG hown hK hw inlX10 (ci := 8) rfl 0 4 (Nat.le_of_ble_eq_true rfl) rfl rfl wd_1_22 dX10_fault_1 ?_
  obtain ⟨r1, hc2, hf⟩ := gB_s hf
  refine g_ki0 (is := [1]) hw hA (g_rV hx hb hml hG hown hK hw (is := [1]) rfl (by decide) (mX7_faultPlace l E o_t_pad a_t_pad v_t_pad_signs v_t_pad_acts v_t_pad_reading v_t_pad_begun v_t_pad_brokenAt r1 hc2) wd_13_19 wd_13_20 wd_13_21 wd_1_21 wd_13_22 hX7_faultPlace g_allgood ⟨rfl, rfl⟩ ⟨Nat.le_of_ble_eq_true rfl, Nat.le_of_ble_eq_true rfl⟩ ⟨Nat.zero_le _, Nat.zero_le _⟩ (ci := 6) (q0 := 0) rfl rfl rfl rfl hl.1 rfl (Nat.le_of_ble_eq_true rfl) dX10_fault_4) rfl (fun H locs hw => ?_)
  exact hret1 r1 _ _ _ _ hf hw dX10_fault_7
