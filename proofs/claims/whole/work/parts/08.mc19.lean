theorem hX10_seen : yX10_seen.cls = RX10 ∧ yX10_seen.cls ≠ "java/lang/invoke/MethodHandle" ∧ yX10_seen.cls ≠ "java/lang/invoke/VarHandle" ∧ (parseMethodDescriptor yX10_seen.desc).map (fun d => d.parameters.length) = some 2 := by decide +kernel
set_option maxHeartbeats 4000000 in
set_option maxRecDepth 100000 in
theorem mX10_seen (l : Launch) (E : gE) (o_t : Nat) (o_t_firstImage : Nat) (o_t_secondImage : Nat) (o_t_pad : Nat) (o_t_hours : Nat) (o_t_growth : Nat) (o_t_flight : Nat) (o_t_draws : Nat) (o_t_now : Nat) (o_t_now_meadow : Nat) (o_t_now_sights : Nat) (a_t_now_sights : (Nat → Nat)) (v_t_imagesKept : Int32) (v_t_now_sights_count : Int32) (f_t_now_sights_breaths : (Nat → Int32)) (f_t_now_sights_flews : (Nat → Int32)) (x1 : Int32) (x2 : Int32) (rv : Int32) (z_t_now_sights_count : Int32) (z_t_now_sights_breaths : (Nat → Int32)) (z_t_now_sights_flews : (Nat → Int32)) (hf : fX10_seen v_t_now_sights_count f_t_now_sights_breaths f_t_now_sights_flews x1 x2 = some (rv, z_t_now_sights_count, z_t_now_sights_breaths, z_t_now_sights_flews)) {sz : Nat} : gMi l yX10_seen (gW yX10_seen cX10_seen 3 (some .int)) ({ frames := 1, cells := 0, slots := 0, locals := 22 } : Room) E [.ref o_t, .int x1, .int x2] (wX10_seen E o_t o_t_firstImage o_t_secondImage o_t_pad o_t_hours o_t_growth o_t_flight o_t_draws o_t_now o_t_now_meadow o_t_now_sights a_t_now_sights v_t_imagesKept v_t_now_sights_count f_t_now_sights_breaths f_t_now_sights_flews) sz rv (wX10_seen E o_t o_t_firstImage o_t_secondImage o_t_pad o_t_hours o_t_growth o_t_flight o_t_draws o_t_now o_t_now_meadow o_t_now_sights a_t_now_sights v_t_imagesKept z_t_now_sights_count z_t_now_sights_breaths z_t_now_sights_flews) := by
  refine g_openI (own := RX10) (by decide) rfl (Nat.le_of_ble_eq_true rfl) (fun p e s m args below meth cd Q A hx hb hml hown hG hK hA hret hw ls hl => ?_)
  have hl : lv_has ls 3 [(0, .ref o_t), (1, .int x1), (2, .int x2)] := hl
  have hret1 : ∀ (t : Int32 × Int32 × (Nat → Int32) × (Nat → Int32)) (H : Heap) (locs : List Loc) (pc : Nat) (ls : Array Slot), some t = some (rv, z_t_now_sights_count, z_t_now_sights_breaths, z_t_now_sights_flews) → gS E A s.heap (wX10_seen E o_t o_t_firstImage o_t_secondImage o_t_pad o_t_hours o_t_growth o_t_flight o_t_draws o_t_now o_t_now_meadow o_t_now_sights a_t_now_sights v_t_imagesKept t.2.1 t.2.2.1 t.2.2.2) H locs → decode cX10_seen pc = .ok (.ireturn, 1) → W p l e ({ frames := 1, cells := 0, slots := 0, locals := 22 } : Room) s m args below meth cd H locs 0 0 Q (F0 m pc ls [.int t.1]) := by
    intro t H locs pc ls h hw hd
    obtain rfl : t = (rv, z_t_now_sights_count, z_t_now_sights_breaths, z_t_now_sights_flews) := Option.some.inj h
    exact hret H locs pc ls hw hd
  have B20 : ∀ (v_t_now_sights_count : Int32) (f_t_now_sights_breaths : (Nat → Int32)) (f_t_now_sights_flews : (Nat → Int32)) (H : Heap) (locs : List Loc) (ls : Array Slot), fX10_seen_b20 v_t_now_sights_count f_t_now_sights_breaths f_t_now_sights_flews = some (rv, z_t_now_sights_count, z_t_now_sights_breaths, z_t_now_sights_flews) → gS E A s.heap (wX10_seen E o_t o_t_firstImage o_t_secondImage o_t_pad o_t_hours o_t_growth o_t_flight o_t_draws o_t_now o_t_now_meadow o_t_now_sights a_t_now_sights v_t_imagesKept v_t_now_sights_count f_t_now_sights_breaths f_t_now_sights_flews) H locs → lv_has ls 3 [] → W p l e ({ frames := 1, cells := 0, slots := 0, locals := 22 } : Room) s m args below meth cd H locs 0 0 Q (F0 m 20 ls []) := by
    intro  v_t_now_sights_count f_t_now_sights_breaths f_t_now_sights_flews H locs ls hf hw hl
    refine lv_bipush (v := -2) hx hb dX10_seen_20 k_bm2 ?_
    exact hret1 ((-2), v_t_now_sights_count, f_t_now_sights_breaths, f_t_now_sights_flews) _ _ _ _ hf hw dX10_seen_22
  refine lv_iload_n hx hb dX10_seen_0 rfl (lv_at hl 1 rfl) ?_
  refine lv_iconst (v := 1) hx hb dX10_seen_1 k_i1 ?_
  refine lv_bipush (v := 9) hx hb dX10_seen_2 k_b9 ?_
  obtain ⟨r1, hc2, hf⟩ := gB_s hf
  refine g_ki0 (is := []) hw hA (g_rS hx hb hml hG hown hK hw (is := []) rfl (by decide) (mX10_within l E x1 1 9 r1 hc2) wd_7_1 wd_7_2 wd_1_2 wd_7_3 hX10_within g_allgood ⟨rfl, rfl⟩ ⟨Nat.le_of_ble_eq_true rfl, Nat.le_of_ble_eq_true rfl⟩ ⟨Nat.zero_le _, Nat.zero_le _⟩ rfl hl.1 rfl (Nat.le_of_ble_eq_true rfl) dX10_seen_4) rfl (fun H locs hw => ?_)
  refine lv_if_eq (tgt := 20) hx hb dX10_seen_7 (by decide) (fun hc => ?_) (fun hc => ?_)
  · have hf := g_t hc hf
    exact B20 v_t_now_sights_count f_t_now_sights_breaths f_t_now_sights_flews _ _ _ hf hw (lv_sub hl [] rfl)
  · have hf := g_f hc hf
    refine lv_iload_n hx hb dX10_seen_10 rfl (lv_at hl 2 rfl) ?_
    refine lv_iconst (v := 0) hx hb dX10_seen_11 k_i0 ?_
    refine lv_bipush (v := 81) hx hb dX10_seen_12 k_b81 ?_
    obtain ⟨r3, hc4, hf⟩ := gB_s hf
    refine g_ki0 (is := []) hw hA (g_rS hx hb hml hG hown hK hw (is := []) rfl (by decide) (mX10_within l E x2 0 81 r3 hc4) wd_7_1 wd_7_2 wd_1_2 wd_7_3 hX10_within g_allgood ⟨rfl, rfl⟩ ⟨Nat.le_of_ble_eq_true rfl, Nat.le_of_ble_eq_true rfl⟩ ⟨Nat.zero_le _, Nat.zero_le _⟩ rfl hl.1 rfl (Nat.le_of_ble_eq_true rfl) dX10_seen_14) rfl (fun H locs hw => ?_)
    refine lv_if_ne (tgt := 23) hx hb dX10_seen_17 (by decide) (fun hc => ?_) (fun hc => ?_)
    · have hf := g_f hc hf
      refine lv_aload_n hx hb dX10_seen_23 rfl (lv_at hl 0 rfl) ?_
      refine g_get hx hb hG hown hK hw inlX10 (ci := 8) rfl 0 0 (Nat.le_of_ble_eq_true rfl) rfl rfl wd_1_15 dX10_seen_24 ?_
      refine g_get hx hb hG hown hK hw inlX4 (ci := 3) rfl 1 1 (Nat.le_of_ble_eq_true rfl) rfl rfl wd_30_17 dX10_seen_27 ?_
      refine g_get hx hb hG hown hK hw inlX9 (ci := 7) rfl 2 2 (Nat.le_of_ble_eq_true rfl) rfl rfl wd_30_18 dX10_seen_30 ?_
      refine lv_bipush (v := 8) hx hb dX10_seen_33 k_b8 ?_
      refine lv_icmp_lt (tgt := 41) hx hb dX10_seen_35 (by decide) (fun hc => ?_) (fun hc => ?_)
      · have hf := g_t hc hf
        refine lv_aload_n hx hb dX10_seen_41 rfl (lv_at hl 0 rfl) ?_
        refine g_get hx hb hG hown hK hw inlX10 (ci := 8) rfl 0 0 (Nat.le_of_ble_eq_true rfl) rfl rfl wd_1_15 dX10_seen_42 ?_
        refine g_get hx hb hG hown hK hw inlX4 (ci := 3) rfl 1 1 (Nat.le_of_ble_eq_true rfl) rfl rfl wd_30_17 dX10_seen_45 ?_
        refine lv_iload_n hx hb dX10_seen_48 rfl (lv_at hl 1 rfl) ?_
        refine lv_iload_n hx hb dX10_seen_49 rfl (lv_at hl 2 rfl) ?_
        obtain ⟨⟨r5_0, r5_1, r5_2⟩, hc6, hf⟩ := gB_s hf
        refine g_kv (is := [2, 3, 4]) (isR := [0, 1]) (nW := 5) (w1 := (wX9_note E o_t_now_sights a_t_now_sights r5_0 r5_1 r5_2)) (ws' := (wX10_seen E o_t o_t_firstImage o_t_secondImage o_t_pad o_t_hours o_t_growth o_t_flight o_t_draws o_t_now o_t_now_meadow o_t_now_sights a_t_now_sights v_t_imagesKept r5_0 r5_1 r5_2)) hw hA (g_rV hx hb hml hG hown hK hw (is := [2, 3, 4]) rfl (by decide) (mX9_note l E o_t_now_sights a_t_now_sights v_t_now_sights_count f_t_now_sights_breaths f_t_now_sights_flews x1 x2 r5_0 r5_1 r5_2 hc6) wd_30_19 wd_30_20 wd_30_21 wd_3_0 wd_30_22 hX9_note g_allgood ⟨rfl, rfl⟩ ⟨Nat.le_of_ble_eq_true rfl, Nat.le_of_ble_eq_true rfl⟩ ⟨Nat.zero_le _, Nat.zero_le _⟩ (ci := 7) (q0 := 0) rfl rfl rfl rfl hl.1 rfl (Nat.le_of_ble_eq_true rfl) dX10_seen_50) rfl (g_had [o_t_now_sights, (a_t_now_sights 0), (a_t_now_sights 1)] rfl rfl) rfl (⟨⟨_, rfl, rfl⟩, ⟨⟨_, rfl, rfl⟩, trivial⟩⟩) rfl rfl (by decide) (fun H locs hw => ?_)
        refine lv_aload_n hx hb dX10_seen_53 rfl (lv_at hl 0 rfl) ?_
        refine g_get hx hb hG hown hK hw inlX10 (ci := 8) rfl 0 0 (Nat.le_of_ble_eq_true rfl) rfl rfl wd_1_15 dX10_seen_54 ?_
        refine g_get hx hb hG hown hK hw inlX4 (ci := 3) rfl 1 1 (Nat.le_of_ble_eq_true rfl) rfl rfl wd_30_17 dX10_seen_57 ?_
        refine g_get hx hb hG hown hK hw inlX9 (ci := 7) rfl 2 2 (Nat.le_of_ble_eq_true rfl) rfl rfl wd_30_18 dX10_seen_60 ?_
        exact hret1 (r5_0, r5_0, r5_1, r5_2) _ _ _ _ hf hw dX10_seen_63
      · have hf := g_f hc hf
        refine lv_bipush (v := -4) hx hb dX10_seen_38 k_bm4 ?_
        exact hret1 ((-4), v_t_now_sights_count, f_t_now_sights_breaths, f_t_now_sights_flews) _ _ _ _ hf hw dX10_seen_40
    · have hf := g_t hc hf
      exact B20 v_t_now_sights_count f_t_now_sights_breaths f_t_now_sights_flews _ _ _ hf hw (lv_sub hl [] rfl)
theorem hX10_forget : yX10_forget.cls = RX10 ∧ yX10_forget.cls ≠ "java/lang/invoke/MethodHandle" ∧ yX10_forget.cls ≠ "java/lang/invoke/VarHandle" ∧ (parseMethodDescriptor yX10_forget.desc).map (fun d => d.parameters.length) = some 0 := by decide +kernel
set_option maxHeartbeats 4000000 in
set_option maxRecDepth 100000 in
theorem mX10_forget (l : Launch) (E : gE) (o_t : Nat) (o_t_firstImage : Nat) (o_t_secondImage : Nat) (o_t_pad : Nat) (o_t_hours : Nat) (o_t_growth : Nat) (o_t_flight : Nat) (o_t_draws : Nat) (o_t_now : Nat) (o_t_now_meadow : Nat) (o_t_now_sights : Nat) (a_t_now_sights : (Nat → Nat)) (v_t_imagesKept : Int32) (v_t_now_sights_count : Int32) (rv : Int32) (z_t_now_sights_count : Int32) (hf : fX10_forget v_t_now_sights_count = some (rv, z_t_now_sights_count)) {sz : Nat} : gMi l yX10_forget (gW yX10_forget cX10_forget 2 (some .int)) ({ frames := 0, cells := 0, slots := 0, locals := 0 } : Room) E [.ref o_t] (wX10_forget E o_t o_t_firstImage o_t_secondImage o_t_pad o_t_hours o_t_growth o_t_flight o_t_draws o_t_now o_t_now_meadow o_t_now_sights a_t_now_sights v_t_imagesKept v_t_now_sights_count) sz rv (wX10_forget E o_t o_t_firstImage o_t_secondImage o_t_pad o_t_hours o_t_growth o_t_flight o_t_draws o_t_now o_t_now_meadow o_t_now_sights a_t_now_sights v_t_imagesKept z_t_now_sights_count) := by
  refine g_openI (own := RX10) (by decide) rfl (Nat.le_of_ble_eq_true rfl) (fun p e s m args below meth cd Q A hx hb hml hown hG hK hA hret hw ls hl => ?_)
  have hl : lv_has ls 2 [(0, .ref o_t)] := hl
  have hret1 : ∀ (t : Int32 × Int32) (H : Heap) (locs : List Loc) (pc : Nat) (ls : Array Slot), some t = some (rv, z_t_now_sights_count) → gS E A s.heap (wX10_forget E o_t o_t_firstImage o_t_secondImage o_t_pad o_t_hours o_t_growth o_t_flight o_t_draws o_t_now o_t_now_meadow o_t_now_sights a_t_now_sights v_t_imagesKept t.2) H locs → decode cX10_forget pc = .ok (.ireturn, 1) → W p l e ({ frames := 0, cells := 0, slots := 0, locals := 0 } : Room) s m args below meth cd H locs 0 0 Q (F0 m pc ls [.int t.1]) := by
    intro t H locs pc ls h hw hd
    obtain rfl : t = (rv, z_t_now_sights_count) := Option.some.inj h
    exact hret H locs pc ls hw hd
  refine lv_aload_n hx hb dX10_forget_0 rfl (lv_at hl 0 rfl) ?_
  refine g_get hx hb hG hown hK hw inlX10 (ci := 8) rfl 0 0 (Nat.le_of_ble_eq_true rfl) rfl rfl wd_1_15 dX10_forget_1 ?_
  refine g_get hx hb hG hown hK hw inlX4 (ci := 3) rfl 1 1 (Nat.le_of_ble_eq_true rfl) rfl rfl wd_30_17 dX10_forget_4 ?_
  refine g_get hx hb hG hown hK hw inlX9 (ci := 7) rfl 2 2 (Nat.le_of_ble_eq_true rfl) rfl rfl wd_30_18 dX10_forget_7 ?_
  refine lv_istore_n (lv' := [(1, .int v_t_now_sights_count), (0, .ref o_t)]) hx hb dX10_forget_10 rfl hl (Nat.le_of_ble_eq_true rfl) rfl (fun ls hl => ?_)
  refine lv_aload_n hx hb dX10_forget_11 rfl (lv_at hl 1 rfl) ?_
  refine g_get hx hb hG hown hK hw inlX10 (ci := 8) rfl 0 0 (Nat.le_of_ble_eq_true rfl) rfl rfl wd_1_15 dX10_forget_12 ?_
  refine g_get hx hb hG hown hK hw inlX4 (ci := 3) rfl 1 1 (Nat.le_of_ble_eq_true rfl) rfl rfl wd_30_17 dX10_forget_15 ?_
  refine lv_iconst (v := 0) hx hb dX10_forget_18 k_i0 ?_
  refine g_put (ws' := (wX10_forget E o_t o_t_firstImage o_t_secondImage o_t_pad o_t_hours o_t_growth o_t_flight o_t_draws o_t_now o_t_now_meadow o_t_now_sights a_t_now_sights v_t_imagesKept 0)) hx hb hG hown hK hw inlX9 tyX9_ok nmX9 (ci := 7) rfl 2 2 (Nat.le_of_ble_eq_true rfl) rfl wd_30_18 rfl rfl rfl (Nat.le_of_ble_eq_true rfl) rfl dX10_forget_19 (fun H locs hw => ?_)
  refine lv_iload_n hx hb dX10_forget_22 rfl (lv_at hl 0 rfl) ?_
  exact hret1 (v_t_now_sights_count, 0) _ _ _ _ hf hw dX10_forget_23
theorem hX10_fits : yX10_fits.cls = RX10 ∧ yX10_fits.cls ≠ "java/lang/invoke/MethodHandle" ∧ yX10_fits.cls ≠ "java/lang/invoke/VarHandle" ∧ (parseMethodDescriptor yX10_fits.desc).map (fun d => d.parameters.length) = some 1 := by decide +kernel
set_option maxHeartbeats 4000000 in
set_option maxRecDepth 100000 in
theorem mX10_fits (l : Launch) (E : gE) (o_t : Nat) (o_t_firstImage : Nat) (o_t_secondImage : Nat) (o_t_pad : Nat) (o_t_hours : Nat) (o_t_growth : Nat) (o_t_draws : Nat) (o_t_flight : Nat) (a_t_flight : (Nat → Nat)) (o_t_now : Nat) (o_t_now_meadow : Nat) (o_t_now_sights : Nat) (a_t_now_sights : (Nat → Nat)) (v_t_imagesKept : Int32) (v_t_flight_count : Int32) (v_t_now_sights_count : Int32) (f_t_flight_twos : (Nat → Int32)) (f_t_now_sights_breaths : (Nat → Int32)) (f_t_now_sights_flews : (Nat → Int32)) (x1 : Int32) (rv : Int32) (z_t_flight_count : Int32) (z_t_flight_twos : (Nat → Int32)) (hf : fX10_fits v_t_flight_count v_t_now_sights_count f_t_flight_twos f_t_now_sights_breaths f_t_now_sights_flews x1 = some (rv, z_t_flight_count, z_t_flight_twos)) {sz : Nat} : gMi l yX10_fits (gW yX10_fits cX10_fits 2 (some .int)) ({ frames := 3, cells := 0, slots := 0, locals := 59 } : Room) E [.ref o_t, .int x1] (wX10_fits E o_t o_t_firstImage o_t_secondImage o_t_pad o_t_hours o_t_growth o_t_draws o_t_flight a_t_flight o_t_now o_t_now_meadow o_t_now_sights a_t_now_sights v_t_imagesKept v_t_flight_count v_t_now_sights_count f_t_flight_twos f_t_now_sights_breaths f_t_now_sights_flews) sz rv (wX10_fits E o_t o_t_firstImage o_t_secondImage o_t_pad o_t_hours o_t_growth o_t_draws o_t_flight a_t_flight o_t_now o_t_now_meadow o_t_now_sights a_t_now_sights v_t_imagesKept z_t_flight_count v_t_now_sights_count z_t_flight_twos f_t_now_sights_breaths f_t_now_sights_flews) := by
  refine g_openI (own := RX10) (by decide) rfl (Nat.le_of_ble_eq_true rfl) (fun p e s m args below meth cd Q A hx hb hml hown hG hK hA hret hw ls hl => ?_)
  have hl : lv_has ls 2 [(0, .ref o_t), (1, .int x1)] := hl
  have hret1 : ∀ (t : Int32 × Int32 × (Nat → Int32)) (H : Heap) (locs : List Loc) (pc : Nat) (ls : Array Slot), some t = some (rv, z_t_flight_count, z_t_flight_twos) → gS E A s.heap (wX10_fits E o_t o_t_firstImage o_t_secondImage o_t_pad o_t_hours o_t_growth o_t_draws o_t_flight a_t_flight o_t_now o_t_now_meadow o_t_now_sights a_t_now_sights v_t_imagesKept t.2.1 v_t_now_sights_count t.2.2 f_t_now_sights_breaths f_t_now_sights_flews) H locs → decode cX10_fits pc = .ok (.ireturn, 1) → W p l e ({ frames := 3, cells := 0, slots := 0, locals := 59 } : Room) s m args below meth cd H locs 0 0 Q (F0 m pc ls [.int t.1]) := by
    intro t H locs pc ls h hw hd
    obtain rfl : t = (rv, z_t_flight_count, z_t_flight_twos) := Option.some.inj h
    exact hret H locs pc ls hw hd
  have B60 : ∀ (v_t_flight_count : Int32) (f_t_flight_twos : (Nat → Int32)) (s0 : Int32) (H : Heap) (locs : List Loc) (ls : Array Slot), fX10_fits_b60 v_t_flight_count f_t_flight_twos s0 = some (rv, z_t_flight_count, z_t_flight_twos) → gS E A s.heap (wX10_fits E o_t o_t_firstImage o_t_secondImage o_t_pad o_t_hours o_t_growth o_t_draws o_t_flight a_t_flight o_t_now o_t_now_meadow o_t_now_sights a_t_now_sights v_t_imagesKept v_t_flight_count v_t_now_sights_count f_t_flight_twos f_t_now_sights_breaths f_t_now_sights_flews) H locs → lv_has ls 2 [] → W p l e ({ frames := 3, cells := 0, slots := 0, locals := 59 } : Room) s m args below meth cd H locs 0 0 Q (F0 m 60 ls [.int s0]) := by
    intro  v_t_flight_count f_t_flight_twos s0 H locs ls hf hw hl
    exact hret1 (s0, v_t_flight_count, f_t_flight_twos) _ _ _ _ hf hw dX10_fits_60
  refine lv_aload_n hx hb dX10_fits_0 rfl (lv_at hl 0 rfl) ?_
  refine g_get hx hb hG hown hK hw inlX10 (ci := 8) rfl 0 7 (Nat.le_of_ble_eq_true rfl) rfl rfl wd_2_10 dX10_fits_1 ?_
  refine lv_aload_n hx hb dX10_fits_4 rfl (lv_at hl 0 rfl) ?_
  refine g_get hx hb hG hown hK hw inlX10 (ci := 8) rfl 0 0 (Nat.le_of_ble_eq_true rfl) rfl rfl wd_1_15 dX10_fits_5 ?_
  refine g_get hx hb hG hown hK hw inlX4 (ci := 3) rfl 3 1 (Nat.le_of_ble_eq_true rfl) rfl rfl wd_30_17 dX10_fits_8 ?_
  obtain ⟨⟨r1_0, r1_1⟩, hc2, hf⟩ := gB_s hf
  refine g_kv (is := [4, 5, 6, 1, 2]) (isR := [0, 3]) (nW := 7) (w1 := (wX2_gather E o_t_now_sights a_t_now_sights o_t_flight a_t_flight v_t_now_sights_count r1_0 f_t_now_sights_breaths f_t_now_sights_flews r1_1)) (ws' := (wX10_fits E o_t o_t_firstImage o_t_secondImage o_t_pad o_t_hours o_t_growth o_t_draws o_t_flight a_t_flight o_t_now o_t_now_meadow o_t_now_sights a_t_now_sights v_t_imagesKept r1_0 v_t_now_sights_count r1_1 f_t_now_sights_breaths f_t_now_sights_flews)) hw hA (g_rV hx hb hml hG hown hK hw (is := [4, 5, 6, 1, 2]) rfl (by decide) (mX2_gather l E o_t_now_sights a_t_now_sights o_t_flight a_t_flight v_t_now_sights_count v_t_flight_count f_t_now_sights_breaths f_t_now_sights_flews f_t_flight_twos r1_0 r1_1 hc2) wd_31_19 wd_31_20 wd_31_21 wd_2_9 wd_31_22 hX2_gather g_allgood ⟨rfl, rfl⟩ ⟨Nat.le_of_ble_eq_true rfl, Nat.le_of_ble_eq_true rfl⟩ ⟨Nat.zero_le _, Nat.zero_le _⟩ (ci := 1) (q0 := 3) rfl rfl rfl rfl hl.1 rfl (Nat.le_of_ble_eq_true rfl) dX10_fits_11) rfl (g_had [o_t_now_sights, (a_t_now_sights 0), (a_t_now_sights 1), o_t_flight, (a_t_flight 0)] rfl rfl) rfl (⟨⟨_, rfl, rfl⟩, ⟨⟨_, rfl, rfl⟩, trivial⟩⟩) rfl rfl (by decide) (fun H locs hw => ?_)
  refine lv_iload_n hx hb dX10_fits_14 rfl (lv_at hl 1 rfl) ?_
  refine lv_iconst (v := -1) hx hb dX10_fits_15 k_im1 ?_
  refine lv_icmp_ne (tgt := 27) hx hb dX10_fits_16 (by decide) (fun hc => ?_) (fun hc => ?_)
  · have hf := g_f hc hf
    refine lv_iload_n hx hb dX10_fits_27 rfl (lv_at hl 1 rfl) ?_
    refine lv_iconst (v := 0) hx hb dX10_fits_28 k_i0 ?_
    refine lv_aload_n hx hb dX10_fits_29 rfl (lv_at hl 0 rfl) ?_
    refine g_get hx hb hG hown hK hw inlX10 (ci := 8) rfl 0 7 (Nat.le_of_ble_eq_true rfl) rfl rfl wd_2_10 dX10_fits_30 ?_
    refine g_get hx hb hG hown hK hw inlX2 (ci := 1) rfl 1 1 (Nat.le_of_ble_eq_true rfl) rfl rfl wd_31_17 dX10_fits_33 ?_
    refine lv_iconst (v := 1) hx hb dX10_fits_36 k_i1 ?_
    refine lv_isub hx hb dX10_fits_37 ?_
    obtain ⟨r3, hc4, hf⟩ := gB_s hf
    refine g_ki0 (is := []) hw hA (g_rS hx hb hml hG hown hK hw (is := []) rfl (by decide) (mX10_within l E x1 0 (r1_0 - 1) r3 hc4) wd_7_1 wd_7_2 wd_1_2 wd_7_3 hX10_within g_allgood ⟨rfl, rfl⟩ ⟨Nat.le_of_ble_eq_true rfl, Nat.le_of_ble_eq_true rfl⟩ ⟨Nat.zero_le _, Nat.zero_le _⟩ rfl hl.1 rfl (Nat.le_of_ble_eq_true rfl) dX10_fits_38) rfl (fun H locs hw => ?_)
    refine lv_if_eq (tgt := 58) hx hb dX10_fits_41 (by decide) (fun hc => ?_) (fun hc => ?_)
    · have hf := g_t hc hf
      refine lv_bipush (v := -6) hx hb dX10_fits_58 k_bm6 ?_
      exact B60 r1_0 r1_1 (-6) _ _ _ hf hw (lv_sub hl [] rfl)
    · have hf := g_f hc hf
      refine lv_aload_n hx hb dX10_fits_44 rfl (lv_at hl 0 rfl) ?_
      refine g_get hx hb hG hown hK hw inlX10 (ci := 8) rfl 0 7 (Nat.le_of_ble_eq_true rfl) rfl rfl wd_2_10 dX10_fits_45 ?_
      refine g_get hx hb hG hown hK hw inlX2 (ci := 1) rfl 1 0 (Nat.le_of_ble_eq_true rfl) rfl rfl wd_31_18 dX10_fits_48 ?_
      refine lv_iload_n hx hb dX10_fits_51 rfl (lv_at hl 1 rfl) ?_
      obtain ⟨r5, hc6, hf⟩ := gB_s hf
      refine g_ki0 (is := [2]) hw hA (g_rS hx hb hml hG hown hK hw (is := [2]) rfl (by decide) (mX10_at l E (a_t_flight 0) 360 r1_1 x1 r5 hc6) wd_32_4 wd_15_23 wd_1_2 wd_16_0 hX10_at g_allgood ⟨rfl, rfl⟩ ⟨Nat.le_of_ble_eq_true rfl, Nat.le_of_ble_eq_true rfl⟩ ⟨Nat.zero_le _, Nat.zero_le _⟩ rfl hl.1 rfl (Nat.le_of_ble_eq_true rfl) dX10_fits_52) rfl (fun H locs hw => ?_)
      refine lv_goto (tgt := 60) hx hb dX10_fits_55 (by decide) ?_
      exact B60 r1_0 r1_1 r5 _ _ _ hf hw (lv_sub hl [] rfl)
  · have hf := g_t hc hf
    refine lv_aload_n hx hb dX10_fits_19 rfl (lv_at hl 0 rfl) ?_
    refine g_get hx hb hG hown hK hw inlX10 (ci := 8) rfl 0 7 (Nat.le_of_ble_eq_true rfl) rfl rfl wd_2_10 dX10_fits_20 ?_
    refine g_get hx hb hG hown hK hw inlX2 (ci := 1) rfl 1 1 (Nat.le_of_ble_eq_true rfl) rfl rfl wd_31_17 dX10_fits_23 ?_
    exact hret1 (r1_0, r1_0, r1_1) _ _ _ _ hf hw dX10_fits_26
theorem hX10_tries : yX10_tries.cls = RX10 ∧ yX10_tries.cls ≠ "java/lang/invoke/MethodHandle" ∧ yX10_tries.cls ≠ "java/lang/invoke/VarHandle" ∧ (parseMethodDescriptor yX10_tries.desc).map (fun d => d.parameters.length) = some 1 := by decide +kernel
set_option maxHeartbeats 4000000 in
set_option maxRecDepth 100000 in
theorem mX10_tries (l : Launch) (E : gE) (o_t : Nat) (o_t_firstImage : Nat) (o_t_secondImage : Nat) (o_t_pad : Nat) (o_t_hours : Nat) (o_t_growth : Nat) (o_t_draws : Nat) (o_t_flight : Nat) (a_t_flight : (Nat → Nat)) (o_t_now : Nat) (o_t_now_meadow : Nat) (o_t_now_sights : Nat) (a_t_now_sights : (Nat → Nat)) (v_t_imagesKept : Int32) (v_t_flight_count : Int32) (v_t_now_sights_count : Int32) (f_t_flight_twos : (Nat → Int32)) (f_t_flight_left : (Nat → Int32)) (f_t_now_sights_breaths : (Nat → Int32)) (f_t_now_sights_flews : (Nat → Int32)) (x1 : Int32) (rv : Int32) (z_t_flight_count : Int32) (z_t_flight_twos : (Nat → Int32)) (z_t_flight_left : (Nat → Int32)) (hf : fX10_tries v_t_flight_count v_t_now_sights_count f_t_flight_twos f_t_flight_left f_t_now_sights_breaths f_t_now_sights_flews x1 = some (rv, z_t_flight_count, z_t_flight_twos, z_t_flight_left)) {sz : Nat} : gMi l yX10_tries (gW yX10_tries cX10_tries 3 (some .int)) ({ frames := 3, cells := 0, slots := 0, locals := 70 } : Room) E [.ref o_t, .int x1] (wX10_tries E o_t o_t_firstImage o_t_secondImage o_t_pad o_t_hours o_t_growth o_t_draws o_t_flight a_t_flight o_t_now o_t_now_meadow o_t_now_sights a_t_now_sights v_t_imagesKept v_t_flight_count v_t_now_sights_count f_t_flight_twos f_t_flight_left f_t_now_sights_breaths f_t_now_sights_flews) sz rv (wX10_tries E o_t o_t_firstImage o_t_secondImage o_t_pad o_t_hours o_t_growth o_t_draws o_t_flight a_t_flight o_t_now o_t_now_meadow o_t_now_sights a_t_now_sights v_t_imagesKept z_t_flight_count v_t_now_sights_count z_t_flight_twos z_t_flight_left f_t_now_sights_breaths f_t_now_sights_flews) := by
  refine g_openI (own := RX10) (by decide) rfl (Nat.le_of_ble_eq_true rfl) (fun p e s m args below meth cd Q A hx hb hml hown hG hK hA hret hw ls hl => ?_)
  have hl : lv_has ls 3 [(0, .ref o_t), (1, .int x1)] := hl
  have hret1 : ∀ (t : Int32 × Int32 × (Nat → Int32) × (Nat → Int32)) (H : Heap) (locs : List Loc) (pc : Nat) (ls : Array Slot), some t = some (rv, z_t_flight_count, z_t_flight_twos, z_t_flight_left) → gS E A s.heap (wX10_tries E o_t o_t_firstImage o_t_secondImage o_t_pad o_t_hours o_t_growth o_t_draws o_t_flight a_t_flight o_t_now o_t_now_meadow o_t_now_sights a_t_now_sights v_t_imagesKept t.2.1 v_t_now_sights_count t.2.2.1 t.2.2.2 f_t_now_sights_breaths f_t_now_sights_flews) H locs → decode cX10_tries pc = .ok (.ireturn, 1) → W p l e ({ frames := 3, cells := 0, slots := 0, locals := 70 } : Room) s m args below meth cd H locs 0 0 Q (F0 m pc ls [.int t.1]) := by
    intro t H locs pc ls h hw hd
    obtain rfl : t = (rv, z_t_flight_count, z_t_flight_twos, z_t_flight_left) := Option.some.inj h
    exact hret H locs pc ls hw hd
  have B63 : ∀ (v_t_flight_count : Int32) (f_t_flight_twos : (Nat → Int32)) (f_t_flight_left : (Nat → Int32)) (s0 : Int32) (H : Heap) (locs : List Loc) (ls : Array Slot), fX10_tries_b63 v_t_flight_count f_t_flight_twos f_t_flight_left s0 = some (rv, z_t_flight_count, z_t_flight_twos, z_t_flight_left) → gS E A s.heap (wX10_tries E o_t o_t_firstImage o_t_secondImage o_t_pad o_t_hours o_t_growth o_t_draws o_t_flight a_t_flight o_t_now o_t_now_meadow o_t_now_sights a_t_now_sights v_t_imagesKept v_t_flight_count v_t_now_sights_count f_t_flight_twos f_t_flight_left f_t_now_sights_breaths f_t_now_sights_flews) H locs → lv_has ls 3 [] → W p l e ({ frames := 3, cells := 0, slots := 0, locals := 70 } : Room) s m args below meth cd H locs 0 0 Q (F0 m 63 ls [.int s0]) := by
    intro  v_t_flight_count f_t_flight_twos f_t_flight_left s0 H locs ls hf hw hl
    exact hret1 (s0, v_t_flight_count, f_t_flight_twos, f_t_flight_left) _ _ _ _ hf hw dX10_tries_63
  refine lv_iload_n hx hb dX10_tries_0 rfl (lv_at hl 1 rfl) ?_
  refine lv_iconst (v := 0) hx hb dX10_tries_1 k_i0 ?_
  refine lv_iconst (v := 1) hx hb dX10_tries_2 k_i1 ?_
  obtain ⟨r1, hc2, hf⟩ := gB_s hf
  refine g_ki0 (is := []) hw hA (g_rS hx hb hml hG hown hK hw (is := []) rfl (by decide) (mX10_within l E x1 0 1 r1 hc2) wd_7_1 wd_7_2 wd_1_2 wd_7_3 hX10_within g_allgood ⟨rfl, rfl⟩ ⟨Nat.le_of_ble_eq_true rfl, Nat.le_of_ble_eq_true rfl⟩ ⟨Nat.zero_le _, Nat.zero_le _⟩ rfl hl.1 rfl (Nat.le_of_ble_eq_true rfl) dX10_tries_3) rfl (fun H locs hw => ?_)
  refine lv_if_ne (tgt := 12) hx hb dX10_tries_6 (by decide) (fun hc => ?_) (fun hc => ?_)
  · have hf := g_f hc hf
    refine lv_aload_n hx hb dX10_tries_12 rfl (lv_at hl 0 rfl) ?_
    refine g_get hx hb hG hown hK hw inlX10 (ci := 8) rfl 0 7 (Nat.le_of_ble_eq_true rfl) rfl rfl wd_2_10 dX10_tries_13 ?_
    refine lv_aload_n hx hb dX10_tries_16 rfl (lv_at hl 0 rfl) ?_
    refine g_get hx hb hG hown hK hw inlX10 (ci := 8) rfl 0 0 (Nat.le_of_ble_eq_true rfl) rfl rfl wd_1_15 dX10_tries_17 ?_
    refine g_get hx hb hG hown hK hw inlX4 (ci := 3) rfl 4 1 (Nat.le_of_ble_eq_true rfl) rfl rfl wd_30_17 dX10_tries_20 ?_
    obtain ⟨⟨r3_0, r3_1⟩, hc4, hf⟩ := gB_s hf
    refine g_kv (is := [5, 6, 7, 1, 2]) (isR := [0, 3, 4]) (nW := 8) (w1 := (wX2_gather E o_t_now_sights a_t_now_sights o_t_flight a_t_flight v_t_now_sights_count r3_0 f_t_now_sights_breaths f_t_now_sights_flews r3_1)) (ws' := (wX10_tries E o_t o_t_firstImage o_t_secondImage o_t_pad o_t_hours o_t_growth o_t_draws o_t_flight a_t_flight o_t_now o_t_now_meadow o_t_now_sights a_t_now_sights v_t_imagesKept r3_0 v_t_now_sights_count r3_1 f_t_flight_left f_t_now_sights_breaths f_t_now_sights_flews)) hw hA (g_rV hx hb hml hG hown hK hw (is := [5, 6, 7, 1, 2]) rfl (by decide) (mX2_gather l E o_t_now_sights a_t_now_sights o_t_flight a_t_flight v_t_now_sights_count v_t_flight_count f_t_now_sights_breaths f_t_now_sights_flews f_t_flight_twos r3_0 r3_1 hc4) wd_31_19 wd_31_20 wd_31_21 wd_2_9 wd_31_22 hX2_gather g_allgood ⟨rfl, rfl⟩ ⟨Nat.le_of_ble_eq_true rfl, Nat.le_of_ble_eq_true rfl⟩ ⟨Nat.zero_le _, Nat.zero_le _⟩ (ci := 1) (q0 := 3) rfl rfl rfl rfl hl.1 rfl (Nat.le_of_ble_eq_true rfl) dX10_tries_23) rfl (g_had [o_t_now_sights, (a_t_now_sights 0), (a_t_now_sights 1), o_t_flight, (a_t_flight 0)] rfl rfl) rfl (⟨⟨_, rfl, rfl⟩, ⟨⟨_, rfl, rfl⟩, ⟨⟨_, rfl, rfl⟩, trivial⟩⟩⟩) rfl rfl (by decide) (fun H locs hw => ?_)
    refine lv_aload_n hx hb dX10_tries_26 rfl (lv_at hl 0 rfl) ?_
    refine g_get hx hb hG hown hK hw inlX10 (ci := 8) rfl 0 7 (Nat.le_of_ble_eq_true rfl) rfl rfl wd_2_10 dX10_tries_27 ?_
    refine g_get hx hb hG hown hK hw inlX2 (ci := 1) rfl 1 1 (Nat.le_of_ble_eq_true rfl) rfl rfl wd_31_17 dX10_tries_30 ?_
    refine lv_if_ne (tgt := 39) hx hb dX10_tries_33 (by decide) (fun hc => ?_) (fun hc => ?_)
    · have hf := g_f hc hf
      refine lv_aload_n hx hb dX10_tries_39 rfl (lv_at hl 0 rfl) ?_
      refine g_get hx hb hG hown hK hw inlX10 (ci := 8) rfl 0 7 (Nat.le_of_ble_eq_true rfl) rfl rfl wd_2_10 dX10_tries_40 ?_
      obtain ⟨⟨r5_0, r5_1⟩, hc6, hf⟩ := gB_s hf
      refine g_ki (is := [1, 2, 3]) (isR := [0, 4, 5, 6, 7]) (nW := 8) (w1 := (wX2_bestBreath E o_t_flight a_t_flight r3_0 r3_1 r5_1)) (ws' := (wX10_tries E o_t o_t_firstImage o_t_secondImage o_t_pad o_t_hours o_t_growth o_t_draws o_t_flight a_t_flight o_t_now o_t_now_meadow o_t_now_sights a_t_now_sights v_t_imagesKept r3_0 v_t_now_sights_count r3_1 r5_1 f_t_now_sights_breaths f_t_now_sights_flews)) hw hA (g_rV hx hb hml hG hown hK hw (is := [1, 2, 3]) rfl (by decide) (mX2_bestBreath l E o_t_flight a_t_flight r3_0 r3_1 f_t_flight_left r5_0 r5_1 hc6) wd_32_21 wd_32_22 wd_32_23 wd_2_9 wd_33_0 hX2_bestBreath g_allgood ⟨rfl, rfl⟩ ⟨Nat.le_of_ble_eq_true rfl, Nat.le_of_ble_eq_true rfl⟩ ⟨Nat.zero_le _, Nat.zero_le _⟩ (ci := 1) (q0 := 0) rfl rfl rfl rfl hl.1 rfl (Nat.le_of_ble_eq_true rfl) dX10_tries_43) rfl (g_had [o_t_flight, (a_t_flight 0), (a_t_flight 2)] rfl rfl) rfl (⟨⟨_, rfl, rfl⟩, ⟨⟨_, rfl, rfl⟩, ⟨⟨_, rfl, rfl⟩, ⟨⟨_, rfl, rfl⟩, ⟨⟨_, rfl, rfl⟩, trivial⟩⟩⟩⟩⟩) rfl rfl (by decide) (fun H locs hw => ?_)
      refine lv_istore_n (lv' := [(2, .int r5_0), (0, .ref o_t), (1, .int x1)]) hx hb dX10_tries_46 rfl hl (Nat.le_of_ble_eq_true rfl) rfl (fun ls hl => ?_)
      refine lv_iload_n hx hb dX10_tries_47 rfl (lv_at hl 2 rfl) ?_
      refine lv_if_ne (tgt := 55) hx hb dX10_tries_48 (by decide) (fun hc => ?_) (fun hc => ?_)
      · have hf := g_f hc hf
        refine lv_aload_n hx hb dX10_tries_55 rfl (lv_at hl 1 rfl) ?_
        refine g_get hx hb hG hown hK hw inlX10 (ci := 8) rfl 0 7 (Nat.le_of_ble_eq_true rfl) rfl rfl wd_2_10 dX10_tries_56 ?_
        refine lv_iload_n hx hb dX10_tries_59 rfl (lv_at hl 0 rfl) ?_
        obtain ⟨⟨r7_0, r7_1⟩, hc8, hf⟩ := gB_s hf
        refine g_ki (is := [1, 2, 3]) (isR := [0, 4, 5, 6, 7]) (nW := 8) (w1 := (wX2_mostLeft E o_t_flight a_t_flight r3_0 r3_1 r7_1)) (ws' := (wX10_tries E o_t o_t_firstImage o_t_secondImage o_t_pad o_t_hours o_t_growth o_t_draws o_t_flight a_t_flight o_t_now o_t_now_meadow o_t_now_sights a_t_now_sights v_t_imagesKept r3_0 v_t_now_sights_count r3_1 r7_1 f_t_now_sights_breaths f_t_now_sights_flews)) hw hA (g_rV hx hb hml hG hown hK hw (is := [1, 2, 3]) rfl (by decide) (mX2_mostLeft l E o_t_flight a_t_flight r3_0 r3_1 r5_1 r5_0 r7_0 r7_1 hc8) wd_33_9 wd_33_2 wd_33_3 wd_2_9 wd_33_4 hX2_mostLeft g_allgood ⟨rfl, rfl⟩ ⟨Nat.le_of_ble_eq_true rfl, Nat.le_of_ble_eq_true rfl⟩ ⟨Nat.zero_le _, Nat.zero_le _⟩ (ci := 1) (q0 := 0) rfl rfl rfl rfl hl.1 rfl (Nat.le_of_ble_eq_true rfl) dX10_tries_60) rfl (g_had [o_t_flight, (a_t_flight 0), (a_t_flight 2)] rfl rfl) rfl (⟨⟨_, rfl, rfl⟩, ⟨⟨_, rfl, rfl⟩, ⟨⟨_, rfl, rfl⟩, ⟨⟨_, rfl, rfl⟩, ⟨⟨_, rfl, rfl⟩, trivial⟩⟩⟩⟩⟩) rfl rfl (by decide) (fun H locs hw => ?_)
        exact B63 r3_0 r3_1 r7_1 r7_0 _ _ _ hf hw (lv_sub hl [] rfl)
      · have hf := g_t hc hf
        refine lv_iload_n hx hb dX10_tries_51 rfl (lv_at hl 0 rfl) ?_
        refine lv_goto (tgt := 63) hx hb dX10_tries_52 (by decide) ?_
        exact B63 r3_0 r3_1 r5_1 r5_0 _ _ _ hf hw (lv_sub hl [] rfl)
    · have hf := g_t hc hf
      refine lv_bipush (v := -6) hx hb dX10_tries_36 k_bm6 ?_
      exact hret1 ((-6), r3_0, r3_1, f_t_flight_left) _ _ _ _ hf hw dX10_tries_38
  · have hf := g_t hc hf
    refine lv_bipush (v := -2) hx hb dX10_tries_9 k_bm2 ?_
    exact hret1 ((-2), v_t_flight_count, f_t_flight_twos, f_t_flight_left) _ _ _ _ hf hw dX10_tries_11
theorem hX10_gusts : yX10_gusts.cls = RX10 ∧ yX10_gusts.cls ≠ "java/lang/invoke/MethodHandle" ∧ yX10_gusts.cls ≠ "java/lang/invoke/VarHandle" ∧ (parseMethodDescriptor yX10_gusts.desc).map (fun d => d.parameters.length) = some 4 := by decide +kernel
set_option maxHeartbeats 4000000 in
set_option maxRecDepth 100000 in
theorem mX10_gusts (l : Launch) (E : gE) (o_t : Nat) (o_t_now : Nat) (o_t_firstImage : Nat) (o_t_secondImage : Nat) (o_t_pad : Nat) (o_t_hours : Nat) (o_t_growth : Nat) (o_t_draws : Nat) (o_t_flight : Nat) (a_t_flight : (Nat → Nat)) (v_t_imagesKept : Int32) (v_t_flight_count : Int32) (f_t_flight_ways : (Nat → Int32)) (f_t_flight_waysOn : (Nat → Int32)) (x1 : Int32) (x2 : Int32) (x3 : Int32) (x4 : Int32) (rv : Int64) (z_t_flight_ways : (Nat → Int32)) (z_t_flight_waysOn : (Nat → Int32)) (hf : fX10_gusts f_t_flight_ways f_t_flight_waysOn x1 x2 x3 x4 = some (rv, z_t_flight_ways, z_t_flight_waysOn)) {sz : Nat} : gMl l yX10_gusts (gW yX10_gusts cX10_gusts 6 (some .long)) ({ frames := 4, cells := 0, slots := 0, locals := 99 } : Room) E [.ref o_t, .int x1, .int x2, .int x3, .int x4] (wX10_gusts E o_t o_t_now o_t_firstImage o_t_secondImage o_t_pad o_t_hours o_t_growth o_t_draws o_t_flight a_t_flight v_t_imagesKept v_t_flight_count f_t_flight_ways f_t_flight_waysOn) sz rv (wX10_gusts E o_t o_t_now o_t_firstImage o_t_secondImage o_t_pad o_t_hours o_t_growth o_t_draws o_t_flight a_t_flight v_t_imagesKept v_t_flight_count z_t_flight_ways z_t_flight_waysOn) := by
  refine g_openL (own := RX10) (by decide) rfl (Nat.le_of_ble_eq_true rfl) (fun p e s m args below meth cd Q A hx hb hml hown hG hK hA hret hw ls hl => ?_)
  have hl : lv_has ls 6 [(0, .ref o_t), (1, .int x1), (2, .int x2), (3, .int x3), (4, .int x4)] := hl
  have hret1 : ∀ (t : Int64 × (Nat → Int32) × (Nat → Int32)) (H : Heap) (locs : List Loc) (pc : Nat) (ls : Array Slot), some t = some (rv, z_t_flight_ways, z_t_flight_waysOn) → gS E A s.heap (wX10_gusts E o_t o_t_now o_t_firstImage o_t_secondImage o_t_pad o_t_hours o_t_growth o_t_draws o_t_flight a_t_flight v_t_imagesKept v_t_flight_count t.2.1 t.2.2) H locs → decode cX10_gusts pc = .ok (.lreturn, 1) → W p l e ({ frames := 4, cells := 0, slots := 0, locals := 99 } : Room) s m args below meth cd H locs 0 0 Q (F0 m pc ls [.long t.1]) := by
    intro t H locs pc ls h hw hd
    obtain rfl : t = (rv, z_t_flight_ways, z_t_flight_waysOn) := Option.some.inj h
    exact hret H locs pc ls hw hd
  have B50 : ∀ (f_t_flight_ways : (Nat → Int32)) (f_t_flight_waysOn : (Nat → Int32)) (H : Heap) (locs : List Loc) (ls : Array Slot), fX10_gusts_b50 f_t_flight_ways f_t_flight_waysOn = some (rv, z_t_flight_ways, z_t_flight_waysOn) → gS E A s.heap (wX10_gusts E o_t o_t_now o_t_firstImage o_t_secondImage o_t_pad o_t_hours o_t_growth o_t_draws o_t_flight a_t_flight v_t_imagesKept v_t_flight_count f_t_flight_ways f_t_flight_waysOn) H locs → lv_has ls 6 [] → W p l e ({ frames := 4, cells := 0, slots := 0, locals := 99 } : Room) s m args below meth cd H locs 0 0 Q (F0 m 50 ls []) := by
    intro  f_t_flight_ways f_t_flight_waysOn H locs ls hf hw hl
    refine lv_ldc2 hx hb hown (hG _ wd_33_22) dX10_gusts_50 ?_
    exact hret1 ((-1000000000000000002), f_t_flight_ways, f_t_flight_waysOn) _ _ _ _ hf hw dX10_gusts_53
  have B17 : ∀ (f_t_flight_ways : (Nat → Int32)) (f_t_flight_waysOn : (Nat → Int32)) (x1 : Int32) (x2 : Int32) (x3 : Int32) (x4 : Int32) (s0 : Int32) (H : Heap) (locs : List Loc) (ls : Array Slot), fX10_gusts_b17 f_t_flight_ways f_t_flight_waysOn x1 x2 x3 x4 s0 = some (rv, z_t_flight_ways, z_t_flight_waysOn) → gS E A s.heap (wX10_gusts E o_t o_t_now o_t_firstImage o_t_secondImage o_t_pad o_t_hours o_t_growth o_t_draws o_t_flight a_t_flight v_t_imagesKept v_t_flight_count f_t_flight_ways f_t_flight_waysOn) H locs → lv_has ls 6 [(0, .ref o_t), (1, .int x1), (2, .int x2), (3, .int x3), (4, .int x4)] → W p l e ({ frames := 4, cells := 0, slots := 0, locals := 99 } : Room) s m args below meth cd H locs 0 0 Q (F0 m 17 ls [.int s0]) := by
    intro  f_t_flight_ways f_t_flight_waysOn x1 x2 x3 x4 s0 H locs ls hf hw hl
    refine lv_istore (lv' := [(5, .int s0), (0, .ref o_t), (1, .int x1), (2, .int x2), (3, .int x3), (4, .int x4)]) hx hb dX10_gusts_17 hl (Nat.le_of_ble_eq_true rfl) rfl (fun ls hl => ?_)
    refine lv_iload_n hx hb dX10_gusts_19 rfl (lv_at hl 2 rfl) ?_
    obtain ⟨r1, hc2, hf⟩ := gB_s hf
    refine g_ki0 (is := []) hw hA (g_rS hx hb hml hG hown hK hw (is := []) rfl (by decide) (mX10_isField l E x1 r1 hc2) wd_7_4 wd_7_5 wd_1_2 wd_7_6 hX10_isField g_allgood ⟨rfl, rfl⟩ ⟨Nat.le_of_ble_eq_true rfl, Nat.le_of_ble_eq_true rfl⟩ ⟨Nat.zero_le _, Nat.zero_le _⟩ rfl hl.1 rfl (Nat.le_of_ble_eq_true rfl) dX10_gusts_20) rfl (fun H locs hw => ?_)
    refine lv_if_eq (tgt := 50) hx hb dX10_gusts_23 (by decide) (fun hc => ?_) (fun hc => ?_)
    · have hf := g_t hc hf
      exact B50 f_t_flight_ways f_t_flight_waysOn _ _ _ hf hw (lv_sub hl [] rfl)
    · have hf := g_f hc hf
      refine lv_iload hx hb dX10_gusts_26 (lv_at hl 0 rfl) ?_
      refine lv_if_eq (tgt := 50) hx hb dX10_gusts_28 (by decide) (fun hc => ?_) (fun hc => ?_)
      · have hf := g_t hc hf
        exact B50 f_t_flight_ways f_t_flight_waysOn _ _ _ hf hw (lv_sub hl [] rfl)
      · have hf := g_f hc hf
        refine lv_iload_n hx hb dX10_gusts_31 rfl (lv_at hl 4 rfl) ?_
        refine lv_iconst (v := 0) hx hb dX10_gusts_32 k_i0 ?_
        refine lv_iconst (v := 5) hx hb dX10_gusts_33 k_i5 ?_
        obtain ⟨r3, hc4, hf⟩ := gB_s hf
        refine g_ki0 (is := []) hw hA (g_rS hx hb hml hG hown hK hw (is := []) rfl (by decide) (mX10_within l E x3 0 5 r3 hc4) wd_7_1 wd_7_2 wd_1_2 wd_7_3 hX10_within g_allgood ⟨rfl, rfl⟩ ⟨Nat.le_of_ble_eq_true rfl, Nat.le_of_ble_eq_true rfl⟩ ⟨Nat.zero_le _, Nat.zero_le _⟩ rfl hl.1 rfl (Nat.le_of_ble_eq_true rfl) dX10_gusts_34) rfl (fun H locs hw => ?_)
        refine lv_if_eq (tgt := 50) hx hb dX10_gusts_37 (by decide) (fun hc => ?_) (fun hc => ?_)
        · have hf := g_t hc hf
          exact B50 f_t_flight_ways f_t_flight_waysOn _ _ _ hf hw (lv_sub hl [] rfl)
        · have hf := g_f hc hf
          refine lv_iload hx hb dX10_gusts_40 (lv_at hl 5 rfl) ?_
          refine lv_iconst (v := 0) hx hb dX10_gusts_42 k_i0 ?_
          refine lv_iconst (v := 1) hx hb dX10_gusts_43 k_i1 ?_
          obtain ⟨r5, hc6, hf⟩ := gB_s hf
          refine g_ki0 (is := []) hw hA (g_rS hx hb hml hG hown hK hw (is := []) rfl (by decide) (mX10_within l E x4 0 1 r5 hc6) wd_7_1 wd_7_2 wd_1_2 wd_7_3 hX10_within g_allgood ⟨rfl, rfl⟩ ⟨Nat.le_of_ble_eq_true rfl, Nat.le_of_ble_eq_true rfl⟩ ⟨Nat.zero_le _, Nat.zero_le _⟩ rfl hl.1 rfl (Nat.le_of_ble_eq_true rfl) dX10_gusts_44) rfl (fun H locs hw => ?_)
          refine lv_if_ne (tgt := 54) hx hb dX10_gusts_47 (by decide) (fun hc => ?_) (fun hc => ?_)
          · have hf := g_f hc hf
            refine lv_aload_n hx hb dX10_gusts_54 rfl (lv_at hl 1 rfl) ?_
            refine g_get hx hb hG hown hK hw inlX10 (ci := 8) rfl 0 7 (Nat.le_of_ble_eq_true rfl) rfl rfl wd_2_10 dX10_gusts_55 ?_
            refine lv_iload_n hx hb dX10_gusts_58 rfl (lv_at hl 2 rfl) ?_
            refine lv_iload_n hx hb dX10_gusts_59 rfl (lv_at hl 3 rfl) ?_
            refine lv_iload_n hx hb dX10_gusts_60 rfl (lv_at hl 4 rfl) ?_
            refine lv_iload hx hb dX10_gusts_61 (lv_at hl 5 rfl) ?_
            obtain ⟨⟨r7_0, r7_1, r7_2⟩, hc8, hf⟩ := gB_s hf
            refine g_kl (is := [1, 2, 3]) (isR := [0]) (nW := 4) (w1 := (wX2_chance E o_t_flight a_t_flight v_t_flight_count r7_1 r7_2)) (ws' := (wX10_gusts E o_t o_t_now o_t_firstImage o_t_secondImage o_t_pad o_t_hours o_t_growth o_t_draws o_t_flight a_t_flight v_t_imagesKept v_t_flight_count r7_1 r7_2)) hw hA (g_rV hx hb hml hG hown hK hw (is := [1, 2, 3]) rfl (by decide) (mX2_chance l E o_t_flight a_t_flight v_t_flight_count f_t_flight_ways f_t_flight_waysOn x1 x2 x3 x4 r7_0 r7_1 r7_2 hc8) wd_33_23 wd_34_0 wd_34_1 wd_2_9 wd_34_2 hX2_chance g_allgood ⟨rfl, rfl⟩ ⟨Nat.le_of_ble_eq_true rfl, Nat.le_of_ble_eq_true rfl⟩ ⟨Nat.zero_le _, Nat.zero_le _⟩ (ci := 1) (q0 := 0) rfl rfl rfl rfl hl.1 rfl (Nat.le_of_ble_eq_true rfl) dX10_gusts_63) rfl (g_had [o_t_flight, (a_t_flight 3), (a_t_flight 4)] rfl rfl) rfl (⟨⟨_, rfl, rfl⟩, trivial⟩) rfl rfl (by decide) (fun H locs hw => ?_)
            exact hret1 (r7_0, r7_1, r7_2) _ _ _ _ hf hw dX10_gusts_66
          · have hf := g_t hc hf
            exact B50 f_t_flight_ways f_t_flight_waysOn _ _ _ hf hw (lv_sub hl [] rfl)
  have B12 : ∀ (f_t_flight_ways : (Nat → Int32)) (f_t_flight_waysOn : (Nat → Int32)) (x1 : Int32) (x2 : Int32) (x3 : Int32) (x4 : Int32) (H : Heap) (locs : List Loc) (ls : Array Slot), fX10_gusts_b12 f_t_flight_ways f_t_flight_waysOn x1 x2 x3 x4 = some (rv, z_t_flight_ways, z_t_flight_waysOn) → gS E A s.heap (wX10_gusts E o_t o_t_now o_t_firstImage o_t_secondImage o_t_pad o_t_hours o_t_growth o_t_draws o_t_flight a_t_flight v_t_imagesKept v_t_flight_count f_t_flight_ways f_t_flight_waysOn) H locs → lv_has ls 6 [(0, .ref o_t), (1, .int x1), (2, .int x2), (3, .int x3), (4, .int x4)] → W p l e ({ frames := 4, cells := 0, slots := 0, locals := 99 } : Room) s m args below meth cd H locs 0 0 Q (F0 m 12 ls []) := by
    intro  f_t_flight_ways f_t_flight_waysOn x1 x2 x3 x4 H locs ls hf hw hl
    refine lv_iconst (v := 1) hx hb dX10_gusts_12 k_i1 ?_
    refine lv_goto (tgt := 17) hx hb dX10_gusts_13 (by decide) ?_
    exact B17 f_t_flight_ways f_t_flight_waysOn x1 x2 x3 x4 1 _ _ _ hf hw (lv_sub hl [0, 1, 2, 3, 4] rfl)
  refine lv_iload_n hx hb dX10_gusts_0 rfl (lv_at hl 2 rfl) ?_
  refine lv_iconst (v := -1) hx hb dX10_gusts_1 k_im1 ?_
  refine lv_icmp_eq (tgt := 12) hx hb dX10_gusts_2 (by decide) (fun hc => ?_) (fun hc => ?_)
  · have hf := g_t hc hf
    exact B12 f_t_flight_ways f_t_flight_waysOn x1 x2 x3 x4 _ _ _ hf hw (lv_sub hl [0, 1, 2, 3, 4] rfl)
  · have hf := g_f hc hf
    refine lv_iload_n hx hb dX10_gusts_5 rfl (lv_at hl 2 rfl) ?_
    obtain ⟨r9, hc10, hf⟩ := gB_s hf
    refine g_ki0 (is := []) hw hA (g_rS hx hb hml hG hown hK hw (is := []) rfl (by decide) (mX10_isField l E x2 r9 hc10) wd_7_4 wd_7_5 wd_1_2 wd_7_6 hX10_isField g_allgood ⟨rfl, rfl⟩ ⟨Nat.le_of_ble_eq_true rfl, Nat.le_of_ble_eq_true rfl⟩ ⟨Nat.zero_le _, Nat.zero_le _⟩ rfl hl.1 rfl (Nat.le_of_ble_eq_true rfl) dX10_gusts_6) rfl (fun H locs hw => ?_)
    refine lv_if_eq (tgt := 16) hx hb dX10_gusts_9 (by decide) (fun hc => ?_) (fun hc => ?_)
    · have hf := g_t hc hf
      refine lv_iconst (v := 0) hx hb dX10_gusts_16 k_i0 ?_
      exact B17 f_t_flight_ways f_t_flight_waysOn x1 x2 x3 x4 0 _ _ _ hf hw (lv_sub hl [0, 1, 2, 3, 4] rfl)
    · have hf := g_f hc hf
      exact B12 f_t_flight_ways f_t_flight_waysOn x1 x2 x3 x4 _ _ _ hf hw (lv_sub hl [0, 1, 2, 3, 4] rfl)
theorem hX10_lovers : yX10_lovers.cls = RX10 ∧ yX10_lovers.cls ≠ "java/lang/invoke/MethodHandle" ∧ yX10_lovers.cls ≠ "java/lang/invoke/VarHandle" ∧ (parseMethodDescriptor yX10_lovers.desc).map (fun d => d.parameters.length) = some 3 := by decide +kernel
set_option maxHeartbeats 4000000 in
set_option maxRecDepth 100000 in
theorem mX10_lovers (l : Launch) (E : gE) (o_t : Nat) (o_t_now : Nat) (o_t_firstImage : Nat) (o_t_secondImage : Nat) (o_t_pad : Nat) (o_t_hours : Nat) (o_t_growth : Nat) (o_t_flight : Nat) (o_t_draws : Nat) (v_t_imagesKept : Int32) (x1 : Int32) (x2 : Int32) (x3 : Int32) (rv : Int32) (hf : fX10_lovers x1 x2 x3 = some rv) {sz : Nat} : gMi l yX10_lovers (gW yX10_lovers cX10_lovers 5 (some .int)) ({ frames := 1, cells := 0, slots := 0, locals := 22 } : Room) E [.ref o_t, .int x1, .int x2, .int x3] (wX10_lovers E o_t o_t_now o_t_firstImage o_t_secondImage o_t_pad o_t_hours o_t_growth o_t_flight o_t_draws v_t_imagesKept) sz rv (wX10_lovers E o_t o_t_now o_t_firstImage o_t_secondImage o_t_pad o_t_hours o_t_growth o_t_flight o_t_draws v_t_imagesKept) := by
  refine g_openI (own := RX10) (by decide) rfl (Nat.le_of_ble_eq_true rfl) (fun p e s m args below meth cd Q A hx hb hml hown hG hK hA hret hw ls hl => ?_)
  have hl : lv_has ls 5 [(0, .ref o_t), (1, .int x1), (2, .int x2), (3, .int x3)] := hl
  have hret1 : ∀ (t : Int32) (H : Heap) (locs : List Loc) (pc : Nat) (ls : Array Slot), some t = some rv → gS E A s.heap (wX10_lovers E o_t o_t_now o_t_firstImage o_t_secondImage o_t_pad o_t_hours o_t_growth o_t_flight o_t_draws v_t_imagesKept) H locs → decode cX10_lovers pc = .ok (.ireturn, 1) → W p l e ({ frames := 1, cells := 0, slots := 0, locals := 22 } : Room) s m args below meth cd H locs 0 0 Q (F0 m pc ls [.int t]) := by
    intro t H locs pc ls h hw hd
    obtain rfl : t = rv := Option.some.inj h
    exact hret H locs pc ls hw hd
  have B29 : ∀ (H : Heap) (locs : List Loc) (ls : Array Slot), fX10_lovers_b29 = some rv → gS E A s.heap (wX10_lovers E o_t o_t_now o_t_firstImage o_t_secondImage o_t_pad o_t_hours o_t_growth o_t_flight o_t_draws v_t_imagesKept) H locs → lv_has ls 5 [] → W p l e ({ frames := 1, cells := 0, slots := 0, locals := 22 } : Room) s m args below meth cd H locs 0 0 Q (F0 m 29 ls []) := by
    intro   H locs ls hf hw hl
    refine lv_bipush (v := -2) hx hb dX10_lovers_29 k_bm2 ?_
    exact hret1 (-2) _ _ _ _ hf hw dX10_lovers_31
  have B53 : ∀ (s0 : Int32) (H : Heap) (locs : List Loc) (ls : Array Slot), fX10_lovers_b53 s0 = some rv → gS E A s.heap (wX10_lovers E o_t o_t_now o_t_firstImage o_t_secondImage o_t_pad o_t_hours o_t_growth o_t_flight o_t_draws v_t_imagesKept) H locs → lv_has ls 5 [] → W p l e ({ frames := 1, cells := 0, slots := 0, locals := 22 } : Room) s m args below meth cd H locs 0 0 Q (F0 m 53 ls [.int s0]) := by
    intro  s0 H locs ls hf hw hl
    exact hret1 s0 _ _ _ _ hf hw dX10_lovers_53
  have B66 : ∀ (s0 : Int32) (H : Heap) (locs : List Loc) (ls : Array Slot), fX10_lovers_b66 s0 = some rv → gS E A s.heap (wX10_lovers E o_t o_t_now o_t_firstImage o_t_secondImage o_t_pad o_t_hours o_t_growth o_t_flight o_t_draws v_t_imagesKept) H locs → lv_has ls 5 [] → W p l e ({ frames := 1, cells := 0, slots := 0, locals := 22 } : Room) s m args below meth cd H locs 0 0 Q (F0 m 66 ls [.int s0]) := by
    intro  s0 H locs ls hf hw hl
    exact hret1 s0 _ _ _ _ hf hw dX10_lovers_66
  refine lv_iload_n hx hb dX10_lovers_0 rfl (lv_at hl 1 rfl) ?_
  refine lv_iconst (v := 0) hx hb dX10_lovers_1 k_i0 ?_
  refine lv_bipush (v := 99) hx hb dX10_lovers_2 k_b99 ?_
  obtain ⟨r1, hc2, hf⟩ := gB_s hf
  refine g_ki0 (is := []) hw hA (g_rS hx hb hml hG hown hK hw (is := []) rfl (by decide) (mX10_within l E x1 0 99 r1 hc2) wd_7_1 wd_7_2 wd_1_2 wd_7_3 hX10_within g_allgood ⟨rfl, rfl⟩ ⟨Nat.le_of_ble_eq_true rfl, Nat.le_of_ble_eq_true rfl⟩ ⟨Nat.zero_le _, Nat.zero_le _⟩ rfl hl.1 rfl (Nat.le_of_ble_eq_true rfl) dX10_lovers_4) rfl (fun H locs hw => ?_)
  refine lv_if_eq (tgt := 29) hx hb dX10_lovers_7 (by decide) (fun hc => ?_) (fun hc => ?_)
  · have hf := g_t hc hf
    exact B29 _ _ _ hf hw (lv_sub hl [] rfl)
  · have hf := g_f hc hf
    refine lv_iload_n hx hb dX10_lovers_10 rfl (lv_at hl 2 rfl) ?_
    refine lv_iconst (v := 1) hx hb dX10_lovers_11 k_i1 ?_
    refine lv_bipush (v := 9) hx hb dX10_lovers_12 k_b9 ?_
    obtain ⟨r3, hc4, hf⟩ := gB_s hf
    refine g_ki0 (is := []) hw hA (g_rS hx hb hml hG hown hK hw (is := []) rfl (by decide) (mX10_within l E x2 1 9 r3 hc4) wd_7_1 wd_7_2 wd_1_2 wd_7_3 hX10_within g_allgood ⟨rfl, rfl⟩ ⟨Nat.le_of_ble_eq_true rfl, Nat.le_of_ble_eq_true rfl⟩ ⟨Nat.zero_le _, Nat.zero_le _⟩ rfl hl.1 rfl (Nat.le_of_ble_eq_true rfl) dX10_lovers_14) rfl (fun H locs hw => ?_)
    refine lv_if_eq (tgt := 29) hx hb dX10_lovers_17 (by decide) (fun hc => ?_) (fun hc => ?_)
    · have hf := g_t hc hf
      exact B29 _ _ _ hf hw (lv_sub hl [] rfl)
    · have hf := g_f hc hf
      refine lv_iload_n hx hb dX10_lovers_20 rfl (lv_at hl 3 rfl) ?_
      refine lv_iconst (v := 0) hx hb dX10_lovers_21 k_i0 ?_
      refine lv_iconst (v := 1) hx hb dX10_lovers_22 k_i1 ?_
      obtain ⟨r5, hc6, hf⟩ := gB_s hf
      refine g_ki0 (is := []) hw hA (g_rS hx hb hml hG hown hK hw (is := []) rfl (by decide) (mX10_within l E x3 0 1 r5 hc6) wd_7_1 wd_7_2 wd_1_2 wd_7_3 hX10_within g_allgood ⟨rfl, rfl⟩ ⟨Nat.le_of_ble_eq_true rfl, Nat.le_of_ble_eq_true rfl⟩ ⟨Nat.zero_le _, Nat.zero_le _⟩ rfl hl.1 rfl (Nat.le_of_ble_eq_true rfl) dX10_lovers_23) rfl (fun H locs hw => ?_)
      refine lv_if_ne (tgt := 32) hx hb dX10_lovers_26 (by decide) (fun hc => ?_) (fun hc => ?_)
      · have hf := g_f hc hf
        refine lv_iload_n hx hb dX10_lovers_32 rfl (lv_at hl 1 rfl) ?_
        refine lv_iload_n hx hb dX10_lovers_33 rfl (lv_at hl 2 rfl) ?_
        refine lv_iconst (v := 1) hx hb dX10_lovers_34 k_i1 ?_
        refine lv_iadd hx hb dX10_lovers_35 ?_
        obtain ⟨hd7, hf⟩ := gD_s hf
        refine g_irem hx hb dX10_lovers_36 hd7 ?_
        refine lv_istore (lv' := [(4, .int (x1 % (x2 + 1))), (0, .ref o_t), (1, .int x1), (2, .int x2), (3, .int x3)]) hx hb dX10_lovers_37 hl (Nat.le_of_ble_eq_true rfl) rfl (fun ls hl => ?_)
        refine lv_iload_n hx hb dX10_lovers_39 rfl (lv_at hl 4 rfl) ?_
        refine lv_if_ne (tgt := 54) hx hb dX10_lovers_40 (by decide) (fun hc => ?_) (fun hc => ?_)
        · have hf := g_f hc hf
          refine lv_iload hx hb dX10_lovers_54 (lv_at hl 0 rfl) ?_
          refine lv_if_ne (tgt := 64) hx hb dX10_lovers_56 (by decide) (fun hc => ?_) (fun hc => ?_)
          · have hf := g_f hc hf
            refine lv_iload hx hb dX10_lovers_64 (lv_at hl 0 rfl) ?_
            exact B66 (x1 % (x2 + 1)) _ _ _ hf hw (lv_sub hl [] rfl)
          · have hf := g_t hc hf
            refine lv_bipush (v := -6) hx hb dX10_lovers_59 k_bm6 ?_
            refine lv_goto (tgt := 66) hx hb dX10_lovers_61 (by decide) ?_
            exact B66 (-6) _ _ _ hf hw (lv_sub hl [] rfl)
        · have hf := g_t hc hf
          refine lv_iload hx hb dX10_lovers_43 (lv_at hl 0 rfl) ?_
          refine lv_if_ne (tgt := 52) hx hb dX10_lovers_45 (by decide) (fun hc => ?_) (fun hc => ?_)
          · have hf := g_f hc hf
            refine lv_iconst (v := 1) hx hb dX10_lovers_52 k_i1 ?_
            exact B53 1 _ _ _ hf hw (lv_sub hl [] rfl)
          · have hf := g_t hc hf
            refine lv_iconst (v := 0) hx hb dX10_lovers_48 k_i0 ?_
            refine lv_goto (tgt := 53) hx hb dX10_lovers_49 (by decide) ?_
            exact B53 0 _ _ _ hf hw (lv_sub hl [] rfl)
      · have hf := g_t hc hf
        exact B29 _ _ _ hf hw (lv_sub hl [] rfl)
theorem hX10_year : yX10_year.cls = RX10 ∧ yX10_year.cls ≠ "java/lang/invoke/MethodHandle" ∧ yX10_year.cls ≠ "java/lang/invoke/VarHandle" ∧ (parseMethodDescriptor yX10_year.desc).map (fun d => d.parameters.length) = some 3 := by decide +kernel
set_option maxHeartbeats 4000000 in
set_option maxRecDepth 100000 in
theorem mX10_year (l : Launch) (E : gE) (o_t : Nat) (o_t_firstImage : Nat) (o_t_secondImage : Nat) (o_t_pad : Nat) (o_t_hours : Nat) (o_t_growth : Nat) (o_t_flight : Nat) (o_t_draws : Nat) (o_t_draws_meadow : Nat) (a_t_draws_meadow : (Nat → Nat)) (o_t_now : Nat) (o_t_now_sights : Nat) (o_t_now_meadow : Nat) (a_t_now_meadow : (Nat → Nat)) (v_t_imagesKept : Int32) (v_t_draws_kind : Int32) (v_t_draws_first : Int32) (v_t_draws_second : Int32) (v_t_draws_meadow_families : Int32) (v_t_draws_meadow_wind : Int32) (v_t_draws_meadow_force : Int32) (v_t_draws_meadow_rain : Int32) (v_t_draws_meadow_lost : Int32) (v_t_draws_meadow_hour : Int32) (v_t_now_meadow_families : Int32) (v_t_now_meadow_wind : Int32) (v_t_now_meadow_force : Int32) (v_t_now_meadow_rain : Int32) (v_t_now_meadow_lost : Int32) (v_t_now_meadow_hour : Int32) (f_t_draws_meadow_home : (Nat → Int32)) (f_t_draws_meadow_seeds : (Nat → Int32)) (f_t_draws_meadow_lungs : (Nat → Int32)) (f_t_draws_meadow_blown : (Nat → Int32)) (f_t_draws_meadow_ground : (Nat → Int32)) (f_t_now_meadow_home : (Nat → Int32)) (f_t_now_meadow_seeds : (Nat → Int32)) (f_t_now_meadow_lungs : (Nat → Int32)) (f_t_now_meadow_blown : (Nat → Int32)) (f_t_now_meadow_ground : (Nat → Int32)) (x1 : Int32) (x2 : Int32) (x3 : Int32) (rv : Int32) (z_t_draws_kind : Int32) (z_t_draws_first : Int32) (z_t_draws_second : Int32) (z_t_draws_meadow_families : Int32) (z_t_draws_meadow_wind : Int32) (z_t_draws_meadow_force : Int32) (z_t_draws_meadow_rain : Int32) (z_t_draws_meadow_lost : Int32) (z_t_draws_meadow_hour : Int32) (z_t_draws_meadow_home : (Nat → Int32)) (z_t_draws_meadow_seeds : (Nat → Int32)) (z_t_draws_meadow_lungs : (Nat → Int32)) (z_t_draws_meadow_blown : (Nat → Int32)) (z_t_draws_meadow_ground : (Nat → Int32)) (hf : fX10_year v_t_draws_kind v_t_draws_first v_t_draws_second v_t_draws_meadow_families v_t_draws_meadow_wind v_t_draws_meadow_force v_t_draws_meadow_rain v_t_draws_meadow_lost v_t_draws_meadow_hour v_t_now_meadow_families v_t_now_meadow_wind v_t_now_meadow_force v_t_now_meadow_rain v_t_now_meadow_lost v_t_now_meadow_hour f_t_draws_meadow_home f_t_draws_meadow_seeds f_t_draws_meadow_lungs f_t_draws_meadow_blown f_t_draws_meadow_ground f_t_now_meadow_home f_t_now_meadow_seeds f_t_now_meadow_lungs f_t_now_meadow_blown f_t_now_meadow_ground x1 x2 x3 = some (rv, z_t_draws_kind, z_t_draws_first, z_t_draws_second, z_t_draws_meadow_families, z_t_draws_meadow_wind, z_t_draws_meadow_force, z_t_draws_meadow_rain, z_t_draws_meadow_lost, z_t_draws_meadow_hour, z_t_draws_meadow_home, z_t_draws_meadow_seeds, z_t_draws_meadow_lungs, z_t_draws_meadow_blown, z_t_draws_meadow_ground)) {sz : Nat} : gMi l yX10_year (gW yX10_year cX10_year 4 (some .int)) ({ frames := 5, cells := 0, slots := 0, locals := 119 } : Room) E [.ref o_t, .int x1, .int x2, .int x3] (wX10_year E o_t o_t_firstImage o_t_secondImage o_t_pad o_t_hours o_t_growth o_t_flight o_t_draws o_t_draws_meadow a_t_draws_meadow o_t_now o_t_now_sights o_t_now_meadow a_t_now_meadow v_t_imagesKept v_t_draws_kind v_t_draws_first v_t_draws_second v_t_draws_meadow_families v_t_draws_meadow_wind v_t_draws_meadow_force v_t_draws_meadow_rain v_t_draws_meadow_lost v_t_draws_meadow_hour v_t_now_meadow_families v_t_now_meadow_wind v_t_now_meadow_force v_t_now_meadow_rain v_t_now_meadow_lost v_t_now_meadow_hour f_t_draws_meadow_home f_t_draws_meadow_seeds f_t_draws_meadow_lungs f_t_draws_meadow_blown f_t_draws_meadow_ground f_t_now_meadow_home f_t_now_meadow_seeds f_t_now_meadow_lungs f_t_now_meadow_blown f_t_now_meadow_ground) sz rv (wX10_year E o_t o_t_firstImage o_t_secondImage o_t_pad o_t_hours o_t_growth o_t_flight o_t_draws o_t_draws_meadow a_t_draws_meadow o_t_now o_t_now_sights o_t_now_meadow a_t_now_meadow v_t_imagesKept z_t_draws_kind z_t_draws_first z_t_draws_second z_t_draws_meadow_families z_t_draws_meadow_wind z_t_draws_meadow_force z_t_draws_meadow_rain z_t_draws_meadow_lost z_t_draws_meadow_hour v_t_now_meadow_families v_t_now_meadow_wind v_t_now_meadow_force v_t_now_meadow_rain v_t_now_meadow_lost v_t_now_meadow_hour z_t_draws_meadow_home z_t_draws_meadow_seeds z_t_draws_meadow_lungs z_t_draws_meadow_blown z_t_draws_meadow_ground f_t_now_meadow_home f_t_now_meadow_seeds f_t_now_meadow_lungs f_t_now_meadow_blown f_t_now_meadow_ground) := by
  refine g_openI (own := RX10) (by decide) rfl (Nat.le_of_ble_eq_true rfl) (fun p e s m args below meth cd Q A hx hb hml hown hG hK hA hret hw ls hl => ?_)
  have hl : lv_has ls 4 [(0, .ref o_t), (1, .int x1), (2, .int x2), (3, .int x3)] := hl
  have hret1 : ∀ (t : Int32 × Int32 × Int32 × Int32 × Int32 × Int32 × Int32 × Int32 × Int32 × Int32 × (Nat → Int32) × (Nat → Int32) × (Nat → Int32) × (Nat → Int32) × (Nat → Int32)) (H : Heap) (locs : List Loc) (pc : Nat) (ls : Array Slot), some t = some (rv, z_t_draws_kind, z_t_draws_first, z_t_draws_second, z_t_draws_meadow_families, z_t_draws_meadow_wind, z_t_draws_meadow_force, z_t_draws_meadow_rain, z_t_draws_meadow_lost, z_t_draws_meadow_hour, z_t_draws_meadow_home, z_t_draws_meadow_seeds, z_t_draws_meadow_lungs, z_t_draws_meadow_blown, z_t_draws_meadow_ground) → gS E A s.heap (wX10_year E o_t o_t_firstImage o_t_secondImage o_t_pad o_t_hours o_t_growth o_t_flight o_t_draws o_t_draws_meadow a_t_draws_meadow o_t_now o_t_now_sights o_t_now_meadow a_t_now_meadow v_t_imagesKept t.2.1 t.2.2.1 t.2.2.2.1 t.2.2.2.2.1 t.2.2.2.2.2.1 t.2.2.2.2.2.2.1 t.2.2.2.2.2.2.2.1 t.2.2.2.2.2.2.2.2.1 t.2.2.2.2.2.2.2.2.2.1 v_t_now_meadow_families v_t_now_meadow_wind v_t_now_meadow_force v_t_now_meadow_rain v_t_now_meadow_lost v_t_now_meadow_hour t.2.2.2.2.2.2.2.2.2.2.1 t.2.2.2.2.2.2.2.2.2.2.2.1 t.2.2.2.2.2.2.2.2.2.2.2.2.1 t.2.2.2.2.2.2.2.2.2.2.2.2.2.1 t.2.2.2.2.2.2.2.2.2.2.2.2.2.2 f_t_now_meadow_home f_t_now_meadow_seeds f_t_now_meadow_lungs f_t_now_meadow_blown f_t_now_meadow_ground) H locs → decode cX10_year pc = .ok (.ireturn, 1) → W p l e ({ frames := 5, cells := 0, slots := 0, locals := 119 } : Room) s m args below meth cd H locs 0 0 Q (F0 m pc ls [.int t.1]) := by
    intro t H locs pc ls h hw hd
    obtain rfl : t = (rv, z_t_draws_kind, z_t_draws_first, z_t_draws_second, z_t_draws_meadow_families, z_t_draws_meadow_wind, z_t_draws_meadow_force, z_t_draws_meadow_rain, z_t_draws_meadow_lost, z_t_draws_meadow_hour, z_t_draws_meadow_home, z_t_draws_meadow_seeds, z_t_draws_meadow_lungs, z_t_draws_meadow_blown, z_t_draws_meadow_ground) := Option.some.inj h
    exact hret H locs pc ls hw hd
  have B30 : ∀ (v_t_draws_kind : Int32) (v_t_draws_first : Int32) (v_t_draws_second : Int32) (v_t_draws_meadow_families : Int32) (v_t_draws_meadow_wind : Int32) (v_t_draws_meadow_force : Int32) (v_t_draws_meadow_rain : Int32) (v_t_draws_meadow_lost : Int32) (v_t_draws_meadow_hour : Int32) (f_t_draws_meadow_home : (Nat → Int32)) (f_t_draws_meadow_seeds : (Nat → Int32)) (f_t_draws_meadow_lungs : (Nat → Int32)) (f_t_draws_meadow_blown : (Nat → Int32)) (f_t_draws_meadow_ground : (Nat → Int32)) (H : Heap) (locs : List Loc) (ls : Array Slot), fX10_year_b30 v_t_draws_kind v_t_draws_first v_t_draws_second v_t_draws_meadow_families v_t_draws_meadow_wind v_t_draws_meadow_force v_t_draws_meadow_rain v_t_draws_meadow_lost v_t_draws_meadow_hour f_t_draws_meadow_home f_t_draws_meadow_seeds f_t_draws_meadow_lungs f_t_draws_meadow_blown f_t_draws_meadow_ground = some (rv, z_t_draws_kind, z_t_draws_first, z_t_draws_second, z_t_draws_meadow_families, z_t_draws_meadow_wind, z_t_draws_meadow_force, z_t_draws_meadow_rain, z_t_draws_meadow_lost, z_t_draws_meadow_hour, z_t_draws_meadow_home, z_t_draws_meadow_seeds, z_t_draws_meadow_lungs, z_t_draws_meadow_blown, z_t_draws_meadow_ground) → gS E A s.heap (wX10_year E o_t o_t_firstImage o_t_secondImage o_t_pad o_t_hours o_t_growth o_t_flight o_t_draws o_t_draws_meadow a_t_draws_meadow o_t_now o_t_now_sights o_t_now_meadow a_t_now_meadow v_t_imagesKept v_t_draws_kind v_t_draws_first v_t_draws_second v_t_draws_meadow_families v_t_draws_meadow_wind v_t_draws_meadow_force v_t_draws_meadow_rain v_t_draws_meadow_lost v_t_draws_meadow_hour v_t_now_meadow_families v_t_now_meadow_wind v_t_now_meadow_force v_t_now_meadow_rain v_t_now_meadow_lost v_t_now_meadow_hour f_t_draws_meadow_home f_t_draws_meadow_seeds f_t_draws_meadow_lungs f_t_draws_meadow_blown f_t_draws_meadow_ground f_t_now_meadow_home f_t_now_meadow_seeds f_t_now_meadow_lungs f_t_now_meadow_blown f_t_now_meadow_ground) H locs → lv_has ls 4 [] → W p l e ({ frames := 5, cells := 0, slots := 0, locals := 119 } : Room) s m args below meth cd H locs 0 0 Q (F0 m 30 ls []) := by
    intro  v_t_draws_kind v_t_draws_first v_t_draws_second v_t_draws_meadow_families v_t_draws_meadow_wind v_t_draws_meadow_force v_t_draws_meadow_rain v_t_draws_meadow_lost v_t_draws_meadow_hour f_t_draws_meadow_home f_t_draws_meadow_seeds f_t_draws_meadow_lungs f_t_draws_meadow_blown f_t_draws_meadow_ground H locs ls hf hw hl
    refine lv_bipush (v := -2) hx hb dX10_year_30 k_bm2 ?_
    exact hret1 ((-2), v_t_draws_kind, v_t_draws_first, v_t_draws_second, v_t_draws_meadow_families, v_t_draws_meadow_wind, v_t_draws_meadow_force, v_t_draws_meadow_rain, v_t_draws_meadow_lost, v_t_draws_meadow_hour, f_t_draws_meadow_home, f_t_draws_meadow_seeds, f_t_draws_meadow_lungs, f_t_draws_meadow_blown, f_t_draws_meadow_ground) _ _ _ _ hf hw dX10_year_32
  refine lv_iload_n hx hb dX10_year_0 rfl (lv_at hl 1 rfl) ?_
  refine lv_iconst (v := 0) hx hb dX10_year_1 k_i0 ?_
  refine lv_sipush (v := 9999) hx hb dX10_year_2 k_s9999 ?_
  obtain ⟨r1, hc2, hf⟩ := gB_s hf
  refine g_ki0 (is := []) hw hA (g_rS hx hb hml hG hown hK hw (is := []) rfl (by decide) (mX10_within l E x1 0 9999 r1 hc2) wd_7_1 wd_7_2 wd_1_2 wd_7_3 hX10_within g_allgood ⟨rfl, rfl⟩ ⟨Nat.le_of_ble_eq_true rfl, Nat.le_of_ble_eq_true rfl⟩ ⟨Nat.zero_le _, Nat.zero_le _⟩ rfl hl.1 rfl (Nat.le_of_ble_eq_true rfl) dX10_year_5) rfl (fun H locs hw => ?_)
  refine lv_if_eq (tgt := 30) hx hb dX10_year_8 (by decide) (fun hc => ?_) (fun hc => ?_)
  · have hf := g_t hc hf
    exact B30 v_t_draws_kind v_t_draws_first v_t_draws_second v_t_draws_meadow_families v_t_draws_meadow_wind v_t_draws_meadow_force v_t_draws_meadow_rain v_t_draws_meadow_lost v_t_draws_meadow_hour f_t_draws_meadow_home f_t_draws_meadow_seeds f_t_draws_meadow_lungs f_t_draws_meadow_blown f_t_draws_meadow_ground _ _ _ hf hw (lv_sub hl [] rfl)
  · have hf := g_f hc hf
    refine lv_iload_n hx hb dX10_year_11 rfl (lv_at hl 2 rfl) ?_
    refine lv_iconst (v := 1) hx hb dX10_year_12 k_i1 ?_
    refine lv_bipush (v := 99) hx hb dX10_year_13 k_b99 ?_
    obtain ⟨r3, hc4, hf⟩ := gB_s hf
    refine g_ki0 (is := []) hw hA (g_rS hx hb hml hG hown hK hw (is := []) rfl (by decide) (mX10_within l E x2 1 99 r3 hc4) wd_7_1 wd_7_2 wd_1_2 wd_7_3 hX10_within g_allgood ⟨rfl, rfl⟩ ⟨Nat.le_of_ble_eq_true rfl, Nat.le_of_ble_eq_true rfl⟩ ⟨Nat.zero_le _, Nat.zero_le _⟩ rfl hl.1 rfl (Nat.le_of_ble_eq_true rfl) dX10_year_15) rfl (fun H locs hw => ?_)
    refine lv_if_eq (tgt := 30) hx hb dX10_year_18 (by decide) (fun hc => ?_) (fun hc => ?_)
    · have hf := g_t hc hf
      exact B30 v_t_draws_kind v_t_draws_first v_t_draws_second v_t_draws_meadow_families v_t_draws_meadow_wind v_t_draws_meadow_force v_t_draws_meadow_rain v_t_draws_meadow_lost v_t_draws_meadow_hour f_t_draws_meadow_home f_t_draws_meadow_seeds f_t_draws_meadow_lungs f_t_draws_meadow_blown f_t_draws_meadow_ground _ _ _ hf hw (lv_sub hl [] rfl)
    · have hf := g_f hc hf
      refine lv_iload_n hx hb dX10_year_21 rfl (lv_at hl 3 rfl) ?_
      refine lv_iconst (v := 0) hx hb dX10_year_22 k_i0 ?_
      refine lv_iconst (v := 2) hx hb dX10_year_23 k_i2 ?_
      obtain ⟨r5, hc6, hf⟩ := gB_s hf
      refine g_ki0 (is := []) hw hA (g_rS hx hb hml hG hown hK hw (is := []) rfl (by decide) (mX10_within l E x3 0 2 r5 hc6) wd_7_1 wd_7_2 wd_1_2 wd_7_3 hX10_within g_allgood ⟨rfl, rfl⟩ ⟨Nat.le_of_ble_eq_true rfl, Nat.le_of_ble_eq_true rfl⟩ ⟨Nat.zero_le _, Nat.zero_le _⟩ rfl hl.1 rfl (Nat.le_of_ble_eq_true rfl) dX10_year_24) rfl (fun H locs hw => ?_)
      refine lv_if_ne (tgt := 33) hx hb dX10_year_27 (by decide) (fun hc => ?_) (fun hc => ?_)
      · have hf := g_f hc hf
        refine lv_aload_n hx hb dX10_year_33 rfl (lv_at hl 0 rfl) ?_
        refine g_get hx hb hG hown hK hw inlX10 (ci := 8) rfl 0 8 (Nat.le_of_ble_eq_true rfl) rfl rfl wd_2_14 dX10_year_34 ?_
        refine lv_aload_n hx hb dX10_year_37 rfl (lv_at hl 0 rfl) ?_
        refine g_get hx hb hG hown hK hw inlX10 (ci := 8) rfl 0 0 (Nat.le_of_ble_eq_true rfl) rfl rfl wd_1_15 dX10_year_38 ?_
        refine g_get hx hb hG hown hK hw inlX4 (ci := 3) rfl 8 0 (Nat.le_of_ble_eq_true rfl) rfl rfl wd_7_0 dX10_year_41 ?_
        refine lv_iload_n hx hb dX10_year_44 rfl (lv_at hl 1 rfl) ?_
        refine lv_iload_n hx hb dX10_year_45 rfl (lv_at hl 2 rfl) ?_
        obtain ⟨⟨r7_0, r7_1, r7_2, r7_3, r7_4, r7_5, r7_6, r7_7, r7_8, r7_9, r7_10, r7_11, r7_12, r7_13⟩, hc8, hf⟩ := gB_s hf
        refine g_kv (is := [9, 10, 11, 12, 13, 14, 1, 2, 3, 4, 5, 6, 7]) (isR := [0, 8]) (nW := 15) (w1 := (wX1_run E o_t_now_meadow a_t_now_meadow o_t_draws o_t_draws_meadow a_t_draws_meadow v_t_now_meadow_families v_t_now_meadow_wind v_t_now_meadow_force v_t_now_meadow_rain v_t_now_meadow_lost v_t_now_meadow_hour r7_0 r7_1 r7_2 r7_3 r7_4 r7_5 r7_6 r7_7 r7_8 f_t_now_meadow_home f_t_now_meadow_seeds f_t_now_meadow_lungs f_t_now_meadow_blown f_t_now_meadow_ground r7_9 r7_10 r7_11 r7_12 r7_13)) (ws' := (wX10_year E o_t o_t_firstImage o_t_secondImage o_t_pad o_t_hours o_t_growth o_t_flight o_t_draws o_t_draws_meadow a_t_draws_meadow o_t_now o_t_now_sights o_t_now_meadow a_t_now_meadow v_t_imagesKept r7_0 r7_1 r7_2 r7_3 r7_4 r7_5 r7_6 r7_7 r7_8 v_t_now_meadow_families v_t_now_meadow_wind v_t_now_meadow_force v_t_now_meadow_rain v_t_now_meadow_lost v_t_now_meadow_hour r7_9 r7_10 r7_11 r7_12 r7_13 f_t_now_meadow_home f_t_now_meadow_seeds f_t_now_meadow_lungs f_t_now_meadow_blown f_t_now_meadow_ground)) hw hA (g_rV hx hb hml hG hown hK hw (is := [9, 10, 11, 12, 13, 14, 1, 2, 3, 4, 5, 6, 7]) rfl (by decide) (mX1_run l E o_t_now_meadow a_t_now_meadow o_t_draws o_t_draws_meadow a_t_draws_meadow v_t_now_meadow_families v_t_now_meadow_wind v_t_now_meadow_force v_t_now_meadow_rain v_t_now_meadow_lost v_t_now_meadow_hour v_t_draws_kind v_t_draws_first v_t_draws_second v_t_draws_meadow_families v_t_draws_meadow_wind v_t_draws_meadow_force v_t_draws_meadow_rain v_t_draws_meadow_lost v_t_draws_meadow_hour f_t_now_meadow_home f_t_now_meadow_seeds f_t_now_meadow_lungs f_t_now_meadow_blown f_t_now_meadow_ground f_t_draws_meadow_home f_t_draws_meadow_seeds f_t_draws_meadow_lungs f_t_draws_meadow_blown f_t_draws_meadow_ground x1 x2 r7_0 r7_1 r7_2 r7_3 r7_4 r7_5 r7_6 r7_7 r7_8 r7_9 r7_10 r7_11 r7_12 r7_13 hc8) wd_35_16 wd_35_17 wd_35_18 wd_2_13 wd_35_19 hX1_run g_allgood ⟨rfl, rfl⟩ ⟨Nat.le_of_ble_eq_true rfl, Nat.le_of_ble_eq_true rfl⟩ ⟨Nat.zero_le _, Nat.zero_le _⟩ (ci := 0) (q0 := 6) rfl rfl rfl rfl hl.1 rfl (Nat.le_of_ble_eq_true rfl) dX10_year_46) rfl (g_had [o_t_now_meadow, (a_t_now_meadow 0), (a_t_now_meadow 1), (a_t_now_meadow 2), (a_t_now_meadow 3), (a_t_now_meadow 4), o_t_draws, o_t_draws_meadow, (a_t_draws_meadow 0), (a_t_draws_meadow 1), (a_t_draws_meadow 2), (a_t_draws_meadow 3), (a_t_draws_meadow 4)] rfl rfl) rfl (⟨⟨_, rfl, rfl⟩, ⟨⟨_, rfl, rfl⟩, trivial⟩⟩) rfl rfl (by decide) (fun H locs hw => ?_)
        refine lv_aload_n hx hb dX10_year_49 rfl (lv_at hl 0 rfl) ?_
        refine g_get hx hb hG hown hK hw inlX10 (ci := 8) rfl 0 8 (Nat.le_of_ble_eq_true rfl) rfl rfl wd_2_14 dX10_year_50 ?_
        refine g_get hx hb hG hown hK hw inlX1 (ci := 0) rfl 1 0 (Nat.le_of_ble_eq_true rfl) rfl rfl wd_35_15 dX10_year_53 ?_
        refine lv_iload_n hx hb dX10_year_56 rfl (lv_at hl 3 rfl) ?_
        obtain ⟨r9, hc10, hf⟩ := gB_s hf
        refine g_ki0 (is := [2, 4, 7]) hw hA (g_rS hx hb hml hG hown hK hw (is := [2, 4, 7]) rfl (by decide) (mX10_sumOf l E o_t_draws_meadow a_t_draws_meadow r7_3 r7_4 r7_5 r7_6 r7_7 r7_8 r7_10 r7_13 x3 r9 hc10) wd_23_4 wd_23_5 wd_1_2 wd_23_6 hX10_sumOf g_allgood ⟨rfl, rfl⟩ ⟨Nat.le_of_ble_eq_true rfl, Nat.le_of_ble_eq_true rfl⟩ ⟨Nat.zero_le _, Nat.zero_le _⟩ rfl hl.1 rfl (Nat.le_of_ble_eq_true rfl) dX10_year_57) rfl (fun H locs hw => ?_)
        exact hret1 (r9, r7_0, r7_1, r7_2, r7_3, r7_4, r7_5, r7_6, r7_7, r7_8, r7_9, r7_10, r7_11, r7_12, r7_13) _ _ _ _ hf hw dX10_year_60
      · have hf := g_t hc hf
        exact B30 v_t_draws_kind v_t_draws_first v_t_draws_second v_t_draws_meadow_families v_t_draws_meadow_wind v_t_draws_meadow_force v_t_draws_meadow_rain v_t_draws_meadow_lost v_t_draws_meadow_hour f_t_draws_meadow_home f_t_draws_meadow_seeds f_t_draws_meadow_lungs f_t_draws_meadow_blown f_t_draws_meadow_ground _ _ _ hf hw (lv_sub hl [] rfl)
theorem hX10_imageOf : yX10_imageOf.cls = RX10 ∧ yX10_imageOf.cls ≠ "java/lang/invoke/MethodHandle" ∧ yX10_imageOf.cls ≠ "java/lang/invoke/VarHandle" ∧ (parseMethodDescriptor yX10_imageOf.desc).map (fun d => d.parameters.length) = some 1 := by decide +kernel
set_option maxHeartbeats 4000000 in
set_option maxRecDepth 100000 in
theorem mX10_imageOf (l : Launch) (E : gE) (o_t : Nat) (o_t_now : Nat) (o_t_firstImage : Nat) (o_t_secondImage : Nat) (o_t_pad : Nat) (o_t_hours : Nat) (o_t_growth : Nat) (o_t_flight : Nat) (o_t_draws : Nat) (v_t_imagesKept : Int32) (x1 : Int32) (rv : Int32) (hf : fX10_imageOf x1 = some rv) {sz : Nat} : gMr l yX10_imageOf (gW yX10_imageOf cX10_imageOf 2 (some (.object "SeedBank$Holdings"))) ({ frames := 0, cells := 0, slots := 0, locals := 0 } : Room) E [.ref o_t, .int x1] (wX10_imageOf E o_t o_t_now o_t_firstImage o_t_secondImage o_t_pad o_t_hours o_t_growth o_t_flight o_t_draws v_t_imagesKept) sz (if rv = 0 then o_t_firstImage else o_t_secondImage) (wX10_imageOf E o_t o_t_now o_t_firstImage o_t_secondImage o_t_pad o_t_hours o_t_growth o_t_flight o_t_draws v_t_imagesKept) := by
  refine g_openR (own := RX10) (by decide) rfl (Nat.le_of_ble_eq_true rfl) (fun p e s m args below meth cd Q A hx hb hml hown hG hK hA hret hw ls hl => ?_)
  have hl : lv_has ls 2 [(0, .ref o_t), (1, .int x1)] := hl
  have hret0 : ∀ (t : Int32) (H : Heap) (locs : List Loc) (pc : Nat) (ls : Array Slot), some t = some rv → t = 0 → gS E A s.heap (wX10_imageOf E o_t o_t_now o_t_firstImage o_t_secondImage o_t_pad o_t_hours o_t_growth o_t_flight o_t_draws v_t_imagesKept) H locs → decode cX10_imageOf pc = .ok (.areturn, 1) → W p l e ({ frames := 0, cells := 0, slots := 0, locals := 0 } : Room) s m args below meth cd H locs 0 0 Q (F0 m pc ls [.ref o_t_firstImage]) := by
    intro t H locs pc ls h h0 hw hd
    obtain rfl : t = rv := Option.some.inj h
    have h9 := hret H locs pc ls hw hd
    rw [if_pos h0] at h9
    exact h9
  have hret1 : ∀ (t : Int32) (H : Heap) (locs : List Loc) (pc : Nat) (ls : Array Slot), some t = some rv → t = 1 → gS E A s.heap (wX10_imageOf E o_t o_t_now o_t_firstImage o_t_secondImage o_t_pad o_t_hours o_t_growth o_t_flight o_t_draws v_t_imagesKept) H locs → decode cX10_imageOf pc = .ok (.areturn, 1) → W p l e ({ frames := 0, cells := 0, slots := 0, locals := 0 } : Room) s m args below meth cd H locs 0 0 Q (F0 m pc ls [.ref o_t_secondImage]) := by
    intro t H locs pc ls h h0 hw hd
    obtain rfl : t = rv := Option.some.inj h
    have h9 := hret H locs pc ls hw hd
    rw [if_neg (by rw [h0]; decide)] at h9
    exact h9
  refine lv_iload_n hx hb dX10_imageOf_0 rfl (lv_at hl 1 rfl) ?_
  refine lv_if_ne (tgt := 11) hx hb dX10_imageOf_1 (by decide) (fun hc => ?_) (fun hc => ?_)
  · have hf := g_f hc hf
    refine lv_aload_n hx hb dX10_imageOf_11 rfl (lv_at hl 0 rfl) ?_
    refine g_get hx hb hG hown hK hw inlX10 (ci := 8) rfl 0 2 (Nat.le_of_ble_eq_true rfl) rfl rfl wd_1_17 dX10_imageOf_12 ?_
    exact hret1 1 _ _ _ _ hf rfl hw dX10_imageOf_15
  · have hf := g_t hc hf
    refine lv_aload_n hx hb dX10_imageOf_4 rfl (lv_at hl 0 rfl) ?_
    refine g_get hx hb hG hown hK hw inlX10 (ci := 8) rfl 0 1 (Nat.le_of_ble_eq_true rfl) rfl rfl wd_1_16 dX10_imageOf_5 ?_
    refine lv_goto (tgt := 15) hx hb dX10_imageOf_8 (by decide) ?_
    exact hret0 0 _ _ _ _ hf rfl hw dX10_imageOf_15
