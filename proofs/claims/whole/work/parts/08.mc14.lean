theorem hX6_settle : yX6_settle.cls = RX6 ∧ yX6_settle.cls ≠ "java/lang/invoke/MethodHandle" ∧ yX6_settle.cls ≠ "java/lang/invoke/VarHandle" ∧ (parseMethodDescriptor yX6_settle.desc).map (fun d => d.parameters.length) = some 4 := by decide +kernel
set_option maxHeartbeats 4000000 in
set_option maxRecDepth 100000 in
theorem mX6_settle (l : Launch) (E : gE) (o_t : Nat) (a_t : (Nat → Nat)) (v_t_families : Int32) (v_t_wind : Int32) (v_t_force : Int32) (v_t_rain : Int32) (v_t_lost : Int32) (v_t_hour : Int32) (f_t_home : (Nat → Int32)) (f_t_seeds : (Nat → Int32)) (f_t_lungs : (Nat → Int32)) (f_t_blown : (Nat → Int32)) (x1 : Int32) (x2 : Int32) (x3 : Int32) (x4 : Int32) (z_t_families : Int32) (z_t_home : (Nat → Int32)) (z_t_seeds : (Nat → Int32)) (z_t_lungs : (Nat → Int32)) (z_t_blown : (Nat → Int32)) (hf : fX6_settle v_t_families f_t_home f_t_seeds f_t_lungs f_t_blown x1 x2 x3 x4 = some (z_t_families, z_t_home, z_t_seeds, z_t_lungs, z_t_blown)) {sz : Nat} : gMv l yX6_settle (gW yX6_settle cX6_settle 5 none) ({ frames := 0, cells := 0, slots := 0, locals := 0 } : Room) E [.ref o_t, .int x1, .int x2, .int x3, .int x4] (wX6_settle E o_t a_t v_t_families v_t_wind v_t_force v_t_rain v_t_lost v_t_hour f_t_home f_t_seeds f_t_lungs f_t_blown) sz (wX6_settle E o_t a_t z_t_families v_t_wind v_t_force v_t_rain v_t_lost v_t_hour z_t_home z_t_seeds z_t_lungs z_t_blown) := by
  refine g_openV (own := RX6) (by decide) rfl (Nat.le_of_ble_eq_true rfl) (fun p e s m args below meth cd Q A hx hb hml hown hG hK hA hret hw ls hl => ?_)
  have hl : lv_has ls 5 [(0, .ref o_t), (1, .int x1), (2, .int x2), (3, .int x3), (4, .int x4)] := hl
  have hret1 : ∀ (t : Int32 × (Nat → Int32) × (Nat → Int32) × (Nat → Int32) × (Nat → Int32)) (H : Heap) (locs : List Loc) (pc : Nat) (ls : Array Slot), some t = some (z_t_families, z_t_home, z_t_seeds, z_t_lungs, z_t_blown) → gS E A s.heap (wX6_settle E o_t a_t t.1 v_t_wind v_t_force v_t_rain v_t_lost v_t_hour t.2.1 t.2.2.1 t.2.2.2.1 t.2.2.2.2) H locs → decode cX6_settle pc = .ok (.return_, 1) → W p l e ({ frames := 0, cells := 0, slots := 0, locals := 0 } : Room) s m args below meth cd H locs 0 0 Q (F0 m pc ls []) := by
    intro t H locs pc ls h hw hd
    obtain rfl : t = (z_t_families, z_t_home, z_t_seeds, z_t_lungs, z_t_blown) := Option.some.inj h
    exact hret H locs pc ls hw hd
  have B10 : ∀ (v_t_families : Int32) (f_t_home : (Nat → Int32)) (f_t_seeds : (Nat → Int32)) (f_t_lungs : (Nat → Int32)) (f_t_blown : (Nat → Int32)) (H : Heap) (locs : List Loc) (ls : Array Slot), fX6_settle_b10 v_t_families f_t_home f_t_seeds f_t_lungs f_t_blown = some (z_t_families, z_t_home, z_t_seeds, z_t_lungs, z_t_blown) → gS E A s.heap (wX6_settle E o_t a_t v_t_families v_t_wind v_t_force v_t_rain v_t_lost v_t_hour f_t_home f_t_seeds f_t_lungs f_t_blown) H locs → lv_has ls 5 [] → W p l e ({ frames := 0, cells := 0, slots := 0, locals := 0 } : Room) s m args below meth cd H locs 0 0 Q (F0 m 10 ls []) := by
    intro  v_t_families f_t_home f_t_seeds f_t_lungs f_t_blown H locs ls hf hw hl
    exact hret1 (v_t_families, f_t_home, f_t_seeds, f_t_lungs, f_t_blown) _ _ _ _ hf hw dX6_settle_10
  refine lv_iload_n hx hb dX6_settle_0 rfl (lv_at hl 1 rfl) ?_
  refine lv_if_lt (tgt := 10) hx hb dX6_settle_1 (by decide) (fun hc => ?_) (fun hc => ?_)
  · have hf := g_t hc hf
    exact B10 v_t_families f_t_home f_t_seeds f_t_lungs f_t_blown _ _ _ hf hw (lv_sub hl [] rfl)
  · have hf := g_f hc hf
    refine lv_iload_n hx hb dX6_settle_4 rfl (lv_at hl 1 rfl) ?_
    refine lv_bipush (v := 6) hx hb dX6_settle_5 k_b6 ?_
    refine lv_icmp_lt (tgt := 11) hx hb dX6_settle_7 (by decide) (fun hc => ?_) (fun hc => ?_)
    · have hf := g_t hc hf
      refine lv_aload_n hx hb dX6_settle_11 rfl (lv_at hl 0 rfl) ?_
      refine lv_dup hx hb dX6_settle_12 rfl ?_
      refine g_get hx hb hG hown hK hw inlX6 (ci := 5) rfl 0 5 (Nat.le_of_ble_eq_true rfl) rfl rfl wd_3_11 dX6_settle_13 ?_
      refine lv_iconst (v := 1) hx hb dX6_settle_16 k_i1 ?_
      refine lv_iload_n hx hb dX6_settle_17 rfl (lv_at hl 1 rfl) ?_
      refine lv_ishl hx hb dX6_settle_18 ?_
      refine lv_ior hx hb dX6_settle_19 ?_
      refine g_put (ws' := (wX6_settle E o_t a_t (v_t_families ||| (1 <<< (x1 &&& 31))) v_t_wind v_t_force v_t_rain v_t_lost v_t_hour f_t_home f_t_seeds f_t_lungs f_t_blown)) hx hb hG hown hK hw inlX6 tyX6_ok nmX6 (ci := 5) rfl 0 5 (Nat.le_of_ble_eq_true rfl) rfl wd_3_11 rfl rfl rfl (Nat.le_of_ble_eq_true rfl) rfl dX6_settle_20 (fun H locs hw => ?_)
      refine lv_aload_n hx hb dX6_settle_23 rfl (lv_at hl 0 rfl) ?_
      refine g_get hx hb hG hown hK hw inlX6 (ci := 5) rfl 0 0 (Nat.le_of_ble_eq_true rfl) rfl rfl wd_3_6 dX6_settle_24 ?_
      refine lv_iload_n hx hb dX6_settle_27 rfl (lv_at hl 1 rfl) ?_
      refine lv_iload_n hx hb dX6_settle_28 rfl (lv_at hl 2 rfl) ?_
      obtain ⟨hi1, hf⟩ := gA_s hf
      refine g_iast (ws' := (wX6_settle E o_t a_t (v_t_families ||| (1 <<< (x1 &&& 31))) v_t_wind v_t_force v_t_rain v_t_lost v_t_hour (upd f_t_home (Int32.toNatClampNeg x1) x2) f_t_seeds f_t_lungs f_t_blown)) hx hb hK hw 1 rfl hi1 rfl dX6_settle_29 (fun H locs hw => ?_)
      refine lv_aload_n hx hb dX6_settle_30 rfl (lv_at hl 0 rfl) ?_
      refine g_get hx hb hG hown hK hw inlX6 (ci := 5) rfl 0 1 (Nat.le_of_ble_eq_true rfl) rfl rfl wd_3_7 dX6_settle_31 ?_
      refine lv_iload_n hx hb dX6_settle_34 rfl (lv_at hl 1 rfl) ?_
      refine lv_iload_n hx hb dX6_settle_35 rfl (lv_at hl 3 rfl) ?_
      obtain ⟨hi2, hf⟩ := gA_s hf
      refine g_iast (ws' := (wX6_settle E o_t a_t (v_t_families ||| (1 <<< (x1 &&& 31))) v_t_wind v_t_force v_t_rain v_t_lost v_t_hour (upd f_t_home (Int32.toNatClampNeg x1) x2) (upd f_t_seeds (Int32.toNatClampNeg x1) x3) f_t_lungs f_t_blown)) hx hb hK hw 2 rfl hi2 rfl dX6_settle_36 (fun H locs hw => ?_)
      refine lv_aload_n hx hb dX6_settle_37 rfl (lv_at hl 0 rfl) ?_
      refine g_get hx hb hG hown hK hw inlX6 (ci := 5) rfl 0 2 (Nat.le_of_ble_eq_true rfl) rfl rfl wd_3_8 dX6_settle_38 ?_
      refine lv_iload_n hx hb dX6_settle_41 rfl (lv_at hl 1 rfl) ?_
      refine lv_iload hx hb dX6_settle_42 (lv_at hl 4 rfl) ?_
      obtain ⟨hi3, hf⟩ := gA_s hf
      refine g_iast (ws' := (wX6_settle E o_t a_t (v_t_families ||| (1 <<< (x1 &&& 31))) v_t_wind v_t_force v_t_rain v_t_lost v_t_hour (upd f_t_home (Int32.toNatClampNeg x1) x2) (upd f_t_seeds (Int32.toNatClampNeg x1) x3) (upd f_t_lungs (Int32.toNatClampNeg x1) x4) f_t_blown)) hx hb hK hw 3 rfl hi3 rfl dX6_settle_44 (fun H locs hw => ?_)
      refine lv_aload_n hx hb dX6_settle_45 rfl (lv_at hl 0 rfl) ?_
      refine g_get hx hb hG hown hK hw inlX6 (ci := 5) rfl 0 3 (Nat.le_of_ble_eq_true rfl) rfl rfl wd_3_9 dX6_settle_46 ?_
      refine lv_iload_n hx hb dX6_settle_49 rfl (lv_at hl 1 rfl) ?_
      refine lv_iconst (v := 0) hx hb dX6_settle_50 k_i0 ?_
      obtain ⟨hi4, hf⟩ := gA_s hf
      refine g_iast (ws' := (wX6_settle E o_t a_t (v_t_families ||| (1 <<< (x1 &&& 31))) v_t_wind v_t_force v_t_rain v_t_lost v_t_hour (upd f_t_home (Int32.toNatClampNeg x1) x2) (upd f_t_seeds (Int32.toNatClampNeg x1) x3) (upd f_t_lungs (Int32.toNatClampNeg x1) x4) (upd f_t_blown (Int32.toNatClampNeg x1) 0))) hx hb hK hw 4 rfl hi4 rfl dX6_settle_51 (fun H locs hw => ?_)
      exact hret1 ((v_t_families ||| (1 <<< (x1 &&& 31))), (upd f_t_home (Int32.toNatClampNeg x1) x2), (upd f_t_seeds (Int32.toNatClampNeg x1) x3), (upd f_t_lungs (Int32.toNatClampNeg x1) x4), (upd f_t_blown (Int32.toNatClampNeg x1) 0)) _ _ _ _ hf hw dX6_settle_52
    · have hf := g_f hc hf
      exact B10 v_t_families f_t_home f_t_seeds f_t_lungs f_t_blown _ _ _ hf hw (lv_sub hl [] rfl)
theorem hX6_moveOut : yX6_moveOut.cls = RX6 ∧ yX6_moveOut.cls ≠ "java/lang/invoke/MethodHandle" ∧ yX6_moveOut.cls ≠ "java/lang/invoke/VarHandle" ∧ (parseMethodDescriptor yX6_moveOut.desc).map (fun d => d.parameters.length) = some 1 := by decide +kernel
set_option maxHeartbeats 4000000 in
set_option maxRecDepth 100000 in
theorem mX6_moveOut (l : Launch) (E : gE) (o_t : Nat) (a_t : (Nat → Nat)) (v_t_families : Int32) (v_t_wind : Int32) (v_t_force : Int32) (v_t_rain : Int32) (v_t_lost : Int32) (v_t_hour : Int32) (f_t_home : (Nat → Int32)) (f_t_seeds : (Nat → Int32)) (f_t_ground : (Nat → Int32)) (x1 : Int32) (z_t_families : Int32) (z_t_lost : Int32) (z_t_seeds : (Nat → Int32)) (z_t_ground : (Nat → Int32)) (hf : fX6_moveOut v_t_families v_t_lost f_t_home f_t_seeds f_t_ground x1 = some (z_t_families, z_t_lost, z_t_seeds, z_t_ground)) {sz : Nat} : gMv l yX6_moveOut (gW yX6_moveOut cX6_moveOut 2 none) ({ frames := 1, cells := 0, slots := 0, locals := 24 } : Room) E [.ref o_t, .int x1] (wX6_moveOut E o_t a_t v_t_families v_t_wind v_t_force v_t_rain v_t_lost v_t_hour f_t_home f_t_seeds f_t_ground) sz (wX6_moveOut E o_t a_t z_t_families v_t_wind v_t_force v_t_rain z_t_lost v_t_hour f_t_home z_t_seeds z_t_ground) := by
  refine g_openV (own := RX6) (by decide) rfl (Nat.le_of_ble_eq_true rfl) (fun p e s m args below meth cd Q A hx hb hml hown hG hK hA hret hw ls hl => ?_)
  have hl : lv_has ls 2 [(0, .ref o_t), (1, .int x1)] := hl
  have hret1 : ∀ (t : Int32 × Int32 × (Nat → Int32) × (Nat → Int32)) (H : Heap) (locs : List Loc) (pc : Nat) (ls : Array Slot), some t = some (z_t_families, z_t_lost, z_t_seeds, z_t_ground) → gS E A s.heap (wX6_moveOut E o_t a_t t.1 v_t_wind v_t_force v_t_rain t.2.1 v_t_hour f_t_home t.2.2.1 t.2.2.2) H locs → decode cX6_moveOut pc = .ok (.return_, 1) → W p l e ({ frames := 1, cells := 0, slots := 0, locals := 24 } : Room) s m args below meth cd H locs 0 0 Q (F0 m pc ls []) := by
    intro t H locs pc ls h hw hd
    obtain rfl : t = (z_t_families, z_t_lost, z_t_seeds, z_t_ground) := Option.some.inj h
    exact hret H locs pc ls hw hd
  refine lv_aload_n hx hb dX6_moveOut_0 rfl (lv_at hl 0 rfl) ?_
  refine lv_iload_n hx hb dX6_moveOut_1 rfl (lv_at hl 1 rfl) ?_
  obtain ⟨r1, hc2, hf⟩ := gB_s hf
  refine g_ki0 (is := [0]) hw hA (g_rV hx hb hml hG hown hK hw (is := [0]) rfl (by decide) (mX6_isThere l E o_t a_t v_t_families v_t_wind v_t_force v_t_rain v_t_lost v_t_hour x1 r1 hc2) wd_9_16 wd_9_9 wd_9_10 wd_2_20 wd_9_11 hX6_isThere g_allgood ⟨rfl, rfl⟩ ⟨Nat.le_of_ble_eq_true rfl, Nat.le_of_ble_eq_true rfl⟩ ⟨Nat.zero_le _, Nat.zero_le _⟩ (ci := 5) (q0 := 0) rfl rfl rfl rfl hl.1 rfl (Nat.le_of_ble_eq_true rfl) dX6_moveOut_2) rfl (fun H locs hw => ?_)
  refine lv_if_ne (tgt := 9) hx hb dX6_moveOut_5 (by decide) (fun hc => ?_) (fun hc => ?_)
  · have hf := g_f hc hf
    refine lv_aload_n hx hb dX6_moveOut_9 rfl (lv_at hl 0 rfl) ?_
    refine lv_dup hx hb dX6_moveOut_10 rfl ?_
    refine g_get hx hb hG hown hK hw inlX6 (ci := 5) rfl 0 5 (Nat.le_of_ble_eq_true rfl) rfl rfl wd_3_11 dX6_moveOut_11 ?_
    refine lv_iconst (v := 1) hx hb dX6_moveOut_14 k_i1 ?_
    refine lv_iload_n hx hb dX6_moveOut_15 rfl (lv_at hl 1 rfl) ?_
    refine lv_ishl hx hb dX6_moveOut_16 ?_
    refine lv_iconst (v := -1) hx hb dX6_moveOut_17 k_im1 ?_
    refine lv_ixor hx hb dX6_moveOut_18 ?_
    refine lv_iand hx hb dX6_moveOut_19 ?_
    refine g_put (ws' := (wX6_moveOut E o_t a_t (v_t_families &&& ((1 <<< (x1 &&& 31)) ^^^ (-1))) v_t_wind v_t_force v_t_rain v_t_lost v_t_hour f_t_home f_t_seeds f_t_ground)) hx hb hG hown hK hw inlX6 tyX6_ok nmX6 (ci := 5) rfl 0 5 (Nat.le_of_ble_eq_true rfl) rfl wd_3_11 rfl rfl rfl (Nat.le_of_ble_eq_true rfl) rfl dX6_moveOut_20 (fun H locs hw => ?_)
    refine lv_aload_n hx hb dX6_moveOut_23 rfl (lv_at hl 0 rfl) ?_
    refine lv_aload_n hx hb dX6_moveOut_24 rfl (lv_at hl 0 rfl) ?_
    refine g_get hx hb hG hown hK hw inlX6 (ci := 5) rfl 0 0 (Nat.le_of_ble_eq_true rfl) rfl rfl wd_3_6 dX6_moveOut_25 ?_
    refine lv_iload_n hx hb dX6_moveOut_28 rfl (lv_at hl 1 rfl) ?_
    obtain ⟨hi3, hf⟩ := gA_s hf
    refine g_iald hx hb hK hw 1 rfl hi3 dX6_moveOut_29 ?_
    refine lv_aload_n hx hb dX6_moveOut_30 rfl (lv_at hl 0 rfl) ?_
    refine g_get hx hb hG hown hK hw inlX6 (ci := 5) rfl 0 1 (Nat.le_of_ble_eq_true rfl) rfl rfl wd_3_7 dX6_moveOut_31 ?_
    refine lv_iload_n hx hb dX6_moveOut_34 rfl (lv_at hl 1 rfl) ?_
    obtain ⟨hi4, hf⟩ := gA_s hf
    refine g_iald hx hb hK hw 2 rfl hi4 dX6_moveOut_35 ?_
    obtain ⟨⟨r5_0, r5_1⟩, hc6, hf⟩ := gB_s hf
    refine g_kv (is := [0, 3]) (isR := [1, 2]) (nW := 4) (w1 := (wX6_lieDown E o_t a_t (v_t_families &&& ((1 <<< (x1 &&& 31)) ^^^ (-1))) v_t_wind v_t_force v_t_rain r5_0 v_t_hour r5_1)) (ws' := (wX6_moveOut E o_t a_t (v_t_families &&& ((1 <<< (x1 &&& 31)) ^^^ (-1))) v_t_wind v_t_force v_t_rain r5_0 v_t_hour f_t_home f_t_seeds r5_1)) hw hA (g_rV hx hb hml hG hown hK hw (is := [0, 3]) rfl (by decide) (mX6_lieDown l E o_t a_t (v_t_families &&& ((1 <<< (x1 &&& 31)) ^^^ (-1))) v_t_wind v_t_force v_t_rain v_t_lost v_t_hour f_t_ground (f_t_home (Int32.toNatClampNeg x1)) (f_t_seeds (Int32.toNatClampNeg x1)) r5_0 r5_1 hc6) wd_9_17 wd_9_18 wd_9_19 wd_2_20 wd_9_20 hX6_lieDown g_allgood ⟨rfl, rfl⟩ ⟨Nat.le_of_ble_eq_true rfl, Nat.le_of_ble_eq_true rfl⟩ ⟨Nat.zero_le _, Nat.zero_le _⟩ (ci := 5) (q0 := 0) rfl rfl rfl rfl hl.1 rfl (Nat.le_of_ble_eq_true rfl) dX6_moveOut_36) rfl (g_had [o_t, (a_t 4)] rfl rfl) rfl (⟨⟨_, rfl, rfl⟩, ⟨⟨_, rfl, rfl⟩, trivial⟩⟩) rfl rfl (by decide) (fun H locs hw => ?_)
    refine lv_aload_n hx hb dX6_moveOut_39 rfl (lv_at hl 0 rfl) ?_
    refine g_get hx hb hG hown hK hw inlX6 (ci := 5) rfl 0 1 (Nat.le_of_ble_eq_true rfl) rfl rfl wd_3_7 dX6_moveOut_40 ?_
    refine lv_iload_n hx hb dX6_moveOut_43 rfl (lv_at hl 1 rfl) ?_
    refine lv_iconst (v := 0) hx hb dX6_moveOut_44 k_i0 ?_
    obtain ⟨hi7, hf⟩ := gA_s hf
    refine g_iast (ws' := (wX6_moveOut E o_t a_t (v_t_families &&& ((1 <<< (x1 &&& 31)) ^^^ (-1))) v_t_wind v_t_force v_t_rain r5_0 v_t_hour f_t_home (upd f_t_seeds (Int32.toNatClampNeg x1) 0) r5_1)) hx hb hK hw 2 rfl hi7 rfl dX6_moveOut_45 (fun H locs hw => ?_)
    exact hret1 ((v_t_families &&& ((1 <<< (x1 &&& 31)) ^^^ (-1))), r5_0, (upd f_t_seeds (Int32.toNatClampNeg x1) 0), r5_1) _ _ _ _ hf hw dX6_moveOut_46
  · have hf := g_t hc hf
    exact hret1 (v_t_families, v_t_lost, f_t_seeds, f_t_ground) _ _ _ _ hf hw dX6_moveOut_8
theorem hX6_allSeeds : yX6_allSeeds.cls = RX6 ∧ yX6_allSeeds.cls ≠ "java/lang/invoke/MethodHandle" ∧ yX6_allSeeds.cls ≠ "java/lang/invoke/VarHandle" ∧ (parseMethodDescriptor yX6_allSeeds.desc).map (fun d => d.parameters.length) = some 0 := by decide +kernel
set_option maxHeartbeats 4000000 in
set_option maxRecDepth 100000 in
theorem mX6_allSeeds (l : Launch) (E : gE) (o_t : Nat) (a_t : (Nat → Nat)) (v_t_families : Int32) (v_t_wind : Int32) (v_t_force : Int32) (v_t_rain : Int32) (v_t_lost : Int32) (v_t_hour : Int32) (f_t_seeds : (Nat → Int32)) (rv : Int32) (hf : fX6_allSeeds v_t_families f_t_seeds = some rv) {sz : Nat} : gMi l yX6_allSeeds (gW yX6_allSeeds cX6_allSeeds 3 (some .int)) ({ frames := 1, cells := 0, slots := 0, locals := 21 } : Room) E [.ref o_t] (wX6_allSeeds E o_t a_t v_t_families v_t_wind v_t_force v_t_rain v_t_lost v_t_hour f_t_seeds) sz rv (wX6_allSeeds E o_t a_t v_t_families v_t_wind v_t_force v_t_rain v_t_lost v_t_hour f_t_seeds) := by
  refine g_openI (own := RX6) (by decide) rfl (Nat.le_of_ble_eq_true rfl) (fun p e s m args below meth cd Q A hx hb hml hown hG hK hA hret hw ls hl => ?_)
  have hl : lv_has ls 3 [(0, .ref o_t)] := hl
  have hret1 : ∀ (t : Int32) (H : Heap) (locs : List Loc) (pc : Nat) (ls : Array Slot), some t = some rv → gS E A s.heap (wX6_allSeeds E o_t a_t v_t_families v_t_wind v_t_force v_t_rain v_t_lost v_t_hour f_t_seeds) H locs → decode cX6_allSeeds pc = .ok (.ireturn, 1) → W p l e ({ frames := 1, cells := 0, slots := 0, locals := 21 } : Room) s m args below meth cd H locs 0 0 Q (F0 m pc ls [.int t]) := by
    intro t H locs pc ls h hw hd
    obtain rfl : t = rv := Option.some.inj h
    exact hret H locs pc ls hw hd
  have B29 : ∀ (K4 : Int32 → Int32 → Option (Int32)) (hK4 : ∀ (x1 : Int32) (x2 : Int32) (H : Heap) (locs : List Loc) (ls : Array Slot), K4 x1 x2 = some rv → gS E A s.heap (wX6_allSeeds E o_t a_t v_t_families v_t_wind v_t_force v_t_rain v_t_lost v_t_hour f_t_seeds) H locs → lv_has ls 3 [(0, .ref o_t), (1, .int x1), (2, .int x2)] → W p l e ({ frames := 1, cells := 0, slots := 0, locals := 21 } : Room) s m args below meth cd H locs 0 0 Q (F0 m 4 ls [])), ∀ (x2 : Int32) (s0 : Int32) (s1 : Int32) (H : Heap) (locs : List Loc) (ls : Array Slot), fX6_allSeeds_b29 K4 v_t_families f_t_seeds x2 s0 s1 = some rv → gS E A s.heap (wX6_allSeeds E o_t a_t v_t_families v_t_wind v_t_force v_t_rain v_t_lost v_t_hour f_t_seeds) H locs → lv_has ls 3 [(0, .ref o_t), (2, .int x2)] → W p l e ({ frames := 1, cells := 0, slots := 0, locals := 21 } : Room) s m args below meth cd H locs 0 0 Q (F0 m 29 ls [.int s1, .int s0]) := by
    intro K4 hK4 x2 s0 s1 H locs ls hf hw hl
    refine lv_iadd hx hb dX6_allSeeds_29 ?_
    refine lv_istore_n (lv' := [(1, .int (s0 + s1)), (0, .ref o_t), (2, .int x2)]) hx hb dX6_allSeeds_30 rfl hl (Nat.le_of_ble_eq_true rfl) rfl (fun ls hl => ?_)
    refine lv_iinc (lv' := [(2, .int (x2 + 1)), (1, .int (s0 + s1)), (0, .ref o_t)]) hx hb dX6_allSeeds_31 hl (k := 2) rfl (k_inc1 _) (Nat.le_of_ble_eq_true rfl) rfl (fun ls hl => ?_)
    refine lv_goto (tgt := 4) hx hb dX6_allSeeds_34 (by decide) ?_
    exact hK4 (s0 + s1) (x2 + 1) _ _ _ hf hw (lv_sub hl [2, 1, 0] rfl)
  have B4 : ∀ n : Nat, ∀ (x1 : Int32) (x2 : Int32) (H : Heap) (locs : List Loc) (ls : Array Slot), fX6_allSeeds_b4 v_t_families f_t_seeds n x1 x2 = some rv → gS E A s.heap (wX6_allSeeds E o_t a_t v_t_families v_t_wind v_t_force v_t_rain v_t_lost v_t_hour f_t_seeds) H locs → lv_has ls 3 [(0, .ref o_t), (1, .int x1), (2, .int x2)] → W p l e ({ frames := 1, cells := 0, slots := 0, locals := 21 } : Room) s m args below meth cd H locs 0 0 Q (F0 m 4 ls []) := by
    intro n
    induction n with
    | zero => intro x1 x2 H locs ls hf hw hl; exact g_no hf
    | succ n ih =>
      intro x1 x2 H locs ls hf hw hl
      refine lv_iload_n hx hb dX6_allSeeds_4 rfl (lv_at hl 2 rfl) ?_
      refine lv_bipush (v := 6) hx hb dX6_allSeeds_5 k_b6 ?_
      refine lv_icmp_ge (tgt := 37) hx hb dX6_allSeeds_7 (by decide) (fun hc => ?_) (fun hc => ?_)
      · have hf := g_t hc hf
        refine lv_iload_n hx hb dX6_allSeeds_37 rfl (lv_at hl 1 rfl) ?_
        exact hret1 x1 _ _ _ _ hf hw dX6_allSeeds_38
      · have hf := g_f hc hf
        refine lv_iload_n hx hb dX6_allSeeds_10 rfl (lv_at hl 1 rfl) ?_
        refine lv_aload_n hx hb dX6_allSeeds_11 rfl (lv_at hl 0 rfl) ?_
        refine lv_iload_n hx hb dX6_allSeeds_12 rfl (lv_at hl 2 rfl) ?_
        obtain ⟨r1, hc2, hf⟩ := gB_s hf
        refine g_ki0 (is := [0]) hw hA (g_rV hx hb hml hG hown hK hw (is := [0]) rfl (by decide) (mX6_isThere l E o_t a_t v_t_families v_t_wind v_t_force v_t_rain v_t_lost v_t_hour x2 r1 hc2) wd_9_16 wd_9_9 wd_9_10 wd_2_20 wd_9_11 hX6_isThere g_allgood ⟨rfl, rfl⟩ ⟨Nat.le_of_ble_eq_true rfl, Nat.le_of_ble_eq_true rfl⟩ ⟨Nat.zero_le _, Nat.zero_le _⟩ (ci := 5) (q0 := 0) rfl rfl rfl rfl hl.1 rfl (Nat.le_of_ble_eq_true rfl) dX6_allSeeds_13) rfl (fun H locs hw => ?_)
        refine lv_if_eq (tgt := 28) hx hb dX6_allSeeds_16 (by decide) (fun hc => ?_) (fun hc => ?_)
        · have hf := g_t hc hf
          refine lv_iconst (v := 0) hx hb dX6_allSeeds_28 k_i0 ?_
          exact B29 (fX6_allSeeds_b4 v_t_families f_t_seeds n) ih x2 x1 0 _ _ _ hf hw (lv_sub hl [0, 2] rfl)
        · have hf := g_f hc hf
          refine lv_aload_n hx hb dX6_allSeeds_19 rfl (lv_at hl 0 rfl) ?_
          refine g_get hx hb hG hown hK hw inlX6 (ci := 5) rfl 0 1 (Nat.le_of_ble_eq_true rfl) rfl rfl wd_3_7 dX6_allSeeds_20 ?_
          refine lv_iload_n hx hb dX6_allSeeds_23 rfl (lv_at hl 2 rfl) ?_
          obtain ⟨hi3, hf⟩ := gA_s hf
          refine g_iald hx hb hK hw 1 rfl hi3 dX6_allSeeds_24 ?_
          refine lv_goto (tgt := 29) hx hb dX6_allSeeds_25 (by decide) ?_
          exact B29 (fX6_allSeeds_b4 v_t_families f_t_seeds n) ih x2 x1 (f_t_seeds (Int32.toNatClampNeg x2)) _ _ _ hf hw (lv_sub hl [0, 2] rfl)
  refine lv_iconst (v := 0) hx hb dX6_allSeeds_0 k_i0 ?_
  refine lv_istore_n (lv' := [(1, .int 0), (0, .ref o_t)]) hx hb dX6_allSeeds_1 rfl hl (Nat.le_of_ble_eq_true rfl) rfl (fun ls hl => ?_)
  refine lv_iconst (v := 0) hx hb dX6_allSeeds_2 k_i0 ?_
  refine lv_istore_n (lv' := [(2, .int 0), (1, .int 0), (0, .ref o_t)]) hx hb dX6_allSeeds_3 rfl hl (Nat.le_of_ble_eq_true rfl) rfl (fun ls hl => ?_)
  exact B4 1000 0 0 _ _ _ hf hw (lv_sub hl [2, 1, 0] rfl)
theorem hX6_allLying : yX6_allLying.cls = RX6 ∧ yX6_allLying.cls ≠ "java/lang/invoke/MethodHandle" ∧ yX6_allLying.cls ≠ "java/lang/invoke/VarHandle" ∧ (parseMethodDescriptor yX6_allLying.desc).map (fun d => d.parameters.length) = some 0 := by decide +kernel
set_option maxHeartbeats 4000000 in
set_option maxRecDepth 100000 in
theorem mX6_allLying (l : Launch) (E : gE) (o_t : Nat) (a_t : (Nat → Nat)) (v_t_families : Int32) (v_t_wind : Int32) (v_t_force : Int32) (v_t_rain : Int32) (v_t_lost : Int32) (v_t_hour : Int32) (f_t_ground : (Nat → Int32)) (rv : Int32) (hf : fX6_allLying f_t_ground = some rv) {sz : Nat} : gMi l yX6_allLying (gW yX6_allLying cX6_allLying 1 (some .int)) ({ frames := 1, cells := 0, slots := 0, locals := 22 } : Room) E [.ref o_t] (wX6_allLying E o_t a_t v_t_families v_t_wind v_t_force v_t_rain v_t_lost v_t_hour f_t_ground) sz rv (wX6_allLying E o_t a_t v_t_families v_t_wind v_t_force v_t_rain v_t_lost v_t_hour f_t_ground) := by
  refine g_openI (own := RX6) (by decide) rfl (Nat.le_of_ble_eq_true rfl) (fun p e s m args below meth cd Q A hx hb hml hown hG hK hA hret hw ls hl => ?_)
  have hl : lv_has ls 1 [(0, .ref o_t)] := hl
  have hret1 : ∀ (t : Int32) (H : Heap) (locs : List Loc) (pc : Nat) (ls : Array Slot), some t = some rv → gS E A s.heap (wX6_allLying E o_t a_t v_t_families v_t_wind v_t_force v_t_rain v_t_lost v_t_hour f_t_ground) H locs → decode cX6_allLying pc = .ok (.ireturn, 1) → W p l e ({ frames := 1, cells := 0, slots := 0, locals := 22 } : Room) s m args below meth cd H locs 0 0 Q (F0 m pc ls [.int t]) := by
    intro t H locs pc ls h hw hd
    obtain rfl : t = rv := Option.some.inj h
    exact hret H locs pc ls hw hd
  refine lv_aload_n hx hb dX6_allLying_0 rfl (lv_at hl 0 rfl) ?_
  refine g_get hx hb hG hown hK hw inlX6 (ci := 5) rfl 0 4 (Nat.le_of_ble_eq_true rfl) rfl rfl wd_3_10 dX6_allLying_1 ?_
  obtain ⟨r1, hc2, hf⟩ := gB_s hf
  refine g_ki0 (is := [1]) hw hA (g_rN (host := "SeedBank") hx hb hml hG hown hK hw (is := [1]) rfl (by decide) (mX10_sumOfRow l E (a_t 4) 36 f_t_ground r1 hc2) (List.mem_of_getElem? (i := 16) rfl) wd_23_16 wd_1_2 wd_23_17 hX10_sumOfRow g_allgood ⟨rfl, rfl⟩ ⟨Nat.le_of_ble_eq_true rfl, Nat.le_of_ble_eq_true rfl⟩ ⟨Nat.zero_le _, Nat.zero_le _⟩ rfl hl.1 rfl (Nat.le_of_ble_eq_true rfl) dX6_allLying_4) rfl (fun H locs hw => ?_)
  exact hret1 r1 _ _ _ _ hf hw dX6_allLying_7
theorem hX7_clear : yX7_clear.cls = RX7 ∧ yX7_clear.cls ≠ "java/lang/invoke/MethodHandle" ∧ yX7_clear.cls ≠ "java/lang/invoke/VarHandle" ∧ (parseMethodDescriptor yX7_clear.desc).map (fun d => d.parameters.length) = some 0 := by decide +kernel
set_option maxHeartbeats 4000000 in
set_option maxRecDepth 100000 in
theorem mX7_clear (l : Launch) (E : gE) (o_t : Nat) (a_t : (Nat → Nat)) (v_t_signs : Int32) (v_t_acts : Int32) (v_t_reading : Int32) (v_t_begun : Int32) (v_t_brokenAt : Int32) (z_t_signs : Int32) (z_t_acts : Int32) (z_t_reading : Int32) (hf : fX7_clear v_t_signs v_t_acts v_t_reading = some (z_t_signs, z_t_acts, z_t_reading)) {sz : Nat} : gMv l yX7_clear (gW yX7_clear cX7_clear 1 none) ({ frames := 0, cells := 0, slots := 0, locals := 0 } : Room) E [.ref o_t] (wX7_clear E o_t a_t v_t_signs v_t_acts v_t_reading v_t_begun v_t_brokenAt) sz (wX7_clear E o_t a_t z_t_signs z_t_acts z_t_reading v_t_begun v_t_brokenAt) := by
  refine g_openV (own := RX7) (by decide) rfl (Nat.le_of_ble_eq_true rfl) (fun p e s m args below meth cd Q A hx hb hml hown hG hK hA hret hw ls hl => ?_)
  have hl : lv_has ls 1 [(0, .ref o_t)] := hl
  have hret1 : ∀ (t : Int32 × Int32 × Int32) (H : Heap) (locs : List Loc) (pc : Nat) (ls : Array Slot), some t = some (z_t_signs, z_t_acts, z_t_reading) → gS E A s.heap (wX7_clear E o_t a_t t.1 t.2.1 t.2.2 v_t_begun v_t_brokenAt) H locs → decode cX7_clear pc = .ok (.return_, 1) → W p l e ({ frames := 0, cells := 0, slots := 0, locals := 0 } : Room) s m args below meth cd H locs 0 0 Q (F0 m pc ls []) := by
    intro t H locs pc ls h hw hd
    obtain rfl : t = (z_t_signs, z_t_acts, z_t_reading) := Option.some.inj h
    exact hret H locs pc ls hw hd
  refine lv_aload_n hx hb dX7_clear_0 rfl (lv_at hl 0 rfl) ?_
  refine lv_iconst (v := 0) hx hb dX7_clear_1 k_i0 ?_
  refine g_put (ws' := (wX7_clear E o_t a_t 0 v_t_acts v_t_reading v_t_begun v_t_brokenAt)) hx hb hG hown hK hw inlX7 tyX7_ok nmX7 (ci := 6) rfl 0 3 (Nat.le_of_ble_eq_true rfl) rfl wd_4_5 rfl rfl rfl (Nat.le_of_ble_eq_true rfl) rfl dX7_clear_2 (fun H locs hw => ?_)
  refine lv_aload_n hx hb dX7_clear_5 rfl (lv_at hl 0 rfl) ?_
  refine lv_iconst (v := 0) hx hb dX7_clear_6 k_i0 ?_
  refine g_put (ws' := (wX7_clear E o_t a_t 0 0 v_t_reading v_t_begun v_t_brokenAt)) hx hb hG hown hK hw inlX7 tyX7_ok nmX7 (ci := 6) rfl 0 4 (Nat.le_of_ble_eq_true rfl) rfl wd_4_6 rfl rfl rfl (Nat.le_of_ble_eq_true rfl) rfl dX7_clear_7 (fun H locs hw => ?_)
  refine lv_aload_n hx hb dX7_clear_10 rfl (lv_at hl 0 rfl) ?_
  refine lv_iconst (v := 0) hx hb dX7_clear_11 k_i0 ?_
  refine g_put (ws' := (wX7_clear E o_t a_t 0 0 0 v_t_begun v_t_brokenAt)) hx hb hG hown hK hw inlX7 tyX7_ok nmX7 (ci := 6) rfl 0 5 (Nat.le_of_ble_eq_true rfl) rfl wd_4_7 rfl rfl rfl (Nat.le_of_ble_eq_true rfl) rfl dX7_clear_12 (fun H locs hw => ?_)
  exact hret1 (0, 0, 0) _ _ _ _ hf hw dX7_clear_15
theorem hX7_endAct : yX7_endAct.cls = RX7 ∧ yX7_endAct.cls ≠ "java/lang/invoke/MethodHandle" ∧ yX7_endAct.cls ≠ "java/lang/invoke/VarHandle" ∧ (parseMethodDescriptor yX7_endAct.desc).map (fun d => d.parameters.length) = some 3 := by decide +kernel
set_option maxHeartbeats 4000000 in
set_option maxRecDepth 100000 in
theorem mX7_endAct (l : Launch) (E : gE) (o_t : Nat) (a_t : (Nat → Nat)) (v_t_signs : Int32) (v_t_acts : Int32) (v_t_reading : Int32) (v_t_begun : Int32) (v_t_brokenAt : Int32) (f_t_kinds : (Nat → Int32)) (f_t_firsts : (Nat → Int32)) (f_t_seconds : (Nat → Int32)) (x1 : Int32) (x2 : Int32) (x3 : Int32) (rv : Int32) (z_t_acts : Int32) (z_t_kinds : (Nat → Int32)) (z_t_firsts : (Nat → Int32)) (z_t_seconds : (Nat → Int32)) (hf : fX7_endAct v_t_acts f_t_kinds f_t_firsts f_t_seconds x1 x2 x3 = some (rv, z_t_acts, z_t_kinds, z_t_firsts, z_t_seconds)) {sz : Nat} : gMi l yX7_endAct (gW yX7_endAct cX7_endAct 4 (some .int)) ({ frames := 0, cells := 0, slots := 0, locals := 0 } : Room) E [.ref o_t, .int x1, .int x2, .int x3] (wX7_endAct E o_t a_t v_t_signs v_t_acts v_t_reading v_t_begun v_t_brokenAt f_t_kinds f_t_firsts f_t_seconds) sz rv (wX7_endAct E o_t a_t v_t_signs z_t_acts v_t_reading v_t_begun v_t_brokenAt z_t_kinds z_t_firsts z_t_seconds) := by
  refine g_openI (own := RX7) (by decide) rfl (Nat.le_of_ble_eq_true rfl) (fun p e s m args below meth cd Q A hx hb hml hown hG hK hA hret hw ls hl => ?_)
  have hl : lv_has ls 4 [(0, .ref o_t), (1, .int x1), (2, .int x2), (3, .int x3)] := hl
  have hret1 : ∀ (t : Int32 × Int32 × (Nat → Int32) × (Nat → Int32) × (Nat → Int32)) (H : Heap) (locs : List Loc) (pc : Nat) (ls : Array Slot), some t = some (rv, z_t_acts, z_t_kinds, z_t_firsts, z_t_seconds) → gS E A s.heap (wX7_endAct E o_t a_t v_t_signs t.2.1 v_t_reading v_t_begun v_t_brokenAt t.2.2.1 t.2.2.2.1 t.2.2.2.2) H locs → decode cX7_endAct pc = .ok (.ireturn, 1) → W p l e ({ frames := 0, cells := 0, slots := 0, locals := 0 } : Room) s m args below meth cd H locs 0 0 Q (F0 m pc ls [.int t.1]) := by
    intro t H locs pc ls h hw hd
    obtain rfl : t = (rv, z_t_acts, z_t_kinds, z_t_firsts, z_t_seconds) := Option.some.inj h
    exact hret H locs pc ls hw hd
  have B16 : ∀ (v_t_acts : Int32) (f_t_kinds : (Nat → Int32)) (f_t_firsts : (Nat → Int32)) (f_t_seconds : (Nat → Int32)) (H : Heap) (locs : List Loc) (ls : Array Slot), fX7_endAct_b16 v_t_acts f_t_kinds f_t_firsts f_t_seconds = some (rv, z_t_acts, z_t_kinds, z_t_firsts, z_t_seconds) → gS E A s.heap (wX7_endAct E o_t a_t v_t_signs v_t_acts v_t_reading v_t_begun v_t_brokenAt f_t_kinds f_t_firsts f_t_seconds) H locs → lv_has ls 4 [] → W p l e ({ frames := 0, cells := 0, slots := 0, locals := 0 } : Room) s m args below meth cd H locs 0 0 Q (F0 m 16 ls []) := by
    intro  v_t_acts f_t_kinds f_t_firsts f_t_seconds H locs ls hf hw hl
    refine lv_iconst (v := 4) hx hb dX7_endAct_16 k_i4 ?_
    exact hret1 (4, v_t_acts, f_t_kinds, f_t_firsts, f_t_seconds) _ _ _ _ hf hw dX7_endAct_17
  refine lv_aload_n hx hb dX7_endAct_0 rfl (lv_at hl 0 rfl) ?_
  refine g_get hx hb hG hown hK hw inlX7 (ci := 6) rfl 0 4 (Nat.le_of_ble_eq_true rfl) rfl rfl wd_4_6 dX7_endAct_1 ?_
  refine lv_if_lt (tgt := 16) hx hb dX7_endAct_4 (by decide) (fun hc => ?_) (fun hc => ?_)
  · have hf := g_t hc hf
    exact B16 v_t_acts f_t_kinds f_t_firsts f_t_seconds _ _ _ hf hw (lv_sub hl [] rfl)
  · have hf := g_f hc hf
    refine lv_aload_n hx hb dX7_endAct_7 rfl (lv_at hl 0 rfl) ?_
    refine g_get hx hb hG hown hK hw inlX7 (ci := 6) rfl 0 4 (Nat.le_of_ble_eq_true rfl) rfl rfl wd_4_6 dX7_endAct_8 ?_
    refine lv_bipush (v := 60) hx hb dX7_endAct_11 k_b60 ?_
    refine lv_icmp_lt (tgt := 18) hx hb dX7_endAct_13 (by decide) (fun hc => ?_) (fun hc => ?_)
    · have hf := g_t hc hf
      refine lv_aload_n hx hb dX7_endAct_18 rfl (lv_at hl 0 rfl) ?_
      refine g_get hx hb hG hown hK hw inlX7 (ci := 6) rfl 0 0 (Nat.le_of_ble_eq_true rfl) rfl rfl wd_4_2 dX7_endAct_19 ?_
      refine lv_aload_n hx hb dX7_endAct_22 rfl (lv_at hl 0 rfl) ?_
      refine g_get hx hb hG hown hK hw inlX7 (ci := 6) rfl 0 4 (Nat.le_of_ble_eq_true rfl) rfl rfl wd_4_6 dX7_endAct_23 ?_
      refine lv_iload_n hx hb dX7_endAct_26 rfl (lv_at hl 1 rfl) ?_
      obtain ⟨hi1, hf⟩ := gA_s hf
      refine g_iast (ws' := (wX7_endAct E o_t a_t v_t_signs v_t_acts v_t_reading v_t_begun v_t_brokenAt (upd f_t_kinds (Int32.toNatClampNeg v_t_acts) x1) f_t_firsts f_t_seconds)) hx hb hK hw 1 rfl hi1 rfl dX7_endAct_27 (fun H locs hw => ?_)
      refine lv_aload_n hx hb dX7_endAct_28 rfl (lv_at hl 0 rfl) ?_
      refine g_get hx hb hG hown hK hw inlX7 (ci := 6) rfl 0 1 (Nat.le_of_ble_eq_true rfl) rfl rfl wd_4_3 dX7_endAct_29 ?_
      refine lv_aload_n hx hb dX7_endAct_32 rfl (lv_at hl 0 rfl) ?_
      refine g_get hx hb hG hown hK hw inlX7 (ci := 6) rfl 0 4 (Nat.le_of_ble_eq_true rfl) rfl rfl wd_4_6 dX7_endAct_33 ?_
      refine lv_iload_n hx hb dX7_endAct_36 rfl (lv_at hl 2 rfl) ?_
      obtain ⟨hi2, hf⟩ := gA_s hf
      refine g_iast (ws' := (wX7_endAct E o_t a_t v_t_signs v_t_acts v_t_reading v_t_begun v_t_brokenAt (upd f_t_kinds (Int32.toNatClampNeg v_t_acts) x1) (upd f_t_firsts (Int32.toNatClampNeg v_t_acts) x2) f_t_seconds)) hx hb hK hw 2 rfl hi2 rfl dX7_endAct_37 (fun H locs hw => ?_)
      refine lv_aload_n hx hb dX7_endAct_38 rfl (lv_at hl 0 rfl) ?_
      refine g_get hx hb hG hown hK hw inlX7 (ci := 6) rfl 0 2 (Nat.le_of_ble_eq_true rfl) rfl rfl wd_4_4 dX7_endAct_39 ?_
      refine lv_aload_n hx hb dX7_endAct_42 rfl (lv_at hl 0 rfl) ?_
      refine g_get hx hb hG hown hK hw inlX7 (ci := 6) rfl 0 4 (Nat.le_of_ble_eq_true rfl) rfl rfl wd_4_6 dX7_endAct_43 ?_
      refine lv_iload_n hx hb dX7_endAct_46 rfl (lv_at hl 3 rfl) ?_
      obtain ⟨hi3, hf⟩ := gA_s hf
      refine g_iast (ws' := (wX7_endAct E o_t a_t v_t_signs v_t_acts v_t_reading v_t_begun v_t_brokenAt (upd f_t_kinds (Int32.toNatClampNeg v_t_acts) x1) (upd f_t_firsts (Int32.toNatClampNeg v_t_acts) x2) (upd f_t_seconds (Int32.toNatClampNeg v_t_acts) x3))) hx hb hK hw 3 rfl hi3 rfl dX7_endAct_47 (fun H locs hw => ?_)
      refine lv_aload_n hx hb dX7_endAct_48 rfl (lv_at hl 0 rfl) ?_
      refine lv_dup hx hb dX7_endAct_49 rfl ?_
      refine g_get hx hb hG hown hK hw inlX7 (ci := 6) rfl 0 4 (Nat.le_of_ble_eq_true rfl) rfl rfl wd_4_6 dX7_endAct_50 ?_
      refine lv_iconst (v := 1) hx hb dX7_endAct_53 k_i1 ?_
      refine lv_iadd hx hb dX7_endAct_54 ?_
      refine g_put (ws' := (wX7_endAct E o_t a_t v_t_signs (v_t_acts + 1) v_t_reading v_t_begun v_t_brokenAt (upd f_t_kinds (Int32.toNatClampNeg v_t_acts) x1) (upd f_t_firsts (Int32.toNatClampNeg v_t_acts) x2) (upd f_t_seconds (Int32.toNatClampNeg v_t_acts) x3))) hx hb hG hown hK hw inlX7 tyX7_ok nmX7 (ci := 6) rfl 0 4 (Nat.le_of_ble_eq_true rfl) rfl wd_4_6 rfl rfl rfl (Nat.le_of_ble_eq_true rfl) rfl dX7_endAct_55 (fun H locs hw => ?_)
      refine lv_iconst (v := 0) hx hb dX7_endAct_58 k_i0 ?_
      exact hret1 (0, (v_t_acts + 1), (upd f_t_kinds (Int32.toNatClampNeg v_t_acts) x1), (upd f_t_firsts (Int32.toNatClampNeg v_t_acts) x2), (upd f_t_seconds (Int32.toNatClampNeg v_t_acts) x3)) _ _ _ _ hf hw dX7_endAct_59
    · have hf := g_f hc hf
      exact B16 v_t_acts f_t_kinds f_t_firsts f_t_seconds _ _ _ hf hw (lv_sub hl [] rfl)
theorem hX7_readBeginning : yX7_readBeginning.cls = RX7 ∧ yX7_readBeginning.cls ≠ "java/lang/invoke/MethodHandle" ∧ yX7_readBeginning.cls ≠ "java/lang/invoke/VarHandle" ∧ (parseMethodDescriptor yX7_readBeginning.desc).map (fun d => d.parameters.length) = some 1 := by decide +kernel
set_option maxHeartbeats 4000000 in
set_option maxRecDepth 100000 in
theorem mX7_readBeginning (l : Launch) (E : gE) (o_t : Nat) (a_t : (Nat → Nat)) (v_t_signs : Int32) (v_t_acts : Int32) (v_t_reading : Int32) (v_t_begun : Int32) (v_t_brokenAt : Int32) (f_t_kinds : (Nat → Int32)) (f_t_firsts : (Nat → Int32)) (f_t_seconds : (Nat → Int32)) (x1 : Int32) (rv : Int32) (z_t_acts : Int32) (z_t_begun : Int32) (z_t_kinds : (Nat → Int32)) (z_t_firsts : (Nat → Int32)) (z_t_seconds : (Nat → Int32)) (hf : fX7_readBeginning v_t_acts v_t_begun f_t_kinds f_t_firsts f_t_seconds x1 = some (rv, z_t_acts, z_t_begun, z_t_kinds, z_t_firsts, z_t_seconds)) {sz : Nat} : gMi l yX7_readBeginning (gW yX7_readBeginning cX7_readBeginning 2 (some .int)) ({ frames := 1, cells := 0, slots := 0, locals := 23 } : Room) E [.ref o_t, .int x1] (wX7_readBeginning E o_t a_t v_t_signs v_t_acts v_t_reading v_t_begun v_t_brokenAt f_t_kinds f_t_firsts f_t_seconds) sz rv (wX7_readBeginning E o_t a_t v_t_signs z_t_acts v_t_reading z_t_begun v_t_brokenAt z_t_kinds z_t_firsts z_t_seconds) := by
  refine g_openI (own := RX7) (by decide) rfl (Nat.le_of_ble_eq_true rfl) (fun p e s m args below meth cd Q A hx hb hml hown hG hK hA hret hw ls hl => ?_)
  have hl : lv_has ls 2 [(0, .ref o_t), (1, .int x1)] := hl
  have hret1 : ∀ (t : Int32 × Int32 × Int32 × (Nat → Int32) × (Nat → Int32) × (Nat → Int32)) (H : Heap) (locs : List Loc) (pc : Nat) (ls : Array Slot), some t = some (rv, z_t_acts, z_t_begun, z_t_kinds, z_t_firsts, z_t_seconds) → gS E A s.heap (wX7_readBeginning E o_t a_t v_t_signs t.2.1 v_t_reading t.2.2.1 v_t_brokenAt t.2.2.2.1 t.2.2.2.2.1 t.2.2.2.2.2) H locs → decode cX7_readBeginning pc = .ok (.ireturn, 1) → W p l e ({ frames := 1, cells := 0, slots := 0, locals := 23 } : Room) s m args below meth cd H locs 0 0 Q (F0 m pc ls [.int t.1]) := by
    intro t H locs pc ls h hw hd
    obtain rfl : t = (rv, z_t_acts, z_t_begun, z_t_kinds, z_t_firsts, z_t_seconds) := Option.some.inj h
    exact hret H locs pc ls hw hd
  refine lv_iload_n hx hb dX7_readBeginning_0 rfl (lv_at hl 1 rfl) ?_
  refine lv_bipush (v := 65) hx hb dX7_readBeginning_1 k_b65 ?_
  refine lv_isub hx hb dX7_readBeginning_3 ?_
  refine lv_iconst (v := 0) hx hb dX7_readBeginning_4 k_i0 ?_
  refine lv_iconst (v := 5) hx hb dX7_readBeginning_5 k_i5 ?_
  obtain ⟨r1, hc2, hf⟩ := gB_s hf
  refine g_ki0 (is := []) hw hA (g_rN (host := "SeedBank") hx hb hml hG hown hK hw (is := []) rfl (by decide) (mX10_within l E (x1 - 65) 0 5 r1 hc2) (List.mem_of_getElem? (i := 10) rfl) wd_7_2 wd_1_2 wd_7_3 hX10_within g_allgood ⟨rfl, rfl⟩ ⟨Nat.le_of_ble_eq_true rfl, Nat.le_of_ble_eq_true rfl⟩ ⟨Nat.zero_le _, Nat.zero_le _⟩ rfl hl.1 rfl (Nat.le_of_ble_eq_true rfl) dX7_readBeginning_6) rfl (fun H locs hw => ?_)
  refine lv_if_eq (tgt := 22) hx hb dX7_readBeginning_9 (by decide) (fun hc => ?_) (fun hc => ?_)
  · have hf := g_t hc hf
    refine lv_iload_n hx hb dX7_readBeginning_22 rfl (lv_at hl 1 rfl) ?_
    by_cases hs3 : x1 = 46
    · have hf := g_t hs3 hf
      refine lv_lookup (off := 59) (tgt := 82) hx hb dX7_readBeginning_23 (by decide) (by rw [hs3] <;> rfl) (by decide) ?_
      refine lv_aload_n hx hb dX7_readBeginning_82 rfl (lv_at hl 0 rfl) ?_
      refine lv_bipush (v := 6) hx hb dX7_readBeginning_83 k_b6 ?_
      refine lv_iconst (v := 0) hx hb dX7_readBeginning_85 k_i0 ?_
      refine lv_iconst (v := 0) hx hb dX7_readBeginning_86 k_i0 ?_
      obtain ⟨⟨r4_0, r4_1, r4_2, r4_3, r4_4⟩, hc5, hf⟩ := gB_s hf
      refine g_ki (is := [0, 1, 2, 3]) (isR := []) (nW := 4) (w1 := (wX7_endAct E o_t a_t v_t_signs r4_1 v_t_reading v_t_begun v_t_brokenAt r4_2 r4_3 r4_4)) (ws' := (wX7_readBeginning E o_t a_t v_t_signs r4_1 v_t_reading v_t_begun v_t_brokenAt r4_2 r4_3 r4_4)) hw hA (g_rV hx hb hml hG hown hK hw (is := [0, 1, 2, 3]) rfl (by decide) (mX7_endAct l E o_t a_t v_t_signs v_t_acts v_t_reading v_t_begun v_t_brokenAt f_t_kinds f_t_firsts f_t_seconds 6 0 0 r4_0 r4_1 r4_2 r4_3 r4_4 hc5) wd_12_12 wd_12_13 wd_12_14 wd_1_21 wd_12_15 hX7_endAct g_allgood ⟨rfl, rfl⟩ ⟨Nat.le_of_ble_eq_true rfl, Nat.le_of_ble_eq_true rfl⟩ ⟨Nat.zero_le _, Nat.zero_le _⟩ (ci := 6) (q0 := 0) rfl rfl rfl rfl hl.1 rfl (Nat.le_of_ble_eq_true rfl) dX7_readBeginning_87) rfl (g_had [o_t, (a_t 0), (a_t 1), (a_t 2)] rfl rfl) rfl (trivial) rfl rfl (by decide) (fun H locs hw => ?_)
      exact hret1 (r4_0, r4_1, v_t_begun, r4_2, r4_3, r4_4) _ _ _ _ hf hw dX7_readBeginning_90
    have hf := g_f hs3 hf
    by_cases hs6 : x1 = 114
    · have hf := g_t hs6 hf
      refine lv_lookup (off := 43) (tgt := 66) hx hb dX7_readBeginning_23 (by decide) (by rw [hs6] <;> rfl) (by decide) ?_
      refine lv_aload_n hx hb dX7_readBeginning_66 rfl (lv_at hl 0 rfl) ?_
      refine lv_iconst (v := 4) hx hb dX7_readBeginning_67 k_i4 ?_
      refine lv_iconst (v := 0) hx hb dX7_readBeginning_68 k_i0 ?_
      refine lv_iconst (v := 0) hx hb dX7_readBeginning_69 k_i0 ?_
      obtain ⟨⟨r7_0, r7_1, r7_2, r7_3, r7_4⟩, hc8, hf⟩ := gB_s hf
      refine g_ki (is := [0, 1, 2, 3]) (isR := []) (nW := 4) (w1 := (wX7_endAct E o_t a_t v_t_signs r7_1 v_t_reading v_t_begun v_t_brokenAt r7_2 r7_3 r7_4)) (ws' := (wX7_readBeginning E o_t a_t v_t_signs r7_1 v_t_reading v_t_begun v_t_brokenAt r7_2 r7_3 r7_4)) hw hA (g_rV hx hb hml hG hown hK hw (is := [0, 1, 2, 3]) rfl (by decide) (mX7_endAct l E o_t a_t v_t_signs v_t_acts v_t_reading v_t_begun v_t_brokenAt f_t_kinds f_t_firsts f_t_seconds 4 0 0 r7_0 r7_1 r7_2 r7_3 r7_4 hc8) wd_12_12 wd_12_13 wd_12_14 wd_1_21 wd_12_15 hX7_endAct g_allgood ⟨rfl, rfl⟩ ⟨Nat.le_of_ble_eq_true rfl, Nat.le_of_ble_eq_true rfl⟩ ⟨Nat.zero_le _, Nat.zero_le _⟩ (ci := 6) (q0 := 0) rfl rfl rfl rfl hl.1 rfl (Nat.le_of_ble_eq_true rfl) dX7_readBeginning_70) rfl (g_had [o_t, (a_t 0), (a_t 1), (a_t 2)] rfl rfl) rfl (trivial) rfl rfl (by decide) (fun H locs hw => ?_)
      exact hret1 (r7_0, r7_1, v_t_begun, r7_2, r7_3, r7_4) _ _ _ _ hf hw dX7_readBeginning_73
    have hf := g_f hs6 hf
    by_cases hs9 : x1 = 115
    · have hf := g_t hs9 hf
      refine lv_lookup (off := 51) (tgt := 74) hx hb dX7_readBeginning_23 (by decide) (by rw [hs9] <;> rfl) (by decide) ?_
      refine lv_aload_n hx hb dX7_readBeginning_74 rfl (lv_at hl 0 rfl) ?_
      refine lv_iconst (v := 5) hx hb dX7_readBeginning_75 k_i5 ?_
      refine lv_iconst (v := 0) hx hb dX7_readBeginning_76 k_i0 ?_
      refine lv_iconst (v := 0) hx hb dX7_readBeginning_77 k_i0 ?_
      obtain ⟨⟨r10_0, r10_1, r10_2, r10_3, r10_4⟩, hc11, hf⟩ := gB_s hf
      refine g_ki (is := [0, 1, 2, 3]) (isR := []) (nW := 4) (w1 := (wX7_endAct E o_t a_t v_t_signs r10_1 v_t_reading v_t_begun v_t_brokenAt r10_2 r10_3 r10_4)) (ws' := (wX7_readBeginning E o_t a_t v_t_signs r10_1 v_t_reading v_t_begun v_t_brokenAt r10_2 r10_3 r10_4)) hw hA (g_rV hx hb hml hG hown hK hw (is := [0, 1, 2, 3]) rfl (by decide) (mX7_endAct l E o_t a_t v_t_signs v_t_acts v_t_reading v_t_begun v_t_brokenAt f_t_kinds f_t_firsts f_t_seconds 5 0 0 r10_0 r10_1 r10_2 r10_3 r10_4 hc11) wd_12_12 wd_12_13 wd_12_14 wd_1_21 wd_12_15 hX7_endAct g_allgood ⟨rfl, rfl⟩ ⟨Nat.le_of_ble_eq_true rfl, Nat.le_of_ble_eq_true rfl⟩ ⟨Nat.zero_le _, Nat.zero_le _⟩ (ci := 6) (q0 := 0) rfl rfl rfl rfl hl.1 rfl (Nat.le_of_ble_eq_true rfl) dX7_readBeginning_78) rfl (g_had [o_t, (a_t 0), (a_t 1), (a_t 2)] rfl rfl) rfl (trivial) rfl rfl (by decide) (fun H locs hw => ?_)
      exact hret1 (r10_0, r10_1, v_t_begun, r10_2, r10_3, r10_4) _ _ _ _ hf hw dX7_readBeginning_81
    have hf := g_f hs9 hf
    by_cases hs12 : x1 = 119
    · have hf := g_t hs12 hf
      refine lv_lookup (off := 41) (tgt := 64) hx hb dX7_readBeginning_23 (by decide) (by rw [hs12] <;> rfl) (by decide) ?_
      refine lv_iconst (v := 2) hx hb dX7_readBeginning_64 k_i2 ?_
      exact hret1 (2, v_t_acts, v_t_begun, f_t_kinds, f_t_firsts, f_t_seconds) _ _ _ _ hf hw dX7_readBeginning_65
    have hf := g_f hs12 hf
    refine lv_lookup (off := 68) (tgt := 91) hx hb dX7_readBeginning_23 (by decide) ((lv_osw hs3 (by decide)).trans ((lv_osw hs6 (by decide)).trans ((lv_osw hs9 (by decide)).trans ((lv_osw hs12 (by decide)).trans rfl)))) (by decide) ?_
    refine lv_iconst (v := 4) hx hb dX7_readBeginning_91 k_i4 ?_
    exact hret1 (4, v_t_acts, v_t_begun, f_t_kinds, f_t_firsts, f_t_seconds) _ _ _ _ hf hw dX7_readBeginning_92
  · have hf := g_f hc hf
    refine lv_aload_n hx hb dX7_readBeginning_12 rfl (lv_at hl 0 rfl) ?_
    refine lv_iload_n hx hb dX7_readBeginning_13 rfl (lv_at hl 1 rfl) ?_
    refine lv_bipush (v := 65) hx hb dX7_readBeginning_14 k_b65 ?_
    refine lv_isub hx hb dX7_readBeginning_16 ?_
    refine g_put (ws' := (wX7_readBeginning E o_t a_t v_t_signs v_t_acts v_t_reading (x1 - 65) v_t_brokenAt f_t_kinds f_t_firsts f_t_seconds)) hx hb hG hown hK hw inlX7 tyX7_ok nmX7 (ci := 6) rfl 0 6 (Nat.le_of_ble_eq_true rfl) rfl wd_4_8 rfl rfl rfl (Nat.le_of_ble_eq_true rfl) rfl dX7_readBeginning_17 (fun H locs hw => ?_)
    refine lv_iconst (v := 1) hx hb dX7_readBeginning_20 k_i1 ?_
    exact hret1 (1, v_t_acts, (x1 - 65), f_t_kinds, f_t_firsts, f_t_seconds) _ _ _ _ hf hw dX7_readBeginning_21
theorem hX7_readDeed : yX7_readDeed.cls = RX7 ∧ yX7_readDeed.cls ≠ "java/lang/invoke/MethodHandle" ∧ yX7_readDeed.cls ≠ "java/lang/invoke/VarHandle" ∧ (parseMethodDescriptor yX7_readDeed.desc).map (fun d => d.parameters.length) = some 1 := by decide +kernel
set_option maxHeartbeats 4000000 in
set_option maxRecDepth 100000 in
theorem mX7_readDeed (l : Launch) (E : gE) (o_t : Nat) (a_t : (Nat → Nat)) (v_t_signs : Int32) (v_t_acts : Int32) (v_t_reading : Int32) (v_t_begun : Int32) (v_t_brokenAt : Int32) (f_t_kinds : (Nat → Int32)) (f_t_firsts : (Nat → Int32)) (f_t_seconds : (Nat → Int32)) (x1 : Int32) (rv : Int32) (z_t_acts : Int32) (z_t_kinds : (Nat → Int32)) (z_t_firsts : (Nat → Int32)) (z_t_seconds : (Nat → Int32)) (hf : fX7_readDeed v_t_acts v_t_begun f_t_kinds f_t_firsts f_t_seconds x1 = some (rv, z_t_acts, z_t_kinds, z_t_firsts, z_t_seconds)) {sz : Nat} : gMi l yX7_readDeed (gW yX7_readDeed cX7_readDeed 2 (some .int)) ({ frames := 1, cells := 0, slots := 0, locals := 23 } : Room) E [.ref o_t, .int x1] (wX7_readDeed E o_t a_t v_t_signs v_t_acts v_t_reading v_t_begun v_t_brokenAt f_t_kinds f_t_firsts f_t_seconds) sz rv (wX7_readDeed E o_t a_t v_t_signs z_t_acts v_t_reading v_t_begun v_t_brokenAt z_t_kinds z_t_firsts z_t_seconds) := by
  refine g_openI (own := RX7) (by decide) rfl (Nat.le_of_ble_eq_true rfl) (fun p e s m args below meth cd Q A hx hb hml hown hG hK hA hret hw ls hl => ?_)
  have hl : lv_has ls 2 [(0, .ref o_t), (1, .int x1)] := hl
  have hret1 : ∀ (t : Int32 × Int32 × (Nat → Int32) × (Nat → Int32) × (Nat → Int32)) (H : Heap) (locs : List Loc) (pc : Nat) (ls : Array Slot), some t = some (rv, z_t_acts, z_t_kinds, z_t_firsts, z_t_seconds) → gS E A s.heap (wX7_readDeed E o_t a_t v_t_signs t.2.1 v_t_reading v_t_begun v_t_brokenAt t.2.2.1 t.2.2.2.1 t.2.2.2.2) H locs → decode cX7_readDeed pc = .ok (.ireturn, 1) → W p l e ({ frames := 1, cells := 0, slots := 0, locals := 23 } : Room) s m args below meth cd H locs 0 0 Q (F0 m pc ls [.int t.1]) := by
    intro t H locs pc ls h hw hd
    obtain rfl : t = (rv, z_t_acts, z_t_kinds, z_t_firsts, z_t_seconds) := Option.some.inj h
    exact hret H locs pc ls hw hd
  refine lv_iload_n hx hb dX7_readDeed_0 rfl (lv_at hl 1 rfl) ?_
  refine lv_bipush (v := 48) hx hb dX7_readDeed_1 k_b48 ?_
  refine lv_isub hx hb dX7_readDeed_3 ?_
  refine lv_iconst (v := 1) hx hb dX7_readDeed_4 k_i1 ?_
  refine lv_bipush (v := 9) hx hb dX7_readDeed_5 k_b9 ?_
  obtain ⟨r1, hc2, hf⟩ := gB_s hf
  refine g_ki0 (is := []) hw hA (g_rN (host := "SeedBank") hx hb hml hG hown hK hw (is := []) rfl (by decide) (mX10_within l E (x1 - 48) 1 9 r1 hc2) (List.mem_of_getElem? (i := 10) rfl) wd_7_2 wd_1_2 wd_7_3 hX10_within g_allgood ⟨rfl, rfl⟩ ⟨Nat.le_of_ble_eq_true rfl, Nat.le_of_ble_eq_true rfl⟩ ⟨Nat.zero_le _, Nat.zero_le _⟩ rfl hl.1 rfl (Nat.le_of_ble_eq_true rfl) dX7_readDeed_7) rfl (fun H locs hw => ?_)
  refine lv_if_eq (tgt := 27) hx hb dX7_readDeed_10 (by decide) (fun hc => ?_) (fun hc => ?_)
  · have hf := g_t hc hf
    refine lv_iload_n hx hb dX7_readDeed_27 rfl (lv_at hl 1 rfl) ?_
    by_cases hs3 : x1 = 99
    · have hf := g_t hs3 hf
      refine lv_lookup (off := 28) (tgt := 56) hx hb dX7_readDeed_28 (by decide) (by rw [hs3] <;> rfl) (by decide) ?_
      refine lv_aload_n hx hb dX7_readDeed_56 rfl (lv_at hl 0 rfl) ?_
      refine lv_iconst (v := 1) hx hb dX7_readDeed_57 k_i1 ?_
      refine lv_aload_n hx hb dX7_readDeed_58 rfl (lv_at hl 0 rfl) ?_
      refine g_get hx hb hG hown hK hw inlX7 (ci := 6) rfl 0 6 (Nat.le_of_ble_eq_true rfl) rfl rfl wd_4_8 dX7_readDeed_59 ?_
      refine lv_iconst (v := 0) hx hb dX7_readDeed_62 k_i0 ?_
      obtain ⟨⟨r4_0, r4_1, r4_2, r4_3, r4_4⟩, hc5, hf⟩ := gB_s hf
      refine g_ki (is := [0, 1, 2, 3]) (isR := []) (nW := 4) (w1 := (wX7_endAct E o_t a_t v_t_signs r4_1 v_t_reading v_t_begun v_t_brokenAt r4_2 r4_3 r4_4)) (ws' := (wX7_readDeed E o_t a_t v_t_signs r4_1 v_t_reading v_t_begun v_t_brokenAt r4_2 r4_3 r4_4)) hw hA (g_rV hx hb hml hG hown hK hw (is := [0, 1, 2, 3]) rfl (by decide) (mX7_endAct l E o_t a_t v_t_signs v_t_acts v_t_reading v_t_begun v_t_brokenAt f_t_kinds f_t_firsts f_t_seconds 1 v_t_begun 0 r4_0 r4_1 r4_2 r4_3 r4_4 hc5) wd_12_12 wd_12_13 wd_12_14 wd_1_21 wd_12_15 hX7_endAct g_allgood ⟨rfl, rfl⟩ ⟨Nat.le_of_ble_eq_true rfl, Nat.le_of_ble_eq_true rfl⟩ ⟨Nat.zero_le _, Nat.zero_le _⟩ (ci := 6) (q0 := 0) rfl rfl rfl rfl hl.1 rfl (Nat.le_of_ble_eq_true rfl) dX7_readDeed_63) rfl (g_had [o_t, (a_t 0), (a_t 1), (a_t 2)] rfl rfl) rfl (trivial) rfl rfl (by decide) (fun H locs hw => ?_)
      exact hret1 (r4_0, r4_1, r4_2, r4_3, r4_4) _ _ _ _ hf hw dX7_readDeed_66
    have hf := g_f hs3 hf
    by_cases hs6 : x1 = 109
    · have hf := g_t hs6 hf
      refine lv_lookup (off := 39) (tgt := 67) hx hb dX7_readDeed_28 (by decide) (by rw [hs6] <;> rfl) (by decide) ?_
      refine lv_aload_n hx hb dX7_readDeed_67 rfl (lv_at hl 0 rfl) ?_
      refine lv_iconst (v := 2) hx hb dX7_readDeed_68 k_i2 ?_
      refine lv_aload_n hx hb dX7_readDeed_69 rfl (lv_at hl 0 rfl) ?_
      refine g_get hx hb hG hown hK hw inlX7 (ci := 6) rfl 0 6 (Nat.le_of_ble_eq_true rfl) rfl rfl wd_4_8 dX7_readDeed_70 ?_
      refine lv_iconst (v := 0) hx hb dX7_readDeed_73 k_i0 ?_
      obtain ⟨⟨r7_0, r7_1, r7_2, r7_3, r7_4⟩, hc8, hf⟩ := gB_s hf
      refine g_ki (is := [0, 1, 2, 3]) (isR := []) (nW := 4) (w1 := (wX7_endAct E o_t a_t v_t_signs r7_1 v_t_reading v_t_begun v_t_brokenAt r7_2 r7_3 r7_4)) (ws' := (wX7_readDeed E o_t a_t v_t_signs r7_1 v_t_reading v_t_begun v_t_brokenAt r7_2 r7_3 r7_4)) hw hA (g_rV hx hb hml hG hown hK hw (is := [0, 1, 2, 3]) rfl (by decide) (mX7_endAct l E o_t a_t v_t_signs v_t_acts v_t_reading v_t_begun v_t_brokenAt f_t_kinds f_t_firsts f_t_seconds 2 v_t_begun 0 r7_0 r7_1 r7_2 r7_3 r7_4 hc8) wd_12_12 wd_12_13 wd_12_14 wd_1_21 wd_12_15 hX7_endAct g_allgood ⟨rfl, rfl⟩ ⟨Nat.le_of_ble_eq_true rfl, Nat.le_of_ble_eq_true rfl⟩ ⟨Nat.zero_le _, Nat.zero_le _⟩ (ci := 6) (q0 := 0) rfl rfl rfl rfl hl.1 rfl (Nat.le_of_ble_eq_true rfl) dX7_readDeed_74) rfl (g_had [o_t, (a_t 0), (a_t 1), (a_t 2)] rfl rfl) rfl (trivial) rfl rfl (by decide) (fun H locs hw => ?_)
      exact hret1 (r7_0, r7_1, r7_2, r7_3, r7_4) _ _ _ _ hf hw dX7_readDeed_77
    have hf := g_f hs6 hf
    refine lv_lookup (off := 50) (tgt := 78) hx hb dX7_readDeed_28 (by decide) ((lv_osw hs3 (by decide)).trans ((lv_osw hs6 (by decide)).trans rfl)) (by decide) ?_
    refine lv_iconst (v := 4) hx hb dX7_readDeed_78 k_i4 ?_
    exact hret1 (4, v_t_acts, f_t_kinds, f_t_firsts, f_t_seconds) _ _ _ _ hf hw dX7_readDeed_79
  · have hf := g_f hc hf
    refine lv_aload_n hx hb dX7_readDeed_13 rfl (lv_at hl 0 rfl) ?_
    refine lv_iconst (v := 0) hx hb dX7_readDeed_14 k_i0 ?_
    refine lv_aload_n hx hb dX7_readDeed_15 rfl (lv_at hl 0 rfl) ?_
    refine g_get hx hb hG hown hK hw inlX7 (ci := 6) rfl 0 6 (Nat.le_of_ble_eq_true rfl) rfl rfl wd_4_8 dX7_readDeed_16 ?_
    refine lv_iload_n hx hb dX7_readDeed_19 rfl (lv_at hl 1 rfl) ?_
    refine lv_bipush (v := 48) hx hb dX7_readDeed_20 k_b48 ?_
    refine lv_isub hx hb dX7_readDeed_22 ?_
    obtain ⟨⟨r9_0, r9_1, r9_2, r9_3, r9_4⟩, hc10, hf⟩ := gB_s hf
    refine g_ki (is := [0, 1, 2, 3]) (isR := []) (nW := 4) (w1 := (wX7_endAct E o_t a_t v_t_signs r9_1 v_t_reading v_t_begun v_t_brokenAt r9_2 r9_3 r9_4)) (ws' := (wX7_readDeed E o_t a_t v_t_signs r9_1 v_t_reading v_t_begun v_t_brokenAt r9_2 r9_3 r9_4)) hw hA (g_rV hx hb hml hG hown hK hw (is := [0, 1, 2, 3]) rfl (by decide) (mX7_endAct l E o_t a_t v_t_signs v_t_acts v_t_reading v_t_begun v_t_brokenAt f_t_kinds f_t_firsts f_t_seconds 0 v_t_begun (x1 - 48) r9_0 r9_1 r9_2 r9_3 r9_4 hc10) wd_12_12 wd_12_13 wd_12_14 wd_1_21 wd_12_15 hX7_endAct g_allgood ⟨rfl, rfl⟩ ⟨Nat.le_of_ble_eq_true rfl, Nat.le_of_ble_eq_true rfl⟩ ⟨Nat.zero_le _, Nat.zero_le _⟩ (ci := 6) (q0 := 0) rfl rfl rfl rfl hl.1 rfl (Nat.le_of_ble_eq_true rfl) dX7_readDeed_23) rfl (g_had [o_t, (a_t 0), (a_t 1), (a_t 2)] rfl rfl) rfl (trivial) rfl rfl (by decide) (fun H locs hw => ?_)
    exact hret1 (r9_0, r9_1, r9_2, r9_3, r9_4) _ _ _ _ hf hw dX7_readDeed_26
theorem hX7_readSign : yX7_readSign.cls = RX7 ∧ yX7_readSign.cls ≠ "java/lang/invoke/MethodHandle" ∧ yX7_readSign.cls ≠ "java/lang/invoke/VarHandle" ∧ (parseMethodDescriptor yX7_readSign.desc).map (fun d => d.parameters.length) = some 1 := by decide +kernel
set_option maxHeartbeats 4000000 in
set_option maxRecDepth 100000 in
theorem mX7_readSign (l : Launch) (E : gE) (o_t : Nat) (a_t : (Nat → Nat)) (v_t_signs : Int32) (v_t_acts : Int32) (v_t_reading : Int32) (v_t_begun : Int32) (v_t_brokenAt : Int32) (f_t_kinds : (Nat → Int32)) (f_t_firsts : (Nat → Int32)) (f_t_seconds : (Nat → Int32)) (x1 : Int32) (rv : Int32) (z_t_acts : Int32) (z_t_begun : Int32) (z_t_kinds : (Nat → Int32)) (z_t_firsts : (Nat → Int32)) (z_t_seconds : (Nat → Int32)) (hf : fX7_readSign v_t_acts v_t_reading v_t_begun f_t_kinds f_t_firsts f_t_seconds x1 = some (rv, z_t_acts, z_t_begun, z_t_kinds, z_t_firsts, z_t_seconds)) {sz : Nat} : gMi l yX7_readSign (gW yX7_readSign cX7_readSign 2 (some .int)) ({ frames := 2, cells := 0, slots := 0, locals := 44 } : Room) E [.ref o_t, .int x1] (wX7_readSign E o_t a_t v_t_signs v_t_acts v_t_reading v_t_begun v_t_brokenAt f_t_kinds f_t_firsts f_t_seconds) sz rv (wX7_readSign E o_t a_t v_t_signs z_t_acts v_t_reading z_t_begun v_t_brokenAt z_t_kinds z_t_firsts z_t_seconds) := by
  refine g_openI (own := RX7) (by decide) rfl (Nat.le_of_ble_eq_true rfl) (fun p e s m args below meth cd Q A hx hb hml hown hG hK hA hret hw ls hl => ?_)
  have hl : lv_has ls 2 [(0, .ref o_t), (1, .int x1)] := hl
  have hret1 : ∀ (t : Int32 × Int32 × Int32 × (Nat → Int32) × (Nat → Int32) × (Nat → Int32)) (H : Heap) (locs : List Loc) (pc : Nat) (ls : Array Slot), some t = some (rv, z_t_acts, z_t_begun, z_t_kinds, z_t_firsts, z_t_seconds) → gS E A s.heap (wX7_readSign E o_t a_t v_t_signs t.2.1 v_t_reading t.2.2.1 v_t_brokenAt t.2.2.2.1 t.2.2.2.2.1 t.2.2.2.2.2) H locs → decode cX7_readSign pc = .ok (.ireturn, 1) → W p l e ({ frames := 2, cells := 0, slots := 0, locals := 44 } : Room) s m args below meth cd H locs 0 0 Q (F0 m pc ls [.int t.1]) := by
    intro t H locs pc ls h hw hd
    obtain rfl : t = (rv, z_t_acts, z_t_begun, z_t_kinds, z_t_firsts, z_t_seconds) := Option.some.inj h
    exact hret H locs pc ls hw hd
  have B93 : ∀ (v_t_acts : Int32) (v_t_begun : Int32) (f_t_kinds : (Nat → Int32)) (f_t_firsts : (Nat → Int32)) (f_t_seconds : (Nat → Int32)) (s0 : Int32) (H : Heap) (locs : List Loc) (ls : Array Slot), fX7_readSign_b93 v_t_acts v_t_begun f_t_kinds f_t_firsts f_t_seconds s0 = some (rv, z_t_acts, z_t_begun, z_t_kinds, z_t_firsts, z_t_seconds) → gS E A s.heap (wX7_readSign E o_t a_t v_t_signs v_t_acts v_t_reading v_t_begun v_t_brokenAt f_t_kinds f_t_firsts f_t_seconds) H locs → lv_has ls 2 [] → W p l e ({ frames := 2, cells := 0, slots := 0, locals := 44 } : Room) s m args below meth cd H locs 0 0 Q (F0 m 93 ls [.int s0]) := by
    intro  v_t_acts v_t_begun f_t_kinds f_t_firsts f_t_seconds s0 H locs ls hf hw hl
    exact hret1 (s0, v_t_acts, v_t_begun, f_t_kinds, f_t_firsts, f_t_seconds) _ _ _ _ hf hw dX7_readSign_93
  have B63 : ∀ (v_t_acts : Int32) (v_t_begun : Int32) (f_t_kinds : (Nat → Int32)) (f_t_firsts : (Nat → Int32)) (f_t_seconds : (Nat → Int32)) (s0 : Int32) (H : Heap) (locs : List Loc) (ls : Array Slot), fX7_readSign_b63 v_t_acts v_t_begun f_t_kinds f_t_firsts f_t_seconds s0 = some (rv, z_t_acts, z_t_begun, z_t_kinds, z_t_firsts, z_t_seconds) → gS E A s.heap (wX7_readSign E o_t a_t v_t_signs v_t_acts v_t_reading v_t_begun v_t_brokenAt f_t_kinds f_t_firsts f_t_seconds) H locs → lv_has ls 2 [] → W p l e ({ frames := 2, cells := 0, slots := 0, locals := 44 } : Room) s m args below meth cd H locs 0 0 Q (F0 m 63 ls [.int s0]) := by
    intro  v_t_acts v_t_begun f_t_kinds f_t_firsts f_t_seconds s0 H locs ls hf hw hl
    exact hret1 (s0, v_t_acts, v_t_begun, f_t_kinds, f_t_firsts, f_t_seconds) _ _ _ _ hf hw dX7_readSign_63
  refine lv_aload_n hx hb dX7_readSign_0 rfl (lv_at hl 0 rfl) ?_
  refine g_get hx hb hG hown hK hw inlX7 (ci := 6) rfl 0 5 (Nat.le_of_ble_eq_true rfl) rfl rfl wd_4_7 dX7_readSign_1 ?_
  by_cases hs1 : v_t_reading = 1
  · have hf := g_t hs1 hf
    refine lv_tableIn (off := 28) (tgt := 32) hx hb dX7_readSign_4 (by rw [hs1]; decide) (by rw [hs1]; decide) (by rw [hs1] <;> rfl) (by decide) ?_
    refine lv_aload_n hx hb dX7_readSign_32 rfl (lv_at hl 0 rfl) ?_
    refine lv_iload_n hx hb dX7_readSign_33 rfl (lv_at hl 1 rfl) ?_
    obtain ⟨⟨r2_0, r2_1, r2_2, r2_3, r2_4⟩, hc3, hf⟩ := gB_s hf
    refine g_ki (is := [0, 1, 2, 3]) (isR := []) (nW := 4) (w1 := (wX7_readDeed E o_t a_t v_t_signs r2_1 v_t_reading v_t_begun v_t_brokenAt r2_2 r2_3 r2_4)) (ws' := (wX7_readSign E o_t a_t v_t_signs r2_1 v_t_reading v_t_begun v_t_brokenAt r2_2 r2_3 r2_4)) hw hA (g_rV hx hb hml hG hown hK hw (is := [0, 1, 2, 3]) rfl (by decide) (mX7_readDeed l E o_t a_t v_t_signs v_t_acts v_t_reading v_t_begun v_t_brokenAt f_t_kinds f_t_firsts f_t_seconds x1 r2_0 r2_1 r2_2 r2_3 r2_4 hc3) wd_12_8 wd_12_9 wd_12_10 wd_1_21 wd_12_11 hX7_readDeed g_allgood ⟨rfl, rfl⟩ ⟨Nat.le_of_ble_eq_true rfl, Nat.le_of_ble_eq_true rfl⟩ ⟨Nat.zero_le _, Nat.zero_le _⟩ (ci := 6) (q0 := 0) rfl rfl rfl rfl hl.1 rfl (Nat.le_of_ble_eq_true rfl) dX7_readSign_34) rfl (g_had [o_t, (a_t 0), (a_t 1), (a_t 2)] rfl rfl) rfl (trivial) rfl rfl (by decide) (fun H locs hw => ?_)
    exact hret1 (r2_0, r2_1, v_t_begun, r2_2, r2_3, r2_4) _ _ _ _ hf hw dX7_readSign_37
  have hf := g_f hs1 hf
  by_cases hs4 : v_t_reading = 2
  · have hf := g_t hs4 hf
    refine lv_tableIn (off := 34) (tgt := 38) hx hb dX7_readSign_4 (by rw [hs4]; decide) (by rw [hs4]; decide) (by rw [hs4] <;> rfl) (by decide) ?_
    refine lv_aload_n hx hb dX7_readSign_38 rfl (lv_at hl 0 rfl) ?_
    refine lv_iload_n hx hb dX7_readSign_39 rfl (lv_at hl 1 rfl) ?_
    refine lv_bipush (v := 48) hx hb dX7_readSign_40 k_b48 ?_
    refine lv_isub hx hb dX7_readSign_42 ?_
    refine g_put (ws' := (wX7_readSign E o_t a_t v_t_signs v_t_acts v_t_reading (x1 - 48) v_t_brokenAt f_t_kinds f_t_firsts f_t_seconds)) hx hb hG hown hK hw inlX7 tyX7_ok nmX7 (ci := 6) rfl 0 6 (Nat.le_of_ble_eq_true rfl) rfl wd_4_8 rfl rfl rfl (Nat.le_of_ble_eq_true rfl) rfl dX7_readSign_43 (fun H locs hw => ?_)
    refine lv_aload_n hx hb dX7_readSign_46 rfl (lv_at hl 0 rfl) ?_
    refine g_get hx hb hG hown hK hw inlX7 (ci := 6) rfl 0 6 (Nat.le_of_ble_eq_true rfl) rfl rfl wd_4_8 dX7_readSign_47 ?_
    refine lv_iconst (v := 0) hx hb dX7_readSign_50 k_i0 ?_
    refine lv_iconst (v := 3) hx hb dX7_readSign_51 k_i3 ?_
    obtain ⟨r5, hc6, hf⟩ := gB_s hf
    refine g_ki0 (is := []) hw hA (g_rN (host := "SeedBank") hx hb hml hG hown hK hw (is := []) rfl (by decide) (mX10_within l E (x1 - 48) 0 3 r5 hc6) (List.mem_of_getElem? (i := 10) rfl) wd_7_2 wd_1_2 wd_7_3 hX10_within g_allgood ⟨rfl, rfl⟩ ⟨Nat.le_of_ble_eq_true rfl, Nat.le_of_ble_eq_true rfl⟩ ⟨Nat.zero_le _, Nat.zero_le _⟩ rfl hl.1 rfl (Nat.le_of_ble_eq_true rfl) dX7_readSign_52) rfl (fun H locs hw => ?_)
    refine lv_if_eq (tgt := 62) hx hb dX7_readSign_55 (by decide) (fun hc => ?_) (fun hc => ?_)
    · have hf := g_t hc hf
      refine lv_iconst (v := 4) hx hb dX7_readSign_62 k_i4 ?_
      exact B63 v_t_acts (x1 - 48) f_t_kinds f_t_firsts f_t_seconds 4 _ _ _ hf hw (lv_sub hl [] rfl)
    · have hf := g_f hc hf
      refine lv_iconst (v := 3) hx hb dX7_readSign_58 k_i3 ?_
      refine lv_goto (tgt := 63) hx hb dX7_readSign_59 (by decide) ?_
      exact B63 v_t_acts (x1 - 48) f_t_kinds f_t_firsts f_t_seconds 3 _ _ _ hf hw (lv_sub hl [] rfl)
  have hf := g_f hs4 hf
  by_cases hs7 : v_t_reading = 3
  · have hf := g_t hs7 hf
    refine lv_tableIn (off := 60) (tgt := 64) hx hb dX7_readSign_4 (by rw [hs7]; decide) (by rw [hs7]; decide) (by rw [hs7] <;> rfl) (by decide) ?_
    refine lv_iload_n hx hb dX7_readSign_64 rfl (lv_at hl 1 rfl) ?_
    refine lv_bipush (v := 48) hx hb dX7_readSign_65 k_b48 ?_
    refine lv_isub hx hb dX7_readSign_67 ?_
    refine lv_iconst (v := 0) hx hb dX7_readSign_68 k_i0 ?_
    refine lv_iconst (v := 5) hx hb dX7_readSign_69 k_i5 ?_
    obtain ⟨r8, hc9, hf⟩ := gB_s hf
    refine g_ki0 (is := []) hw hA (g_rN (host := "SeedBank") hx hb hml hG hown hK hw (is := []) rfl (by decide) (mX10_within l E (x1 - 48) 0 5 r8 hc9) (List.mem_of_getElem? (i := 10) rfl) wd_7_2 wd_1_2 wd_7_3 hX10_within g_allgood ⟨rfl, rfl⟩ ⟨Nat.le_of_ble_eq_true rfl, Nat.le_of_ble_eq_true rfl⟩ ⟨Nat.zero_le _, Nat.zero_le _⟩ rfl hl.1 rfl (Nat.le_of_ble_eq_true rfl) dX7_readSign_70) rfl (fun H locs hw => ?_)
    refine lv_if_eq (tgt := 92) hx hb dX7_readSign_73 (by decide) (fun hc => ?_) (fun hc => ?_)
    · have hf := g_t hc hf
      refine lv_iconst (v := 4) hx hb dX7_readSign_92 k_i4 ?_
      exact B93 v_t_acts v_t_begun f_t_kinds f_t_firsts f_t_seconds 4 _ _ _ hf hw (lv_sub hl [] rfl)
    · have hf := g_f hc hf
      refine lv_aload_n hx hb dX7_readSign_76 rfl (lv_at hl 0 rfl) ?_
      refine lv_iconst (v := 3) hx hb dX7_readSign_77 k_i3 ?_
      refine lv_aload_n hx hb dX7_readSign_78 rfl (lv_at hl 0 rfl) ?_
      refine g_get hx hb hG hown hK hw inlX7 (ci := 6) rfl 0 6 (Nat.le_of_ble_eq_true rfl) rfl rfl wd_4_8 dX7_readSign_79 ?_
      refine lv_iload_n hx hb dX7_readSign_82 rfl (lv_at hl 1 rfl) ?_
      refine lv_bipush (v := 48) hx hb dX7_readSign_83 k_b48 ?_
      refine lv_isub hx hb dX7_readSign_85 ?_
      obtain ⟨⟨r10_0, r10_1, r10_2, r10_3, r10_4⟩, hc11, hf⟩ := gB_s hf
      refine g_ki (is := [0, 1, 2, 3]) (isR := []) (nW := 4) (w1 := (wX7_endAct E o_t a_t v_t_signs r10_1 v_t_reading v_t_begun v_t_brokenAt r10_2 r10_3 r10_4)) (ws' := (wX7_readSign E o_t a_t v_t_signs r10_1 v_t_reading v_t_begun v_t_brokenAt r10_2 r10_3 r10_4)) hw hA (g_rV hx hb hml hG hown hK hw (is := [0, 1, 2, 3]) rfl (by decide) (mX7_endAct l E o_t a_t v_t_signs v_t_acts v_t_reading v_t_begun v_t_brokenAt f_t_kinds f_t_firsts f_t_seconds 3 v_t_begun (x1 - 48) r10_0 r10_1 r10_2 r10_3 r10_4 hc11) wd_12_12 wd_12_13 wd_12_14 wd_1_21 wd_12_15 hX7_endAct g_allgood ⟨rfl, rfl⟩ ⟨Nat.le_of_ble_eq_true rfl, Nat.le_of_ble_eq_true rfl⟩ ⟨Nat.zero_le _, Nat.zero_le _⟩ (ci := 6) (q0 := 0) rfl rfl rfl rfl hl.1 rfl (Nat.le_of_ble_eq_true rfl) dX7_readSign_86) rfl (g_had [o_t, (a_t 0), (a_t 1), (a_t 2)] rfl rfl) rfl (trivial) rfl rfl (by decide) (fun H locs hw => ?_)
      refine lv_goto (tgt := 93) hx hb dX7_readSign_89 (by decide) ?_
      exact B93 r10_1 v_t_begun r10_2 r10_3 r10_4 r10_0 _ _ _ hf hw (lv_sub hl [] rfl)
  have hf := g_f hs7 hf
  have nhs1 := lv_neT hs1 (show (1 : Int32).toInt = 1 from by decide)
  have nhs4 := lv_neT hs4 (show (2 : Int32).toInt = 2 from by decide)
  have nhs7 := lv_neT hs7 (show (3 : Int32).toInt = 3 from by decide)
  refine lv_tableOut (tgt := 94) hx hb dX7_readSign_4 (by omega) (by decide) ?_
  refine lv_aload_n hx hb dX7_readSign_94 rfl (lv_at hl 0 rfl) ?_
  refine lv_iload_n hx hb dX7_readSign_95 rfl (lv_at hl 1 rfl) ?_
  obtain ⟨⟨r12_0, r12_1, r12_2, r12_3, r12_4, r12_5⟩, hc13, hf⟩ := gB_s hf
  refine g_ki (is := [0, 1, 2, 3]) (isR := []) (nW := 4) (w1 := (wX7_readBeginning E o_t a_t v_t_signs r12_1 v_t_reading r12_2 v_t_brokenAt r12_3 r12_4 r12_5)) (ws' := (wX7_readSign E o_t a_t v_t_signs r12_1 v_t_reading r12_2 v_t_brokenAt r12_3 r12_4 r12_5)) hw hA (g_rV hx hb hml hG hown hK hw (is := [0, 1, 2, 3]) rfl (by decide) (mX7_readBeginning l E o_t a_t v_t_signs v_t_acts v_t_reading v_t_begun v_t_brokenAt f_t_kinds f_t_firsts f_t_seconds x1 r12_0 r12_1 r12_2 r12_3 r12_4 r12_5 hc13) wd_12_16 wd_12_17 wd_12_18 wd_1_21 wd_12_19 hX7_readBeginning g_allgood ⟨rfl, rfl⟩ ⟨Nat.le_of_ble_eq_true rfl, Nat.le_of_ble_eq_true rfl⟩ ⟨Nat.zero_le _, Nat.zero_le _⟩ (ci := 6) (q0 := 0) rfl rfl rfl rfl hl.1 rfl (Nat.le_of_ble_eq_true rfl) dX7_readSign_96) rfl (g_had [o_t, (a_t 0), (a_t 1), (a_t 2)] rfl rfl) rfl (trivial) rfl rfl (by decide) (fun H locs hw => ?_)
  exact hret1 (r12_0, r12_1, r12_2, r12_3, r12_4, r12_5) _ _ _ _ hf hw dX7_readSign_99
theorem hX7_write : yX7_write.cls = RX7 ∧ yX7_write.cls ≠ "java/lang/invoke/MethodHandle" ∧ yX7_write.cls ≠ "java/lang/invoke/VarHandle" ∧ (parseMethodDescriptor yX7_write.desc).map (fun d => d.parameters.length) = some 1 := by decide +kernel
set_option maxHeartbeats 4000000 in
set_option maxRecDepth 100000 in
theorem mX7_write (l : Launch) (E : gE) (o_t : Nat) (a_t : (Nat → Nat)) (v_t_signs : Int32) (v_t_acts : Int32) (v_t_reading : Int32) (v_t_begun : Int32) (v_t_brokenAt : Int32) (f_t_kinds : (Nat → Int32)) (f_t_firsts : (Nat → Int32)) (f_t_seconds : (Nat → Int32)) (x1 : Int32) (z_t_signs : Int32) (z_t_acts : Int32) (z_t_reading : Int32) (z_t_begun : Int32) (z_t_brokenAt : Int32) (z_t_kinds : (Nat → Int32)) (z_t_firsts : (Nat → Int32)) (z_t_seconds : (Nat → Int32)) (hf : fX7_write v_t_signs v_t_acts v_t_reading v_t_begun v_t_brokenAt f_t_kinds f_t_firsts f_t_seconds x1 = some (z_t_signs, z_t_acts, z_t_reading, z_t_begun, z_t_brokenAt, z_t_kinds, z_t_firsts, z_t_seconds)) {sz : Nat} : gMv l yX7_write (gW yX7_write cX7_write 2 none) ({ frames := 3, cells := 0, slots := 0, locals := 65 } : Room) E [.ref o_t, .int x1] (wX7_write E o_t a_t v_t_signs v_t_acts v_t_reading v_t_begun v_t_brokenAt f_t_kinds f_t_firsts f_t_seconds) sz (wX7_write E o_t a_t z_t_signs z_t_acts z_t_reading z_t_begun z_t_brokenAt z_t_kinds z_t_firsts z_t_seconds) := by
  refine g_openV (own := RX7) (by decide) rfl (Nat.le_of_ble_eq_true rfl) (fun p e s m args below meth cd Q A hx hb hml hown hG hK hA hret hw ls hl => ?_)
  have hl : lv_has ls 2 [(0, .ref o_t), (1, .int x1)] := hl
  have hret1 : ∀ (t : Int32 × Int32 × Int32 × Int32 × Int32 × (Nat → Int32) × (Nat → Int32) × (Nat → Int32)) (H : Heap) (locs : List Loc) (pc : Nat) (ls : Array Slot), some t = some (z_t_signs, z_t_acts, z_t_reading, z_t_begun, z_t_brokenAt, z_t_kinds, z_t_firsts, z_t_seconds) → gS E A s.heap (wX7_write E o_t a_t t.1 t.2.1 t.2.2.1 t.2.2.2.1 t.2.2.2.2.1 t.2.2.2.2.2.1 t.2.2.2.2.2.2.1 t.2.2.2.2.2.2.2) H locs → decode cX7_write pc = .ok (.return_, 1) → W p l e ({ frames := 3, cells := 0, slots := 0, locals := 65 } : Room) s m args below meth cd H locs 0 0 Q (F0 m pc ls []) := by
    intro t H locs pc ls h hw hd
    obtain rfl : t = (z_t_signs, z_t_acts, z_t_reading, z_t_begun, z_t_brokenAt, z_t_kinds, z_t_firsts, z_t_seconds) := Option.some.inj h
    exact hret H locs pc ls hw hd
  have B25 : ∀ (v_t_signs : Int32) (v_t_acts : Int32) (v_t_reading : Int32) (v_t_begun : Int32) (v_t_brokenAt : Int32) (f_t_kinds : (Nat → Int32)) (f_t_firsts : (Nat → Int32)) (f_t_seconds : (Nat → Int32)) (H : Heap) (locs : List Loc) (ls : Array Slot), fX7_write_b25 v_t_signs v_t_acts v_t_reading v_t_begun v_t_brokenAt f_t_kinds f_t_firsts f_t_seconds = some (z_t_signs, z_t_acts, z_t_reading, z_t_begun, z_t_brokenAt, z_t_kinds, z_t_firsts, z_t_seconds) → gS E A s.heap (wX7_write E o_t a_t v_t_signs v_t_acts v_t_reading v_t_begun v_t_brokenAt f_t_kinds f_t_firsts f_t_seconds) H locs → lv_has ls 2 [(0, .ref o_t)] → W p l e ({ frames := 3, cells := 0, slots := 0, locals := 65 } : Room) s m args below meth cd H locs 0 0 Q (F0 m 25 ls []) := by
    intro  v_t_signs v_t_acts v_t_reading v_t_begun v_t_brokenAt f_t_kinds f_t_firsts f_t_seconds H locs ls hf hw hl
    refine lv_aload_n hx hb dX7_write_25 rfl (lv_at hl 0 rfl) ?_
    refine lv_dup hx hb dX7_write_26 rfl ?_
    refine g_get hx hb hG hown hK hw inlX7 (ci := 6) rfl 0 3 (Nat.le_of_ble_eq_true rfl) rfl rfl wd_4_5 dX7_write_27 ?_
    refine lv_iconst (v := 1) hx hb dX7_write_30 k_i1 ?_
    refine lv_iadd hx hb dX7_write_31 ?_
    refine g_put (ws' := (wX7_write E o_t a_t (v_t_signs + 1) v_t_acts v_t_reading v_t_begun v_t_brokenAt f_t_kinds f_t_firsts f_t_seconds)) hx hb hG hown hK hw inlX7 tyX7_ok nmX7 (ci := 6) rfl 0 3 (Nat.le_of_ble_eq_true rfl) rfl wd_4_5 rfl rfl rfl (Nat.le_of_ble_eq_true rfl) rfl dX7_write_32 (fun H locs hw => ?_)
    exact hret1 ((v_t_signs + 1), v_t_acts, v_t_reading, v_t_begun, v_t_brokenAt, f_t_kinds, f_t_firsts, f_t_seconds) _ _ _ _ hf hw dX7_write_35
  refine lv_aload_n hx hb dX7_write_0 rfl (lv_at hl 0 rfl) ?_
  refine g_get hx hb hG hown hK hw inlX7 (ci := 6) rfl 0 5 (Nat.le_of_ble_eq_true rfl) rfl rfl wd_4_7 dX7_write_1 ?_
  refine lv_iconst (v := 4) hx hb dX7_write_4 k_i4 ?_
  refine lv_icmp_eq (tgt := 25) hx hb dX7_write_5 (by decide) (fun hc => ?_) (fun hc => ?_)
  · have hf := g_t hc hf
    exact B25 v_t_signs v_t_acts v_t_reading v_t_begun v_t_brokenAt f_t_kinds f_t_firsts f_t_seconds _ _ _ hf hw (lv_sub hl [0] rfl)
  · have hf := g_f hc hf
    refine lv_aload_n hx hb dX7_write_8 rfl (lv_at hl 0 rfl) ?_
    refine lv_aload_n hx hb dX7_write_9 rfl (lv_at hl 0 rfl) ?_
    refine lv_iload_n hx hb dX7_write_10 rfl (lv_at hl 1 rfl) ?_
    obtain ⟨⟨r1_0, r1_1, r1_2, r1_3, r1_4, r1_5⟩, hc2, hf⟩ := gB_s hf
    refine g_ki (is := [0, 1, 2, 3]) (isR := []) (nW := 4) (w1 := (wX7_readSign E o_t a_t v_t_signs r1_1 v_t_reading r1_2 v_t_brokenAt r1_3 r1_4 r1_5)) (ws' := (wX7_write E o_t a_t v_t_signs r1_1 v_t_reading r1_2 v_t_brokenAt r1_3 r1_4 r1_5)) hw hA (g_rV hx hb hml hG hown hK hw (is := [0, 1, 2, 3]) rfl (by decide) (mX7_readSign l E o_t a_t v_t_signs v_t_acts v_t_reading v_t_begun v_t_brokenAt f_t_kinds f_t_firsts f_t_seconds x1 r1_0 r1_1 r1_2 r1_3 r1_4 r1_5 hc2) wd_12_4 wd_12_5 wd_12_6 wd_1_21 wd_12_7 hX7_readSign g_allgood ⟨rfl, rfl⟩ ⟨Nat.le_of_ble_eq_true rfl, Nat.le_of_ble_eq_true rfl⟩ ⟨Nat.zero_le _, Nat.zero_le _⟩ (ci := 6) (q0 := 0) rfl rfl rfl rfl hl.1 rfl (Nat.le_of_ble_eq_true rfl) dX7_write_11) rfl (g_had [o_t, (a_t 0), (a_t 1), (a_t 2)] rfl rfl) rfl (trivial) rfl rfl (by decide) (fun H locs hw => ?_)
    refine g_put (ws' := (wX7_write E o_t a_t v_t_signs r1_1 r1_0 r1_2 v_t_brokenAt r1_3 r1_4 r1_5)) hx hb hG hown hK hw inlX7 tyX7_ok nmX7 (ci := 6) rfl 0 5 (Nat.le_of_ble_eq_true rfl) rfl wd_4_7 rfl rfl rfl (Nat.le_of_ble_eq_true rfl) rfl dX7_write_14 (fun H locs hw => ?_)
    refine lv_aload_n hx hb dX7_write_17 rfl (lv_at hl 0 rfl) ?_
    refine lv_aload_n hx hb dX7_write_18 rfl (lv_at hl 0 rfl) ?_
    refine g_get hx hb hG hown hK hw inlX7 (ci := 6) rfl 0 3 (Nat.le_of_ble_eq_true rfl) rfl rfl wd_4_5 dX7_write_19 ?_
    refine g_put (ws' := (wX7_write E o_t a_t v_t_signs r1_1 r1_0 r1_2 v_t_signs r1_3 r1_4 r1_5)) hx hb hG hown hK hw inlX7 tyX7_ok nmX7 (ci := 6) rfl 0 7 (Nat.le_of_ble_eq_true rfl) rfl wd_4_9 rfl rfl rfl (Nat.le_of_ble_eq_true rfl) rfl dX7_write_22 (fun H locs hw => ?_)
    exact B25 v_t_signs r1_1 r1_0 r1_2 v_t_signs r1_3 r1_4 r1_5 _ _ _ hf hw (lv_sub hl [0] rfl)
theorem hX8_windBetween : yX8_windBetween.cls ≠ "java/lang/invoke/MethodHandle" ∧ yX8_windBetween.cls ≠ "java/lang/invoke/VarHandle" ∧ (parseMethodDescriptor yX8_windBetween.desc).map (fun d => d.parameters.length) = some 3 := by decide +kernel
set_option maxHeartbeats 4000000 in
set_option maxRecDepth 100000 in
theorem mX8_windBetween (l : Launch) (E : gE) (o_p0 : Nat) (a_p0 : (Nat → Nat)) (v_p0_families : Int32) (v_p0_wind : Int32) (v_p0_force : Int32) (v_p0_rain : Int32) (v_p0_lost : Int32) (v_p0_hour : Int32) (f_p0_home : (Nat → Int32)) (x1 : Int32) (x2 : Int32) (rv : Int32) (hf : fX8_windBetween f_p0_home x1 x2 = some rv) {sz : Nat} : gMi l yX8_windBetween (gW yX8_windBetween cX8_windBetween 7 (some .int)) ({ frames := 1, cells := 0, slots := 0, locals := 25 } : Room) E [.ref o_p0, .int x1, .int x2] (wX8_windBetween E o_p0 a_p0 v_p0_families v_p0_wind v_p0_force v_p0_rain v_p0_lost v_p0_hour f_p0_home) sz rv (wX8_windBetween E o_p0 a_p0 v_p0_families v_p0_wind v_p0_force v_p0_rain v_p0_lost v_p0_hour f_p0_home) := by
  refine g_openI (own := RX8) (by decide) rfl (Nat.le_of_ble_eq_true rfl) (fun p e s m args below meth cd Q A hx hb hml hown hG hK hA hret hw ls hl => ?_)
  have hl : lv_has ls 7 [(0, .ref o_p0), (1, .int x1), (2, .int x2)] := hl
  have hret1 : ∀ (t : Int32) (H : Heap) (locs : List Loc) (pc : Nat) (ls : Array Slot), some t = some rv → gS E A s.heap (wX8_windBetween E o_p0 a_p0 v_p0_families v_p0_wind v_p0_force v_p0_rain v_p0_lost v_p0_hour f_p0_home) H locs → decode cX8_windBetween pc = .ok (.ireturn, 1) → W p l e ({ frames := 1, cells := 0, slots := 0, locals := 25 } : Room) s m args below meth cd H locs 0 0 Q (F0 m pc ls [.int t]) := by
    intro t H locs pc ls h hw hd
    obtain rfl : t = rv := Option.some.inj h
    exact hret H locs pc ls hw hd
  have B31 : ∀ (K22 : Int32 → Int32 → Int32 → Option (Int32)) (hK22 : ∀ (x3 : Int32) (x4 : Int32) (x5 : Int32) (H : Heap) (locs : List Loc) (ls : Array Slot), K22 x3 x4 x5 = some rv → gS E A s.heap (wX8_windBetween E o_p0 a_p0 v_p0_families v_p0_wind v_p0_force v_p0_rain v_p0_lost v_p0_hour f_p0_home) H locs → lv_has ls 7 [(3, .int x3), (4, .int x4), (5, .int x5)] → W p l e ({ frames := 1, cells := 0, slots := 0, locals := 25 } : Room) s m args below meth cd H locs 0 0 Q (F0 m 22 ls [])), ∀ n : Nat, ∀ (x3 : Int32) (x4 : Int32) (x5 : Int32) (x6 : Int32) (H : Heap) (locs : List Loc) (ls : Array Slot), fX8_windBetween_b31 K22 n x3 x4 x5 x6 = some rv → gS E A s.heap (wX8_windBetween E o_p0 a_p0 v_p0_families v_p0_wind v_p0_force v_p0_rain v_p0_lost v_p0_hour f_p0_home) H locs → lv_has ls 7 [(3, .int x3), (4, .int x4), (5, .int x5), (6, .int x6)] → W p l e ({ frames := 1, cells := 0, slots := 0, locals := 25 } : Room) s m args below meth cd H locs 0 0 Q (F0 m 31 ls []) := by
    intro K22 hK22
    intro n
    induction n with
    | zero => intro x3 x4 x5 x6 H locs ls hf hw hl; exact g_no hf
    | succ n ih =>
      intro x3 x4 x5 x6 H locs ls hf hw hl
      refine lv_iload hx hb dX8_windBetween_31 (lv_at hl 3 rfl) ?_
      refine lv_iconst (v := 5) hx hb dX8_windBetween_33 k_i5 ?_
      refine lv_icmp_gt (tgt := 65) hx hb dX8_windBetween_34 (by decide) (fun hc => ?_) (fun hc => ?_)
      · have hf := g_t hc hf
        refine lv_iinc (lv' := [(5, .int (x5 + 1)), (3, .int x3), (4, .int x4), (6, .int x6)]) hx hb dX8_windBetween_65 hl (k := 2) rfl (k_inc1 _) (Nat.le_of_ble_eq_true rfl) rfl (fun ls hl => ?_)
        refine lv_goto (tgt := 22) hx hb dX8_windBetween_68 (by decide) ?_
        exact hK22 x3 x4 (x5 + 1) _ _ _ hf hw (lv_sub hl [1, 2, 0] rfl)
      · have hf := g_f hc hf
        refine lv_iload_n hx hb dX8_windBetween_37 rfl (lv_at hl 0 rfl) ?_
        refine lv_iload hx hb dX8_windBetween_38 (lv_at hl 2 rfl) ?_
        refine lv_iload hx hb dX8_windBetween_40 (lv_at hl 3 rfl) ?_
        obtain ⟨r1, hc2, hf⟩ := gB_s hf
        refine g_ki0 (is := []) hw hA (g_rN (host := "SeedBank") hx hb hml hG hown hK hw (is := []) rfl (by decide) (mX10_downwind l E x3 x5 x6 r1 hc2) (List.mem_of_getElem? (i := 18) rfl) wd_17_12 wd_1_2 wd_17_13 hX10_downwind g_allgood ⟨rfl, rfl⟩ ⟨Nat.le_of_ble_eq_true rfl, Nat.le_of_ble_eq_true rfl⟩ ⟨Nat.zero_le _, Nat.zero_le _⟩ rfl hl.1 rfl (Nat.le_of_ble_eq_true rfl) dX8_windBetween_42) rfl (fun H locs hw => ?_)
        refine lv_iload hx hb dX8_windBetween_45 (lv_at hl 1 rfl) ?_
        refine lv_icmp_ne (tgt := 59) hx hb dX8_windBetween_47 (by decide) (fun hc => ?_) (fun hc => ?_)
        · have hf := g_f hc hf
          refine lv_iinc (lv' := [(6, .int (x6 + 1)), (3, .int x3), (4, .int x4), (5, .int x5)]) hx hb dX8_windBetween_59 hl (k := 3) rfl (k_inc1 _) (Nat.le_of_ble_eq_true rfl) rfl (fun ls hl => ?_)
          refine lv_goto (tgt := 31) hx hb dX8_windBetween_62 (by decide) ?_
          exact ih x3 x4 x5 (x6 + 1) _ _ _ hf hw (lv_sub hl [1, 2, 3, 0] rfl)
        · have hf := g_t hc hf
          refine lv_bipush (v := 10) hx hb dX8_windBetween_50 k_b10 ?_
          refine lv_iload hx hb dX8_windBetween_52 (lv_at hl 2 rfl) ?_
          refine lv_imul hx hb dX8_windBetween_54 ?_
          refine lv_iload hx hb dX8_windBetween_55 (lv_at hl 3 rfl) ?_
          refine lv_iadd hx hb dX8_windBetween_57 ?_
          exact hret1 ((10 * x5) + x6) _ _ _ _ hf hw dX8_windBetween_58
  have B22 : ∀ n : Nat, ∀ (x3 : Int32) (x4 : Int32) (x5 : Int32) (H : Heap) (locs : List Loc) (ls : Array Slot), fX8_windBetween_b22 n x3 x4 x5 = some rv → gS E A s.heap (wX8_windBetween E o_p0 a_p0 v_p0_families v_p0_wind v_p0_force v_p0_rain v_p0_lost v_p0_hour f_p0_home) H locs → lv_has ls 7 [(3, .int x3), (4, .int x4), (5, .int x5)] → W p l e ({ frames := 1, cells := 0, slots := 0, locals := 25 } : Room) s m args below meth cd H locs 0 0 Q (F0 m 22 ls []) := by
    intro n
    induction n with
    | zero => intro x3 x4 x5 H locs ls hf hw hl; exact g_no hf
    | succ n ih =>
      intro x3 x4 x5 H locs ls hf hw hl
      refine lv_iload hx hb dX8_windBetween_22 (lv_at hl 2 rfl) ?_
      refine lv_iconst (v := 4) hx hb dX8_windBetween_24 k_i4 ?_
      refine lv_icmp_ge (tgt := 71) hx hb dX8_windBetween_25 (by decide) (fun hc => ?_) (fun hc => ?_)
      · have hf := g_t hc hf
        refine lv_bipush (v := -6) hx hb dX8_windBetween_71 k_bm6 ?_
        exact hret1 (-6) _ _ _ _ hf hw dX8_windBetween_73
      · have hf := g_f hc hf
        refine lv_iconst (v := 1) hx hb dX8_windBetween_28 k_i1 ?_
        refine lv_istore (lv' := [(6, .int 1), (3, .int x3), (4, .int x4), (5, .int x5)]) hx hb dX8_windBetween_29 hl (Nat.le_of_ble_eq_true rfl) rfl (fun ls hl => ?_)
        exact B31 (fX8_windBetween_b22 n) ih 1000 x3 x4 x5 1 _ _ _ hf hw (lv_sub hl [1, 2, 3, 0] rfl)
  refine lv_aload_n hx hb dX8_windBetween_0 rfl (lv_at hl 0 rfl) ?_
  refine g_get hx hb hG hown hK hw inlX6 (ci := 5) rfl 0 0 (Nat.le_of_ble_eq_true rfl) rfl rfl wd_25_14 dX8_windBetween_1 ?_
  refine lv_iload_n hx hb dX8_windBetween_4 rfl (lv_at hl 1 rfl) ?_
  obtain ⟨r3, hc4, hf⟩ := gB_s hf
  refine g_ki0 (is := [1]) hw hA (g_rN (host := "SeedBank") hx hb hml hG hown hK hw (is := [1]) rfl (by decide) (mX10_at l E (a_p0 0) 6 f_p0_home x1 r3 hc4) (List.mem_of_getElem? (i := 17) rfl) wd_15_23 wd_1_2 wd_16_0 hX10_at g_allgood ⟨rfl, rfl⟩ ⟨Nat.le_of_ble_eq_true rfl, Nat.le_of_ble_eq_true rfl⟩ ⟨Nat.zero_le _, Nat.zero_le _⟩ rfl hl.1 rfl (Nat.le_of_ble_eq_true rfl) dX8_windBetween_5) rfl (fun H locs hw => ?_)
  refine lv_istore_n (lv' := [(3, .int r3), (0, .ref o_p0), (1, .int x1), (2, .int x2)]) hx hb dX8_windBetween_8 rfl hl (Nat.le_of_ble_eq_true rfl) rfl (fun ls hl => ?_)
  refine lv_aload_n hx hb dX8_windBetween_9 rfl (lv_at hl 1 rfl) ?_
  refine g_get hx hb hG hown hK hw inlX6 (ci := 5) rfl 0 0 (Nat.le_of_ble_eq_true rfl) rfl rfl wd_25_14 dX8_windBetween_10 ?_
  refine lv_iload_n hx hb dX8_windBetween_13 rfl (lv_at hl 3 rfl) ?_
  obtain ⟨r5, hc6, hf⟩ := gB_s hf
  refine g_ki0 (is := [1]) hw hA (g_rN (host := "SeedBank") hx hb hml hG hown hK hw (is := [1]) rfl (by decide) (mX10_at l E (a_p0 0) 6 f_p0_home x2 r5 hc6) (List.mem_of_getElem? (i := 17) rfl) wd_15_23 wd_1_2 wd_16_0 hX10_at g_allgood ⟨rfl, rfl⟩ ⟨Nat.le_of_ble_eq_true rfl, Nat.le_of_ble_eq_true rfl⟩ ⟨Nat.zero_le _, Nat.zero_le _⟩ rfl hl.1 rfl (Nat.le_of_ble_eq_true rfl) dX8_windBetween_14) rfl (fun H locs hw => ?_)
  refine lv_istore (lv' := [(4, .int r5), (3, .int r3), (0, .ref o_p0), (1, .int x1), (2, .int x2)]) hx hb dX8_windBetween_17 hl (Nat.le_of_ble_eq_true rfl) rfl (fun ls hl => ?_)
  refine lv_iconst (v := 0) hx hb dX8_windBetween_19 k_i0 ?_
  refine lv_istore (lv' := [(5, .int 0), (4, .int r5), (3, .int r3), (0, .ref o_p0), (1, .int x1), (2, .int x2)]) hx hb dX8_windBetween_20 hl (Nat.le_of_ble_eq_true rfl) rfl (fun ls hl => ?_)
  exact B22 1000 r3 r5 0 _ _ _ hf hw (lv_sub hl [2, 1, 0] rfl)
theorem hX8_isOnePuff : yX8_isOnePuff.cls ≠ "java/lang/invoke/MethodHandle" ∧ yX8_isOnePuff.cls ≠ "java/lang/invoke/VarHandle" ∧ (parseMethodDescriptor yX8_isOnePuff.desc).map (fun d => d.parameters.length) = some 3 := by decide +kernel
set_option maxHeartbeats 4000000 in
set_option maxRecDepth 100000 in
theorem mX8_isOnePuff (l : Launch) (E : gE) (o_p0 : Nat) (a_p0 : (Nat → Nat)) (v_p0_families : Int32) (v_p0_wind : Int32) (v_p0_force : Int32) (v_p0_rain : Int32) (v_p0_lost : Int32) (v_p0_hour : Int32) (f_p0_home : (Nat → Int32)) (x1 : Int32) (x2 : Int32) (rv : Int32) (hf : fX8_isOnePuff v_p0_families f_p0_home x1 x2 = some rv) {sz : Nat} : gMi l yX8_isOnePuff (gW yX8_isOnePuff cX8_isOnePuff 3 (some .boolean)) ({ frames := 2, cells := 0, slots := 0, locals := 51 } : Room) E [.ref o_p0, .int x1, .int x2] (wX8_isOnePuff E o_p0 a_p0 v_p0_families v_p0_wind v_p0_force v_p0_rain v_p0_lost v_p0_hour f_p0_home) sz rv (wX8_isOnePuff E o_p0 a_p0 v_p0_families v_p0_wind v_p0_force v_p0_rain v_p0_lost v_p0_hour f_p0_home) := by
  refine g_openZ (own := RX8) (by decide) rfl (Nat.le_of_ble_eq_true rfl) (fun p e s m args below meth cd Q A hx hb hml hown hG hK hA hret hw ls hl => ?_)
  have hl : lv_has ls 3 [(0, .ref o_p0), (1, .int x1), (2, .int x2)] := hl
  have hret1 : ∀ (t : Int32) (H : Heap) (locs : List Loc) (pc : Nat) (ls : Array Slot), some t = some rv → t &&& 1 = t → gS E A s.heap (wX8_isOnePuff E o_p0 a_p0 v_p0_families v_p0_wind v_p0_force v_p0_rain v_p0_lost v_p0_hour f_p0_home) H locs → decode cX8_isOnePuff pc = .ok (.ireturn, 1) → W p l e ({ frames := 2, cells := 0, slots := 0, locals := 51 } : Room) s m args below meth cd H locs 0 0 Q (F0 m pc ls [.int t]) := by
    intro t H locs pc ls h hz hw hd
    obtain rfl : t = rv := Option.some.inj h
    exact hret H locs pc ls hz hw hd
  have B32 : ∀ (s0 : Int32) (H : Heap) (locs : List Loc) (ls : Array Slot), fX8_isOnePuff_b32 s0 = some rv → gS E A s.heap (wX8_isOnePuff E o_p0 a_p0 v_p0_families v_p0_wind v_p0_force v_p0_rain v_p0_lost v_p0_hour f_p0_home) H locs → lv_has ls 3 [] → W p l e ({ frames := 2, cells := 0, slots := 0, locals := 51 } : Room) s m args below meth cd H locs 0 0 Q (F0 m 32 ls [.int s0]) := by
    intro  s0 H locs ls hf hw hl
    obtain ⟨hz1, hf⟩ := gZ_s hf
    exact hret1 s0 _ _ _ _ hf hz1 hw dX8_isOnePuff_32
  have B31 : ∀ (H : Heap) (locs : List Loc) (ls : Array Slot), fX8_isOnePuff_b31 = some rv → gS E A s.heap (wX8_isOnePuff E o_p0 a_p0 v_p0_families v_p0_wind v_p0_force v_p0_rain v_p0_lost v_p0_hour f_p0_home) H locs → lv_has ls 3 [] → W p l e ({ frames := 2, cells := 0, slots := 0, locals := 51 } : Room) s m args below meth cd H locs 0 0 Q (F0 m 31 ls []) := by
    intro   H locs ls hf hw hl
    refine lv_iconst (v := 0) hx hb dX8_isOnePuff_31 k_i0 ?_
    exact B32 0 _ _ _ hf hw (lv_sub hl [] rfl)
  refine lv_aload_n hx hb dX8_isOnePuff_0 rfl (lv_at hl 0 rfl) ?_
  refine lv_iload_n hx hb dX8_isOnePuff_1 rfl (lv_at hl 1 rfl) ?_
  obtain ⟨r2, hc3, hf⟩ := gB_s hf
  refine g_ki0 (is := [0]) hw hA (g_rV hx hb hml hG hown hK hw (is := [0]) rfl (by decide) (mX6_isThere l E o_p0 a_p0 v_p0_families v_p0_wind v_p0_force v_p0_rain v_p0_lost v_p0_hour x1 r2 hc3) wd_26_12 wd_9_9 wd_9_10 wd_2_20 wd_9_11 hX6_isThere g_allgood ⟨rfl, rfl⟩ ⟨Nat.le_of_ble_eq_true rfl, Nat.le_of_ble_eq_true rfl⟩ ⟨Nat.zero_le _, Nat.zero_le _⟩ (ci := 5) (q0 := 0) rfl rfl rfl rfl hl.1 rfl (Nat.le_of_ble_eq_true rfl) dX8_isOnePuff_2) rfl (fun H locs hw => ?_)
  refine lv_if_eq (tgt := 31) hx hb dX8_isOnePuff_5 (by decide) (fun hc => ?_) (fun hc => ?_)
  · have hf := g_t hc hf
    exact B31 _ _ _ hf hw (lv_sub hl [] rfl)
  · have hf := g_f hc hf
    refine lv_aload_n hx hb dX8_isOnePuff_8 rfl (lv_at hl 0 rfl) ?_
    refine lv_iload_n hx hb dX8_isOnePuff_9 rfl (lv_at hl 2 rfl) ?_
    obtain ⟨r4, hc5, hf⟩ := gB_s hf
    refine g_ki0 (is := [0]) hw hA (g_rV hx hb hml hG hown hK hw (is := [0]) rfl (by decide) (mX6_isThere l E o_p0 a_p0 v_p0_families v_p0_wind v_p0_force v_p0_rain v_p0_lost v_p0_hour x2 r4 hc5) wd_26_12 wd_9_9 wd_9_10 wd_2_20 wd_9_11 hX6_isThere g_allgood ⟨rfl, rfl⟩ ⟨Nat.le_of_ble_eq_true rfl, Nat.le_of_ble_eq_true rfl⟩ ⟨Nat.zero_le _, Nat.zero_le _⟩ (ci := 5) (q0 := 0) rfl rfl rfl rfl hl.1 rfl (Nat.le_of_ble_eq_true rfl) dX8_isOnePuff_10) rfl (fun H locs hw => ?_)
    refine lv_if_eq (tgt := 31) hx hb dX8_isOnePuff_13 (by decide) (fun hc => ?_) (fun hc => ?_)
    · have hf := g_t hc hf
      exact B31 _ _ _ hf hw (lv_sub hl [] rfl)
    · have hf := g_f hc hf
      refine lv_aload_n hx hb dX8_isOnePuff_16 rfl (lv_at hl 0 rfl) ?_
      refine lv_iload_n hx hb dX8_isOnePuff_17 rfl (lv_at hl 1 rfl) ?_
      refine lv_iload_n hx hb dX8_isOnePuff_18 rfl (lv_at hl 2 rfl) ?_
      obtain ⟨r6, hc7, hf⟩ := gB_s hf
      refine g_ki0 (is := [0, 1]) hw hA (g_rS hx hb hml hG hown hK hw (is := [0, 1]) rfl (by decide) (mX8_windBetween l E o_p0 a_p0 v_p0_families v_p0_wind v_p0_force v_p0_rain v_p0_lost v_p0_hour f_p0_home x1 x2 r6 hc7) wd_26_13 wd_25_11 wd_25_12 wd_25_13 hX8_windBetween g_allgood ⟨rfl, rfl⟩ ⟨Nat.le_of_ble_eq_true rfl, Nat.le_of_ble_eq_true rfl⟩ ⟨Nat.zero_le _, Nat.zero_le _⟩ rfl hl.1 rfl (Nat.le_of_ble_eq_true rfl) dX8_isOnePuff_19) rfl (fun H locs hw => ?_)
      refine lv_bipush (v := -6) hx hb dX8_isOnePuff_22 k_bm6 ?_
      refine lv_icmp_eq (tgt := 31) hx hb dX8_isOnePuff_24 (by decide) (fun hc => ?_) (fun hc => ?_)
      · have hf := g_t hc hf
        exact B31 _ _ _ hf hw (lv_sub hl [] rfl)
      · have hf := g_f hc hf
        refine lv_iconst (v := 1) hx hb dX8_isOnePuff_27 k_i1 ?_
        refine lv_goto (tgt := 32) hx hb dX8_isOnePuff_28 (by decide) ?_
        exact B32 1 _ _ _ hf hw (lv_sub hl [] rfl)
