theorem hX6_isThere : yX6_isThere.cls = RX6 ∧ yX6_isThere.cls ≠ "java/lang/invoke/MethodHandle" ∧ yX6_isThere.cls ≠ "java/lang/invoke/VarHandle" ∧ (parseMethodDescriptor yX6_isThere.desc).map (fun d => d.parameters.length) = some 1 := by decide +kernel
set_option maxHeartbeats 4000000 in
set_option maxRecDepth 100000 in
theorem mX6_isThere (l : Launch) (E : gE) (o_t : Nat) (a_t : (Nat → Nat)) (v_t_families : Int32) (v_t_wind : Int32) (v_t_force : Int32) (v_t_rain : Int32) (v_t_lost : Int32) (v_t_hour : Int32) (x1 : Int32) (rv : Int32) (hf : fX6_isThere v_t_families x1 = some rv) {sz : Nat} : gMi l yX6_isThere (gW yX6_isThere cX6_isThere 2 (some .boolean)) ({ frames := 0, cells := 0, slots := 0, locals := 0 } : Room) E [.ref o_t, .int x1] (wX6_isThere E o_t a_t v_t_families v_t_wind v_t_force v_t_rain v_t_lost v_t_hour) sz rv (wX6_isThere E o_t a_t v_t_families v_t_wind v_t_force v_t_rain v_t_lost v_t_hour) := by
  refine g_openZ (own := RX6) (by decide) rfl (Nat.le_of_ble_eq_true rfl) (fun p e s m args below meth cd Q A hx hb hml hown hG hK hA hret hw ls hl => ?_)
  have hl : lv_has ls 2 [(0, .ref o_t), (1, .int x1)] := hl
  have hret1 : ∀ (v : Int32)  (H : Heap) (locs : List Loc) (pc : Nat) (ls : Array Slot), some v = some rv → v &&& 1 = v → gS E A s.heap (wX6_isThere E o_t a_t v_t_families v_t_wind v_t_force v_t_rain v_t_lost v_t_hour) H locs → decode cX6_isThere pc = .ok (.ireturn, 1) → W p l e ({ frames := 0, cells := 0, slots := 0, locals := 0 } : Room) s m args below meth cd H locs 0 0 Q (F0 m pc ls [.int v]) := by
    intro v  H locs pc ls h hz hw hd
    cases h
    exact hret H locs pc ls hz hw hd
  have B26 : ∀ (s0 : Int32) (H : Heap) (locs : List Loc) (ls : Array Slot), fX6_isThere_b26 s0 = some rv → gS E A s.heap (wX6_isThere E o_t a_t v_t_families v_t_wind v_t_force v_t_rain v_t_lost v_t_hour) H locs → lv_has ls 2 [] → W p l e ({ frames := 0, cells := 0, slots := 0, locals := 0 } : Room) s m args below meth cd H locs 0 0 Q (F0 m 26 ls [.int s0]) := by
    intro  s0 H locs ls hf hw hl
    obtain ⟨hz1, hf⟩ := gZ_s hf
    exact hret1 s0 _ _ _ _ hf hz1 hw dX6_isThere_26
  have B25 : ∀ (H : Heap) (locs : List Loc) (ls : Array Slot), fX6_isThere_b25 = some rv → gS E A s.heap (wX6_isThere E o_t a_t v_t_families v_t_wind v_t_force v_t_rain v_t_lost v_t_hour) H locs → lv_has ls 2 [] → W p l e ({ frames := 0, cells := 0, slots := 0, locals := 0 } : Room) s m args below meth cd H locs 0 0 Q (F0 m 25 ls []) := by
    intro   H locs ls hf hw hl
    refine lv_iconst (v := 0) hx hb dX6_isThere_25 k_i0 ?_
    exact B26 0 _ _ _ hf hw (lv_sub hl [] rfl)
  refine lv_iload_n hx hb dX6_isThere_0 rfl (lv_at hl 1 rfl) ?_
  refine lv_if_lt (tgt := 25) hx hb dX6_isThere_1 (by decide) (fun hc => ?_) (fun hc => ?_)
  · have hf := g_t hc hf
    exact B25 _ _ _ hf hw (lv_sub hl [] rfl)
  · have hf := g_f hc hf
    refine lv_iload_n hx hb dX6_isThere_4 rfl (lv_at hl 1 rfl) ?_
    refine lv_bipush (v := 6) hx hb dX6_isThere_5 k_b6 ?_
    refine lv_icmp_ge (tgt := 25) hx hb dX6_isThere_7 (by decide) (fun hc => ?_) (fun hc => ?_)
    · have hf := g_t hc hf
      exact B25 _ _ _ hf hw (lv_sub hl [] rfl)
    · have hf := g_f hc hf
      refine lv_aload_n hx hb dX6_isThere_10 rfl (lv_at hl 0 rfl) ?_
      refine g_get hx hb hG hown hK hw inlX6 (ci := 5) rfl 0 5 (Nat.le_of_ble_eq_true rfl) rfl rfl wd_3_11 dX6_isThere_11 ?_
      refine lv_iconst (v := 1) hx hb dX6_isThere_14 k_i1 ?_
      refine lv_iload_n hx hb dX6_isThere_15 rfl (lv_at hl 1 rfl) ?_
      refine lv_ishl hx hb dX6_isThere_16 ?_
      refine lv_iand hx hb dX6_isThere_17 ?_
      refine lv_if_eq (tgt := 25) hx hb dX6_isThere_18 (by decide) (fun hc => ?_) (fun hc => ?_)
      · have hf := g_t hc hf
        exact B25 _ _ _ hf hw (lv_sub hl [] rfl)
      · have hf := g_f hc hf
        refine lv_iconst (v := 1) hx hb dX6_isThere_21 k_i1 ?_
        refine lv_goto (tgt := 26) hx hb dX6_isThere_22 (by decide) ?_
        exact B26 1 _ _ _ hf hw (lv_sub hl [] rfl)
theorem hX10_at : yX10_at.cls ≠ "java/lang/invoke/MethodHandle" ∧ yX10_at.cls ≠ "java/lang/invoke/VarHandle" ∧ (parseMethodDescriptor yX10_at.desc).map (fun d => d.parameters.length) = some 2 := by decide +kernel
set_option maxHeartbeats 4000000 in
set_option maxRecDepth 100000 in
theorem mX10_at (l : Launch) (E : gE) (o_p0 : Nat) (n_p0 : Nat) (f_p0 : (Nat → Int32)) (x1 : Int32) (rv : Int32) (hf : fX10_at n_p0 f_p0 x1 = some rv) {sz : Nat} : gMi l yX10_at (gW yX10_at cX10_at 2 (some .int)) ({ frames := 0, cells := 0, slots := 0, locals := 0 } : Room) E [.ref o_p0, .int x1] (wX10_at E o_p0 n_p0 f_p0) sz rv (wX10_at E o_p0 n_p0 f_p0) := by
  refine g_openI (own := RX10) (by decide) rfl (Nat.le_of_ble_eq_true rfl) (fun p e s m args below meth cd Q A hx hb hml hown hG hK hA hret hw ls hl => ?_)
  have hl : lv_has ls 2 [(0, .ref o_p0), (1, .int x1)] := hl
  have hret1 : ∀ (v : Int32)  (H : Heap) (locs : List Loc) (pc : Nat) (ls : Array Slot), some v = some rv → gS E A s.heap (wX10_at E o_p0 n_p0 f_p0) H locs → decode cX10_at pc = .ok (.ireturn, 1) → W p l e ({ frames := 0, cells := 0, slots := 0, locals := 0 } : Room) s m args below meth cd H locs 0 0 Q (F0 m pc ls [.int v]) := by
    intro v  H locs pc ls h hw hd
    cases h
    exact hret H locs pc ls hw hd
  have B17 : ∀ (s0 : Int32) (H : Heap) (locs : List Loc) (ls : Array Slot), fX10_at_b17 s0 = some rv → gS E A s.heap (wX10_at E o_p0 n_p0 f_p0) H locs → lv_has ls 2 [] → W p l e ({ frames := 0, cells := 0, slots := 0, locals := 0 } : Room) s m args below meth cd H locs 0 0 Q (F0 m 17 ls [.int s0]) := by
    intro  s0 H locs ls hf hw hl
    exact hret1 s0 _ _ _ _ hf hw dX10_at_17
  have B16 : ∀ (H : Heap) (locs : List Loc) (ls : Array Slot), fX10_at_b16 = some rv → gS E A s.heap (wX10_at E o_p0 n_p0 f_p0) H locs → lv_has ls 2 [] → W p l e ({ frames := 0, cells := 0, slots := 0, locals := 0 } : Room) s m args below meth cd H locs 0 0 Q (F0 m 16 ls []) := by
    intro   H locs ls hf hw hl
    refine lv_iconst (v := 0) hx hb dX10_at_16 k_i0 ?_
    exact B17 0 _ _ _ hf hw (lv_sub hl [] rfl)
  refine lv_iload_n hx hb dX10_at_0 rfl (lv_at hl 1 rfl) ?_
  refine lv_if_lt (tgt := 16) hx hb dX10_at_1 (by decide) (fun hc => ?_) (fun hc => ?_)
  · have hf := g_t hc hf
    exact B16 _ _ _ hf hw (lv_sub hl [] rfl)
  · have hf := g_f hc hf
    refine lv_iload_n hx hb dX10_at_4 rfl (lv_at hl 1 rfl) ?_
    refine lv_aload_n hx hb dX10_at_5 rfl (lv_at hl 0 rfl) ?_
    refine g_alen hx hb hK hw 0 rfl dX10_at_6 ?_
    refine lv_icmp_ge (tgt := 16) hx hb dX10_at_7 (by decide) (fun hc => ?_) (fun hc => ?_)
    · have hf := g_t hc hf
      exact B16 _ _ _ hf hw (lv_sub hl [] rfl)
    · have hf := g_f hc hf
      refine lv_aload_n hx hb dX10_at_10 rfl (lv_at hl 0 rfl) ?_
      refine lv_iload_n hx hb dX10_at_11 rfl (lv_at hl 1 rfl) ?_
      obtain ⟨hi1, hf⟩ := gA_s hf
      refine g_iald hx hb hK hw 0 rfl hi1 dX10_at_12 ?_
      refine lv_goto (tgt := 17) hx hb dX10_at_13 (by decide) ?_
      exact B17 (f_p0 (Int32.toNatClampNeg x1)) _ _ _ hf hw (lv_sub hl [] rfl)
theorem hX0_whyNotOfFamily : yX0_whyNotOfFamily.cls ≠ "java/lang/invoke/MethodHandle" ∧ yX0_whyNotOfFamily.cls ≠ "java/lang/invoke/VarHandle" ∧ (parseMethodDescriptor yX0_whyNotOfFamily.desc).map (fun d => d.parameters.length) = some 4 := by decide +kernel
set_option maxHeartbeats 4000000 in
set_option maxRecDepth 100000 in
theorem mX0_whyNotOfFamily (l : Launch) (E : gE) (o_p0 : Nat) (a_p0 : (Nat → Nat)) (v_p0_families : Int32) (v_p0_wind : Int32) (v_p0_force : Int32) (v_p0_rain : Int32) (v_p0_lost : Int32) (v_p0_hour : Int32) (f_p0_home : (Nat → Int32)) (f_p0_seeds : (Nat → Int32)) (f_p0_lungs : (Nat → Int32)) (f_p0_blown : (Nat → Int32)) (f_p0_ground : (Nat → Int32)) (x1 : Int32) (x2 : Int32) (x3 : Int32) (rv : Int32) (hf : fX0_whyNotOfFamily v_p0_families v_p0_rain f_p0_home f_p0_seeds f_p0_lungs f_p0_blown f_p0_ground x1 x2 x3 = some rv) {sz : Nat} : gMi l yX0_whyNotOfFamily (gW yX0_whyNotOfFamily cX0_whyNotOfFamily 6 (some .int)) ({ frames := 1, cells := 0, slots := 0, locals := 21 } : Room) E [.ref o_p0, .int x1, .int x2, .int x3] (wX0_whyNotOfFamily E o_p0 a_p0 v_p0_families v_p0_wind v_p0_force v_p0_rain v_p0_lost v_p0_hour f_p0_home f_p0_seeds f_p0_lungs f_p0_blown f_p0_ground) sz rv (wX0_whyNotOfFamily E o_p0 a_p0 v_p0_families v_p0_wind v_p0_force v_p0_rain v_p0_lost v_p0_hour f_p0_home f_p0_seeds f_p0_lungs f_p0_blown f_p0_ground) := by
  refine g_openI (own := RX0) (by decide) rfl (Nat.le_of_ble_eq_true rfl) (fun p e s m args below meth cd Q A hx hb hml hown hG hK hA hret hw ls hl => ?_)
  have hl : lv_has ls 6 [(0, .ref o_p0), (1, .int x1), (2, .int x2), (3, .int x3)] := hl
  have hret1 : ∀ (v : Int32)  (H : Heap) (locs : List Loc) (pc : Nat) (ls : Array Slot), some v = some rv → gS E A s.heap (wX0_whyNotOfFamily E o_p0 a_p0 v_p0_families v_p0_wind v_p0_force v_p0_rain v_p0_lost v_p0_hour f_p0_home f_p0_seeds f_p0_lungs f_p0_blown f_p0_ground) H locs → decode cX0_whyNotOfFamily pc = .ok (.ireturn, 1) → W p l e ({ frames := 1, cells := 0, slots := 0, locals := 21 } : Room) s m args below meth cd H locs 0 0 Q (F0 m pc ls [.int v]) := by
    intro v  H locs pc ls h hw hd
    cases h
    exact hret H locs pc ls hw hd
  have B36 : ∀ (s0 : Int32) (H : Heap) (locs : List Loc) (ls : Array Slot), fX0_whyNotOfFamily_b36 s0 = some rv → gS E A s.heap (wX0_whyNotOfFamily E o_p0 a_p0 v_p0_families v_p0_wind v_p0_force v_p0_rain v_p0_lost v_p0_hour f_p0_home f_p0_seeds f_p0_lungs f_p0_blown f_p0_ground) H locs → lv_has ls 6 [] → W p l e ({ frames := 1, cells := 0, slots := 0, locals := 21 } : Room) s m args below meth cd H locs 0 0 Q (F0 m 36 ls [.int s0]) := by
    intro  s0 H locs ls hf hw hl
    exact hret1 s0 _ _ _ _ hf hw dX0_whyNotOfFamily_36
  have B109 : ∀ (s0 : Int32) (H : Heap) (locs : List Loc) (ls : Array Slot), fX0_whyNotOfFamily_b109 s0 = some rv → gS E A s.heap (wX0_whyNotOfFamily E o_p0 a_p0 v_p0_families v_p0_wind v_p0_force v_p0_rain v_p0_lost v_p0_hour f_p0_home f_p0_seeds f_p0_lungs f_p0_blown f_p0_ground) H locs → lv_has ls 6 [] → W p l e ({ frames := 1, cells := 0, slots := 0, locals := 21 } : Room) s m args below meth cd H locs 0 0 Q (F0 m 109 ls [.int s0]) := by
    intro  s0 H locs ls hf hw hl
    exact hret1 s0 _ _ _ _ hf hw dX0_whyNotOfFamily_109
  have B97 : ∀ (s0 : Int32) (H : Heap) (locs : List Loc) (ls : Array Slot), fX0_whyNotOfFamily_b97 s0 = some rv → gS E A s.heap (wX0_whyNotOfFamily E o_p0 a_p0 v_p0_families v_p0_wind v_p0_force v_p0_rain v_p0_lost v_p0_hour f_p0_home f_p0_seeds f_p0_lungs f_p0_blown f_p0_ground) H locs → lv_has ls 6 [] → W p l e ({ frames := 1, cells := 0, slots := 0, locals := 21 } : Room) s m args below meth cd H locs 0 0 Q (F0 m 97 ls [.int s0]) := by
    intro  s0 H locs ls hf hw hl
    refine lv_istore (lv' := [(5, .int s0)]) hx hb dX0_whyNotOfFamily_97 hl (Nat.le_of_ble_eq_true rfl) rfl (fun ls hl => ?_)
    refine lv_iload hx hb dX0_whyNotOfFamily_99 (lv_at hl 0 rfl) ?_
    refine lv_if_eq (tgt := 108) hx hb dX0_whyNotOfFamily_101 (by decide) (fun hc => ?_) (fun hc => ?_)
    · have hf := g_t hc hf
      refine lv_iconst (v := 0) hx hb dX0_whyNotOfFamily_108 k_i0 ?_
      exact B109 0 _ _ _ hf hw (lv_sub hl [] rfl)
    · have hf := g_f hc hf
      refine lv_iconst (v := 4) hx hb dX0_whyNotOfFamily_104 k_i4 ?_
      refine lv_goto (tgt := 109) hx hb dX0_whyNotOfFamily_105 (by decide) ?_
      exact B109 4 _ _ _ hf hw (lv_sub hl [] rfl)
  have B96 : ∀ (H : Heap) (locs : List Loc) (ls : Array Slot), fX0_whyNotOfFamily_b96 = some rv → gS E A s.heap (wX0_whyNotOfFamily E o_p0 a_p0 v_p0_families v_p0_wind v_p0_force v_p0_rain v_p0_lost v_p0_hour f_p0_home f_p0_seeds f_p0_lungs f_p0_blown f_p0_ground) H locs → lv_has ls 6 [] → W p l e ({ frames := 1, cells := 0, slots := 0, locals := 21 } : Room) s m args below meth cd H locs 0 0 Q (F0 m 96 ls []) := by
    intro   H locs ls hf hw hl
    refine lv_iconst (v := 0) hx hb dX0_whyNotOfFamily_96 k_i0 ?_
    exact B97 0 _ _ _ hf hw (lv_sub hl [] rfl)
  have B56 : ∀ (x1 : Int32) (x2 : Int32) (x3 : Int32) (s0 : Int32) (H : Heap) (locs : List Loc) (ls : Array Slot), fX0_whyNotOfFamily_b56 f_p0_seeds f_p0_lungs f_p0_blown x1 x2 x3 s0 = some rv → gS E A s.heap (wX0_whyNotOfFamily E o_p0 a_p0 v_p0_families v_p0_wind v_p0_force v_p0_rain v_p0_lost v_p0_hour f_p0_home f_p0_seeds f_p0_lungs f_p0_blown f_p0_ground) H locs → lv_has ls 6 [(0, .ref o_p0), (1, .int x1), (2, .int x2), (3, .int x3)] → W p l e ({ frames := 1, cells := 0, slots := 0, locals := 21 } : Room) s m args below meth cd H locs 0 0 Q (F0 m 56 ls [.int s0]) := by
    intro  x1 x2 x3 s0 H locs ls hf hw hl
    refine lv_istore (lv' := [(4, .int s0), (0, .ref o_p0), (1, .int x1), (2, .int x2), (3, .int x3)]) hx hb dX0_whyNotOfFamily_56 hl (Nat.le_of_ble_eq_true rfl) rfl (fun ls hl => ?_)
    refine lv_aload_n hx hb dX0_whyNotOfFamily_58 rfl (lv_at hl 1 rfl) ?_
    refine g_get hx hb hG hown hK hw inlX6 (ci := 5) rfl 0 1 (Nat.le_of_ble_eq_true rfl) rfl rfl wd_16_16 dX0_whyNotOfFamily_59 ?_
    refine lv_iload_n hx hb dX0_whyNotOfFamily_62 rfl (lv_at hl 3 rfl) ?_
    obtain ⟨hi1, hf⟩ := gA_s hf
    refine g_iald hx hb hK hw 2 rfl hi1 dX0_whyNotOfFamily_63 ?_
    refine lv_iload hx hb dX0_whyNotOfFamily_64 (lv_at hl 0 rfl) ?_
    refine lv_icmp_ge (tgt := 71) hx hb dX0_whyNotOfFamily_66 (by decide) (fun hc => ?_) (fun hc => ?_)
    · have hf := g_t hc hf
      refine lv_iload_n hx hb dX0_whyNotOfFamily_71 rfl (lv_at hl 2 rfl) ?_
      refine lv_if_ne (tgt := 96) hx hb dX0_whyNotOfFamily_72 (by decide) (fun hc => ?_) (fun hc => ?_)
      · have hf := g_f hc hf
        exact B96 _ _ _ hf hw (lv_sub hl [] rfl)
      · have hf := g_t hc hf
        refine lv_aload_n hx hb dX0_whyNotOfFamily_75 rfl (lv_at hl 1 rfl) ?_
        refine g_get hx hb hG hown hK hw inlX6 (ci := 5) rfl 0 3 (Nat.le_of_ble_eq_true rfl) rfl rfl wd_16_17 dX0_whyNotOfFamily_76 ?_
        refine lv_iload_n hx hb dX0_whyNotOfFamily_79 rfl (lv_at hl 3 rfl) ?_
        obtain ⟨hi2, hf⟩ := gA_s hf
        refine g_iald hx hb hK hw 4 rfl hi2 dX0_whyNotOfFamily_80 ?_
        refine lv_iload_n hx hb dX0_whyNotOfFamily_81 rfl (lv_at hl 4 rfl) ?_
        refine lv_iadd hx hb dX0_whyNotOfFamily_82 ?_
        refine lv_aload_n hx hb dX0_whyNotOfFamily_83 rfl (lv_at hl 1 rfl) ?_
        refine g_get hx hb hG hown hK hw inlX6 (ci := 5) rfl 0 2 (Nat.le_of_ble_eq_true rfl) rfl rfl wd_16_18 dX0_whyNotOfFamily_84 ?_
        refine lv_iload_n hx hb dX0_whyNotOfFamily_87 rfl (lv_at hl 3 rfl) ?_
        obtain ⟨hi3, hf⟩ := gA_s hf
        refine g_iald hx hb hK hw 3 rfl hi3 dX0_whyNotOfFamily_88 ?_
        refine lv_icmp_le (tgt := 96) hx hb dX0_whyNotOfFamily_89 (by decide) (fun hc => ?_) (fun hc => ?_)
        · have hf := g_t hc hf
          exact B96 _ _ _ hf hw (lv_sub hl [] rfl)
        · have hf := g_f hc hf
          refine lv_iconst (v := 1) hx hb dX0_whyNotOfFamily_92 k_i1 ?_
          refine lv_goto (tgt := 97) hx hb dX0_whyNotOfFamily_93 (by decide) ?_
          exact B97 1 _ _ _ hf hw (lv_sub hl [] rfl)
    · have hf := g_f hc hf
      refine lv_iconst (v := 3) hx hb dX0_whyNotOfFamily_69 k_i3 ?_
      exact hret1 3 _ _ _ _ hf hw dX0_whyNotOfFamily_70
  refine lv_aload_n hx hb dX0_whyNotOfFamily_0 rfl (lv_at hl 0 rfl) ?_
  refine lv_iload_n hx hb dX0_whyNotOfFamily_1 rfl (lv_at hl 2 rfl) ?_
  obtain ⟨r4, hc5, hf⟩ := gB_s hf
  refine g_ki (is := [0]) (w1 := (wX6_isThere E o_p0 a_p0 v_p0_families v_p0_wind v_p0_force v_p0_rain v_p0_lost v_p0_hour)) (ws' := (wX0_whyNotOfFamily E o_p0 a_p0 v_p0_families v_p0_wind v_p0_force v_p0_rain v_p0_lost v_p0_hour f_p0_home f_p0_seeds f_p0_lungs f_p0_blown f_p0_ground)) hw hA (g_rV hx hb hml hG hown hK hw (is := [0]) rfl (by decide) (mX6_isThere l E o_p0 a_p0 v_p0_families v_p0_wind v_p0_force v_p0_rain v_p0_lost v_p0_hour x2 r4 hc5) wd_16_19 wd_9_9 wd_9_10 wd_2_20 wd_9_11 hX6_isThere g_allgood ⟨rfl, rfl⟩ ⟨Nat.le_of_ble_eq_true rfl, Nat.le_of_ble_eq_true rfl⟩ ⟨Nat.zero_le _, Nat.zero_le _⟩ (ci := 5) (q0 := 0) rfl rfl rfl rfl hl.1 rfl (Nat.le_of_ble_eq_true rfl) dX0_whyNotOfFamily_2) rfl rfl rfl (fun H locs hw => ?_)
  refine lv_if_ne (tgt := 10) hx hb dX0_whyNotOfFamily_5 (by decide) (fun hc => ?_) (fun hc => ?_)
  · have hf := g_f hc hf
    refine lv_iload_n hx hb dX0_whyNotOfFamily_10 rfl (lv_at hl 1 rfl) ?_
    refine lv_iconst (v := 2) hx hb dX0_whyNotOfFamily_11 k_i2 ?_
    refine lv_icmp_ne (tgt := 37) hx hb dX0_whyNotOfFamily_12 (by decide) (fun hc => ?_) (fun hc => ?_)
    · have hf := g_f hc hf
      refine lv_aload_n hx hb dX0_whyNotOfFamily_37 rfl (lv_at hl 0 rfl) ?_
      refine g_get hx hb hG hown hK hw inlX6 (ci := 5) rfl 0 8 (Nat.le_of_ble_eq_true rfl) rfl rfl wd_16_15 dX0_whyNotOfFamily_38 ?_
      refine lv_iconst (v := 1) hx hb dX0_whyNotOfFamily_41 k_i1 ?_
      refine lv_icmp_ne (tgt := 47) hx hb dX0_whyNotOfFamily_42 (by decide) (fun hc => ?_) (fun hc => ?_)
      · have hf := g_f hc hf
        refine lv_iload_n hx hb dX0_whyNotOfFamily_47 rfl (lv_at hl 1 rfl) ?_
        refine lv_if_ne (tgt := 55) hx hb dX0_whyNotOfFamily_48 (by decide) (fun hc => ?_) (fun hc => ?_)
        · have hf := g_f hc hf
          refine lv_iconst (v := 1) hx hb dX0_whyNotOfFamily_55 k_i1 ?_
          exact B56 x1 x2 x3 1 _ _ _ hf hw (lv_sub hl [0, 1, 2, 3] rfl)
        · have hf := g_t hc hf
          refine lv_iload_n hx hb dX0_whyNotOfFamily_51 rfl (lv_at hl 3 rfl) ?_
          refine lv_goto (tgt := 56) hx hb dX0_whyNotOfFamily_52 (by decide) ?_
          exact B56 x1 x2 x3 x3 _ _ _ hf hw (lv_sub hl [0, 1, 2, 3] rfl)
      · have hf := g_t hc hf
        refine lv_iconst (v := 2) hx hb dX0_whyNotOfFamily_45 k_i2 ?_
        exact hret1 2 _ _ _ _ hf hw dX0_whyNotOfFamily_46
    · have hf := g_t hc hf
      refine lv_aload_n hx hb dX0_whyNotOfFamily_15 rfl (lv_at hl 0 rfl) ?_
      refine g_get hx hb hG hown hK hw inlX6 (ci := 5) rfl 0 4 (Nat.le_of_ble_eq_true rfl) rfl rfl wd_16_13 dX0_whyNotOfFamily_16 ?_
      refine lv_aload_n hx hb dX0_whyNotOfFamily_19 rfl (lv_at hl 0 rfl) ?_
      refine g_get hx hb hG hown hK hw inlX6 (ci := 5) rfl 0 0 (Nat.le_of_ble_eq_true rfl) rfl rfl wd_16_14 dX0_whyNotOfFamily_20 ?_
      refine lv_iload_n hx hb dX0_whyNotOfFamily_23 rfl (lv_at hl 2 rfl) ?_
      obtain ⟨hi6, hf⟩ := gA_s hf
      refine g_iald hx hb hK hw 1 rfl hi6 dX0_whyNotOfFamily_24 ?_
      obtain ⟨r7, hc8, hf⟩ := gB_s hf
      refine g_ki (is := [5]) (w1 := (wX10_at E (a_p0 4) 36 f_p0_ground)) (ws' := (wX0_whyNotOfFamily E o_p0 a_p0 v_p0_families v_p0_wind v_p0_force v_p0_rain v_p0_lost v_p0_hour f_p0_home f_p0_seeds f_p0_lungs f_p0_blown f_p0_ground)) hw hA (g_rN (host := "SeedBank") hx hb hml hG hown hK hw (is := [5]) rfl (by decide) (mX10_at l E (a_p0 4) 36 f_p0_ground (f_p0_home (Int32.toNatClampNeg x2)) r7 hc8) (List.mem_of_getElem? (i := 12) rfl) wd_15_23 wd_1_2 wd_16_0 hX10_at g_allgood ⟨rfl, rfl⟩ ⟨Nat.le_of_ble_eq_true rfl, Nat.le_of_ble_eq_true rfl⟩ ⟨Nat.zero_le _, Nat.zero_le _⟩ rfl hl.1 rfl (Nat.le_of_ble_eq_true rfl) dX0_whyNotOfFamily_25) rfl rfl rfl (fun H locs hw => ?_)
      refine lv_if_ne (tgt := 35) hx hb dX0_whyNotOfFamily_28 (by decide) (fun hc => ?_) (fun hc => ?_)
      · have hf := g_f hc hf
        refine lv_iconst (v := 0) hx hb dX0_whyNotOfFamily_35 k_i0 ?_
        exact B36 0 _ _ _ hf hw (lv_sub hl [] rfl)
      · have hf := g_t hc hf
        refine lv_iconst (v := 3) hx hb dX0_whyNotOfFamily_31 k_i3 ?_
        refine lv_goto (tgt := 36) hx hb dX0_whyNotOfFamily_32 (by decide) ?_
        exact B36 3 _ _ _ hf hw (lv_sub hl [] rfl)
  · have hf := g_t hc hf
    refine lv_iconst (v := 1) hx hb dX0_whyNotOfFamily_8 k_i1 ?_
    exact hret1 1 _ _ _ _ hf hw dX0_whyNotOfFamily_9
theorem hX0_whyNot : yX0_whyNot.cls ≠ "java/lang/invoke/MethodHandle" ∧ yX0_whyNot.cls ≠ "java/lang/invoke/VarHandle" ∧ (parseMethodDescriptor yX0_whyNot.desc).map (fun d => d.parameters.length) = some 4 := by decide +kernel
set_option maxHeartbeats 4000000 in
set_option maxRecDepth 100000 in
theorem mX0_whyNot (l : Launch) (E : gE) (o_p0 : Nat) (a_p0 : (Nat → Nat)) (v_p0_families : Int32) (v_p0_wind : Int32) (v_p0_force : Int32) (v_p0_rain : Int32) (v_p0_lost : Int32) (v_p0_hour : Int32) (f_p0_home : (Nat → Int32)) (f_p0_seeds : (Nat → Int32)) (f_p0_lungs : (Nat → Int32)) (f_p0_blown : (Nat → Int32)) (f_p0_ground : (Nat → Int32)) (x1 : Int32) (x2 : Int32) (x3 : Int32) (rv : Int32) (hf : fX0_whyNot v_p0_families v_p0_rain v_p0_hour f_p0_home f_p0_seeds f_p0_lungs f_p0_blown f_p0_ground x1 x2 x3 = some rv) {sz : Nat} : gMi l yX0_whyNot (gW yX0_whyNot cX0_whyNot 4 (some .int)) ({ frames := 2, cells := 0, slots := 0, locals := 46 } : Room) E [.ref o_p0, .int x1, .int x2, .int x3] (wX0_whyNot E o_p0 a_p0 v_p0_families v_p0_wind v_p0_force v_p0_rain v_p0_lost v_p0_hour f_p0_home f_p0_seeds f_p0_lungs f_p0_blown f_p0_ground) sz rv (wX0_whyNot E o_p0 a_p0 v_p0_families v_p0_wind v_p0_force v_p0_rain v_p0_lost v_p0_hour f_p0_home f_p0_seeds f_p0_lungs f_p0_blown f_p0_ground) := by
  refine g_openI (own := RX0) (by decide) rfl (Nat.le_of_ble_eq_true rfl) (fun p e s m args below meth cd Q A hx hb hml hown hG hK hA hret hw ls hl => ?_)
  have hl : lv_has ls 4 [(0, .ref o_p0), (1, .int x1), (2, .int x2), (3, .int x3)] := hl
  have hret1 : ∀ (v : Int32)  (H : Heap) (locs : List Loc) (pc : Nat) (ls : Array Slot), some v = some rv → gS E A s.heap (wX0_whyNot E o_p0 a_p0 v_p0_families v_p0_wind v_p0_force v_p0_rain v_p0_lost v_p0_hour f_p0_home f_p0_seeds f_p0_lungs f_p0_blown f_p0_ground) H locs → decode cX0_whyNot pc = .ok (.ireturn, 1) → W p l e ({ frames := 2, cells := 0, slots := 0, locals := 46 } : Room) s m args below meth cd H locs 0 0 Q (F0 m pc ls [.int v]) := by
    intro v  H locs pc ls h hw hd
    cases h
    exact hret H locs pc ls hw hd
  have B44 : ∀ (x1 : Int32) (x2 : Int32) (x3 : Int32) (H : Heap) (locs : List Loc) (ls : Array Slot), fX0_whyNot_b44 v_p0_families v_p0_rain f_p0_home f_p0_seeds f_p0_lungs f_p0_blown f_p0_ground x1 x2 x3 = some rv → gS E A s.heap (wX0_whyNot E o_p0 a_p0 v_p0_families v_p0_wind v_p0_force v_p0_rain v_p0_lost v_p0_hour f_p0_home f_p0_seeds f_p0_lungs f_p0_blown f_p0_ground) H locs → lv_has ls 4 [(0, .ref o_p0), (1, .int x1), (2, .int x2), (3, .int x3)] → W p l e ({ frames := 2, cells := 0, slots := 0, locals := 46 } : Room) s m args below meth cd H locs 0 0 Q (F0 m 44 ls []) := by
    intro  x1 x2 x3 H locs ls hf hw hl
    refine lv_aload_n hx hb dX0_whyNot_44 rfl (lv_at hl 0 rfl) ?_
    refine lv_iload_n hx hb dX0_whyNot_45 rfl (lv_at hl 1 rfl) ?_
    refine lv_iload_n hx hb dX0_whyNot_46 rfl (lv_at hl 2 rfl) ?_
    refine lv_iload_n hx hb dX0_whyNot_47 rfl (lv_at hl 3 rfl) ?_
    obtain ⟨r1, hc2, hf⟩ := gB_s hf
    refine g_ki (is := [0, 1, 2, 3, 4, 5]) (w1 := (wX0_whyNotOfFamily E o_p0 a_p0 v_p0_families v_p0_wind v_p0_force v_p0_rain v_p0_lost v_p0_hour f_p0_home f_p0_seeds f_p0_lungs f_p0_blown f_p0_ground)) (ws' := (wX0_whyNot E o_p0 a_p0 v_p0_families v_p0_wind v_p0_force v_p0_rain v_p0_lost v_p0_hour f_p0_home f_p0_seeds f_p0_lungs f_p0_blown f_p0_ground)) hw hA (g_rS hx hb hml hG hown hK hw (is := [0, 1, 2, 3, 4, 5]) rfl (by decide) (mX0_whyNotOfFamily l E o_p0 a_p0 v_p0_families v_p0_wind v_p0_force v_p0_rain v_p0_lost v_p0_hour f_p0_home f_p0_seeds f_p0_lungs f_p0_blown f_p0_ground x1 x2 x3 r1 hc2) wd_16_10 wd_16_11 wd_16_7 wd_16_12 hX0_whyNotOfFamily g_allgood ⟨rfl, rfl⟩ ⟨Nat.le_of_ble_eq_true rfl, Nat.le_of_ble_eq_true rfl⟩ ⟨Nat.zero_le _, Nat.zero_le _⟩ rfl hl.1 rfl (Nat.le_of_ble_eq_true rfl) dX0_whyNot_48) rfl rfl rfl (fun H locs hw => ?_)
    exact hret1 r1 _ _ _ _ hf hw dX0_whyNot_51
  have B67 : ∀ (H : Heap) (locs : List Loc) (ls : Array Slot), fX0_whyNot_b67 = some rv → gS E A s.heap (wX0_whyNot E o_p0 a_p0 v_p0_families v_p0_wind v_p0_force v_p0_rain v_p0_lost v_p0_hour f_p0_home f_p0_seeds f_p0_lungs f_p0_blown f_p0_ground) H locs → lv_has ls 4 [] → W p l e ({ frames := 2, cells := 0, slots := 0, locals := 46 } : Room) s m args below meth cd H locs 0 0 Q (F0 m 67 ls []) := by
    intro   H locs ls hf hw hl
    refine lv_iconst (v := 0) hx hb dX0_whyNot_67 k_i0 ?_
    exact hret1 0 _ _ _ _ hf hw dX0_whyNot_68
  have B66 : ∀ (s0 : Int32) (H : Heap) (locs : List Loc) (ls : Array Slot), fX0_whyNot_b66 s0 = some rv → gS E A s.heap (wX0_whyNot E o_p0 a_p0 v_p0_families v_p0_wind v_p0_force v_p0_rain v_p0_lost v_p0_hour f_p0_home f_p0_seeds f_p0_lungs f_p0_blown f_p0_ground) H locs → lv_has ls 4 [] → W p l e ({ frames := 2, cells := 0, slots := 0, locals := 46 } : Room) s m args below meth cd H locs 0 0 Q (F0 m 66 ls [.int s0]) := by
    intro  s0 H locs ls hf hw hl
    exact hret1 s0 _ _ _ _ hf hw dX0_whyNot_66
  refine lv_iload_n hx hb dX0_whyNot_0 rfl (lv_at hl 1 rfl) ?_
  by_cases hs3 : x1 = 0
  · have hf := g_t hs3 hf
    refine lv_tableIn (off := 43) (tgt := 44) hx hb dX0_whyNot_1 (by rw [hs3]; decide) (by rw [hs3]; decide) (by rw [hs3] <;> rfl) (by decide) ?_
    exact B44 x1 x2 x3 _ _ _ hf hw (lv_sub hl [0, 1, 2, 3] rfl)
  have hf := g_f hs3 hf
  by_cases hs4 : x1 = 1
  · have hf := g_t hs4 hf
    refine lv_tableIn (off := 43) (tgt := 44) hx hb dX0_whyNot_1 (by rw [hs4]; decide) (by rw [hs4]; decide) (by rw [hs4] <;> rfl) (by decide) ?_
    exact B44 x1 x2 x3 _ _ _ hf hw (lv_sub hl [0, 1, 2, 3] rfl)
  have hf := g_f hs4 hf
  by_cases hs5 : x1 = 2
  · have hf := g_t hs5 hf
    refine lv_tableIn (off := 43) (tgt := 44) hx hb dX0_whyNot_1 (by rw [hs5]; decide) (by rw [hs5]; decide) (by rw [hs5] <;> rfl) (by decide) ?_
    exact B44 x1 x2 x3 _ _ _ hf hw (lv_sub hl [0, 1, 2, 3] rfl)
  have hf := g_f hs5 hf
  by_cases hs6 : x1 = 3
  · have hf := g_t hs6 hf
    refine lv_tableIn (off := 66) (tgt := 67) hx hb dX0_whyNot_1 (by rw [hs6]; decide) (by rw [hs6]; decide) (by rw [hs6] <;> rfl) (by decide) ?_
    exact B67 _ _ _ hf hw (lv_sub hl [] rfl)
  have hf := g_f hs6 hf
  by_cases hs7 : x1 = 4
  · have hf := g_t hs7 hf
    refine lv_tableIn (off := 66) (tgt := 67) hx hb dX0_whyNot_1 (by rw [hs7]; decide) (by rw [hs7]; decide) (by rw [hs7] <;> rfl) (by decide) ?_
    exact B67 _ _ _ hf hw (lv_sub hl [] rfl)
  have hf := g_f hs7 hf
  by_cases hs8 : x1 = 5
  · have hf := g_t hs8 hf
    refine lv_tableIn (off := 66) (tgt := 67) hx hb dX0_whyNot_1 (by rw [hs8]; decide) (by rw [hs8]; decide) (by rw [hs8] <;> rfl) (by decide) ?_
    exact B67 _ _ _ hf hw (lv_sub hl [] rfl)
  have hf := g_f hs8 hf
  by_cases hs9 : x1 = 6
  · have hf := g_t hs9 hf
    refine lv_tableIn (off := 51) (tgt := 52) hx hb dX0_whyNot_1 (by rw [hs9]; decide) (by rw [hs9]; decide) (by rw [hs9] <;> rfl) (by decide) ?_
    refine lv_aload_n hx hb dX0_whyNot_52 rfl (lv_at hl 0 rfl) ?_
    refine g_get hx hb hG hown hK hw inlX6 (ci := 5) rfl 0 10 (Nat.le_of_ble_eq_true rfl) rfl rfl wd_16_9 dX0_whyNot_53 ?_
    refine lv_bipush (v := 99) hx hb dX0_whyNot_56 k_b99 ?_
    refine lv_icmp_lt (tgt := 65) hx hb dX0_whyNot_58 (by decide) (fun hc => ?_) (fun hc => ?_)
    · have hf := g_t hc hf
      refine lv_iconst (v := 0) hx hb dX0_whyNot_65 k_i0 ?_
      exact B66 0 _ _ _ hf hw (lv_sub hl [] rfl)
    · have hf := g_f hc hf
      refine lv_iconst (v := 5) hx hb dX0_whyNot_61 k_i5 ?_
      refine lv_goto (tgt := 66) hx hb dX0_whyNot_62 (by decide) ?_
      exact B66 5 _ _ _ hf hw (lv_sub hl [] rfl)
  have hf := g_f hs9 hf
  have nhs3 := lv_neT hs3 (show (0 : Int32).toInt = 0 from by decide)
  have nhs4 := lv_neT hs4 (show (1 : Int32).toInt = 1 from by decide)
  have nhs5 := lv_neT hs5 (show (2 : Int32).toInt = 2 from by decide)
  have nhs6 := lv_neT hs6 (show (3 : Int32).toInt = 3 from by decide)
  have nhs7 := lv_neT hs7 (show (4 : Int32).toInt = 4 from by decide)
  have nhs8 := lv_neT hs8 (show (5 : Int32).toInt = 5 from by decide)
  have nhs9 := lv_neT hs9 (show (6 : Int32).toInt = 6 from by decide)
  refine lv_tableOut (tgt := 67) hx hb dX0_whyNot_1 (by omega) (by decide) ?_
  exact B67 _ _ _ hf hw (lv_sub hl [] rfl)
theorem hX0_blownBy : yX0_blownBy.cls ≠ "java/lang/invoke/MethodHandle" ∧ yX0_blownBy.cls ≠ "java/lang/invoke/VarHandle" ∧ (parseMethodDescriptor yX0_blownBy.desc).map (fun d => d.parameters.length) = some 4 := by decide +kernel
set_option maxHeartbeats 4000000 in
set_option maxRecDepth 100000 in
theorem mX0_blownBy (l : Launch) (E : gE) (o_p0 : Nat) (a_p0 : (Nat → Nat)) (v_p0_families : Int32) (v_p0_wind : Int32) (v_p0_force : Int32) (v_p0_rain : Int32) (v_p0_lost : Int32) (v_p0_hour : Int32) (f_p0_seeds : (Nat → Int32)) (x1 : Int32) (x2 : Int32) (x3 : Int32) (rv : Int32) (hf : fX0_blownBy f_p0_seeds x1 x2 x3 = some rv) {sz : Nat} : gMi l yX0_blownBy (gW yX0_blownBy cX0_blownBy 4 (some .int)) ({ frames := 1, cells := 0, slots := 0, locals := 21 } : Room) E [.ref o_p0, .int x1, .int x2, .int x3] (wX0_blownBy E o_p0 a_p0 v_p0_families v_p0_wind v_p0_force v_p0_rain v_p0_lost v_p0_hour f_p0_seeds) sz rv (wX0_blownBy E o_p0 a_p0 v_p0_families v_p0_wind v_p0_force v_p0_rain v_p0_lost v_p0_hour f_p0_seeds) := by
  refine g_openI (own := RX0) (by decide) rfl (Nat.le_of_ble_eq_true rfl) (fun p e s m args below meth cd Q A hx hb hml hown hG hK hA hret hw ls hl => ?_)
  have hl : lv_has ls 4 [(0, .ref o_p0), (1, .int x1), (2, .int x2), (3, .int x3)] := hl
  have hret1 : ∀ (v : Int32)  (H : Heap) (locs : List Loc) (pc : Nat) (ls : Array Slot), some v = some rv → gS E A s.heap (wX0_blownBy E o_p0 a_p0 v_p0_families v_p0_wind v_p0_force v_p0_rain v_p0_lost v_p0_hour f_p0_seeds) H locs → decode cX0_blownBy pc = .ok (.ireturn, 1) → W p l e ({ frames := 1, cells := 0, slots := 0, locals := 21 } : Room) s m args below meth cd H locs 0 0 Q (F0 m pc ls [.int v]) := by
    intro v  H locs pc ls h hw hd
    cases h
    exact hret H locs pc ls hw hd
  refine lv_iload_n hx hb dX0_blownBy_0 rfl (lv_at hl 1 rfl) ?_
  by_cases hs1 : x1 = 0
  · have hf := g_t hs1 hf
    refine lv_lookup (off := 27) (tgt := 28) hx hb dX0_blownBy_1 (by decide) (by rw [hs1] <;> rfl) (by decide) ?_
    refine lv_iload_n hx hb dX0_blownBy_28 rfl (lv_at hl 3 rfl) ?_
    exact hret1 x3 _ _ _ _ hf hw dX0_blownBy_29
  have hf := g_f hs1 hf
  by_cases hs2 : x1 = 1
  · have hf := g_t hs2 hf
    refine lv_lookup (off := 29) (tgt := 30) hx hb dX0_blownBy_1 (by decide) (by rw [hs2] <;> rfl) (by decide) ?_
    refine lv_aload_n hx hb dX0_blownBy_30 rfl (lv_at hl 0 rfl) ?_
    refine g_get hx hb hG hown hK hw inlX6 (ci := 5) rfl 0 1 (Nat.le_of_ble_eq_true rfl) rfl rfl wd_16_16 dX0_blownBy_31 ?_
    refine lv_iload_n hx hb dX0_blownBy_34 rfl (lv_at hl 2 rfl) ?_
    obtain ⟨r3, hc4, hf⟩ := gB_s hf
    refine g_ki (is := [1]) (w1 := (wX10_at E (a_p0 1) 6 f_p0_seeds)) (ws' := (wX0_blownBy E o_p0 a_p0 v_p0_families v_p0_wind v_p0_force v_p0_rain v_p0_lost v_p0_hour f_p0_seeds)) hw hA (g_rN (host := "SeedBank") hx hb hml hG hown hK hw (is := [1]) rfl (by decide) (mX10_at l E (a_p0 1) 6 f_p0_seeds x2 r3 hc4) (List.mem_of_getElem? (i := 12) rfl) wd_15_23 wd_1_2 wd_16_0 hX10_at g_allgood ⟨rfl, rfl⟩ ⟨Nat.le_of_ble_eq_true rfl, Nat.le_of_ble_eq_true rfl⟩ ⟨Nat.zero_le _, Nat.zero_le _⟩ rfl hl.1 rfl (Nat.le_of_ble_eq_true rfl) dX0_blownBy_35) rfl rfl rfl (fun H locs hw => ?_)
    exact hret1 r3 _ _ _ _ hf hw dX0_blownBy_38
  have hf := g_f hs2 hf
  refine lv_lookup (off := 38) (tgt := 39) hx hb dX0_blownBy_1 (by decide) ((lv_osw hs1 (by decide)).trans ((lv_osw hs2 (by decide)).trans rfl)) (by decide) ?_
  refine lv_iconst (v := 0) hx hb dX0_blownBy_39 k_i0 ?_
  exact hret1 0 _ _ _ _ hf hw dX0_blownBy_40
theorem hX10_clearRow : yX10_clearRow.cls ≠ "java/lang/invoke/MethodHandle" ∧ yX10_clearRow.cls ≠ "java/lang/invoke/VarHandle" ∧ (parseMethodDescriptor yX10_clearRow.desc).map (fun d => d.parameters.length) = some 1 := by decide +kernel
set_option maxHeartbeats 4000000 in
set_option maxRecDepth 100000 in
theorem mX10_clearRow (l : Launch) (E : gE) (o_p0 : Nat) (n_p0 : Nat) (f_p0 : (Nat → Int32)) (z_p0 : (Nat → Int32)) (hf : fX10_clearRow n_p0 f_p0 = some z_p0) {sz : Nat} : gMv l yX10_clearRow (gW yX10_clearRow cX10_clearRow 2 none) ({ frames := 0, cells := 0, slots := 0, locals := 0 } : Room) E [.ref o_p0] (wX10_clearRow E o_p0 n_p0 f_p0) sz (wX10_clearRow E o_p0 n_p0 z_p0) := by
  refine g_openV (own := RX10) (by decide) rfl (Nat.le_of_ble_eq_true rfl) (fun p e s m args below meth cd Q A hx hb hml hown hG hK hA hret hw ls hl => ?_)
  have hl : lv_has ls 2 [(0, .ref o_p0)] := hl
  have hret1 : ∀ (f_p0 : (Nat → Int32)) (H : Heap) (locs : List Loc) (pc : Nat) (ls : Array Slot), some f_p0 = some z_p0 → gS E A s.heap (wX10_clearRow E o_p0 n_p0 f_p0) H locs → decode cX10_clearRow pc = .ok (.return_, 1) → W p l e ({ frames := 0, cells := 0, slots := 0, locals := 0 } : Room) s m args below meth cd H locs 0 0 Q (F0 m pc ls []) := by
    intro f_p0 H locs pc ls h hw hd
    cases h
    exact hret H locs pc ls hw hd
  have B2 : ∀ n : Nat, ∀ (f_p0 : (Nat → Int32)) (x1 : Int32) (H : Heap) (locs : List Loc) (ls : Array Slot), fX10_clearRow_b2 n_p0 n f_p0 x1 = some z_p0 → gS E A s.heap (wX10_clearRow E o_p0 n_p0 f_p0) H locs → lv_has ls 2 [(0, .ref o_p0), (1, .int x1)] → W p l e ({ frames := 0, cells := 0, slots := 0, locals := 0 } : Room) s m args below meth cd H locs 0 0 Q (F0 m 2 ls []) := by
    intro n
    induction n with
    | zero => intro f_p0 x1 H locs ls hf hw hl; exact g_no hf
    | succ n ih =>
      intro f_p0 x1 H locs ls hf hw hl
      refine lv_iload_n hx hb dX10_clearRow_2 rfl (lv_at hl 1 rfl) ?_
      refine lv_aload_n hx hb dX10_clearRow_3 rfl (lv_at hl 0 rfl) ?_
      refine g_alen hx hb hK hw 0 rfl dX10_clearRow_4 ?_
      refine lv_icmp_ge (tgt := 18) hx hb dX10_clearRow_5 (by decide) (fun hc => ?_) (fun hc => ?_)
      · have hf := g_t hc hf
        exact hret1 f_p0 _ _ _ _ hf hw dX10_clearRow_18
      · have hf := g_f hc hf
        refine lv_aload_n hx hb dX10_clearRow_8 rfl (lv_at hl 0 rfl) ?_
        refine lv_iload_n hx hb dX10_clearRow_9 rfl (lv_at hl 1 rfl) ?_
        refine lv_iconst (v := 0) hx hb dX10_clearRow_10 k_i0 ?_
        obtain ⟨hi1, hf⟩ := gA_s hf
        refine g_iast (ws' := (wX10_clearRow E o_p0 n_p0 (upd f_p0 (Int32.toNatClampNeg x1) 0))) hx hb hK hw 0 rfl hi1 rfl dX10_clearRow_11 (fun H locs hw => ?_)
        refine lv_iinc (lv' := [(1, .int (x1 + 1)), (0, .ref o_p0)]) hx hb dX10_clearRow_12 hl (k := 1) rfl (k_inc1 _) (Nat.le_of_ble_eq_true rfl) rfl (fun ls hl => ?_)
        refine lv_goto (tgt := 2) hx hb dX10_clearRow_15 (by decide) ?_
        exact ih (upd f_p0 (Int32.toNatClampNeg x1) 0) (x1 + 1) _ _ _ hf hw (lv_sub hl [1, 0] rfl)
  refine lv_iconst (v := 0) hx hb dX10_clearRow_0 k_i0 ?_
  refine lv_istore_n (lv' := [(1, .int 0), (0, .ref o_p0)]) hx hb dX10_clearRow_1 rfl hl (Nat.le_of_ble_eq_true rfl) rfl (fun ls hl => ?_)
  exact B2 1000 f_p0 0 _ _ _ hf hw (lv_sub hl [1, 0] rfl)
theorem hX6_strikeHour : yX6_strikeHour.cls = RX6 ∧ yX6_strikeHour.cls ≠ "java/lang/invoke/MethodHandle" ∧ yX6_strikeHour.cls ≠ "java/lang/invoke/VarHandle" ∧ (parseMethodDescriptor yX6_strikeHour.desc).map (fun d => d.parameters.length) = some 0 := by decide +kernel
set_option maxHeartbeats 4000000 in
set_option maxRecDepth 100000 in
theorem mX6_strikeHour (l : Launch) (E : gE) (o_t : Nat) (a_t : (Nat → Nat)) (v_t_families : Int32) (v_t_wind : Int32) (v_t_force : Int32) (v_t_rain : Int32) (v_t_lost : Int32) (v_t_hour : Int32) (f_t_blown : (Nat → Int32)) (z_t_hour : Int32) (z_t_blown : (Nat → Int32)) (hf : fX6_strikeHour v_t_hour f_t_blown = some (z_t_hour, z_t_blown)) {sz : Nat} : gMv l yX6_strikeHour (gW yX6_strikeHour cX6_strikeHour 1 none) ({ frames := 1, cells := 0, slots := 0, locals := 21 } : Room) E [.ref o_t] (wX6_strikeHour E o_t a_t v_t_families v_t_wind v_t_force v_t_rain v_t_lost v_t_hour f_t_blown) sz (wX6_strikeHour E o_t a_t v_t_families v_t_wind v_t_force v_t_rain v_t_lost z_t_hour z_t_blown) := by
  refine g_openV (own := RX6) (by decide) rfl (Nat.le_of_ble_eq_true rfl) (fun p e s m args below meth cd Q A hx hb hml hown hG hK hA hret hw ls hl => ?_)
  have hl : lv_has ls 1 [(0, .ref o_t)] := hl
  have hret1 : ∀ (v_t_hour : Int32) (f_t_blown : (Nat → Int32)) (H : Heap) (locs : List Loc) (pc : Nat) (ls : Array Slot), some (v_t_hour, f_t_blown) = some (z_t_hour, z_t_blown) → gS E A s.heap (wX6_strikeHour E o_t a_t v_t_families v_t_wind v_t_force v_t_rain v_t_lost v_t_hour f_t_blown) H locs → decode cX6_strikeHour pc = .ok (.return_, 1) → W p l e ({ frames := 1, cells := 0, slots := 0, locals := 21 } : Room) s m args below meth cd H locs 0 0 Q (F0 m pc ls []) := by
    intro v_t_hour f_t_blown H locs pc ls h hw hd
    cases h
    exact hret H locs pc ls hw hd
  refine lv_aload_n hx hb dX6_strikeHour_0 rfl (lv_at hl 0 rfl) ?_
  refine lv_dup hx hb dX6_strikeHour_1 rfl ?_
  refine g_get hx hb hG hown hK hw inlX6 (ci := 5) rfl 0 10 (Nat.le_of_ble_eq_true rfl) rfl rfl wd_3_16 dX6_strikeHour_2 ?_
  refine lv_iconst (v := 1) hx hb dX6_strikeHour_5 k_i1 ?_
  refine lv_iadd hx hb dX6_strikeHour_6 ?_
  refine g_put (ws' := (wX6_strikeHour E o_t a_t v_t_families v_t_wind v_t_force v_t_rain v_t_lost (v_t_hour + 1) f_t_blown)) hx hb hG hown hK hw inlX6 tyX6_ok nmX6 (ci := 5) rfl 0 10 (Nat.le_of_ble_eq_true rfl) rfl wd_3_16 rfl rfl rfl (Nat.le_of_ble_eq_true rfl) rfl dX6_strikeHour_7 (fun H locs hw => ?_)
  refine lv_aload_n hx hb dX6_strikeHour_10 rfl (lv_at hl 0 rfl) ?_
  refine g_get hx hb hG hown hK hw inlX6 (ci := 5) rfl 0 3 (Nat.le_of_ble_eq_true rfl) rfl rfl wd_3_9 dX6_strikeHour_11 ?_
  obtain ⟨r1, hc2, hf⟩ := gB_s hf
  refine g_kv (is := [1]) (w1 := (wX10_clearRow E (a_t 3) 6 r1)) (ws' := (wX6_strikeHour E o_t a_t v_t_families v_t_wind v_t_force v_t_rain v_t_lost (v_t_hour + 1) r1)) hw hA (g_rN (host := "SeedBank") hx hb hml hG hown hK hw (is := [1]) rfl (by decide) (mX10_clearRow l E (a_t 3) 6 f_t_blown r1 hc2) (List.mem_of_getElem? (i := 15) rfl) wd_18_15 wd_1_2 wd_18_16 hX10_clearRow g_allgood ⟨rfl, rfl⟩ ⟨Nat.le_of_ble_eq_true rfl, Nat.le_of_ble_eq_true rfl⟩ ⟨Nat.zero_le _, Nat.zero_le _⟩ rfl hl.1 rfl (Nat.le_of_ble_eq_true rfl) dX6_strikeHour_14) rfl rfl rfl (fun H locs hw => ?_)
  exact hret1 (v_t_hour + 1) r1 _ _ _ _ hf hw dX6_strikeHour_17
theorem hX6_graze : yX6_graze.cls = RX6 ∧ yX6_graze.cls ≠ "java/lang/invoke/MethodHandle" ∧ yX6_graze.cls ≠ "java/lang/invoke/VarHandle" ∧ (parseMethodDescriptor yX6_graze.desc).map (fun d => d.parameters.length) = some 0 := by decide +kernel
set_option maxHeartbeats 4000000 in
set_option maxRecDepth 100000 in
theorem mX6_graze (l : Launch) (E : gE) (o_t : Nat) (a_t : (Nat → Nat)) (v_t_families : Int32) (v_t_wind : Int32) (v_t_force : Int32) (v_t_rain : Int32) (v_t_lost : Int32) (v_t_hour : Int32) (f_t_ground : (Nat → Int32)) (z_t_lost : Int32) (z_t_ground : (Nat → Int32)) (hf : fX6_graze v_t_lost f_t_ground = some (z_t_lost, z_t_ground)) {sz : Nat} : gMv l yX6_graze (gW yX6_graze cX6_graze 3 none) ({ frames := 0, cells := 0, slots := 0, locals := 0 } : Room) E [.ref o_t] (wX6_graze E o_t a_t v_t_families v_t_wind v_t_force v_t_rain v_t_lost v_t_hour f_t_ground) sz (wX6_graze E o_t a_t v_t_families v_t_wind v_t_force v_t_rain z_t_lost v_t_hour z_t_ground) := by
  refine g_openV (own := RX6) (by decide) rfl (Nat.le_of_ble_eq_true rfl) (fun p e s m args below meth cd Q A hx hb hml hown hG hK hA hret hw ls hl => ?_)
  have hl : lv_has ls 3 [(0, .ref o_t)] := hl
  have hret1 : ∀ (v_t_lost : Int32) (f_t_ground : (Nat → Int32)) (H : Heap) (locs : List Loc) (pc : Nat) (ls : Array Slot), some (v_t_lost, f_t_ground) = some (z_t_lost, z_t_ground) → gS E A s.heap (wX6_graze E o_t a_t v_t_families v_t_wind v_t_force v_t_rain v_t_lost v_t_hour f_t_ground) H locs → decode cX6_graze pc = .ok (.return_, 1) → W p l e ({ frames := 0, cells := 0, slots := 0, locals := 0 } : Room) s m args below meth cd H locs 0 0 Q (F0 m pc ls []) := by
    intro v_t_lost f_t_ground H locs pc ls h hw hd
    cases h
    exact hret H locs pc ls hw hd
  have B2 : ∀ n : Nat, ∀ (v_t_lost : Int32) (f_t_ground : (Nat → Int32)) (x1 : Int32) (H : Heap) (locs : List Loc) (ls : Array Slot), fX6_graze_b2 n v_t_lost f_t_ground x1 = some (z_t_lost, z_t_ground) → gS E A s.heap (wX6_graze E o_t a_t v_t_families v_t_wind v_t_force v_t_rain v_t_lost v_t_hour f_t_ground) H locs → lv_has ls 3 [(0, .ref o_t), (1, .int x1)] → W p l e ({ frames := 0, cells := 0, slots := 0, locals := 0 } : Room) s m args below meth cd H locs 0 0 Q (F0 m 2 ls []) := by
    intro n
    induction n with
    | zero => intro v_t_lost f_t_ground x1 H locs ls hf hw hl; exact g_no hf
    | succ n ih =>
      intro v_t_lost f_t_ground x1 H locs ls hf hw hl
      refine lv_iload_n hx hb dX6_graze_2 rfl (lv_at hl 1 rfl) ?_
      refine lv_bipush (v := 36) hx hb dX6_graze_3 k_b36 ?_
      refine lv_icmp_ge (tgt := 43) hx hb dX6_graze_5 (by decide) (fun hc => ?_) (fun hc => ?_)
      · have hf := g_t hc hf
        exact hret1 v_t_lost f_t_ground _ _ _ _ hf hw dX6_graze_43
      · have hf := g_f hc hf
        refine lv_aload_n hx hb dX6_graze_8 rfl (lv_at hl 0 rfl) ?_
        refine g_get hx hb hG hown hK hw inlX6 (ci := 5) rfl 0 4 (Nat.le_of_ble_eq_true rfl) rfl rfl wd_3_10 dX6_graze_9 ?_
        refine lv_iload_n hx hb dX6_graze_12 rfl (lv_at hl 1 rfl) ?_
        obtain ⟨hi1, hf⟩ := gA_s hf
        refine g_iald hx hb hK hw 1 rfl hi1 dX6_graze_13 ?_
        refine lv_iconst (v := 2) hx hb dX6_graze_14 k_i2 ?_
        refine lv_idiv hx hb dX6_graze_15 (by decide) ?_
        refine lv_istore_n (lv' := [(2, .int ((f_t_ground (Int32.toNatClampNeg x1)) / 2)), (0, .ref o_t), (1, .int x1)]) hx hb dX6_graze_16 rfl hl (Nat.le_of_ble_eq_true rfl) rfl (fun ls hl => ?_)
        refine lv_aload_n hx hb dX6_graze_17 rfl (lv_at hl 1 rfl) ?_
        refine g_get hx hb hG hown hK hw inlX6 (ci := 5) rfl 0 4 (Nat.le_of_ble_eq_true rfl) rfl rfl wd_3_10 dX6_graze_18 ?_
        refine lv_iload_n hx hb dX6_graze_21 rfl (lv_at hl 2 rfl) ?_
        refine lv_dup2_11 hx hb dX6_graze_22 rfl rfl ?_
        obtain ⟨hi2, hf⟩ := gA_s hf
        refine g_iald hx hb hK hw 1 rfl hi2 dX6_graze_23 ?_
        refine lv_iload_n hx hb dX6_graze_24 rfl (lv_at hl 0 rfl) ?_
        refine lv_isub hx hb dX6_graze_25 ?_
        obtain ⟨hi3, hf⟩ := gA_s hf
        refine g_iast (ws' := (wX6_graze E o_t a_t v_t_families v_t_wind v_t_force v_t_rain v_t_lost v_t_hour (upd f_t_ground (Int32.toNatClampNeg x1) ((f_t_ground (Int32.toNatClampNeg x1)) - ((f_t_ground (Int32.toNatClampNeg x1)) / 2))))) hx hb hK hw 1 rfl hi3 rfl dX6_graze_26 (fun H locs hw => ?_)
        refine lv_aload_n hx hb dX6_graze_27 rfl (lv_at hl 1 rfl) ?_
        refine lv_dup hx hb dX6_graze_28 rfl ?_
        refine g_get hx hb hG hown hK hw inlX6 (ci := 5) rfl 0 9 (Nat.le_of_ble_eq_true rfl) rfl rfl wd_3_15 dX6_graze_29 ?_
        refine lv_iload_n hx hb dX6_graze_32 rfl (lv_at hl 0 rfl) ?_
        refine lv_iadd hx hb dX6_graze_33 ?_
        refine g_put (ws' := (wX6_graze E o_t a_t v_t_families v_t_wind v_t_force v_t_rain (v_t_lost + ((f_t_ground (Int32.toNatClampNeg x1)) / 2)) v_t_hour (upd f_t_ground (Int32.toNatClampNeg x1) ((f_t_ground (Int32.toNatClampNeg x1)) - ((f_t_ground (Int32.toNatClampNeg x1)) / 2))))) hx hb hG hown hK hw inlX6 tyX6_ok nmX6 (ci := 5) rfl 0 9 (Nat.le_of_ble_eq_true rfl) rfl wd_3_15 rfl rfl rfl (Nat.le_of_ble_eq_true rfl) rfl dX6_graze_34 (fun H locs hw => ?_)
        refine lv_iinc (lv' := [(1, .int (x1 + 1)), (2, .int ((f_t_ground (Int32.toNatClampNeg x1)) / 2)), (0, .ref o_t)]) hx hb dX6_graze_37 hl (k := 2) rfl (k_inc1 _) (Nat.le_of_ble_eq_true rfl) rfl (fun ls hl => ?_)
        refine lv_goto (tgt := 2) hx hb dX6_graze_40 (by decide) ?_
        exact ih (v_t_lost + ((f_t_ground (Int32.toNatClampNeg x1)) / 2)) (upd f_t_ground (Int32.toNatClampNeg x1) ((f_t_ground (Int32.toNatClampNeg x1)) - ((f_t_ground (Int32.toNatClampNeg x1)) / 2))) (x1 + 1) _ _ _ hf hw (lv_sub hl [2, 0] rfl)
  refine lv_iconst (v := 0) hx hb dX6_graze_0 k_i0 ?_
  refine lv_istore_n (lv' := [(1, .int 0), (0, .ref o_t)]) hx hb dX6_graze_1 rfl hl (Nat.le_of_ble_eq_true rfl) rfl (fun ls hl => ?_)
  exact B2 1000 v_t_lost f_t_ground 0 _ _ _ hf hw (lv_sub hl [1, 0] rfl)
theorem hX10_isField : yX10_isField.cls ≠ "java/lang/invoke/MethodHandle" ∧ yX10_isField.cls ≠ "java/lang/invoke/VarHandle" ∧ (parseMethodDescriptor yX10_isField.desc).map (fun d => d.parameters.length) = some 1 := by decide +kernel
set_option maxHeartbeats 4000000 in
set_option maxRecDepth 100000 in
theorem mX10_isField (l : Launch) (E : gE) (x0 : Int32) (rv : Int32) (hf : fX10_isField x0 = some rv) {sz : Nat} : gMi l yX10_isField (gW yX10_isField cX10_isField 1 (some .boolean)) ({ frames := 0, cells := 0, slots := 0, locals := 0 } : Room) E [.int x0] (wX10_isField E) sz rv (wX10_isField E) := by
  refine g_openZ (own := RX10) (by decide) rfl (Nat.le_of_ble_eq_true rfl) (fun p e s m args below meth cd Q A hx hb hml hown hG hK hA hret hw ls hl => ?_)
  have hl : lv_has ls 1 [(0, .int x0)] := hl
  have hret1 : ∀ (v : Int32)  (H : Heap) (locs : List Loc) (pc : Nat) (ls : Array Slot), some v = some rv → v &&& 1 = v → gS E A s.heap (wX10_isField E) H locs → decode cX10_isField pc = .ok (.ireturn, 1) → W p l e ({ frames := 0, cells := 0, slots := 0, locals := 0 } : Room) s m args below meth cd H locs 0 0 Q (F0 m pc ls [.int v]) := by
    intro v  H locs pc ls h hz hw hd
    cases h
    exact hret H locs pc ls hz hw hd
  have B15 : ∀ (s0 : Int32) (H : Heap) (locs : List Loc) (ls : Array Slot), fX10_isField_b15 s0 = some rv → gS E A s.heap (wX10_isField E) H locs → lv_has ls 1 [] → W p l e ({ frames := 0, cells := 0, slots := 0, locals := 0 } : Room) s m args below meth cd H locs 0 0 Q (F0 m 15 ls [.int s0]) := by
    intro  s0 H locs ls hf hw hl
    obtain ⟨hz1, hf⟩ := gZ_s hf
    exact hret1 s0 _ _ _ _ hf hz1 hw dX10_isField_15
  have B14 : ∀ (H : Heap) (locs : List Loc) (ls : Array Slot), fX10_isField_b14 = some rv → gS E A s.heap (wX10_isField E) H locs → lv_has ls 1 [] → W p l e ({ frames := 0, cells := 0, slots := 0, locals := 0 } : Room) s m args below meth cd H locs 0 0 Q (F0 m 14 ls []) := by
    intro   H locs ls hf hw hl
    refine lv_iconst (v := 0) hx hb dX10_isField_14 k_i0 ?_
    exact B15 0 _ _ _ hf hw (lv_sub hl [] rfl)
  refine lv_iload_n hx hb dX10_isField_0 rfl (lv_at hl 0 rfl) ?_
  refine lv_if_lt (tgt := 14) hx hb dX10_isField_1 (by decide) (fun hc => ?_) (fun hc => ?_)
  · have hf := g_t hc hf
    exact B14 _ _ _ hf hw (lv_sub hl [] rfl)
  · have hf := g_f hc hf
    refine lv_iload_n hx hb dX10_isField_4 rfl (lv_at hl 0 rfl) ?_
    refine lv_bipush (v := 36) hx hb dX10_isField_5 k_b36 ?_
    refine lv_icmp_ge (tgt := 14) hx hb dX10_isField_7 (by decide) (fun hc => ?_) (fun hc => ?_)
    · have hf := g_t hc hf
      exact B14 _ _ _ hf hw (lv_sub hl [] rfl)
    · have hf := g_f hc hf
      refine lv_iconst (v := 1) hx hb dX10_isField_10 k_i1 ?_
      refine lv_goto (tgt := 15) hx hb dX10_isField_11 (by decide) ?_
      exact B15 1 _ _ _ hf hw (lv_sub hl [] rfl)
theorem hX6_mow : yX6_mow.cls = RX6 ∧ yX6_mow.cls ≠ "java/lang/invoke/MethodHandle" ∧ yX6_mow.cls ≠ "java/lang/invoke/VarHandle" ∧ (parseMethodDescriptor yX6_mow.desc).map (fun d => d.parameters.length) = some 1 := by decide +kernel
set_option maxHeartbeats 4000000 in
set_option maxRecDepth 100000 in
theorem mX6_mow (l : Launch) (E : gE) (o_t : Nat) (a_t : (Nat → Nat)) (v_t_families : Int32) (v_t_wind : Int32) (v_t_force : Int32) (v_t_rain : Int32) (v_t_lost : Int32) (v_t_hour : Int32) (f_t_home : (Nat → Int32)) (f_t_seeds : (Nat → Int32)) (f_t_ground : (Nat → Int32)) (x1 : Int32) (z_t_seeds : (Nat → Int32)) (z_t_ground : (Nat → Int32)) (hf : fX6_mow v_t_families f_t_home f_t_seeds f_t_ground x1 = some (z_t_seeds, z_t_ground)) {sz : Nat} : gMv l yX6_mow (gW yX6_mow cX6_mow 3 none) ({ frames := 1, cells := 0, slots := 0, locals := 21 } : Room) E [.ref o_t, .int x1] (wX6_mow E o_t a_t v_t_families v_t_wind v_t_force v_t_rain v_t_lost v_t_hour f_t_home f_t_seeds f_t_ground) sz (wX6_mow E o_t a_t v_t_families v_t_wind v_t_force v_t_rain v_t_lost v_t_hour f_t_home z_t_seeds z_t_ground) := by
  refine g_openV (own := RX6) (by decide) rfl (Nat.le_of_ble_eq_true rfl) (fun p e s m args below meth cd Q A hx hb hml hown hG hK hA hret hw ls hl => ?_)
  have hl : lv_has ls 3 [(0, .ref o_t), (1, .int x1)] := hl
  have hret1 : ∀ (f_t_seeds : (Nat → Int32)) (f_t_ground : (Nat → Int32)) (H : Heap) (locs : List Loc) (pc : Nat) (ls : Array Slot), some (f_t_seeds, f_t_ground) = some (z_t_seeds, z_t_ground) → gS E A s.heap (wX6_mow E o_t a_t v_t_families v_t_wind v_t_force v_t_rain v_t_lost v_t_hour f_t_home f_t_seeds f_t_ground) H locs → decode cX6_mow pc = .ok (.return_, 1) → W p l e ({ frames := 1, cells := 0, slots := 0, locals := 21 } : Room) s m args below meth cd H locs 0 0 Q (F0 m pc ls []) := by
    intro f_t_seeds f_t_ground H locs pc ls h hw hd
    cases h
    exact hret H locs pc ls hw hd
  have B20 : ∀ (f_t_seeds : (Nat → Int32)) (f_t_ground : (Nat → Int32)) (H : Heap) (locs : List Loc) (ls : Array Slot), fX6_mow_b20 f_t_seeds f_t_ground = some (z_t_seeds, z_t_ground) → gS E A s.heap (wX6_mow E o_t a_t v_t_families v_t_wind v_t_force v_t_rain v_t_lost v_t_hour f_t_home f_t_seeds f_t_ground) H locs → lv_has ls 3 [] → W p l e ({ frames := 1, cells := 0, slots := 0, locals := 21 } : Room) s m args below meth cd H locs 0 0 Q (F0 m 20 ls []) := by
    intro  f_t_seeds f_t_ground H locs ls hf hw hl
    exact hret1 f_t_seeds f_t_ground _ _ _ _ hf hw dX6_mow_20
  refine lv_aload_n hx hb dX6_mow_0 rfl (lv_at hl 0 rfl) ?_
  refine lv_iload_n hx hb dX6_mow_1 rfl (lv_at hl 1 rfl) ?_
  obtain ⟨r1, hc2, hf⟩ := gB_s hf
  refine g_ki (is := [0]) (w1 := (wX6_isThere E o_t a_t v_t_families v_t_wind v_t_force v_t_rain v_t_lost v_t_hour)) (ws' := (wX6_mow E o_t a_t v_t_families v_t_wind v_t_force v_t_rain v_t_lost v_t_hour f_t_home f_t_seeds f_t_ground)) hw hA (g_rV hx hb hml hG hown hK hw (is := [0]) rfl (by decide) (mX6_isThere l E o_t a_t v_t_families v_t_wind v_t_force v_t_rain v_t_lost v_t_hour x1 r1 hc2) wd_9_16 wd_9_9 wd_9_10 wd_2_20 wd_9_11 hX6_isThere g_allgood ⟨rfl, rfl⟩ ⟨Nat.le_of_ble_eq_true rfl, Nat.le_of_ble_eq_true rfl⟩ ⟨Nat.zero_le _, Nat.zero_le _⟩ (ci := 5) (q0 := 0) rfl rfl rfl rfl hl.1 rfl (Nat.le_of_ble_eq_true rfl) dX6_mow_2) rfl rfl rfl (fun H locs hw => ?_)
  refine lv_if_eq (tgt := 20) hx hb dX6_mow_5 (by decide) (fun hc => ?_) (fun hc => ?_)
  · have hf := g_t hc hf
    exact B20 f_t_seeds f_t_ground _ _ _ hf hw (lv_sub hl [] rfl)
  · have hf := g_f hc hf
    refine lv_aload_n hx hb dX6_mow_8 rfl (lv_at hl 0 rfl) ?_
    refine g_get hx hb hG hown hK hw inlX6 (ci := 5) rfl 0 0 (Nat.le_of_ble_eq_true rfl) rfl rfl wd_3_6 dX6_mow_9 ?_
    refine lv_iload_n hx hb dX6_mow_12 rfl (lv_at hl 1 rfl) ?_
    obtain ⟨hi3, hf⟩ := gA_s hf
    refine g_iald hx hb hK hw 1 rfl hi3 dX6_mow_13 ?_
    obtain ⟨r4, hc5, hf⟩ := gB_s hf
    refine g_ki (is := []) (w1 := (wX10_isField E)) (ws' := (wX6_mow E o_t a_t v_t_families v_t_wind v_t_force v_t_rain v_t_lost v_t_hour f_t_home f_t_seeds f_t_ground)) hw hA (g_rN (host := "SeedBank") hx hb hml hG hown hK hw (is := []) rfl (by decide) (mX10_isField l E (f_t_home (Int32.toNatClampNeg x1)) r4 hc5) (List.mem_of_getElem? (i := 14) rfl) wd_7_5 wd_1_2 wd_7_6 hX10_isField g_allgood ⟨rfl, rfl⟩ ⟨Nat.le_of_ble_eq_true rfl, Nat.le_of_ble_eq_true rfl⟩ ⟨Nat.zero_le _, Nat.zero_le _⟩ rfl hl.1 rfl (Nat.le_of_ble_eq_true rfl) dX6_mow_14) rfl rfl rfl (fun H locs hw => ?_)
    refine lv_if_ne (tgt := 21) hx hb dX6_mow_17 (by decide) (fun hc => ?_) (fun hc => ?_)
    · have hf := g_f hc hf
      refine lv_bipush (v := 60) hx hb dX6_mow_21 k_b60 ?_
      refine lv_aload_n hx hb dX6_mow_23 rfl (lv_at hl 0 rfl) ?_
      refine g_get hx hb hG hown hK hw inlX6 (ci := 5) rfl 0 1 (Nat.le_of_ble_eq_true rfl) rfl rfl wd_3_7 dX6_mow_24 ?_
      refine lv_iload_n hx hb dX6_mow_27 rfl (lv_at hl 1 rfl) ?_
      obtain ⟨hi6, hf⟩ := gA_s hf
      refine g_iald hx hb hK hw 2 rfl hi6 dX6_mow_28 ?_
      refine lv_isub hx hb dX6_mow_29 ?_
      refine lv_aload_n hx hb dX6_mow_30 rfl (lv_at hl 0 rfl) ?_
      refine g_get hx hb hG hown hK hw inlX6 (ci := 5) rfl 0 4 (Nat.le_of_ble_eq_true rfl) rfl rfl wd_3_10 dX6_mow_31 ?_
      refine lv_aload_n hx hb dX6_mow_34 rfl (lv_at hl 0 rfl) ?_
      refine g_get hx hb hG hown hK hw inlX6 (ci := 5) rfl 0 0 (Nat.le_of_ble_eq_true rfl) rfl rfl wd_3_6 dX6_mow_35 ?_
      refine lv_iload_n hx hb dX6_mow_38 rfl (lv_at hl 1 rfl) ?_
      obtain ⟨hi7, hf⟩ := gA_s hf
      refine g_iald hx hb hK hw 1 rfl hi7 dX6_mow_39 ?_
      obtain ⟨hi8, hf⟩ := gA_s hf
      refine g_iald hx hb hK hw 3 rfl hi8 dX6_mow_40 ?_
      refine va_mmin hx hb (hml.trans hl.1.symm) hown (hG _ wd_18_3) (hG _ wd_18_4) (hG _ wd_18_5) (hG _ wd_18_6) (Nat.le_of_ble_eq_true rfl) (Nat.le_of_ble_eq_true rfl) (Nat.zero_le _) (Nat.zero_le _) dX6_mow_41 ?_
      refine lv_istore_n (lv' := [(2, .int (if (f_t_ground (Int32.toNatClampNeg (f_t_home (Int32.toNatClampNeg x1)))) < (60 - (f_t_seeds (Int32.toNatClampNeg x1))) then (f_t_ground (Int32.toNatClampNeg (f_t_home (Int32.toNatClampNeg x1)))) else (60 - (f_t_seeds (Int32.toNatClampNeg x1))))), (0, .ref o_t), (1, .int x1)]) hx hb dX6_mow_44 rfl hl (Nat.le_of_ble_eq_true rfl) rfl (fun ls hl => ?_)
      refine lv_aload_n hx hb dX6_mow_45 rfl (lv_at hl 1 rfl) ?_
      refine g_get hx hb hG hown hK hw inlX6 (ci := 5) rfl 0 1 (Nat.le_of_ble_eq_true rfl) rfl rfl wd_3_7 dX6_mow_46 ?_
      refine lv_iload_n hx hb dX6_mow_49 rfl (lv_at hl 2 rfl) ?_
      refine lv_dup2_11 hx hb dX6_mow_50 rfl rfl ?_
      obtain ⟨hi9, hf⟩ := gA_s hf
      refine g_iald hx hb hK hw 2 rfl hi9 dX6_mow_51 ?_
      refine lv_iload_n hx hb dX6_mow_52 rfl (lv_at hl 0 rfl) ?_
      refine lv_iadd hx hb dX6_mow_53 ?_
      obtain ⟨hi10, hf⟩ := gA_s hf
      refine g_iast (ws' := (wX6_mow E o_t a_t v_t_families v_t_wind v_t_force v_t_rain v_t_lost v_t_hour f_t_home (upd f_t_seeds (Int32.toNatClampNeg x1) ((f_t_seeds (Int32.toNatClampNeg x1)) + (if (f_t_ground (Int32.toNatClampNeg (f_t_home (Int32.toNatClampNeg x1)))) < (60 - (f_t_seeds (Int32.toNatClampNeg x1))) then (f_t_ground (Int32.toNatClampNeg (f_t_home (Int32.toNatClampNeg x1)))) else (60 - (f_t_seeds (Int32.toNatClampNeg x1)))))) f_t_ground)) hx hb hK hw 2 rfl hi10 rfl dX6_mow_54 (fun H locs hw => ?_)
      refine lv_aload_n hx hb dX6_mow_55 rfl (lv_at hl 1 rfl) ?_
      refine g_get hx hb hG hown hK hw inlX6 (ci := 5) rfl 0 4 (Nat.le_of_ble_eq_true rfl) rfl rfl wd_3_10 dX6_mow_56 ?_
      refine lv_aload_n hx hb dX6_mow_59 rfl (lv_at hl 1 rfl) ?_
      refine g_get hx hb hG hown hK hw inlX6 (ci := 5) rfl 0 0 (Nat.le_of_ble_eq_true rfl) rfl rfl wd_3_6 dX6_mow_60 ?_
      refine lv_iload_n hx hb dX6_mow_63 rfl (lv_at hl 2 rfl) ?_
      obtain ⟨hi11, hf⟩ := gA_s hf
      refine g_iald hx hb hK hw 1 rfl hi11 dX6_mow_64 ?_
      refine lv_dup2_11 hx hb dX6_mow_65 rfl rfl ?_
      obtain ⟨hi12, hf⟩ := gA_s hf
      refine g_iald hx hb hK hw 3 rfl hi12 dX6_mow_66 ?_
      refine lv_iload_n hx hb dX6_mow_67 rfl (lv_at hl 0 rfl) ?_
      refine lv_isub hx hb dX6_mow_68 ?_
      obtain ⟨hi13, hf⟩ := gA_s hf
      refine g_iast (ws' := (wX6_mow E o_t a_t v_t_families v_t_wind v_t_force v_t_rain v_t_lost v_t_hour f_t_home (upd f_t_seeds (Int32.toNatClampNeg x1) ((f_t_seeds (Int32.toNatClampNeg x1)) + (if (f_t_ground (Int32.toNatClampNeg (f_t_home (Int32.toNatClampNeg x1)))) < (60 - (f_t_seeds (Int32.toNatClampNeg x1))) then (f_t_ground (Int32.toNatClampNeg (f_t_home (Int32.toNatClampNeg x1)))) else (60 - (f_t_seeds (Int32.toNatClampNeg x1)))))) (upd f_t_ground (Int32.toNatClampNeg (f_t_home (Int32.toNatClampNeg x1))) ((f_t_ground (Int32.toNatClampNeg (f_t_home (Int32.toNatClampNeg x1)))) - (if (f_t_ground (Int32.toNatClampNeg (f_t_home (Int32.toNatClampNeg x1)))) < (60 - (f_t_seeds (Int32.toNatClampNeg x1))) then (f_t_ground (Int32.toNatClampNeg (f_t_home (Int32.toNatClampNeg x1)))) else (60 - (f_t_seeds (Int32.toNatClampNeg x1)))))))) hx hb hK hw 3 rfl hi13 rfl dX6_mow_69 (fun H locs hw => ?_)
      exact hret1 (upd f_t_seeds (Int32.toNatClampNeg x1) ((f_t_seeds (Int32.toNatClampNeg x1)) + (if (f_t_ground (Int32.toNatClampNeg (f_t_home (Int32.toNatClampNeg x1)))) < (60 - (f_t_seeds (Int32.toNatClampNeg x1))) then (f_t_ground (Int32.toNatClampNeg (f_t_home (Int32.toNatClampNeg x1)))) else (60 - (f_t_seeds (Int32.toNatClampNeg x1)))))) (upd f_t_ground (Int32.toNatClampNeg (f_t_home (Int32.toNatClampNeg x1))) ((f_t_ground (Int32.toNatClampNeg (f_t_home (Int32.toNatClampNeg x1)))) - (if (f_t_ground (Int32.toNatClampNeg (f_t_home (Int32.toNatClampNeg x1)))) < (60 - (f_t_seeds (Int32.toNatClampNeg x1))) then (f_t_ground (Int32.toNatClampNeg (f_t_home (Int32.toNatClampNeg x1)))) else (60 - (f_t_seeds (Int32.toNatClampNeg x1)))))) _ _ _ _ hf hw dX6_mow_70
    · have hf := g_t hc hf
      exact B20 f_t_seeds f_t_ground _ _ _ hf hw (lv_sub hl [] rfl)
theorem hX10_downwind : yX10_downwind.cls ≠ "java/lang/invoke/MethodHandle" ∧ yX10_downwind.cls ≠ "java/lang/invoke/VarHandle" ∧ (parseMethodDescriptor yX10_downwind.desc).map (fun d => d.parameters.length) = some 3 := by decide +kernel
set_option maxHeartbeats 4000000 in
set_option maxRecDepth 100000 in
theorem mX10_downwind (l : Launch) (E : gE) (x0 : Int32) (x1 : Int32) (x2 : Int32) (rv : Int32) (hf : fX10_downwind x0 x1 x2 = some rv) {sz : Nat} : gMi l yX10_downwind (gW yX10_downwind cX10_downwind 6 (some .int)) ({ frames := 0, cells := 0, slots := 0, locals := 0 } : Room) E [.int x0, .int x1, .int x2] (wX10_downwind E) sz rv (wX10_downwind E) := by
  refine g_openI (own := RX10) (by decide) rfl (Nat.le_of_ble_eq_true rfl) (fun p e s m args below meth cd Q A hx hb hml hown hG hK hA hret hw ls hl => ?_)
  have hl : lv_has ls 6 [(0, .int x0), (1, .int x1), (2, .int x2)] := hl
  have hret1 : ∀ (v : Int32)  (H : Heap) (locs : List Loc) (pc : Nat) (ls : Array Slot), some v = some rv → gS E A s.heap (wX10_downwind E) H locs → decode cX10_downwind pc = .ok (.ireturn, 1) → W p l e ({ frames := 0, cells := 0, slots := 0, locals := 0 } : Room) s m args below meth cd H locs 0 0 Q (F0 m pc ls [.int v]) := by
    intro v  H locs pc ls h hw hd
    cases h
    exact hret H locs pc ls hw hd
  have B114 : ∀ (s0 : Int32) (H : Heap) (locs : List Loc) (ls : Array Slot), fX10_downwind_b114 s0 = some rv → gS E A s.heap (wX10_downwind E) H locs → lv_has ls 6 [] → W p l e ({ frames := 0, cells := 0, slots := 0, locals := 0 } : Room) s m args below meth cd H locs 0 0 Q (F0 m 114 ls [.int s0]) := by
    intro  s0 H locs ls hf hw hl
    exact hret1 s0 _ _ _ _ hf hw dX10_downwind_114
  have B96 : ∀ (x3 : Int32) (x4 : Int32) (s0 : Int32) (H : Heap) (locs : List Loc) (ls : Array Slot), fX10_downwind_b96 x3 x4 s0 = some rv → gS E A s.heap (wX10_downwind E) H locs → lv_has ls 6 [(3, .int x3), (4, .int x4)] → W p l e ({ frames := 0, cells := 0, slots := 0, locals := 0 } : Room) s m args below meth cd H locs 0 0 Q (F0 m 96 ls [.int s0]) := by
    intro  x3 x4 s0 H locs ls hf hw hl
    refine lv_istore (lv' := [(5, .int s0), (3, .int x3), (4, .int x4)]) hx hb dX10_downwind_96 hl (Nat.le_of_ble_eq_true rfl) rfl (fun ls hl => ?_)
    refine lv_iload hx hb dX10_downwind_98 (lv_at hl 0 rfl) ?_
    refine lv_if_eq (tgt := 113) hx hb dX10_downwind_100 (by decide) (fun hc => ?_) (fun hc => ?_)
    · have hf := g_t hc hf
      refine lv_iconst (v := -1) hx hb dX10_downwind_113 k_im1 ?_
      exact B114 (-1) _ _ _ hf hw (lv_sub hl [] rfl)
    · have hf := g_f hc hf
      refine lv_bipush (v := 6) hx hb dX10_downwind_103 k_b6 ?_
      refine lv_iload_n hx hb dX10_downwind_105 rfl (lv_at hl 1 rfl) ?_
      refine lv_imul hx hb dX10_downwind_106 ?_
      refine lv_iload hx hb dX10_downwind_107 (lv_at hl 2 rfl) ?_
      refine lv_iadd hx hb dX10_downwind_109 ?_
      refine lv_goto (tgt := 114) hx hb dX10_downwind_110 (by decide) ?_
      exact B114 ((6 * x3) + x4) _ _ _ hf hw (lv_sub hl [] rfl)
  have B95 : ∀ (x3 : Int32) (x4 : Int32) (H : Heap) (locs : List Loc) (ls : Array Slot), fX10_downwind_b95 x3 x4 = some rv → gS E A s.heap (wX10_downwind E) H locs → lv_has ls 6 [(3, .int x3), (4, .int x4)] → W p l e ({ frames := 0, cells := 0, slots := 0, locals := 0 } : Room) s m args below meth cd H locs 0 0 Q (F0 m 95 ls []) := by
    intro  x3 x4 H locs ls hf hw hl
    refine lv_iconst (v := 0) hx hb dX10_downwind_95 k_i0 ?_
    exact B96 x3 x4 0 _ _ _ hf hw (lv_sub hl [0, 1] rfl)
  have B69 : ∀ (x3 : Int32) (x4 : Int32) (H : Heap) (locs : List Loc) (ls : Array Slot), fX10_downwind_b69 x3 x4 = some rv → gS E A s.heap (wX10_downwind E) H locs → lv_has ls 6 [(3, .int x3), (4, .int x4)] → W p l e ({ frames := 0, cells := 0, slots := 0, locals := 0 } : Room) s m args below meth cd H locs 0 0 Q (F0 m 69 ls []) := by
    intro  x3 x4 H locs ls hf hw hl
    refine lv_iload hx hb dX10_downwind_69 (lv_at hl 1 rfl) ?_
    refine lv_if_lt (tgt := 95) hx hb dX10_downwind_71 (by decide) (fun hc => ?_) (fun hc => ?_)
    · have hf := g_t hc hf
      exact B95 x3 x4 _ _ _ hf hw (lv_sub hl [0, 1] rfl)
    · have hf := g_f hc hf
      refine lv_iload hx hb dX10_downwind_74 (lv_at hl 1 rfl) ?_
      refine lv_bipush (v := 6) hx hb dX10_downwind_76 k_b6 ?_
      refine lv_icmp_ge (tgt := 95) hx hb dX10_downwind_78 (by decide) (fun hc => ?_) (fun hc => ?_)
      · have hf := g_t hc hf
        exact B95 x3 x4 _ _ _ hf hw (lv_sub hl [0, 1] rfl)
      · have hf := g_f hc hf
        refine lv_iload_n hx hb dX10_downwind_81 rfl (lv_at hl 0 rfl) ?_
        refine lv_if_lt (tgt := 95) hx hb dX10_downwind_82 (by decide) (fun hc => ?_) (fun hc => ?_)
        · have hf := g_t hc hf
          exact B95 x3 x4 _ _ _ hf hw (lv_sub hl [0, 1] rfl)
        · have hf := g_f hc hf
          refine lv_iload_n hx hb dX10_downwind_85 rfl (lv_at hl 0 rfl) ?_
          refine lv_bipush (v := 6) hx hb dX10_downwind_86 k_b6 ?_
          refine lv_icmp_ge (tgt := 95) hx hb dX10_downwind_88 (by decide) (fun hc => ?_) (fun hc => ?_)
          · have hf := g_t hc hf
            exact B95 x3 x4 _ _ _ hf hw (lv_sub hl [0, 1] rfl)
          · have hf := g_f hc hf
            refine lv_iconst (v := 1) hx hb dX10_downwind_91 k_i1 ?_
            refine lv_goto (tgt := 96) hx hb dX10_downwind_92 (by decide) ?_
            exact B96 x3 x4 1 _ _ _ hf hw (lv_sub hl [0, 1] rfl)
  refine lv_iload_n hx hb dX10_downwind_0 rfl (lv_at hl 0 rfl) ?_
  refine lv_bipush (v := 6) hx hb dX10_downwind_1 k_b6 ?_
  refine lv_idiv hx hb dX10_downwind_3 (by decide) ?_
  refine lv_istore_n (lv' := [(3, .int (x0 / 6)), (0, .int x0), (1, .int x1), (2, .int x2)]) hx hb dX10_downwind_4 rfl hl (Nat.le_of_ble_eq_true rfl) rfl (fun ls hl => ?_)
  refine lv_iload_n hx hb dX10_downwind_5 rfl (lv_at hl 1 rfl) ?_
  refine lv_bipush (v := 6) hx hb dX10_downwind_6 k_b6 ?_
  refine g_irem hx hb dX10_downwind_8 (by decide) ?_
  refine lv_istore (lv' := [(4, .int (x0 % 6)), (3, .int (x0 / 6)), (0, .int x0), (1, .int x1), (2, .int x2)]) hx hb dX10_downwind_9 hl (Nat.le_of_ble_eq_true rfl) rfl (fun ls hl => ?_)
  refine lv_iload_n hx hb dX10_downwind_11 rfl (lv_at hl 3 rfl) ?_
  by_cases hs1 : x1 = 0
  · have hf := g_t hs1 hf
    refine lv_tableIn (off := 28) (tgt := 40) hx hb dX10_downwind_12 (by rw [hs1]; decide) (by rw [hs1]; decide) (by rw [hs1] <;> rfl) (by decide) ?_
    refine lv_iload_n hx hb dX10_downwind_40 rfl (lv_at hl 1 rfl) ?_
    refine lv_iload_n hx hb dX10_downwind_41 rfl (lv_at hl 4 rfl) ?_
    refine lv_iadd hx hb dX10_downwind_42 ?_
    refine lv_istore_n (lv' := [(3, .int ((x0 / 6) + x2)), (4, .int (x0 % 6)), (0, .int x0), (1, .int x1), (2, .int x2)]) hx hb dX10_downwind_43 rfl hl (Nat.le_of_ble_eq_true rfl) rfl (fun ls hl => ?_)
    refine lv_goto (tgt := 69) hx hb dX10_downwind_44 (by decide) ?_
    exact B69 ((x0 / 6) + x2) (x0 % 6) _ _ _ hf hw (lv_sub hl [0, 1] rfl)
  have hf := g_f hs1 hf
  by_cases hs2 : x1 = 1
  · have hf := g_t hs2 hf
    refine lv_tableIn (off := 35) (tgt := 47) hx hb dX10_downwind_12 (by rw [hs2]; decide) (by rw [hs2]; decide) (by rw [hs2] <;> rfl) (by decide) ?_
    refine lv_iload hx hb dX10_downwind_47 (lv_at hl 0 rfl) ?_
    refine lv_iload_n hx hb dX10_downwind_49 rfl (lv_at hl 4 rfl) ?_
    refine lv_iadd hx hb dX10_downwind_50 ?_
    refine lv_istore (lv' := [(4, .int ((x0 % 6) + x2)), (3, .int (x0 / 6)), (0, .int x0), (1, .int x1), (2, .int x2)]) hx hb dX10_downwind_51 hl (Nat.le_of_ble_eq_true rfl) rfl (fun ls hl => ?_)
    refine lv_goto (tgt := 69) hx hb dX10_downwind_53 (by decide) ?_
    exact B69 (x0 / 6) ((x0 % 6) + x2) _ _ _ hf hw (lv_sub hl [1, 0] rfl)
  have hf := g_f hs2 hf
  by_cases hs3 : x1 = 2
  · have hf := g_t hs3 hf
    refine lv_tableIn (off := 44) (tgt := 56) hx hb dX10_downwind_12 (by rw [hs3]; decide) (by rw [hs3]; decide) (by rw [hs3] <;> rfl) (by decide) ?_
    refine lv_iload_n hx hb dX10_downwind_56 rfl (lv_at hl 1 rfl) ?_
    refine lv_iload_n hx hb dX10_downwind_57 rfl (lv_at hl 4 rfl) ?_
    refine lv_isub hx hb dX10_downwind_58 ?_
    refine lv_istore_n (lv' := [(3, .int ((x0 / 6) - x2)), (4, .int (x0 % 6)), (0, .int x0), (1, .int x1), (2, .int x2)]) hx hb dX10_downwind_59 rfl hl (Nat.le_of_ble_eq_true rfl) rfl (fun ls hl => ?_)
    refine lv_goto (tgt := 69) hx hb dX10_downwind_60 (by decide) ?_
    exact B69 ((x0 / 6) - x2) (x0 % 6) _ _ _ hf hw (lv_sub hl [0, 1] rfl)
  have hf := g_f hs3 hf
  have nhs1 := lv_neT hs1 (show (0 : Int32).toInt = 0 from by decide)
  have nhs2 := lv_neT hs2 (show (1 : Int32).toInt = 1 from by decide)
  have nhs3 := lv_neT hs3 (show (2 : Int32).toInt = 2 from by decide)
  refine lv_tableOut (tgt := 63) hx hb dX10_downwind_12 (by omega) (by decide) ?_
  refine lv_iload hx hb dX10_downwind_63 (lv_at hl 0 rfl) ?_
  refine lv_iload_n hx hb dX10_downwind_65 rfl (lv_at hl 4 rfl) ?_
  refine lv_isub hx hb dX10_downwind_66 ?_
  refine lv_istore (lv' := [(4, .int ((x0 % 6) - x2)), (3, .int (x0 / 6)), (0, .int x0), (1, .int x1), (2, .int x2)]) hx hb dX10_downwind_67 hl (Nat.le_of_ble_eq_true rfl) rfl (fun ls hl => ?_)
  exact B69 (x0 / 6) ((x0 % 6) - x2) _ _ _ hf hw (lv_sub hl [1, 0] rfl)
theorem hX6_familyAt : yX6_familyAt.cls = RX6 ∧ yX6_familyAt.cls ≠ "java/lang/invoke/MethodHandle" ∧ yX6_familyAt.cls ≠ "java/lang/invoke/VarHandle" ∧ (parseMethodDescriptor yX6_familyAt.desc).map (fun d => d.parameters.length) = some 1 := by decide +kernel
set_option maxHeartbeats 4000000 in
set_option maxRecDepth 100000 in
theorem mX6_familyAt (l : Launch) (E : gE) (o_t : Nat) (a_t : (Nat → Nat)) (v_t_families : Int32) (v_t_wind : Int32) (v_t_force : Int32) (v_t_rain : Int32) (v_t_lost : Int32) (v_t_hour : Int32) (f_t_home : (Nat → Int32)) (x1 : Int32) (rv : Int32) (hf : fX6_familyAt v_t_families f_t_home x1 = some rv) {sz : Nat} : gMi l yX6_familyAt (gW yX6_familyAt cX6_familyAt 3 (some .int)) ({ frames := 0, cells := 0, slots := 0, locals := 0 } : Room) E [.ref o_t, .int x1] (wX6_familyAt E o_t a_t v_t_families v_t_wind v_t_force v_t_rain v_t_lost v_t_hour f_t_home) sz rv (wX6_familyAt E o_t a_t v_t_families v_t_wind v_t_force v_t_rain v_t_lost v_t_hour f_t_home) := by
  refine g_openI (own := RX6) (by decide) rfl (Nat.le_of_ble_eq_true rfl) (fun p e s m args below meth cd Q A hx hb hml hown hG hK hA hret hw ls hl => ?_)
  have hl : lv_has ls 3 [(0, .ref o_t), (1, .int x1)] := hl
  have hret1 : ∀ (v : Int32)  (H : Heap) (locs : List Loc) (pc : Nat) (ls : Array Slot), some v = some rv → gS E A s.heap (wX6_familyAt E o_t a_t v_t_families v_t_wind v_t_force v_t_rain v_t_lost v_t_hour f_t_home) H locs → decode cX6_familyAt pc = .ok (.ireturn, 1) → W p l e ({ frames := 0, cells := 0, slots := 0, locals := 0 } : Room) s m args below meth cd H locs 0 0 Q (F0 m pc ls [.int v]) := by
    intro v  H locs pc ls h hw hd
    cases h
    exact hret H locs pc ls hw hd
  have B31 : ∀ (K2 : Int32 → Int32 → Option (Int32)) (hK2 : ∀ (x1 : Int32) (x2 : Int32) (H : Heap) (locs : List Loc) (ls : Array Slot), K2 x1 x2 = some rv → gS E A s.heap (wX6_familyAt E o_t a_t v_t_families v_t_wind v_t_force v_t_rain v_t_lost v_t_hour f_t_home) H locs → lv_has ls 3 [(0, .ref o_t), (1, .int x1), (2, .int x2)] → W p l e ({ frames := 0, cells := 0, slots := 0, locals := 0 } : Room) s m args below meth cd H locs 0 0 Q (F0 m 2 ls [])), ∀ (x1 : Int32) (x2 : Int32) (H : Heap) (locs : List Loc) (ls : Array Slot), fX6_familyAt_b31 K2 v_t_families f_t_home x1 x2 = some rv → gS E A s.heap (wX6_familyAt E o_t a_t v_t_families v_t_wind v_t_force v_t_rain v_t_lost v_t_hour f_t_home) H locs → lv_has ls 3 [(0, .ref o_t), (1, .int x1), (2, .int x2)] → W p l e ({ frames := 0, cells := 0, slots := 0, locals := 0 } : Room) s m args below meth cd H locs 0 0 Q (F0 m 31 ls []) := by
    intro K2 hK2 x1 x2 H locs ls hf hw hl
    refine lv_iinc (lv' := [(2, .int (x2 + 1)), (0, .ref o_t), (1, .int x1)]) hx hb dX6_familyAt_31 hl (k := 2) rfl (k_inc1 _) (Nat.le_of_ble_eq_true rfl) rfl (fun ls hl => ?_)
    refine lv_goto (tgt := 2) hx hb dX6_familyAt_34 (by decide) ?_
    exact hK2 x1 (x2 + 1) _ _ _ hf hw (lv_sub hl [1, 2, 0] rfl)
  have B2 : ∀ n : Nat, ∀ (x1 : Int32) (x2 : Int32) (H : Heap) (locs : List Loc) (ls : Array Slot), fX6_familyAt_b2 v_t_families f_t_home n x1 x2 = some rv → gS E A s.heap (wX6_familyAt E o_t a_t v_t_families v_t_wind v_t_force v_t_rain v_t_lost v_t_hour f_t_home) H locs → lv_has ls 3 [(0, .ref o_t), (1, .int x1), (2, .int x2)] → W p l e ({ frames := 0, cells := 0, slots := 0, locals := 0 } : Room) s m args below meth cd H locs 0 0 Q (F0 m 2 ls []) := by
    intro n
    induction n with
    | zero => intro x1 x2 H locs ls hf hw hl; exact g_no hf
    | succ n ih =>
      intro x1 x2 H locs ls hf hw hl
      refine lv_iload_n hx hb dX6_familyAt_2 rfl (lv_at hl 2 rfl) ?_
      refine lv_bipush (v := 6) hx hb dX6_familyAt_3 k_b6 ?_
      refine lv_icmp_ge (tgt := 37) hx hb dX6_familyAt_5 (by decide) (fun hc => ?_) (fun hc => ?_)
      · have hf := g_t hc hf
        refine lv_iconst (v := -1) hx hb dX6_familyAt_37 k_im1 ?_
        exact hret1 (-1) _ _ _ _ hf hw dX6_familyAt_38
      · have hf := g_f hc hf
        refine lv_aload_n hx hb dX6_familyAt_8 rfl (lv_at hl 0 rfl) ?_
        refine g_get hx hb hG hown hK hw inlX6 (ci := 5) rfl 0 5 (Nat.le_of_ble_eq_true rfl) rfl rfl wd_3_11 dX6_familyAt_9 ?_
        refine lv_iconst (v := 1) hx hb dX6_familyAt_12 k_i1 ?_
        refine lv_iload_n hx hb dX6_familyAt_13 rfl (lv_at hl 2 rfl) ?_
        refine lv_ishl hx hb dX6_familyAt_14 ?_
        refine lv_iand hx hb dX6_familyAt_15 ?_
        refine lv_if_eq (tgt := 31) hx hb dX6_familyAt_16 (by decide) (fun hc => ?_) (fun hc => ?_)
        · have hf := g_t hc hf
          exact B31 (fX6_familyAt_b2 v_t_families f_t_home n) ih x1 x2 _ _ _ hf hw (lv_sub hl [0, 1, 2] rfl)
        · have hf := g_f hc hf
          refine lv_aload_n hx hb dX6_familyAt_19 rfl (lv_at hl 0 rfl) ?_
          refine g_get hx hb hG hown hK hw inlX6 (ci := 5) rfl 0 0 (Nat.le_of_ble_eq_true rfl) rfl rfl wd_3_6 dX6_familyAt_20 ?_
          refine lv_iload_n hx hb dX6_familyAt_23 rfl (lv_at hl 2 rfl) ?_
          obtain ⟨hi1, hf⟩ := gA_s hf
          refine g_iald hx hb hK hw 1 rfl hi1 dX6_familyAt_24 ?_
          refine lv_iload_n hx hb dX6_familyAt_25 rfl (lv_at hl 1 rfl) ?_
          refine lv_icmp_ne (tgt := 31) hx hb dX6_familyAt_26 (by decide) (fun hc => ?_) (fun hc => ?_)
          · have hf := g_f hc hf
            exact B31 (fX6_familyAt_b2 v_t_families f_t_home n) ih x1 x2 _ _ _ hf hw (lv_sub hl [0, 1, 2] rfl)
          · have hf := g_t hc hf
            refine lv_iload_n hx hb dX6_familyAt_29 rfl (lv_at hl 2 rfl) ?_
            exact hret1 x2 _ _ _ _ hf hw dX6_familyAt_30
  refine lv_iconst (v := 0) hx hb dX6_familyAt_0 k_i0 ?_
  refine lv_istore_n (lv' := [(2, .int 0), (0, .ref o_t), (1, .int x1)]) hx hb dX6_familyAt_1 rfl hl (Nat.le_of_ble_eq_true rfl) rfl (fun ls hl => ?_)
  exact B2 1000 x1 0 _ _ _ hf hw (lv_sub hl [1, 2, 0] rfl)
theorem hX6_lieDown : yX6_lieDown.cls = RX6 ∧ yX6_lieDown.cls ≠ "java/lang/invoke/MethodHandle" ∧ yX6_lieDown.cls ≠ "java/lang/invoke/VarHandle" ∧ (parseMethodDescriptor yX6_lieDown.desc).map (fun d => d.parameters.length) = some 2 := by decide +kernel
set_option maxHeartbeats 4000000 in
set_option maxRecDepth 100000 in
theorem mX6_lieDown (l : Launch) (E : gE) (o_t : Nat) (a_t : (Nat → Nat)) (v_t_families : Int32) (v_t_wind : Int32) (v_t_force : Int32) (v_t_rain : Int32) (v_t_lost : Int32) (v_t_hour : Int32) (f_t_ground : (Nat → Int32)) (x1 : Int32) (x2 : Int32) (z_t_lost : Int32) (z_t_ground : (Nat → Int32)) (hf : fX6_lieDown v_t_lost f_t_ground x1 x2 = some (z_t_lost, z_t_ground)) {sz : Nat} : gMv l yX6_lieDown (gW yX6_lieDown cX6_lieDown 5 none) ({ frames := 0, cells := 0, slots := 0, locals := 0 } : Room) E [.ref o_t, .int x1, .int x2] (wX6_lieDown E o_t a_t v_t_families v_t_wind v_t_force v_t_rain v_t_lost v_t_hour f_t_ground) sz (wX6_lieDown E o_t a_t v_t_families v_t_wind v_t_force v_t_rain z_t_lost v_t_hour z_t_ground) := by
  refine g_openV (own := RX6) (by decide) rfl (Nat.le_of_ble_eq_true rfl) (fun p e s m args below meth cd Q A hx hb hml hown hG hK hA hret hw ls hl => ?_)
  have hl : lv_has ls 5 [(0, .ref o_t), (1, .int x1), (2, .int x2)] := hl
  have hret1 : ∀ (v_t_lost : Int32) (f_t_ground : (Nat → Int32)) (H : Heap) (locs : List Loc) (pc : Nat) (ls : Array Slot), some (v_t_lost, f_t_ground) = some (z_t_lost, z_t_ground) → gS E A s.heap (wX6_lieDown E o_t a_t v_t_families v_t_wind v_t_force v_t_rain v_t_lost v_t_hour f_t_ground) H locs → decode cX6_lieDown pc = .ok (.return_, 1) → W p l e ({ frames := 0, cells := 0, slots := 0, locals := 0 } : Room) s m args below meth cd H locs 0 0 Q (F0 m pc ls []) := by
    intro v_t_lost f_t_ground H locs pc ls h hw hd
    cases h
    exact hret H locs pc ls hw hd
  have B10 : ∀ (v_t_lost : Int32) (f_t_ground : (Nat → Int32)) (x2 : Int32) (H : Heap) (locs : List Loc) (ls : Array Slot), fX6_lieDown_b10 v_t_lost f_t_ground x2 = some (z_t_lost, z_t_ground) → gS E A s.heap (wX6_lieDown E o_t a_t v_t_families v_t_wind v_t_force v_t_rain v_t_lost v_t_hour f_t_ground) H locs → lv_has ls 5 [(0, .ref o_t), (2, .int x2)] → W p l e ({ frames := 0, cells := 0, slots := 0, locals := 0 } : Room) s m args below meth cd H locs 0 0 Q (F0 m 10 ls []) := by
    intro  v_t_lost f_t_ground x2 H locs ls hf hw hl
    refine lv_aload_n hx hb dX6_lieDown_10 rfl (lv_at hl 0 rfl) ?_
    refine lv_dup hx hb dX6_lieDown_11 rfl ?_
    refine g_get hx hb hG hown hK hw inlX6 (ci := 5) rfl 0 9 (Nat.le_of_ble_eq_true rfl) rfl rfl wd_3_15 dX6_lieDown_12 ?_
    refine lv_iload_n hx hb dX6_lieDown_15 rfl (lv_at hl 1 rfl) ?_
    refine lv_iadd hx hb dX6_lieDown_16 ?_
    refine g_put (ws' := (wX6_lieDown E o_t a_t v_t_families v_t_wind v_t_force v_t_rain (v_t_lost + x2) v_t_hour f_t_ground)) hx hb hG hown hK hw inlX6 tyX6_ok nmX6 (ci := 5) rfl 0 9 (Nat.le_of_ble_eq_true rfl) rfl wd_3_15 rfl rfl rfl (Nat.le_of_ble_eq_true rfl) rfl dX6_lieDown_17 (fun H locs hw => ?_)
    exact hret1 (v_t_lost + x2) f_t_ground _ _ _ _ hf hw dX6_lieDown_20
  have B46 : ∀ (v_t_lost : Int32) (f_t_ground : (Nat → Int32)) (x1 : Int32) (x3 : Int32) (s0 : Int32) (H : Heap) (locs : List Loc) (ls : Array Slot), fX6_lieDown_b46 v_t_lost f_t_ground x1 x3 s0 = some (z_t_lost, z_t_ground) → gS E A s.heap (wX6_lieDown E o_t a_t v_t_families v_t_wind v_t_force v_t_rain v_t_lost v_t_hour f_t_ground) H locs → lv_has ls 5 [(0, .ref o_t), (1, .int x1), (3, .int x3)] → W p l e ({ frames := 0, cells := 0, slots := 0, locals := 0 } : Room) s m args below meth cd H locs 0 0 Q (F0 m 46 ls [.int s0]) := by
    intro  v_t_lost f_t_ground x1 x3 s0 H locs ls hf hw hl
    refine lv_istore (lv' := [(4, .int s0), (0, .ref o_t), (1, .int x1), (3, .int x3)]) hx hb dX6_lieDown_46 hl (Nat.le_of_ble_eq_true rfl) rfl (fun ls hl => ?_)
    refine lv_aload_n hx hb dX6_lieDown_48 rfl (lv_at hl 1 rfl) ?_
    refine g_get hx hb hG hown hK hw inlX6 (ci := 5) rfl 0 4 (Nat.le_of_ble_eq_true rfl) rfl rfl wd_3_10 dX6_lieDown_49 ?_
    refine lv_iload_n hx hb dX6_lieDown_52 rfl (lv_at hl 2 rfl) ?_
    refine lv_iload_n hx hb dX6_lieDown_53 rfl (lv_at hl 3 rfl) ?_
    refine lv_iload hx hb dX6_lieDown_54 (lv_at hl 0 rfl) ?_
    refine lv_isub hx hb dX6_lieDown_56 ?_
    obtain ⟨hi1, hf⟩ := gA_s hf
    refine g_iast (ws' := (wX6_lieDown E o_t a_t v_t_families v_t_wind v_t_force v_t_rain v_t_lost v_t_hour (upd f_t_ground (Int32.toNatClampNeg x1) (x3 - s0)))) hx hb hK hw 1 rfl hi1 rfl dX6_lieDown_57 (fun H locs hw => ?_)
    refine lv_aload_n hx hb dX6_lieDown_58 rfl (lv_at hl 1 rfl) ?_
    refine lv_dup hx hb dX6_lieDown_59 rfl ?_
    refine g_get hx hb hG hown hK hw inlX6 (ci := 5) rfl 0 9 (Nat.le_of_ble_eq_true rfl) rfl rfl wd_3_15 dX6_lieDown_60 ?_
    refine lv_iload hx hb dX6_lieDown_63 (lv_at hl 0 rfl) ?_
    refine lv_iadd hx hb dX6_lieDown_65 ?_
    refine g_put (ws' := (wX6_lieDown E o_t a_t v_t_families v_t_wind v_t_force v_t_rain (v_t_lost + s0) v_t_hour (upd f_t_ground (Int32.toNatClampNeg x1) (x3 - s0)))) hx hb hG hown hK hw inlX6 tyX6_ok nmX6 (ci := 5) rfl 0 9 (Nat.le_of_ble_eq_true rfl) rfl wd_3_15 rfl rfl rfl (Nat.le_of_ble_eq_true rfl) rfl dX6_lieDown_66 (fun H locs hw => ?_)
    exact hret1 (v_t_lost + s0) (upd f_t_ground (Int32.toNatClampNeg x1) (x3 - s0)) _ _ _ _ hf hw dX6_lieDown_69
  refine lv_iload_n hx hb dX6_lieDown_0 rfl (lv_at hl 1 rfl) ?_
  refine lv_if_lt (tgt := 10) hx hb dX6_lieDown_1 (by decide) (fun hc => ?_) (fun hc => ?_)
  · have hf := g_t hc hf
    exact B10 v_t_lost f_t_ground x2 _ _ _ hf hw (lv_sub hl [0, 2] rfl)
  · have hf := g_f hc hf
    refine lv_iload_n hx hb dX6_lieDown_4 rfl (lv_at hl 1 rfl) ?_
    refine lv_bipush (v := 36) hx hb dX6_lieDown_5 k_b36 ?_
    refine lv_icmp_lt (tgt := 21) hx hb dX6_lieDown_7 (by decide) (fun hc => ?_) (fun hc => ?_)
    · have hf := g_t hc hf
      refine lv_aload_n hx hb dX6_lieDown_21 rfl (lv_at hl 0 rfl) ?_
      refine g_get hx hb hG hown hK hw inlX6 (ci := 5) rfl 0 4 (Nat.le_of_ble_eq_true rfl) rfl rfl wd_3_10 dX6_lieDown_22 ?_
      refine lv_iload_n hx hb dX6_lieDown_25 rfl (lv_at hl 1 rfl) ?_
      obtain ⟨hi2, hf⟩ := gA_s hf
      refine g_iald hx hb hK hw 1 rfl hi2 dX6_lieDown_26 ?_
      refine lv_iload_n hx hb dX6_lieDown_27 rfl (lv_at hl 2 rfl) ?_
      refine lv_iadd hx hb dX6_lieDown_28 ?_
      refine lv_istore_n (lv' := [(3, .int ((f_t_ground (Int32.toNatClampNeg x1)) + x2)), (0, .ref o_t), (1, .int x1), (2, .int x2)]) hx hb dX6_lieDown_29 rfl hl (Nat.le_of_ble_eq_true rfl) rfl (fun ls hl => ?_)
      refine lv_iload_n hx hb dX6_lieDown_30 rfl (lv_at hl 0 rfl) ?_
      refine lv_sipush (v := 999) hx hb dX6_lieDown_31 k_s999 ?_
      refine lv_icmp_le (tgt := 45) hx hb dX6_lieDown_34 (by decide) (fun hc => ?_) (fun hc => ?_)
      · have hf := g_t hc hf
        refine lv_iconst (v := 0) hx hb dX6_lieDown_45 k_i0 ?_
        exact B46 v_t_lost f_t_ground x1 ((f_t_ground (Int32.toNatClampNeg x1)) + x2) 0 _ _ _ hf hw (lv_sub hl [1, 2, 0] rfl)
      · have hf := g_f hc hf
        refine lv_iload_n hx hb dX6_lieDown_37 rfl (lv_at hl 0 rfl) ?_
        refine lv_sipush (v := 999) hx hb dX6_lieDown_38 k_s999 ?_
        refine lv_isub hx hb dX6_lieDown_41 ?_
        refine lv_goto (tgt := 46) hx hb dX6_lieDown_42 (by decide) ?_
        exact B46 v_t_lost f_t_ground x1 ((f_t_ground (Int32.toNatClampNeg x1)) + x2) (((f_t_ground (Int32.toNatClampNeg x1)) + x2) - 999) _ _ _ hf hw (lv_sub hl [1, 2, 0] rfl)
    · have hf := g_f hc hf
      exact B10 v_t_lost f_t_ground x2 _ _ _ hf hw (lv_sub hl [0, 2] rfl)
theorem hX6_arrive : yX6_arrive.cls = RX6 ∧ yX6_arrive.cls ≠ "java/lang/invoke/MethodHandle" ∧ yX6_arrive.cls ≠ "java/lang/invoke/VarHandle" ∧ (parseMethodDescriptor yX6_arrive.desc).map (fun d => d.parameters.length) = some 2 := by decide +kernel
set_option maxHeartbeats 4000000 in
set_option maxRecDepth 100000 in
theorem mX6_arrive (l : Launch) (E : gE) (o_t : Nat) (a_t : (Nat → Nat)) (v_t_families : Int32) (v_t_wind : Int32) (v_t_force : Int32) (v_t_rain : Int32) (v_t_lost : Int32) (v_t_hour : Int32) (f_t_home : (Nat → Int32)) (f_t_seeds : (Nat → Int32)) (f_t_ground : (Nat → Int32)) (x1 : Int32) (x2 : Int32) (z_t_lost : Int32) (z_t_seeds : (Nat → Int32)) (z_t_ground : (Nat → Int32)) (hf : fX6_arrive v_t_families v_t_lost f_t_home f_t_seeds f_t_ground x1 x2 = some (z_t_lost, z_t_seeds, z_t_ground)) {sz : Nat} : gMv l yX6_arrive (gW yX6_arrive cX6_arrive 6 none) ({ frames := 1, cells := 0, slots := 0, locals := 24 } : Room) E [.ref o_t, .int x1, .int x2] (wX6_arrive E o_t a_t v_t_families v_t_wind v_t_force v_t_rain v_t_lost v_t_hour f_t_home f_t_seeds f_t_ground) sz (wX6_arrive E o_t a_t v_t_families v_t_wind v_t_force v_t_rain z_t_lost v_t_hour f_t_home z_t_seeds z_t_ground) := by
  refine g_openV (own := RX6) (by decide) rfl (Nat.le_of_ble_eq_true rfl) (fun p e s m args below meth cd Q A hx hb hml hown hG hK hA hret hw ls hl => ?_)
  have hl : lv_has ls 6 [(0, .ref o_t), (1, .int x1), (2, .int x2)] := hl
  have hret1 : ∀ (v_t_lost : Int32) (f_t_seeds : (Nat → Int32)) (f_t_ground : (Nat → Int32)) (H : Heap) (locs : List Loc) (pc : Nat) (ls : Array Slot), some (v_t_lost, f_t_seeds, f_t_ground) = some (z_t_lost, z_t_seeds, z_t_ground) → gS E A s.heap (wX6_arrive E o_t a_t v_t_families v_t_wind v_t_force v_t_rain v_t_lost v_t_hour f_t_home f_t_seeds f_t_ground) H locs → decode cX6_arrive pc = .ok (.return_, 1) → W p l e ({ frames := 1, cells := 0, slots := 0, locals := 24 } : Room) s m args below meth cd H locs 0 0 Q (F0 m pc ls []) := by
    intro v_t_lost f_t_seeds f_t_ground H locs pc ls h hw hd
    cases h
    exact hret H locs pc ls hw hd
  have B16 : ∀ (v_t_lost : Int32) (f_t_seeds : (Nat → Int32)) (f_t_ground : (Nat → Int32)) (x1 : Int32) (x2 : Int32) (H : Heap) (locs : List Loc) (ls : Array Slot), fX6_arrive_b16 v_t_lost f_t_seeds f_t_ground x1 x2 = some (z_t_lost, z_t_seeds, z_t_ground) → gS E A s.heap (wX6_arrive E o_t a_t v_t_families v_t_wind v_t_force v_t_rain v_t_lost v_t_hour f_t_home f_t_seeds f_t_ground) H locs → lv_has ls 6 [(0, .ref o_t), (1, .int x1), (2, .int x2)] → W p l e ({ frames := 1, cells := 0, slots := 0, locals := 24 } : Room) s m args below meth cd H locs 0 0 Q (F0 m 16 ls []) := by
    intro  v_t_lost f_t_seeds f_t_ground x1 x2 H locs ls hf hw hl
    refine lv_aload_n hx hb dX6_arrive_16 rfl (lv_at hl 0 rfl) ?_
    refine lv_iload_n hx hb dX6_arrive_17 rfl (lv_at hl 1 rfl) ?_
    refine lv_iload_n hx hb dX6_arrive_18 rfl (lv_at hl 2 rfl) ?_
    obtain ⟨r1, hc2, hf⟩ := gB_s hf
    refine g_kv (is := [0, 3]) (w1 := (wX6_lieDown E o_t a_t v_t_families v_t_wind v_t_force v_t_rain r1.1 v_t_hour r1.2)) (ws' := (wX6_arrive E o_t a_t v_t_families v_t_wind v_t_force v_t_rain r1.1 v_t_hour f_t_home f_t_seeds r1.2)) hw hA (g_rV hx hb hml hG hown hK hw (is := [0, 3]) rfl (by decide) (mX6_lieDown l E o_t a_t v_t_families v_t_wind v_t_force v_t_rain v_t_lost v_t_hour f_t_ground x1 x2 r1.1 r1.2 hc2) wd_9_17 wd_9_18 wd_9_19 wd_2_20 wd_9_20 hX6_lieDown g_allgood ⟨rfl, rfl⟩ ⟨Nat.le_of_ble_eq_true rfl, Nat.le_of_ble_eq_true rfl⟩ ⟨Nat.zero_le _, Nat.zero_le _⟩ (ci := 5) (q0 := 0) rfl rfl rfl rfl hl.1 rfl (Nat.le_of_ble_eq_true rfl) dX6_arrive_19) rfl rfl rfl (fun H locs hw => ?_)
    exact hret1 r1.1 f_t_seeds r1.2 _ _ _ _ hf hw dX6_arrive_22
  have B49 : ∀ (v_t_lost : Int32) (f_t_seeds : (Nat → Int32)) (f_t_ground : (Nat → Int32)) (x1 : Int32) (x3 : Int32) (x4 : Int32) (s0 : Int32) (H : Heap) (locs : List Loc) (ls : Array Slot), fX6_arrive_b49 v_t_lost f_t_seeds f_t_ground x1 x3 x4 s0 = some (z_t_lost, z_t_seeds, z_t_ground) → gS E A s.heap (wX6_arrive E o_t a_t v_t_families v_t_wind v_t_force v_t_rain v_t_lost v_t_hour f_t_home f_t_seeds f_t_ground) H locs → lv_has ls 6 [(0, .ref o_t), (1, .int x1), (3, .int x3), (4, .int x4)] → W p l e ({ frames := 1, cells := 0, slots := 0, locals := 24 } : Room) s m args below meth cd H locs 0 0 Q (F0 m 49 ls [.int s0]) := by
    intro  v_t_lost f_t_seeds f_t_ground x1 x3 x4 s0 H locs ls hf hw hl
    refine lv_istore (lv' := [(5, .int s0), (0, .ref o_t), (1, .int x1), (3, .int x3), (4, .int x4)]) hx hb dX6_arrive_49 hl (Nat.le_of_ble_eq_true rfl) rfl (fun ls hl => ?_)
    refine lv_aload_n hx hb dX6_arrive_51 rfl (lv_at hl 1 rfl) ?_
    refine g_get hx hb hG hown hK hw inlX6 (ci := 5) rfl 0 1 (Nat.le_of_ble_eq_true rfl) rfl rfl wd_3_7 dX6_arrive_52 ?_
    refine lv_iload_n hx hb dX6_arrive_55 rfl (lv_at hl 3 rfl) ?_
    refine lv_iload hx hb dX6_arrive_56 (lv_at hl 4 rfl) ?_
    refine lv_iload hx hb dX6_arrive_58 (lv_at hl 0 rfl) ?_
    refine lv_isub hx hb dX6_arrive_60 ?_
    obtain ⟨hi3, hf⟩ := gA_s hf
    refine g_iast (ws' := (wX6_arrive E o_t a_t v_t_families v_t_wind v_t_force v_t_rain v_t_lost v_t_hour f_t_home (upd f_t_seeds (Int32.toNatClampNeg x3) (x4 - s0)) f_t_ground)) hx hb hK hw 2 rfl hi3 rfl dX6_arrive_61 (fun H locs hw => ?_)
    refine lv_aload_n hx hb dX6_arrive_62 rfl (lv_at hl 1 rfl) ?_
    refine lv_iload_n hx hb dX6_arrive_63 rfl (lv_at hl 2 rfl) ?_
    refine lv_iload hx hb dX6_arrive_64 (lv_at hl 0 rfl) ?_
    obtain ⟨r4, hc5, hf⟩ := gB_s hf
    refine g_kv (is := [0, 3]) (w1 := (wX6_lieDown E o_t a_t v_t_families v_t_wind v_t_force v_t_rain r4.1 v_t_hour r4.2)) (ws' := (wX6_arrive E o_t a_t v_t_families v_t_wind v_t_force v_t_rain r4.1 v_t_hour f_t_home (upd f_t_seeds (Int32.toNatClampNeg x3) (x4 - s0)) r4.2)) hw hA (g_rV hx hb hml hG hown hK hw (is := [0, 3]) rfl (by decide) (mX6_lieDown l E o_t a_t v_t_families v_t_wind v_t_force v_t_rain v_t_lost v_t_hour f_t_ground x1 s0 r4.1 r4.2 hc5) wd_9_17 wd_9_18 wd_9_19 wd_2_20 wd_9_20 hX6_lieDown g_allgood ⟨rfl, rfl⟩ ⟨Nat.le_of_ble_eq_true rfl, Nat.le_of_ble_eq_true rfl⟩ ⟨Nat.zero_le _, Nat.zero_le _⟩ (ci := 5) (q0 := 0) rfl rfl rfl rfl hl.1 rfl (Nat.le_of_ble_eq_true rfl) dX6_arrive_66) rfl rfl rfl (fun H locs hw => ?_)
    exact hret1 r4.1 (upd f_t_seeds (Int32.toNatClampNeg x3) (x4 - s0)) r4.2 _ _ _ _ hf hw dX6_arrive_69
  refine lv_aload_n hx hb dX6_arrive_0 rfl (lv_at hl 0 rfl) ?_
  refine lv_iload_n hx hb dX6_arrive_1 rfl (lv_at hl 1 rfl) ?_
  obtain ⟨r6, hc7, hf⟩ := gB_s hf
  refine g_ki (is := [0, 1]) (w1 := (wX6_familyAt E o_t a_t v_t_families v_t_wind v_t_force v_t_rain v_t_lost v_t_hour f_t_home)) (ws' := (wX6_arrive E o_t a_t v_t_families v_t_wind v_t_force v_t_rain v_t_lost v_t_hour f_t_home f_t_seeds f_t_ground)) hw hA (g_rV hx hb hml hG hown hK hw (is := [0, 1]) rfl (by decide) (mX6_familyAt l E o_t a_t v_t_families v_t_wind v_t_force v_t_rain v_t_lost v_t_hour f_t_home x1 r6 hc7) wd_17_18 wd_7_8 wd_7_9 wd_2_20 wd_7_10 hX6_familyAt g_allgood ⟨rfl, rfl⟩ ⟨Nat.le_of_ble_eq_true rfl, Nat.le_of_ble_eq_true rfl⟩ ⟨Nat.zero_le _, Nat.zero_le _⟩ (ci := 5) (q0 := 0) rfl rfl rfl rfl hl.1 rfl (Nat.le_of_ble_eq_true rfl) dX6_arrive_2) rfl rfl rfl (fun H locs hw => ?_)
  refine lv_istore_n (lv' := [(3, .int r6), (0, .ref o_t), (1, .int x1), (2, .int x2)]) hx hb dX6_arrive_5 rfl hl (Nat.le_of_ble_eq_true rfl) rfl (fun ls hl => ?_)
  refine lv_iload_n hx hb dX6_arrive_6 rfl (lv_at hl 0 rfl) ?_
  refine lv_if_lt (tgt := 16) hx hb dX6_arrive_7 (by decide) (fun hc => ?_) (fun hc => ?_)
  · have hf := g_t hc hf
    exact B16 v_t_lost f_t_seeds f_t_ground x1 x2 _ _ _ hf hw (lv_sub hl [1, 2, 3] rfl)
  · have hf := g_f hc hf
    refine lv_iload_n hx hb dX6_arrive_10 rfl (lv_at hl 0 rfl) ?_
    refine lv_bipush (v := 6) hx hb dX6_arrive_11 k_b6 ?_
    refine lv_icmp_lt (tgt := 23) hx hb dX6_arrive_13 (by decide) (fun hc => ?_) (fun hc => ?_)
    · have hf := g_t hc hf
      refine lv_aload_n hx hb dX6_arrive_23 rfl (lv_at hl 1 rfl) ?_
      refine g_get hx hb hG hown hK hw inlX6 (ci := 5) rfl 0 1 (Nat.le_of_ble_eq_true rfl) rfl rfl wd_3_7 dX6_arrive_24 ?_
      refine lv_iload_n hx hb dX6_arrive_27 rfl (lv_at hl 0 rfl) ?_
      obtain ⟨hi8, hf⟩ := gA_s hf
      refine g_iald hx hb hK hw 2 rfl hi8 dX6_arrive_28 ?_
      refine lv_iload_n hx hb dX6_arrive_29 rfl (lv_at hl 3 rfl) ?_
      refine lv_iadd hx hb dX6_arrive_30 ?_
      refine lv_istore (lv' := [(4, .int ((f_t_seeds (Int32.toNatClampNeg r6)) + x2)), (3, .int r6), (0, .ref o_t), (1, .int x1), (2, .int x2)]) hx hb dX6_arrive_31 hl (Nat.le_of_ble_eq_true rfl) rfl (fun ls hl => ?_)
      refine lv_iload hx hb dX6_arrive_33 (lv_at hl 0 rfl) ?_
      refine lv_bipush (v := 60) hx hb dX6_arrive_35 k_b60 ?_
      refine lv_icmp_le (tgt := 48) hx hb dX6_arrive_37 (by decide) (fun hc => ?_) (fun hc => ?_)
      · have hf := g_t hc hf
        refine lv_iconst (v := 0) hx hb dX6_arrive_48 k_i0 ?_
        exact B49 v_t_lost f_t_seeds f_t_ground x1 r6 ((f_t_seeds (Int32.toNatClampNeg r6)) + x2) 0 _ _ _ hf hw (lv_sub hl [2, 3, 1, 0] rfl)
      · have hf := g_f hc hf
        refine lv_iload hx hb dX6_arrive_40 (lv_at hl 0 rfl) ?_
        refine lv_bipush (v := 60) hx hb dX6_arrive_42 k_b60 ?_
        refine lv_isub hx hb dX6_arrive_44 ?_
        refine lv_goto (tgt := 49) hx hb dX6_arrive_45 (by decide) ?_
        exact B49 v_t_lost f_t_seeds f_t_ground x1 r6 ((f_t_seeds (Int32.toNatClampNeg r6)) + x2) (((f_t_seeds (Int32.toNatClampNeg r6)) + x2) - 60) _ _ _ hf hw (lv_sub hl [2, 3, 1, 0] rfl)
    · have hf := g_f hc hf
      exact B16 v_t_lost f_t_seeds f_t_ground x1 x2 _ _ _ hf hw (lv_sub hl [1, 2, 3] rfl)
theorem hX6_cough : yX6_cough.cls = RX6 ∧ yX6_cough.cls ≠ "java/lang/invoke/MethodHandle" ∧ yX6_cough.cls ≠ "java/lang/invoke/VarHandle" ∧ (parseMethodDescriptor yX6_cough.desc).map (fun d => d.parameters.length) = some 1 := by decide +kernel
set_option maxHeartbeats 4000000 in
set_option maxRecDepth 100000 in
theorem mX6_cough (l : Launch) (E : gE) (o_t : Nat) (a_t : (Nat → Nat)) (v_t_families : Int32) (v_t_wind : Int32) (v_t_force : Int32) (v_t_rain : Int32) (v_t_lost : Int32) (v_t_hour : Int32) (f_t_home : (Nat → Int32)) (f_t_seeds : (Nat → Int32)) (f_t_ground : (Nat → Int32)) (x1 : Int32) (z_t_lost : Int32) (z_t_seeds : (Nat → Int32)) (z_t_ground : (Nat → Int32)) (hf : fX6_cough v_t_families v_t_wind v_t_force v_t_lost f_t_home f_t_seeds f_t_ground x1 = some (z_t_lost, z_t_seeds, z_t_ground)) {sz : Nat} : gMv l yX6_cough (gW yX6_cough cX6_cough 3 none) ({ frames := 2, cells := 0, slots := 0, locals := 49 } : Room) E [.ref o_t, .int x1] (wX6_cough E o_t a_t v_t_families v_t_wind v_t_force v_t_rain v_t_lost v_t_hour f_t_home f_t_seeds f_t_ground) sz (wX6_cough E o_t a_t v_t_families v_t_wind v_t_force v_t_rain z_t_lost v_t_hour f_t_home z_t_seeds z_t_ground) := by
  refine g_openV (own := RX6) (by decide) rfl (Nat.le_of_ble_eq_true rfl) (fun p e s m args below meth cd Q A hx hb hml hown hG hK hA hret hw ls hl => ?_)
  have hl : lv_has ls 3 [(0, .ref o_t), (1, .int x1)] := hl
  have hret1 : ∀ (v_t_lost : Int32) (f_t_seeds : (Nat → Int32)) (f_t_ground : (Nat → Int32)) (H : Heap) (locs : List Loc) (pc : Nat) (ls : Array Slot), some (v_t_lost, f_t_seeds, f_t_ground) = some (z_t_lost, z_t_seeds, z_t_ground) → gS E A s.heap (wX6_cough E o_t a_t v_t_families v_t_wind v_t_force v_t_rain v_t_lost v_t_hour f_t_home f_t_seeds f_t_ground) H locs → decode cX6_cough pc = .ok (.return_, 1) → W p l e ({ frames := 2, cells := 0, slots := 0, locals := 49 } : Room) s m args below meth cd H locs 0 0 Q (F0 m pc ls []) := by
    intro v_t_lost f_t_seeds f_t_ground H locs pc ls h hw hd
    cases h
    exact hret H locs pc ls hw hd
  have B44 : ∀ (v_t_lost : Int32) (f_t_seeds : (Nat → Int32)) (f_t_ground : (Nat → Int32)) (H : Heap) (locs : List Loc) (ls : Array Slot), fX6_cough_b44 v_t_lost f_t_seeds f_t_ground = some (z_t_lost, z_t_seeds, z_t_ground) → gS E A s.heap (wX6_cough E o_t a_t v_t_families v_t_wind v_t_force v_t_rain v_t_lost v_t_hour f_t_home f_t_seeds f_t_ground) H locs → lv_has ls 3 [] → W p l e ({ frames := 2, cells := 0, slots := 0, locals := 49 } : Room) s m args below meth cd H locs 0 0 Q (F0 m 44 ls []) := by
    intro  v_t_lost f_t_seeds f_t_ground H locs ls hf hw hl
    exact hret1 v_t_lost f_t_seeds f_t_ground _ _ _ _ hf hw dX6_cough_44
  refine lv_aload_n hx hb dX6_cough_0 rfl (lv_at hl 0 rfl) ?_
  refine lv_iload_n hx hb dX6_cough_1 rfl (lv_at hl 1 rfl) ?_
  obtain ⟨r1, hc2, hf⟩ := gB_s hf
  refine g_ki (is := [0]) (w1 := (wX6_isThere E o_t a_t v_t_families v_t_wind v_t_force v_t_rain v_t_lost v_t_hour)) (ws' := (wX6_cough E o_t a_t v_t_families v_t_wind v_t_force v_t_rain v_t_lost v_t_hour f_t_home f_t_seeds f_t_ground)) hw hA (g_rV hx hb hml hG hown hK hw (is := [0]) rfl (by decide) (mX6_isThere l E o_t a_t v_t_families v_t_wind v_t_force v_t_rain v_t_lost v_t_hour x1 r1 hc2) wd_9_16 wd_9_9 wd_9_10 wd_2_20 wd_9_11 hX6_isThere g_allgood ⟨rfl, rfl⟩ ⟨Nat.le_of_ble_eq_true rfl, Nat.le_of_ble_eq_true rfl⟩ ⟨Nat.zero_le _, Nat.zero_le _⟩ (ci := 5) (q0 := 0) rfl rfl rfl rfl hl.1 rfl (Nat.le_of_ble_eq_true rfl) dX6_cough_2) rfl rfl rfl (fun H locs hw => ?_)
  refine lv_if_eq (tgt := 44) hx hb dX6_cough_5 (by decide) (fun hc => ?_) (fun hc => ?_)
  · have hf := g_t hc hf
    exact B44 v_t_lost f_t_seeds f_t_ground _ _ _ hf hw (lv_sub hl [] rfl)
  · have hf := g_f hc hf
    refine lv_aload_n hx hb dX6_cough_8 rfl (lv_at hl 0 rfl) ?_
    refine g_get hx hb hG hown hK hw inlX6 (ci := 5) rfl 0 1 (Nat.le_of_ble_eq_true rfl) rfl rfl wd_3_7 dX6_cough_9 ?_
    refine lv_iload_n hx hb dX6_cough_12 rfl (lv_at hl 1 rfl) ?_
    obtain ⟨hi3, hf⟩ := gA_s hf
    refine g_iald hx hb hK hw 2 rfl hi3 dX6_cough_13 ?_
    refine lv_istore_n (lv' := [(2, .int (f_t_seeds (Int32.toNatClampNeg x1))), (0, .ref o_t), (1, .int x1)]) hx hb dX6_cough_14 rfl hl (Nat.le_of_ble_eq_true rfl) rfl (fun ls hl => ?_)
    refine lv_aload_n hx hb dX6_cough_15 rfl (lv_at hl 1 rfl) ?_
    refine g_get hx hb hG hown hK hw inlX6 (ci := 5) rfl 0 1 (Nat.le_of_ble_eq_true rfl) rfl rfl wd_3_7 dX6_cough_16 ?_
    refine lv_iload_n hx hb dX6_cough_19 rfl (lv_at hl 2 rfl) ?_
    refine lv_iconst (v := 0) hx hb dX6_cough_20 k_i0 ?_
    obtain ⟨hi4, hf⟩ := gA_s hf
    refine g_iast (ws' := (wX6_cough E o_t a_t v_t_families v_t_wind v_t_force v_t_rain v_t_lost v_t_hour f_t_home (upd f_t_seeds (Int32.toNatClampNeg x1) 0) f_t_ground)) hx hb hK hw 2 rfl hi4 rfl dX6_cough_21 (fun H locs hw => ?_)
    refine lv_aload_n hx hb dX6_cough_22 rfl (lv_at hl 1 rfl) ?_
    refine lv_aload_n hx hb dX6_cough_23 rfl (lv_at hl 1 rfl) ?_
    refine g_get hx hb hG hown hK hw inlX6 (ci := 5) rfl 0 0 (Nat.le_of_ble_eq_true rfl) rfl rfl wd_3_6 dX6_cough_24 ?_
    refine lv_iload_n hx hb dX6_cough_27 rfl (lv_at hl 2 rfl) ?_
    obtain ⟨hi5, hf⟩ := gA_s hf
    refine g_iald hx hb hK hw 1 rfl hi5 dX6_cough_28 ?_
    refine lv_aload_n hx hb dX6_cough_29 rfl (lv_at hl 1 rfl) ?_
    refine g_get hx hb hG hown hK hw inlX6 (ci := 5) rfl 0 6 (Nat.le_of_ble_eq_true rfl) rfl rfl wd_3_12 dX6_cough_30 ?_
    refine lv_aload_n hx hb dX6_cough_33 rfl (lv_at hl 1 rfl) ?_
    refine g_get hx hb hG hown hK hw inlX6 (ci := 5) rfl 0 7 (Nat.le_of_ble_eq_true rfl) rfl rfl wd_3_13 dX6_cough_34 ?_
    obtain ⟨r6, hc7, hf⟩ := gB_s hf
    refine g_ki (is := []) (w1 := (wX10_downwind E)) (ws' := (wX6_cough E o_t a_t v_t_families v_t_wind v_t_force v_t_rain v_t_lost v_t_hour f_t_home (upd f_t_seeds (Int32.toNatClampNeg x1) 0) f_t_ground)) hw hA (g_rN (host := "SeedBank") hx hb hml hG hown hK hw (is := []) rfl (by decide) (mX10_downwind l E (f_t_home (Int32.toNatClampNeg x1)) v_t_wind v_t_force r6 hc7) (List.mem_of_getElem? (i := 13) rfl) wd_17_12 wd_1_2 wd_17_13 hX10_downwind g_allgood ⟨rfl, rfl⟩ ⟨Nat.le_of_ble_eq_true rfl, Nat.le_of_ble_eq_true rfl⟩ ⟨Nat.zero_le _, Nat.zero_le _⟩ rfl hl.1 rfl (Nat.le_of_ble_eq_true rfl) dX6_cough_37) rfl rfl rfl (fun H locs hw => ?_)
    refine lv_iload_n hx hb dX6_cough_40 rfl (lv_at hl 0 rfl) ?_
    obtain ⟨r8, hc9, hf⟩ := gB_s hf
    refine g_kv (is := [0, 1, 2, 3]) (w1 := (wX6_arrive E o_t a_t v_t_families v_t_wind v_t_force v_t_rain r8.1 v_t_hour f_t_home r8.2.1 r8.2.2)) (ws' := (wX6_cough E o_t a_t v_t_families v_t_wind v_t_force v_t_rain r8.1 v_t_hour f_t_home r8.2.1 r8.2.2)) hw hA (g_rV hx hb hml hG hown hK hw (is := [0, 1, 2, 3]) rfl (by decide) (mX6_arrive l E o_t a_t v_t_families v_t_wind v_t_force v_t_rain v_t_lost v_t_hour f_t_home (upd f_t_seeds (Int32.toNatClampNeg x1) 0) f_t_ground r6 (f_t_seeds (Int32.toNatClampNeg x1)) r8.1 r8.2.1 r8.2.2 hc9) wd_17_14 wd_17_15 wd_17_16 wd_2_20 wd_17_17 hX6_arrive g_allgood ⟨rfl, rfl⟩ ⟨Nat.le_of_ble_eq_true rfl, Nat.le_of_ble_eq_true rfl⟩ ⟨Nat.zero_le _, Nat.zero_le _⟩ (ci := 5) (q0 := 0) rfl rfl rfl rfl hl.1 rfl (Nat.le_of_ble_eq_true rfl) dX6_cough_41) rfl rfl rfl (fun H locs hw => ?_)
    exact B44 r8.1 r8.2.1 r8.2.2 _ _ _ hf hw (lv_sub hl [] rfl)
theorem hX6_puff : yX6_puff.cls = RX6 ∧ yX6_puff.cls ≠ "java/lang/invoke/MethodHandle" ∧ yX6_puff.cls ≠ "java/lang/invoke/VarHandle" ∧ (parseMethodDescriptor yX6_puff.desc).map (fun d => d.parameters.length) = some 2 := by decide +kernel
set_option maxHeartbeats 4000000 in
set_option maxRecDepth 100000 in
theorem mX6_puff (l : Launch) (E : gE) (o_t : Nat) (a_t : (Nat → Nat)) (v_t_families : Int32) (v_t_wind : Int32) (v_t_force : Int32) (v_t_rain : Int32) (v_t_lost : Int32) (v_t_hour : Int32) (f_t_home : (Nat → Int32)) (f_t_seeds : (Nat → Int32)) (f_t_blown : (Nat → Int32)) (f_t_ground : (Nat → Int32)) (x1 : Int32) (x2 : Int32) (z_t_lost : Int32) (z_t_seeds : (Nat → Int32)) (z_t_blown : (Nat → Int32)) (z_t_ground : (Nat → Int32)) (hf : fX6_puff v_t_families v_t_wind v_t_force v_t_lost f_t_home f_t_seeds f_t_blown f_t_ground x1 x2 = some (z_t_lost, z_t_seeds, z_t_blown, z_t_ground)) {sz : Nat} : gMv l yX6_puff (gW yX6_puff cX6_puff 3 none) ({ frames := 2, cells := 0, slots := 0, locals := 49 } : Room) E [.ref o_t, .int x1, .int x2] (wX6_puff E o_t a_t v_t_families v_t_wind v_t_force v_t_rain v_t_lost v_t_hour f_t_home f_t_seeds f_t_blown f_t_ground) sz (wX6_puff E o_t a_t v_t_families v_t_wind v_t_force v_t_rain z_t_lost v_t_hour f_t_home z_t_seeds z_t_blown z_t_ground) := by
  refine g_openV (own := RX6) (by decide) rfl (Nat.le_of_ble_eq_true rfl) (fun p e s m args below meth cd Q A hx hb hml hown hG hK hA hret hw ls hl => ?_)
  have hl : lv_has ls 3 [(0, .ref o_t), (1, .int x1), (2, .int x2)] := hl
  have hret1 : ∀ (v_t_lost : Int32) (f_t_seeds : (Nat → Int32)) (f_t_blown : (Nat → Int32)) (f_t_ground : (Nat → Int32)) (H : Heap) (locs : List Loc) (pc : Nat) (ls : Array Slot), some (v_t_lost, f_t_seeds, f_t_blown, f_t_ground) = some (z_t_lost, z_t_seeds, z_t_blown, z_t_ground) → gS E A s.heap (wX6_puff E o_t a_t v_t_families v_t_wind v_t_force v_t_rain v_t_lost v_t_hour f_t_home f_t_seeds f_t_blown f_t_ground) H locs → decode cX6_puff pc = .ok (.return_, 1) → W p l e ({ frames := 2, cells := 0, slots := 0, locals := 49 } : Room) s m args below meth cd H locs 0 0 Q (F0 m pc ls []) := by
    intro v_t_lost f_t_seeds f_t_blown f_t_ground H locs pc ls h hw hd
    cases h
    exact hret H locs pc ls hw hd
  have B50 : ∀ (v_t_lost : Int32) (f_t_seeds : (Nat → Int32)) (f_t_blown : (Nat → Int32)) (f_t_ground : (Nat → Int32)) (H : Heap) (locs : List Loc) (ls : Array Slot), fX6_puff_b50 v_t_lost f_t_seeds f_t_blown f_t_ground = some (z_t_lost, z_t_seeds, z_t_blown, z_t_ground) → gS E A s.heap (wX6_puff E o_t a_t v_t_families v_t_wind v_t_force v_t_rain v_t_lost v_t_hour f_t_home f_t_seeds f_t_blown f_t_ground) H locs → lv_has ls 3 [] → W p l e ({ frames := 2, cells := 0, slots := 0, locals := 49 } : Room) s m args below meth cd H locs 0 0 Q (F0 m 50 ls []) := by
    intro  v_t_lost f_t_seeds f_t_blown f_t_ground H locs ls hf hw hl
    exact hret1 v_t_lost f_t_seeds f_t_blown f_t_ground _ _ _ _ hf hw dX6_puff_50
  refine lv_aload_n hx hb dX6_puff_0 rfl (lv_at hl 0 rfl) ?_
  refine lv_iload_n hx hb dX6_puff_1 rfl (lv_at hl 1 rfl) ?_
  obtain ⟨r1, hc2, hf⟩ := gB_s hf
  refine g_ki (is := [0]) (w1 := (wX6_isThere E o_t a_t v_t_families v_t_wind v_t_force v_t_rain v_t_lost v_t_hour)) (ws' := (wX6_puff E o_t a_t v_t_families v_t_wind v_t_force v_t_rain v_t_lost v_t_hour f_t_home f_t_seeds f_t_blown f_t_ground)) hw hA (g_rV hx hb hml hG hown hK hw (is := [0]) rfl (by decide) (mX6_isThere l E o_t a_t v_t_families v_t_wind v_t_force v_t_rain v_t_lost v_t_hour x1 r1 hc2) wd_9_16 wd_9_9 wd_9_10 wd_2_20 wd_9_11 hX6_isThere g_allgood ⟨rfl, rfl⟩ ⟨Nat.le_of_ble_eq_true rfl, Nat.le_of_ble_eq_true rfl⟩ ⟨Nat.zero_le _, Nat.zero_le _⟩ (ci := 5) (q0 := 0) rfl rfl rfl rfl hl.1 rfl (Nat.le_of_ble_eq_true rfl) dX6_puff_2) rfl rfl rfl (fun H locs hw => ?_)
  refine lv_if_eq (tgt := 50) hx hb dX6_puff_5 (by decide) (fun hc => ?_) (fun hc => ?_)
  · have hf := g_t hc hf
    exact B50 v_t_lost f_t_seeds f_t_blown f_t_ground _ _ _ hf hw (lv_sub hl [] rfl)
  · have hf := g_f hc hf
    refine lv_aload_n hx hb dX6_puff_8 rfl (lv_at hl 0 rfl) ?_
    refine g_get hx hb hG hown hK hw inlX6 (ci := 5) rfl 0 3 (Nat.le_of_ble_eq_true rfl) rfl rfl wd_3_9 dX6_puff_9 ?_
    refine lv_iload_n hx hb dX6_puff_12 rfl (lv_at hl 1 rfl) ?_
    refine lv_dup2_11 hx hb dX6_puff_13 rfl rfl ?_
    obtain ⟨hi3, hf⟩ := gA_s hf
    refine g_iald hx hb hK hw 3 rfl hi3 dX6_puff_14 ?_
    refine lv_iload_n hx hb dX6_puff_15 rfl (lv_at hl 2 rfl) ?_
    refine lv_iadd hx hb dX6_puff_16 ?_
    obtain ⟨hi4, hf⟩ := gA_s hf
    refine g_iast (ws' := (wX6_puff E o_t a_t v_t_families v_t_wind v_t_force v_t_rain v_t_lost v_t_hour f_t_home f_t_seeds (upd f_t_blown (Int32.toNatClampNeg x1) ((f_t_blown (Int32.toNatClampNeg x1)) + x2)) f_t_ground)) hx hb hK hw 3 rfl hi4 rfl dX6_puff_17 (fun H locs hw => ?_)
    refine lv_aload_n hx hb dX6_puff_18 rfl (lv_at hl 0 rfl) ?_
    refine g_get hx hb hG hown hK hw inlX6 (ci := 5) rfl 0 1 (Nat.le_of_ble_eq_true rfl) rfl rfl wd_3_7 dX6_puff_19 ?_
    refine lv_iload_n hx hb dX6_puff_22 rfl (lv_at hl 1 rfl) ?_
    refine lv_dup2_11 hx hb dX6_puff_23 rfl rfl ?_
    obtain ⟨hi5, hf⟩ := gA_s hf
    refine g_iald hx hb hK hw 2 rfl hi5 dX6_puff_24 ?_
    refine lv_iload_n hx hb dX6_puff_25 rfl (lv_at hl 2 rfl) ?_
    refine lv_isub hx hb dX6_puff_26 ?_
    obtain ⟨hi6, hf⟩ := gA_s hf
    refine g_iast (ws' := (wX6_puff E o_t a_t v_t_families v_t_wind v_t_force v_t_rain v_t_lost v_t_hour f_t_home (upd f_t_seeds (Int32.toNatClampNeg x1) ((f_t_seeds (Int32.toNatClampNeg x1)) - x2)) (upd f_t_blown (Int32.toNatClampNeg x1) ((f_t_blown (Int32.toNatClampNeg x1)) + x2)) f_t_ground)) hx hb hK hw 2 rfl hi6 rfl dX6_puff_27 (fun H locs hw => ?_)
    refine lv_aload_n hx hb dX6_puff_28 rfl (lv_at hl 0 rfl) ?_
    refine lv_aload_n hx hb dX6_puff_29 rfl (lv_at hl 0 rfl) ?_
    refine g_get hx hb hG hown hK hw inlX6 (ci := 5) rfl 0 0 (Nat.le_of_ble_eq_true rfl) rfl rfl wd_3_6 dX6_puff_30 ?_
    refine lv_iload_n hx hb dX6_puff_33 rfl (lv_at hl 1 rfl) ?_
    obtain ⟨hi7, hf⟩ := gA_s hf
    refine g_iald hx hb hK hw 1 rfl hi7 dX6_puff_34 ?_
    refine lv_aload_n hx hb dX6_puff_35 rfl (lv_at hl 0 rfl) ?_
    refine g_get hx hb hG hown hK hw inlX6 (ci := 5) rfl 0 6 (Nat.le_of_ble_eq_true rfl) rfl rfl wd_3_12 dX6_puff_36 ?_
    refine lv_aload_n hx hb dX6_puff_39 rfl (lv_at hl 0 rfl) ?_
    refine g_get hx hb hG hown hK hw inlX6 (ci := 5) rfl 0 7 (Nat.le_of_ble_eq_true rfl) rfl rfl wd_3_13 dX6_puff_40 ?_
    obtain ⟨r8, hc9, hf⟩ := gB_s hf
    refine g_ki (is := []) (w1 := (wX10_downwind E)) (ws' := (wX6_puff E o_t a_t v_t_families v_t_wind v_t_force v_t_rain v_t_lost v_t_hour f_t_home (upd f_t_seeds (Int32.toNatClampNeg x1) ((f_t_seeds (Int32.toNatClampNeg x1)) - x2)) (upd f_t_blown (Int32.toNatClampNeg x1) ((f_t_blown (Int32.toNatClampNeg x1)) + x2)) f_t_ground)) hw hA (g_rN (host := "SeedBank") hx hb hml hG hown hK hw (is := []) rfl (by decide) (mX10_downwind l E (f_t_home (Int32.toNatClampNeg x1)) v_t_wind v_t_force r8 hc9) (List.mem_of_getElem? (i := 13) rfl) wd_17_12 wd_1_2 wd_17_13 hX10_downwind g_allgood ⟨rfl, rfl⟩ ⟨Nat.le_of_ble_eq_true rfl, Nat.le_of_ble_eq_true rfl⟩ ⟨Nat.zero_le _, Nat.zero_le _⟩ rfl hl.1 rfl (Nat.le_of_ble_eq_true rfl) dX6_puff_43) rfl rfl rfl (fun H locs hw => ?_)
    refine lv_iload_n hx hb dX6_puff_46 rfl (lv_at hl 2 rfl) ?_
    obtain ⟨r10, hc11, hf⟩ := gB_s hf
    refine g_kv (is := [0, 1, 2, 4]) (w1 := (wX6_arrive E o_t a_t v_t_families v_t_wind v_t_force v_t_rain r10.1 v_t_hour f_t_home r10.2.1 r10.2.2)) (ws' := (wX6_puff E o_t a_t v_t_families v_t_wind v_t_force v_t_rain r10.1 v_t_hour f_t_home r10.2.1 (upd f_t_blown (Int32.toNatClampNeg x1) ((f_t_blown (Int32.toNatClampNeg x1)) + x2)) r10.2.2)) hw hA (g_rV hx hb hml hG hown hK hw (is := [0, 1, 2, 4]) rfl (by decide) (mX6_arrive l E o_t a_t v_t_families v_t_wind v_t_force v_t_rain v_t_lost v_t_hour f_t_home (upd f_t_seeds (Int32.toNatClampNeg x1) ((f_t_seeds (Int32.toNatClampNeg x1)) - x2)) f_t_ground r8 x2 r10.1 r10.2.1 r10.2.2 hc11) wd_17_14 wd_17_15 wd_17_16 wd_2_20 wd_17_17 hX6_arrive g_allgood ⟨rfl, rfl⟩ ⟨Nat.le_of_ble_eq_true rfl, Nat.le_of_ble_eq_true rfl⟩ ⟨Nat.zero_le _, Nat.zero_le _⟩ (ci := 5) (q0 := 0) rfl rfl rfl rfl hl.1 rfl (Nat.le_of_ble_eq_true rfl) dX6_puff_47) rfl rfl rfl (fun H locs hw => ?_)
    exact B50 r10.1 r10.2.1 (upd f_t_blown (Int32.toNatClampNeg x1) ((f_t_blown (Int32.toNatClampNeg x1)) + x2)) r10.2.2 _ _ _ hf hw (lv_sub hl [] rfl)
theorem hX0_carryOut : yX0_carryOut.cls ≠ "java/lang/invoke/MethodHandle" ∧ yX0_carryOut.cls ≠ "java/lang/invoke/VarHandle" ∧ (parseMethodDescriptor yX0_carryOut.desc).map (fun d => d.parameters.length) = some 4 := by decide +kernel
set_option maxHeartbeats 4000000 in
set_option maxRecDepth 100000 in
theorem mX0_carryOut (l : Launch) (E : gE) (o_p0 : Nat) (a_p0 : (Nat → Nat)) (v_p0_families : Int32) (v_p0_wind : Int32) (v_p0_force : Int32) (v_p0_rain : Int32) (v_p0_lost : Int32) (v_p0_hour : Int32) (f_p0_home : (Nat → Int32)) (f_p0_seeds : (Nat → Int32)) (f_p0_blown : (Nat → Int32)) (f_p0_ground : (Nat → Int32)) (x1 : Int32) (x2 : Int32) (x3 : Int32) (z_p0_wind : Int32) (z_p0_force : Int32) (z_p0_rain : Int32) (z_p0_lost : Int32) (z_p0_hour : Int32) (z_p0_seeds : (Nat → Int32)) (z_p0_blown : (Nat → Int32)) (z_p0_ground : (Nat → Int32)) (hf : fX0_carryOut v_p0_families v_p0_wind v_p0_force v_p0_rain v_p0_lost v_p0_hour f_p0_home f_p0_seeds f_p0_blown f_p0_ground x1 x2 x3 = some (z_p0_wind, z_p0_force, z_p0_rain, z_p0_lost, z_p0_hour, z_p0_seeds, z_p0_blown, z_p0_ground)) {sz : Nat} : gMv l yX0_carryOut (gW yX0_carryOut cX0_carryOut 4 none) ({ frames := 3, cells := 0, slots := 0, locals := 71 } : Room) E [.ref o_p0, .int x1, .int x2, .int x3] (wX0_carryOut E o_p0 a_p0 v_p0_families v_p0_wind v_p0_force v_p0_rain v_p0_lost v_p0_hour f_p0_home f_p0_seeds f_p0_blown f_p0_ground) sz (wX0_carryOut E o_p0 a_p0 v_p0_families z_p0_wind z_p0_force z_p0_rain z_p0_lost z_p0_hour f_p0_home z_p0_seeds z_p0_blown z_p0_ground) := by
  refine g_openV (own := RX0) (by decide) rfl (Nat.le_of_ble_eq_true rfl) (fun p e s m args below meth cd Q A hx hb hml hown hG hK hA hret hw ls hl => ?_)
  have hl : lv_has ls 4 [(0, .ref o_p0), (1, .int x1), (2, .int x2), (3, .int x3)] := hl
  have hret1 : ∀ (v_p0_wind : Int32) (v_p0_force : Int32) (v_p0_rain : Int32) (v_p0_lost : Int32) (v_p0_hour : Int32) (f_p0_seeds : (Nat → Int32)) (f_p0_blown : (Nat → Int32)) (f_p0_ground : (Nat → Int32)) (H : Heap) (locs : List Loc) (pc : Nat) (ls : Array Slot), some (v_p0_wind, v_p0_force, v_p0_rain, v_p0_lost, v_p0_hour, f_p0_seeds, f_p0_blown, f_p0_ground) = some (z_p0_wind, z_p0_force, z_p0_rain, z_p0_lost, z_p0_hour, z_p0_seeds, z_p0_blown, z_p0_ground) → gS E A s.heap (wX0_carryOut E o_p0 a_p0 v_p0_families v_p0_wind v_p0_force v_p0_rain v_p0_lost v_p0_hour f_p0_home f_p0_seeds f_p0_blown f_p0_ground) H locs → decode cX0_carryOut pc = .ok (.return_, 1) → W p l e ({ frames := 3, cells := 0, slots := 0, locals := 71 } : Room) s m args below meth cd H locs 0 0 Q (F0 m pc ls []) := by
    intro v_p0_wind v_p0_force v_p0_rain v_p0_lost v_p0_hour f_p0_seeds f_p0_blown f_p0_ground H locs pc ls h hw hd
    cases h
    exact hret H locs pc ls hw hd
  have B102 : ∀ (v_p0_wind : Int32) (v_p0_force : Int32) (v_p0_rain : Int32) (v_p0_lost : Int32) (v_p0_hour : Int32) (f_p0_seeds : (Nat → Int32)) (f_p0_blown : (Nat → Int32)) (f_p0_ground : (Nat → Int32)) (H : Heap) (locs : List Loc) (ls : Array Slot), fX0_carryOut_b102 v_p0_wind v_p0_force v_p0_rain v_p0_lost v_p0_hour f_p0_seeds f_p0_blown f_p0_ground = some (z_p0_wind, z_p0_force, z_p0_rain, z_p0_lost, z_p0_hour, z_p0_seeds, z_p0_blown, z_p0_ground) → gS E A s.heap (wX0_carryOut E o_p0 a_p0 v_p0_families v_p0_wind v_p0_force v_p0_rain v_p0_lost v_p0_hour f_p0_home f_p0_seeds f_p0_blown f_p0_ground) H locs → lv_has ls 4 [] → W p l e ({ frames := 3, cells := 0, slots := 0, locals := 71 } : Room) s m args below meth cd H locs 0 0 Q (F0 m 102 ls []) := by
    intro  v_p0_wind v_p0_force v_p0_rain v_p0_lost v_p0_hour f_p0_seeds f_p0_blown f_p0_ground H locs ls hf hw hl
    exact hret1 v_p0_wind v_p0_force v_p0_rain v_p0_lost v_p0_hour f_p0_seeds f_p0_blown f_p0_ground _ _ _ _ hf hw dX0_carryOut_102
  refine lv_iload_n hx hb dX0_carryOut_0 rfl (lv_at hl 1 rfl) ?_
  by_cases hs1 : x1 = 0
  · have hf := g_t hs1 hf
    refine lv_tableIn (off := 39) (tgt := 40) hx hb dX0_carryOut_1 (by rw [hs1]; decide) (by rw [hs1]; decide) (by rw [hs1] <;> rfl) (by decide) ?_
    refine lv_aload_n hx hb dX0_carryOut_40 rfl (lv_at hl 0 rfl) ?_
    refine lv_iload_n hx hb dX0_carryOut_41 rfl (lv_at hl 2 rfl) ?_
    refine lv_iload_n hx hb dX0_carryOut_42 rfl (lv_at hl 3 rfl) ?_
    obtain ⟨r2, hc3, hf⟩ := gB_s hf
    refine g_kv (is := [0, 1, 2, 3, 4]) (w1 := (wX6_puff E o_p0 a_p0 v_p0_families v_p0_wind v_p0_force v_p0_rain r2.1 v_p0_hour f_p0_home r2.2.1 r2.2.2.1 r2.2.2.2)) (ws' := (wX0_carryOut E o_p0 a_p0 v_p0_families v_p0_wind v_p0_force v_p0_rain r2.1 v_p0_hour f_p0_home r2.2.1 r2.2.2.1 r2.2.2.2)) hw hA (g_rV hx hb hml hG hown hK hw (is := [0, 1, 2, 3, 4]) rfl (by decide) (mX6_puff l E o_p0 a_p0 v_p0_families v_p0_wind v_p0_force v_p0_rain v_p0_lost v_p0_hour f_p0_home f_p0_seeds f_p0_blown f_p0_ground x2 x3 r2.1 r2.2.1 r2.2.2.1 r2.2.2.2 hc3) wd_17_8 wd_17_9 wd_17_10 wd_2_20 wd_17_11 hX6_puff g_allgood ⟨rfl, rfl⟩ ⟨Nat.le_of_ble_eq_true rfl, Nat.le_of_ble_eq_true rfl⟩ ⟨Nat.zero_le _, Nat.zero_le _⟩ (ci := 5) (q0 := 0) rfl rfl rfl rfl hl.1 rfl (Nat.le_of_ble_eq_true rfl) dX0_carryOut_43) rfl rfl rfl (fun H locs hw => ?_)
    refine lv_goto (tgt := 102) hx hb dX0_carryOut_46 (by decide) ?_
    exact B102 v_p0_wind v_p0_force v_p0_rain r2.1 v_p0_hour r2.2.1 r2.2.2.1 r2.2.2.2 _ _ _ hf hw (lv_sub hl [] rfl)
  have hf := g_f hs1 hf
  by_cases hs4 : x1 = 1
  · have hf := g_t hs4 hf
    refine lv_tableIn (off := 48) (tgt := 49) hx hb dX0_carryOut_1 (by rw [hs4]; decide) (by rw [hs4]; decide) (by rw [hs4] <;> rfl) (by decide) ?_
    refine lv_aload_n hx hb dX0_carryOut_49 rfl (lv_at hl 0 rfl) ?_
    refine lv_iload_n hx hb dX0_carryOut_50 rfl (lv_at hl 2 rfl) ?_
    obtain ⟨r5, hc6, hf⟩ := gB_s hf
    refine g_kv (is := [0, 1, 2, 4]) (w1 := (wX6_cough E o_p0 a_p0 v_p0_families v_p0_wind v_p0_force v_p0_rain r5.1 v_p0_hour f_p0_home r5.2.1 r5.2.2)) (ws' := (wX0_carryOut E o_p0 a_p0 v_p0_families v_p0_wind v_p0_force v_p0_rain r5.1 v_p0_hour f_p0_home r5.2.1 f_p0_blown r5.2.2)) hw hA (g_rV hx hb hml hG hown hK hw (is := [0, 1, 2, 4]) rfl (by decide) (mX6_cough l E o_p0 a_p0 v_p0_families v_p0_wind v_p0_force v_p0_rain v_p0_lost v_p0_hour f_p0_home f_p0_seeds f_p0_ground x2 r5.1 r5.2.1 r5.2.2 hc6) wd_17_19 wd_17_20 wd_17_21 wd_2_20 wd_17_22 hX6_cough g_allgood ⟨rfl, rfl⟩ ⟨Nat.le_of_ble_eq_true rfl, Nat.le_of_ble_eq_true rfl⟩ ⟨Nat.zero_le _, Nat.zero_le _⟩ (ci := 5) (q0 := 0) rfl rfl rfl rfl hl.1 rfl (Nat.le_of_ble_eq_true rfl) dX0_carryOut_51) rfl rfl rfl (fun H locs hw => ?_)
    refine lv_goto (tgt := 102) hx hb dX0_carryOut_54 (by decide) ?_
    exact B102 v_p0_wind v_p0_force v_p0_rain r5.1 v_p0_hour r5.2.1 f_p0_blown r5.2.2 _ _ _ hf hw (lv_sub hl [] rfl)
  have hf := g_f hs4 hf
  by_cases hs7 : x1 = 2
  · have hf := g_t hs7 hf
    refine lv_tableIn (off := 56) (tgt := 57) hx hb dX0_carryOut_1 (by rw [hs7]; decide) (by rw [hs7]; decide) (by rw [hs7] <;> rfl) (by decide) ?_
    refine lv_aload_n hx hb dX0_carryOut_57 rfl (lv_at hl 0 rfl) ?_
    refine lv_iload_n hx hb dX0_carryOut_58 rfl (lv_at hl 2 rfl) ?_
    obtain ⟨r8, hc9, hf⟩ := gB_s hf
    refine g_kv (is := [0, 1, 2, 4]) (w1 := (wX6_mow E o_p0 a_p0 v_p0_families v_p0_wind v_p0_force v_p0_rain v_p0_lost v_p0_hour f_p0_home r8.1 r8.2)) (ws' := (wX0_carryOut E o_p0 a_p0 v_p0_families v_p0_wind v_p0_force v_p0_rain v_p0_lost v_p0_hour f_p0_home r8.1 f_p0_blown r8.2)) hw hA (g_rV hx hb hml hG hown hK hw (is := [0, 1, 2, 4]) rfl (by decide) (mX6_mow l E o_p0 a_p0 v_p0_families v_p0_wind v_p0_force v_p0_rain v_p0_lost v_p0_hour f_p0_home f_p0_seeds f_p0_ground x2 r8.1 r8.2 hc9) wd_17_23 wd_18_0 wd_18_1 wd_2_20 wd_18_2 hX6_mow g_allgood ⟨rfl, rfl⟩ ⟨Nat.le_of_ble_eq_true rfl, Nat.le_of_ble_eq_true rfl⟩ ⟨Nat.zero_le _, Nat.zero_le _⟩ (ci := 5) (q0 := 0) rfl rfl rfl rfl hl.1 rfl (Nat.le_of_ble_eq_true rfl) dX0_carryOut_59) rfl rfl rfl (fun H locs hw => ?_)
    refine lv_goto (tgt := 102) hx hb dX0_carryOut_62 (by decide) ?_
    exact B102 v_p0_wind v_p0_force v_p0_rain v_p0_lost v_p0_hour r8.1 f_p0_blown r8.2 _ _ _ hf hw (lv_sub hl [] rfl)
  have hf := g_f hs7 hf
  by_cases hs10 : x1 = 3
  · have hf := g_t hs10 hf
    refine lv_tableIn (off := 64) (tgt := 65) hx hb dX0_carryOut_1 (by rw [hs10]; decide) (by rw [hs10]; decide) (by rw [hs10] <;> rfl) (by decide) ?_
    refine lv_aload_n hx hb dX0_carryOut_65 rfl (lv_at hl 0 rfl) ?_
    refine lv_iload_n hx hb dX0_carryOut_66 rfl (lv_at hl 2 rfl) ?_
    refine g_put (ws' := (wX0_carryOut E o_p0 a_p0 v_p0_families x2 v_p0_force v_p0_rain v_p0_lost v_p0_hour f_p0_home f_p0_seeds f_p0_blown f_p0_ground)) hx hb hG hown hK hw inlX6 tyX6_ok nmX6 (ci := 5) rfl 0 6 (Nat.le_of_ble_eq_true rfl) rfl wd_17_6 rfl rfl rfl (Nat.le_of_ble_eq_true rfl) rfl dX0_carryOut_67 (fun H locs hw => ?_)
    refine lv_aload_n hx hb dX0_carryOut_70 rfl (lv_at hl 0 rfl) ?_
    refine lv_iload_n hx hb dX0_carryOut_71 rfl (lv_at hl 3 rfl) ?_
    refine g_put (ws' := (wX0_carryOut E o_p0 a_p0 v_p0_families x2 x3 v_p0_rain v_p0_lost v_p0_hour f_p0_home f_p0_seeds f_p0_blown f_p0_ground)) hx hb hG hown hK hw inlX6 tyX6_ok nmX6 (ci := 5) rfl 0 7 (Nat.le_of_ble_eq_true rfl) rfl wd_17_7 rfl rfl rfl (Nat.le_of_ble_eq_true rfl) rfl dX0_carryOut_72 (fun H locs hw => ?_)
    refine lv_goto (tgt := 102) hx hb dX0_carryOut_75 (by decide) ?_
    exact B102 x2 x3 v_p0_rain v_p0_lost v_p0_hour f_p0_seeds f_p0_blown f_p0_ground _ _ _ hf hw (lv_sub hl [] rfl)
  have hf := g_f hs10 hf
  by_cases hs11 : x1 = 4
  · have hf := g_t hs11 hf
    refine lv_tableIn (off := 77) (tgt := 78) hx hb dX0_carryOut_1 (by rw [hs11]; decide) (by rw [hs11]; decide) (by rw [hs11] <;> rfl) (by decide) ?_
    refine lv_aload_n hx hb dX0_carryOut_78 rfl (lv_at hl 0 rfl) ?_
    refine lv_iconst (v := 1) hx hb dX0_carryOut_79 k_i1 ?_
    refine lv_aload_n hx hb dX0_carryOut_80 rfl (lv_at hl 0 rfl) ?_
    refine g_get hx hb hG hown hK hw inlX6 (ci := 5) rfl 0 8 (Nat.le_of_ble_eq_true rfl) rfl rfl wd_16_15 dX0_carryOut_81 ?_
    refine lv_isub hx hb dX0_carryOut_84 ?_
    refine g_put (ws' := (wX0_carryOut E o_p0 a_p0 v_p0_families v_p0_wind v_p0_force (1 - v_p0_rain) v_p0_lost v_p0_hour f_p0_home f_p0_seeds f_p0_blown f_p0_ground)) hx hb hG hown hK hw inlX6 tyX6_ok nmX6 (ci := 5) rfl 0 8 (Nat.le_of_ble_eq_true rfl) rfl wd_16_15 rfl rfl rfl (Nat.le_of_ble_eq_true rfl) rfl dX0_carryOut_85 (fun H locs hw => ?_)
    refine lv_goto (tgt := 102) hx hb dX0_carryOut_88 (by decide) ?_
    exact B102 v_p0_wind v_p0_force (1 - v_p0_rain) v_p0_lost v_p0_hour f_p0_seeds f_p0_blown f_p0_ground _ _ _ hf hw (lv_sub hl [] rfl)
  have hf := g_f hs11 hf
  by_cases hs12 : x1 = 5
  · have hf := g_t hs12 hf
    refine lv_tableIn (off := 90) (tgt := 91) hx hb dX0_carryOut_1 (by rw [hs12]; decide) (by rw [hs12]; decide) (by rw [hs12] <;> rfl) (by decide) ?_
    refine lv_aload_n hx hb dX0_carryOut_91 rfl (lv_at hl 0 rfl) ?_
    obtain ⟨r13, hc14, hf⟩ := gB_s hf
    refine g_kv (is := [0, 4]) (w1 := (wX6_graze E o_p0 a_p0 v_p0_families v_p0_wind v_p0_force v_p0_rain r13.1 v_p0_hour r13.2)) (ws' := (wX0_carryOut E o_p0 a_p0 v_p0_families v_p0_wind v_p0_force v_p0_rain r13.1 v_p0_hour f_p0_home f_p0_seeds f_p0_blown r13.2)) hw hA (g_rV hx hb hml hG hown hK hw (is := [0, 4]) rfl (by decide) (mX6_graze l E o_p0 a_p0 v_p0_families v_p0_wind v_p0_force v_p0_rain v_p0_lost v_p0_hour f_p0_ground r13.1 r13.2 hc14) wd_18_7 wd_18_8 wd_18_9 wd_2_20 wd_18_10 hX6_graze g_allgood ⟨rfl, rfl⟩ ⟨Nat.le_of_ble_eq_true rfl, Nat.le_of_ble_eq_true rfl⟩ ⟨Nat.zero_le _, Nat.zero_le _⟩ (ci := 5) (q0 := 0) rfl rfl rfl rfl hl.1 rfl (Nat.le_of_ble_eq_true rfl) dX0_carryOut_92) rfl rfl rfl (fun H locs hw => ?_)
    refine lv_goto (tgt := 102) hx hb dX0_carryOut_95 (by decide) ?_
    exact B102 v_p0_wind v_p0_force v_p0_rain r13.1 v_p0_hour f_p0_seeds f_p0_blown r13.2 _ _ _ hf hw (lv_sub hl [] rfl)
  have hf := g_f hs12 hf
  have nhs1 := lv_neT hs1 (show (0 : Int32).toInt = 0 from by decide)
  have nhs4 := lv_neT hs4 (show (1 : Int32).toInt = 1 from by decide)
  have nhs7 := lv_neT hs7 (show (2 : Int32).toInt = 2 from by decide)
  have nhs10 := lv_neT hs10 (show (3 : Int32).toInt = 3 from by decide)
  have nhs11 := lv_neT hs11 (show (4 : Int32).toInt = 4 from by decide)
  have nhs12 := lv_neT hs12 (show (5 : Int32).toInt = 5 from by decide)
  refine lv_tableOut (tgt := 98) hx hb dX0_carryOut_1 (by omega) (by decide) ?_
  refine lv_aload_n hx hb dX0_carryOut_98 rfl (lv_at hl 0 rfl) ?_
  obtain ⟨r15, hc16, hf⟩ := gB_s hf
  refine g_kv (is := [0, 3]) (w1 := (wX6_strikeHour E o_p0 a_p0 v_p0_families v_p0_wind v_p0_force v_p0_rain v_p0_lost r15.1 r15.2)) (ws' := (wX0_carryOut E o_p0 a_p0 v_p0_families v_p0_wind v_p0_force v_p0_rain v_p0_lost r15.1 f_p0_home f_p0_seeds r15.2 f_p0_ground)) hw hA (g_rV hx hb hml hG hown hK hw (is := [0, 3]) rfl (by decide) (mX6_strikeHour l E o_p0 a_p0 v_p0_families v_p0_wind v_p0_force v_p0_rain v_p0_lost v_p0_hour f_p0_blown r15.1 r15.2 hc16) wd_18_11 wd_18_12 wd_18_13 wd_2_20 wd_18_14 hX6_strikeHour g_allgood ⟨rfl, rfl⟩ ⟨Nat.le_of_ble_eq_true rfl, Nat.le_of_ble_eq_true rfl⟩ ⟨Nat.zero_le _, Nat.zero_le _⟩ (ci := 5) (q0 := 0) rfl rfl rfl rfl hl.1 rfl (Nat.le_of_ble_eq_true rfl) dX0_carryOut_99) rfl rfl rfl (fun H locs hw => ?_)
  exact B102 v_p0_wind v_p0_force v_p0_rain v_p0_lost r15.1 f_p0_seeds r15.2 f_p0_ground _ _ _ hf hw (lv_sub hl [] rfl)
theorem hX6_copyFrom : yX6_copyFrom.cls = RX6 ∧ yX6_copyFrom.cls ≠ "java/lang/invoke/MethodHandle" ∧ yX6_copyFrom.cls ≠ "java/lang/invoke/VarHandle" ∧ (parseMethodDescriptor yX6_copyFrom.desc).map (fun d => d.parameters.length) = some 1 := by decide +kernel
set_option maxHeartbeats 4000000 in
set_option maxRecDepth 100000 in
theorem mX6_copyFrom (l : Launch) (E : gE) (o_p0 : Nat) (a_p0 : (Nat → Nat)) (o_t : Nat) (a_t : (Nat → Nat)) (v_p0_families : Int32) (v_p0_wind : Int32) (v_p0_force : Int32) (v_p0_rain : Int32) (v_p0_lost : Int32) (v_p0_hour : Int32) (v_t_families : Int32) (v_t_wind : Int32) (v_t_force : Int32) (v_t_rain : Int32) (v_t_lost : Int32) (v_t_hour : Int32) (f_p0_home : (Nat → Int32)) (f_p0_seeds : (Nat → Int32)) (f_p0_lungs : (Nat → Int32)) (f_p0_blown : (Nat → Int32)) (f_p0_ground : (Nat → Int32)) (f_t_home : (Nat → Int32)) (f_t_seeds : (Nat → Int32)) (f_t_lungs : (Nat → Int32)) (f_t_blown : (Nat → Int32)) (f_t_ground : (Nat → Int32)) (z_t_families : Int32) (z_t_wind : Int32) (z_t_force : Int32) (z_t_rain : Int32) (z_t_lost : Int32) (z_t_hour : Int32) (z_t_home : (Nat → Int32)) (z_t_seeds : (Nat → Int32)) (z_t_lungs : (Nat → Int32)) (z_t_blown : (Nat → Int32)) (z_t_ground : (Nat → Int32)) (hf : fX6_copyFrom v_p0_families v_p0_wind v_p0_force v_p0_rain v_p0_lost v_p0_hour v_t_families v_t_wind v_t_force v_t_rain v_t_lost v_t_hour f_p0_home f_p0_seeds f_p0_lungs f_p0_blown f_p0_ground f_t_home f_t_seeds f_t_lungs f_t_blown f_t_ground = some (z_t_families, z_t_wind, z_t_force, z_t_rain, z_t_lost, z_t_hour, z_t_home, z_t_seeds, z_t_lungs, z_t_blown, z_t_ground)) {sz : Nat} : gMv l yX6_copyFrom (gW yX6_copyFrom cX6_copyFrom 2 none) ({ frames := 1, cells := 0, slots := 0, locals := 18 } : Room) E [.ref o_t, .ref o_p0] (wX6_copyFrom E o_p0 a_p0 o_t a_t v_p0_families v_p0_wind v_p0_force v_p0_rain v_p0_lost v_p0_hour v_t_families v_t_wind v_t_force v_t_rain v_t_lost v_t_hour f_p0_home f_p0_seeds f_p0_lungs f_p0_blown f_p0_ground f_t_home f_t_seeds f_t_lungs f_t_blown f_t_ground) sz (wX6_copyFrom E o_p0 a_p0 o_t a_t v_p0_families v_p0_wind v_p0_force v_p0_rain v_p0_lost v_p0_hour z_t_families z_t_wind z_t_force z_t_rain z_t_lost z_t_hour f_p0_home f_p0_seeds f_p0_lungs f_p0_blown f_p0_ground z_t_home z_t_seeds z_t_lungs z_t_blown z_t_ground) := by
  refine g_openV (own := RX6) (by decide) rfl (Nat.le_of_ble_eq_true rfl) (fun p e s m args below meth cd Q A hx hb hml hown hG hK hA hret hw ls hl => ?_)
  have hl : lv_has ls 2 [(0, .ref o_t), (1, .ref o_p0)] := hl
  have hret1 : ∀ (v_t_families : Int32) (v_t_wind : Int32) (v_t_force : Int32) (v_t_rain : Int32) (v_t_lost : Int32) (v_t_hour : Int32) (f_t_home : (Nat → Int32)) (f_t_seeds : (Nat → Int32)) (f_t_lungs : (Nat → Int32)) (f_t_blown : (Nat → Int32)) (f_t_ground : (Nat → Int32)) (H : Heap) (locs : List Loc) (pc : Nat) (ls : Array Slot), some (v_t_families, v_t_wind, v_t_force, v_t_rain, v_t_lost, v_t_hour, f_t_home, f_t_seeds, f_t_lungs, f_t_blown, f_t_ground) = some (z_t_families, z_t_wind, z_t_force, z_t_rain, z_t_lost, z_t_hour, z_t_home, z_t_seeds, z_t_lungs, z_t_blown, z_t_ground) → gS E A s.heap (wX6_copyFrom E o_p0 a_p0 o_t a_t v_p0_families v_p0_wind v_p0_force v_p0_rain v_p0_lost v_p0_hour v_t_families v_t_wind v_t_force v_t_rain v_t_lost v_t_hour f_p0_home f_p0_seeds f_p0_lungs f_p0_blown f_p0_ground f_t_home f_t_seeds f_t_lungs f_t_blown f_t_ground) H locs → decode cX6_copyFrom pc = .ok (.return_, 1) → W p l e ({ frames := 1, cells := 0, slots := 0, locals := 18 } : Room) s m args below meth cd H locs 0 0 Q (F0 m pc ls []) := by
    intro v_t_families v_t_wind v_t_force v_t_rain v_t_lost v_t_hour f_t_home f_t_seeds f_t_lungs f_t_blown f_t_ground H locs pc ls h hw hd
    cases h
    exact hret H locs pc ls hw hd
  refine lv_aload_n hx hb dX6_copyFrom_0 rfl (lv_at hl 1 rfl) ?_
  refine g_get hx hb hG hown hK hw inlX6 (ci := 5) rfl 0 0 (Nat.le_of_ble_eq_true rfl) rfl rfl wd_3_6 dX6_copyFrom_1 ?_
  refine lv_iconst (v := 0) hx hb dX6_copyFrom_4 k_i0 ?_
  refine lv_aload_n hx hb dX6_copyFrom_5 rfl (lv_at hl 0 rfl) ?_
  refine g_get hx hb hG hown hK hw inlX6 (ci := 5) rfl 6 0 (Nat.le_of_ble_eq_true rfl) rfl rfl wd_3_6 dX6_copyFrom_6 ?_
  refine lv_iconst (v := 0) hx hb dX6_copyFrom_9 k_i0 ?_
  refine lv_bipush (v := 6) hx hb dX6_copyFrom_10 k_b6 ?_
  refine g_acpy (N := 6) (ws' := (wX6_copyFrom E o_p0 a_p0 o_t a_t v_p0_families v_p0_wind v_p0_force v_p0_rain v_p0_lost v_p0_hour v_t_families v_t_wind v_t_force v_t_rain v_t_lost v_t_hour f_p0_home f_p0_seeds f_p0_lungs f_p0_blown f_p0_ground f_p0_home f_t_seeds f_t_lungs f_t_blown f_t_ground)) hx hb (hml.trans hl.1.symm) hG hown wd_15_19 wd_15_20 wd_15_21 wd_15_22 hK hw 1 7 rfl rfl (by decide) (by decide) rfl ⟨Nat.le_of_ble_eq_true rfl, Nat.le_of_ble_eq_true rfl⟩ rfl dX6_copyFrom_12 (fun H locs hw => ?_)
  refine lv_aload_n hx hb dX6_copyFrom_15 rfl (lv_at hl 1 rfl) ?_
  refine g_get hx hb hG hown hK hw inlX6 (ci := 5) rfl 0 1 (Nat.le_of_ble_eq_true rfl) rfl rfl wd_3_7 dX6_copyFrom_16 ?_
  refine lv_iconst (v := 0) hx hb dX6_copyFrom_19 k_i0 ?_
  refine lv_aload_n hx hb dX6_copyFrom_20 rfl (lv_at hl 0 rfl) ?_
  refine g_get hx hb hG hown hK hw inlX6 (ci := 5) rfl 6 1 (Nat.le_of_ble_eq_true rfl) rfl rfl wd_3_7 dX6_copyFrom_21 ?_
  refine lv_iconst (v := 0) hx hb dX6_copyFrom_24 k_i0 ?_
  refine lv_bipush (v := 6) hx hb dX6_copyFrom_25 k_b6 ?_
  refine g_acpy (N := 6) (ws' := (wX6_copyFrom E o_p0 a_p0 o_t a_t v_p0_families v_p0_wind v_p0_force v_p0_rain v_p0_lost v_p0_hour v_t_families v_t_wind v_t_force v_t_rain v_t_lost v_t_hour f_p0_home f_p0_seeds f_p0_lungs f_p0_blown f_p0_ground f_p0_home f_p0_seeds f_t_lungs f_t_blown f_t_ground)) hx hb (hml.trans hl.1.symm) hG hown wd_15_19 wd_15_20 wd_15_21 wd_15_22 hK hw 2 8 rfl rfl (by decide) (by decide) rfl ⟨Nat.le_of_ble_eq_true rfl, Nat.le_of_ble_eq_true rfl⟩ rfl dX6_copyFrom_27 (fun H locs hw => ?_)
  refine lv_aload_n hx hb dX6_copyFrom_30 rfl (lv_at hl 1 rfl) ?_
  refine g_get hx hb hG hown hK hw inlX6 (ci := 5) rfl 0 2 (Nat.le_of_ble_eq_true rfl) rfl rfl wd_3_8 dX6_copyFrom_31 ?_
  refine lv_iconst (v := 0) hx hb dX6_copyFrom_34 k_i0 ?_
  refine lv_aload_n hx hb dX6_copyFrom_35 rfl (lv_at hl 0 rfl) ?_
  refine g_get hx hb hG hown hK hw inlX6 (ci := 5) rfl 6 2 (Nat.le_of_ble_eq_true rfl) rfl rfl wd_3_8 dX6_copyFrom_36 ?_
  refine lv_iconst (v := 0) hx hb dX6_copyFrom_39 k_i0 ?_
  refine lv_bipush (v := 6) hx hb dX6_copyFrom_40 k_b6 ?_
  refine g_acpy (N := 6) (ws' := (wX6_copyFrom E o_p0 a_p0 o_t a_t v_p0_families v_p0_wind v_p0_force v_p0_rain v_p0_lost v_p0_hour v_t_families v_t_wind v_t_force v_t_rain v_t_lost v_t_hour f_p0_home f_p0_seeds f_p0_lungs f_p0_blown f_p0_ground f_p0_home f_p0_seeds f_p0_lungs f_t_blown f_t_ground)) hx hb (hml.trans hl.1.symm) hG hown wd_15_19 wd_15_20 wd_15_21 wd_15_22 hK hw 3 9 rfl rfl (by decide) (by decide) rfl ⟨Nat.le_of_ble_eq_true rfl, Nat.le_of_ble_eq_true rfl⟩ rfl dX6_copyFrom_42 (fun H locs hw => ?_)
  refine lv_aload_n hx hb dX6_copyFrom_45 rfl (lv_at hl 1 rfl) ?_
  refine g_get hx hb hG hown hK hw inlX6 (ci := 5) rfl 0 3 (Nat.le_of_ble_eq_true rfl) rfl rfl wd_3_9 dX6_copyFrom_46 ?_
  refine lv_iconst (v := 0) hx hb dX6_copyFrom_49 k_i0 ?_
  refine lv_aload_n hx hb dX6_copyFrom_50 rfl (lv_at hl 0 rfl) ?_
  refine g_get hx hb hG hown hK hw inlX6 (ci := 5) rfl 6 3 (Nat.le_of_ble_eq_true rfl) rfl rfl wd_3_9 dX6_copyFrom_51 ?_
  refine lv_iconst (v := 0) hx hb dX6_copyFrom_54 k_i0 ?_
  refine lv_bipush (v := 6) hx hb dX6_copyFrom_55 k_b6 ?_
  refine g_acpy (N := 6) (ws' := (wX6_copyFrom E o_p0 a_p0 o_t a_t v_p0_families v_p0_wind v_p0_force v_p0_rain v_p0_lost v_p0_hour v_t_families v_t_wind v_t_force v_t_rain v_t_lost v_t_hour f_p0_home f_p0_seeds f_p0_lungs f_p0_blown f_p0_ground f_p0_home f_p0_seeds f_p0_lungs f_p0_blown f_t_ground)) hx hb (hml.trans hl.1.symm) hG hown wd_15_19 wd_15_20 wd_15_21 wd_15_22 hK hw 4 10 rfl rfl (by decide) (by decide) rfl ⟨Nat.le_of_ble_eq_true rfl, Nat.le_of_ble_eq_true rfl⟩ rfl dX6_copyFrom_57 (fun H locs hw => ?_)
  refine lv_aload_n hx hb dX6_copyFrom_60 rfl (lv_at hl 1 rfl) ?_
  refine g_get hx hb hG hown hK hw inlX6 (ci := 5) rfl 0 4 (Nat.le_of_ble_eq_true rfl) rfl rfl wd_3_10 dX6_copyFrom_61 ?_
  refine lv_iconst (v := 0) hx hb dX6_copyFrom_64 k_i0 ?_
  refine lv_aload_n hx hb dX6_copyFrom_65 rfl (lv_at hl 0 rfl) ?_
  refine g_get hx hb hG hown hK hw inlX6 (ci := 5) rfl 6 4 (Nat.le_of_ble_eq_true rfl) rfl rfl wd_3_10 dX6_copyFrom_66 ?_
  refine lv_iconst (v := 0) hx hb dX6_copyFrom_69 k_i0 ?_
  refine lv_bipush (v := 36) hx hb dX6_copyFrom_70 k_b36 ?_
  refine g_acpy (N := 36) (ws' := (wX6_copyFrom E o_p0 a_p0 o_t a_t v_p0_families v_p0_wind v_p0_force v_p0_rain v_p0_lost v_p0_hour v_t_families v_t_wind v_t_force v_t_rain v_t_lost v_t_hour f_p0_home f_p0_seeds f_p0_lungs f_p0_blown f_p0_ground f_p0_home f_p0_seeds f_p0_lungs f_p0_blown f_p0_ground)) hx hb (hml.trans hl.1.symm) hG hown wd_15_19 wd_15_20 wd_15_21 wd_15_22 hK hw 5 11 rfl rfl (by decide) (by decide) rfl ⟨Nat.le_of_ble_eq_true rfl, Nat.le_of_ble_eq_true rfl⟩ rfl dX6_copyFrom_72 (fun H locs hw => ?_)
  refine lv_aload_n hx hb dX6_copyFrom_75 rfl (lv_at hl 0 rfl) ?_
  refine lv_aload_n hx hb dX6_copyFrom_76 rfl (lv_at hl 1 rfl) ?_
  refine g_get hx hb hG hown hK hw inlX6 (ci := 5) rfl 0 5 (Nat.le_of_ble_eq_true rfl) rfl rfl wd_3_11 dX6_copyFrom_77 ?_
  refine g_put (ws' := (wX6_copyFrom E o_p0 a_p0 o_t a_t v_p0_families v_p0_wind v_p0_force v_p0_rain v_p0_lost v_p0_hour v_p0_families v_t_wind v_t_force v_t_rain v_t_lost v_t_hour f_p0_home f_p0_seeds f_p0_lungs f_p0_blown f_p0_ground f_p0_home f_p0_seeds f_p0_lungs f_p0_blown f_p0_ground)) hx hb hG hown hK hw inlX6 tyX6_ok nmX6 (ci := 5) rfl 6 5 (Nat.le_of_ble_eq_true rfl) rfl wd_3_11 rfl rfl rfl (Nat.le_of_ble_eq_true rfl) rfl dX6_copyFrom_80 (fun H locs hw => ?_)
  refine lv_aload_n hx hb dX6_copyFrom_83 rfl (lv_at hl 0 rfl) ?_
  refine lv_aload_n hx hb dX6_copyFrom_84 rfl (lv_at hl 1 rfl) ?_
  refine g_get hx hb hG hown hK hw inlX6 (ci := 5) rfl 0 6 (Nat.le_of_ble_eq_true rfl) rfl rfl wd_3_12 dX6_copyFrom_85 ?_
  refine g_put (ws' := (wX6_copyFrom E o_p0 a_p0 o_t a_t v_p0_families v_p0_wind v_p0_force v_p0_rain v_p0_lost v_p0_hour v_p0_families v_p0_wind v_t_force v_t_rain v_t_lost v_t_hour f_p0_home f_p0_seeds f_p0_lungs f_p0_blown f_p0_ground f_p0_home f_p0_seeds f_p0_lungs f_p0_blown f_p0_ground)) hx hb hG hown hK hw inlX6 tyX6_ok nmX6 (ci := 5) rfl 6 6 (Nat.le_of_ble_eq_true rfl) rfl wd_3_12 rfl rfl rfl (Nat.le_of_ble_eq_true rfl) rfl dX6_copyFrom_88 (fun H locs hw => ?_)
  refine lv_aload_n hx hb dX6_copyFrom_91 rfl (lv_at hl 0 rfl) ?_
  refine lv_aload_n hx hb dX6_copyFrom_92 rfl (lv_at hl 1 rfl) ?_
  refine g_get hx hb hG hown hK hw inlX6 (ci := 5) rfl 0 7 (Nat.le_of_ble_eq_true rfl) rfl rfl wd_3_13 dX6_copyFrom_93 ?_
  refine g_put (ws' := (wX6_copyFrom E o_p0 a_p0 o_t a_t v_p0_families v_p0_wind v_p0_force v_p0_rain v_p0_lost v_p0_hour v_p0_families v_p0_wind v_p0_force v_t_rain v_t_lost v_t_hour f_p0_home f_p0_seeds f_p0_lungs f_p0_blown f_p0_ground f_p0_home f_p0_seeds f_p0_lungs f_p0_blown f_p0_ground)) hx hb hG hown hK hw inlX6 tyX6_ok nmX6 (ci := 5) rfl 6 7 (Nat.le_of_ble_eq_true rfl) rfl wd_3_13 rfl rfl rfl (Nat.le_of_ble_eq_true rfl) rfl dX6_copyFrom_96 (fun H locs hw => ?_)
  refine lv_aload_n hx hb dX6_copyFrom_99 rfl (lv_at hl 0 rfl) ?_
  refine lv_aload_n hx hb dX6_copyFrom_100 rfl (lv_at hl 1 rfl) ?_
  refine g_get hx hb hG hown hK hw inlX6 (ci := 5) rfl 0 8 (Nat.le_of_ble_eq_true rfl) rfl rfl wd_3_14 dX6_copyFrom_101 ?_
  refine g_put (ws' := (wX6_copyFrom E o_p0 a_p0 o_t a_t v_p0_families v_p0_wind v_p0_force v_p0_rain v_p0_lost v_p0_hour v_p0_families v_p0_wind v_p0_force v_p0_rain v_t_lost v_t_hour f_p0_home f_p0_seeds f_p0_lungs f_p0_blown f_p0_ground f_p0_home f_p0_seeds f_p0_lungs f_p0_blown f_p0_ground)) hx hb hG hown hK hw inlX6 tyX6_ok nmX6 (ci := 5) rfl 6 8 (Nat.le_of_ble_eq_true rfl) rfl wd_3_14 rfl rfl rfl (Nat.le_of_ble_eq_true rfl) rfl dX6_copyFrom_104 (fun H locs hw => ?_)
  refine lv_aload_n hx hb dX6_copyFrom_107 rfl (lv_at hl 0 rfl) ?_
  refine lv_aload_n hx hb dX6_copyFrom_108 rfl (lv_at hl 1 rfl) ?_
  refine g_get hx hb hG hown hK hw inlX6 (ci := 5) rfl 0 9 (Nat.le_of_ble_eq_true rfl) rfl rfl wd_3_15 dX6_copyFrom_109 ?_
  refine g_put (ws' := (wX6_copyFrom E o_p0 a_p0 o_t a_t v_p0_families v_p0_wind v_p0_force v_p0_rain v_p0_lost v_p0_hour v_p0_families v_p0_wind v_p0_force v_p0_rain v_p0_lost v_t_hour f_p0_home f_p0_seeds f_p0_lungs f_p0_blown f_p0_ground f_p0_home f_p0_seeds f_p0_lungs f_p0_blown f_p0_ground)) hx hb hG hown hK hw inlX6 tyX6_ok nmX6 (ci := 5) rfl 6 9 (Nat.le_of_ble_eq_true rfl) rfl wd_3_15 rfl rfl rfl (Nat.le_of_ble_eq_true rfl) rfl dX6_copyFrom_112 (fun H locs hw => ?_)
  refine lv_aload_n hx hb dX6_copyFrom_115 rfl (lv_at hl 0 rfl) ?_
  refine lv_aload_n hx hb dX6_copyFrom_116 rfl (lv_at hl 1 rfl) ?_
  refine g_get hx hb hG hown hK hw inlX6 (ci := 5) rfl 0 10 (Nat.le_of_ble_eq_true rfl) rfl rfl wd_3_16 dX6_copyFrom_117 ?_
  refine g_put (ws' := (wX6_copyFrom E o_p0 a_p0 o_t a_t v_p0_families v_p0_wind v_p0_force v_p0_rain v_p0_lost v_p0_hour v_p0_families v_p0_wind v_p0_force v_p0_rain v_p0_lost v_p0_hour f_p0_home f_p0_seeds f_p0_lungs f_p0_blown f_p0_ground f_p0_home f_p0_seeds f_p0_lungs f_p0_blown f_p0_ground)) hx hb hG hown hK hw inlX6 tyX6_ok nmX6 (ci := 5) rfl 6 10 (Nat.le_of_ble_eq_true rfl) rfl wd_3_16 rfl rfl rfl (Nat.le_of_ble_eq_true rfl) rfl dX6_copyFrom_120 (fun H locs hw => ?_)
  exact hret1 v_p0_families v_p0_wind v_p0_force v_p0_rain v_p0_lost v_p0_hour f_p0_home f_p0_seeds f_p0_lungs f_p0_blown f_p0_ground _ _ _ _ hf hw dX6_copyFrom_123
theorem hX1_drawAct : yX1_drawAct.cls = RX1 ∧ yX1_drawAct.cls ≠ "java/lang/invoke/MethodHandle" ∧ yX1_drawAct.cls ≠ "java/lang/invoke/VarHandle" ∧ (parseMethodDescriptor yX1_drawAct.desc).map (fun d => d.parameters.length) = some 1 := by decide +kernel
set_option maxHeartbeats 4000000 in
set_option maxRecDepth 100000 in
theorem mX1_drawAct (l : Launch) (E : gE) (o_t : Nat) (o_t_meadow : Nat) (v_t_kind : Int32) (v_t_first : Int32) (v_t_second : Int32) (x1 : Int32) (z_t_kind : Int32) (z_t_first : Int32) (z_t_second : Int32) (hf : fX1_drawAct v_t_kind v_t_first v_t_second x1 = some (z_t_kind, z_t_first, z_t_second)) {sz : Nat} : gMv l yX1_drawAct (gW yX1_drawAct cX1_drawAct 2 none) ({ frames := 0, cells := 0, slots := 0, locals := 0 } : Room) E [.ref o_t, .int x1] (wX1_drawAct E o_t o_t_meadow v_t_kind v_t_first v_t_second) sz (wX1_drawAct E o_t o_t_meadow z_t_kind z_t_first z_t_second) := by
  refine g_openV (own := RX1) (by decide) rfl (Nat.le_of_ble_eq_true rfl) (fun p e s m args below meth cd Q A hx hb hml hown hG hK hA hret hw ls hl => ?_)
  have hl : lv_has ls 2 [(0, .ref o_t), (1, .int x1)] := hl
  have hret1 : ∀ (v_t_kind : Int32) (v_t_first : Int32) (v_t_second : Int32) (H : Heap) (locs : List Loc) (pc : Nat) (ls : Array Slot), some (v_t_kind, v_t_first, v_t_second) = some (z_t_kind, z_t_first, z_t_second) → gS E A s.heap (wX1_drawAct E o_t o_t_meadow v_t_kind v_t_first v_t_second) H locs → decode cX1_drawAct pc = .ok (.return_, 1) → W p l e ({ frames := 0, cells := 0, slots := 0, locals := 0 } : Room) s m args below meth cd H locs 0 0 Q (F0 m pc ls []) := by
    intro v_t_kind v_t_first v_t_second H locs pc ls h hw hd
    cases h
    exact hret H locs pc ls hw hd
  have B137 : ∀ (v_t_kind : Int32) (v_t_first : Int32) (v_t_second : Int32) (H : Heap) (locs : List Loc) (ls : Array Slot), fX1_drawAct_b137 v_t_kind v_t_first v_t_second = some (z_t_kind, z_t_first, z_t_second) → gS E A s.heap (wX1_drawAct E o_t o_t_meadow v_t_kind v_t_first v_t_second) H locs → lv_has ls 2 [] → W p l e ({ frames := 0, cells := 0, slots := 0, locals := 0 } : Room) s m args below meth cd H locs 0 0 Q (F0 m 137 ls []) := by
    intro  v_t_kind v_t_first v_t_second H locs ls hf hw hl
    exact hret1 v_t_kind v_t_first v_t_second _ _ _ _ hf hw dX1_drawAct_137
  refine lv_aload_n hx hb dX1_drawAct_0 rfl (lv_at hl 0 rfl) ?_
  refine lv_iload_n hx hb dX1_drawAct_1 rfl (lv_at hl 1 rfl) ?_
  refine lv_bipush (v := 6) hx hb dX1_drawAct_2 k_b6 ?_
  refine g_irem hx hb dX1_drawAct_4 (by decide) ?_
  refine g_put (ws' := (wX1_drawAct E o_t o_t_meadow v_t_kind (x1 % 6) v_t_second)) hx hb hG hown hK hw inlX1 tyX1_ok nmX1 (ci := 0) rfl 0 2 (Nat.le_of_ble_eq_true rfl) rfl wd_5_15 rfl rfl rfl (Nat.le_of_ble_eq_true rfl) rfl dX1_drawAct_5 (fun H locs hw => ?_)
  refine lv_aload_n hx hb dX1_drawAct_8 rfl (lv_at hl 0 rfl) ?_
  refine lv_iconst (v := 0) hx hb dX1_drawAct_9 k_i0 ?_
  refine g_put (ws' := (wX1_drawAct E o_t o_t_meadow v_t_kind (x1 % 6) 0)) hx hb hG hown hK hw inlX1 tyX1_ok nmX1 (ci := 0) rfl 0 3 (Nat.le_of_ble_eq_true rfl) rfl wd_5_16 rfl rfl rfl (Nat.le_of_ble_eq_true rfl) rfl dX1_drawAct_10 (fun H locs hw => ?_)
  refine lv_iload_n hx hb dX1_drawAct_13 rfl (lv_at hl 1 rfl) ?_
  refine lv_bipush (v := 6) hx hb dX1_drawAct_14 k_b6 ?_
  refine lv_idiv hx hb dX1_drawAct_16 (by decide) ?_
  refine lv_bipush (v := 8) hx hb dX1_drawAct_17 k_b8 ?_
  refine g_irem hx hb dX1_drawAct_19 (by decide) ?_
  by_cases hs1 : ((x1 / 6) % 8) = 3
  · have hf := g_t hs1 hf
    refine lv_tableIn (off := 36) (tgt := 56) hx hb dX1_drawAct_20 (by rw [hs1]; decide) (by rw [hs1]; decide) (by rw [hs1] <;> rfl) (by decide) ?_
    refine lv_aload_n hx hb dX1_drawAct_56 rfl (lv_at hl 0 rfl) ?_
    refine lv_iconst (v := 2) hx hb dX1_drawAct_57 k_i2 ?_
    refine g_put (ws' := (wX1_drawAct E o_t o_t_meadow 2 (x1 % 6) 0)) hx hb hG hown hK hw inlX1 tyX1_ok nmX1 (ci := 0) rfl 0 1 (Nat.le_of_ble_eq_true rfl) rfl wd_5_14 rfl rfl rfl (Nat.le_of_ble_eq_true rfl) rfl dX1_drawAct_58 (fun H locs hw => ?_)
    refine lv_goto (tgt := 137) hx hb dX1_drawAct_61 (by decide) ?_
    exact B137 2 (x1 % 6) 0 _ _ _ hf hw (lv_sub hl [] rfl)
  have hf := g_f hs1 hf
  by_cases hs2 : ((x1 / 6) % 8) = 4
  · have hf := g_t hs2 hf
    refine lv_tableIn (off := 44) (tgt := 64) hx hb dX1_drawAct_20 (by rw [hs2]; decide) (by rw [hs2]; decide) (by rw [hs2] <;> rfl) (by decide) ?_
    refine lv_aload_n hx hb dX1_drawAct_64 rfl (lv_at hl 0 rfl) ?_
    refine lv_iconst (v := 1) hx hb dX1_drawAct_65 k_i1 ?_
    refine g_put (ws' := (wX1_drawAct E o_t o_t_meadow 1 (x1 % 6) 0)) hx hb hG hown hK hw inlX1 tyX1_ok nmX1 (ci := 0) rfl 0 1 (Nat.le_of_ble_eq_true rfl) rfl wd_5_14 rfl rfl rfl (Nat.le_of_ble_eq_true rfl) rfl dX1_drawAct_66 (fun H locs hw => ?_)
    refine lv_goto (tgt := 137) hx hb dX1_drawAct_69 (by decide) ?_
    exact B137 1 (x1 % 6) 0 _ _ _ hf hw (lv_sub hl [] rfl)
  have hf := g_f hs2 hf
  by_cases hs3 : ((x1 / 6) % 8) = 5
  · have hf := g_t hs3 hf
    refine lv_tableIn (off := 52) (tgt := 72) hx hb dX1_drawAct_20 (by rw [hs3]; decide) (by rw [hs3]; decide) (by rw [hs3] <;> rfl) (by decide) ?_
    refine lv_aload_n hx hb dX1_drawAct_72 rfl (lv_at hl 0 rfl) ?_
    refine lv_iconst (v := 3) hx hb dX1_drawAct_73 k_i3 ?_
    refine g_put (ws' := (wX1_drawAct E o_t o_t_meadow 3 (x1 % 6) 0)) hx hb hG hown hK hw inlX1 tyX1_ok nmX1 (ci := 0) rfl 0 1 (Nat.le_of_ble_eq_true rfl) rfl wd_5_14 rfl rfl rfl (Nat.le_of_ble_eq_true rfl) rfl dX1_drawAct_74 (fun H locs hw => ?_)
    refine lv_aload_n hx hb dX1_drawAct_77 rfl (lv_at hl 0 rfl) ?_
    refine lv_iload_n hx hb dX1_drawAct_78 rfl (lv_at hl 1 rfl) ?_
    refine lv_bipush (v := 48) hx hb dX1_drawAct_79 k_b48 ?_
    refine lv_idiv hx hb dX1_drawAct_81 (by decide) ?_
    refine lv_iconst (v := 4) hx hb dX1_drawAct_82 k_i4 ?_
    refine g_irem hx hb dX1_drawAct_83 (by decide) ?_
    refine g_put (ws' := (wX1_drawAct E o_t o_t_meadow 3 ((x1 / 48) % 4) 0)) hx hb hG hown hK hw inlX1 tyX1_ok nmX1 (ci := 0) rfl 0 2 (Nat.le_of_ble_eq_true rfl) rfl wd_5_15 rfl rfl rfl (Nat.le_of_ble_eq_true rfl) rfl dX1_drawAct_84 (fun H locs hw => ?_)
    refine lv_aload_n hx hb dX1_drawAct_87 rfl (lv_at hl 0 rfl) ?_
    refine lv_iload_n hx hb dX1_drawAct_88 rfl (lv_at hl 1 rfl) ?_
    refine lv_sipush (v := 192) hx hb dX1_drawAct_89 k_s192 ?_
    refine lv_idiv hx hb dX1_drawAct_92 (by decide) ?_
    refine lv_bipush (v := 6) hx hb dX1_drawAct_93 k_b6 ?_
    refine g_irem hx hb dX1_drawAct_95 (by decide) ?_
    refine g_put (ws' := (wX1_drawAct E o_t o_t_meadow 3 ((x1 / 48) % 4) ((x1 / 192) % 6))) hx hb hG hown hK hw inlX1 tyX1_ok nmX1 (ci := 0) rfl 0 3 (Nat.le_of_ble_eq_true rfl) rfl wd_5_16 rfl rfl rfl (Nat.le_of_ble_eq_true rfl) rfl dX1_drawAct_96 (fun H locs hw => ?_)
    refine lv_goto (tgt := 137) hx hb dX1_drawAct_99 (by decide) ?_
    exact B137 3 ((x1 / 48) % 4) ((x1 / 192) % 6) _ _ _ hf hw (lv_sub hl [] rfl)
  have hf := g_f hs3 hf
  by_cases hs4 : ((x1 / 6) % 8) = 6
  · have hf := g_t hs4 hf
    refine lv_tableIn (off := 82) (tgt := 102) hx hb dX1_drawAct_20 (by rw [hs4]; decide) (by rw [hs4]; decide) (by rw [hs4] <;> rfl) (by decide) ?_
    refine lv_aload_n hx hb dX1_drawAct_102 rfl (lv_at hl 0 rfl) ?_
    refine lv_iconst (v := 5) hx hb dX1_drawAct_103 k_i5 ?_
    refine g_put (ws' := (wX1_drawAct E o_t o_t_meadow 5 (x1 % 6) 0)) hx hb hG hown hK hw inlX1 tyX1_ok nmX1 (ci := 0) rfl 0 1 (Nat.le_of_ble_eq_true rfl) rfl wd_5_14 rfl rfl rfl (Nat.le_of_ble_eq_true rfl) rfl dX1_drawAct_104 (fun H locs hw => ?_)
    refine lv_goto (tgt := 137) hx hb dX1_drawAct_107 (by decide) ?_
    exact B137 5 (x1 % 6) 0 _ _ _ hf hw (lv_sub hl [] rfl)
  have hf := g_f hs4 hf
  by_cases hs5 : ((x1 / 6) % 8) = 7
  · have hf := g_t hs5 hf
    refine lv_tableIn (off := 90) (tgt := 110) hx hb dX1_drawAct_20 (by rw [hs5]; decide) (by rw [hs5]; decide) (by rw [hs5] <;> rfl) (by decide) ?_
    refine lv_aload_n hx hb dX1_drawAct_110 rfl (lv_at hl 0 rfl) ?_
    refine lv_bipush (v := 6) hx hb dX1_drawAct_111 k_b6 ?_
    refine g_put (ws' := (wX1_drawAct E o_t o_t_meadow 6 (x1 % 6) 0)) hx hb hG hown hK hw inlX1 tyX1_ok nmX1 (ci := 0) rfl 0 1 (Nat.le_of_ble_eq_true rfl) rfl wd_5_14 rfl rfl rfl (Nat.le_of_ble_eq_true rfl) rfl dX1_drawAct_113 (fun H locs hw => ?_)
    refine lv_goto (tgt := 137) hx hb dX1_drawAct_116 (by decide) ?_
    exact B137 6 (x1 % 6) 0 _ _ _ hf hw (lv_sub hl [] rfl)
  have hf := g_f hs5 hf
  have nhs1 := lv_neT hs1 (show (3 : Int32).toInt = 3 from by decide)
  have nhs2 := lv_neT hs2 (show (4 : Int32).toInt = 4 from by decide)
  have nhs3 := lv_neT hs3 (show (5 : Int32).toInt = 5 from by decide)
  have nhs4 := lv_neT hs4 (show (6 : Int32).toInt = 6 from by decide)
  have nhs5 := lv_neT hs5 (show (7 : Int32).toInt = 7 from by decide)
  refine lv_tableOut (tgt := 119) hx hb dX1_drawAct_20 (by omega) (by decide) ?_
  refine lv_aload_n hx hb dX1_drawAct_119 rfl (lv_at hl 0 rfl) ?_
  refine lv_iconst (v := 0) hx hb dX1_drawAct_120 k_i0 ?_
  refine g_put (ws' := (wX1_drawAct E o_t o_t_meadow 0 (x1 % 6) 0)) hx hb hG hown hK hw inlX1 tyX1_ok nmX1 (ci := 0) rfl 0 1 (Nat.le_of_ble_eq_true rfl) rfl wd_5_14 rfl rfl rfl (Nat.le_of_ble_eq_true rfl) rfl dX1_drawAct_121 (fun H locs hw => ?_)
  refine lv_aload_n hx hb dX1_drawAct_124 rfl (lv_at hl 0 rfl) ?_
  refine lv_iconst (v := 1) hx hb dX1_drawAct_125 k_i1 ?_
  refine lv_iload_n hx hb dX1_drawAct_126 rfl (lv_at hl 1 rfl) ?_
  refine lv_bipush (v := 48) hx hb dX1_drawAct_127 k_b48 ?_
  refine lv_idiv hx hb dX1_drawAct_129 (by decide) ?_
  refine lv_bipush (v := 9) hx hb dX1_drawAct_130 k_b9 ?_
  refine g_irem hx hb dX1_drawAct_132 (by decide) ?_
  refine lv_iadd hx hb dX1_drawAct_133 ?_
  refine g_put (ws' := (wX1_drawAct E o_t o_t_meadow 0 (x1 % 6) (1 + ((x1 / 48) % 9)))) hx hb hG hown hK hw inlX1 tyX1_ok nmX1 (ci := 0) rfl 0 3 (Nat.le_of_ble_eq_true rfl) rfl wd_5_16 rfl rfl rfl (Nat.le_of_ble_eq_true rfl) rfl dX1_drawAct_134 (fun H locs hw => ?_)
  exact B137 0 (x1 % 6) (1 + ((x1 / 48) % 9)) _ _ _ hf hw (lv_sub hl [] rfl)
theorem hX1_run : yX1_run.cls = RX1 ∧ yX1_run.cls ≠ "java/lang/invoke/MethodHandle" ∧ yX1_run.cls ≠ "java/lang/invoke/VarHandle" ∧ (parseMethodDescriptor yX1_run.desc).map (fun d => d.parameters.length) = some 3 := by decide +kernel
set_option maxHeartbeats 4000000 in
set_option maxRecDepth 100000 in
theorem mX1_run (l : Launch) (E : gE) (o_p0 : Nat) (a_p0 : (Nat → Nat)) (o_t : Nat) (o_t_meadow : Nat) (a_t_meadow : (Nat → Nat)) (v_p0_families : Int32) (v_p0_wind : Int32) (v_p0_force : Int32) (v_p0_rain : Int32) (v_p0_lost : Int32) (v_p0_hour : Int32) (v_t_kind : Int32) (v_t_first : Int32) (v_t_second : Int32) (v_t_meadow_families : Int32) (v_t_meadow_wind : Int32) (v_t_meadow_force : Int32) (v_t_meadow_rain : Int32) (v_t_meadow_lost : Int32) (v_t_meadow_hour : Int32) (f_p0_home : (Nat → Int32)) (f_p0_seeds : (Nat → Int32)) (f_p0_lungs : (Nat → Int32)) (f_p0_blown : (Nat → Int32)) (f_p0_ground : (Nat → Int32)) (f_t_meadow_home : (Nat → Int32)) (f_t_meadow_seeds : (Nat → Int32)) (f_t_meadow_lungs : (Nat → Int32)) (f_t_meadow_blown : (Nat → Int32)) (f_t_meadow_ground : (Nat → Int32)) (x2 : Int32) (x3 : Int32) (z_t_kind : Int32) (z_t_first : Int32) (z_t_second : Int32) (z_t_meadow_families : Int32) (z_t_meadow_wind : Int32) (z_t_meadow_force : Int32) (z_t_meadow_rain : Int32) (z_t_meadow_lost : Int32) (z_t_meadow_hour : Int32) (z_t_meadow_home : (Nat → Int32)) (z_t_meadow_seeds : (Nat → Int32)) (z_t_meadow_lungs : (Nat → Int32)) (z_t_meadow_blown : (Nat → Int32)) (z_t_meadow_ground : (Nat → Int32)) (hf : fX1_run v_p0_families v_p0_wind v_p0_force v_p0_rain v_p0_lost v_p0_hour v_t_kind v_t_first v_t_second v_t_meadow_families v_t_meadow_wind v_t_meadow_force v_t_meadow_rain v_t_meadow_lost v_t_meadow_hour f_p0_home f_p0_seeds f_p0_lungs f_p0_blown f_p0_ground f_t_meadow_home f_t_meadow_seeds f_t_meadow_lungs f_t_meadow_blown f_t_meadow_ground x2 x3 = some (z_t_kind, z_t_first, z_t_second, z_t_meadow_families, z_t_meadow_wind, z_t_meadow_force, z_t_meadow_rain, z_t_meadow_lost, z_t_meadow_hour, z_t_meadow_home, z_t_meadow_seeds, z_t_meadow_lungs, z_t_meadow_blown, z_t_meadow_ground)) {sz : Nat} : gMv l yX1_run (gW yX1_run cX1_run 6 none) ({ frames := 4, cells := 0, slots := 0, locals := 94 } : Room) E [.ref o_t, .ref o_p0, .int x2, .int x3] (wX1_run E o_p0 a_p0 o_t o_t_meadow a_t_meadow v_p0_families v_p0_wind v_p0_force v_p0_rain v_p0_lost v_p0_hour v_t_kind v_t_first v_t_second v_t_meadow_families v_t_meadow_wind v_t_meadow_force v_t_meadow_rain v_t_meadow_lost v_t_meadow_hour f_p0_home f_p0_seeds f_p0_lungs f_p0_blown f_p0_ground f_t_meadow_home f_t_meadow_seeds f_t_meadow_lungs f_t_meadow_blown f_t_meadow_ground) sz (wX1_run E o_p0 a_p0 o_t o_t_meadow a_t_meadow v_p0_families v_p0_wind v_p0_force v_p0_rain v_p0_lost v_p0_hour z_t_kind z_t_first z_t_second z_t_meadow_families z_t_meadow_wind z_t_meadow_force z_t_meadow_rain z_t_meadow_lost z_t_meadow_hour f_p0_home f_p0_seeds f_p0_lungs f_p0_blown f_p0_ground z_t_meadow_home z_t_meadow_seeds z_t_meadow_lungs z_t_meadow_blown z_t_meadow_ground) := by
  refine g_openV (own := RX1) (by decide) rfl (Nat.le_of_ble_eq_true rfl) (fun p e s m args below meth cd Q A hx hb hml hown hG hK hA hret hw ls hl => ?_)
  have hl : lv_has ls 6 [(0, .ref o_t), (1, .ref o_p0), (2, .int x2), (3, .int x3)] := hl
  have hret1 : ∀ (v_t_kind : Int32) (v_t_first : Int32) (v_t_second : Int32) (v_t_meadow_families : Int32) (v_t_meadow_wind : Int32) (v_t_meadow_force : Int32) (v_t_meadow_rain : Int32) (v_t_meadow_lost : Int32) (v_t_meadow_hour : Int32) (f_t_meadow_home : (Nat → Int32)) (f_t_meadow_seeds : (Nat → Int32)) (f_t_meadow_lungs : (Nat → Int32)) (f_t_meadow_blown : (Nat → Int32)) (f_t_meadow_ground : (Nat → Int32)) (H : Heap) (locs : List Loc) (pc : Nat) (ls : Array Slot), some (v_t_kind, v_t_first, v_t_second, v_t_meadow_families, v_t_meadow_wind, v_t_meadow_force, v_t_meadow_rain, v_t_meadow_lost, v_t_meadow_hour, f_t_meadow_home, f_t_meadow_seeds, f_t_meadow_lungs, f_t_meadow_blown, f_t_meadow_ground) = some (z_t_kind, z_t_first, z_t_second, z_t_meadow_families, z_t_meadow_wind, z_t_meadow_force, z_t_meadow_rain, z_t_meadow_lost, z_t_meadow_hour, z_t_meadow_home, z_t_meadow_seeds, z_t_meadow_lungs, z_t_meadow_blown, z_t_meadow_ground) → gS E A s.heap (wX1_run E o_p0 a_p0 o_t o_t_meadow a_t_meadow v_p0_families v_p0_wind v_p0_force v_p0_rain v_p0_lost v_p0_hour v_t_kind v_t_first v_t_second v_t_meadow_families v_t_meadow_wind v_t_meadow_force v_t_meadow_rain v_t_meadow_lost v_t_meadow_hour f_p0_home f_p0_seeds f_p0_lungs f_p0_blown f_p0_ground f_t_meadow_home f_t_meadow_seeds f_t_meadow_lungs f_t_meadow_blown f_t_meadow_ground) H locs → decode cX1_run pc = .ok (.return_, 1) → W p l e ({ frames := 4, cells := 0, slots := 0, locals := 94 } : Room) s m args below meth cd H locs 0 0 Q (F0 m pc ls []) := by
    intro v_t_kind v_t_first v_t_second v_t_meadow_families v_t_meadow_wind v_t_meadow_force v_t_meadow_rain v_t_meadow_lost v_t_meadow_hour f_t_meadow_home f_t_meadow_seeds f_t_meadow_lungs f_t_meadow_blown f_t_meadow_ground H locs pc ls h hw hd
    cases h
    exact hret H locs pc ls hw hd
  have B80 : ∀ (K14 : Int32 → Int32 → Int32 → Int32 → Int32 → Int32 → Int32 → Int32 → Int32 → (Nat → Int32) → (Nat → Int32) → (Nat → Int32) → (Nat → Int32) → (Nat → Int32) → Int32 → Int32 → Int32 → Option (Int32 × Int32 × Int32 × Int32 × Int32 × Int32 × Int32 × Int32 × Int32 × (Nat → Int32) × (Nat → Int32) × (Nat → Int32) × (Nat → Int32) × (Nat → Int32))) (hK14 : ∀ (v_t_kind : Int32) (v_t_first : Int32) (v_t_second : Int32) (v_t_meadow_families : Int32) (v_t_meadow_wind : Int32) (v_t_meadow_force : Int32) (v_t_meadow_rain : Int32) (v_t_meadow_lost : Int32) (v_t_meadow_hour : Int32) (f_t_meadow_home : (Nat → Int32)) (f_t_meadow_seeds : (Nat → Int32)) (f_t_meadow_lungs : (Nat → Int32)) (f_t_meadow_blown : (Nat → Int32)) (f_t_meadow_ground : (Nat → Int32)) (x3 : Int32) (x4 : Int32) (x5 : Int32) (H : Heap) (locs : List Loc) (ls : Array Slot), K14 v_t_kind v_t_first v_t_second v_t_meadow_families v_t_meadow_wind v_t_meadow_force v_t_meadow_rain v_t_meadow_lost v_t_meadow_hour f_t_meadow_home f_t_meadow_seeds f_t_meadow_lungs f_t_meadow_blown f_t_meadow_ground x3 x4 x5 = some (z_t_kind, z_t_first, z_t_second, z_t_meadow_families, z_t_meadow_wind, z_t_meadow_force, z_t_meadow_rain, z_t_meadow_lost, z_t_meadow_hour, z_t_meadow_home, z_t_meadow_seeds, z_t_meadow_lungs, z_t_meadow_blown, z_t_meadow_ground) → gS E A s.heap (wX1_run E o_p0 a_p0 o_t o_t_meadow a_t_meadow v_p0_families v_p0_wind v_p0_force v_p0_rain v_p0_lost v_p0_hour v_t_kind v_t_first v_t_second v_t_meadow_families v_t_meadow_wind v_t_meadow_force v_t_meadow_rain v_t_meadow_lost v_t_meadow_hour f_p0_home f_p0_seeds f_p0_lungs f_p0_blown f_p0_ground f_t_meadow_home f_t_meadow_seeds f_t_meadow_lungs f_t_meadow_blown f_t_meadow_ground) H locs → lv_has ls 6 [(0, .ref o_t), (3, .int x3), (4, .int x4), (5, .int x5)] → W p l e ({ frames := 4, cells := 0, slots := 0, locals := 94 } : Room) s m args below meth cd H locs 0 0 Q (F0 m 14 ls [])), ∀ (v_t_kind : Int32) (v_t_first : Int32) (v_t_second : Int32) (v_t_meadow_families : Int32) (v_t_meadow_wind : Int32) (v_t_meadow_force : Int32) (v_t_meadow_rain : Int32) (v_t_meadow_lost : Int32) (v_t_meadow_hour : Int32) (f_t_meadow_home : (Nat → Int32)) (f_t_meadow_seeds : (Nat → Int32)) (f_t_meadow_lungs : (Nat → Int32)) (f_t_meadow_blown : (Nat → Int32)) (f_t_meadow_ground : (Nat → Int32)) (x3 : Int32) (x4 : Int32) (x5 : Int32) (H : Heap) (locs : List Loc) (ls : Array Slot), fX1_run_b80 K14 v_t_kind v_t_first v_t_second v_t_meadow_families v_t_meadow_wind v_t_meadow_force v_t_meadow_rain v_t_meadow_lost v_t_meadow_hour f_t_meadow_home f_t_meadow_seeds f_t_meadow_lungs f_t_meadow_blown f_t_meadow_ground x3 x4 x5 = some (z_t_kind, z_t_first, z_t_second, z_t_meadow_families, z_t_meadow_wind, z_t_meadow_force, z_t_meadow_rain, z_t_meadow_lost, z_t_meadow_hour, z_t_meadow_home, z_t_meadow_seeds, z_t_meadow_lungs, z_t_meadow_blown, z_t_meadow_ground) → gS E A s.heap (wX1_run E o_p0 a_p0 o_t o_t_meadow a_t_meadow v_p0_families v_p0_wind v_p0_force v_p0_rain v_p0_lost v_p0_hour v_t_kind v_t_first v_t_second v_t_meadow_families v_t_meadow_wind v_t_meadow_force v_t_meadow_rain v_t_meadow_lost v_t_meadow_hour f_p0_home f_p0_seeds f_p0_lungs f_p0_blown f_p0_ground f_t_meadow_home f_t_meadow_seeds f_t_meadow_lungs f_t_meadow_blown f_t_meadow_ground) H locs → lv_has ls 6 [(0, .ref o_t), (3, .int x3), (4, .int x4), (5, .int x5)] → W p l e ({ frames := 4, cells := 0, slots := 0, locals := 94 } : Room) s m args below meth cd H locs 0 0 Q (F0 m 80 ls []) := by
    intro K14 hK14 v_t_kind v_t_first v_t_second v_t_meadow_families v_t_meadow_wind v_t_meadow_force v_t_meadow_rain v_t_meadow_lost v_t_meadow_hour f_t_meadow_home f_t_meadow_seeds f_t_meadow_lungs f_t_meadow_blown f_t_meadow_ground x3 x4 x5 H locs ls hf hw hl
    refine lv_iinc (lv' := [(5, .int (x5 + 1)), (0, .ref o_t), (3, .int x3), (4, .int x4)]) hx hb dX1_run_80 hl (k := 3) rfl (k_inc1 _) (Nat.le_of_ble_eq_true rfl) rfl (fun ls hl => ?_)
    refine lv_goto (tgt := 14) hx hb dX1_run_83 (by decide) ?_
    exact hK14 v_t_kind v_t_first v_t_second v_t_meadow_families v_t_meadow_wind v_t_meadow_force v_t_meadow_rain v_t_meadow_lost v_t_meadow_hour f_t_meadow_home f_t_meadow_seeds f_t_meadow_lungs f_t_meadow_blown f_t_meadow_ground x3 x4 (x5 + 1) _ _ _ hf hw (lv_sub hl [1, 2, 3, 0] rfl)
  have B14 : ∀ n : Nat, ∀ (v_t_kind : Int32) (v_t_first : Int32) (v_t_second : Int32) (v_t_meadow_families : Int32) (v_t_meadow_wind : Int32) (v_t_meadow_force : Int32) (v_t_meadow_rain : Int32) (v_t_meadow_lost : Int32) (v_t_meadow_hour : Int32) (f_t_meadow_home : (Nat → Int32)) (f_t_meadow_seeds : (Nat → Int32)) (f_t_meadow_lungs : (Nat → Int32)) (f_t_meadow_blown : (Nat → Int32)) (f_t_meadow_ground : (Nat → Int32)) (x3 : Int32) (x4 : Int32) (x5 : Int32) (H : Heap) (locs : List Loc) (ls : Array Slot), fX1_run_b14 n v_t_kind v_t_first v_t_second v_t_meadow_families v_t_meadow_wind v_t_meadow_force v_t_meadow_rain v_t_meadow_lost v_t_meadow_hour f_t_meadow_home f_t_meadow_seeds f_t_meadow_lungs f_t_meadow_blown f_t_meadow_ground x3 x4 x5 = some (z_t_kind, z_t_first, z_t_second, z_t_meadow_families, z_t_meadow_wind, z_t_meadow_force, z_t_meadow_rain, z_t_meadow_lost, z_t_meadow_hour, z_t_meadow_home, z_t_meadow_seeds, z_t_meadow_lungs, z_t_meadow_blown, z_t_meadow_ground) → gS E A s.heap (wX1_run E o_p0 a_p0 o_t o_t_meadow a_t_meadow v_p0_families v_p0_wind v_p0_force v_p0_rain v_p0_lost v_p0_hour v_t_kind v_t_first v_t_second v_t_meadow_families v_t_meadow_wind v_t_meadow_force v_t_meadow_rain v_t_meadow_lost v_t_meadow_hour f_p0_home f_p0_seeds f_p0_lungs f_p0_blown f_p0_ground f_t_meadow_home f_t_meadow_seeds f_t_meadow_lungs f_t_meadow_blown f_t_meadow_ground) H locs → lv_has ls 6 [(0, .ref o_t), (3, .int x3), (4, .int x4), (5, .int x5)] → W p l e ({ frames := 4, cells := 0, slots := 0, locals := 94 } : Room) s m args below meth cd H locs 0 0 Q (F0 m 14 ls []) := by
    intro n
    induction n with
    | zero => intro v_t_kind v_t_first v_t_second v_t_meadow_families v_t_meadow_wind v_t_meadow_force v_t_meadow_rain v_t_meadow_lost v_t_meadow_hour f_t_meadow_home f_t_meadow_seeds f_t_meadow_lungs f_t_meadow_blown f_t_meadow_ground x3 x4 x5 H locs ls hf hw hl; exact g_no hf
    | succ n ih =>
      intro v_t_kind v_t_first v_t_second v_t_meadow_families v_t_meadow_wind v_t_meadow_force v_t_meadow_rain v_t_meadow_lost v_t_meadow_hour f_t_meadow_home f_t_meadow_seeds f_t_meadow_lungs f_t_meadow_blown f_t_meadow_ground x3 x4 x5 H locs ls hf hw hl
      refine lv_iload hx hb dX1_run_14 (lv_at hl 3 rfl) ?_
      refine lv_iload_n hx hb dX1_run_16 rfl (lv_at hl 1 rfl) ?_
      refine lv_icmp_ge (tgt := 86) hx hb dX1_run_17 (by decide) (fun hc => ?_) (fun hc => ?_)
      · have hf := g_t hc hf
        exact hret1 v_t_kind v_t_first v_t_second v_t_meadow_families v_t_meadow_wind v_t_meadow_force v_t_meadow_rain v_t_meadow_lost v_t_meadow_hour f_t_meadow_home f_t_meadow_seeds f_t_meadow_lungs f_t_meadow_blown f_t_meadow_ground _ _ _ _ hf hw dX1_run_86
      · have hf := g_f hc hf
        refine lv_bipush (v := 75) hx hb dX1_run_20 k_b75 ?_
        refine lv_iload hx hb dX1_run_22 (lv_at hl 2 rfl) ?_
        refine lv_imul hx hb dX1_run_24 ?_
        refine lv_bipush (v := 74) hx hb dX1_run_25 k_b74 ?_
        refine lv_iadd hx hb dX1_run_27 ?_
        refine lv_ldc hx hb hown (hG _ wd_35_20) dX1_run_28 ?_
        refine g_irem hx hb dX1_run_30 (by decide) ?_
        refine lv_istore (lv' := [(4, .int (((75 * x4) + 74) % 65537)), (0, .ref o_t), (3, .int x3), (5, .int x5)]) hx hb dX1_run_31 hl (Nat.le_of_ble_eq_true rfl) rfl (fun ls hl => ?_)
        refine lv_aload_n hx hb dX1_run_33 rfl (lv_at hl 1 rfl) ?_
        refine lv_iload hx hb dX1_run_34 (lv_at hl 0 rfl) ?_
        obtain ⟨r1, hc2, hf⟩ := gB_s hf
        refine g_kv (is := [6]) (w1 := (wX1_drawAct E o_t o_t_meadow r1.1 r1.2.1 r1.2.2)) (ws' := (wX1_run E o_p0 a_p0 o_t o_t_meadow a_t_meadow v_p0_families v_p0_wind v_p0_force v_p0_rain v_p0_lost v_p0_hour r1.1 r1.2.1 r1.2.2 v_t_meadow_families v_t_meadow_wind v_t_meadow_force v_t_meadow_rain v_t_meadow_lost v_t_meadow_hour f_p0_home f_p0_seeds f_p0_lungs f_p0_blown f_p0_ground f_t_meadow_home f_t_meadow_seeds f_t_meadow_lungs f_t_meadow_blown f_t_meadow_ground)) hw hA (g_rV hx hb hml hG hown hK hw (is := [6]) rfl (by decide) (mX1_drawAct l E o_t o_t_meadow v_t_kind v_t_first v_t_second (((75 * x4) + 74) % 65537) r1.1 r1.2.1 r1.2.2 hc2) wd_35_22 wd_35_23 wd_36_0 wd_2_13 wd_36_1 hX1_drawAct g_allgood ⟨rfl, rfl⟩ ⟨Nat.le_of_ble_eq_true rfl, Nat.le_of_ble_eq_true rfl⟩ ⟨Nat.zero_le _, Nat.zero_le _⟩ (ci := 0) (q0 := 0) rfl rfl rfl rfl hl.1 rfl (Nat.le_of_ble_eq_true rfl) dX1_run_36) rfl rfl rfl (fun H locs hw => ?_)
        refine lv_aload_n hx hb dX1_run_39 rfl (lv_at hl 1 rfl) ?_
        refine g_get hx hb hG hown hK hw inlX1 (ci := 0) rfl 6 0 (Nat.le_of_ble_eq_true rfl) rfl rfl wd_5_13 dX1_run_40 ?_
        refine lv_aload_n hx hb dX1_run_43 rfl (lv_at hl 1 rfl) ?_
        refine g_get hx hb hG hown hK hw inlX1 (ci := 0) rfl 6 1 (Nat.le_of_ble_eq_true rfl) rfl rfl wd_5_14 dX1_run_44 ?_
        refine lv_aload_n hx hb dX1_run_47 rfl (lv_at hl 1 rfl) ?_
        refine g_get hx hb hG hown hK hw inlX1 (ci := 0) rfl 6 2 (Nat.le_of_ble_eq_true rfl) rfl rfl wd_5_15 dX1_run_48 ?_
        refine lv_aload_n hx hb dX1_run_51 rfl (lv_at hl 1 rfl) ?_
        refine g_get hx hb hG hown hK hw inlX1 (ci := 0) rfl 6 3 (Nat.le_of_ble_eq_true rfl) rfl rfl wd_5_16 dX1_run_52 ?_
        obtain ⟨r3, hc4, hf⟩ := gB_s hf
        refine g_ki (is := [7, 8, 9, 10, 11, 12]) (w1 := (wX0_whyNot E o_t_meadow a_t_meadow v_t_meadow_families v_t_meadow_wind v_t_meadow_force v_t_meadow_rain v_t_meadow_lost v_t_meadow_hour f_t_meadow_home f_t_meadow_seeds f_t_meadow_lungs f_t_meadow_blown f_t_meadow_ground)) (ws' := (wX1_run E o_p0 a_p0 o_t o_t_meadow a_t_meadow v_p0_families v_p0_wind v_p0_force v_p0_rain v_p0_lost v_p0_hour r1.1 r1.2.1 r1.2.2 v_t_meadow_families v_t_meadow_wind v_t_meadow_force v_t_meadow_rain v_t_meadow_lost v_t_meadow_hour f_p0_home f_p0_seeds f_p0_lungs f_p0_blown f_p0_ground f_t_meadow_home f_t_meadow_seeds f_t_meadow_lungs f_t_meadow_blown f_t_meadow_ground)) hw hA (g_rS hx hb hml hG hown hK hw (is := [7, 8, 9, 10, 11, 12]) rfl (by decide) (mX0_whyNot l E o_t_meadow a_t_meadow v_t_meadow_families v_t_meadow_wind v_t_meadow_force v_t_meadow_rain v_t_meadow_lost v_t_meadow_hour f_t_meadow_home f_t_meadow_seeds f_t_meadow_lungs f_t_meadow_blown f_t_meadow_ground r1.1 r1.2.1 r1.2.2 r3 hc4) wd_36_2 wd_16_6 wd_16_7 wd_16_8 hX0_whyNot g_allgood ⟨rfl, rfl⟩ ⟨Nat.le_of_ble_eq_true rfl, Nat.le_of_ble_eq_true rfl⟩ ⟨Nat.zero_le _, Nat.zero_le _⟩ rfl hl.1 rfl (Nat.le_of_ble_eq_true rfl) dX1_run_55) rfl rfl rfl (fun H locs hw => ?_)
        refine lv_if_ne (tgt := 80) hx hb dX1_run_58 (by decide) (fun hc => ?_) (fun hc => ?_)
        · have hf := g_f hc hf
          exact B80 (fX1_run_b14 n) ih r1.1 r1.2.1 r1.2.2 v_t_meadow_families v_t_meadow_wind v_t_meadow_force v_t_meadow_rain v_t_meadow_lost v_t_meadow_hour f_t_meadow_home f_t_meadow_seeds f_t_meadow_lungs f_t_meadow_blown f_t_meadow_ground x3 (((75 * x4) + 74) % 65537) x5 _ _ _ hf hw (lv_sub hl [1, 2, 0, 3] rfl)
        · have hf := g_t hc hf
          refine lv_aload_n hx hb dX1_run_61 rfl (lv_at hl 1 rfl) ?_
          refine g_get hx hb hG hown hK hw inlX1 (ci := 0) rfl 6 0 (Nat.le_of_ble_eq_true rfl) rfl rfl wd_5_13 dX1_run_62 ?_
          refine lv_aload_n hx hb dX1_run_65 rfl (lv_at hl 1 rfl) ?_
          refine g_get hx hb hG hown hK hw inlX1 (ci := 0) rfl 6 1 (Nat.le_of_ble_eq_true rfl) rfl rfl wd_5_14 dX1_run_66 ?_
          refine lv_aload_n hx hb dX1_run_69 rfl (lv_at hl 1 rfl) ?_
          refine g_get hx hb hG hown hK hw inlX1 (ci := 0) rfl 6 2 (Nat.le_of_ble_eq_true rfl) rfl rfl wd_5_15 dX1_run_70 ?_
          refine lv_aload_n hx hb dX1_run_73 rfl (lv_at hl 1 rfl) ?_
          refine g_get hx hb hG hown hK hw inlX1 (ci := 0) rfl 6 3 (Nat.le_of_ble_eq_true rfl) rfl rfl wd_5_16 dX1_run_74 ?_
          obtain ⟨r5, hc6, hf⟩ := gB_s hf
          refine g_kv (is := [7, 8, 9, 11, 12]) (w1 := (wX0_carryOut E o_t_meadow a_t_meadow v_t_meadow_families r5.1 r5.2.1 r5.2.2.1 r5.2.2.2.1 r5.2.2.2.2.1 f_t_meadow_home r5.2.2.2.2.2.1 r5.2.2.2.2.2.2.1 r5.2.2.2.2.2.2.2)) (ws' := (wX1_run E o_p0 a_p0 o_t o_t_meadow a_t_meadow v_p0_families v_p0_wind v_p0_force v_p0_rain v_p0_lost v_p0_hour r1.1 r1.2.1 r1.2.2 v_t_meadow_families r5.1 r5.2.1 r5.2.2.1 r5.2.2.2.1 r5.2.2.2.2.1 f_p0_home f_p0_seeds f_p0_lungs f_p0_blown f_p0_ground f_t_meadow_home r5.2.2.2.2.2.1 f_t_meadow_lungs r5.2.2.2.2.2.2.1 r5.2.2.2.2.2.2.2)) hw hA (g_rS hx hb hml hG hown hK hw (is := [7, 8, 9, 11, 12]) rfl (by decide) (mX0_carryOut l E o_t_meadow a_t_meadow v_t_meadow_families v_t_meadow_wind v_t_meadow_force v_t_meadow_rain v_t_meadow_lost v_t_meadow_hour f_t_meadow_home f_t_meadow_seeds f_t_meadow_blown f_t_meadow_ground r1.1 r1.2.1 r1.2.2 r5.1 r5.2.1 r5.2.2.1 r5.2.2.2.1 r5.2.2.2.2.1 r5.2.2.2.2.2.1 r5.2.2.2.2.2.2.1 r5.2.2.2.2.2.2.2 hc6) wd_36_3 wd_17_4 wd_16_7 wd_17_5 hX0_carryOut g_allgood ⟨rfl, rfl⟩ ⟨Nat.le_of_ble_eq_true rfl, Nat.le_of_ble_eq_true rfl⟩ ⟨Nat.zero_le _, Nat.zero_le _⟩ rfl hl.1 rfl (Nat.le_of_ble_eq_true rfl) dX1_run_77) rfl rfl rfl (fun H locs hw => ?_)
          exact B80 (fX1_run_b14 n) ih r1.1 r1.2.1 r1.2.2 v_t_meadow_families r5.1 r5.2.1 r5.2.2.1 r5.2.2.2.1 r5.2.2.2.2.1 f_t_meadow_home r5.2.2.2.2.2.1 f_t_meadow_lungs r5.2.2.2.2.2.2.1 r5.2.2.2.2.2.2.2 x3 (((75 * x4) + 74) % 65537) x5 _ _ _ hf hw (lv_sub hl [1, 2, 0, 3] rfl)
  refine lv_aload_n hx hb dX1_run_0 rfl (lv_at hl 0 rfl) ?_
  refine g_get hx hb hG hown hK hw inlX1 (ci := 0) rfl 6 0 (Nat.le_of_ble_eq_true rfl) rfl rfl wd_5_13 dX1_run_1 ?_
  refine lv_aload_n hx hb dX1_run_4 rfl (lv_at hl 1 rfl) ?_
  obtain ⟨r7, hc8, hf⟩ := gB_s hf
  refine g_kv (is := [0, 1, 2, 3, 4, 5, 7, 8, 9, 10, 11, 12]) (w1 := (wX6_copyFrom E o_p0 a_p0 o_t_meadow a_t_meadow v_p0_families v_p0_wind v_p0_force v_p0_rain v_p0_lost v_p0_hour r7.1 r7.2.1 r7.2.2.1 r7.2.2.2.1 r7.2.2.2.2.1 r7.2.2.2.2.2.1 f_p0_home f_p0_seeds f_p0_lungs f_p0_blown f_p0_ground r7.2.2.2.2.2.2.1 r7.2.2.2.2.2.2.2.1 r7.2.2.2.2.2.2.2.2.1 r7.2.2.2.2.2.2.2.2.2.1 r7.2.2.2.2.2.2.2.2.2.2)) (ws' := (wX1_run E o_p0 a_p0 o_t o_t_meadow a_t_meadow v_p0_families v_p0_wind v_p0_force v_p0_rain v_p0_lost v_p0_hour v_t_kind v_t_first v_t_second r7.1 r7.2.1 r7.2.2.1 r7.2.2.2.1 r7.2.2.2.2.1 r7.2.2.2.2.2.1 f_p0_home f_p0_seeds f_p0_lungs f_p0_blown f_p0_ground r7.2.2.2.2.2.2.1 r7.2.2.2.2.2.2.2.1 r7.2.2.2.2.2.2.2.2.1 r7.2.2.2.2.2.2.2.2.2.1 r7.2.2.2.2.2.2.2.2.2.2)) hw hA (g_rV hx hb hml hG hown hK hw (is := [0, 1, 2, 3, 4, 5, 7, 8, 9, 10, 11, 12]) rfl (by decide) (mX6_copyFrom l E o_p0 a_p0 o_t_meadow a_t_meadow v_p0_families v_p0_wind v_p0_force v_p0_rain v_p0_lost v_p0_hour v_t_meadow_families v_t_meadow_wind v_t_meadow_force v_t_meadow_rain v_t_meadow_lost v_t_meadow_hour f_p0_home f_p0_seeds f_p0_lungs f_p0_blown f_p0_ground f_t_meadow_home f_t_meadow_seeds f_t_meadow_lungs f_t_meadow_blown f_t_meadow_ground r7.1 r7.2.1 r7.2.2.1 r7.2.2.2.1 r7.2.2.2.2.1 r7.2.2.2.2.2.1 r7.2.2.2.2.2.2.1 r7.2.2.2.2.2.2.2.1 r7.2.2.2.2.2.2.2.2.1 r7.2.2.2.2.2.2.2.2.2.1 r7.2.2.2.2.2.2.2.2.2.2 hc8) wd_35_21 wd_15_16 wd_15_17 wd_2_20 wd_15_18 hX6_copyFrom g_allgood ⟨rfl, rfl⟩ ⟨Nat.le_of_ble_eq_true rfl, Nat.le_of_ble_eq_true rfl⟩ ⟨Nat.zero_le _, Nat.zero_le _⟩ (ci := 5) (q0 := 6) rfl rfl rfl rfl hl.1 rfl (Nat.le_of_ble_eq_true rfl) dX1_run_5) rfl rfl rfl (fun H locs hw => ?_)
  refine lv_iload_n hx hb dX1_run_8 rfl (lv_at hl 2 rfl) ?_
  refine lv_istore (lv' := [(4, .int x2), (0, .ref o_t), (1, .ref o_p0), (2, .int x2), (3, .int x3)]) hx hb dX1_run_9 hl (Nat.le_of_ble_eq_true rfl) rfl (fun ls hl => ?_)
  refine lv_iconst (v := 0) hx hb dX1_run_11 k_i0 ?_
  refine lv_istore (lv' := [(5, .int 0), (4, .int x2), (0, .ref o_t), (1, .ref o_p0), (2, .int x2), (3, .int x3)]) hx hb dX1_run_12 hl (Nat.le_of_ble_eq_true rfl) rfl (fun ls hl => ?_)
  exact B14 1000 v_t_kind v_t_first v_t_second r7.1 r7.2.1 r7.2.2.1 r7.2.2.2.1 r7.2.2.2.2.1 r7.2.2.2.2.2.1 r7.2.2.2.2.2.2.1 r7.2.2.2.2.2.2.2.1 r7.2.2.2.2.2.2.2.2.1 r7.2.2.2.2.2.2.2.2.2.1 r7.2.2.2.2.2.2.2.2.2.2 x3 x2 0 _ _ _ hf hw (lv_sub hl [2, 5, 1, 0] rfl)
theorem hX9_allAreBy : yX9_allAreBy.cls = RX9 ∧ yX9_allAreBy.cls ≠ "java/lang/invoke/MethodHandle" ∧ yX9_allAreBy.cls ≠ "java/lang/invoke/VarHandle" ∧ (parseMethodDescriptor yX9_allAreBy.desc).map (fun d => d.parameters.length) = some 2 := by decide +kernel
set_option maxHeartbeats 4000000 in
set_option maxRecDepth 100000 in
theorem mX9_allAreBy (l : Launch) (E : gE) (o_t : Nat) (a_t : (Nat → Nat)) (v_t_count : Int32) (f_t_breaths : (Nat → Int32)) (f_t_flews : (Nat → Int32)) (x1 : Int32) (x2 : Int32) (rv : Int32) (hf : fX9_allAreBy v_t_count f_t_breaths f_t_flews x1 x2 = some rv) {sz : Nat} : gMi l yX9_allAreBy (gW yX9_allAreBy cX9_allAreBy 4 (some .boolean)) ({ frames := 1, cells := 0, slots := 0, locals := 13 } : Room) E [.ref o_t, .int x1, .int x2] (wX9_allAreBy E o_t a_t v_t_count f_t_breaths f_t_flews) sz rv (wX9_allAreBy E o_t a_t v_t_count f_t_breaths f_t_flews) := by
  refine g_openZ (own := RX9) (by decide) rfl (Nat.le_of_ble_eq_true rfl) (fun p e s m args below meth cd Q A hx hb hml hown hG hK hA hret hw ls hl => ?_)
  have hl : lv_has ls 4 [(0, .ref o_t), (1, .int x1), (2, .int x2)] := hl
  have hret1 : ∀ (v : Int32)  (H : Heap) (locs : List Loc) (pc : Nat) (ls : Array Slot), some v = some rv → v &&& 1 = v → gS E A s.heap (wX9_allAreBy E o_t a_t v_t_count f_t_breaths f_t_flews) H locs → decode cX9_allAreBy pc = .ok (.ireturn, 1) → W p l e ({ frames := 1, cells := 0, slots := 0, locals := 13 } : Room) s m args below meth cd H locs 0 0 Q (F0 m pc ls [.int v]) := by
    intro v  H locs pc ls h hz hw hd
    cases h
    exact hret H locs pc ls hz hw hd
  have B45 : ∀ (H : Heap) (locs : List Loc) (ls : Array Slot), fX9_allAreBy_b45 = some rv → gS E A s.heap (wX9_allAreBy E o_t a_t v_t_count f_t_breaths f_t_flews) H locs → lv_has ls 4 [] → W p l e ({ frames := 1, cells := 0, slots := 0, locals := 13 } : Room) s m args below meth cd H locs 0 0 Q (F0 m 45 ls []) := by
    intro   H locs ls hf hw hl
    refine lv_iconst (v := 1) hx hb dX9_allAreBy_45 k_i1 ?_
    obtain ⟨hz1, hf⟩ := gZ_s hf
    exact hret1 1 _ _ _ _ hf hz1 hw dX9_allAreBy_46
  have B2 : ∀ n : Nat, ∀ (x1 : Int32) (x2 : Int32) (x3 : Int32) (H : Heap) (locs : List Loc) (ls : Array Slot), fX9_allAreBy_b2 v_t_count f_t_breaths f_t_flews n x1 x2 x3 = some rv → gS E A s.heap (wX9_allAreBy E o_t a_t v_t_count f_t_breaths f_t_flews) H locs → lv_has ls 4 [(0, .ref o_t), (1, .int x1), (2, .int x2), (3, .int x3)] → W p l e ({ frames := 1, cells := 0, slots := 0, locals := 13 } : Room) s m args below meth cd H locs 0 0 Q (F0 m 2 ls []) := by
    intro n
    induction n with
    | zero => intro x1 x2 x3 H locs ls hf hw hl; exact g_no hf
    | succ n ih =>
      intro x1 x2 x3 H locs ls hf hw hl
      refine lv_iload_n hx hb dX9_allAreBy_2 rfl (lv_at hl 3 rfl) ?_
      refine lv_aload_n hx hb dX9_allAreBy_3 rfl (lv_at hl 0 rfl) ?_
      refine g_get hx hb hG hown hK hw inlX9 (ci := 7) rfl 0 2 (Nat.le_of_ble_eq_true rfl) rfl rfl wd_3_22 dX9_allAreBy_4 ?_
      refine lv_icmp_ge (tgt := 45) hx hb dX9_allAreBy_7 (by decide) (fun hc => ?_) (fun hc => ?_)
      · have hf := g_t hc hf
        exact B45 _ _ _ hf hw (lv_sub hl [] rfl)
      · have hf := g_f hc hf
        refine lv_iload_n hx hb dX9_allAreBy_10 rfl (lv_at hl 3 rfl) ?_
        refine lv_bipush (v := 8) hx hb dX9_allAreBy_11 k_b8 ?_
        refine lv_icmp_ge (tgt := 45) hx hb dX9_allAreBy_13 (by decide) (fun hc => ?_) (fun hc => ?_)
        · have hf := g_t hc hf
          exact B45 _ _ _ hf hw (lv_sub hl [] rfl)
        · have hf := g_f hc hf
          refine lv_aload_n hx hb dX9_allAreBy_16 rfl (lv_at hl 0 rfl) ?_
          refine g_get hx hb hG hown hK hw inlX9 (ci := 7) rfl 0 0 (Nat.le_of_ble_eq_true rfl) rfl rfl wd_3_20 dX9_allAreBy_17 ?_
          refine lv_iload_n hx hb dX9_allAreBy_20 rfl (lv_at hl 3 rfl) ?_
          obtain ⟨hi2, hf⟩ := gA_s hf
          refine g_iald hx hb hK hw 1 rfl hi2 dX9_allAreBy_21 ?_
          refine lv_iload_n hx hb dX9_allAreBy_22 rfl (lv_at hl 1 rfl) ?_
          refine lv_imul hx hb dX9_allAreBy_23 ?_
          refine lv_iload_n hx hb dX9_allAreBy_24 rfl (lv_at hl 2 rfl) ?_
          refine va_mmin hx hb (hml.trans hl.1.symm) hown (hG _ wd_32_3) (hG _ wd_18_4) (hG _ wd_18_5) (hG _ wd_18_6) (Nat.le_of_ble_eq_true rfl) (Nat.le_of_ble_eq_true rfl) (Nat.zero_le _) (Nat.zero_le _) dX9_allAreBy_25 ?_
          refine lv_aload_n hx hb dX9_allAreBy_28 rfl (lv_at hl 0 rfl) ?_
          refine g_get hx hb hG hown hK hw inlX9 (ci := 7) rfl 0 1 (Nat.le_of_ble_eq_true rfl) rfl rfl wd_3_21 dX9_allAreBy_29 ?_
          refine lv_iload_n hx hb dX9_allAreBy_32 rfl (lv_at hl 3 rfl) ?_
          obtain ⟨hi3, hf⟩ := gA_s hf
          refine g_iald hx hb hK hw 2 rfl hi3 dX9_allAreBy_33 ?_
          refine lv_icmp_eq (tgt := 39) hx hb dX9_allAreBy_34 (by decide) (fun hc => ?_) (fun hc => ?_)
          · have hf := g_t hc hf
            refine lv_iinc (lv' := [(3, .int (x3 + 1)), (0, .ref o_t), (1, .int x1), (2, .int x2)]) hx hb dX9_allAreBy_39 hl (k := 3) rfl (k_inc1 _) (Nat.le_of_ble_eq_true rfl) rfl (fun ls hl => ?_)
            refine lv_goto (tgt := 2) hx hb dX9_allAreBy_42 (by decide) ?_
            exact ih x1 x2 (x3 + 1) _ _ _ hf hw (lv_sub hl [1, 2, 3, 0] rfl)
          · have hf := g_f hc hf
            refine lv_iconst (v := 0) hx hb dX9_allAreBy_37 k_i0 ?_
            obtain ⟨hz4, hf⟩ := gZ_s hf
            exact hret1 0 _ _ _ _ hf hz4 hw dX9_allAreBy_38
  refine lv_iconst (v := 0) hx hb dX9_allAreBy_0 k_i0 ?_
  refine lv_istore_n (lv' := [(3, .int 0), (0, .ref o_t), (1, .int x1), (2, .int x2)]) hx hb dX9_allAreBy_1 rfl hl (Nat.le_of_ble_eq_true rfl) rfl (fun ls hl => ?_)
  exact B2 1000 x1 x2 0 _ _ _ hf hw (lv_sub hl [1, 2, 3, 0] rfl)
theorem hX2_gather : yX2_gather.cls = RX2 ∧ yX2_gather.cls ≠ "java/lang/invoke/MethodHandle" ∧ yX2_gather.cls ≠ "java/lang/invoke/VarHandle" ∧ (parseMethodDescriptor yX2_gather.desc).map (fun d => d.parameters.length) = some 1 := by decide +kernel
set_option maxHeartbeats 4000000 in
set_option maxRecDepth 100000 in
theorem mX2_gather (l : Launch) (E : gE) (o_p0 : Nat) (a_p0 : (Nat → Nat)) (o_t : Nat) (a_t : (Nat → Nat)) (v_p0_count : Int32) (v_t_count : Int32) (f_p0_breaths : (Nat → Int32)) (f_p0_flews : (Nat → Int32)) (f_t_twos : (Nat → Int32)) (z_t_count : Int32) (z_t_twos : (Nat → Int32)) (hf : fX2_gather v_p0_count v_t_count f_p0_breaths f_p0_flews f_t_twos = some (z_t_count, z_t_twos)) {sz : Nat} : gMv l yX2_gather (gW yX2_gather cX2_gather 4 none) ({ frames := 2, cells := 0, slots := 0, locals := 36 } : Room) E [.ref o_t, .ref o_p0] (wX2_gather E o_p0 a_p0 o_t a_t v_p0_count v_t_count f_p0_breaths f_p0_flews f_t_twos) sz (wX2_gather E o_p0 a_p0 o_t a_t v_p0_count z_t_count f_p0_breaths f_p0_flews z_t_twos) := by
  refine g_openV (own := RX2) (by decide) rfl (Nat.le_of_ble_eq_true rfl) (fun p e s m args below meth cd Q A hx hb hml hown hG hK hA hret hw ls hl => ?_)
  have hl : lv_has ls 4 [(0, .ref o_t), (1, .ref o_p0)] := hl
  have hret1 : ∀ (v_t_count : Int32) (f_t_twos : (Nat → Int32)) (H : Heap) (locs : List Loc) (pc : Nat) (ls : Array Slot), some (v_t_count, f_t_twos) = some (z_t_count, z_t_twos) → gS E A s.heap (wX2_gather E o_p0 a_p0 o_t a_t v_p0_count v_t_count f_p0_breaths f_p0_flews f_t_twos) H locs → decode cX2_gather pc = .ok (.return_, 1) → W p l e ({ frames := 2, cells := 0, slots := 0, locals := 36 } : Room) s m args below meth cd H locs 0 0 Q (F0 m pc ls []) := by
    intro v_t_count f_t_twos H locs pc ls h hw hd
    cases h
    exact hret H locs pc ls hw hd
  have B67 : ∀ (K15 : Int32 → (Nat → Int32) → Int32 → Int32 → Option (Int32 × (Nat → Int32))) (hK15 : ∀ (v_t_count : Int32) (f_t_twos : (Nat → Int32)) (x2 : Int32) (x3 : Int32) (H : Heap) (locs : List Loc) (ls : Array Slot), K15 v_t_count f_t_twos x2 x3 = some (z_t_count, z_t_twos) → gS E A s.heap (wX2_gather E o_p0 a_p0 o_t a_t v_p0_count v_t_count f_p0_breaths f_p0_flews f_t_twos) H locs → lv_has ls 4 [(0, .ref o_t), (1, .ref o_p0), (2, .int x2), (3, .int x3)] → W p l e ({ frames := 2, cells := 0, slots := 0, locals := 36 } : Room) s m args below meth cd H locs 0 0 Q (F0 m 15 ls [])), ∀ (v_t_count : Int32) (f_t_twos : (Nat → Int32)) (x2 : Int32) (x3 : Int32) (H : Heap) (locs : List Loc) (ls : Array Slot), fX2_gather_b67 K15 v_p0_count f_p0_breaths f_p0_flews v_t_count f_t_twos x2 x3 = some (z_t_count, z_t_twos) → gS E A s.heap (wX2_gather E o_p0 a_p0 o_t a_t v_p0_count v_t_count f_p0_breaths f_p0_flews f_t_twos) H locs → lv_has ls 4 [(0, .ref o_t), (1, .ref o_p0), (2, .int x2), (3, .int x3)] → W p l e ({ frames := 2, cells := 0, slots := 0, locals := 36 } : Room) s m args below meth cd H locs 0 0 Q (F0 m 67 ls []) := by
    intro K15 hK15 v_t_count f_t_twos x2 x3 H locs ls hf hw hl
    refine lv_iinc (lv' := [(3, .int (x3 + 1)), (0, .ref o_t), (1, .ref o_p0), (2, .int x2)]) hx hb dX2_gather_67 hl (k := 3) rfl (k_inc1 _) (Nat.le_of_ble_eq_true rfl) rfl (fun ls hl => ?_)
    refine lv_goto (tgt := 15) hx hb dX2_gather_70 (by decide) ?_
    exact hK15 v_t_count f_t_twos x2 (x3 + 1) _ _ _ hf hw (lv_sub hl [1, 2, 3, 0] rfl)
  have B15 : ∀ (K7 : Int32 → (Nat → Int32) → Int32 → Option (Int32 × (Nat → Int32))) (hK7 : ∀ (v_t_count : Int32) (f_t_twos : (Nat → Int32)) (x2 : Int32) (H : Heap) (locs : List Loc) (ls : Array Slot), K7 v_t_count f_t_twos x2 = some (z_t_count, z_t_twos) → gS E A s.heap (wX2_gather E o_p0 a_p0 o_t a_t v_p0_count v_t_count f_p0_breaths f_p0_flews f_t_twos) H locs → lv_has ls 4 [(0, .ref o_t), (1, .ref o_p0), (2, .int x2)] → W p l e ({ frames := 2, cells := 0, slots := 0, locals := 36 } : Room) s m args below meth cd H locs 0 0 Q (F0 m 7 ls [])), ∀ n : Nat, ∀ (v_t_count : Int32) (f_t_twos : (Nat → Int32)) (x2 : Int32) (x3 : Int32) (H : Heap) (locs : List Loc) (ls : Array Slot), fX2_gather_b15 K7 v_p0_count f_p0_breaths f_p0_flews n v_t_count f_t_twos x2 x3 = some (z_t_count, z_t_twos) → gS E A s.heap (wX2_gather E o_p0 a_p0 o_t a_t v_p0_count v_t_count f_p0_breaths f_p0_flews f_t_twos) H locs → lv_has ls 4 [(0, .ref o_t), (1, .ref o_p0), (2, .int x2), (3, .int x3)] → W p l e ({ frames := 2, cells := 0, slots := 0, locals := 36 } : Room) s m args below meth cd H locs 0 0 Q (F0 m 15 ls []) := by
    intro K7 hK7
    intro n
    induction n with
    | zero => intro v_t_count f_t_twos x2 x3 H locs ls hf hw hl; exact g_no hf
    | succ n ih =>
      intro v_t_count f_t_twos x2 x3 H locs ls hf hw hl
      refine lv_iload_n hx hb dX2_gather_15 rfl (lv_at hl 3 rfl) ?_
      refine lv_bipush (v := 40) hx hb dX2_gather_16 k_b40 ?_
      refine lv_icmp_gt (tgt := 73) hx hb dX2_gather_18 (by decide) (fun hc => ?_) (fun hc => ?_)
      · have hf := g_t hc hf
        refine lv_iinc (lv' := [(2, .int (x2 + 1)), (0, .ref o_t), (1, .ref o_p0), (3, .int x3)]) hx hb dX2_gather_73 hl (k := 2) rfl (k_inc1 _) (Nat.le_of_ble_eq_true rfl) rfl (fun ls hl => ?_)
        refine lv_goto (tgt := 7) hx hb dX2_gather_76 (by decide) ?_
        exact hK7 v_t_count f_t_twos (x2 + 1) _ _ _ hf hw (lv_sub hl [1, 2, 0] rfl)
      · have hf := g_f hc hf
        refine lv_aload_n hx hb dX2_gather_21 rfl (lv_at hl 0 rfl) ?_
        refine g_get hx hb hG hown hK hw inlX2 (ci := 1) rfl 3 1 (Nat.le_of_ble_eq_true rfl) rfl rfl wd_5_5 dX2_gather_22 ?_
        refine lv_aload_n hx hb dX2_gather_25 rfl (lv_at hl 0 rfl) ?_
        refine g_get hx hb hG hown hK hw inlX2 (ci := 1) rfl 3 0 (Nat.le_of_ble_eq_true rfl) rfl rfl wd_5_4 dX2_gather_26 ?_
        refine g_alen hx hb hK hw 4 rfl dX2_gather_29 ?_
        refine lv_icmp_ge (tgt := 67) hx hb dX2_gather_30 (by decide) (fun hc => ?_) (fun hc => ?_)
        · have hf := g_t hc hf
          exact B67 (fX2_gather_b15 K7 v_p0_count f_p0_breaths f_p0_flews n) ih v_t_count f_t_twos x2 x3 _ _ _ hf hw (lv_sub hl [0, 1, 2, 3] rfl)
        · have hf := g_f hc hf
          refine lv_aload_n hx hb dX2_gather_33 rfl (lv_at hl 1 rfl) ?_
          refine lv_iload_n hx hb dX2_gather_34 rfl (lv_at hl 2 rfl) ?_
          refine lv_iload_n hx hb dX2_gather_35 rfl (lv_at hl 3 rfl) ?_
          obtain ⟨r1, hc2, hf⟩ := gB_s hf
          refine g_ki (is := [0, 1, 2]) (w1 := (wX9_allAreBy E o_p0 a_p0 v_p0_count f_p0_breaths f_p0_flews)) (ws' := (wX2_gather E o_p0 a_p0 o_t a_t v_p0_count v_t_count f_p0_breaths f_p0_flews f_t_twos)) hw hA (g_rV hx hb hml hG hown hK hw (is := [0, 1, 2]) rfl (by decide) (mX9_allAreBy l E o_p0 a_p0 v_p0_count f_p0_breaths f_p0_flews x2 x3 r1 hc2) wd_31_23 wd_32_0 wd_32_1 wd_3_0 wd_32_2 hX9_allAreBy g_allgood ⟨rfl, rfl⟩ ⟨Nat.le_of_ble_eq_true rfl, Nat.le_of_ble_eq_true rfl⟩ ⟨Nat.zero_le _, Nat.zero_le _⟩ (ci := 7) (q0 := 0) rfl rfl rfl rfl hl.1 rfl (Nat.le_of_ble_eq_true rfl) dX2_gather_36) rfl rfl rfl (fun H locs hw => ?_)
          refine lv_if_eq (tgt := 67) hx hb dX2_gather_39 (by decide) (fun hc => ?_) (fun hc => ?_)
          · have hf := g_t hc hf
            exact B67 (fX2_gather_b15 K7 v_p0_count f_p0_breaths f_p0_flews n) ih v_t_count f_t_twos x2 x3 _ _ _ hf hw (lv_sub hl [0, 1, 2, 3] rfl)
          · have hf := g_f hc hf
            refine lv_aload_n hx hb dX2_gather_42 rfl (lv_at hl 0 rfl) ?_
            refine g_get hx hb hG hown hK hw inlX2 (ci := 1) rfl 3 0 (Nat.le_of_ble_eq_true rfl) rfl rfl wd_5_4 dX2_gather_43 ?_
            refine lv_aload_n hx hb dX2_gather_46 rfl (lv_at hl 0 rfl) ?_
            refine g_get hx hb hG hown hK hw inlX2 (ci := 1) rfl 3 1 (Nat.le_of_ble_eq_true rfl) rfl rfl wd_5_5 dX2_gather_47 ?_
            refine lv_bipush (v := 100) hx hb dX2_gather_50 k_b100 ?_
            refine lv_iload_n hx hb dX2_gather_52 rfl (lv_at hl 2 rfl) ?_
            refine lv_imul hx hb dX2_gather_53 ?_
            refine lv_iload_n hx hb dX2_gather_54 rfl (lv_at hl 3 rfl) ?_
            refine lv_iadd hx hb dX2_gather_55 ?_
            obtain ⟨hi3, hf⟩ := gA_s hf
            refine g_iast (ws' := (wX2_gather E o_p0 a_p0 o_t a_t v_p0_count v_t_count f_p0_breaths f_p0_flews (upd f_t_twos (Int32.toNatClampNeg v_t_count) ((100 * x2) + x3)))) hx hb hK hw 4 rfl hi3 rfl dX2_gather_56 (fun H locs hw => ?_)
            refine lv_aload_n hx hb dX2_gather_57 rfl (lv_at hl 0 rfl) ?_
            refine lv_dup hx hb dX2_gather_58 rfl ?_
            refine g_get hx hb hG hown hK hw inlX2 (ci := 1) rfl 3 1 (Nat.le_of_ble_eq_true rfl) rfl rfl wd_5_5 dX2_gather_59 ?_
            refine lv_iconst (v := 1) hx hb dX2_gather_62 k_i1 ?_
            refine lv_iadd hx hb dX2_gather_63 ?_
            refine g_put (ws' := (wX2_gather E o_p0 a_p0 o_t a_t v_p0_count (v_t_count + 1) f_p0_breaths f_p0_flews (upd f_t_twos (Int32.toNatClampNeg v_t_count) ((100 * x2) + x3)))) hx hb hG hown hK hw inlX2 tyX2_ok nmX2 (ci := 1) rfl 3 1 (Nat.le_of_ble_eq_true rfl) rfl wd_5_5 rfl rfl rfl (Nat.le_of_ble_eq_true rfl) rfl dX2_gather_64 (fun H locs hw => ?_)
            exact B67 (fX2_gather_b15 K7 v_p0_count f_p0_breaths f_p0_flews n) ih (v_t_count + 1) (upd f_t_twos (Int32.toNatClampNeg v_t_count) ((100 * x2) + x3)) x2 x3 _ _ _ hf hw (lv_sub hl [0, 1, 2, 3] rfl)
  have B7 : ∀ n : Nat, ∀ (v_t_count : Int32) (f_t_twos : (Nat → Int32)) (x2 : Int32) (H : Heap) (locs : List Loc) (ls : Array Slot), fX2_gather_b7 v_p0_count f_p0_breaths f_p0_flews n v_t_count f_t_twos x2 = some (z_t_count, z_t_twos) → gS E A s.heap (wX2_gather E o_p0 a_p0 o_t a_t v_p0_count v_t_count f_p0_breaths f_p0_flews f_t_twos) H locs → lv_has ls 4 [(0, .ref o_t), (1, .ref o_p0), (2, .int x2)] → W p l e ({ frames := 2, cells := 0, slots := 0, locals := 36 } : Room) s m args below meth cd H locs 0 0 Q (F0 m 7 ls []) := by
    intro n
    induction n with
    | zero => intro v_t_count f_t_twos x2 H locs ls hf hw hl; exact g_no hf
    | succ n ih =>
      intro v_t_count f_t_twos x2 H locs ls hf hw hl
      refine lv_iload_n hx hb dX2_gather_7 rfl (lv_at hl 2 rfl) ?_
      refine lv_bipush (v := 9) hx hb dX2_gather_8 k_b9 ?_
      refine lv_icmp_gt (tgt := 79) hx hb dX2_gather_10 (by decide) (fun hc => ?_) (fun hc => ?_)
      · have hf := g_t hc hf
        exact hret1 v_t_count f_t_twos _ _ _ _ hf hw dX2_gather_79
      · have hf := g_f hc hf
        refine lv_iconst (v := 1) hx hb dX2_gather_13 k_i1 ?_
        refine lv_istore_n (lv' := [(3, .int 1), (0, .ref o_t), (1, .ref o_p0), (2, .int x2)]) hx hb dX2_gather_14 rfl hl (Nat.le_of_ble_eq_true rfl) rfl (fun ls hl => ?_)
        exact B15 (fX2_gather_b7 v_p0_count f_p0_breaths f_p0_flews n) ih 1000 v_t_count f_t_twos x2 1 _ _ _ hf hw (lv_sub hl [1, 2, 3, 0] rfl)
  refine lv_aload_n hx hb dX2_gather_0 rfl (lv_at hl 0 rfl) ?_
  refine lv_iconst (v := 0) hx hb dX2_gather_1 k_i0 ?_
  refine g_put (ws' := (wX2_gather E o_p0 a_p0 o_t a_t v_p0_count 0 f_p0_breaths f_p0_flews f_t_twos)) hx hb hG hown hK hw inlX2 tyX2_ok nmX2 (ci := 1) rfl 3 1 (Nat.le_of_ble_eq_true rfl) rfl wd_5_5 rfl rfl rfl (Nat.le_of_ble_eq_true rfl) rfl dX2_gather_2 (fun H locs hw => ?_)
  refine lv_iconst (v := 1) hx hb dX2_gather_5 k_i1 ?_
  refine lv_istore_n (lv' := [(2, .int 1), (0, .ref o_t), (1, .ref o_p0)]) hx hb dX2_gather_6 rfl hl (Nat.le_of_ble_eq_true rfl) rfl (fun ls hl => ?_)
  exact B7 1000 0 f_t_twos 1 _ _ _ hf hw (lv_sub hl [1, 2, 0] rfl)
theorem hX10_within : yX10_within.cls ≠ "java/lang/invoke/MethodHandle" ∧ yX10_within.cls ≠ "java/lang/invoke/VarHandle" ∧ (parseMethodDescriptor yX10_within.desc).map (fun d => d.parameters.length) = some 3 := by decide +kernel
set_option maxHeartbeats 4000000 in
set_option maxRecDepth 100000 in
theorem mX10_within (l : Launch) (E : gE) (x0 : Int32) (x1 : Int32) (x2 : Int32) (rv : Int32) (hf : fX10_within x0 x1 x2 = some rv) {sz : Nat} : gMi l yX10_within (gW yX10_within cX10_within 3 (some .boolean)) ({ frames := 0, cells := 0, slots := 0, locals := 0 } : Room) E [.int x0, .int x1, .int x2] (wX10_within E) sz rv (wX10_within E) := by
  refine g_openZ (own := RX10) (by decide) rfl (Nat.le_of_ble_eq_true rfl) (fun p e s m args below meth cd Q A hx hb hml hown hG hK hA hret hw ls hl => ?_)
  have hl : lv_has ls 3 [(0, .int x0), (1, .int x1), (2, .int x2)] := hl
  have hret1 : ∀ (v : Int32)  (H : Heap) (locs : List Loc) (pc : Nat) (ls : Array Slot), some v = some rv → v &&& 1 = v → gS E A s.heap (wX10_within E) H locs → decode cX10_within pc = .ok (.ireturn, 1) → W p l e ({ frames := 0, cells := 0, slots := 0, locals := 0 } : Room) s m args below meth cd H locs 0 0 Q (F0 m pc ls [.int v]) := by
    intro v  H locs pc ls h hz hw hd
    cases h
    exact hret H locs pc ls hz hw hd
  have B15 : ∀ (s0 : Int32) (H : Heap) (locs : List Loc) (ls : Array Slot), fX10_within_b15 s0 = some rv → gS E A s.heap (wX10_within E) H locs → lv_has ls 3 [] → W p l e ({ frames := 0, cells := 0, slots := 0, locals := 0 } : Room) s m args below meth cd H locs 0 0 Q (F0 m 15 ls [.int s0]) := by
    intro  s0 H locs ls hf hw hl
    obtain ⟨hz1, hf⟩ := gZ_s hf
    exact hret1 s0 _ _ _ _ hf hz1 hw dX10_within_15
  have B14 : ∀ (H : Heap) (locs : List Loc) (ls : Array Slot), fX10_within_b14 = some rv → gS E A s.heap (wX10_within E) H locs → lv_has ls 3 [] → W p l e ({ frames := 0, cells := 0, slots := 0, locals := 0 } : Room) s m args below meth cd H locs 0 0 Q (F0 m 14 ls []) := by
    intro   H locs ls hf hw hl
    refine lv_iconst (v := 0) hx hb dX10_within_14 k_i0 ?_
    exact B15 0 _ _ _ hf hw (lv_sub hl [] rfl)
  refine lv_iload_n hx hb dX10_within_0 rfl (lv_at hl 0 rfl) ?_
  refine lv_iload_n hx hb dX10_within_1 rfl (lv_at hl 1 rfl) ?_
  refine lv_icmp_lt (tgt := 14) hx hb dX10_within_2 (by decide) (fun hc => ?_) (fun hc => ?_)
  · have hf := g_t hc hf
    exact B14 _ _ _ hf hw (lv_sub hl [] rfl)
  · have hf := g_f hc hf
    refine lv_iload_n hx hb dX10_within_5 rfl (lv_at hl 0 rfl) ?_
    refine lv_iload_n hx hb dX10_within_6 rfl (lv_at hl 2 rfl) ?_
    refine lv_icmp_gt (tgt := 14) hx hb dX10_within_7 (by decide) (fun hc => ?_) (fun hc => ?_)
    · have hf := g_t hc hf
      exact B14 _ _ _ hf hw (lv_sub hl [] rfl)
    · have hf := g_f hc hf
      refine lv_iconst (v := 1) hx hb dX10_within_10 k_i1 ?_
      refine lv_goto (tgt := 15) hx hb dX10_within_11 (by decide) ?_
      exact B15 1 _ _ _ hf hw (lv_sub hl [] rfl)
theorem hX2_mostLeft : yX2_mostLeft.cls = RX2 ∧ yX2_mostLeft.cls ≠ "java/lang/invoke/MethodHandle" ∧ yX2_mostLeft.cls ≠ "java/lang/invoke/VarHandle" ∧ (parseMethodDescriptor yX2_mostLeft.desc).map (fun d => d.parameters.length) = some 1 := by decide +kernel
set_option maxHeartbeats 4000000 in
set_option maxRecDepth 100000 in
theorem mX2_mostLeft (l : Launch) (E : gE) (o_t : Nat) (a_t : (Nat → Nat)) (v_t_count : Int32) (f_t_twos : (Nat → Int32)) (f_t_left : (Nat → Int32)) (x1 : Int32) (rv : Int32) (z_t_left : (Nat → Int32)) (hf : fX2_mostLeft v_t_count f_t_twos f_t_left x1 = some (rv, z_t_left)) {sz : Nat} : gMi l yX2_mostLeft (gW yX2_mostLeft cX2_mostLeft 5 (some .int)) ({ frames := 1, cells := 0, slots := 0, locals := 22 } : Room) E [.ref o_t, .int x1] (wX2_mostLeft E o_t a_t v_t_count f_t_twos f_t_left) sz rv (wX2_mostLeft E o_t a_t v_t_count f_t_twos z_t_left) := by
  refine g_openI (own := RX2) (by decide) rfl (Nat.le_of_ble_eq_true rfl) (fun p e s m args below meth cd Q A hx hb hml hown hG hK hA hret hw ls hl => ?_)
  have hl : lv_has ls 5 [(0, .ref o_t), (1, .int x1)] := hl
  have hret1 : ∀ (v : Int32) (f_t_left : (Nat → Int32)) (H : Heap) (locs : List Loc) (pc : Nat) (ls : Array Slot), some (v, f_t_left) = some (rv, z_t_left) → gS E A s.heap (wX2_mostLeft E o_t a_t v_t_count f_t_twos f_t_left) H locs → decode cX2_mostLeft pc = .ok (.ireturn, 1) → W p l e ({ frames := 1, cells := 0, slots := 0, locals := 22 } : Room) s m args below meth cd H locs 0 0 Q (F0 m pc ls [.int v]) := by
    intro v f_t_left H locs pc ls h hw hd
    cases h
    exact hret H locs pc ls hw hd
  have B93 : ∀ (f_t_left : (Nat → Int32)) (x2 : Int32) (H : Heap) (locs : List Loc) (ls : Array Slot), fX2_mostLeft_b93 f_t_left x2 = some (rv, z_t_left) → gS E A s.heap (wX2_mostLeft E o_t a_t v_t_count f_t_twos f_t_left) H locs → lv_has ls 5 [(2, .int x2)] → W p l e ({ frames := 1, cells := 0, slots := 0, locals := 22 } : Room) s m args below meth cd H locs 0 0 Q (F0 m 93 ls []) := by
    intro  f_t_left x2 H locs ls hf hw hl
    refine lv_iload_n hx hb dX2_mostLeft_93 rfl (lv_at hl 0 rfl) ?_
    exact hret1 x2 f_t_left _ _ _ _ hf hw dX2_mostLeft_94
  have B87 : ∀ (K11 : (Nat → Int32) → Int32 → Int32 → Int32 → Option (Int32 × (Nat → Int32))) (hK11 : ∀ (f_t_left : (Nat → Int32)) (x1 : Int32) (x2 : Int32) (x3 : Int32) (H : Heap) (locs : List Loc) (ls : Array Slot), K11 f_t_left x1 x2 x3 = some (rv, z_t_left) → gS E A s.heap (wX2_mostLeft E o_t a_t v_t_count f_t_twos f_t_left) H locs → lv_has ls 5 [(0, .ref o_t), (1, .int x1), (2, .int x2), (3, .int x3)] → W p l e ({ frames := 1, cells := 0, slots := 0, locals := 22 } : Room) s m args below meth cd H locs 0 0 Q (F0 m 11 ls [])), ∀ (f_t_left : (Nat → Int32)) (x1 : Int32) (x2 : Int32) (x3 : Int32) (H : Heap) (locs : List Loc) (ls : Array Slot), fX2_mostLeft_b87 K11 v_t_count f_t_twos f_t_left x1 x2 x3 = some (rv, z_t_left) → gS E A s.heap (wX2_mostLeft E o_t a_t v_t_count f_t_twos f_t_left) H locs → lv_has ls 5 [(0, .ref o_t), (1, .int x1), (2, .int x2), (3, .int x3)] → W p l e ({ frames := 1, cells := 0, slots := 0, locals := 22 } : Room) s m args below meth cd H locs 0 0 Q (F0 m 87 ls []) := by
    intro K11 hK11 f_t_left x1 x2 x3 H locs ls hf hw hl
    refine lv_iinc (lv' := [(3, .int (x3 + 1)), (0, .ref o_t), (1, .int x1), (2, .int x2)]) hx hb dX2_mostLeft_87 hl (k := 3) rfl (k_inc1 _) (Nat.le_of_ble_eq_true rfl) rfl (fun ls hl => ?_)
    refine lv_goto (tgt := 11) hx hb dX2_mostLeft_90 (by decide) ?_
    exact hK11 f_t_left x1 x2 (x3 + 1) _ _ _ hf hw (lv_sub hl [1, 2, 3, 0] rfl)
  have B11 : ∀ n : Nat, ∀ (f_t_left : (Nat → Int32)) (x1 : Int32) (x2 : Int32) (x3 : Int32) (H : Heap) (locs : List Loc) (ls : Array Slot), fX2_mostLeft_b11 v_t_count f_t_twos n f_t_left x1 x2 x3 = some (rv, z_t_left) → gS E A s.heap (wX2_mostLeft E o_t a_t v_t_count f_t_twos f_t_left) H locs → lv_has ls 5 [(0, .ref o_t), (1, .int x1), (2, .int x2), (3, .int x3)] → W p l e ({ frames := 1, cells := 0, slots := 0, locals := 22 } : Room) s m args below meth cd H locs 0 0 Q (F0 m 11 ls []) := by
    intro n
    induction n with
    | zero => intro f_t_left x1 x2 x3 H locs ls hf hw hl; exact g_no hf
    | succ n ih =>
      intro f_t_left x1 x2 x3 H locs ls hf hw hl
      refine lv_iload_n hx hb dX2_mostLeft_11 rfl (lv_at hl 3 rfl) ?_
      refine lv_aload_n hx hb dX2_mostLeft_12 rfl (lv_at hl 0 rfl) ?_
      refine g_get hx hb hG hown hK hw inlX2 (ci := 1) rfl 0 1 (Nat.le_of_ble_eq_true rfl) rfl rfl wd_5_5 dX2_mostLeft_13 ?_
      refine lv_icmp_ge (tgt := 93) hx hb dX2_mostLeft_16 (by decide) (fun hc => ?_) (fun hc => ?_)
      · have hf := g_t hc hf
        exact B93 f_t_left x2 _ _ _ hf hw (lv_sub hl [2] rfl)
      · have hf := g_f hc hf
        refine lv_iload_n hx hb dX2_mostLeft_19 rfl (lv_at hl 3 rfl) ?_
        refine lv_aload_n hx hb dX2_mostLeft_20 rfl (lv_at hl 0 rfl) ?_
        refine g_get hx hb hG hown hK hw inlX2 (ci := 1) rfl 0 0 (Nat.le_of_ble_eq_true rfl) rfl rfl wd_5_4 dX2_mostLeft_21 ?_
        refine g_alen hx hb hK hw 1 rfl dX2_mostLeft_24 ?_
        refine lv_icmp_ge (tgt := 93) hx hb dX2_mostLeft_25 (by decide) (fun hc => ?_) (fun hc => ?_)
        · have hf := g_t hc hf
          exact B93 f_t_left x2 _ _ _ hf hw (lv_sub hl [2] rfl)
        · have hf := g_f hc hf
          refine lv_iload_n hx hb dX2_mostLeft_28 rfl (lv_at hl 1 rfl) ?_
          refine lv_aload_n hx hb dX2_mostLeft_29 rfl (lv_at hl 0 rfl) ?_
          refine g_get hx hb hG hown hK hw inlX2 (ci := 1) rfl 0 0 (Nat.le_of_ble_eq_true rfl) rfl rfl wd_5_4 dX2_mostLeft_30 ?_
          refine lv_iload_n hx hb dX2_mostLeft_33 rfl (lv_at hl 3 rfl) ?_
          obtain ⟨hi1, hf⟩ := gA_s hf
          refine g_iald hx hb hK hw 1 rfl hi1 dX2_mostLeft_34 ?_
          refine lv_bipush (v := 100) hx hb dX2_mostLeft_35 k_b100 ?_
          refine lv_idiv hx hb dX2_mostLeft_37 (by decide) ?_
          refine lv_imul hx hb dX2_mostLeft_38 ?_
          refine lv_aload_n hx hb dX2_mostLeft_39 rfl (lv_at hl 0 rfl) ?_
          refine g_get hx hb hG hown hK hw inlX2 (ci := 1) rfl 0 0 (Nat.le_of_ble_eq_true rfl) rfl rfl wd_5_4 dX2_mostLeft_40 ?_
          refine lv_iload_n hx hb dX2_mostLeft_43 rfl (lv_at hl 3 rfl) ?_
          obtain ⟨hi2, hf⟩ := gA_s hf
          refine g_iald hx hb hK hw 1 rfl hi2 dX2_mostLeft_44 ?_
          refine lv_bipush (v := 100) hx hb dX2_mostLeft_45 k_b100 ?_
          refine g_irem hx hb dX2_mostLeft_47 (by decide) ?_
          refine va_mmin hx hb (hml.trans hl.1.symm) hown (hG _ wd_33_5) (hG _ wd_18_4) (hG _ wd_18_5) (hG _ wd_18_6) (Nat.le_of_ble_eq_true rfl) (Nat.le_of_ble_eq_true rfl) (Nat.zero_le _) (Nat.zero_le _) dX2_mostLeft_48 ?_
          refine lv_istore (lv' := [(4, .int (if ((f_t_twos (Int32.toNatClampNeg x3)) % 100) < (x1 * ((f_t_twos (Int32.toNatClampNeg x3)) / 100)) then ((f_t_twos (Int32.toNatClampNeg x3)) % 100) else (x1 * ((f_t_twos (Int32.toNatClampNeg x3)) / 100)))), (0, .ref o_t), (1, .int x1), (2, .int x2), (3, .int x3)]) hx hb dX2_mostLeft_51 hl (Nat.le_of_ble_eq_true rfl) rfl (fun ls hl => ?_)
          refine lv_iload hx hb dX2_mostLeft_53 (lv_at hl 0 rfl) ?_
          refine lv_iconst (v := 0) hx hb dX2_mostLeft_55 k_i0 ?_
          refine lv_bipush (v := 40) hx hb dX2_mostLeft_56 k_b40 ?_
          obtain ⟨r3, hc4, hf⟩ := gB_s hf
          refine g_ki (is := []) (w1 := (wX10_within E)) (ws' := (wX2_mostLeft E o_t a_t v_t_count f_t_twos f_t_left)) hw hA (g_rN (host := "SeedBank") hx hb hml hG hown hK hw (is := []) rfl (by decide) (mX10_within l E (if ((f_t_twos (Int32.toNatClampNeg x3)) % 100) < (x1 * ((f_t_twos (Int32.toNatClampNeg x3)) / 100)) then ((f_t_twos (Int32.toNatClampNeg x3)) % 100) else (x1 * ((f_t_twos (Int32.toNatClampNeg x3)) / 100))) 0 40 r3 hc4) (List.mem_of_getElem? (i := 24) rfl) wd_7_2 wd_1_2 wd_7_3 hX10_within g_allgood ⟨rfl, rfl⟩ ⟨Nat.le_of_ble_eq_true rfl, Nat.le_of_ble_eq_true rfl⟩ ⟨Nat.zero_le _, Nat.zero_le _⟩ rfl hl.1 rfl (Nat.le_of_ble_eq_true rfl) dX2_mostLeft_58) rfl rfl rfl (fun H locs hw => ?_)
          refine lv_if_eq (tgt := 87) hx hb dX2_mostLeft_61 (by decide) (fun hc => ?_) (fun hc => ?_)
          · have hf := g_t hc hf
            exact B87 (fX2_mostLeft_b11 v_t_count f_t_twos n) ih f_t_left x1 x2 x3 _ _ _ hf hw (lv_sub hl [1, 2, 3, 4] rfl)
          · have hf := g_f hc hf
            refine lv_aload_n hx hb dX2_mostLeft_64 rfl (lv_at hl 1 rfl) ?_
            refine g_get hx hb hG hown hK hw inlX2 (ci := 1) rfl 0 2 (Nat.le_of_ble_eq_true rfl) rfl rfl wd_5_6 dX2_mostLeft_65 ?_
            refine lv_iload hx hb dX2_mostLeft_68 (lv_at hl 0 rfl) ?_
            refine lv_dup2_11 hx hb dX2_mostLeft_70 rfl rfl ?_
            obtain ⟨hi5, hf⟩ := gA_s hf
            refine g_iald hx hb hK hw 2 rfl hi5 dX2_mostLeft_71 ?_
            refine lv_iconst (v := 1) hx hb dX2_mostLeft_72 k_i1 ?_
            refine lv_iadd hx hb dX2_mostLeft_73 ?_
            obtain ⟨hi6, hf⟩ := gA_s hf
            refine g_iast (ws' := (wX2_mostLeft E o_t a_t v_t_count f_t_twos (upd f_t_left (Int32.toNatClampNeg (if ((f_t_twos (Int32.toNatClampNeg x3)) % 100) < (x1 * ((f_t_twos (Int32.toNatClampNeg x3)) / 100)) then ((f_t_twos (Int32.toNatClampNeg x3)) % 100) else (x1 * ((f_t_twos (Int32.toNatClampNeg x3)) / 100)))) ((f_t_left (Int32.toNatClampNeg (if ((f_t_twos (Int32.toNatClampNeg x3)) % 100) < (x1 * ((f_t_twos (Int32.toNatClampNeg x3)) / 100)) then ((f_t_twos (Int32.toNatClampNeg x3)) % 100) else (x1 * ((f_t_twos (Int32.toNatClampNeg x3)) / 100))))) + 1)))) hx hb hK hw 2 rfl hi6 rfl dX2_mostLeft_74 (fun H locs hw => ?_)
            refine lv_iload_n hx hb dX2_mostLeft_75 rfl (lv_at hl 3 rfl) ?_
            refine lv_aload_n hx hb dX2_mostLeft_76 rfl (lv_at hl 1 rfl) ?_
            refine g_get hx hb hG hown hK hw inlX2 (ci := 1) rfl 0 2 (Nat.le_of_ble_eq_true rfl) rfl rfl wd_5_6 dX2_mostLeft_77 ?_
            refine lv_iload hx hb dX2_mostLeft_80 (lv_at hl 0 rfl) ?_
            obtain ⟨hi7, hf⟩ := gA_s hf
            refine g_iald hx hb hK hw 2 rfl hi7 dX2_mostLeft_82 ?_
            refine va_mmax hx hb (hml.trans hl.1.symm) hown (hG _ wd_33_6) (hG _ wd_33_7) (hG _ wd_18_5) (hG _ wd_33_8) (Nat.le_of_ble_eq_true rfl) (Nat.le_of_ble_eq_true rfl) (Nat.zero_le _) (Nat.zero_le _) dX2_mostLeft_83 ?_
            refine lv_istore_n (lv' := [(2, .int (if x2 < ((upd f_t_left (Int32.toNatClampNeg (if ((f_t_twos (Int32.toNatClampNeg x3)) % 100) < (x1 * ((f_t_twos (Int32.toNatClampNeg x3)) / 100)) then ((f_t_twos (Int32.toNatClampNeg x3)) % 100) else (x1 * ((f_t_twos (Int32.toNatClampNeg x3)) / 100)))) ((f_t_left (Int32.toNatClampNeg (if ((f_t_twos (Int32.toNatClampNeg x3)) % 100) < (x1 * ((f_t_twos (Int32.toNatClampNeg x3)) / 100)) then ((f_t_twos (Int32.toNatClampNeg x3)) % 100) else (x1 * ((f_t_twos (Int32.toNatClampNeg x3)) / 100))))) + 1)) (Int32.toNatClampNeg (if ((f_t_twos (Int32.toNatClampNeg x3)) % 100) < (x1 * ((f_t_twos (Int32.toNatClampNeg x3)) / 100)) then ((f_t_twos (Int32.toNatClampNeg x3)) % 100) else (x1 * ((f_t_twos (Int32.toNatClampNeg x3)) / 100))))) then ((upd f_t_left (Int32.toNatClampNeg (if ((f_t_twos (Int32.toNatClampNeg x3)) % 100) < (x1 * ((f_t_twos (Int32.toNatClampNeg x3)) / 100)) then ((f_t_twos (Int32.toNatClampNeg x3)) % 100) else (x1 * ((f_t_twos (Int32.toNatClampNeg x3)) / 100)))) ((f_t_left (Int32.toNatClampNeg (if ((f_t_twos (Int32.toNatClampNeg x3)) % 100) < (x1 * ((f_t_twos (Int32.toNatClampNeg x3)) / 100)) then ((f_t_twos (Int32.toNatClampNeg x3)) % 100) else (x1 * ((f_t_twos (Int32.toNatClampNeg x3)) / 100))))) + 1)) (Int32.toNatClampNeg (if ((f_t_twos (Int32.toNatClampNeg x3)) % 100) < (x1 * ((f_t_twos (Int32.toNatClampNeg x3)) / 100)) then ((f_t_twos (Int32.toNatClampNeg x3)) % 100) else (x1 * ((f_t_twos (Int32.toNatClampNeg x3)) / 100))))) else x2)), (4, .int (if ((f_t_twos (Int32.toNatClampNeg x3)) % 100) < (x1 * ((f_t_twos (Int32.toNatClampNeg x3)) / 100)) then ((f_t_twos (Int32.toNatClampNeg x3)) % 100) else (x1 * ((f_t_twos (Int32.toNatClampNeg x3)) / 100)))), (0, .ref o_t), (1, .int x1), (3, .int x3)]) hx hb dX2_mostLeft_86 rfl hl (Nat.le_of_ble_eq_true rfl) rfl (fun ls hl => ?_)
            exact B87 (fX2_mostLeft_b11 v_t_count f_t_twos n) ih (upd f_t_left (Int32.toNatClampNeg (if ((f_t_twos (Int32.toNatClampNeg x3)) % 100) < (x1 * ((f_t_twos (Int32.toNatClampNeg x3)) / 100)) then ((f_t_twos (Int32.toNatClampNeg x3)) % 100) else (x1 * ((f_t_twos (Int32.toNatClampNeg x3)) / 100)))) ((f_t_left (Int32.toNatClampNeg (if ((f_t_twos (Int32.toNatClampNeg x3)) % 100) < (x1 * ((f_t_twos (Int32.toNatClampNeg x3)) / 100)) then ((f_t_twos (Int32.toNatClampNeg x3)) % 100) else (x1 * ((f_t_twos (Int32.toNatClampNeg x3)) / 100))))) + 1)) x1 (if x2 < ((upd f_t_left (Int32.toNatClampNeg (if ((f_t_twos (Int32.toNatClampNeg x3)) % 100) < (x1 * ((f_t_twos (Int32.toNatClampNeg x3)) / 100)) then ((f_t_twos (Int32.toNatClampNeg x3)) % 100) else (x1 * ((f_t_twos (Int32.toNatClampNeg x3)) / 100)))) ((f_t_left (Int32.toNatClampNeg (if ((f_t_twos (Int32.toNatClampNeg x3)) % 100) < (x1 * ((f_t_twos (Int32.toNatClampNeg x3)) / 100)) then ((f_t_twos (Int32.toNatClampNeg x3)) % 100) else (x1 * ((f_t_twos (Int32.toNatClampNeg x3)) / 100))))) + 1)) (Int32.toNatClampNeg (if ((f_t_twos (Int32.toNatClampNeg x3)) % 100) < (x1 * ((f_t_twos (Int32.toNatClampNeg x3)) / 100)) then ((f_t_twos (Int32.toNatClampNeg x3)) % 100) else (x1 * ((f_t_twos (Int32.toNatClampNeg x3)) / 100))))) then ((upd f_t_left (Int32.toNatClampNeg (if ((f_t_twos (Int32.toNatClampNeg x3)) % 100) < (x1 * ((f_t_twos (Int32.toNatClampNeg x3)) / 100)) then ((f_t_twos (Int32.toNatClampNeg x3)) % 100) else (x1 * ((f_t_twos (Int32.toNatClampNeg x3)) / 100)))) ((f_t_left (Int32.toNatClampNeg (if ((f_t_twos (Int32.toNatClampNeg x3)) % 100) < (x1 * ((f_t_twos (Int32.toNatClampNeg x3)) / 100)) then ((f_t_twos (Int32.toNatClampNeg x3)) % 100) else (x1 * ((f_t_twos (Int32.toNatClampNeg x3)) / 100))))) + 1)) (Int32.toNatClampNeg (if ((f_t_twos (Int32.toNatClampNeg x3)) % 100) < (x1 * ((f_t_twos (Int32.toNatClampNeg x3)) / 100)) then ((f_t_twos (Int32.toNatClampNeg x3)) % 100) else (x1 * ((f_t_twos (Int32.toNatClampNeg x3)) / 100))))) else x2) x3 _ _ _ hf hw (lv_sub hl [2, 3, 0, 4] rfl)
  refine lv_aload_n hx hb dX2_mostLeft_0 rfl (lv_at hl 0 rfl) ?_
  refine g_get hx hb hG hown hK hw inlX2 (ci := 1) rfl 0 2 (Nat.le_of_ble_eq_true rfl) rfl rfl wd_5_6 dX2_mostLeft_1 ?_
  obtain ⟨r8, hc9, hf⟩ := gB_s hf
  refine g_kv (is := [2]) (w1 := (wX10_clearRow E (a_t 2) 41 r8)) (ws' := (wX2_mostLeft E o_t a_t v_t_count f_t_twos r8)) hw hA (g_rN (host := "SeedBank") hx hb hml hG hown hK hw (is := [2]) rfl (by decide) (mX10_clearRow l E (a_t 2) 41 f_t_left r8 hc9) (List.mem_of_getElem? (i := 23) rfl) wd_18_15 wd_1_2 wd_18_16 hX10_clearRow g_allgood ⟨rfl, rfl⟩ ⟨Nat.le_of_ble_eq_true rfl, Nat.le_of_ble_eq_true rfl⟩ ⟨Nat.zero_le _, Nat.zero_le _⟩ rfl hl.1 rfl (Nat.le_of_ble_eq_true rfl) dX2_mostLeft_4) rfl rfl rfl (fun H locs hw => ?_)
  refine lv_iconst (v := 0) hx hb dX2_mostLeft_7 k_i0 ?_
  refine lv_istore_n (lv' := [(2, .int 0), (0, .ref o_t), (1, .int x1)]) hx hb dX2_mostLeft_8 rfl hl (Nat.le_of_ble_eq_true rfl) rfl (fun ls hl => ?_)
  refine lv_iconst (v := 0) hx hb dX2_mostLeft_9 k_i0 ?_
  refine lv_istore_n (lv' := [(3, .int 0), (2, .int 0), (0, .ref o_t), (1, .int x1)]) hx hb dX2_mostLeft_10 rfl hl (Nat.le_of_ble_eq_true rfl) rfl (fun ls hl => ?_)
  exact B11 1000 r8 x1 0 0 _ _ _ hf hw (lv_sub hl [2, 3, 1, 0] rfl)
