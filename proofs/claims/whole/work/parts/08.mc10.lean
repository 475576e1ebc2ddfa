theorem hX6_isThere : yX6_isThere.cls = RX6 ∧ yX6_isThere.cls ≠ "java/lang/invoke/MethodHandle" ∧ yX6_isThere.cls ≠ "java/lang/invoke/VarHandle" ∧ (parseMethodDescriptor yX6_isThere.desc).map (fun d => d.parameters.length) = some 1 := by decide +kernel
set_option maxHeartbeats 4000000 in
set_option maxRecDepth 100000 in
theorem mX6_isThere (l : Launch) (E : gE) (o_t : Nat) (a_t : (Nat → Nat)) (v_t_families : Int32) (v_t_wind : Int32) (v_t_force : Int32) (v_t_rain : Int32) (v_t_lost : Int32) (v_t_hour : Int32) (x1 : Int32) (rv : Int32) (hf : fX6_isThere v_t_families x1 = some rv) {sz : Nat} : gMi l yX6_isThere (gW yX6_isThere cX6_isThere 2 (some .boolean)) ({ frames := 0, cells := 0, slots := 0, locals := 0 } : Room) E [.ref o_t, .int x1] (wX6_isThere E o_t a_t v_t_families v_t_wind v_t_force v_t_rain v_t_lost v_t_hour) sz rv (wX6_isThere E o_t a_t v_t_families v_t_wind v_t_force v_t_rain v_t_lost v_t_hour) := by
  refine g_openZ (own := RX6) (by decide) rfl (Nat.le_of_ble_eq_true rfl) (fun p e s m args below meth cd Q A hx hb hml hown hG hK hA hret hw ls hl => ?_)
  have hl : lv_has ls 2 [(0, .ref o_t), (1, .int x1)] := hl
  have hret1 : ∀ (t : Int32) (H : Heap) (locs : List Loc) (pc : Nat) (ls : Array Slot), some t = some rv → t &&& 1 = t → gS E A s.heap (wX6_isThere E o_t a_t v_t_families v_t_wind v_t_force v_t_rain v_t_lost v_t_hour) H locs → decode cX6_isThere pc = .ok (.ireturn, 1) → W p l e ({ frames := 0, cells := 0, slots := 0, locals := 0 } : Room) s m args below meth cd H locs 0 0 Q (F0 m pc ls [.int t]) := by
    intro t H locs pc ls h hz hw hd
    obtain rfl : t = rv := Option.some.inj h
    exact hret H locs pc ls hz hw hd
  have B26 : ∀ (s0 : Int32) (H : Heap) (locs : List Loc) (ls : Array Slot), fX6_isThere_b26 s0 = some rv → gS E A s.heap (wX6_isThere E o_t a_t v_t_families v_t_wind v_t_force v_t_rain v_t_lost v_t_hour) H locs → lv_has ls 2 [] → W p l e ({ frames := 0, cells := 0, slots := 0, locals := 0 } : Room) s m args below meth cd H locs 0 0 Q (F0 m 26 ls [.int s0]) := by
    intro  s0 H locs ls hf hw hl
    obtain ⟨hz1, hf⟩ := gZ_s hf
    exact hret1 s0 _ _ _ _ hf hz1 hw dX6_isThere_26
  have B25 : ∀ (H : Heap) (locs : List Loc) (ls : Array Slot), fX6_isThere_b25 = some rv → gS E A s.heap (wX6_isThere E o_t a_t v_t_families v_t_wind v_t_force v_t_rain v_t_lost v_t_hour) H locs → lv_has ls 2 [] → W p l e ({ frames := 0, cells := 0, slots := 0, locals := 0 } : Room) s m args below meth cd H locs 0 0 Q (F0 m 25 ls []) := by
    intro   H locs ls hf hw hl
    refine lv_iconst (v := 0) hx hb dX6_isThere_25 k_i0 ?_
    exact B26 0 _ _ _ hf hw (lv_sub hl [] rfl)
  refine lv_iload_n hx hb dX6_isThere_0 rfl (lv_at hl 1 rfl) ?_
  refine lv_if_lt (tgt := 25) hx hb dX6_isThere_1 (by decide) (fun hc => ?_) (fun hc => ?_)
  · have hf := g_t hc hf
    exact B25 _ _ _ hf hw (lv_sub hl [] rfl)
  · have hf := g_f hc hf
    refine lv_iload_n hx hb dX6_isThere_4 rfl (lv_at hl 1 rfl) ?_
    refine lv_bipush (v := 6) hx hb dX6_isThere_5 k_b6 ?_
    refine lv_icmp_ge (tgt := 25) hx hb dX6_isThere_7 (by decide) (fun hc => ?_) (fun hc => ?_)
    · have hf := g_t hc hf
      exact B25 _ _ _ hf hw (lv_sub hl [] rfl)
    · have hf := g_f hc hf
      refine lv_aload_n hx hb dX6_isThere_10 rfl (lv_at hl 0 rfl) ?_
      refine g_get hx hb hG hown hK hw inlX6 (ci := 5) rfl 0 5 (Nat.le_of_ble_eq_true rfl) rfl rfl wd_3_11 dX6_isThere_11 ?_
      refine lv_iconst (v := 1) hx hb dX6_isThere_14 k_i1 ?_
      refine lv_iload_n hx hb dX6_isThere_15 rfl (lv_at hl 1 rfl) ?_
      refine lv_ishl hx hb dX6_isThere_16 ?_
      refine lv_iand hx hb dX6_isThere_17 ?_
      refine lv_if_eq (tgt := 25) hx hb dX6_isThere_18 (by decide) (fun hc => ?_) (fun hc => ?_)
      · have hf := g_t hc hf
        exact B25 _ _ _ hf hw (lv_sub hl [] rfl)
      · have hf := g_f hc hf
        refine lv_iconst (v := 1) hx hb dX6_isThere_21 k_i1 ?_
        refine lv_goto (tgt := 26) hx hb dX6_isThere_22 (by decide) ?_
        exact B26 1 _ _ _ hf hw (lv_sub hl [] rfl)
theorem hX10_at : yX10_at.cls ≠ "java/lang/invoke/MethodHandle" ∧ yX10_at.cls ≠ "java/lang/invoke/VarHandle" ∧ (parseMethodDescriptor yX10_at.desc).map (fun d => d.parameters.length) = some 2 := by decide +kernel
set_option maxHeartbeats 4000000 in
set_option maxRecDepth 100000 in
theorem mX10_at (l : Launch) (E : gE) (o_p0 : Nat) (n_p0 : Nat) (f_p0 : (Nat → Int32)) (x1 : Int32) (rv : Int32) (hf : fX10_at n_p0 f_p0 x1 = some rv) {sz : Nat} : gMi l yX10_at (gW yX10_at cX10_at 2 (some .int)) ({ frames := 0, cells := 0, slots := 0, locals := 0 } : Room) E [.ref o_p0, .int x1] (wX10_at E o_p0 n_p0 f_p0) sz rv (wX10_at E o_p0 n_p0 f_p0) := by
  refine g_openI (own := RX10) (by decide) rfl (Nat.le_of_ble_eq_true rfl) (fun p e s m args below meth cd Q A hx hb hml hown hG hK hA hret hw ls hl => ?_)
  have hl : lv_has ls 2 [(0, .ref o_p0), (1, .int x1)] := hl
  have hret1 : ∀ (t : Int32) (H : Heap) (locs : List Loc) (pc : Nat) (ls : Array Slot), some t = some rv → gS E A s.heap (wX10_at E o_p0 n_p0 f_p0) H locs → decode cX10_at pc = .ok (.ireturn, 1) → W p l e ({ frames := 0, cells := 0, slots := 0, locals := 0 } : Room) s m args below meth cd H locs 0 0 Q (F0 m pc ls [.int t]) := by
    intro t H locs pc ls h hw hd
    obtain rfl : t = rv := Option.some.inj h
    exact hret H locs pc ls hw hd
  have B17 : ∀ (s0 : Int32) (H : Heap) (locs : List Loc) (ls : Array Slot), fX10_at_b17 s0 = some rv → gS E A s.heap (wX10_at E o_p0 n_p0 f_p0) H locs → lv_has ls 2 [] → W p l e ({ frames := 0, cells := 0, slots := 0, locals := 0 } : Room) s m args below meth cd H locs 0 0 Q (F0 m 17 ls [.int s0]) := by
    intro  s0 H locs ls hf hw hl
    exact hret1 s0 _ _ _ _ hf hw dX10_at_17
  have B16 : ∀ (H : Heap) (locs : List Loc) (ls : Array Slot), fX10_at_b16 = some rv → gS E A s.heap (wX10_at E o_p0 n_p0 f_p0) H locs → lv_has ls 2 [] → W p l e ({ frames := 0, cells := 0, slots := 0, locals := 0 } : Room) s m args below meth cd H locs 0 0 Q (F0 m 16 ls []) := by
    intro   H locs ls hf hw hl
    refine lv_iconst (v := 0) hx hb dX10_at_16 k_i0 ?_
    exact B17 0 _ _ _ hf hw (lv_sub hl [] rfl)
  refine lv_iload_n hx hb dX10_at_0 rfl (lv_at hl 1 rfl) ?_
  refine lv_if_lt (tgt := 16) hx hb dX10_at_1 (by decide) (fun hc => ?_) (fun hc => ?_)
  · have hf := g_t hc hf
    exact B16 _ _ _ hf hw (lv_sub hl [] rfl)
  · have hf := g_f hc hf
    refine lv_iload_n hx hb dX10_at_4 rfl (lv_at hl 1 rfl) ?_
    refine lv_aload_n hx hb dX10_at_5 rfl (lv_at hl 0 rfl) ?_
    refine g_alen hx hb hK hw 0 rfl dX10_at_6 ?_
    refine lv_icmp_ge (tgt := 16) hx hb dX10_at_7 (by decide) (fun hc => ?_) (fun hc => ?_)
    · have hf := g_t hc hf
      exact B16 _ _ _ hf hw (lv_sub hl [] rfl)
    · have hf := g_f hc hf
      refine lv_aload_n hx hb dX10_at_10 rfl (lv_at hl 0 rfl) ?_
      refine lv_iload_n hx hb dX10_at_11 rfl (lv_at hl 1 rfl) ?_
      obtain ⟨hi1, hf⟩ := gA_s hf
      refine g_iald hx hb hK hw 0 rfl hi1 dX10_at_12 ?_
      refine lv_goto (tgt := 17) hx hb dX10_at_13 (by decide) ?_
      exact B17 (f_p0 (Int32.toNatClampNeg x1)) _ _ _ hf hw (lv_sub hl [] rfl)
theorem hX0_whyNotOfFamily : yX0_whyNotOfFamily.cls ≠ "java/lang/invoke/MethodHandle" ∧ yX0_whyNotOfFamily.cls ≠ "java/lang/invoke/VarHandle" ∧ (parseMethodDescriptor yX0_whyNotOfFamily.desc).map (fun d => d.parameters.length) = some 4 := by decide +kernel
set_option maxHeartbeats 4000000 in
set_option maxRecDepth 100000 in
theorem mX0_whyNotOfFamily (l : Launch) (E : gE) (o_p0 : Nat) (a_p0 : (Nat → Nat)) (v_p0_families : Int32) (v_p0_wind : Int32) (v_p0_force : Int32) (v_p0_rain : Int32) (v_p0_lost : Int32) (v_p0_hour : Int32) (f_p0_home : (Nat → Int32)) (f_p0_seeds : (Nat → Int32)) (f_p0_lungs : (Nat → Int32)) (f_p0_blown : (Nat → Int32)) (f_p0_ground : (Nat → Int32)) (x1 : Int32) (x2 : Int32) (x3 : Int32) (rv : Int32) (hf : fX0_whyNotOfFamily v_p0_families v_p0_rain f_p0_home f_p0_seeds f_p0_lungs f_p0_blown f_p0_ground x1 x2 x3 = some rv) {sz : Nat} : gMi l yX0_whyNotOfFamily (gW yX0_whyNotOfFamily cX0_whyNotOfFamily 6 (some .int)) ({ frames := 1, cells := 0, slots := 0, locals := 21 } : Room) E [.ref o_p0, .int x1, .int x2, .int x3] (wX0_whyNotOfFamily E o_p0 a_p0 v_p0_families v_p0_wind v_p0_force v_p0_rain v_p0_lost v_p0_hour f_p0_home f_p0_seeds f_p0_lungs f_p0_blown f_p0_ground) sz rv (wX0_whyNotOfFamily E o_p0 a_p0 v_p0_families v_p0_wind v_p0_force v_p0_rain v_p0_lost v_p0_hour f_p0_home f_p0_seeds f_p0_lungs f_p0_blown f_p0_ground) := by
  refine g_openI (own := RX0) (by decide) rfl (Nat.le_of_ble_eq_true rfl) (fun p e s m args below meth cd Q A hx hb hml hown hG hK hA hret hw ls hl => ?_)
  have hl : lv_has ls 6 [(0, .ref o_p0), (1, .int x1), (2, .int x2), (3, .int x3)] := hl
  have hret1 : ∀ (t : Int32) (H : Heap) (locs : List Loc) (pc : Nat) (ls : Array Slot), some t = some rv → gS E A s.heap (wX0_whyNotOfFamily E o_p0 a_p0 v_p0_families v_p0_wind v_p0_force v_p0_rain v_p0_lost v_p0_hour f_p0_home f_p0_seeds f_p0_lungs f_p0_blown f_p0_ground) H locs → decode cX0_whyNotOfFamily pc = .ok (.ireturn, 1) → W p l e ({ frames := 1, cells := 0, slots := 0, locals := 21 } : Room) s m args below meth cd H locs 0 0 Q (F0 m pc ls [.int t]) := by
    intro t H locs pc ls h hw hd
    obtain rfl : t = rv := Option.some.inj h
    exact hret H locs pc ls hw hd
  have B36 : ∀ (s0 : Int32) (H : Heap) (locs : List Loc) (ls : Array Slot), fX0_whyNotOfFamily_b36 s0 = some rv → gS E A s.heap (wX0_whyNotOfFamily E o_p0 a_p0 v_p0_families v_p0_wind v_p0_force v_p0_rain v_p0_lost v_p0_hour f_p0_home f_p0_seeds f_p0_lungs f_p0_blown f_p0_ground) H locs → lv_has ls 6 [] → W p l e ({ frames := 1, cells := 0, slots := 0, locals := 21 } : Room) s m args below meth cd H locs 0 0 Q (F0 m 36 ls [.int s0]) := by
    intro  s0 H locs ls hf hw hl
    exact hret1 s0 _ _ _ _ hf hw dX0_whyNotOfFamily_36
  have B109 : ∀ (s0 : Int32) (H : Heap) (locs : List Loc) (ls : Array Slot), fX0_whyNotOfFamily_b109 s0 = some rv → gS E A s.heap (wX0_whyNotOfFamily E o_p0 a_p0 v_p0_families v_p0_wind v_p0_force v_p0_rain v_p0_lost v_p0_hour f_p0_home f_p0_seeds f_p0_lungs f_p0_blown f_p0_ground) H locs → lv_has ls 6 [] → W p l e ({ frames := 1, cells := 0, slots := 0, locals := 21 } : Room) s m args below meth cd H locs 0 0 Q (F0 m 109 ls [.int s0]) := by
    intro  s0 H locs ls hf hw hl
    exact hret1 s0 _ _ _ _ hf hw dX0_whyNotOfFamily_109
  have B97 : ∀ (s0 : Int32) (H : Heap) (locs : List Loc) (ls : Array Slot), fX0_whyNotOfFamily_b97 s0 = some rv → gS E A s.heap (wX0_whyNotOfFamily E o_p0 a_p0 v_p0_families v_p0_wind v_p0_force v_p0_rain v_p0_lost v_p0_hour f_p0_home f_p0_seeds f_p0_lungs f_p0_blown f_p0_ground) H locs → lv_has ls 6 [] → W p l e ({ frames := 1, cells := 0, slots := 0, locals := 21 } : Room) s m args below meth cd H locs 0 0 Q (F0 m 97 ls [.int s0]) := by
    intro  s0 H locs ls hf hw hl
    refine lv_istore (lv' := [(5, .int s0)]) hx hb dX0_whyNotOfFamily_97 hl (Nat.le_of_ble_eq_true rfl) rfl (fun ls hl => ?_)
    refine lv_iload hx hb dX0_whyNotOfFamily_99 (lv_at hl 0 rfl) ?_
    refine lv_if_eq (tgt := 108) hx hb dX0_whyNotOfFamily_101 (by decide) (fun hc => ?_) (fun hc => ?_)
    · have hf := g_t hc hf
      refine lv_iconst (v := 0) hx hb dX0_whyNotOfFamily_108 k_i0 ?_
      exact B109 0 _ _ _ hf hw (lv_sub hl [] rfl)
    · have hf := g_f hc hf
      refine lv_iconst (v := 4) hx hb dX0_whyNotOfFamily_104 k_i4 ?_
      refine lv_goto (tgt := 109) hx hb dX0_whyNotOfFamily_105 (by decide) ?_
      exact B109 4 _ _ _ hf hw (lv_sub hl [] rfl)
  have B96 : ∀ (H : Heap) (locs : List Loc) (ls : Array Slot), fX0_whyNotOfFamily_b96 = some rv → gS E A s.heap (wX0_whyNotOfFamily E o_p0 a_p0 v_p0_families v_p0_wind v_p0_force v_p0_rain v_p0_lost v_p0_hour f_p0_home f_p0_seeds f_p0_lungs f_p0_blown f_p0_ground) H locs → lv_has ls 6 [] → W p l e ({ frames := 1, cells := 0, slots := 0, locals := 21 } : Room) s m args below meth cd H locs 0 0 Q (F0 m 96 ls []) := by
    intro   H locs ls hf hw hl
    refine lv_iconst (v := 0) hx hb dX0_whyNotOfFamily_96 k_i0 ?_
    exact B97 0 _ _ _ hf hw (lv_sub hl [] rfl)
  have B56 : ∀ (x1 : Int32) (x2 : Int32) (x3 : Int32) (s0 : Int32) (H : Heap) (locs : List Loc) (ls : Array Slot), fX0_whyNotOfFamily_b56 f_p0_seeds f_p0_lungs f_p0_blown x1 x2 x3 s0 = some rv → gS E A s.heap (wX0_whyNotOfFamily E o_p0 a_p0 v_p0_families v_p0_wind v_p0_force v_p0_rain v_p0_lost v_p0_hour f_p0_home f_p0_seeds f_p0_lungs f_p0_blown f_p0_ground) H locs → lv_has ls 6 [(0, .ref o_p0), (1, .int x1), (2, .int x2), (3, .int x3)] → W p l e ({ frames := 1, cells := 0, slots := 0, locals := 21 } : Room) s m args below meth cd H locs 0 0 Q (F0 m 56 ls [.int s0]) := by
    intro  x1 x2 x3 s0 H locs ls hf hw hl
    refine lv_istore (lv' := [(4, .int s0), (0, .ref o_p0), (1, .int x1), (2, .int x2), (3, .int x3)]) hx hb dX0_whyNotOfFamily_56 hl (Nat.le_of_ble_eq_true rfl) rfl (fun ls hl => ?_)
    refine lv_aload_n hx hb dX0_whyNotOfFamily_58 rfl (lv_at hl 1 rfl) ?_
    refine g_get hx hb hG hown hK hw inlX6 (ci := 5) rfl 0 1 (Nat.le_of_ble_eq_true rfl) rfl rfl wd_16_16 dX0_whyNotOfFamily_59 ?_
    refine lv_iload_n hx hb dX0_whyNotOfFamily_62 rfl (lv_at hl 3 rfl) ?_
    obtain ⟨hi1, hf⟩ := gA_s hf
    refine g_iald hx hb hK hw 2 rfl hi1 dX0_whyNotOfFamily_63 ?_
    refine lv_iload hx hb dX0_whyNotOfFamily_64 (lv_at hl 0 rfl) ?_
    refine lv_icmp_ge (tgt := 71) hx hb dX0_whyNotOfFamily_66 (by decide) (fun hc => ?_) (fun hc => ?_)
    · have hf := g_t hc hf
      refine lv_iload_n hx hb dX0_whyNotOfFamily_71 rfl (lv_at hl 2 rfl) ?_
      refine lv_if_ne (tgt := 96) hx hb dX0_whyNotOfFamily_72 (by decide) (fun hc => ?_) (fun hc => ?_)
      · have hf := g_f hc hf
        exact B96 _ _ _ hf hw (lv_sub hl [] rfl)
      · have hf := g_t hc hf
        refine lv_aload_n hx hb dX0_whyNotOfFamily_75 rfl (lv_at hl 1 rfl) ?_
        refine g_get hx hb hG hown hK hw inlX6 (ci := 5) rfl 0 3 (Nat.le_of_ble_eq_true rfl) rfl rfl wd_16_17 dX0_whyNotOfFamily_76 ?_
        refine lv_iload_n hx hb dX0_whyNotOfFamily_79 rfl (lv_at hl 3 rfl) ?_
        obtain ⟨hi2, hf⟩ := gA_s hf
        refine g_iald hx hb hK hw 4 rfl hi2 dX0_whyNotOfFamily_80 ?_
        refine lv_iload_n hx hb dX0_whyNotOfFamily_81 rfl (lv_at hl 4 rfl) ?_
        refine lv_iadd hx hb dX0_whyNotOfFamily_82 ?_
        refine lv_aload_n hx hb dX0_whyNotOfFamily_83 rfl (lv_at hl 1 rfl) ?_
        refine g_get hx hb hG hown hK hw inlX6 (ci := 5) rfl 0 2 (Nat.le_of_ble_eq_true rfl) rfl rfl wd_16_18 dX0_whyNotOfFamily_84 ?_
        refine lv_iload_n hx hb dX0_whyNotOfFamily_87 rfl (lv_at hl 3 rfl) ?_
        obtain ⟨hi3, hf⟩ := gA_s hf
        refine g_iald hx hb hK hw 3 rfl hi3 dX0_whyNotOfFamily_88 ?_
        refine lv_icmp_le (tgt := 96) hx hb dX0_whyNotOfFamily_89 (by decide) (fun hc => ?_) (fun hc => ?_)
        · have hf := g_t hc hf
          exact B96 _ _ _ hf hw (lv_sub hl [] rfl)
        · have hf := g_f hc hf
          refine lv_iconst (v := 1) hx hb dX0_whyNotOfFamily_92 k_i1 ?_
          refine lv_goto (tgt := 97) hx hb dX0_whyNotOfFamily_93 (by decide) ?_
          exact B97 1 _ _ _ hf hw (lv_sub hl [] rfl)
    · have hf := g_f hc hf
      refine lv_iconst (v := 3) hx hb dX0_whyNotOfFamily_69 k_i3 ?_
      exact hret1 3 _ _ _ _ hf hw dX0_whyNotOfFamily_70
  refine lv_aload_n hx hb dX0_whyNotOfFamily_0 rfl (lv_at hl 0 rfl) ?_
  refine lv_iload_n hx hb dX0_whyNotOfFamily_1 rfl (lv_at hl 2 rfl) ?_
  obtain ⟨r4, hc5, hf⟩ := gB_s hf
  refine g_ki0 (is := [0]) hw hA (g_rV hx hb hml hG hown hK hw (is := [0]) rfl (by decide) (mX6_isThere l E o_p0 a_p0 v_p0_families v_p0_wind v_p0_force v_p0_rain v_p0_lost v_p0_hour x2 r4 hc5) wd_16_19 wd_9_9 wd_9_10 wd_2_20 wd_9_11 hX6_isThere g_allgood ⟨rfl, rfl⟩ ⟨Nat.le_of_ble_eq_true rfl, Nat.le_of_ble_eq_true rfl⟩ ⟨Nat.zero_le _, Nat.zero_le _⟩ (ci := 5) (q0 := 0) rfl rfl rfl rfl hl.1 rfl (Nat.le_of_ble_eq_true rfl) dX0_whyNotOfFamily_2) rfl (fun H locs hw => ?_)
  refine lv_if_ne (tgt := 10) hx hb dX0_whyNotOfFamily_5 (by decide) (fun hc => ?_) (fun hc => ?_)
  · have hf := g_f hc hf
    refine lv_iload_n hx hb dX0_whyNotOfFamily_10 rfl (lv_at hl 1 rfl) ?_
    refine lv_iconst (v := 2) hx hb dX0_whyNotOfFamily_11 k_i2 ?_
    refine lv_icmp_ne (tgt := 37) hx hb dX0_whyNotOfFamily_12 (by decide) (fun hc => ?_) (fun hc => ?_)
    · have hf := g_f hc hf
      refine lv_aload_n hx hb dX0_whyNotOfFamily_37 rfl (lv_at hl 0 rfl) ?_
      refine g_get hx hb hG hown hK hw inlX6 (ci := 5) rfl 0 8 (Nat.le_of_ble_eq_true rfl) rfl rfl wd_16_15 dX0_whyNotOfFamily_38 ?_
      refine lv_iconst (v := 1) hx hb dX0_whyNotOfFamily_41 k_i1 ?_
      refine lv_icmp_ne (tgt := 47) hx hb dX0_whyNotOfFamily_42 (by decide) (fun hc => ?_) (fun hc => ?_)
      · have hf := g_f hc hf
        refine lv_iload_n hx hb dX0_whyNotOfFamily_47 rfl (lv_at hl 1 rfl) ?_
        refine lv_if_ne (tgt := 55) hx hb dX0_whyNotOfFamily_48 (by decide) (fun hc => ?_) (fun hc => ?_)
        · have hf := g_f hc hf
          refine lv_iconst (v := 1) hx hb dX0_whyNotOfFamily_55 k_i1 ?_
          exact B56 x1 x2 x3 1 _ _ _ hf hw (lv_sub hl [0, 1, 2, 3] rfl)
        · have hf := g_t hc hf
          refine lv_iload_n hx hb dX0_whyNotOfFamily_51 rfl (lv_at hl 3 rfl) ?_
          refine lv_goto (tgt := 56) hx hb dX0_whyNotOfFamily_52 (by decide) ?_
          exact B56 x1 x2 x3 x3 _ _ _ hf hw (lv_sub hl [0, 1, 2, 3] rfl)
      · have hf := g_t hc hf
        refine lv_iconst (v := 2) hx hb dX0_whyNotOfFamily_45 k_i2 ?_
        exact hret1 2 _ _ _ _ hf hw dX0_whyNotOfFamily_46
    · have hf := g_t hc hf
      refine lv_aload_n hx hb dX0_whyNotOfFamily_15 rfl (lv_at hl 0 rfl) ?_
      refine g_get hx hb hG hown hK hw inlX6 (ci := 5) rfl 0 4 (Nat.le_of_ble_eq_true rfl) rfl rfl wd_16_13 dX0_whyNotOfFamily_16 ?_
      refine lv_aload_n hx hb dX0_whyNotOfFamily_19 rfl (lv_at hl 0 rfl) ?_
      refine g_get hx hb hG hown hK hw inlX6 (ci := 5) rfl 0 0 (Nat.le_of_ble_eq_true rfl) rfl rfl wd_16_14 dX0_whyNotOfFamily_20 ?_
      refine lv_iload_n hx hb dX0_whyNotOfFamily_23 rfl (lv_at hl 2 rfl) ?_
      obtain ⟨hi6, hf⟩ := gA_s hf
      refine g_iald hx hb hK hw 1 rfl hi6 dX0_whyNotOfFamily_24 ?_
      obtain ⟨r7, hc8, hf⟩ := gB_s hf
      refine g_ki0 (is := [5]) hw hA (g_rN (host := "SeedBank") hx hb hml hG hown hK hw (is := [5]) rfl (by decide) (mX10_at l E (a_p0 4) 36 f_p0_ground (f_p0_home (Int32.toNatClampNeg x2)) r7 hc8) (List.mem_of_getElem? (i := 12) rfl) wd_15_23 wd_1_2 wd_16_0 hX10_at g_allgood ⟨rfl, rfl⟩ ⟨Nat.le_of_ble_eq_true rfl, Nat.le_of_ble_eq_true rfl⟩ ⟨Nat.zero_le _, Nat.zero_le _⟩ rfl hl.1 rfl (Nat.le_of_ble_eq_true rfl) dX0_whyNotOfFamily_25) rfl (fun H locs hw => ?_)
      refine lv_if_ne (tgt := 35) hx hb dX0_whyNotOfFamily_28 (by decide) (fun hc => ?_) (fun hc => ?_)
      · have hf := g_f hc hf
        refine lv_iconst (v := 0) hx hb dX0_whyNotOfFamily_35 k_i0 ?_
        exact B36 0 _ _ _ hf hw (lv_sub hl [] rfl)
      · have hf := g_t hc hf
        refine lv_iconst (v := 3) hx hb dX0_whyNotOfFamily_31 k_i3 ?_
        refine lv_goto (tgt := 36) hx hb dX0_whyNotOfFamily_32 (by decide) ?_
        exact B36 3 _ _ _ hf hw (lv_sub hl [] rfl)
  · have hf := g_t hc hf
    refine lv_iconst (v := 1) hx hb dX0_whyNotOfFamily_8 k_i1 ?_
    exact hret1 1 _ _ _ _ hf hw dX0_whyNotOfFamily_9
theorem hX0_whyNot : yX0_whyNot.cls ≠ "java/lang/invoke/MethodHandle" ∧ yX0_whyNot.cls ≠ "java/lang/invoke/VarHandle" ∧ (parseMethodDescriptor yX0_whyNot.desc).map (fun d => d.parameters.length) = some 4 := by decide +kernel
set_option maxHeartbeats 4000000 in
set_option maxRecDepth 100000 in
theorem mX0_whyNot (l : Launch) (E : gE) (o_p0 : Nat) (a_p0 : (Nat → Nat)) (v_p0_families : Int32) (v_p0_wind : Int32) (v_p0_force : Int32) (v_p0_rain : Int32) (v_p0_lost : Int32) (v_p0_hour : Int32) (f_p0_home : (Nat → Int32)) (f_p0_seeds : (Nat → Int32)) (f_p0_lungs : (Nat → Int32)) (f_p0_blown : (Nat → Int32)) (f_p0_ground : (Nat → Int32)) (x1 : Int32) (x2 : Int32) (x3 : Int32) (rv : Int32) (hf : fX0_whyNot v_p0_families v_p0_rain v_p0_hour f_p0_home f_p0_seeds f_p0_lungs f_p0_blown f_p0_ground x1 x2 x3 = some rv) {sz : Nat} : gMi l yX0_whyNot (gW yX0_whyNot cX0_whyNot 4 (some .int)) ({ frames := 2, cells := 0, slots := 0, locals := 46 } : Room) E [.ref o_p0, .int x1, .int x2, .int x3] (wX0_whyNot E o_p0 a_p0 v_p0_families v_p0_wind v_p0_force v_p0_rain v_p0_lost v_p0_hour f_p0_home f_p0_seeds f_p0_lungs f_p0_blown f_p0_ground) sz rv (wX0_whyNot E o_p0 a_p0 v_p0_families v_p0_wind v_p0_force v_p0_rain v_p0_lost v_p0_hour f_p0_home f_p0_seeds f_p0_lungs f_p0_blown f_p0_ground) := by
  refine g_openI (own := RX0) (by decide) rfl (Nat.le_of_ble_eq_true rfl) (fun p e s m args below meth cd Q A hx hb hml hown hG hK hA hret hw ls hl => ?_)
  have hl : lv_has ls 4 [(0, .ref o_p0), (1, .int x1), (2, .int x2), (3, .int x3)] := hl
  have hret1 : ∀ (t : Int32) (H : Heap) (locs : List Loc) (pc : Nat) (ls : Array Slot), some t = some rv → gS E A s.heap (wX0_whyNot E o_p0 a_p0 v_p0_families v_p0_wind v_p0_force v_p0_rain v_p0_lost v_p0_hour f_p0_home f_p0_seeds f_p0_lungs f_p0_blown f_p0_ground) H locs → decode cX0_whyNot pc = .ok (.ireturn, 1) → W p l e ({ frames := 2, cells := 0, slots := 0, locals := 46 } : Room) s m args below meth cd H locs 0 0 Q (F0 m pc ls [.int t]) := by
    intro t H locs pc ls h hw hd
    obtain rfl : t = rv := Option.some.inj h
    exact hret H locs pc ls hw hd
  have B44 : ∀ (x1 : Int32) (x2 : Int32) (x3 : Int32) (H : Heap) (locs : List Loc) (ls : Array Slot), fX0_whyNot_b44 v_p0_families v_p0_rain f_p0_home f_p0_seeds f_p0_lungs f_p0_blown f_p0_ground x1 x2 x3 = some rv → gS E A s.heap (wX0_whyNot E o_p0 a_p0 v_p0_families v_p0_wind v_p0_force v_p0_rain v_p0_lost v_p0_hour f_p0_home f_p0_seeds f_p0_lungs f_p0_blown f_p0_ground) H locs → lv_has ls 4 [(0, .ref o_p0), (1, .int x1), (2, .int x2), (3, .int x3)] → W p l e ({ frames := 2, cells := 0, slots := 0, locals := 46 } : Room) s m args below meth cd H locs 0 0 Q (F0 m 44 ls []) := by
    intro  x1 x2 x3 H locs ls hf hw hl
    refine lv_aload_n hx hb dX0_whyNot_44 rfl (lv_at hl 0 rfl) ?_
    refine lv_iload_n hx hb dX0_whyNot_45 rfl (lv_at hl 1 rfl) ?_
    refine lv_iload_n hx hb dX0_whyNot_46 rfl (lv_at hl 2 rfl) ?_
    refine lv_iload_n hx hb dX0_whyNot_47 rfl (lv_at hl 3 rfl) ?_
    obtain ⟨r1, hc2, hf⟩ := gB_s hf
    refine g_ki0 (is := [0, 1, 2, 3, 4, 5]) hw hA (g_rS hx hb hml hG hown hK hw (is := [0, 1, 2, 3, 4, 5]) rfl (by decide) (mX0_whyNotOfFamily l E o_p0 a_p0 v_p0_families v_p0_wind v_p0_force v_p0_rain v_p0_lost v_p0_hour f_p0_home f_p0_seeds f_p0_lungs f_p0_blown f_p0_ground x1 x2 x3 r1 hc2) wd_16_10 wd_16_11 wd_16_7 wd_16_12 hX0_whyNotOfFamily g_allgood ⟨rfl, rfl⟩ ⟨Nat.le_of_ble_eq_true rfl, Nat.le_of_ble_eq_true rfl⟩ ⟨Nat.zero_le _, Nat.zero_le _⟩ rfl hl.1 rfl (Nat.le_of_ble_eq_true rfl) dX0_whyNot_48) rfl (fun H locs hw => ?_)
    exact hret1 r1 _ _ _ _ hf hw dX0_whyNot_51
  have B67 : ∀ (H : Heap) (locs : List Loc) (ls : Array Slot), fX0_whyNot_b67 = some rv → gS E A s.heap (wX0_whyNot E o_p0 a_p0 v_p0_families v_p0_wind v_p0_force v_p0_rain v_p0_lost v_p0_hour f_p0_home f_p0_seeds f_p0_lungs f_p0_blown f_p0_ground) H locs → lv_has ls 4 [] → W p l e ({ frames := 2, cells := 0, slots := 0, locals := 46 } : Room) s m args below meth cd H locs 0 0 Q (F0 m 67 ls []) := by
    intro   H locs ls hf hw hl
    refine lv_iconst (v := 0) hx hb dX0_whyNot_67 k_i0 ?_
    exact hret1 0 _ _ _ _ hf hw dX0_whyNot_68
  have B66 : ∀ (s0 : Int32) (H : Heap) (locs : List Loc) (ls : Array Slot), fX0_whyNot_b66 s0 = some rv → gS E A s.heap (wX0_whyNot E o_p0 a_p0 v_p0_families v_p0_wind v_p0_force v_p0_rain v_p0_lost v_p0_hour f_p0_home f_p0_seeds f_p0_lungs f_p0_blown f_p0_ground) H locs → lv_has ls 4 [] → W p l e ({ frames := 2, cells := 0, slots := 0, locals := 46 } : Room) s m args below meth cd H locs 0 0 Q (F0 m 66 ls [.int s0]) := by
    intro  s0 H locs ls hf hw hl
    exact hret1 s0 _ _ _ _ hf hw dX0_whyNot_66
  refine lv_iload_n hx hb dX0_whyNot_0 rfl (lv_at hl 1 rfl) ?_
  by_cases hs3 : x1 = 0
  · have hf := g_t hs3 hf
    refine lv_tableIn (off := 43) (tgt := 44) hx hb dX0_whyNot_1 (by rw [hs3]; decide) (by rw [hs3]; decide) (by rw [hs3] <;> rfl) (by decide) ?_
    exact B44 x1 x2 x3 _ _ _ hf hw (lv_sub hl [0, 1, 2, 3] rfl)
  have hf := g_f hs3 hf
  by_cases hs4 : x1 = 1
  · have hf := g_t hs4 hf
    refine lv_tableIn (off := 43) (tgt := 44) hx hb dX0_whyNot_1 (by rw [hs4]; decide) (by rw [hs4]; decide) (by rw [hs4] <;> rfl) (by decide) ?_
    exact B44 x1 x2 x3 _ _ _ hf hw (lv_sub hl [0, 1, 2, 3] rfl)
  have hf := g_f hs4 hf
  by_cases hs5 : x1 = 2
  · have hf := g_t hs5 hf
    refine lv_tableIn (off := 43) (tgt := 44) hx hb dX0_whyNot_1 (by rw [hs5]; decide) (by rw [hs5]; decide) (by rw [hs5] <;> rfl) (by decide) ?_
    exact B44 x1 x2 x3 _ _ _ hf hw (lv_sub hl [0, 1, 2, 3] rfl)
  have hf := g_f hs5 hf
  by_cases hs6 : x1 = 3
  · have hf := g_t hs6 hf
    refine lv_tableIn (off := 66) (tgt := 67) hx hb dX0_whyNot_1 (by rw [hs6]; decide) (by rw [hs6]; decide) (by rw [hs6] <;> rfl) (by decide) ?_
    exact B67 _ _ _ hf hw (lv_sub hl [] rfl)
  have hf := g_f hs6 hf
  by_cases hs7 : x1 = 4
  · have hf := g_t hs7 hf
    refine lv_tableIn (off := 66) (tgt := 67) hx hb dX0_whyNot_1 (by rw [hs7]; decide) (by rw [hs7]; decide) (by rw [hs7] <;> rfl) (by decide) ?_
    exact B67 _ _ _ hf hw (lv_sub hl [] rfl)
  have hf := g_f hs7 hf
  by_cases hs8 : x1 = 5
  · have hf := g_t hs8 hf
    refine lv_tableIn (off := 66) (tgt := 67) hx hb dX0_whyNot_1 (by rw [hs8]; decide) (by rw [hs8]; decide) (by rw [hs8] <;> rfl) (by decide) ?_
    exact B67 _ _ _ hf hw (lv_sub hl [] rfl)
  have hf := g_f hs8 hf
  by_cases hs9 : x1 = 6
  · have hf := g_t hs9 hf
    refine lv_tableIn (off := 51) (tgt := 52) hx hb dX0_whyNot_1 (by rw [hs9]; decide) (by rw [hs9]; decide) (by rw [hs9] <;> rfl) (by decide) ?_
    refine lv_aload_n hx hb dX0_whyNot_52 rfl (lv_at hl 0 rfl) ?_
    refine g_get hx hb hG hown hK hw inlX6 (ci := 5) rfl 0 10 (Nat.le_of_ble_eq_true rfl) rfl rfl wd_16_9 dX0_whyNot_53 ?_
    refine lv_bipush (v := 99) hx hb dX0_whyNot_56 k_b99 ?_
    refine lv_icmp_lt (tgt := 65) hx hb dX0_whyNot_58 (by decide) (fun hc => ?_) (fun hc => ?_)
    · have hf := g_t hc hf
      refine lv_iconst (v := 0) hx hb dX0_whyNot_65 k_i0 ?_
      exact B66 0 _ _ _ hf hw (lv_sub hl [] rfl)
    · have hf := g_f hc hf
      refine lv_iconst (v := 5) hx hb dX0_whyNot_61 k_i5 ?_
      refine lv_goto (tgt := 66) hx hb dX0_whyNot_62 (by decide) ?_
      exact B66 5 _ _ _ hf hw (lv_sub hl [] rfl)
  have hf := g_f hs9 hf
  have nhs3 := lv_neT hs3 (show (0 : Int32).toInt = 0 from by decide)
  have nhs4 := lv_neT hs4 (show (1 : Int32).toInt = 1 from by decide)
  have nhs5 := lv_neT hs5 (show (2 : Int32).toInt = 2 from by decide)
  have nhs6 := lv_neT hs6 (show (3 : Int32).toInt = 3 from by decide)
  have nhs7 := lv_neT hs7 (show (4 : Int32).toInt = 4 from by decide)
  have nhs8 := lv_neT hs8 (show (5 : Int32).toInt = 5 from by decide)
  have nhs9 := lv_neT hs9 (show (6 : Int32).toInt = 6 from by decide)
  refine lv_tableOut (tgt := 67) hx hb dX0_whyNot_1 (by omega) (by decide) ?_
  exact B67 _ _ _ hf hw (lv_sub hl [] rfl)
theorem hX0_blownBy : yX0_blownBy.cls ≠ "java/lang/invoke/MethodHandle" ∧ yX0_blownBy.cls ≠ "java/lang/invoke/VarHandle" ∧ (parseMethodDescriptor yX0_blownBy.desc).map (fun d => d.parameters.length) = some 4 := by decide +kernel
set_option maxHeartbeats 4000000 in
set_option maxRecDepth 100000 in
theorem mX0_blownBy (l : Launch) (E : gE) (o_p0 : Nat) (a_p0 : (Nat → Nat)) (v_p0_families : Int32) (v_p0_wind : Int32) (v_p0_force : Int32) (v_p0_rain : Int32) (v_p0_lost : Int32) (v_p0_hour : Int32) (f_p0_seeds : (Nat → Int32)) (x1 : Int32) (x2 : Int32) (x3 : Int32) (rv : Int32) (hf : fX0_blownBy f_p0_seeds x1 x2 x3 = some rv) {sz : Nat} : gMi l yX0_blownBy (gW yX0_blownBy cX0_blownBy 4 (some .int)) ({ frames := 1, cells := 0, slots := 0, locals := 21 } : Room) E [.ref o_p0, .int x1, .int x2, .int x3] (wX0_blownBy E o_p0 a_p0 v_p0_families v_p0_wind v_p0_force v_p0_rain v_p0_lost v_p0_hour f_p0_seeds) sz rv (wX0_blownBy E o_p0 a_p0 v_p0_families v_p0_wind v_p0_force v_p0_rain v_p0_lost v_p0_hour f_p0_seeds) := by
  refine g_openI (own := RX0) (by decide) rfl (Nat.le_of_ble_eq_true rfl) (fun p e s m args below meth cd Q A hx hb hml hown hG hK hA hret hw ls hl => ?_)
  have hl : lv_has ls 4 [(0, .ref o_p0), (1, .int x1), (2, .int x2), (3, .int x3)] := hl
  have hret1 : ∀ (t : Int32) (H : Heap) (locs : List Loc) (pc : Nat) (ls : Array Slot), some t = some rv → gS E A s.heap (wX0_blownBy E o_p0 a_p0 v_p0_families v_p0_wind v_p0_force v_p0_rain v_p0_lost v_p0_hour f_p0_seeds) H locs → decode cX0_blownBy pc = .ok (.ireturn, 1) → W p l e ({ frames := 1, cells := 0, slots := 0, locals := 21 } : Room) s m args below meth cd H locs 0 0 Q (F0 m pc ls [.int t]) := by
    intro t H locs pc ls h hw hd
    obtain rfl : t = rv := Option.some.inj h
    exact hret H locs pc ls hw hd
  refine lv_iload_n hx hb dX0_blownBy_0 rfl (lv_at hl 1 rfl) ?_
  by_cases hs1 : x1 = 0
  · have hf := g_t hs1 hf
    refine lv_lookup (off := 27) (tgt := 28) hx hb dX0_blownBy_1 (by decide) (by rw [hs1] <;> rfl) (by decide) ?_
    refine lv_iload_n hx hb dX0_blownBy_28 rfl (lv_at hl 3 rfl) ?_
    exact hret1 x3 _ _ _ _ hf hw dX0_blownBy_29
  have hf := g_f hs1 hf
  by_cases hs2 : x1 = 1
  · have hf := g_t hs2 hf
    refine lv_lookup (off := 29) (tgt := 30) hx hb dX0_blownBy_1 (by decide) (by rw [hs2] <;> rfl) (by decide) ?_
    refine lv_aload_n hx hb dX0_blownBy_30 rfl (lv_at hl 0 rfl) ?_
    refine g_get hx hb hG hown hK hw inlX6 (ci := 5) rfl 0 1 (Nat.le_of_ble_eq_true rfl) rfl rfl wd_16_16 dX0_blownBy_31 ?_
    refine lv_iload_n hx hb dX0_blownBy_34 rfl (lv_at hl 2 rfl) ?_
    obtain ⟨r3, hc4, hf⟩ := gB_s hf
    refine g_ki0 (is := [1]) hw hA (g_rN (host := "SeedBank") hx hb hml hG hown hK hw (is := [1]) rfl (by decide) (mX10_at l E (a_p0 1) 6 f_p0_seeds x2 r3 hc4) (List.mem_of_getElem? (i := 12) rfl) wd_15_23 wd_1_2 wd_16_0 hX10_at g_allgood ⟨rfl, rfl⟩ ⟨Nat.le_of_ble_eq_true rfl, Nat.le_of_ble_eq_true rfl⟩ ⟨Nat.zero_le _, Nat.zero_le _⟩ rfl hl.1 rfl (Nat.le_of_ble_eq_true rfl) dX0_blownBy_35) rfl (fun H locs hw => ?_)
    exact hret1 r3 _ _ _ _ hf hw dX0_blownBy_38
  have hf := g_f hs2 hf
  refine lv_lookup (off := 38) (tgt := 39) hx hb dX0_blownBy_1 (by decide) ((lv_osw hs1 (by decide)).trans ((lv_osw hs2 (by decide)).trans rfl)) (by decide) ?_
  refine lv_iconst (v := 0) hx hb dX0_blownBy_39 k_i0 ?_
  exact hret1 0 _ _ _ _ hf hw dX0_blownBy_40
theorem hX10_clearRow : yX10_clearRow.cls ≠ "java/lang/invoke/MethodHandle" ∧ yX10_clearRow.cls ≠ "java/lang/invoke/VarHandle" ∧ (parseMethodDescriptor yX10_clearRow.desc).map (fun d => d.parameters.length) = some 1 := by decide +kernel
set_option maxHeartbeats 4000000 in
set_option maxRecDepth 100000 in
theorem mX10_clearRow (l : Launch) (E : gE) (o_p0 : Nat) (n_p0 : Nat) (f_p0 : (Nat → Int32)) (z_p0 : (Nat → Int32)) (hf : fX10_clearRow n_p0 f_p0 = some z_p0) {sz : Nat} : gMv l yX10_clearRow (gW yX10_clearRow cX10_clearRow 2 none) ({ frames := 0, cells := 0, slots := 0, locals := 0 } : Room) E [.ref o_p0] (wX10_clearRow E o_p0 n_p0 f_p0) sz (wX10_clearRow E o_p0 n_p0 z_p0) := by
  refine g_openV (own := RX10) (by decide) rfl (Nat.le_of_ble_eq_true rfl) (fun p e s m args below meth cd Q A hx hb hml hown hG hK hA hret hw ls hl => ?_)
  have hl : lv_has ls 2 [(0, .ref o_p0)] := hl
  have hret1 : ∀ (t : (Nat → Int32)) (H : Heap) (locs : List Loc) (pc : Nat) (ls : Array Slot), some t = some z_p0 → gS E A s.heap (wX10_clearRow E o_p0 n_p0 t) H locs → decode cX10_clearRow pc = .ok (.return_, 1) → W p l e ({ frames := 0, cells := 0, slots := 0, locals := 0 } : Room) s m args below meth cd H locs 0 0 Q (F0 m pc ls []) := by
    intro t H locs pc ls h hw hd
    obtain rfl : t = z_p0 := Option.some.inj h
    exact hret H locs pc ls hw hd
  have B2 : ∀ n : Nat, ∀ (f_p0 : (Nat → Int32)) (x1 : Int32) (H : Heap) (locs : List Loc) (ls : Array Slot), fX10_clearRow_b2 n_p0 n f_p0 x1 = some z_p0 → gS E A s.heap (wX10_clearRow E o_p0 n_p0 f_p0) H locs → lv_has ls 2 [(0, .ref o_p0), (1, .int x1)] → W p l e ({ frames := 0, cells := 0, slots := 0, locals := 0 } : Room) s m args below meth cd H locs 0 0 Q (F0 m 2 ls []) := by
    intro n
    induction n with
    | zero => intro f_p0 x1 H locs ls hf hw hl; exact g_no hf
    | succ n ih =>
      intro f_p0 x1 H locs ls hf hw hl
      refine lv_iload_n hx hb dX10_clearRow_2 rfl (lv_at hl 1 rfl) ?_
      refine lv_aload_n hx hb dX10_clearRow_3 rfl (lv_at hl 0 rfl) ?_
      refine g_alen hx hb hK hw 0 rfl dX10_clearRow_4 ?_
      refine lv_icmp_ge (tgt := 18) hx hb dX10_clearRow_5 (by decide) (fun hc => ?_) (fun hc => ?_)
      · have hf := g_t hc hf
        exact hret1 f_p0 _ _ _ _ hf hw dX10_clearRow_18
      · have hf := g_f hc hf
        refine lv_aload_n hx hb dX10_clearRow_8 rfl (lv_at hl 0 rfl) ?_
        refine lv_iload_n hx hb dX10_clearRow_9 rfl (lv_at hl 1 rfl) ?_
        refine lv_iconst (v := 0) hx hb dX10_clearRow_10 k_i0 ?_
        obtain ⟨hi1, hf⟩ := gA_s hf
        refine g_iast (ws' := (wX10_clearRow E o_p0 n_p0 (upd f_p0 (Int32.toNatClampNeg x1) 0))) hx hb hK hw 0 rfl hi1 rfl dX10_clearRow_11 (fun H locs hw => ?_)
        refine lv_iinc (lv' := [(1, .int (x1 + 1)), (0, .ref o_p0)]) hx hb dX10_clearRow_12 hl (k := 1) rfl (k_inc1 _) (Nat.le_of_ble_eq_true rfl) rfl (fun ls hl => ?_)
        refine lv_goto (tgt := 2) hx hb dX10_clearRow_15 (by decide) ?_
        exact ih (upd f_p0 (Int32.toNatClampNeg x1) 0) (x1 + 1) _ _ _ hf hw (lv_sub hl [1, 0] rfl)
  refine lv_iconst (v := 0) hx hb dX10_clearRow_0 k_i0 ?_
  refine lv_istore_n (lv' := [(1, .int 0), (0, .ref o_p0)]) hx hb dX10_clearRow_1 rfl hl (Nat.le_of_ble_eq_true rfl) rfl (fun ls hl => ?_)
  exact B2 1000 f_p0 0 _ _ _ hf hw (lv_sub hl [1, 0] rfl)
theorem hX6_strikeHour : yX6_strikeHour.cls = RX6 ∧ yX6_strikeHour.cls ≠ "java/lang/invoke/MethodHandle" ∧ yX6_strikeHour.cls ≠ "java/lang/invoke/VarHandle" ∧ (parseMethodDescriptor yX6_strikeHour.desc).map (fun d => d.parameters.length) = some 0 := by decide +kernel
set_option maxHeartbeats 4000000 in
set_option maxRecDepth 100000 in
theorem mX6_strikeHour (l : Launch) (E : gE) (o_t : Nat) (a_t : (Nat → Nat)) (v_t_families : Int32) (v_t_wind : Int32) (v_t_force : Int32) (v_t_rain : Int32) (v_t_lost : Int32) (v_t_hour : Int32) (f_t_blown : (Nat → Int32)) (z_t_hour : Int32) (z_t_blown : (Nat → Int32)) (hf : fX6_strikeHour v_t_hour f_t_blown = some (z_t_hour, z_t_blown)) {sz : Nat} : gMv l yX6_strikeHour (gW yX6_strikeHour cX6_strikeHour 1 none) ({ frames := 1, cells := 0, slots := 0, locals := 21 } : Room) E [.ref o_t] (wX6_strikeHour E o_t a_t v_t_families v_t_wind v_t_force v_t_rain v_t_lost v_t_hour f_t_blown) sz (wX6_strikeHour E o_t a_t v_t_families v_t_wind v_t_force v_t_rain v_t_lost z_t_hour z_t_blown) := by
  refine g_openV (own := RX6) (by decide) rfl (Nat.le_of_ble_eq_true rfl) (fun p e s m args below meth cd Q A hx hb hml hown hG hK hA hret hw ls hl => ?_)
  have hl : lv_has ls 1 [(0, .ref o_t)] := hl
  have hret1 : ∀ (t : Int32 × (Nat → Int32)) (H : Heap) (locs : List Loc) (pc : Nat) (ls : Array Slot), some t = some (z_t_hour, z_t_blown) → gS E A s.heap (wX6_strikeHour E o_t a_t v_t_families v_t_wind v_t_force v_t_rain v_t_lost t.1 t.2) H locs → decode cX6_strikeHour pc = .ok (.return_, 1) → W p l e ({ frames := 1, cells := 0, slots := 0, locals := 21 } : Room) s m args below meth cd H locs 0 0 Q (F0 m pc ls []) := by
    intro t H locs pc ls h hw hd
    obtain rfl : t = (z_t_hour, z_t_blown) := Option.some.inj h
    exact hret H locs pc ls hw hd
  refine lv_aload_n hx hb dX6_strikeHour_0 rfl (lv_at hl 0 rfl) ?_
  refine lv_dup hx hb dX6_strikeHour_1 rfl ?_
  refine g_get hx hb hG hown hK hw inlX6 (ci := 5) rfl 0 10 (Nat.le_of_ble_eq_true rfl) rfl rfl wd_3_16 dX6_strikeHour_2 ?_
  refine lv_iconst (v := 1) hx hb dX6_strikeHour_5 k_i1 ?_
  refine lv_iadd hx hb dX6_strikeHour_6 ?_
  refine g_put (ws' := (wX6_strikeHour E o_t a_t v_t_families v_t_wind v_t_force v_t_rain v_t_lost (v_t_hour + 1) f_t_blown)) hx hb hG hown hK hw inlX6 tyX6_ok nmX6 (ci := 5) rfl 0 10 (Nat.le_of_ble_eq_true rfl) rfl wd_3_16 rfl rfl rfl (Nat.le_of_ble_eq_true rfl) rfl dX6_strikeHour_7 (fun H locs hw => ?_)
  refine lv_aload_n hx hb dX6_strikeHour_10 rfl (lv_at hl 0 rfl) ?_
  refine g_get hx hb hG hown hK hw inlX6 (ci := 5) rfl 0 3 (Nat.le_of_ble_eq_true rfl) rfl rfl wd_3_9 dX6_strikeHour_11 ?_
  obtain ⟨r1, hc2, hf⟩ := gB_s hf
  refine g_kv (is := [1]) (isR := [0]) (nW := 2) (w1 := (wX10_clearRow E (a_t 3) 6 r1)) (ws' := (wX6_strikeHour E o_t a_t v_t_families v_t_wind v_t_force v_t_rain v_t_lost (v_t_hour + 1) r1)) hw hA (g_rN (host := "SeedBank") hx hb hml hG hown hK hw (is := [1]) rfl (by decide) (mX10_clearRow l E (a_t 3) 6 f_t_blown r1 hc2) (List.mem_of_getElem? (i := 15) rfl) wd_18_15 wd_1_2 wd_18_16 hX10_clearRow g_allgood ⟨rfl, rfl⟩ ⟨Nat.le_of_ble_eq_true rfl, Nat.le_of_ble_eq_true rfl⟩ ⟨Nat.zero_le _, Nat.zero_le _⟩ rfl hl.1 rfl (Nat.le_of_ble_eq_true rfl) dX6_strikeHour_14) rfl (g_had [(a_t 3)] rfl rfl) rfl (⟨⟨_, rfl, rfl⟩, trivial⟩) rfl rfl (by decide) (fun H locs hw => ?_)
  exact hret1 ((v_t_hour + 1), r1) _ _ _ _ hf hw dX6_strikeHour_17
theorem hX6_graze : yX6_graze.cls = RX6 ∧ yX6_graze.cls ≠ "java/lang/invoke/MethodHandle" ∧ yX6_graze.cls ≠ "java/lang/invoke/VarHandle" ∧ (parseMethodDescriptor yX6_graze.desc).map (fun d => d.parameters.length) = some 0 := by decide +kernel
set_option maxHeartbeats 4000000 in
set_option maxRecDepth 100000 in
theorem mX6_graze (l : Launch) (E : gE) (o_t : Nat) (a_t : (Nat → Nat)) (v_t_families : Int32) (v_t_wind : Int32) (v_t_force : Int32) (v_t_rain : Int32) (v_t_lost : Int32) (v_t_hour : Int32) (f_t_ground : (Nat → Int32)) (z_t_lost : Int32) (z_t_ground : (Nat → Int32)) (hf : fX6_graze v_t_lost f_t_ground = some (z_t_lost, z_t_ground)) {sz : Nat} : gMv l yX6_graze (gW yX6_graze cX6_graze 3 none) ({ frames := 0, cells := 0, slots := 0, locals := 0 } : Room) E [.ref o_t] (wX6_graze E o_t a_t v_t_families v_t_wind v_t_force v_t_rain v_t_lost v_t_hour f_t_ground) sz (wX6_graze E o_t a_t v_t_families v_t_wind v_t_force v_t_rain z_t_lost v_t_hour z_t_ground) := by
  refine g_openV (own := RX6) (by decide) rfl (Nat.le_of_ble_eq_true rfl) (fun p e s m args below meth cd Q A hx hb hml hown hG hK hA hret hw ls hl => ?_)
  have hl : lv_has ls 3 [(0, .ref o_t)] := hl
  have hret1 : ∀ (t : Int32 × (Nat → Int32)) (H : Heap) (locs : List Loc) (pc : Nat) (ls : Array Slot), some t = some (z_t_lost, z_t_ground) → gS E A s.heap (wX6_graze E o_t a_t v_t_families v_t_wind v_t_force v_t_rain t.1 v_t_hour t.2) H locs → decode cX6_graze pc = .ok (.return_, 1) → W p l e ({ frames := 0, cells := 0, slots := 0, locals := 0 } : Room) s m args below meth cd H locs 0 0 Q (F0 m pc ls []) := by
    intro t H locs pc ls h hw hd
    obtain rfl : t = (z_t_lost, z_t_ground) := Option.some.inj h
    exact hret H locs pc ls hw hd
  have B2 : ∀ n : Nat, ∀ (v_t_lost : Int32) (f_t_ground : (Nat → Int32)) (x1 : Int32) (H : Heap) (locs : List Loc) (ls : Array Slot), fX6_graze_b2 n v_t_lost f_t_ground x1 = some (z_t_lost, z_t_ground) → gS E A s.heap (wX6_graze E o_t a_t v_t_families v_t_wind v_t_force v_t_rain v_t_lost v_t_hour f_t_ground) H locs → lv_has ls 3 [(0, .ref o_t), (1, .int x1)] → W p l e ({ frames := 0, cells := 0, slots := 0, locals := 0 } : Room) s m args below meth cd H locs 0 0 Q (F0 m 2 ls []) := by
    intro n
    induction n with
    | zero => intro v_t_lost f_t_ground x1 H locs ls hf hw hl; exact g_no hf
    | succ n ih =>
      intro v_t_lost f_t_ground x1 H locs ls hf hw hl
      refine lv_iload_n hx hb dX6_graze_2 rfl (lv_at hl 1 rfl) ?_
      refine lv_bipush (v := 36) hx hb dX6_graze_3 k_b36 ?_
      refine lv_icmp_ge (tgt := 43) hx hb dX6_graze_5 (by decide) (fun hc => ?_) (fun hc => ?_)
      · have hf := g_t hc hf
        exact hret1 (v_t_lost, f_t_ground) _ _ _ _ hf hw dX6_graze_43
      · have hf := g_f hc hf
        refine lv_aload_n hx hb dX6_graze_8 rfl (lv_at hl 0 rfl) ?_
        refine g_get hx hb hG hown hK hw inlX6 (ci := 5) rfl 0 4 (Nat.le_of_ble_eq_true rfl) rfl rfl wd_3_10 dX6_graze_9 ?_
        refine lv_iload_n hx hb dX6_graze_12 rfl (lv_at hl 1 rfl) ?_
        obtain ⟨hi1, hf⟩ := gA_s hf
        refine g_iald hx hb hK hw 1 rfl hi1 dX6_graze_13 ?_
        refine lv_iconst (v := 2) hx hb dX6_graze_14 k_i2 ?_
        refine lv_idiv hx hb dX6_graze_15 (by decide) ?_
        refine lv_istore_n (lv' := [(2, .int ((f_t_ground (Int32.toNatClampNeg x1)) / 2)), (0, .ref o_t), (1, .int x1)]) hx hb dX6_graze_16 rfl hl (Nat.le_of_ble_eq_true rfl) rfl (fun ls hl => ?_)
        refine lv_aload_n hx hb dX6_graze_17 rfl (lv_at hl 1 rfl) ?_
        refine g_get hx hb hG hown hK hw inlX6 (ci := 5) rfl 0 4 (Nat.le_of_ble_eq_true rfl) rfl rfl wd_3_10 dX6_graze_18 ?_
        refine lv_iload_n hx hb dX6_graze_21 rfl (lv_at hl 2 rfl) ?_
        refine lv_dup2_11 hx hb dX6_graze_22 rfl rfl ?_
        obtain ⟨hi2, hf⟩ := gA_s hf
        refine g_iald hx hb hK hw 1 rfl hi2 dX6_graze_23 ?_
        refine lv_iload_n hx hb dX6_graze_24 rfl (lv_at hl 0 rfl) ?_
        refine lv_isub hx hb dX6_graze_25 ?_
        obtain ⟨hi3, hf⟩ := gA_s hf
        refine g_iast (ws' := (wX6_graze E o_t a_t v_t_families v_t_wind v_t_force v_t_rain v_t_lost v_t_hour (upd f_t_ground (Int32.toNatClampNeg x1) ((f_t_ground (Int32.toNatClampNeg x1)) - ((f_t_ground (Int32.toNatClampNeg x1)) / 2))))) hx hb hK hw 1 rfl hi3 rfl dX6_graze_26 (fun H locs hw => ?_)
        refine lv_aload_n hx hb dX6_graze_27 rfl (lv_at hl 1 rfl) ?_
        refine lv_dup hx hb dX6_graze_28 rfl ?_
        refine g_get hx hb hG hown hK hw inlX6 (ci := 5) rfl 0 9 (Nat.le_of_ble_eq_true rfl) rfl rfl wd_3_15 dX6_graze_29 ?_
        refine lv_iload_n hx hb dX6_graze_32 rfl (lv_at hl 0 rfl) ?_
        refine lv_iadd hx hb dX6_graze_33 ?_
        refine g_put (ws' := (wX6_graze E o_t a_t v_t_families v_t_wind v_t_force v_t_rain (v_t_lost + ((f_t_ground (Int32.toNatClampNeg x1)) / 2)) v_t_hour (upd f_t_ground (Int32.toNatClampNeg x1) ((f_t_ground (Int32.toNatClampNeg x1)) - ((f_t_ground (Int32.toNatClampNeg x1)) / 2))))) hx hb hG hown hK hw inlX6 tyX6_ok nmX6 (ci := 5) rfl 0 9 (Nat.le_of_ble_eq_true rfl) rfl wd_3_15 rfl rfl rfl (Nat.le_of_ble_eq_true rfl) rfl dX6_graze_34 (fun H locs hw => ?_)
        refine lv_iinc (lv' := [(1, .int (x1 + 1)), (2, .int ((f_t_ground (Int32.toNatClampNeg x1)) / 2)), (0, .ref o_t)]) hx hb dX6_graze_37 hl (k := 2) rfl (k_inc1 _) (Nat.le_of_ble_eq_true rfl) rfl (fun ls hl => ?_)
        refine lv_goto (tgt := 2) hx hb dX6_graze_40 (by decide) ?_
        exact ih (v_t_lost + ((f_t_ground (Int32.toNatClampNeg x1)) / 2)) (upd f_t_ground (Int32.toNatClampNeg x1) ((f_t_ground (Int32.toNatClampNeg x1)) - ((f_t_ground (Int32.toNatClampNeg x1)) / 2))) (x1 + 1) _ _ _ hf hw (lv_sub hl [2, 0] rfl)
  refine lv_iconst (v := 0) hx hb dX6_graze_0 k_i0 ?_
  refine lv_istore_n (lv' := [(1, .int 0), (0, .ref o_t)]) hx hb dX6_graze_1 rfl hl (Nat.le_of_ble_eq_true rfl) rfl (fun ls hl => ?_)
  exact B2 1000 v_t_lost f_t_ground 0 _ _ _ hf hw (lv_sub hl [1, 0] rfl)
theorem hX10_isField : yX10_isField.cls ≠ "java/lang/invoke/MethodHandle" ∧ yX10_isField.cls ≠ "java/lang/invoke/VarHandle" ∧ (parseMethodDescriptor yX10_isField.desc).map (fun d => d.parameters.length) = some 1 := by decide +kernel
set_option maxHeartbeats 4000000 in
set_option maxRecDepth 100000 in
theorem mX10_isField (l : Launch) (E : gE) (x0 : Int32) (rv : Int32) (hf : fX10_isField x0 = some rv) {sz : Nat} : gMi l yX10_isField (gW yX10_isField cX10_isField 1 (some .boolean)) ({ frames := 0, cells := 0, slots := 0, locals := 0 } : Room) E [.int x0] (wX10_isField E) sz rv (wX10_isField E) := by
  refine g_openZ (own := RX10) (by decide) rfl (Nat.le_of_ble_eq_true rfl) (fun p e s m args below meth cd Q A hx hb hml hown hG hK hA hret hw ls hl => ?_)
  have hl : lv_has ls 1 [(0, .int x0)] := hl
  have hret1 : ∀ (t : Int32) (H : Heap) (locs : List Loc) (pc : Nat) (ls : Array Slot), some t = some rv → t &&& 1 = t → gS E A s.heap (wX10_isField E) H locs → decode cX10_isField pc = .ok (.ireturn, 1) → W p l e ({ frames := 0, cells := 0, slots := 0, locals := 0 } : Room) s m args below meth cd H locs 0 0 Q (F0 m pc ls [.int t]) := by
    intro t H locs pc ls h hz hw hd
    obtain rfl : t = rv := Option.some.inj h
    exact hret H locs pc ls hz hw hd
  have B15 : ∀ (s0 : Int32) (H : Heap) (locs : List Loc) (ls : Array Slot), fX10_isField_b15 s0 = some rv → gS E A s.heap (wX10_isField E) H locs → lv_has ls 1 [] → W p l e ({ frames := 0, cells := 0, slots := 0, locals := 0 } : Room) s m args below meth cd H locs 0 0 Q (F0 m 15 ls [.int s0]) := by
    intro  s0 H locs ls hf hw hl
    obtain ⟨hz1, hf⟩ := gZ_s hf
    exact hret1 s0 _ _ _ _ hf hz1 hw dX10_isField_15
  have B14 : ∀ (H : Heap) (locs : List Loc) (ls : Array Slot), fX10_isField_b14 = some rv → gS E A s.heap (wX10_isField E) H locs → lv_has ls 1 [] → W p l e ({ frames := 0, cells := 0, slots := 0, locals := 0 } : Room) s m args below meth cd H locs 0 0 Q (F0 m 14 ls []) := by
    intro   H locs ls hf hw hl
    refine lv_iconst (v := 0) hx hb dX10_isField_14 k_i0 ?_
    exact B15 0 _ _ _ hf hw (lv_sub hl [] rfl)
  refine lv_iload_n hx hb dX10_isField_0 rfl (lv_at hl 0 rfl) ?_
  refine lv_if_lt (tgt := 14) hx hb dX10_isField_1 (by decide) (fun hc => ?_) (fun hc => ?_)
  · have hf := g_t hc hf
    exact B14 _ _ _ hf hw (lv_sub hl [] rfl)
  · have hf := g_f hc hf
    refine lv_iload_n hx hb dX10_isField_4 rfl (lv_at hl 0 rfl) ?_
    refine lv_bipush (v := 36) hx hb dX10_isField_5 k_b36 ?_
    refine lv_icmp_ge (tgt := 14) hx hb dX10_isField_7 (by decide) (fun hc => ?_) (fun hc => ?_)
    · have hf := g_t hc hf
      exact B14 _ _ _ hf hw (lv_sub hl [] rfl)
    · have hf := g_f hc hf
      refine lv_iconst (v := 1) hx hb dX10_isField_10 k_i1 ?_
      refine lv_goto (tgt := 15) hx hb dX10_isField_11 (by decide) ?_
      exact B15 1 _ _ _ hf hw (lv_sub hl [] rfl)
theorem hX6_mow : yX6_mow.cls = RX6 ∧ yX6_mow.cls ≠ "java/lang/invoke/MethodHandle" ∧ yX6_mow.cls ≠ "java/lang/invoke/VarHandle" ∧ (parseMethodDescriptor yX6_mow.desc).map (fun d => d.parameters.length) = some 1 := by decide +kernel
set_option maxHeartbeats 4000000 in
set_option maxRecDepth 100000 in
theorem mX6_mow (l : Launch) (E : gE) (o_t : Nat) (a_t : (Nat → Nat)) (v_t_families : Int32) (v_t_wind : Int32) (v_t_force : Int32) (v_t_rain : Int32) (v_t_lost : Int32) (v_t_hour : Int32) (f_t_home : (Nat → Int32)) (f_t_seeds : (Nat → Int32)) (f_t_ground : (Nat → Int32)) (x1 : Int32) (z_t_seeds : (Nat → Int32)) (z_t_ground : (Nat → Int32)) (hf : fX6_mow v_t_families f_t_home f_t_seeds f_t_ground x1 = some (z_t_seeds, z_t_ground)) {sz : Nat} : gMv l yX6_mow (gW yX6_mow cX6_mow 3 none) ({ frames := 1, cells := 0, slots := 0, locals := 21 } : Room) E [.ref o_t, .int x1] (wX6_mow E o_t a_t v_t_families v_t_wind v_t_force v_t_rain v_t_lost v_t_hour f_t_home f_t_seeds f_t_ground) sz (wX6_mow E o_t a_t v_t_families v_t_wind v_t_force v_t_rain v_t_lost v_t_hour f_t_home z_t_seeds z_t_ground) := by
  refine g_openV (own := RX6) (by decide) rfl (Nat.le_of_ble_eq_true rfl) (fun p e s m args below meth cd Q A hx hb hml hown hG hK hA hret hw ls hl => ?_)
  have hl : lv_has ls 3 [(0, .ref o_t), (1, .int x1)] := hl
  have hret1 : ∀ (t : (Nat → Int32) × (Nat → Int32)) (H : Heap) (locs : List Loc) (pc : Nat) (ls : Array Slot), some t = some (z_t_seeds, z_t_ground) → gS E A s.heap (wX6_mow E o_t a_t v_t_families v_t_wind v_t_force v_t_rain v_t_lost v_t_hour f_t_home t.1 t.2) H locs → decode cX6_mow pc = .ok (.return_, 1) → W p l e ({ frames := 1, cells := 0, slots := 0, locals := 21 } : Room) s m args below meth cd H locs 0 0 Q (F0 m pc ls []) := by
    intro t H locs pc ls h hw hd
    obtain rfl : t = (z_t_seeds, z_t_ground) := Option.some.inj h
    exact hret H locs pc ls hw hd
  have B20 : ∀ (f_t_seeds : (Nat → Int32)) (f_t_ground : (Nat → Int32)) (H : Heap) (locs : List Loc) (ls : Array Slot), fX6_mow_b20 f_t_seeds f_t_ground = some (z_t_seeds, z_t_ground) → gS E A s.heap (wX6_mow E o_t a_t v_t_families v_t_wind v_t_force v_t_rain v_t_lost v_t_hour f_t_home f_t_seeds f_t_ground) H locs → lv_has ls 3 [] → W p l e ({ frames := 1, cells := 0, slots := 0, locals := 21 } : Room) s m args below meth cd H locs 0 0 Q (F0 m 20 ls []) := by
    intro  f_t_seeds f_t_ground H locs ls hf hw hl
    exact hret1 (f_t_seeds, f_t_ground) _ _ _ _ hf hw dX6_mow_20
  refine lv_aload_n hx hb dX6_mow_0 rfl (lv_at hl 0 rfl) ?_
  refine lv_iload_n hx hb dX6_mow_1 rfl (lv_at hl 1 rfl) ?_
  obtain ⟨r1, hc2, hf⟩ := gB_s hf
  refine g_ki0 (is := [0]) hw hA (g_rV hx hb hml hG hown hK hw (is := [0]) rfl (by decide) (mX6_isThere l E o_t a_t v_t_families v_t_wind v_t_force v_t_rain v_t_lost v_t_hour x1 r1 hc2) wd_9_16 wd_9_9 wd_9_10 wd_2_20 wd_9_11 hX6_isThere g_allgood ⟨rfl, rfl⟩ ⟨Nat.le_of_ble_eq_true rfl, Nat.le_of_ble_eq_true rfl⟩ ⟨Nat.zero_le _, Nat.zero_le _⟩ (ci := 5) (q0 := 0) rfl rfl rfl rfl hl.1 rfl (Nat.le_of_ble_eq_true rfl) dX6_mow_2) rfl (fun H locs hw => ?_)
  refine lv_if_eq (tgt := 20) hx hb dX6_mow_5 (by decide) (fun hc => ?_) (fun hc => ?_)
  · have hf := g_t hc hf
    exact B20 f_t_seeds f_t_ground _ _ _ hf hw (lv_sub hl [] rfl)
  · have hf := g_f hc hf
    refine lv_aload_n hx hb dX6_mow_8 rfl (lv_at hl 0 rfl) ?_
    refine g_get hx hb hG hown hK hw inlX6 (ci := 5) rfl 0 0 (Nat.le_of_ble_eq_true rfl) rfl rfl wd_3_6 dX6_mow_9 ?_
    refine lv_iload_n hx hb dX6_mow_12 rfl (lv_at hl 1 rfl) ?_
    obtain ⟨hi3, hf⟩ := gA_s hf
    refine g_iald hx hb hK hw 1 rfl hi3 dX6_mow_13 ?_
    obtain ⟨r4, hc5, hf⟩ := gB_s hf
    refine g_ki0 (is := []) hw hA (g_rN (host := "SeedBank") hx hb hml hG hown hK hw (is := []) rfl (by decide) (mX10_isField l E (f_t_home (Int32.toNatClampNeg x1)) r4 hc5) (List.mem_of_getElem? (i := 14) rfl) wd_7_5 wd_1_2 wd_7_6 hX10_isField g_allgood ⟨rfl, rfl⟩ ⟨Nat.le_of_ble_eq_true rfl, Nat.le_of_ble_eq_true rfl⟩ ⟨Nat.zero_le _, Nat.zero_le _⟩ rfl hl.1 rfl (Nat.le_of_ble_eq_true rfl) dX6_mow_14) rfl (fun H locs hw => ?_)
    refine lv_if_ne (tgt := 21) hx hb dX6_mow_17 (by decide) (fun hc => ?_) (fun hc => ?_)
    · have hf := g_f hc hf
      refine lv_bipush (v := 60) hx hb dX6_mow_21 k_b60 ?_
      refine lv_aload_n hx hb dX6_mow_23 rfl (lv_at hl 0 rfl) ?_
      refine g_get hx hb hG hown hK hw inlX6 (ci := 5) rfl 0 1 (Nat.le_of_ble_eq_true rfl) rfl rfl wd_3_7 dX6_mow_24 ?_
      refine lv_iload_n hx hb dX6_mow_27 rfl (lv_at hl 1 rfl) ?_
      obtain ⟨hi6, hf⟩ := gA_s hf
      refine g_iald hx hb hK hw 2 rfl hi6 dX6_mow_28 ?_
      refine lv_isub hx hb dX6_mow_29 ?_
      refine lv_aload_n hx hb dX6_mow_30 rfl (lv_at hl 0 rfl) ?_
      refine g_get hx hb hG hown hK hw inlX6 (ci := 5) rfl 0 4 (Nat.le_of_ble_eq_true rfl) rfl rfl wd_3_10 dX6_mow_31 ?_
      refine lv_aload_n hx hb dX6_mow_34 rfl (lv_at hl 0 rfl) ?_
      refine g_get hx hb hG hown hK hw inlX6 (ci := 5) rfl 0 0 (Nat.le_of_ble_eq_true rfl) rfl rfl wd_3_6 dX6_mow_35 ?_
      refine lv_iload_n hx hb dX6_mow_38 rfl (lv_at hl 1 rfl) ?_
      obtain ⟨hi7, hf⟩ := gA_s hf
      refine g_iald hx hb hK hw 1 rfl hi7 dX6_mow_39 ?_
      obtain ⟨hi8, hf⟩ := gA_s hf
      refine g_iald hx hb hK hw 3 rfl hi8 dX6_mow_40 ?_
      refine va_mmin hx hb (hml.trans hl.1.symm) hown (hG _ wd_18_3) (hG _ wd_18_4) (hG _ wd_18_5) (hG _ wd_18_6) (Nat.le_of_ble_eq_true rfl) (Nat.le_of_ble_eq_true rfl) (Nat.zero_le _) (Nat.zero_le _) dX6_mow_41 ?_
      refine lv_istore_n (lv' := [(2, .int (if (f_t_ground (Int32.toNatClampNeg (f_t_home (Int32.toNatClampNeg x1)))) < (60 - (f_t_seeds (Int32.toNatClampNeg x1))) then (f_t_ground (Int32.toNatClampNeg (f_t_home (Int32.toNatClampNeg x1)))) else (60 - (f_t_seeds (Int32.toNatClampNeg x1))))), (0, .ref o_t), (1, .int x1)]) hx hb dX6_mow_44 rfl hl (Nat.le_of_ble_eq_true rfl) rfl (fun ls hl => ?_)
      refine lv_aload_n hx hb dX6_mow_45 rfl (lv_at hl 1 rfl) ?_
      refine g_get hx hb hG hown hK hw inlX6 (ci := 5) rfl 0 1 (Nat.le_of_ble_eq_true rfl) rfl rfl wd_3_7 dX6_mow_46 ?_
      refine lv_iload_n hx hb dX6_mow_49 rfl (lv_at hl 2 rfl) ?_
      refine lv_dup2_11 hx hb dX6_mow_50 rfl rfl ?_
      obtain ⟨hi9, hf⟩ := gA_s hf
      refine g_iald hx hb hK hw 2 rfl hi9 dX6_mow_51 ?_
      refine lv_iload_n hx hb dX6_mow_52 rfl (lv_at hl 0 rfl) ?_
      refine lv_iadd hx hb dX6_mow_53 ?_
      obtain ⟨hi10, hf⟩ := gA_s hf
      refine g_iast (ws' := (wX6_mow E o_t a_t v_t_families v_t_wind v_t_force v_t_rain v_t_lost v_t_hour f_t_home (upd f_t_seeds (Int32.toNatClampNeg x1) ((f_t_seeds (Int32.toNatClampNeg x1)) + (if (f_t_ground (Int32.toNatClampNeg (f_t_home (Int32.toNatClampNeg x1)))) < (60 - (f_t_seeds (Int32.toNatClampNeg x1))) then (f_t_ground (Int32.toNatClampNeg (f_t_home (Int32.toNatClampNeg x1)))) else (60 - (f_t_seeds (Int32.toNatClampNeg x1)))))) f_t_ground)) hx hb hK hw 2 rfl hi10 rfl dX6_mow_54 (fun H locs hw => ?_)
      refine lv_aload_n hx hb dX6_mow_55 rfl (lv_at hl 1 rfl) ?_
      refine g_get hx hb hG hown hK hw inlX6 (ci := 5) rfl 0 4 (Nat.le_of_ble_eq_true rfl) rfl rfl wd_3_10 dX6_mow_56 ?_
      refine lv_aload_n hx hb dX6_mow_59 rfl (lv_at hl 1 rfl) ?_
      refine g_get hx hb hG hown hK hw inlX6 (ci := 5) rfl 0 0 (Nat.le_of_ble_eq_true rfl) rfl rfl wd_3_6 dX6_mow_60 ?_
      refine lv_iload_n hx hb dX6_mow_63 rfl (lv_at hl 2 rfl) ?_
      obtain ⟨hi11, hf⟩ := gA_s hf
      refine g_iald hx hb hK hw 1 rfl hi11 dX6_mow_64 ?_
      refine lv_dup2_11 hx hb dX6_mow_65 rfl rfl ?_
      obtain ⟨hi12, hf⟩ := gA_s hf
      refine g_iald hx hb hK hw 3 rfl hi12 dX6_mow_66 ?_
      refine lv_iload_n hx hb dX6_mow_67 rfl (lv_at hl 0 rfl) ?_
      refine lv_isub hx hb dX6_mow_68 ?_
      obtain ⟨hi13, hf⟩ := gA_s hf
      refine g_iast (ws' := (wX6_mow E o_t a_t v_t_families v_t_wind v_t_force v_t_rain v_t_lost v_t_hour f_t_home (upd f_t_seeds (Int32.toNatClampNeg x1) ((f_t_seeds (Int32.toNatClampNeg x1)) + (if (f_t_ground (Int32.toNatClampNeg (f_t_home (Int32.toNatClampNeg x1)))) < (60 - (f_t_seeds (Int32.toNatClampNeg x1))) then (f_t_ground (Int32.toNatClampNeg (f_t_home (Int32.toNatClampNeg x1)))) else (60 - (f_t_seeds (Int32.toNatClampNeg x1)))))) (upd f_t_ground (Int32.toNatClampNeg (f_t_home (Int32.toNatClampNeg x1))) ((f_t_ground (Int32.toNatClampNeg (f_t_home (Int32.toNatClampNeg x1)))) - (if (f_t_ground (Int32.toNatClampNeg (f_t_home (Int32.toNatClampNeg x1)))) < (60 - (f_t_seeds (Int32.toNatClampNeg x1))) then (f_t_ground (Int32.toNatClampNeg (f_t_home (Int32.toNatClampNeg x1)))) else (60 - (f_t_seeds (Int32.toNatClampNeg x1)))))))) hx hb hK hw 3 rfl hi13 rfl dX6_mow_69 (fun H locs hw => ?_)
      exact hret1 ((upd f_t_seeds (Int32.toNatClampNeg x1) ((f_t_seeds (Int32.toNatClampNeg x1)) + (if (f_t_ground (Int32.toNatClampNeg (f_t_home (Int32.toNatClampNeg x1)))) < (60 - (f_t_seeds (Int32.toNatClampNeg x1))) then (f_t_ground (Int32.toNatClampNeg (f_t_home (Int32.toNatClampNeg x1)))) else (60 - (f_t_seeds (Int32.toNatClampNeg x1)))))), (upd f_t_ground (Int32.toNatClampNeg (f_t_home (Int32.toNatClampNeg x1))) ((f_t_ground (Int32.toNatClampNeg (f_t_home (Int32.toNatClampNeg x1)))) - (if (f_t_ground (Int32.toNatClampNeg (f_t_home (Int32.toNatClampNeg x1)))) < (60 - (f_t_seeds (Int32.toNatClampNeg x1))) then (f_t_ground (Int32.toNatClampNeg (f_t_home (Int32.toNatClampNeg x1)))) else (60 - (f_t_seeds (Int32.toNatClampNeg x1))))))) _ _ _ _ hf hw dX6_mow_70
    · have hf := g_t hc hf
      exact B20 f_t_seeds f_t_ground _ _ _ hf hw (lv_sub hl [] rfl)
theorem hX10_downwind : yX10_downwind.cls ≠ "java/lang/invoke/MethodHandle" ∧ yX10_downwind.cls ≠ "java/lang/invoke/VarHandle" ∧ (parseMethodDescriptor yX10_downwind.desc).map (fun d => d.parameters.length) = some 3 := by decide +kernel
set_option maxHeartbeats 4000000 in
set_option maxRecDepth 100000 in
theorem mX10_downwind (l : Launch) (E : gE) (x0 : Int32) (x1 : Int32) (x2 : Int32) (rv : Int32) (hf : fX10_downwind x0 x1 x2 = some rv) {sz : Nat} : gMi l yX10_downwind (gW yX10_downwind cX10_downwind 6 (some .int)) ({ frames := 0, cells := 0, slots := 0, locals := 0 } : Room) E [.int x0, .int x1, .int x2] (wX10_downwind E) sz rv (wX10_downwind E) := by
  refine g_openI (own := RX10) (by decide) rfl (Nat.le_of_ble_eq_true rfl) (fun p e s m args below meth cd Q A hx hb hml hown hG hK hA hret hw ls hl => ?_)
  have hl : lv_has ls 6 [(0, .int x0), (1, .int x1), (2, .int x2)] := hl
  have hret1 : ∀ (t : Int32) (H : Heap) (locs : List Loc) (pc : Nat) (ls : Array Slot), some t = some rv → gS E A s.heap (wX10_downwind E) H locs → decode cX10_downwind pc = .ok (.ireturn, 1) → W p l e ({ frames := 0, cells := 0, slots := 0, locals := 0 } : Room) s m args below meth cd H locs 0 0 Q (F0 m pc ls [.int t]) := by
    intro t H locs pc ls h hw hd
    obtain rfl : t = rv := Option.some.inj h
    exact hret H locs pc ls hw hd
  have B114 : ∀ (s0 : Int32) (H : Heap) (locs : List Loc) (ls : Array Slot), fX10_downwind_b114 s0 = some rv → gS E A s.heap (wX10_downwind E) H locs → lv_has ls 6 [] → W p l e ({ frames := 0, cells := 0, slots := 0, locals := 0 } : Room) s m args below meth cd H locs 0 0 Q (F0 m 114 ls [.int s0]) := by
    intro  s0 H locs ls hf hw hl
    exact hret1 s0 _ _ _ _ hf hw dX10_downwind_114
  have B96 : ∀ (x3 : Int32) (x4 : Int32) (s0 : Int32) (H : Heap) (locs : List Loc) (ls : Array Slot), fX10_downwind_b96 x3 x4 s0 = some rv → gS E A s.heap (wX10_downwind E) H locs → lv_has ls 6 [(3, .int x3), (4, .int x4)] → W p l e ({ frames := 0, cells := 0, slots := 0, locals := 0 } : Room) s m args below meth cd H locs 0 0 Q (F0 m 96 ls [.int s0]) := by
    intro  x3 x4 s0 H locs ls hf hw hl
    refine lv_istore (lv' := [(5, .int s0), (3, .int x3), (4, .int x4)]) hx hb dX10_downwind_96 hl (Nat.le_of_ble_eq_true rfl) rfl (fun ls hl => ?_)
    refine lv_iload hx hb dX10_downwind_98 (lv_at hl 0 rfl) ?_
    refine lv_if_eq (tgt := 113) hx hb dX10_downwind_100 (by decide) (fun hc => ?_) (fun hc => ?_)
    · have hf := g_t hc hf
      refine lv_iconst (v := -1) hx hb dX10_downwind_113 k_im1 ?_
      exact B114 (-1) _ _ _ hf hw (lv_sub hl [] rfl)
    · have hf := g_f hc hf
      refine lv_bipush (v := 6) hx hb dX10_downwind_103 k_b6 ?_
      refine lv_iload_n hx hb dX10_downwind_105 rfl (lv_at hl 1 rfl) ?_
      refine lv_imul hx hb dX10_downwind_106 ?_
      refine lv_iload hx hb dX10_downwind_107 (lv_at hl 2 rfl) ?_
      refine lv_iadd hx hb dX10_downwind_109 ?_
      refine lv_goto (tgt := 114) hx hb dX10_downwind_110 (by decide) ?_
      exact B114 ((6 * x3) + x4) _ _ _ hf hw (lv_sub hl [] rfl)
  have B95 : ∀ (x3 : Int32) (x4 : Int32) (H : Heap) (locs : List Loc) (ls : Array Slot), fX10_downwind_b95 x3 x4 = some rv → gS E A s.heap (wX10_downwind E) H locs → lv_has ls 6 [(3, .int x3), (4, .int x4)] → W p l e ({ frames := 0, cells := 0, slots := 0, locals := 0 } : Room) s m args below meth cd H locs 0 0 Q (F0 m 95 ls []) := by
    intro  x3 x4 H locs ls hf hw hl
    refine lv_iconst (v := 0) hx hb dX10_downwind_95 k_i0 ?_
    exact B96 x3 x4 0 _ _ _ hf hw (lv_sub hl [0, 1] rfl)
  have B69 : ∀ (x3 : Int32) (x4 : Int32) (H : Heap) (locs : List Loc) (ls : Array Slot), fX10_downwind_b69 x3 x4 = some rv → gS E A s.heap (wX10_downwind E) H locs → lv_has ls 6 [(3, .int x3), (4, .int x4)] → W p l e ({ frames := 0, cells := 0, slots := 0, locals := 0 } : Room) s m args below meth cd H locs 0 0 Q (F0 m 69 ls []) := by
    intro  x3 x4 H locs ls hf hw hl
    refine lv_iload hx hb dX10_downwind_69 (lv_at hl 1 rfl) ?_
    refine lv_if_lt (tgt := 95) hx hb dX10_downwind_71 (by decide) (fun hc => ?_) (fun hc => ?_)
    · have hf := g_t hc hf
      exact B95 x3 x4 _ _ _ hf hw (lv_sub hl [0, 1] rfl)
    · have hf := g_f hc hf
      refine lv_iload hx hb dX10_downwind_74 (lv_at hl 1 rfl) ?_
      refine lv_bipush (v := 6) hx hb dX10_downwind_76 k_b6 ?_
      refine lv_icmp_ge (tgt := 95) hx hb dX10_downwind_78 (by decide) (fun hc => ?_) (fun hc => ?_)
      · have hf := g_t hc hf
        exact B95 x3 x4 _ _ _ hf hw (lv_sub hl [0, 1] rfl)
      · have hf := g_f hc hf
        refine lv_iload_n hx hb dX10_downwind_81 rfl (lv_at hl 0 rfl) ?_
        refine lv_if_lt (tgt := 95) hx hb dX10_downwind_82 (by decide) (fun hc => ?_) (fun hc => ?_)
        · have hf := g_t hc hf
          exact B95 x3 x4 _ _ _ hf hw (lv_sub hl [0, 1] rfl)
        · have hf := g_f hc hf
          refine lv_iload_n hx hb dX10_downwind_85 rfl (lv_at hl 0 rfl) ?_
          refine lv_bipush (v := 6) hx hb dX10_downwind_86 k_b6 ?_
          refine lv_icmp_ge (tgt := 95) hx hb dX10_downwind_88 (by decide) (fun hc => ?_) (fun hc => ?_)
          · have hf := g_t hc hf
            exact B95 x3 x4 _ _ _ hf hw (lv_sub hl [0, 1] rfl)
          · have hf := g_f hc hf
            refine lv_iconst (v := 1) hx hb dX10_downwind_91 k_i1 ?_
            refine lv_goto (tgt := 96) hx hb dX10_downwind_92 (by decide) ?_
            exact B96 x3 x4 1 _ _ _ hf hw (lv_sub hl [0, 1] rfl)
  refine lv_iload_n hx hb dX10_downwind_0 rfl (lv_at hl 0 rfl) ?_
  refine lv_bipush (v := 6) hx hb dX10_downwind_1 k_b6 ?_
  refine lv_idiv hx hb dX10_downwind_3 (by decide) ?_
  refine lv_istore_n (lv' := [(3, .int (x0 / 6)), (0, .int x0), (1, .int x1), (2, .int x2)]) hx hb dX10_downwind_4 rfl hl (Nat.le_of_ble_eq_true rfl) rfl (fun ls hl => ?_)
  refine lv_iload_n hx hb dX10_downwind_5 rfl (lv_at hl 1 rfl) ?_
  refine lv_bipush (v := 6) hx hb dX10_downwind_6 k_b6 ?_
  refine g_irem hx hb dX10_downwind_8 (by decide) ?_
  refine lv_istore (lv' := [(4, .int (x0 % 6)), (3, .int (x0 / 6)), (0, .int x0), (1, .int x1), (2, .int x2)]) hx hb dX10_downwind_9 hl (Nat.le_of_ble_eq_true rfl) rfl (fun ls hl => ?_)
  refine lv_iload_n hx hb dX10_downwind_11 rfl (lv_at hl 3 rfl) ?_
  by_cases hs1 : x1 = 0
  · have hf := g_t hs1 hf
    refine lv_tableIn (off := 28) (tgt := 40) hx hb dX10_downwind_12 (by rw [hs1]; decide) (by rw [hs1]; decide) (by rw [hs1] <;> rfl) (by decide) ?_
    refine lv_iload_n hx hb dX10_downwind_40 rfl (lv_at hl 1 rfl) ?_
    refine lv_iload_n hx hb dX10_downwind_41 rfl (lv_at hl 4 rfl) ?_
    refine lv_iadd hx hb dX10_downwind_42 ?_
    refine lv_istore_n (lv' := [(3, .int ((x0 / 6) + x2)), (4, .int (x0 % 6)), (0, .int x0), (1, .int x1), (2, .int x2)]) hx hb dX10_downwind_43 rfl hl (Nat.le_of_ble_eq_true rfl) rfl (fun ls hl => ?_)
    refine lv_goto (tgt := 69) hx hb dX10_downwind_44 (by decide) ?_
    exact B69 ((x0 / 6) + x2) (x0 % 6) _ _ _ hf hw (lv_sub hl [0, 1] rfl)
  have hf := g_f hs1 hf
  by_cases hs2 : x1 = 1
  · have hf := g_t hs2 hf
    refine lv_tableIn (off := 35) (tgt := 47) hx hb dX10_downwind_12 (by rw [hs2]; decide) (by rw [hs2]; decide) (by rw [hs2] <;> rfl) (by decide) ?_
    refine lv_iload hx hb dX10_downwind_47 (lv_at hl 0 rfl) ?_
    refine lv_iload_n hx hb dX10_downwind_49 rfl (lv_at hl 4 rfl) ?_
    refine lv_iadd hx hb dX10_downwind_50 ?_
    refine lv_istore (lv' := [(4, .int ((x0 % 6) + x2)), (3, .int (x0 / 6)), (0, .int x0), (1, .int x1), (2, .int x2)]) hx hb dX10_downwind_51 hl (Nat.le_of_ble_eq_true rfl) rfl (fun ls hl => ?_)
    refine lv_goto (tgt := 69) hx hb dX10_downwind_53 (by decide) ?_
    exact B69 (x0 / 6) ((x0 % 6) + x2) _ _ _ hf hw (lv_sub hl [1, 0] rfl)
  have hf := g_f hs2 hf
  by_cases hs3 : x1 = 2
  · have hf := g_t hs3 hf
    refine lv_tableIn (off := 44) (tgt := 56) hx hb dX10_downwind_12 (by rw [hs3]; decide) (by rw [hs3]; decide) (by rw [hs3] <;> rfl) (by decide) ?_
    refine lv_iload_n hx hb dX10_downwind_56 rfl (lv_at hl 1 rfl) ?_
    refine lv_iload_n hx hb dX10_downwind_57 rfl (lv_at hl 4 rfl) ?_
    refine lv_isub hx hb dX10_downwind_58 ?_
    refine lv_istore_n (lv' := [(3, .int ((x0 / 6) - x2)), (4, .int (x0 % 6)), (0, .int x0), (1, .int x1), (2, .int x2)]) hx hb dX10_downwind_59 rfl hl (Nat.le_of_ble_eq_true rfl) rfl (fun ls hl => ?_)
    refine lv_goto (tgt := 69) hx hb dX10_downwind_60 (by decide) ?_
    exact B69 ((x0 / 6) - x2) (x0 % 6) _ _ _ hf hw (lv_sub hl [0, 1] rfl)
  have hf := g_f hs3 hf
  have nhs1 := lv_neT hs1 (show (0 : Int32).toInt = 0 from by decide)
  have nhs2 := lv_neT hs2 (show (1 : Int32).toInt = 1 from by decide)
  have nhs3 := lv_neT hs3 (show (2 : Int32).toInt = 2 from by decide)
  refine lv_tableOut (tgt := 63) hx hb dX10_downwind_12 (by omega) (by decide) ?_
  refine lv_iload hx hb dX10_downwind_63 (lv_at hl 0 rfl) ?_
  refine lv_iload_n hx hb dX10_downwind_65 rfl (lv_at hl 4 rfl) ?_
  refine lv_isub hx hb dX10_downwind_66 ?_
  refine lv_istore (lv' := [(4, .int ((x0 % 6) - x2)), (3, .int (x0 / 6)), (0, .int x0), (1, .int x1), (2, .int x2)]) hx hb dX10_downwind_67 hl (Nat.le_of_ble_eq_true rfl) rfl (fun ls hl => ?_)
  exact B69 (x0 / 6) ((x0 % 6) - x2) _ _ _ hf hw (lv_sub hl [1, 0] rfl)
theorem hX6_familyAt : yX6_familyAt.cls = RX6 ∧ yX6_familyAt.cls ≠ "java/lang/invoke/MethodHandle" ∧ yX6_familyAt.cls ≠ "java/lang/invoke/VarHandle" ∧ (parseMethodDescriptor yX6_familyAt.desc).map (fun d => d.parameters.length) = some 1 := by decide +kernel
set_option maxHeartbeats 4000000 in
set_option maxRecDepth 100000 in
theorem mX6_familyAt (l : Launch) (E : gE) (o_t : Nat) (a_t : (Nat → Nat)) (v_t_families : Int32) (v_t_wind : Int32) (v_t_force : Int32) (v_t_rain : Int32) (v_t_lost : Int32) (v_t_hour : Int32) (f_t_home : (Nat → Int32)) (x1 : Int32) (rv : Int32) (hf : fX6_familyAt v_t_families f_t_home x1 = some rv) {sz : Nat} : gMi l yX6_familyAt (gW yX6_familyAt cX6_familyAt 3 (some .int)) ({ frames := 0, cells := 0, slots := 0, locals := 0 } : Room) E [.ref o_t, .int x1] (wX6_familyAt E o_t a_t v_t_families v_t_wind v_t_force v_t_rain v_t_lost v_t_hour f_t_home) sz rv (wX6_familyAt E o_t a_t v_t_families v_t_wind v_t_force v_t_rain v_t_lost v_t_hour f_t_home) := by
  refine g_openI (own := RX6) (by decide) rfl (Nat.le_of_ble_eq_true rfl) (fun p e s m args below meth cd Q A hx hb hml hown hG hK hA hret hw ls hl => ?_)
  have hl : lv_has ls 3 [(0, .ref o_t), (1, .int x1)] := hl
  have hret1 : ∀ (t : Int32) (H : Heap) (locs : List Loc) (pc : Nat) (ls : Array Slot), some t = some rv → gS E A s.heap (wX6_familyAt E o_t a_t v_t_families v_t_wind v_t_force v_t_rain v_t_lost v_t_hour f_t_home) H locs → decode cX6_familyAt pc = .ok (.ireturn, 1) → W p l e ({ frames := 0, cells := 0, slots := 0, locals := 0 } : Room) s m args below meth cd H locs 0 0 Q (F0 m pc ls [.int t]) := by
    intro t H locs pc ls h hw hd
    obtain rfl : t = rv := Option.some.inj h
    exact hret H locs pc ls hw hd
  have B31 : ∀ (K2 : Int32 → Int32 → Option (Int32)) (hK2 : ∀ (x1 : Int32) (x2 : Int32) (H : Heap) (locs : List Loc) (ls : Array Slot), K2 x1 x2 = some rv → gS E A s.heap (wX6_familyAt E o_t a_t v_t_families v_t_wind v_t_force v_t_rain v_t_lost v_t_hour f_t_home) H locs → lv_has ls 3 [(0, .ref o_t), (1, .int x1), (2, .int x2)] → W p l e ({ frames := 0, cells := 0, slots := 0, locals := 0 } : Room) s m args below meth cd H locs 0 0 Q (F0 m 2 ls [])), ∀ (x1 : Int32) (x2 : Int32) (H : Heap) (locs : List Loc) (ls : Array Slot), fX6_familyAt_b31 K2 v_t_families f_t_home x1 x2 = some rv → gS E A s.heap (wX6_familyAt E o_t a_t v_t_families v_t_wind v_t_force v_t_rain v_t_lost v_t_hour f_t_home) H locs → lv_has ls 3 [(0, .ref o_t), (1, .int x1), (2, .int x2)] → W p l e ({ frames := 0, cells := 0, slots := 0, locals := 0 } : Room) s m args below meth cd H locs 0 0 Q (F0 m 31 ls []) := by
    intro K2 hK2 x1 x2 H locs ls hf hw hl
    refine lv_iinc (lv' := [(2, .int (x2 + 1)), (0, .ref o_t), (1, .int x1)]) hx hb dX6_familyAt_31 hl (k := 2) rfl (k_inc1 _) (Nat.le_of_ble_eq_true rfl) rfl (fun ls hl => ?_)
    refine lv_goto (tgt := 2) hx hb dX6_familyAt_34 (by decide) ?_
    exact hK2 x1 (x2 + 1) _ _ _ hf hw (lv_sub hl [1, 2, 0] rfl)
  have B2 : ∀ n : Nat, ∀ (x1 : Int32) (x2 : Int32) (H : Heap) (locs : List Loc) (ls : Array Slot), fX6_familyAt_b2 v_t_families f_t_home n x1 x2 = some rv → gS E A s.heap (wX6_familyAt E o_t a_t v_t_families v_t_wind v_t_force v_t_rain v_t_lost v_t_hour f_t_home) H locs → lv_has ls 3 [(0, .ref o_t), (1, .int x1), (2, .int x2)] → W p l e ({ frames := 0, cells := 0, slots := 0, locals := 0 } : Room) s m args below meth cd H locs 0 0 Q (F0 m 2 ls []) := by
    intro n
    induction n with
    | zero => intro x1 x2 H locs ls hf hw hl; exact g_no hf
    | succ n ih =>
      intro x1 x2 H locs ls hf hw hl
      refine lv_iload_n hx hb dX6_familyAt_2 rfl (lv_at hl 2 rfl) ?_
      refine lv_bipush (v := 6) hx hb dX6_familyAt_3 k_b6 ?_
      refine lv_icmp_ge (tgt := 37) hx hb dX6_familyAt_5 (by decide) (fun hc => ?_) (fun hc => ?_)
      · have hf := g_t hc hf
        refine lv_iconst (v := -1) hx hb dX6_familyAt_37 k_im1 ?_
        exact hret1 (-1) _ _ _ _ hf hw dX6_familyAt_38
      · have hf := g_f hc hf
        refine lv_aload_n hx hb dX6_familyAt_8 rfl (lv_at hl 0 rfl) ?_
        refine g_get hx hb hG hown hK hw inlX6 (ci := 5) rfl 0 5 (Nat.le_of_ble_eq_true rfl) rfl rfl wd_3_11 dX6_familyAt_9 ?_
        refine lv_iconst (v := 1) hx hb dX6_familyAt_12 k_i1 ?_
        refine lv_iload_n hx hb dX6_familyAt_13 rfl (lv_at hl 2 rfl) ?_
        refine lv_ishl hx hb dX6_familyAt_14 ?_
        refine lv_iand hx hb dX6_familyAt_15 ?_
        refine lv_if_eq (tgt := 31) hx hb dX6_familyAt_16 (by decide) (fun hc => ?_) (fun hc => ?_)
        · have hf := g_t hc hf
          exact B31 (fX6_familyAt_b2 v_t_families f_t_home n) ih x1 x2 _ _ _ hf hw (lv_sub hl [0, 1, 2] rfl)
        · have hf := g_f hc hf
          refine lv_aload_n hx hb dX6_familyAt_19 rfl (lv_at hl 0 rfl) ?_
          refine g_get hx hb hG hown hK hw inlX6 (ci := 5) rfl 0 0 (Nat.le_of_ble_eq_true rfl) rfl rfl wd_3_6 dX6_familyAt_20 ?_
          refine lv_iload_n hx hb dX6_familyAt_23 rfl (lv_at hl 2 rfl) ?_
          obtain ⟨hi1, hf⟩ := gA_s hf
          refine g_iald hx hb hK hw 1 rfl hi1 dX6_familyAt_24 ?_
          refine lv_iload_n hx hb dX6_familyAt_25 rfl (lv_at hl 1 rfl) ?_
          refine lv_icmp_ne (tgt := 31) hx hb dX6_familyAt_26 (by decide) (fun hc => ?_) (fun hc => ?_)
          · have hf := g_f hc hf
            exact B31 (fX6_familyAt_b2 v_t_families f_t_home n) ih x1 x2 _ _ _ hf hw (lv_sub hl [0, 1, 2] rfl)
          · have hf := g_t hc hf
            refine lv_iload_n hx hb dX6_familyAt_29 rfl (lv_at hl 2 rfl) ?_
            exact hret1 x2 _ _ _ _ hf hw dX6_familyAt_30
  refine lv_iconst (v := 0) hx hb dX6_familyAt_0 k_i0 ?_
  refine lv_istore_n (lv' := [(2, .int 0), (0, .ref o_t), (1, .int x1)]) hx hb dX6_familyAt_1 rfl hl (Nat.le_of_ble_eq_true rfl) rfl (fun ls hl => ?_)
  exact B2 1000 x1 0 _ _ _ hf hw (lv_sub hl [1, 2, 0] rfl)
theorem hX6_lieDown : yX6_lieDown.cls = RX6 ∧ yX6_lieDown.cls ≠ "java/lang/invoke/MethodHandle" ∧ yX6_lieDown.cls ≠ "java/lang/invoke/VarHandle" ∧ (parseMethodDescriptor yX6_lieDown.desc).map (fun d => d.parameters.length) = some 2 := by decide +kernel
set_option maxHeartbeats 4000000 in
set_option maxRecDepth 100000 in
theorem mX6_lieDown (l : Launch) (E : gE) (o_t : Nat) (a_t : (Nat → Nat)) (v_t_families : Int32) (v_t_wind : Int32) (v_t_force : Int32) (v_t_rain : Int32) (v_t_lost : Int32) (v_t_hour : Int32) (f_t_ground : (Nat → Int32)) (x1 : Int32) (x2 : Int32) (z_t_lost : Int32) (z_t_ground : (Nat → Int32)) (hf : fX6_lieDown v_t_lost f_t_ground x1 x2 = some (z_t_lost, z_t_ground)) {sz : Nat} : gMv l yX6_lieDown (gW yX6_lieDown cX6_lieDown 5 none) ({ frames := 0, cells := 0, slots := 0, locals := 0 } : Room) E [.ref o_t, .int x1, .int x2] (wX6_lieDown E o_t a_t v_t_families v_t_wind v_t_force v_t_rain v_t_lost v_t_hour f_t_ground) sz (wX6_lieDown E o_t a_t v_t_families v_t_wind v_t_force v_t_rain z_t_lost v_t_hour z_t_ground) := by
  refine g_openV (own := RX6) (by decide) rfl (Nat.le_of_ble_eq_true rfl) (fun p e s m args below meth cd Q A hx hb hml hown hG hK hA hret hw ls hl => ?_)
  have hl : lv_has ls 5 [(0, .ref o_t), (1, .int x1), (2, .int x2)] := hl
  have hret1 : ∀ (t : Int32 × (Nat → Int32)) (H : Heap) (locs : List Loc) (pc : Nat) (ls : Array Slot), some t = some (z_t_lost, z_t_ground) → gS E A s.heap (wX6_lieDown E o_t a_t v_t_families v_t_wind v_t_force v_t_rain t.1 v_t_hour t.2) H locs → decode cX6_lieDown pc = .ok (.return_, 1) → W p l e ({ frames := 0, cells := 0, slots := 0, locals := 0 } : Room) s m args below meth cd H locs 0 0 Q (F0 m pc ls []) := by
    intro t H locs pc ls h hw hd
    obtain rfl : t = (z_t_lost, z_t_ground) := Option.some.inj h
    exact hret H locs pc ls hw hd
  have B10 : ∀ (v_t_lost : Int32) (f_t_ground : (Nat → Int32)) (x2 : Int32) (H : Heap) (locs : List Loc) (ls : Array Slot), fX6_lieDown_b10 v_t_lost f_t_ground x2 = some (z_t_lost, z_t_ground) → gS E A s.heap (wX6_lieDown E o_t a_t v_t_families v_t_wind v_t_force v_t_rain v_t_lost v_t_hour f_t_ground) H locs → lv_has ls 5 [(0, .ref o_t), (2, .int x2)] → W p l e ({ frames := 0, cells := 0, slots := 0, locals := 0 } : Room) s m args below meth cd H locs 0 0 Q (F0 m 10 ls []) := by
    intro  v_t_lost f_t_ground x2 H locs ls hf hw hl
    refine lv_aload_n hx hb dX6_lieDown_10 rfl (lv_at hl 0 rfl) ?_
    refine lv_dup hx hb dX6_lieDown_11 rfl ?_
    refine g_get hx hb hG hown hK hw inlX6 (ci := 5) rfl 0 9 (Nat.le_of_ble_eq_true rfl) rfl rfl wd_3_15 dX6_lieDown_12 ?_
    refine lv_iload_n hx hb dX6_lieDown_15 rfl (lv_at hl 1 rfl) ?_
    refine lv_iadd hx hb dX6_lieDown_16 ?_
    refine g_put (ws' := (wX6_lieDown E o_t a_t v_t_families v_t_wind v_t_force v_t_rain (v_t_lost + x2) v_t_hour f_t_ground)) hx hb hG hown hK hw inlX6 tyX6_ok nmX6 (ci := 5) rfl 0 9 (Nat.le_of_ble_eq_true rfl) rfl wd_3_15 rfl rfl rfl (Nat.le_of_ble_eq_true rfl) rfl dX6_lieDown_17 (fun H locs hw => ?_)
    exact hret1 ((v_t_lost + x2), f_t_ground) _ _ _ _ hf hw dX6_lieDown_20
  have B46 : ∀ (v_t_lost : Int32) (f_t_ground : (Nat → Int32)) (x1 : Int32) (x3 : Int32) (s0 : Int32) (H : Heap) (locs : List Loc) (ls : Array Slot), fX6_lieDown_b46 v_t_lost f_t_ground x1 x3 s0 = some (z_t_lost, z_t_ground) → gS E A s.heap (wX6_lieDown E o_t a_t v_t_families v_t_wind v_t_force v_t_rain v_t_lost v_t_hour f_t_ground) H locs → lv_has ls 5 [(0, .ref o_t), (1, .int x1), (3, .int x3)] → W p l e ({ frames := 0, cells := 0, slots := 0, locals := 0 } : Room) s m args below meth cd H locs 0 0 Q (F0 m 46 ls [.int s0]) := by
    intro  v_t_lost f_t_ground x1 x3 s0 H locs ls hf hw hl
    refine lv_istore (lv' := [(4, .int s0), (0, .ref o_t), (1, .int x1), (3, .int x3)]) hx hb dX6_lieDown_46 hl (Nat.le_of_ble_eq_true rfl) rfl (fun ls hl => ?_)
    refine lv_aload_n hx hb dX6_lieDown_48 rfl (lv_at hl 1 rfl) ?_
    refine g_get hx hb hG hown hK hw inlX6 (ci := 5) rfl 0 4 (Nat.le_of_ble_eq_true rfl) rfl rfl wd_3_10 dX6_lieDown_49 ?_
    refine lv_iload_n hx hb dX6_lieDown_52 rfl (lv_at hl 2 rfl) ?_
    refine lv_iload_n hx hb dX6_lieDown_53 rfl (lv_at hl 3 rfl) ?_
    refine lv_iload hx hb dX6_lieDown_54 (lv_at hl 0 rfl) ?_
    refine lv_isub hx hb dX6_lieDown_56 ?_
    obtain ⟨hi1, hf⟩ := gA_s hf
    refine g_iast (ws' := (wX6_lieDown E o_t a_t v_t_families v_t_wind v_t_force v_t_rain v_t_lost v_t_hour (upd f_t_ground (Int32.toNatClampNeg x1) (x3 - s0)))) hx hb hK hw 1 rfl hi1 rfl dX6_lieDown_57 (fun H locs hw => ?_)
    refine lv_aload_n hx hb dX6_lieDown_58 rfl (lv_at hl 1 rfl) ?_
    refine lv_dup hx hb dX6_lieDown_59 rfl ?_
    refine g_get hx hb hG hown hK hw inlX6 (ci := 5) rfl 0 9 (Nat.le_of_ble_eq_true rfl) rfl rfl wd_3_15 dX6_lieDown_60 ?_
    refine lv_iload hx hb dX6_lieDown_63 (lv_at hl 0 rfl) ?_
    refine lv_iadd hx hb dX6_lieDown_65 ?_
    refine g_put (ws' := (wX6_lieDown E o_t a_t v_t_families v_t_wind v_t_force v_t_rain (v_t_lost + s0) v_t_hour (upd f_t_ground (Int32.toNatClampNeg x1) (x3 - s0)))) hx hb hG hown hK hw inlX6 tyX6_ok nmX6 (ci := 5) rfl 0 9 (Nat.le_of_ble_eq_true rfl) rfl wd_3_15 rfl rfl rfl (Nat.le_of_ble_eq_true rfl) rfl dX6_lieDown_66 (fun H locs hw => ?_)
    exact hret1 ((v_t_lost + s0), (upd f_t_ground (Int32.toNatClampNeg x1) (x3 - s0))) _ _ _ _ hf hw dX6_lieDown_69
  refine lv_iload_n hx hb dX6_lieDown_0 rfl (lv_at hl 1 rfl) ?_
  refine lv_if_lt (tgt := 10) hx hb dX6_lieDown_1 (by decide) (fun hc => ?_) (fun hc => ?_)
  · have hf := g_t hc hf
    exact B10 v_t_lost f_t_ground x2 _ _ _ hf hw (lv_sub hl [0, 2] rfl)
  · have hf := g_f hc hf
    refine lv_iload_n hx hb dX6_lieDown_4 rfl (lv_at hl 1 rfl) ?_
    refine lv_bipush (v := 36) hx hb dX6_lieDown_5 k_b36 ?_
    refine lv_icmp_lt (tgt := 21) hx hb dX6_lieDown_7 (by decide) (fun hc => ?_) (fun hc => ?_)
    · have hf := g_t hc hf
      refine lv_aload_n hx hb dX6_lieDown_21 rfl (lv_at hl 0 rfl) ?_
      refine g_get hx hb hG hown hK hw inlX6 (ci := 5) rfl 0 4 (Nat.le_of_ble_eq_true rfl) rfl rfl wd_3_10 dX6_lieDown_22 ?_
      refine lv_iload_n hx hb dX6_lieDown_25 rfl (lv_at hl 1 rfl) ?_
      obtain ⟨hi2, hf⟩ := gA_s hf
      refine g_iald hx hb hK hw 1 rfl hi2 dX6_lieDown_26 ?_
      refine lv_iload_n hx hb dX6_lieDown_27 rfl (lv_at hl 2 rfl) ?_
      refine lv_iadd hx hb dX6_lieDown_28 ?_
      refine lv_istore_n (lv' := [(3, .int ((f_t_ground (Int32.toNatClampNeg x1)) + x2)), (0, .ref o_t), (1, .int x1), (2, .int x2)]) hx hb dX6_lieDown_29 rfl hl (Nat.le_of_ble_eq_true rfl) rfl (fun ls hl => ?_)
      refine lv_iload_n hx hb dX6_lieDown_30 rfl (lv_at hl 0 rfl) ?_
      refine lv_sipush (v := 999) hx hb dX6_lieDown_31 k_s999 ?_
      refine lv_icmp_le (tgt := 45) hx hb dX6_lieDown_34 (by decide) (fun hc => ?_) (fun hc => ?_)
      · have hf := g_t hc hf
        refine lv_iconst (v := 0) hx hb dX6_lieDown_45 k_i0 ?_
        exact B46 v_t_lost f_t_ground x1 ((f_t_ground (Int32.toNatClampNeg x1)) + x2) 0 _ _ _ hf hw (lv_sub hl [1, 2, 0] rfl)
      · have hf := g_f hc hf
        refine lv_iload_n hx hb dX6_lieDown_37 rfl (lv_at hl 0 rfl) ?_
        refine lv_sipush (v := 999) hx hb dX6_lieDown_38 k_s999 ?_
        refine lv_isub hx hb dX6_lieDown_41 ?_
        refine lv_goto (tgt := 46) hx hb dX6_lieDown_42 (by decide) ?_
        exact B46 v_t_lost f_t_ground x1 ((f_t_ground (Int32.toNatClampNeg x1)) + x2) (((f_t_ground (Int32.toNatClampNeg x1)) + x2) - 999) _ _ _ hf hw (lv_sub hl [1, 2, 0] rfl)
    · have hf := g_f hc hf
      exact B10 v_t_lost f_t_ground x2 _ _ _ hf hw (lv_sub hl [0, 2] rfl)
theorem hX6_arrive : yX6_arrive.cls = RX6 ∧ yX6_arrive.cls ≠ "java/lang/invoke/MethodHandle" ∧ yX6_arrive.cls ≠ "java/lang/invoke/VarHandle" ∧ (parseMethodDescriptor yX6_arrive.desc).map (fun d => d.parameters.length) = some 2 := by decide +kernel
set_option maxHeartbeats 4000000 in
set_option maxRecDepth 100000 in
theorem mX6_arrive (l : Launch) (E : gE) (o_t : Nat) (a_t : (Nat → Nat)) (v_t_families : Int32) (v_t_wind : Int32) (v_t_force : Int32) (v_t_rain : Int32) (v_t_lost : Int32) (v_t_hour : Int32) (f_t_home : (Nat → Int32)) (f_t_seeds : (Nat → Int32)) (f_t_ground : (Nat → Int32)) (x1 : Int32) (x2 : Int32) (z_t_lost : Int32) (z_t_seeds : (Nat → Int32)) (z_t_ground : (Nat → Int32)) (hf : fX6_arrive v_t_families v_t_lost f_t_home f_t_seeds f_t_ground x1 x2 = some (z_t_lost, z_t_seeds, z_t_ground)) {sz : Nat} : gMv l yX6_arrive (gW yX6_arrive cX6_arrive 6 none) ({ frames := 1, cells := 0, slots := 0, locals := 24 } : Room) E [.ref o_t, .int x1, .int x2] (wX6_arrive E o_t a_t v_t_families v_t_wind v_t_force v_t_rain v_t_lost v_t_hour f_t_home f_t_seeds f_t_ground) sz (wX6_arrive E o_t a_t v_t_families v_t_wind v_t_force v_t_rain z_t_lost v_t_hour f_t_home z_t_seeds z_t_ground) := by
  refine g_openV (own := RX6) (by decide) rfl (Nat.le_of_ble_eq_true rfl) (fun p e s m args below meth cd Q A hx hb hml hown hG hK hA hret hw ls hl => ?_)
  have hl : lv_has ls 6 [(0, .ref o_t), (1, .int x1), (2, .int x2)] := hl
  have hret1 : ∀ (t : Int32 × (Nat → Int32) × (Nat → Int32)) (H : Heap) (locs : List Loc) (pc : Nat) (ls : Array Slot), some t = some (z_t_lost, z_t_seeds, z_t_ground) → gS E A s.heap (wX6_arrive E o_t a_t v_t_families v_t_wind v_t_force v_t_rain t.1 v_t_hour f_t_home t.2.1 t.2.2) H locs → decode cX6_arrive pc = .ok (.return_, 1) → W p l e ({ frames := 1, cells := 0, slots := 0, locals := 24 } : Room) s m args below meth cd H locs 0 0 Q (F0 m pc ls []) := by
    intro t H locs pc ls h hw hd
    obtain rfl : t = (z_t_lost, z_t_seeds, z_t_ground) := Option.some.inj h
    exact hret H locs pc ls hw hd
  have B16 : ∀ (v_t_lost : Int32) (f_t_seeds : (Nat → Int32)) (f_t_ground : (Nat → Int32)) (x1 : Int32) (x2 : Int32) (H : Heap) (locs : List Loc) (ls : Array Slot), fX6_arrive_b16 v_t_lost f_t_seeds f_t_ground x1 x2 = some (z_t_lost, z_t_seeds, z_t_ground) → gS E A s.heap (wX6_arrive E o_t a_t v_t_families v_t_wind v_t_force v_t_rain v_t_lost v_t_hour f_t_home f_t_seeds f_t_ground) H locs → lv_has ls 6 [(0, .ref o_t), (1, .int x1), (2, .int x2)] → W p l e ({ frames := 1, cells := 0, slots := 0, locals := 24 } : Room) s m args below meth cd H locs 0 0 Q (F0 m 16 ls []) := by
    intro  v_t_lost f_t_seeds f_t_ground x1 x2 H locs ls hf hw hl
    refine lv_aload_n hx hb dX6_arrive_16 rfl (lv_at hl 0 rfl) ?_
    refine lv_iload_n hx hb dX6_arrive_17 rfl (lv_at hl 1 rfl) ?_
    refine lv_iload_n hx hb dX6_arrive_18 rfl (lv_at hl 2 rfl) ?_
    obtain ⟨⟨r1_0, r1_1⟩, hc2, hf⟩ := gB_s hf
    refine g_kv (is := [0, 3]) (isR := [1, 2]) (nW := 4) (w1 := (wX6_lieDown E o_t a_t v_t_families v_t_wind v_t_force v_t_rain r1_0 v_t_hour r1_1)) (ws' := (wX6_arrive E o_t a_t v_t_families v_t_wind v_t_force v_t_rain r1_0 v_t_hour f_t_home f_t_seeds r1_1)) hw hA (g_rV hx hb hml hG hown hK hw (is := [0, 3]) rfl (by decide) (mX6_lieDown l E o_t a_t v_t_families v_t_wind v_t_force v_t_rain v_t_lost v_t_hour f_t_ground x1 x2 r1_0 r1_1 hc2) wd_9_17 wd_9_18 wd_9_19 wd_2_20 wd_9_20 hX6_lieDown g_allgood ⟨rfl, rfl⟩ ⟨Nat.le_of_ble_eq_true rfl, Nat.le_of_ble_eq_true rfl⟩ ⟨Nat.zero_le _, Nat.zero_le _⟩ (ci := 5) (q0 := 0) rfl rfl rfl rfl hl.1 rfl (Nat.le_of_ble_eq_true rfl) dX6_arrive_19) rfl (g_had [o_t, (a_t 4)] rfl rfl) rfl (⟨⟨_, rfl, rfl⟩, ⟨⟨_, rfl, rfl⟩, trivial⟩⟩) rfl rfl (by decide) (fun H locs hw => ?_)
    exact hret1 (r1_0, f_t_seeds, r1_1) _ _ _ _ hf hw dX6_arrive_22
  have B49 : ∀ (v_t_lost : Int32) (f_t_seeds : (Nat → Int32)) (f_t_ground : (Nat → Int32)) (x1 : Int32) (x3 : Int32) (x4 : Int32) (s0 : Int32) (H : Heap) (locs : List Loc) (ls : Array Slot), fX6_arrive_b49 v_t_lost f_t_seeds f_t_ground x1 x3 x4 s0 = some (z_t_lost, z_t_seeds, z_t_ground) → gS E A s.heap (wX6_arrive E o_t a_t v_t_families v_t_wind v_t_force v_t_rain v_t_lost v_t_hour f_t_home f_t_seeds f_t_ground) H locs → lv_has ls 6 [(0, .ref o_t), (1, .int x1), (3, .int x3), (4, .int x4)] → W p l e ({ frames := 1, cells := 0, slots := 0, locals := 24 } : Room) s m args below meth cd H locs 0 0 Q (F0 m 49 ls [.int s0]) := by
    intro  v_t_lost f_t_seeds f_t_ground x1 x3 x4 s0 H locs ls hf hw hl
    refine lv_istore (lv' := [(5, .int s0), (0, .ref o_t), (1, .int x1), (3, .int x3), (4, .int x4)]) hx hb dX6_arrive_49 hl (Nat.le_of_ble_eq_true rfl) rfl (fun ls hl => ?_)
    refine lv_aload_n hx hb dX6_arrive_51 rfl (lv_at hl 1 rfl) ?_
    refine g_get hx hb hG hown hK hw inlX6 (ci := 5) rfl 0 1 (Nat.le_of_ble_eq_true rfl) rfl rfl wd_3_7 dX6_arrive_52 ?_
    refine lv_iload_n hx hb dX6_arrive_55 rfl (lv_at hl 3 rfl) ?_
    refine lv_iload hx hb dX6_arrive_56 (lv_at hl 4 rfl) ?_
    refine lv_iload hx hb dX6_arrive_58 (lv_at hl 0 rfl) ?_
    refine lv_isub hx hb dX6_arrive_60 ?_
    obtain ⟨hi3, hf⟩ := gA_s hf
    refine g_iast (ws' := (wX6_arrive E o_t a_t v_t_families v_t_wind v_t_force v_t_rain v_t_lost v_t_hour f_t_home (upd f_t_seeds (Int32.toNatClampNeg x3) (x4 - s0)) f_t_ground)) hx hb hK hw 2 rfl hi3 rfl dX6_arrive_61 (fun H locs hw => ?_)
    refine lv_aload_n hx hb dX6_arrive_62 rfl (lv_at hl 1 rfl) ?_
    refine lv_iload_n hx hb dX6_arrive_63 rfl (lv_at hl 2 rfl) ?_
    refine lv_iload hx hb dX6_arrive_64 (lv_at hl 0 rfl) ?_
    obtain ⟨⟨r4_0, r4_1⟩, hc5, hf⟩ := gB_s hf
    refine g_kv (is := [0, 3]) (isR := [1, 2]) (nW := 4) (w1 := (wX6_lieDown E o_t a_t v_t_families v_t_wind v_t_force v_t_rain r4_0 v_t_hour r4_1)) (ws' := (wX6_arrive E o_t a_t v_t_families v_t_wind v_t_force v_t_rain r4_0 v_t_hour f_t_home (upd f_t_seeds (Int32.toNatClampNeg x3) (x4 - s0)) r4_1)) hw hA (g_rV hx hb hml hG hown hK hw (is := [0, 3]) rfl (by decide) (mX6_lieDown l E o_t a_t v_t_families v_t_wind v_t_force v_t_rain v_t_lost v_t_hour f_t_ground x1 s0 r4_0 r4_1 hc5) wd_9_17 wd_9_18 wd_9_19 wd_2_20 wd_9_20 hX6_lieDown g_allgood ⟨rfl, rfl⟩ ⟨Nat.le_of_ble_eq_true rfl, Nat.le_of_ble_eq_true rfl⟩ ⟨Nat.zero_le _, Nat.zero_le _⟩ (ci := 5) (q0 := 0) rfl rfl rfl rfl hl.1 rfl (Nat.le_of_ble_eq_true rfl) dX6_arrive_66) rfl (g_had [o_t, (a_t 4)] rfl rfl) rfl (⟨⟨_, rfl, rfl⟩, ⟨⟨_, rfl, rfl⟩, trivial⟩⟩) rfl rfl (by decide) (fun H locs hw => ?_)
    exact hret1 (r4_0, (upd f_t_seeds (Int32.toNatClampNeg x3) (x4 - s0)), r4_1) _ _ _ _ hf hw dX6_arrive_69
  refine lv_aload_n hx hb dX6_arrive_0 rfl (lv_at hl 0 rfl) ?_
  refine lv_iload_n hx hb dX6_arrive_1 rfl (lv_at hl 1 rfl) ?_
  obtain ⟨r6, hc7, hf⟩ := gB_s hf
  refine g_ki0 (is := [0, 1]) hw hA (g_rV hx hb hml hG hown hK hw (is := [0, 1]) rfl (by decide) (mX6_familyAt l E o_t a_t v_t_families v_t_wind v_t_force v_t_rain v_t_lost v_t_hour f_t_home x1 r6 hc7) wd_17_18 wd_7_8 wd_7_9 wd_2_20 wd_7_10 hX6_familyAt g_allgood ⟨rfl, rfl⟩ ⟨Nat.le_of_ble_eq_true rfl, Nat.le_of_ble_eq_true rfl⟩ ⟨Nat.zero_le _, Nat.zero_le _⟩ (ci := 5) (q0 := 0) rfl rfl rfl rfl hl.1 rfl (Nat.le_of_ble_eq_true rfl) dX6_arrive_2) rfl (fun H locs hw => ?_)
  refine lv_istore_n (lv' := [(3, .int r6), (0, .ref o_t), (1, .int x1), (2, .int x2)]) hx hb dX6_arrive_5 rfl hl (Nat.le_of_ble_eq_true rfl) rfl (fun ls hl => ?_)
  refine lv_iload_n hx hb dX6_arrive_6 rfl (lv_at hl 0 rfl) ?_
  refine lv_if_lt (tgt := 16) hx hb dX6_arrive_7 (by decide) (fun hc => ?_) (fun hc => ?_)
  · have hf := g_t hc hf
    exact B16 v_t_lost f_t_seeds f_t_ground x1 x2 _ _ _ hf hw (lv_sub hl [1, 2, 3] rfl)
  · have hf := g_f hc hf
    refine lv_iload_n hx hb dX6_arrive_10 rfl (lv_at hl 0 rfl) ?_
    refine lv_bipush (v := 6) hx hb dX6_arrive_11 k_b6 ?_
    refine lv_icmp_lt (tgt := 23) hx hb dX6_arrive_13 (by decide) (fun hc => ?_) (fun hc => ?_)
    · have hf := g_t hc hf
      refine lv_aload_n hx hb dX6_arrive_23 rfl (lv_at hl 1 rfl) ?_
      refine g_get hx hb hG hown hK hw inlX6 (ci := 5) rfl 0 1 (Nat.le_of_ble_eq_true rfl) rfl rfl wd_3_7 dX6_arrive_24 ?_
      refine lv_iload_n hx hb dX6_arrive_27 rfl (lv_at hl 0 rfl) ?_
      obtain ⟨hi8, hf⟩ := gA_s hf
      refine g_iald hx hb hK hw 2 rfl hi8 dX6_arrive_28 ?_
      refine lv_iload_n hx hb dX6_arrive_29 rfl (lv_at hl 3 rfl) ?_
      refine lv_iadd hx hb dX6_arrive_30 ?_
      refine lv_istore (lv' := [(4, .int ((f_t_seeds (Int32.toNatClampNeg r6)) + x2)), (3, .int r6), (0, .ref o_t), (1, .int x1), (2, .int x2)]) hx hb dX6_arrive_31 hl (Nat.le_of_ble_eq_true rfl) rfl (fun ls hl => ?_)
      refine lv_iload hx hb dX6_arrive_33 (lv_at hl 0 rfl) ?_
      refine lv_bipush (v := 60) hx hb dX6_arrive_35 k_b60 ?_
      refine lv_icmp_le (tgt := 48) hx hb dX6_arrive_37 (by decide) (fun hc => ?_) (fun hc => ?_)
      · have hf := g_t hc hf
        refine lv_iconst (v := 0) hx hb dX6_arrive_48 k_i0 ?_
        exact B49 v_t_lost f_t_seeds f_t_ground x1 r6 ((f_t_seeds (Int32.toNatClampNeg r6)) + x2) 0 _ _ _ hf hw (lv_sub hl [2, 3, 1, 0] rfl)
      · have hf := g_f hc hf
        refine lv_iload hx hb dX6_arrive_40 (lv_at hl 0 rfl) ?_
        refine lv_bipush (v := 60) hx hb dX6_arrive_42 k_b60 ?_
        refine lv_isub hx hb dX6_arrive_44 ?_
        refine lv_goto (tgt := 49) hx hb dX6_arrive_45 (by decide) ?_
        exact B49 v_t_lost f_t_seeds f_t_ground x1 r6 ((f_t_seeds (Int32.toNatClampNeg r6)) + x2) (((f_t_seeds (Int32.toNatClampNeg r6)) + x2) - 60) _ _ _ hf hw (lv_sub hl [2, 3, 1, 0] rfl)
    · have hf := g_f hc hf
      exact B16 v_t_lost f_t_seeds f_t_ground x1 x2 _ _ _ hf hw (lv_sub hl [1, 2, 3] rfl)
