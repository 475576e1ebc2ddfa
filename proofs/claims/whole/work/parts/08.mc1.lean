theorem hX2_bestBreath : yX2_bestBreath.cls = RX2 ∧ yX2_bestBreath.cls ≠ "java/lang/invoke/MethodHandle" ∧ yX2_bestBreath.cls ≠ "java/lang/invoke/VarHandle" ∧ (parseMethodDescriptor yX2_bestBreath.desc).map (fun d => d.parameters.length) = some 0 := by decide +kernel
set_option maxHeartbeats 4000000 in
set_option maxRecDepth 100000 in
theorem mX2_bestBreath (l : Launch) (E : gE) (o_t : Nat) (a_t : (Nat → Nat)) (v_t_count : Int32) (f_t_twos : (Nat → Int32)) (f_t_left : (Nat → Int32)) (rv : Int32) (z_t_left : (Nat → Int32)) (hf : fX2_bestBreath v_t_count f_t_twos f_t_left = some (rv, z_t_left)) {sz : Nat} : gMi l yX2_bestBreath (gW yX2_bestBreath cX2_bestBreath 5 (some .int)) ({ frames := 2, cells := 0, slots := 0, locals := 46 } : Room) E [.ref o_t] (wX2_bestBreath E o_t a_t v_t_count f_t_twos f_t_left) sz rv (wX2_bestBreath E o_t a_t v_t_count f_t_twos z_t_left) := by
  refine g_openI (own := RX2) (by decide) rfl (Nat.le_of_ble_eq_true rfl) (fun p e s m args below meth cd Q A hx hb hml hown hG hK hA hret hw ls hl => ?_)
  have hl : lv_has ls 5 [(0, .ref o_t)] := hl
  have hret1 : ∀ (v : Int32) (f_t_left : (Nat → Int32)) (H : Heap) (locs : List Loc) (pc : Nat) (ls : Array Slot), some (v, f_t_left) = some (rv, z_t_left) → gS E A s.heap (wX2_bestBreath E o_t a_t v_t_count f_t_twos f_t_left) H locs → decode cX2_bestBreath pc = .ok (.ireturn, 1) → W p l e ({ frames := 2, cells := 0, slots := 0, locals := 46 } : Room) s m args below meth cd H locs 0 0 Q (F0 m pc ls [.int v]) := by
    intro v f_t_left H locs pc ls h hw hd
    cases h
    exact hret H locs pc ls hw hd
  have B34 : ∀ (K10 : (Nat → Int32) → Int32 → Int32 → Int32 → Option (Int32 × (Nat → Int32))) (hK10 : ∀ (f_t_left : (Nat → Int32)) (x1 : Int32) (x2 : Int32) (x3 : Int32) (H : Heap) (locs : List Loc) (ls : Array Slot), K10 f_t_left x1 x2 x3 = some (rv, z_t_left) → gS E A s.heap (wX2_bestBreath E o_t a_t v_t_count f_t_twos f_t_left) H locs → lv_has ls 5 [(0, .ref o_t), (1, .int x1), (2, .int x2), (3, .int x3)] → W p l e ({ frames := 2, cells := 0, slots := 0, locals := 46 } : Room) s m args below meth cd H locs 0 0 Q (F0 m 10 ls [])), ∀ (f_t_left : (Nat → Int32)) (x1 : Int32) (x2 : Int32) (x3 : Int32) (H : Heap) (locs : List Loc) (ls : Array Slot), fX2_bestBreath_b34 K10 v_t_count f_t_twos f_t_left x1 x2 x3 = some (rv, z_t_left) → gS E A s.heap (wX2_bestBreath E o_t a_t v_t_count f_t_twos f_t_left) H locs → lv_has ls 5 [(0, .ref o_t), (1, .int x1), (2, .int x2), (3, .int x3)] → W p l e ({ frames := 2, cells := 0, slots := 0, locals := 46 } : Room) s m args below meth cd H locs 0 0 Q (F0 m 34 ls []) := by
    intro K10 hK10 f_t_left x1 x2 x3 H locs ls hf hw hl
    refine lv_iinc (lv' := [(3, .int (x3 + 1)), (0, .ref o_t), (1, .int x1), (2, .int x2)]) hx hb dX2_bestBreath_34 hl (k := 3) rfl (k_inc1 _) (Nat.le_of_ble_eq_true rfl) rfl (fun ls hl => ?_)
    refine lv_goto (tgt := 10) hx hb dX2_bestBreath_37 (by decide) ?_
    exact hK10 f_t_left x1 x2 (x3 + 1) _ _ _ hf hw (lv_sub hl [1, 2, 3, 0] rfl)
  have B10 : ∀ n : Nat, ∀ (f_t_left : (Nat → Int32)) (x1 : Int32) (x2 : Int32) (x3 : Int32) (H : Heap) (locs : List Loc) (ls : Array Slot), fX2_bestBreath_b10 v_t_count f_t_twos n f_t_left x1 x2 x3 = some (rv, z_t_left) → gS E A s.heap (wX2_bestBreath E o_t a_t v_t_count f_t_twos f_t_left) H locs → lv_has ls 5 [(0, .ref o_t), (1, .int x1), (2, .int x2), (3, .int x3)] → W p l e ({ frames := 2, cells := 0, slots := 0, locals := 46 } : Room) s m args below meth cd H locs 0 0 Q (F0 m 10 ls []) := by
    intro n
    induction n with
    | zero => intro f_t_left x1 x2 x3 H locs ls hf hw hl; exact g_no hf
    | succ n ih =>
      intro f_t_left x1 x2 x3 H locs ls hf hw hl
      refine lv_iload_n hx hb dX2_bestBreath_10 rfl (lv_at hl 3 rfl) ?_
      refine lv_bipush (v := 9) hx hb dX2_bestBreath_11 k_b9 ?_
      refine lv_icmp_gt (tgt := 40) hx hb dX2_bestBreath_13 (by decide) (fun hc => ?_) (fun hc => ?_)
      · have hf := g_t hc hf
        refine lv_iload_n hx hb dX2_bestBreath_40 rfl (lv_at hl 1 rfl) ?_
        exact hret1 x1 f_t_left _ _ _ _ hf hw dX2_bestBreath_41
      · have hf := g_f hc hf
        refine lv_aload_n hx hb dX2_bestBreath_16 rfl (lv_at hl 0 rfl) ?_
        refine lv_iload_n hx hb dX2_bestBreath_17 rfl (lv_at hl 3 rfl) ?_
        obtain ⟨r1, hc2, hf⟩ := gB_s hf
        refine g_ki (is := [0, 1, 2]) (w1 := (wX2_mostLeft E o_t a_t v_t_count f_t_twos r1.2)) (ws' := (wX2_bestBreath E o_t a_t v_t_count f_t_twos r1.2)) hw hA (g_rV hx hb hml hG hown hK hw (is := [0, 1, 2]) rfl (by decide) (mX2_mostLeft l E o_t a_t v_t_count f_t_twos f_t_left x3 r1.1 r1.2 hc2) wd_33_1 wd_33_2 wd_33_3 wd_2_9 wd_33_4 hX2_mostLeft g_allgood ⟨rfl, rfl⟩ ⟨Nat.le_of_ble_eq_true rfl, Nat.le_of_ble_eq_true rfl⟩ ⟨Nat.zero_le _, Nat.zero_le _⟩ (ci := 1) (q0 := 0) rfl rfl rfl rfl hl.1 rfl (Nat.le_of_ble_eq_true rfl) dX2_bestBreath_18) rfl rfl rfl (fun H locs hw => ?_)
        refine lv_istore (lv' := [(4, .int r1.1), (0, .ref o_t), (1, .int x1), (2, .int x2), (3, .int x3)]) hx hb dX2_bestBreath_21 hl (Nat.le_of_ble_eq_true rfl) rfl (fun ls hl => ?_)
        refine lv_iload hx hb dX2_bestBreath_23 (lv_at hl 0 rfl) ?_
        refine lv_iload_n hx hb dX2_bestBreath_25 rfl (lv_at hl 3 rfl) ?_
        refine lv_icmp_ge (tgt := 34) hx hb dX2_bestBreath_26 (by decide) (fun hc => ?_) (fun hc => ?_)
        · have hf := g_t hc hf
          exact B34 (fX2_bestBreath_b10 v_t_count f_t_twos n) ih r1.2 x1 x2 x3 _ _ _ hf hw (lv_sub hl [1, 2, 3, 4] rfl)
        · have hf := g_f hc hf
          refine lv_iload_n hx hb dX2_bestBreath_29 rfl (lv_at hl 4 rfl) ?_
          refine lv_istore_n (lv' := [(1, .int x3), (4, .int r1.1), (0, .ref o_t), (2, .int x2), (3, .int x3)]) hx hb dX2_bestBreath_30 rfl hl (Nat.le_of_ble_eq_true rfl) rfl (fun ls hl => ?_)
          refine lv_iload hx hb dX2_bestBreath_31 (lv_at hl 1 rfl) ?_
          refine lv_istore_n (lv' := [(2, .int r1.1), (1, .int x3), (4, .int r1.1), (0, .ref o_t), (3, .int x3)]) hx hb dX2_bestBreath_33 rfl hl (Nat.le_of_ble_eq_true rfl) rfl (fun ls hl => ?_)
          exact B34 (fX2_bestBreath_b10 v_t_count f_t_twos n) ih r1.2 x3 r1.1 x3 _ _ _ hf hw (lv_sub hl [3, 1, 0, 4] rfl)
  refine lv_iconst (v := 1) hx hb dX2_bestBreath_0 k_i1 ?_
  refine lv_istore_n (lv' := [(1, .int 1), (0, .ref o_t)]) hx hb dX2_bestBreath_1 rfl hl (Nat.le_of_ble_eq_true rfl) rfl (fun ls hl => ?_)
  refine lv_aload_n hx hb dX2_bestBreath_2 rfl (lv_at hl 1 rfl) ?_
  refine lv_iconst (v := 1) hx hb dX2_bestBreath_3 k_i1 ?_
  obtain ⟨r3, hc4, hf⟩ := gB_s hf
  refine g_ki (is := [0, 1, 2]) (w1 := (wX2_mostLeft E o_t a_t v_t_count f_t_twos r3.2)) (ws' := (wX2_bestBreath E o_t a_t v_t_count f_t_twos r3.2)) hw hA (g_rV hx hb hml hG hown hK hw (is := [0, 1, 2]) rfl (by decide) (mX2_mostLeft l E o_t a_t v_t_count f_t_twos f_t_left 1 r3.1 r3.2 hc4) wd_33_1 wd_33_2 wd_33_3 wd_2_9 wd_33_4 hX2_mostLeft g_allgood ⟨rfl, rfl⟩ ⟨Nat.le_of_ble_eq_true rfl, Nat.le_of_ble_eq_true rfl⟩ ⟨Nat.zero_le _, Nat.zero_le _⟩ (ci := 1) (q0 := 0) rfl rfl rfl rfl hl.1 rfl (Nat.le_of_ble_eq_true rfl) dX2_bestBreath_4) rfl rfl rfl (fun H locs hw => ?_)
  refine lv_istore_n (lv' := [(2, .int r3.1), (1, .int 1), (0, .ref o_t)]) hx hb dX2_bestBreath_7 rfl hl (Nat.le_of_ble_eq_true rfl) rfl (fun ls hl => ?_)
  refine lv_iconst (v := 2) hx hb dX2_bestBreath_8 k_i2 ?_
  refine lv_istore_n (lv' := [(3, .int 2), (2, .int r3.1), (1, .int 1), (0, .ref o_t)]) hx hb dX2_bestBreath_9 rfl hl (Nat.le_of_ble_eq_true rfl) rfl (fun ls hl => ?_)
  exact B10 1000 r3.2 1 r3.1 2 _ _ _ hf hw (lv_sub hl [3, 2, 1, 0] rfl)
theorem hX2_spread : yX2_spread.cls = RX2 ∧ yX2_spread.cls ≠ "java/lang/invoke/MethodHandle" ∧ yX2_spread.cls ≠ "java/lang/invoke/VarHandle" ∧ (parseMethodDescriptor yX2_spread.desc).map (fun d => d.parameters.length) = some 1 := by decide +kernel
set_option maxHeartbeats 4000000 in
set_option maxRecDepth 100000 in
theorem mX2_spread (l : Launch) (E : gE) (o_t : Nat) (a_t : (Nat → Nat)) (v_t_count : Int32) (f_t_ways : (Nat → Int32)) (f_t_waysOn : (Nat → Int32)) (x1 : Int32) (z_t_waysOn : (Nat → Int32)) (hf : fX2_spread f_t_ways f_t_waysOn x1 = some z_t_waysOn) {sz : Nat} : gMv l yX2_spread (gW yX2_spread cX2_spread 4 none) ({ frames := 1, cells := 0, slots := 0, locals := 25 } : Room) E [.ref o_t, .int x1] (wX2_spread E o_t a_t v_t_count f_t_ways f_t_waysOn) sz (wX2_spread E o_t a_t v_t_count f_t_ways z_t_waysOn) := by
  refine g_openV (own := RX2) (by decide) rfl (Nat.le_of_ble_eq_true rfl) (fun p e s m args below meth cd Q A hx hb hml hown hG hK hA hret hw ls hl => ?_)
  have hl : lv_has ls 4 [(0, .ref o_t), (1, .int x1)] := hl
  have hret1 : ∀ (f_t_waysOn : (Nat → Int32)) (H : Heap) (locs : List Loc) (pc : Nat) (ls : Array Slot), some f_t_waysOn = some z_t_waysOn → gS E A s.heap (wX2_spread E o_t a_t v_t_count f_t_ways f_t_waysOn) H locs → decode cX2_spread pc = .ok (.return_, 1) → W p l e ({ frames := 1, cells := 0, slots := 0, locals := 25 } : Room) s m args below meth cd H locs 0 0 Q (F0 m pc ls []) := by
    intro f_t_waysOn H locs pc ls h hw hd
    cases h
    exact hret H locs pc ls hw hd
  have B38 : ∀ (K2 : (Nat → Int32) → Int32 → Int32 → Option ((Nat → Int32))) (hK2 : ∀ (f_t_waysOn : (Nat → Int32)) (x1 : Int32) (x2 : Int32) (H : Heap) (locs : List Loc) (ls : Array Slot), K2 f_t_waysOn x1 x2 = some z_t_waysOn → gS E A s.heap (wX2_spread E o_t a_t v_t_count f_t_ways f_t_waysOn) H locs → lv_has ls 4 [(0, .ref o_t), (1, .int x1), (2, .int x2)] → W p l e ({ frames := 1, cells := 0, slots := 0, locals := 25 } : Room) s m args below meth cd H locs 0 0 Q (F0 m 2 ls [])), ∀ (f_t_waysOn : (Nat → Int32)) (x1 : Int32) (x2 : Int32) (H : Heap) (locs : List Loc) (ls : Array Slot), fX2_spread_b38 K2 f_t_ways f_t_waysOn x1 x2 = some z_t_waysOn → gS E A s.heap (wX2_spread E o_t a_t v_t_count f_t_ways f_t_waysOn) H locs → lv_has ls 4 [(0, .ref o_t), (1, .int x1), (2, .int x2)] → W p l e ({ frames := 1, cells := 0, slots := 0, locals := 25 } : Room) s m args below meth cd H locs 0 0 Q (F0 m 38 ls []) := by
    intro K2 hK2 f_t_waysOn x1 x2 H locs ls hf hw hl
    refine lv_iinc (lv' := [(2, .int (x2 + 1)), (0, .ref o_t), (1, .int x1)]) hx hb dX2_spread_38 hl (k := 2) rfl (k_inc1 _) (Nat.le_of_ble_eq_true rfl) rfl (fun ls hl => ?_)
    refine lv_goto (tgt := 2) hx hb dX2_spread_41 (by decide) ?_
    exact hK2 f_t_waysOn x1 (x2 + 1) _ _ _ hf hw (lv_sub hl [1, 2, 0] rfl)
  have B2 : ∀ n : Nat, ∀ (f_t_waysOn : (Nat → Int32)) (x1 : Int32) (x2 : Int32) (H : Heap) (locs : List Loc) (ls : Array Slot), fX2_spread_b2 f_t_ways n f_t_waysOn x1 x2 = some z_t_waysOn → gS E A s.heap (wX2_spread E o_t a_t v_t_count f_t_ways f_t_waysOn) H locs → lv_has ls 4 [(0, .ref o_t), (1, .int x1), (2, .int x2)] → W p l e ({ frames := 1, cells := 0, slots := 0, locals := 25 } : Room) s m args below meth cd H locs 0 0 Q (F0 m 2 ls []) := by
    intro n
    induction n with
    | zero => intro f_t_waysOn x1 x2 H locs ls hf hw hl; exact g_no hf
    | succ n ih =>
      intro f_t_waysOn x1 x2 H locs ls hf hw hl
      refine lv_iload_n hx hb dX2_spread_2 rfl (lv_at hl 2 rfl) ?_
      refine lv_iconst (v := 4) hx hb dX2_spread_3 k_i4 ?_
      refine lv_icmp_ge (tgt := 44) hx hb dX2_spread_4 (by decide) (fun hc => ?_) (fun hc => ?_)
      · have hf := g_t hc hf
        exact hret1 f_t_waysOn _ _ _ _ hf hw dX2_spread_44
      · have hf := g_f hc hf
        refine lv_iload_n hx hb dX2_spread_7 rfl (lv_at hl 1 rfl) ?_
        refine lv_iload_n hx hb dX2_spread_8 rfl (lv_at hl 2 rfl) ?_
        refine lv_iconst (v := 1) hx hb dX2_spread_9 k_i1 ?_
        obtain ⟨r1, hc2, hf⟩ := gB_s hf
        refine g_ki (is := []) (w1 := (wX10_downwind E)) (ws' := (wX2_spread E o_t a_t v_t_count f_t_ways f_t_waysOn)) hw hA (g_rN (host := "SeedBank") hx hb hml hG hown hK hw (is := []) rfl (by decide) (mX10_downwind l E x1 x2 1 r1 hc2) (List.mem_of_getElem? (i := 26) rfl) wd_17_12 wd_1_2 wd_17_13 hX10_downwind g_allgood ⟨rfl, rfl⟩ ⟨Nat.le_of_ble_eq_true rfl, Nat.le_of_ble_eq_true rfl⟩ ⟨Nat.zero_le _, Nat.zero_le _⟩ rfl hl.1 rfl (Nat.le_of_ble_eq_true rfl) dX2_spread_10) rfl rfl rfl (fun H locs hw => ?_)
        refine lv_istore_n (lv' := [(3, .int r1), (0, .ref o_t), (1, .int x1), (2, .int x2)]) hx hb dX2_spread_13 rfl hl (Nat.le_of_ble_eq_true rfl) rfl (fun ls hl => ?_)
        refine lv_iload_n hx hb dX2_spread_14 rfl (lv_at hl 0 rfl) ?_
        obtain ⟨r3, hc4, hf⟩ := gB_s hf
        refine g_ki (is := []) (w1 := (wX10_isField E)) (ws' := (wX2_spread E o_t a_t v_t_count f_t_ways f_t_waysOn)) hw hA (g_rN (host := "SeedBank") hx hb hml hG hown hK hw (is := []) rfl (by decide) (mX10_isField l E r1 r3 hc4) (List.mem_of_getElem? (i := 25) rfl) wd_7_5 wd_1_2 wd_7_6 hX10_isField g_allgood ⟨rfl, rfl⟩ ⟨Nat.le_of_ble_eq_true rfl, Nat.le_of_ble_eq_true rfl⟩ ⟨Nat.zero_le _, Nat.zero_le _⟩ rfl hl.1 rfl (Nat.le_of_ble_eq_true rfl) dX2_spread_15) rfl rfl rfl (fun H locs hw => ?_)
        refine lv_if_eq (tgt := 38) hx hb dX2_spread_18 (by decide) (fun hc => ?_) (fun hc => ?_)
        · have hf := g_t hc hf
          exact B38 (fX2_spread_b2 f_t_ways n) ih f_t_waysOn x1 x2 _ _ _ hf hw (lv_sub hl [1, 2, 3] rfl)
        · have hf := g_f hc hf
          refine lv_aload_n hx hb dX2_spread_21 rfl (lv_at hl 1 rfl) ?_
          refine g_get hx hb hG hown hK hw inlX2 (ci := 1) rfl 0 4 (Nat.le_of_ble_eq_true rfl) rfl rfl wd_5_8 dX2_spread_22 ?_
          refine lv_iload_n hx hb dX2_spread_25 rfl (lv_at hl 0 rfl) ?_
          refine lv_dup2_11 hx hb dX2_spread_26 rfl rfl ?_
          obtain ⟨hi5, hf⟩ := gA_s hf
          refine g_iald hx hb hK hw 2 rfl hi5 dX2_spread_27 ?_
          refine lv_aload_n hx hb dX2_spread_28 rfl (lv_at hl 1 rfl) ?_
          refine g_get hx hb hG hown hK hw inlX2 (ci := 1) rfl 0 3 (Nat.le_of_ble_eq_true rfl) rfl rfl wd_5_7 dX2_spread_29 ?_
          refine lv_iload_n hx hb dX2_spread_32 rfl (lv_at hl 2 rfl) ?_
          obtain ⟨r6, hc7, hf⟩ := gB_s hf
          refine g_ki (is := [1]) (w1 := (wX10_at E (a_t 3) 36 f_t_ways)) (ws' := (wX2_spread E o_t a_t v_t_count f_t_ways f_t_waysOn)) hw hA (g_rN (host := "SeedBank") hx hb hml hG hown hK hw (is := [1]) rfl (by decide) (mX10_at l E (a_t 3) 36 f_t_ways x1 r6 hc7) (List.mem_of_getElem? (i := 27) rfl) wd_15_23 wd_1_2 wd_16_0 hX10_at g_allgood ⟨rfl, rfl⟩ ⟨Nat.le_of_ble_eq_true rfl, Nat.le_of_ble_eq_true rfl⟩ ⟨Nat.zero_le _, Nat.zero_le _⟩ rfl hl.1 rfl (Nat.le_of_ble_eq_true rfl) dX2_spread_33) rfl rfl rfl (fun H locs hw => ?_)
          refine lv_iadd hx hb dX2_spread_36 ?_
          obtain ⟨hi8, hf⟩ := gA_s hf
          refine g_iast (ws' := (wX2_spread E o_t a_t v_t_count f_t_ways (upd f_t_waysOn (Int32.toNatClampNeg r1) ((f_t_waysOn (Int32.toNatClampNeg r1)) + r6)))) hx hb hK hw 2 rfl hi8 rfl dX2_spread_37 (fun H locs hw => ?_)
          exact B38 (fX2_spread_b2 f_t_ways n) ih (upd f_t_waysOn (Int32.toNatClampNeg r1) ((f_t_waysOn (Int32.toNatClampNeg r1)) + r6)) x1 x2 _ _ _ hf hw (lv_sub hl [1, 2, 3] rfl)
  refine lv_iconst (v := 0) hx hb dX2_spread_0 k_i0 ?_
  refine lv_istore_n (lv' := [(2, .int 0), (0, .ref o_t), (1, .int x1)]) hx hb dX2_spread_1 rfl hl (Nat.le_of_ble_eq_true rfl) rfl (fun ls hl => ?_)
  exact B2 1000 f_t_waysOn x1 0 _ _ _ hf hw (lv_sub hl [1, 2, 0] rfl)
theorem hX2_countWays : yX2_countWays.cls = RX2 ∧ yX2_countWays.cls ≠ "java/lang/invoke/MethodHandle" ∧ yX2_countWays.cls ≠ "java/lang/invoke/VarHandle" ∧ (parseMethodDescriptor yX2_countWays.desc).map (fun d => d.parameters.length) = some 2 := by decide +kernel
set_option maxHeartbeats 4000000 in
set_option maxRecDepth 100000 in
theorem mX2_countWays (l : Launch) (E : gE) (o_t : Nat) (a_t : (Nat → Nat)) (v_t_count : Int32) (f_t_ways : (Nat → Int32)) (f_t_waysOn : (Nat → Int32)) (x1 : Int32) (x2 : Int32) (z_t_ways : (Nat → Int32)) (z_t_waysOn : (Nat → Int32)) (hf : fX2_countWays f_t_ways f_t_waysOn x1 x2 = some (z_t_ways, z_t_waysOn)) {sz : Nat} : gMv l yX2_countWays (gW yX2_countWays cX2_countWays 5 none) ({ frames := 2, cells := 0, slots := 0, locals := 48 } : Room) E [.ref o_t, .int x1, .int x2] (wX2_countWays E o_t a_t v_t_count f_t_ways f_t_waysOn) sz (wX2_countWays E o_t a_t v_t_count z_t_ways z_t_waysOn) := by
  refine g_openV (own := RX2) (by decide) rfl (Nat.le_of_ble_eq_true rfl) (fun p e s m args below meth cd Q A hx hb hml hown hG hK hA hret hw ls hl => ?_)
  have hl : lv_has ls 5 [(0, .ref o_t), (1, .int x1), (2, .int x2)] := hl
  have hret1 : ∀ (f_t_ways : (Nat → Int32)) (f_t_waysOn : (Nat → Int32)) (H : Heap) (locs : List Loc) (pc : Nat) (ls : Array Slot), some (f_t_ways, f_t_waysOn) = some (z_t_ways, z_t_waysOn) → gS E A s.heap (wX2_countWays E o_t a_t v_t_count f_t_ways f_t_waysOn) H locs → decode cX2_countWays pc = .ok (.return_, 1) → W p l e ({ frames := 2, cells := 0, slots := 0, locals := 48 } : Room) s m args below meth cd H locs 0 0 Q (F0 m pc ls []) := by
    intro f_t_ways f_t_waysOn H locs pc ls h hw hd
    cases h
    exact hret H locs pc ls hw hd
  have B38 : ∀ (K23 : (Nat → Int32) → (Nat → Int32) → Int32 → Int32 → Option ((Nat → Int32) × (Nat → Int32))) (hK23 : ∀ (f_t_ways : (Nat → Int32)) (f_t_waysOn : (Nat → Int32)) (x2 : Int32) (x3 : Int32) (H : Heap) (locs : List Loc) (ls : Array Slot), K23 f_t_ways f_t_waysOn x2 x3 = some (z_t_ways, z_t_waysOn) → gS E A s.heap (wX2_countWays E o_t a_t v_t_count f_t_ways f_t_waysOn) H locs → lv_has ls 5 [(0, .ref o_t), (2, .int x2), (3, .int x3)] → W p l e ({ frames := 2, cells := 0, slots := 0, locals := 48 } : Room) s m args below meth cd H locs 0 0 Q (F0 m 23 ls [])), ∀ n : Nat, ∀ (f_t_ways : (Nat → Int32)) (f_t_waysOn : (Nat → Int32)) (x2 : Int32) (x3 : Int32) (x4 : Int32) (H : Heap) (locs : List Loc) (ls : Array Slot), fX2_countWays_b38 K23 n f_t_ways f_t_waysOn x2 x3 x4 = some (z_t_ways, z_t_waysOn) → gS E A s.heap (wX2_countWays E o_t a_t v_t_count f_t_ways f_t_waysOn) H locs → lv_has ls 5 [(0, .ref o_t), (2, .int x2), (3, .int x3), (4, .int x4)] → W p l e ({ frames := 2, cells := 0, slots := 0, locals := 48 } : Room) s m args below meth cd H locs 0 0 Q (F0 m 38 ls []) := by
    intro K23 hK23
    intro n
    induction n with
    | zero => intro f_t_ways f_t_waysOn x2 x3 x4 H locs ls hf hw hl; exact g_no hf
    | succ n ih =>
      intro f_t_ways f_t_waysOn x2 x3 x4 H locs ls hf hw hl
      refine lv_iload hx hb dX2_countWays_38 (lv_at hl 3 rfl) ?_
      refine lv_bipush (v := 36) hx hb dX2_countWays_40 k_b36 ?_
      refine lv_icmp_ge (tgt := 57) hx hb dX2_countWays_42 (by decide) (fun hc => ?_) (fun hc => ?_)
      · have hf := g_t hc hf
        refine lv_aload_n hx hb dX2_countWays_57 rfl (lv_at hl 0 rfl) ?_
        refine g_get hx hb hG hown hK hw inlX2 (ci := 1) rfl 0 4 (Nat.le_of_ble_eq_true rfl) rfl rfl wd_5_8 dX2_countWays_58 ?_
        refine lv_iconst (v := 0) hx hb dX2_countWays_61 k_i0 ?_
        refine lv_aload_n hx hb dX2_countWays_62 rfl (lv_at hl 0 rfl) ?_
        refine g_get hx hb hG hown hK hw inlX2 (ci := 1) rfl 0 3 (Nat.le_of_ble_eq_true rfl) rfl rfl wd_5_7 dX2_countWays_63 ?_
        refine lv_iconst (v := 0) hx hb dX2_countWays_66 k_i0 ?_
        refine lv_bipush (v := 36) hx hb dX2_countWays_67 k_b36 ?_
        refine g_acpy (N := 36) (ws' := (wX2_countWays E o_t a_t v_t_count f_t_waysOn f_t_waysOn)) hx hb (hml.trans hl.1.symm) hG hown wd_34_7 wd_15_20 wd_15_21 wd_15_22 hK hw 2 1 rfl rfl (by decide) (by decide) rfl ⟨Nat.le_of_ble_eq_true rfl, Nat.le_of_ble_eq_true rfl⟩ rfl dX2_countWays_69 (fun H locs hw => ?_)
        refine lv_iinc (lv' := [(3, .int (x3 + 1)), (0, .ref o_t), (2, .int x2), (4, .int x4)]) hx hb dX2_countWays_72 hl (k := 2) rfl (k_inc1 _) (Nat.le_of_ble_eq_true rfl) rfl (fun ls hl => ?_)
        refine lv_goto (tgt := 23) hx hb dX2_countWays_75 (by decide) ?_
        exact hK23 f_t_waysOn f_t_waysOn x2 (x3 + 1) _ _ _ hf hw (lv_sub hl [1, 2, 0] rfl)
      · have hf := g_f hc hf
        refine lv_aload_n hx hb dX2_countWays_45 rfl (lv_at hl 0 rfl) ?_
        refine lv_iload hx hb dX2_countWays_46 (lv_at hl 3 rfl) ?_
        obtain ⟨r1, hc2, hf⟩ := gB_s hf
        refine g_kv (is := [0, 1, 2]) (w1 := (wX2_spread E o_t a_t v_t_count f_t_ways r1)) (ws' := (wX2_countWays E o_t a_t v_t_count f_t_ways r1)) hw hA (g_rV hx hb hml hG hown hK hw (is := [0, 1, 2]) rfl (by decide) (mX2_spread l E o_t a_t v_t_count f_t_ways f_t_waysOn x4 r1 hc2) wd_34_8 wd_34_9 wd_34_10 wd_2_9 wd_34_11 hX2_spread g_allgood ⟨rfl, rfl⟩ ⟨Nat.le_of_ble_eq_true rfl, Nat.le_of_ble_eq_true rfl⟩ ⟨Nat.zero_le _, Nat.zero_le _⟩ (ci := 1) (q0 := 0) rfl rfl rfl rfl hl.1 rfl (Nat.le_of_ble_eq_true rfl) dX2_countWays_48) rfl rfl rfl (fun H locs hw => ?_)
        refine lv_iinc (lv' := [(4, .int (x4 + 1)), (0, .ref o_t), (2, .int x2), (3, .int x3)]) hx hb dX2_countWays_51 hl (k := 3) rfl (k_inc1 _) (Nat.le_of_ble_eq_true rfl) rfl (fun ls hl => ?_)
        refine lv_goto (tgt := 38) hx hb dX2_countWays_54 (by decide) ?_
        exact ih f_t_ways r1 x2 x3 (x4 + 1) _ _ _ hf hw (lv_sub hl [1, 2, 3, 0] rfl)
  have B23 : ∀ n : Nat, ∀ (f_t_ways : (Nat → Int32)) (f_t_waysOn : (Nat → Int32)) (x2 : Int32) (x3 : Int32) (H : Heap) (locs : List Loc) (ls : Array Slot), fX2_countWays_b23 n f_t_ways f_t_waysOn x2 x3 = some (z_t_ways, z_t_waysOn) → gS E A s.heap (wX2_countWays E o_t a_t v_t_count f_t_ways f_t_waysOn) H locs → lv_has ls 5 [(0, .ref o_t), (2, .int x2), (3, .int x3)] → W p l e ({ frames := 2, cells := 0, slots := 0, locals := 48 } : Room) s m args below meth cd H locs 0 0 Q (F0 m 23 ls []) := by
    intro n
    induction n with
    | zero => intro f_t_ways f_t_waysOn x2 x3 H locs ls hf hw hl; exact g_no hf
    | succ n ih =>
      intro f_t_ways f_t_waysOn x2 x3 H locs ls hf hw hl
      refine lv_iload_n hx hb dX2_countWays_23 rfl (lv_at hl 2 rfl) ?_
      refine lv_iload_n hx hb dX2_countWays_24 rfl (lv_at hl 1 rfl) ?_
      refine lv_icmp_ge (tgt := 78) hx hb dX2_countWays_25 (by decide) (fun hc => ?_) (fun hc => ?_)
      · have hf := g_t hc hf
        exact hret1 f_t_ways f_t_waysOn _ _ _ _ hf hw dX2_countWays_78
      · have hf := g_f hc hf
        refine lv_aload_n hx hb dX2_countWays_28 rfl (lv_at hl 0 rfl) ?_
        refine g_get hx hb hG hown hK hw inlX2 (ci := 1) rfl 0 4 (Nat.le_of_ble_eq_true rfl) rfl rfl wd_5_8 dX2_countWays_29 ?_
        obtain ⟨r3, hc4, hf⟩ := gB_s hf
        refine g_kv (is := [2]) (w1 := (wX10_clearRow E (a_t 4) 36 r3)) (ws' := (wX2_countWays E o_t a_t v_t_count f_t_ways r3)) hw hA (g_rN (host := "SeedBank") hx hb hml hG hown hK hw (is := [2]) rfl (by decide) (mX10_clearRow l E (a_t 4) 36 f_t_waysOn r3 hc4) (List.mem_of_getElem? (i := 23) rfl) wd_18_15 wd_1_2 wd_18_16 hX10_clearRow g_allgood ⟨rfl, rfl⟩ ⟨Nat.le_of_ble_eq_true rfl, Nat.le_of_ble_eq_true rfl⟩ ⟨Nat.zero_le _, Nat.zero_le _⟩ rfl hl.1 rfl (Nat.le_of_ble_eq_true rfl) dX2_countWays_32) rfl rfl rfl (fun H locs hw => ?_)
        refine lv_iconst (v := 0) hx hb dX2_countWays_35 k_i0 ?_
        refine lv_istore (lv' := [(4, .int 0), (0, .ref o_t), (2, .int x2), (3, .int x3)]) hx hb dX2_countWays_36 hl (Nat.le_of_ble_eq_true rfl) rfl (fun ls hl => ?_)
        exact B38 (fX2_countWays_b23 n) ih 1000 f_t_ways r3 x2 x3 0 _ _ _ hf hw (lv_sub hl [1, 2, 3, 0] rfl)
  have B21 : ∀ (f_t_ways : (Nat → Int32)) (f_t_waysOn : (Nat → Int32)) (x2 : Int32) (H : Heap) (locs : List Loc) (ls : Array Slot), fX2_countWays_b21 f_t_ways f_t_waysOn x2 = some (z_t_ways, z_t_waysOn) → gS E A s.heap (wX2_countWays E o_t a_t v_t_count f_t_ways f_t_waysOn) H locs → lv_has ls 5 [(0, .ref o_t), (2, .int x2)] → W p l e ({ frames := 2, cells := 0, slots := 0, locals := 48 } : Room) s m args below meth cd H locs 0 0 Q (F0 m 21 ls []) := by
    intro  f_t_ways f_t_waysOn x2 H locs ls hf hw hl
    refine lv_iconst (v := 0) hx hb dX2_countWays_21 k_i0 ?_
    refine lv_istore_n (lv' := [(3, .int 0), (0, .ref o_t), (2, .int x2)]) hx hb dX2_countWays_22 rfl hl (Nat.le_of_ble_eq_true rfl) rfl (fun ls hl => ?_)
    exact B23 1000 f_t_ways f_t_waysOn x2 0 _ _ _ hf hw (lv_sub hl [1, 2, 0] rfl)
  refine lv_aload_n hx hb dX2_countWays_0 rfl (lv_at hl 0 rfl) ?_
  refine g_get hx hb hG hown hK hw inlX2 (ci := 1) rfl 0 3 (Nat.le_of_ble_eq_true rfl) rfl rfl wd_5_7 dX2_countWays_1 ?_
  obtain ⟨r5, hc6, hf⟩ := gB_s hf
  refine g_kv (is := [1]) (w1 := (wX10_clearRow E (a_t 3) 36 r5)) (ws' := (wX2_countWays E o_t a_t v_t_count r5 f_t_waysOn)) hw hA (g_rN (host := "SeedBank") hx hb hml hG hown hK hw (is := [1]) rfl (by decide) (mX10_clearRow l E (a_t 3) 36 f_t_ways r5 hc6) (List.mem_of_getElem? (i := 23) rfl) wd_18_15 wd_1_2 wd_18_16 hX10_clearRow g_allgood ⟨rfl, rfl⟩ ⟨Nat.le_of_ble_eq_true rfl, Nat.le_of_ble_eq_true rfl⟩ ⟨Nat.zero_le _, Nat.zero_le _⟩ rfl hl.1 rfl (Nat.le_of_ble_eq_true rfl) dX2_countWays_4) rfl rfl rfl (fun H locs hw => ?_)
  refine lv_iload_n hx hb dX2_countWays_7 rfl (lv_at hl 1 rfl) ?_
  obtain ⟨r7, hc8, hf⟩ := gB_s hf
  refine g_ki (is := []) (w1 := (wX10_isField E)) (ws' := (wX2_countWays E o_t a_t v_t_count r5 f_t_waysOn)) hw hA (g_rN (host := "SeedBank") hx hb hml hG hown hK hw (is := []) rfl (by decide) (mX10_isField l E x1 r7 hc8) (List.mem_of_getElem? (i := 25) rfl) wd_7_5 wd_1_2 wd_7_6 hX10_isField g_allgood ⟨rfl, rfl⟩ ⟨Nat.le_of_ble_eq_true rfl, Nat.le_of_ble_eq_true rfl⟩ ⟨Nat.zero_le _, Nat.zero_le _⟩ rfl hl.1 rfl (Nat.le_of_ble_eq_true rfl) dX2_countWays_8) rfl rfl rfl (fun H locs hw => ?_)
  refine lv_if_eq (tgt := 21) hx hb dX2_countWays_11 (by decide) (fun hc => ?_) (fun hc => ?_)
  · have hf := g_t hc hf
    exact B21 r5 f_t_waysOn x2 _ _ _ hf hw (lv_sub hl [0, 2] rfl)
  · have hf := g_f hc hf
    refine lv_aload_n hx hb dX2_countWays_14 rfl (lv_at hl 0 rfl) ?_
    refine g_get hx hb hG hown hK hw inlX2 (ci := 1) rfl 0 3 (Nat.le_of_ble_eq_true rfl) rfl rfl wd_5_7 dX2_countWays_15 ?_
    refine lv_iload_n hx hb dX2_countWays_18 rfl (lv_at hl 1 rfl) ?_
    refine lv_iconst (v := 1) hx hb dX2_countWays_19 k_i1 ?_
    obtain ⟨hi9, hf⟩ := gA_s hf
    refine g_iast (ws' := (wX2_countWays E o_t a_t v_t_count (upd r5 (Int32.toNatClampNeg x1) 1) f_t_waysOn)) hx hb hK hw 1 rfl hi9 rfl dX2_countWays_20 (fun H locs hw => ?_)
    exact B21 (upd r5 (Int32.toNatClampNeg x1) 1) f_t_waysOn x2 _ _ _ hf hw (lv_sub hl [0, 2] rfl)
theorem hX10_sumOfRow : yX10_sumOfRow.cls ≠ "java/lang/invoke/MethodHandle" ∧ yX10_sumOfRow.cls ≠ "java/lang/invoke/VarHandle" ∧ (parseMethodDescriptor yX10_sumOfRow.desc).map (fun d => d.parameters.length) = some 1 := by decide +kernel
set_option maxHeartbeats 4000000 in
set_option maxRecDepth 100000 in
theorem mX10_sumOfRow (l : Launch) (E : gE) (o_p0 : Nat) (n_p0 : Nat) (f_p0 : (Nat → Int32)) (rv : Int32) (hf : fX10_sumOfRow n_p0 f_p0 = some rv) {sz : Nat} : gMi l yX10_sumOfRow (gW yX10_sumOfRow cX10_sumOfRow 3 (some .int)) ({ frames := 0, cells := 0, slots := 0, locals := 0 } : Room) E [.ref o_p0] (wX10_sumOfRow E o_p0 n_p0 f_p0) sz rv (wX10_sumOfRow E o_p0 n_p0 f_p0) := by
  refine g_openI (own := RX10) (by decide) rfl (Nat.le_of_ble_eq_true rfl) (fun p e s m args below meth cd Q A hx hb hml hown hG hK hA hret hw ls hl => ?_)
  have hl : lv_has ls 3 [(0, .ref o_p0)] := hl
  have hret1 : ∀ (v : Int32)  (H : Heap) (locs : List Loc) (pc : Nat) (ls : Array Slot), some v = some rv → gS E A s.heap (wX10_sumOfRow E o_p0 n_p0 f_p0) H locs → decode cX10_sumOfRow pc = .ok (.ireturn, 1) → W p l e ({ frames := 0, cells := 0, slots := 0, locals := 0 } : Room) s m args below meth cd H locs 0 0 Q (F0 m pc ls [.int v]) := by
    intro v  H locs pc ls h hw hd
    cases h
    exact hret H locs pc ls hw hd
  have B4 : ∀ n : Nat, ∀ (x1 : Int32) (x2 : Int32) (H : Heap) (locs : List Loc) (ls : Array Slot), fX10_sumOfRow_b4 n_p0 f_p0 n x1 x2 = some rv → gS E A s.heap (wX10_sumOfRow E o_p0 n_p0 f_p0) H locs → lv_has ls 3 [(0, .ref o_p0), (1, .int x1), (2, .int x2)] → W p l e ({ frames := 0, cells := 0, slots := 0, locals := 0 } : Room) s m args below meth cd H locs 0 0 Q (F0 m 4 ls []) := by
    intro n
    induction n with
    | zero => intro x1 x2 H locs ls hf hw hl; exact g_no hf
    | succ n ih =>
      intro x1 x2 H locs ls hf hw hl
      refine lv_iload_n hx hb dX10_sumOfRow_4 rfl (lv_at hl 2 rfl) ?_
      refine lv_aload_n hx hb dX10_sumOfRow_5 rfl (lv_at hl 0 rfl) ?_
      refine g_alen hx hb hK hw 0 rfl dX10_sumOfRow_6 ?_
      refine lv_icmp_ge (tgt := 22) hx hb dX10_sumOfRow_7 (by decide) (fun hc => ?_) (fun hc => ?_)
      · have hf := g_t hc hf
        refine lv_iload_n hx hb dX10_sumOfRow_22 rfl (lv_at hl 1 rfl) ?_
        exact hret1 x1 _ _ _ _ hf hw dX10_sumOfRow_23
      · have hf := g_f hc hf
        refine lv_iload_n hx hb dX10_sumOfRow_10 rfl (lv_at hl 1 rfl) ?_
        refine lv_aload_n hx hb dX10_sumOfRow_11 rfl (lv_at hl 0 rfl) ?_
        refine lv_iload_n hx hb dX10_sumOfRow_12 rfl (lv_at hl 2 rfl) ?_
        obtain ⟨hi1, hf⟩ := gA_s hf
        refine g_iald hx hb hK hw 0 rfl hi1 dX10_sumOfRow_13 ?_
        refine lv_iadd hx hb dX10_sumOfRow_14 ?_
        refine lv_istore_n (lv' := [(1, .int (x1 + (f_p0 (Int32.toNatClampNeg x2)))), (0, .ref o_p0), (2, .int x2)]) hx hb dX10_sumOfRow_15 rfl hl (Nat.le_of_ble_eq_true rfl) rfl (fun ls hl => ?_)
        refine lv_iinc (lv' := [(2, .int (x2 + 1)), (1, .int (x1 + (f_p0 (Int32.toNatClampNeg x2)))), (0, .ref o_p0)]) hx hb dX10_sumOfRow_16 hl (k := 2) rfl (k_inc1 _) (Nat.le_of_ble_eq_true rfl) rfl (fun ls hl => ?_)
        refine lv_goto (tgt := 4) hx hb dX10_sumOfRow_19 (by decide) ?_
        exact ih (x1 + (f_p0 (Int32.toNatClampNeg x2))) (x2 + 1) _ _ _ hf hw (lv_sub hl [2, 1, 0] rfl)
  refine lv_iconst (v := 0) hx hb dX10_sumOfRow_0 k_i0 ?_
  refine lv_istore_n (lv' := [(1, .int 0), (0, .ref o_p0)]) hx hb dX10_sumOfRow_1 rfl hl (Nat.le_of_ble_eq_true rfl) rfl (fun ls hl => ?_)
  refine lv_iconst (v := 0) hx hb dX10_sumOfRow_2 k_i0 ?_
  refine lv_istore_n (lv' := [(2, .int 0), (1, .int 0), (0, .ref o_p0)]) hx hb dX10_sumOfRow_3 rfl hl (Nat.le_of_ble_eq_true rfl) rfl (fun ls hl => ?_)
  exact B4 1000 0 0 _ _ _ hf hw (lv_sub hl [2, 1, 0] rfl)
theorem hX2_chance : yX2_chance.cls = RX2 ∧ yX2_chance.cls ≠ "java/lang/invoke/MethodHandle" ∧ yX2_chance.cls ≠ "java/lang/invoke/VarHandle" ∧ (parseMethodDescriptor yX2_chance.desc).map (fun d => d.parameters.length) = some 4 := by decide +kernel
set_option maxHeartbeats 4000000 in
set_option maxRecDepth 100000 in
theorem mX2_chance (l : Launch) (E : gE) (o_t : Nat) (a_t : (Nat → Nat)) (v_t_count : Int32) (f_t_ways : (Nat → Int32)) (f_t_waysOn : (Nat → Int32)) (x1 : Int32) (x2 : Int32) (x3 : Int32) (x4 : Int32) (rv : Int64) (z_t_ways : (Nat → Int32)) (z_t_waysOn : (Nat → Int32)) (hf : fX2_chance f_t_ways f_t_waysOn x1 x2 x3 x4 = some (rv, z_t_ways, z_t_waysOn)) {sz : Nat} : gMl l yX2_chance (gW yX2_chance cX2_chance 8 (some .long)) ({ frames := 3, cells := 0, slots := 0, locals := 72 } : Room) E [.ref o_t, .int x1, .int x2, .int x3, .int x4] (wX2_chance E o_t a_t v_t_count f_t_ways f_t_waysOn) sz rv (wX2_chance E o_t a_t v_t_count z_t_ways z_t_waysOn) := by
  refine g_openL (own := RX2) (by decide) rfl (Nat.le_of_ble_eq_true rfl) (fun p e s m args below meth cd Q A hx hb hml hown hG hK hA hret hw ls hl => ?_)
  have hl : lv_has ls 8 [(0, .ref o_t), (1, .int x1), (2, .int x2), (3, .int x3), (4, .int x4)] := hl
  have hret1 : ∀ (v : Int64) (f_t_ways : (Nat → Int32)) (f_t_waysOn : (Nat → Int32)) (H : Heap) (locs : List Loc) (pc : Nat) (ls : Array Slot), some (v, f_t_ways, f_t_waysOn) = some (rv, z_t_ways, z_t_waysOn) → gS E A s.heap (wX2_chance E o_t a_t v_t_count f_t_ways f_t_waysOn) H locs → decode cX2_chance pc = .ok (.lreturn, 1) → W p l e ({ frames := 3, cells := 0, slots := 0, locals := 72 } : Room) s m args below meth cd H locs 0 0 Q (F0 m pc ls [.long v]) := by
    intro v f_t_ways f_t_waysOn H locs pc ls h hw hd
    cases h
    exact hret H locs pc ls hw hd
  have B91 : ∀ (f_t_ways : (Nat → Int32)) (f_t_waysOn : (Nat → Int32)) (s0 : Int64) (H : Heap) (locs : List Loc) (ls : Array Slot), fX2_chance_b91 f_t_ways f_t_waysOn s0 = some (rv, z_t_ways, z_t_waysOn) → gS E A s.heap (wX2_chance E o_t a_t v_t_count f_t_ways f_t_waysOn) H locs → lv_has ls 8 [] → W p l e ({ frames := 3, cells := 0, slots := 0, locals := 72 } : Room) s m args below meth cd H locs 0 0 Q (F0 m 91 ls [.long s0]) := by
    intro  f_t_ways f_t_waysOn s0 H locs ls hf hw hl
    exact hret1 s0 f_t_ways f_t_waysOn _ _ _ _ hf hw dX2_chance_91
  have B77 : ∀ (f_t_ways : (Nat → Int32)) (f_t_waysOn : (Nat → Int32)) (x4 : Int32) (x5 : Int32) (x6 : Int32) (H : Heap) (locs : List Loc) (ls : Array Slot), fX2_chance_b77 f_t_ways f_t_waysOn x4 x5 x6 = some (rv, z_t_ways, z_t_waysOn) → gS E A s.heap (wX2_chance E o_t a_t v_t_count f_t_ways f_t_waysOn) H locs → lv_has ls 8 [(4, .int x4), (5, .int x5), (6, .int x6)] → W p l e ({ frames := 3, cells := 0, slots := 0, locals := 72 } : Room) s m args below meth cd H locs 0 0 Q (F0 m 77 ls []) := by
    intro  f_t_ways f_t_waysOn x4 x5 x6 H locs ls hf hw hl
    refine lv_iload hx hb dX2_chance_77 (lv_at hl 0 rfl) ?_
    refine lv_if_ne (tgt := 88) hx hb dX2_chance_79 (by decide) (fun hc => ?_) (fun hc => ?_)
    · have hf := g_f hc hf
      refine lv_iload hx hb dX2_chance_88 (lv_at hl 1 rfl) ?_
      refine lv_i2l hx hb dX2_chance_90 rfl ?_
      exact B91 f_t_ways f_t_waysOn (Int32.toInt64 x5) _ _ _ hf hw (lv_sub hl [] rfl)
    · have hf := g_t hc hf
      refine lv_iload hx hb dX2_chance_82 (lv_at hl 2 rfl) ?_
      refine lv_i2l hx hb dX2_chance_84 rfl ?_
      refine lv_goto (tgt := 91) hx hb dX2_chance_85 (by decide) ?_
      exact B91 f_t_ways f_t_waysOn (Int32.toInt64 x6) _ _ _ hf hw (lv_sub hl [] rfl)
  have B44 : ∀ n : Nat, ∀ (f_t_ways : (Nat → Int32)) (f_t_waysOn : (Nat → Int32)) (x3 : Int32) (x4 : Int32) (x5 : Int32) (x6 : Int32) (x7 : Int32) (H : Heap) (locs : List Loc) (ls : Array Slot), fX2_chance_b44 n f_t_ways f_t_waysOn x3 x4 x5 x6 x7 = some (rv, z_t_ways, z_t_waysOn) → gS E A s.heap (wX2_chance E o_t a_t v_t_count f_t_ways f_t_waysOn) H locs → lv_has ls 8 [(3, .int x3), (4, .int x4), (5, .int x5), (6, .int x6), (7, .int x7)] → W p l e ({ frames := 3, cells := 0, slots := 0, locals := 72 } : Room) s m args below meth cd H locs 0 0 Q (F0 m 44 ls []) := by
    intro n
    induction n with
    | zero => intro f_t_ways f_t_waysOn x3 x4 x5 x6 x7 H locs ls hf hw hl; exact g_no hf
    | succ n ih =>
      intro f_t_ways f_t_waysOn x3 x4 x5 x6 x7 H locs ls hf hw hl
      refine lv_iload hx hb dX2_chance_44 (lv_at hl 4 rfl) ?_
      refine lv_iconst (v := 2) hx hb dX2_chance_46 k_i2 ?_
      refine lv_iload_n hx hb dX2_chance_47 rfl (lv_at hl 0 rfl) ?_
      refine lv_imul hx hb dX2_chance_48 ?_
      refine lv_icmp_ge (tgt := 77) hx hb dX2_chance_49 (by decide) (fun hc => ?_) (fun hc => ?_)
      · have hf := g_t hc hf
        exact B77 f_t_ways f_t_waysOn x4 x5 x6 _ _ _ hf hw (lv_sub hl [1, 2, 3] rfl)
      · have hf := g_f hc hf
        refine lv_iload hx hb dX2_chance_52 (lv_at hl 3 rfl) ?_
        refine lv_iconst (v := 2) hx hb dX2_chance_54 k_i2 ?_
        refine g_irem hx hb dX2_chance_55 (by decide) ?_
        refine lv_if_ne (tgt := 77) hx hb dX2_chance_56 (by decide) (fun hc => ?_) (fun hc => ?_)
        · have hf := g_f hc hf
          exact B77 f_t_ways f_t_waysOn x4 x5 x6 _ _ _ hf hw (lv_sub hl [1, 2, 3] rfl)
        · have hf := g_t hc hf
          refine lv_iload hx hb dX2_chance_59 (lv_at hl 3 rfl) ?_
          refine lv_iconst (v := 2) hx hb dX2_chance_61 k_i2 ?_
          refine lv_idiv hx hb dX2_chance_62 (by decide) ?_
          refine lv_istore (lv' := [(6, .int (x6 / 2)), (3, .int x3), (4, .int x4), (5, .int x5), (7, .int x7)]) hx hb dX2_chance_63 hl (Nat.le_of_ble_eq_true rfl) rfl (fun ls hl => ?_)
          refine lv_iload hx hb dX2_chance_65 (lv_at hl 3 rfl) ?_
          refine lv_iconst (v := 2) hx hb dX2_chance_67 k_i2 ?_
          refine lv_idiv hx hb dX2_chance_68 (by decide) ?_
          refine lv_istore (lv' := [(5, .int (x5 / 2)), (6, .int (x6 / 2)), (3, .int x3), (4, .int x4), (7, .int x7)]) hx hb dX2_chance_69 hl (Nat.le_of_ble_eq_true rfl) rfl (fun ls hl => ?_)
          refine lv_iinc (lv' := [(7, .int (x7 + 1)), (5, .int (x5 / 2)), (6, .int (x6 / 2)), (3, .int x3), (4, .int x4)]) hx hb dX2_chance_71 hl (k := 4) rfl (k_inc1 _) (Nat.le_of_ble_eq_true rfl) rfl (fun ls hl => ?_)
          refine lv_goto (tgt := 44) hx hb dX2_chance_74 (by decide) ?_
          exact ih f_t_ways f_t_waysOn x3 x4 (x5 / 2) (x6 / 2) (x7 + 1) _ _ _ hf hw (lv_sub hl [3, 4, 1, 2, 0] rfl)
  have B39 : ∀ (f_t_ways : (Nat → Int32)) (f_t_waysOn : (Nat → Int32)) (x3 : Int32) (x4 : Int32) (x5 : Int32) (s0 : Int32) (H : Heap) (locs : List Loc) (ls : Array Slot), fX2_chance_b39 f_t_ways f_t_waysOn x3 x4 x5 s0 = some (rv, z_t_ways, z_t_waysOn) → gS E A s.heap (wX2_chance E o_t a_t v_t_count f_t_ways f_t_waysOn) H locs → lv_has ls 8 [(3, .int x3), (4, .int x4), (5, .int x5)] → W p l e ({ frames := 3, cells := 0, slots := 0, locals := 72 } : Room) s m args below meth cd H locs 0 0 Q (F0 m 39 ls [.int s0]) := by
    intro  f_t_ways f_t_waysOn x3 x4 x5 s0 H locs ls hf hw hl
    refine lv_istore (lv' := [(6, .int s0), (3, .int x3), (4, .int x4), (5, .int x5)]) hx hb dX2_chance_39 hl (Nat.le_of_ble_eq_true rfl) rfl (fun ls hl => ?_)
    refine lv_iconst (v := 0) hx hb dX2_chance_41 k_i0 ?_
    refine lv_istore (lv' := [(7, .int 0), (6, .int s0), (3, .int x3), (4, .int x4), (5, .int x5)]) hx hb dX2_chance_42 hl (Nat.le_of_ble_eq_true rfl) rfl (fun ls hl => ?_)
    exact B44 1000 f_t_ways f_t_waysOn x3 x4 x5 s0 0 _ _ _ hf hw (lv_sub hl [2, 3, 4, 1, 0] rfl)
  refine lv_aload_n hx hb dX2_chance_0 rfl (lv_at hl 0 rfl) ?_
  refine lv_iload_n hx hb dX2_chance_1 rfl (lv_at hl 1 rfl) ?_
  refine lv_iload_n hx hb dX2_chance_2 rfl (lv_at hl 3 rfl) ?_
  obtain ⟨r1, hc2, hf⟩ := gB_s hf
  refine g_kv (is := [0, 1, 2]) (w1 := (wX2_countWays E o_t a_t v_t_count r1.1 r1.2)) (ws' := (wX2_chance E o_t a_t v_t_count r1.1 r1.2)) hw hA (g_rV hx hb hml hG hown hK hw (is := [0, 1, 2]) rfl (by decide) (mX2_countWays l E o_t a_t v_t_count f_t_ways f_t_waysOn x1 x3 r1.1 r1.2 hc2) wd_34_3 wd_34_4 wd_34_5 wd_2_9 wd_34_6 hX2_countWays g_allgood ⟨rfl, rfl⟩ ⟨Nat.le_of_ble_eq_true rfl, Nat.le_of_ble_eq_true rfl⟩ ⟨Nat.zero_le _, Nat.zero_le _⟩ (ci := 1) (q0 := 0) rfl rfl rfl rfl hl.1 rfl (Nat.le_of_ble_eq_true rfl) dX2_chance_3) rfl rfl rfl (fun H locs hw => ?_)
  refine lv_iconst (v := 1) hx hb dX2_chance_6 k_i1 ?_
  refine lv_iconst (v := 2) hx hb dX2_chance_7 k_i2 ?_
  refine lv_iload_n hx hb dX2_chance_8 rfl (lv_at hl 3 rfl) ?_
  refine lv_imul hx hb dX2_chance_9 ?_
  refine lv_ishl hx hb dX2_chance_10 ?_
  refine lv_istore (lv' := [(5, .int (1 <<< ((2 * x3) &&& 31))), (0, .ref o_t), (1, .int x1), (2, .int x2), (3, .int x3), (4, .int x4)]) hx hb dX2_chance_11 hl (Nat.le_of_ble_eq_true rfl) rfl (fun ls hl => ?_)
  refine lv_iload_n hx hb dX2_chance_13 rfl (lv_at hl 3 rfl) ?_
  refine lv_iconst (v := -1) hx hb dX2_chance_14 k_im1 ?_
  refine lv_icmp_ne (tgt := 31) hx hb dX2_chance_15 (by decide) (fun hc => ?_) (fun hc => ?_)
  · have hf := g_f hc hf
    refine lv_aload_n hx hb dX2_chance_31 rfl (lv_at hl 1 rfl) ?_
    refine g_get hx hb hG hown hK hw inlX2 (ci := 1) rfl 0 3 (Nat.le_of_ble_eq_true rfl) rfl rfl wd_5_7 dX2_chance_32 ?_
    refine lv_iload_n hx hb dX2_chance_35 rfl (lv_at hl 3 rfl) ?_
    obtain ⟨r3, hc4, hf⟩ := gB_s hf
    refine g_ki (is := [1]) (w1 := (wX10_at E (a_t 3) 36 r1.1)) (ws' := (wX2_chance E o_t a_t v_t_count r1.1 r1.2)) hw hA (g_rN (host := "SeedBank") hx hb hml hG hown hK hw (is := [1]) rfl (by decide) (mX10_at l E (a_t 3) 36 r1.1 x2 r3 hc4) (List.mem_of_getElem? (i := 27) rfl) wd_15_23 wd_1_2 wd_16_0 hX10_at g_allgood ⟨rfl, rfl⟩ ⟨Nat.le_of_ble_eq_true rfl, Nat.le_of_ble_eq_true rfl⟩ ⟨Nat.zero_le _, Nat.zero_le _⟩ rfl hl.1 rfl (Nat.le_of_ble_eq_true rfl) dX2_chance_36) rfl rfl rfl (fun H locs hw => ?_)
    exact B39 r1.1 r1.2 x3 x4 (1 <<< ((2 * x3) &&& 31)) r3 _ _ _ hf hw (lv_sub hl [4, 5, 0] rfl)
  · have hf := g_t hc hf
    refine lv_iload hx hb dX2_chance_18 (lv_at hl 0 rfl) ?_
    refine lv_aload_n hx hb dX2_chance_20 rfl (lv_at hl 1 rfl) ?_
    refine g_get hx hb hG hown hK hw inlX2 (ci := 1) rfl 0 3 (Nat.le_of_ble_eq_true rfl) rfl rfl wd_5_7 dX2_chance_21 ?_
    obtain ⟨r5, hc6, hf⟩ := gB_s hf
    refine g_ki (is := [1]) (w1 := (wX10_sumOfRow E (a_t 3) 36 r1.1)) (ws' := (wX2_chance E o_t a_t v_t_count r1.1 r1.2)) hw hA (g_rN (host := "SeedBank") hx hb hml hG hown hK hw (is := [1]) rfl (by decide) (mX10_sumOfRow l E (a_t 3) 36 r1.1 r5 hc6) (List.mem_of_getElem? (i := 28) rfl) wd_23_16 wd_1_2 wd_23_17 hX10_sumOfRow g_allgood ⟨rfl, rfl⟩ ⟨Nat.le_of_ble_eq_true rfl, Nat.le_of_ble_eq_true rfl⟩ ⟨Nat.zero_le _, Nat.zero_le _⟩ rfl hl.1 rfl (Nat.le_of_ble_eq_true rfl) dX2_chance_24) rfl rfl rfl (fun H locs hw => ?_)
    refine lv_isub hx hb dX2_chance_27 ?_
    refine lv_goto (tgt := 39) hx hb dX2_chance_28 (by decide) ?_
    exact B39 r1.1 r1.2 x3 x4 (1 <<< ((2 * x3) &&& 31)) ((1 <<< ((2 * x3) &&& 31)) - r5) _ _ _ hf hw (lv_sub hl [4, 5, 0] rfl)
theorem hX3_runYear : yX3_runYear.cls = RX3 ∧ yX3_runYear.cls ≠ "java/lang/invoke/MethodHandle" ∧ yX3_runYear.cls ≠ "java/lang/invoke/VarHandle" ∧ (parseMethodDescriptor yX3_runYear.desc).map (fun d => d.parameters.length) = some 2 := by decide +kernel
set_option maxHeartbeats 4000000 in
set_option maxRecDepth 100000 in
theorem mX3_runYear (l : Launch) (E : gE) (o_t : Nat) (a_t : (Nat → Nat)) (f_t_lying : (Nat → Int32)) (f_t_landed : (Nat → Int32)) (x1 : Int32) (x2 : Int32) (z_t_lying : (Nat → Int32)) (z_t_landed : (Nat → Int32)) (hf : fX3_runYear f_t_lying f_t_landed x1 x2 = some (z_t_lying, z_t_landed)) {sz : Nat} : gMv l yX3_runYear (gW yX3_runYear cX3_runYear 6 none) ({ frames := 1, cells := 0, slots := 0, locals := 25 } : Room) E [.ref o_t, .int x1, .int x2] (wX3_runYear E o_t a_t f_t_lying f_t_landed) sz (wX3_runYear E o_t a_t z_t_lying z_t_landed) := by
  refine g_openV (own := RX3) (by decide) rfl (Nat.le_of_ble_eq_true rfl) (fun p e s m args below meth cd Q A hx hb hml hown hG hK hA hret hw ls hl => ?_)
  have hl : lv_has ls 6 [(0, .ref o_t), (1, .int x1), (2, .int x2)] := hl
  have hret1 : ∀ (f_t_lying : (Nat → Int32)) (f_t_landed : (Nat → Int32)) (H : Heap) (locs : List Loc) (pc : Nat) (ls : Array Slot), some (f_t_lying, f_t_landed) = some (z_t_lying, z_t_landed) → gS E A s.heap (wX3_runYear E o_t a_t f_t_lying f_t_landed) H locs → decode cX3_runYear pc = .ok (.return_, 1) → W p l e ({ frames := 1, cells := 0, slots := 0, locals := 25 } : Room) s m args below meth cd H locs 0 0 Q (F0 m pc ls []) := by
    intro f_t_lying f_t_landed H locs pc ls h hw hd
    cases h
    exact hret H locs pc ls hw hd
  have B70 : ∀ (K9 : (Nat → Int32) → (Nat → Int32) → Int32 → Int32 → Int32 → Option ((Nat → Int32) × (Nat → Int32))) (hK9 : ∀ (f_t_lying : (Nat → Int32)) (f_t_landed : (Nat → Int32)) (x1 : Int32) (x2 : Int32) (x3 : Int32) (H : Heap) (locs : List Loc) (ls : Array Slot), K9 f_t_lying f_t_landed x1 x2 x3 = some (z_t_lying, z_t_landed) → gS E A s.heap (wX3_runYear E o_t a_t f_t_lying f_t_landed) H locs → lv_has ls 6 [(0, .ref o_t), (1, .int x1), (2, .int x2), (3, .int x3)] → W p l e ({ frames := 1, cells := 0, slots := 0, locals := 25 } : Room) s m args below meth cd H locs 0 0 Q (F0 m 9 ls [])), ∀ (f_t_lying : (Nat → Int32)) (f_t_landed : (Nat → Int32)) (x1 : Int32) (x2 : Int32) (x3 : Int32) (H : Heap) (locs : List Loc) (ls : Array Slot), fX3_runYear_b70 K9 f_t_lying f_t_landed x1 x2 x3 = some (z_t_lying, z_t_landed) → gS E A s.heap (wX3_runYear E o_t a_t f_t_lying f_t_landed) H locs → lv_has ls 6 [(0, .ref o_t), (1, .int x1), (2, .int x2), (3, .int x3)] → W p l e ({ frames := 1, cells := 0, slots := 0, locals := 25 } : Room) s m args below meth cd H locs 0 0 Q (F0 m 70 ls []) := by
    intro K9 hK9 f_t_lying f_t_landed x1 x2 x3 H locs ls hf hw hl
    refine lv_iinc (lv' := [(3, .int (x3 + 1)), (0, .ref o_t), (1, .int x1), (2, .int x2)]) hx hb dX3_runYear_70 hl (k := 3) rfl (k_inc1 _) (Nat.le_of_ble_eq_true rfl) rfl (fun ls hl => ?_)
    refine lv_goto (tgt := 9) hx hb dX3_runYear_73 (by decide) ?_
    exact hK9 f_t_lying f_t_landed x1 x2 (x3 + 1) _ _ _ hf hw (lv_sub hl [1, 2, 3, 0] rfl)
  have B9 : ∀ n : Nat, ∀ (f_t_lying : (Nat → Int32)) (f_t_landed : (Nat → Int32)) (x1 : Int32) (x2 : Int32) (x3 : Int32) (H : Heap) (locs : List Loc) (ls : Array Slot), fX3_runYear_b9 n f_t_lying f_t_landed x1 x2 x3 = some (z_t_lying, z_t_landed) → gS E A s.heap (wX3_runYear E o_t a_t f_t_lying f_t_landed) H locs → lv_has ls 6 [(0, .ref o_t), (1, .int x1), (2, .int x2), (3, .int x3)] → W p l e ({ frames := 1, cells := 0, slots := 0, locals := 25 } : Room) s m args below meth cd H locs 0 0 Q (F0 m 9 ls []) := by
    intro n
    induction n with
    | zero => intro f_t_lying f_t_landed x1 x2 x3 H locs ls hf hw hl; exact g_no hf
    | succ n ih =>
      intro f_t_lying f_t_landed x1 x2 x3 H locs ls hf hw hl
      refine lv_iload_n hx hb dX3_runYear_9 rfl (lv_at hl 3 rfl) ?_
      refine lv_bipush (v := 36) hx hb dX3_runYear_10 k_b36 ?_
      refine lv_icmp_ge (tgt := 76) hx hb dX3_runYear_12 (by decide) (fun hc => ?_) (fun hc => ?_)
      · have hf := g_t hc hf
        refine lv_aload_n hx hb dX3_runYear_76 rfl (lv_at hl 0 rfl) ?_
        refine g_get hx hb hG hown hK hw inlX3 (ci := 2) rfl 0 1 (Nat.le_of_ble_eq_true rfl) rfl rfl wd_5_0 dX3_runYear_77 ?_
        refine lv_iconst (v := 0) hx hb dX3_runYear_80 k_i0 ?_
        refine lv_aload_n hx hb dX3_runYear_81 rfl (lv_at hl 0 rfl) ?_
        refine g_get hx hb hG hown hK hw inlX3 (ci := 2) rfl 0 0 (Nat.le_of_ble_eq_true rfl) rfl rfl wd_4_23 dX3_runYear_82 ?_
        refine lv_iconst (v := 0) hx hb dX3_runYear_85 k_i0 ?_
        refine lv_bipush (v := 36) hx hb dX3_runYear_86 k_b36 ?_
        refine g_acpy (N := 36) (ws' := (wX3_runYear E o_t a_t f_t_landed f_t_landed)) hx hb (hml.trans hl.1.symm) hG hown wd_28_21 wd_15_20 wd_15_21 wd_15_22 hK hw 2 1 rfl rfl (by decide) (by decide) rfl ⟨Nat.le_of_ble_eq_true rfl, Nat.le_of_ble_eq_true rfl⟩ rfl dX3_runYear_88 (fun H locs hw => ?_)
        exact hret1 f_t_landed f_t_landed _ _ _ _ hf hw dX3_runYear_91
      · have hf := g_f hc hf
        refine lv_sipush (v := 999) hx hb dX3_runYear_15 k_s999 ?_
        refine lv_iconst (v := 2) hx hb dX3_runYear_18 k_i2 ?_
        refine lv_aload_n hx hb dX3_runYear_19 rfl (lv_at hl 0 rfl) ?_
        refine g_get hx hb hG hown hK hw inlX3 (ci := 2) rfl 0 0 (Nat.le_of_ble_eq_true rfl) rfl rfl wd_4_23 dX3_runYear_20 ?_
        refine lv_iload_n hx hb dX3_runYear_23 rfl (lv_at hl 3 rfl) ?_
        obtain ⟨hi1, hf⟩ := gA_s hf
        refine g_iald hx hb hK hw 1 rfl hi1 dX3_runYear_24 ?_
        refine lv_imul hx hb dX3_runYear_25 ?_
        refine va_mmin hx hb (hml.trans hl.1.symm) hown (hG _ wd_29_4) (hG _ wd_18_4) (hG _ wd_18_5) (hG _ wd_18_6) (Nat.le_of_ble_eq_true rfl) (Nat.le_of_ble_eq_true rfl) (Nat.zero_le _) (Nat.zero_le _) dX3_runYear_26 ?_
        refine lv_istore (lv' := [(4, .int (if (2 * (f_t_lying (Int32.toNatClampNeg x3))) < 999 then (2 * (f_t_lying (Int32.toNatClampNeg x3))) else 999)), (0, .ref o_t), (1, .int x1), (2, .int x2), (3, .int x3)]) hx hb dX3_runYear_29 hl (Nat.le_of_ble_eq_true rfl) rfl (fun ls hl => ?_)
        refine lv_iload_n hx hb dX3_runYear_31 rfl (lv_at hl 4 rfl) ?_
        refine lv_iload_n hx hb dX3_runYear_32 rfl (lv_at hl 2 rfl) ?_
        refine lv_iload_n hx hb dX3_runYear_33 rfl (lv_at hl 3 rfl) ?_
        obtain ⟨r2, hc3, hf⟩ := gB_s hf
        refine g_ki (is := []) (w1 := (wX10_downwind E)) (ws' := (wX3_runYear E o_t a_t f_t_lying f_t_landed)) hw hA (g_rN (host := "SeedBank") hx hb hml hG hown hK hw (is := []) rfl (by decide) (mX10_downwind l E x3 x1 x2 r2 hc3) (List.mem_of_getElem? (i := 20) rfl) wd_17_12 wd_1_2 wd_17_13 hX10_downwind g_allgood ⟨rfl, rfl⟩ ⟨Nat.le_of_ble_eq_true rfl, Nat.le_of_ble_eq_true rfl⟩ ⟨Nat.zero_le _, Nat.zero_le _⟩ rfl hl.1 rfl (Nat.le_of_ble_eq_true rfl) dX3_runYear_34) rfl rfl rfl (fun H locs hw => ?_)
        refine lv_istore (lv' := [(5, .int r2), (4, .int (if (2 * (f_t_lying (Int32.toNatClampNeg x3))) < 999 then (2 * (f_t_lying (Int32.toNatClampNeg x3))) else 999)), (0, .ref o_t), (1, .int x1), (2, .int x2), (3, .int x3)]) hx hb dX3_runYear_37 hl (Nat.le_of_ble_eq_true rfl) rfl (fun ls hl => ?_)
        refine lv_iload hx hb dX3_runYear_39 (lv_at hl 0 rfl) ?_
        obtain ⟨r4, hc5, hf⟩ := gB_s hf
        refine g_ki (is := []) (w1 := (wX10_isField E)) (ws' := (wX3_runYear E o_t a_t f_t_lying f_t_landed)) hw hA (g_rN (host := "SeedBank") hx hb hml hG hown hK hw (is := []) rfl (by decide) (mX10_isField l E r2 r4 hc5) (List.mem_of_getElem? (i := 21) rfl) wd_7_5 wd_1_2 wd_7_6 hX10_isField g_allgood ⟨rfl, rfl⟩ ⟨Nat.le_of_ble_eq_true rfl, Nat.le_of_ble_eq_true rfl⟩ ⟨Nat.zero_le _, Nat.zero_le _⟩ rfl hl.1 rfl (Nat.le_of_ble_eq_true rfl) dX3_runYear_41) rfl rfl rfl (fun H locs hw => ?_)
        refine lv_if_eq (tgt := 70) hx hb dX3_runYear_44 (by decide) (fun hc => ?_) (fun hc => ?_)
        · have hf := g_t hc hf
          exact B70 (fX3_runYear_b9 n) ih f_t_lying f_t_landed x1 x2 x3 _ _ _ hf hw (lv_sub hl [2, 3, 4, 5] rfl)
        · have hf := g_f hc hf
          refine lv_aload_n hx hb dX3_runYear_47 rfl (lv_at hl 2 rfl) ?_
          refine g_get hx hb hG hown hK hw inlX3 (ci := 2) rfl 0 1 (Nat.le_of_ble_eq_true rfl) rfl rfl wd_5_0 dX3_runYear_48 ?_
          refine lv_iload hx hb dX3_runYear_51 (lv_at hl 0 rfl) ?_
          refine lv_sipush (v := 999) hx hb dX3_runYear_53 k_s999 ?_
          refine lv_aload_n hx hb dX3_runYear_56 rfl (lv_at hl 2 rfl) ?_
          refine g_get hx hb hG hown hK hw inlX3 (ci := 2) rfl 0 1 (Nat.le_of_ble_eq_true rfl) rfl rfl wd_5_0 dX3_runYear_57 ?_
          refine lv_iload hx hb dX3_runYear_60 (lv_at hl 0 rfl) ?_
          obtain ⟨hi6, hf⟩ := gA_s hf
          refine g_iald hx hb hK hw 2 rfl hi6 dX3_runYear_62 ?_
          refine lv_iload hx hb dX3_runYear_63 (lv_at hl 1 rfl) ?_
          refine lv_iadd hx hb dX3_runYear_65 ?_
          refine va_mmin hx hb (hml.trans hl.1.symm) hown (hG _ wd_29_4) (hG _ wd_18_4) (hG _ wd_18_5) (hG _ wd_18_6) (Nat.le_of_ble_eq_true rfl) (Nat.le_of_ble_eq_true rfl) (Nat.zero_le _) (Nat.zero_le _) dX3_runYear_66 ?_
          obtain ⟨hi7, hf⟩ := gA_s hf
          refine g_iast (ws' := (wX3_runYear E o_t a_t f_t_lying (upd f_t_landed (Int32.toNatClampNeg r2) (if ((f_t_landed (Int32.toNatClampNeg r2)) + (if (2 * (f_t_lying (Int32.toNatClampNeg x3))) < 999 then (2 * (f_t_lying (Int32.toNatClampNeg x3))) else 999)) < 999 then ((f_t_landed (Int32.toNatClampNeg r2)) + (if (2 * (f_t_lying (Int32.toNatClampNeg x3))) < 999 then (2 * (f_t_lying (Int32.toNatClampNeg x3))) else 999)) else 999)))) hx hb hK hw 2 rfl hi7 rfl dX3_runYear_69 (fun H locs hw => ?_)
          exact B70 (fX3_runYear_b9 n) ih f_t_lying (upd f_t_landed (Int32.toNatClampNeg r2) (if ((f_t_landed (Int32.toNatClampNeg r2)) + (if (2 * (f_t_lying (Int32.toNatClampNeg x3))) < 999 then (2 * (f_t_lying (Int32.toNatClampNeg x3))) else 999)) < 999 then ((f_t_landed (Int32.toNatClampNeg r2)) + (if (2 * (f_t_lying (Int32.toNatClampNeg x3))) < 999 then (2 * (f_t_lying (Int32.toNatClampNeg x3))) else 999)) else 999)) x1 x2 x3 _ _ _ hf hw (lv_sub hl [2, 3, 4, 5] rfl)
  refine lv_aload_n hx hb dX3_runYear_0 rfl (lv_at hl 0 rfl) ?_
  refine g_get hx hb hG hown hK hw inlX3 (ci := 2) rfl 0 1 (Nat.le_of_ble_eq_true rfl) rfl rfl wd_5_0 dX3_runYear_1 ?_
  obtain ⟨r8, hc9, hf⟩ := gB_s hf
  refine g_kv (is := [2]) (w1 := (wX10_clearRow E (a_t 1) 36 r8)) (ws' := (wX3_runYear E o_t a_t f_t_lying r8)) hw hA (g_rN (host := "SeedBank") hx hb hml hG hown hK hw (is := [2]) rfl (by decide) (mX10_clearRow l E (a_t 1) 36 f_t_landed r8 hc9) (List.mem_of_getElem? (i := 19) rfl) wd_18_15 wd_1_2 wd_18_16 hX10_clearRow g_allgood ⟨rfl, rfl⟩ ⟨Nat.le_of_ble_eq_true rfl, Nat.le_of_ble_eq_true rfl⟩ ⟨Nat.zero_le _, Nat.zero_le _⟩ rfl hl.1 rfl (Nat.le_of_ble_eq_true rfl) dX3_runYear_4) rfl rfl rfl (fun H locs hw => ?_)
  refine lv_iconst (v := 0) hx hb dX3_runYear_7 k_i0 ?_
  refine lv_istore_n (lv' := [(3, .int 0), (0, .ref o_t), (1, .int x1), (2, .int x2)]) hx hb dX3_runYear_8 rfl hl (Nat.le_of_ble_eq_true rfl) rfl (fun ls hl => ?_)
  exact B9 1000 f_t_lying r8 x1 x2 0 _ _ _ hf hw (lv_sub hl [1, 2, 3, 0] rfl)
theorem hX3_run : yX3_run.cls = RX3 ∧ yX3_run.cls ≠ "java/lang/invoke/MethodHandle" ∧ yX3_run.cls ≠ "java/lang/invoke/VarHandle" ∧ (parseMethodDescriptor yX3_run.desc).map (fun d => d.parameters.length) = some 2 := by decide +kernel
set_option maxHeartbeats 4000000 in
set_option maxRecDepth 100000 in
theorem mX3_run (l : Launch) (E : gE) (o_p0 : Nat) (a_p0 : (Nat → Nat)) (o_t : Nat) (a_t : (Nat → Nat)) (v_p0_families : Int32) (v_p0_wind : Int32) (v_p0_force : Int32) (v_p0_rain : Int32) (v_p0_lost : Int32) (v_p0_hour : Int32) (f_p0_ground : (Nat → Int32)) (f_t_lying : (Nat → Int32)) (f_t_landed : (Nat → Int32)) (x2 : Int32) (z_t_lying : (Nat → Int32)) (z_t_landed : (Nat → Int32)) (hf : fX3_run v_p0_wind v_p0_force f_p0_ground f_t_lying f_t_landed x2 = some (z_t_lying, z_t_landed)) {sz : Nat} : gMv l yX3_run (gW yX3_run cX3_run 4 none) ({ frames := 2, cells := 0, slots := 0, locals := 50 } : Room) E [.ref o_t, .ref o_p0, .int x2] (wX3_run E o_p0 a_p0 o_t a_t v_p0_families v_p0_wind v_p0_force v_p0_rain v_p0_lost v_p0_hour f_p0_ground f_t_lying f_t_landed) sz (wX3_run E o_p0 a_p0 o_t a_t v_p0_families v_p0_wind v_p0_force v_p0_rain v_p0_lost v_p0_hour f_p0_ground z_t_lying z_t_landed) := by
  refine g_openV (own := RX3) (by decide) rfl (Nat.le_of_ble_eq_true rfl) (fun p e s m args below meth cd Q A hx hb hml hown hG hK hA hret hw ls hl => ?_)
  have hl : lv_has ls 4 [(0, .ref o_t), (1, .ref o_p0), (2, .int x2)] := hl
  have hret1 : ∀ (f_t_lying : (Nat → Int32)) (f_t_landed : (Nat → Int32)) (H : Heap) (locs : List Loc) (pc : Nat) (ls : Array Slot), some (f_t_lying, f_t_landed) = some (z_t_lying, z_t_landed) → gS E A s.heap (wX3_run E o_p0 a_p0 o_t a_t v_p0_families v_p0_wind v_p0_force v_p0_rain v_p0_lost v_p0_hour f_p0_ground f_t_lying f_t_landed) H locs → decode cX3_run pc = .ok (.return_, 1) → W p l e ({ frames := 2, cells := 0, slots := 0, locals := 50 } : Room) s m args below meth cd H locs 0 0 Q (F0 m pc ls []) := by
    intro f_t_lying f_t_landed H locs pc ls h hw hd
    cases h
    exact hret H locs pc ls hw hd
  have B17 : ∀ n : Nat, ∀ (f_t_lying : (Nat → Int32)) (f_t_landed : (Nat → Int32)) (x2 : Int32) (x3 : Int32) (H : Heap) (locs : List Loc) (ls : Array Slot), fX3_run_b17 v_p0_wind v_p0_force n f_t_lying f_t_landed x2 x3 = some (z_t_lying, z_t_landed) → gS E A s.heap (wX3_run E o_p0 a_p0 o_t a_t v_p0_families v_p0_wind v_p0_force v_p0_rain v_p0_lost v_p0_hour f_p0_ground f_t_lying f_t_landed) H locs → lv_has ls 4 [(0, .ref o_t), (1, .ref o_p0), (2, .int x2), (3, .int x3)] → W p l e ({ frames := 2, cells := 0, slots := 0, locals := 50 } : Room) s m args below meth cd H locs 0 0 Q (F0 m 17 ls []) := by
    intro n
    induction n with
    | zero => intro f_t_lying f_t_landed x2 x3 H locs ls hf hw hl; exact g_no hf
    | succ n ih =>
      intro f_t_lying f_t_landed x2 x3 H locs ls hf hw hl
      refine lv_iload_n hx hb dX3_run_17 rfl (lv_at hl 3 rfl) ?_
      refine lv_iload_n hx hb dX3_run_18 rfl (lv_at hl 2 rfl) ?_
      refine lv_icmp_ge (tgt := 40) hx hb dX3_run_19 (by decide) (fun hc => ?_) (fun hc => ?_)
      · have hf := g_t hc hf
        exact hret1 f_t_lying f_t_landed _ _ _ _ hf hw dX3_run_40
      · have hf := g_f hc hf
        refine lv_aload_n hx hb dX3_run_22 rfl (lv_at hl 0 rfl) ?_
        refine lv_aload_n hx hb dX3_run_23 rfl (lv_at hl 1 rfl) ?_
        refine g_get hx hb hG hown hK hw inlX6 (ci := 5) rfl 0 6 (Nat.le_of_ble_eq_true rfl) rfl rfl wd_28_22 dX3_run_24 ?_
        refine lv_aload_n hx hb dX3_run_27 rfl (lv_at hl 1 rfl) ?_
        refine g_get hx hb hG hown hK hw inlX6 (ci := 5) rfl 0 7 (Nat.le_of_ble_eq_true rfl) rfl rfl wd_28_23 dX3_run_28 ?_
        obtain ⟨r1, hc2, hf⟩ := gB_s hf
        refine g_kv (is := [2, 3, 4]) (w1 := (wX3_runYear E o_t a_t r1.1 r1.2)) (ws' := (wX3_run E o_p0 a_p0 o_t a_t v_p0_families v_p0_wind v_p0_force v_p0_rain v_p0_lost v_p0_hour f_p0_ground r1.1 r1.2)) hw hA (g_rV hx hb hml hG hown hK hw (is := [2, 3, 4]) rfl (by decide) (mX3_runYear l E o_t a_t f_t_lying f_t_landed v_p0_wind v_p0_force r1.1 r1.2 hc2) wd_29_0 wd_29_1 wd_29_2 wd_2_5 wd_29_3 hX3_runYear g_allgood ⟨rfl, rfl⟩ ⟨Nat.le_of_ble_eq_true rfl, Nat.le_of_ble_eq_true rfl⟩ ⟨Nat.zero_le _, Nat.zero_le _⟩ (ci := 2) (q0 := 0) rfl rfl rfl rfl hl.1 rfl (Nat.le_of_ble_eq_true rfl) dX3_run_31) rfl rfl rfl (fun H locs hw => ?_)
        refine lv_iinc (lv' := [(3, .int (x3 + 1)), (0, .ref o_t), (1, .ref o_p0), (2, .int x2)]) hx hb dX3_run_34 hl (k := 3) rfl (k_inc1 _) (Nat.le_of_ble_eq_true rfl) rfl (fun ls hl => ?_)
        refine lv_goto (tgt := 17) hx hb dX3_run_37 (by decide) ?_
        exact ih r1.1 r1.2 x2 (x3 + 1) _ _ _ hf hw (lv_sub hl [1, 2, 3, 0] rfl)
  refine lv_aload_n hx hb dX3_run_0 rfl (lv_at hl 1 rfl) ?_
  refine g_get hx hb hG hown hK hw inlX6 (ci := 5) rfl 0 4 (Nat.le_of_ble_eq_true rfl) rfl rfl wd_28_20 dX3_run_1 ?_
  refine lv_iconst (v := 0) hx hb dX3_run_4 k_i0 ?_
  refine lv_aload_n hx hb dX3_run_5 rfl (lv_at hl 0 rfl) ?_
  refine g_get hx hb hG hown hK hw inlX3 (ci := 2) rfl 2 0 (Nat.le_of_ble_eq_true rfl) rfl rfl wd_4_23 dX3_run_6 ?_
  refine lv_iconst (v := 0) hx hb dX3_run_9 k_i0 ?_
  refine lv_bipush (v := 36) hx hb dX3_run_10 k_b36 ?_
  refine g_acpy (N := 36) (ws' := (wX3_run E o_p0 a_p0 o_t a_t v_p0_families v_p0_wind v_p0_force v_p0_rain v_p0_lost v_p0_hour f_p0_ground f_p0_ground f_t_landed)) hx hb (hml.trans hl.1.symm) hG hown wd_28_21 wd_15_20 wd_15_21 wd_15_22 hK hw 1 3 rfl rfl (by decide) (by decide) rfl ⟨Nat.le_of_ble_eq_true rfl, Nat.le_of_ble_eq_true rfl⟩ rfl dX3_run_12 (fun H locs hw => ?_)
  refine lv_iconst (v := 0) hx hb dX3_run_15 k_i0 ?_
  refine lv_istore_n (lv' := [(3, .int 0), (0, .ref o_t), (1, .ref o_p0), (2, .int x2)]) hx hb dX3_run_16 rfl hl (Nat.le_of_ble_eq_true rfl) rfl (fun ls hl => ?_)
  exact B17 1000 f_p0_ground f_t_landed x2 0 _ _ _ hf hw (lv_sub hl [1, 2, 3, 0] rfl)
theorem hX3_sum : yX3_sum.cls = RX3 ∧ yX3_sum.cls ≠ "java/lang/invoke/MethodHandle" ∧ yX3_sum.cls ≠ "java/lang/invoke/VarHandle" ∧ (parseMethodDescriptor yX3_sum.desc).map (fun d => d.parameters.length) = some 0 := by decide +kernel
set_option maxHeartbeats 4000000 in
set_option maxRecDepth 100000 in
theorem mX3_sum (l : Launch) (E : gE) (o_t : Nat) (a_t : (Nat → Nat)) (f_t_lying : (Nat → Int32)) (rv : Int32) (hf : fX3_sum f_t_lying = some rv) {sz : Nat} : gMi l yX3_sum (gW yX3_sum cX3_sum 1 (some .int)) ({ frames := 1, cells := 0, slots := 0, locals := 22 } : Room) E [.ref o_t] (wX3_sum E o_t a_t f_t_lying) sz rv (wX3_sum E o_t a_t f_t_lying) := by
  refine g_openI (own := RX3) (by decide) rfl (Nat.le_of_ble_eq_true rfl) (fun p e s m args below meth cd Q A hx hb hml hown hG hK hA hret hw ls hl => ?_)
  have hl : lv_has ls 1 [(0, .ref o_t)] := hl
  have hret1 : ∀ (v : Int32)  (H : Heap) (locs : List Loc) (pc : Nat) (ls : Array Slot), some v = some rv → gS E A s.heap (wX3_sum E o_t a_t f_t_lying) H locs → decode cX3_sum pc = .ok (.ireturn, 1) → W p l e ({ frames := 1, cells := 0, slots := 0, locals := 22 } : Room) s m args below meth cd H locs 0 0 Q (F0 m pc ls [.int v]) := by
    intro v  H locs pc ls h hw hd
    cases h
    exact hret H locs pc ls hw hd
  refine lv_aload_n hx hb dX3_sum_0 rfl (lv_at hl 0 rfl) ?_
  refine g_get hx hb hG hown hK hw inlX3 (ci := 2) rfl 0 0 (Nat.le_of_ble_eq_true rfl) rfl rfl wd_4_23 dX3_sum_1 ?_
  obtain ⟨r1, hc2, hf⟩ := gB_s hf
  refine g_ki (is := [1]) (w1 := (wX10_sumOfRow E (a_t 0) 36 f_t_lying)) (ws' := (wX3_sum E o_t a_t f_t_lying)) hw hA (g_rN (host := "SeedBank") hx hb hml hG hown hK hw (is := [1]) rfl (by decide) (mX10_sumOfRow l E (a_t 0) 36 f_t_lying r1 hc2) (List.mem_of_getElem? (i := 22) rfl) wd_23_16 wd_1_2 wd_23_17 hX10_sumOfRow g_allgood ⟨rfl, rfl⟩ ⟨Nat.le_of_ble_eq_true rfl, Nat.le_of_ble_eq_true rfl⟩ ⟨Nat.zero_le _, Nat.zero_le _⟩ rfl hl.1 rfl (Nat.le_of_ble_eq_true rfl) dX3_sum_4) rfl rfl rfl (fun H locs hw => ?_)
  exact hret1 r1 _ _ _ _ hf hw dX3_sum_7
theorem hX3_fullestField : yX3_fullestField.cls = RX3 ∧ yX3_fullestField.cls ≠ "java/lang/invoke/MethodHandle" ∧ yX3_fullestField.cls ≠ "java/lang/invoke/VarHandle" ∧ (parseMethodDescriptor yX3_fullestField.desc).map (fun d => d.parameters.length) = some 0 := by decide +kernel
set_option maxHeartbeats 4000000 in
set_option maxRecDepth 100000 in
theorem mX3_fullestField (l : Launch) (E : gE) (o_t : Nat) (a_t : (Nat → Nat)) (f_t_lying : (Nat → Int32)) (rv : Int32) (hf : fX3_fullestField f_t_lying = some rv) {sz : Nat} : gMi l yX3_fullestField (gW yX3_fullestField cX3_fullestField 3 (some .int)) ({ frames := 0, cells := 0, slots := 0, locals := 0 } : Room) E [.ref o_t] (wX3_fullestField E o_t a_t f_t_lying) sz rv (wX3_fullestField E o_t a_t f_t_lying) := by
  refine g_openI (own := RX3) (by decide) rfl (Nat.le_of_ble_eq_true rfl) (fun p e s m args below meth cd Q A hx hb hml hown hG hK hA hret hw ls hl => ?_)
  have hl : lv_has ls 3 [(0, .ref o_t)] := hl
  have hret1 : ∀ (v : Int32)  (H : Heap) (locs : List Loc) (pc : Nat) (ls : Array Slot), some v = some rv → gS E A s.heap (wX3_fullestField E o_t a_t f_t_lying) H locs → decode cX3_fullestField pc = .ok (.ireturn, 1) → W p l e ({ frames := 0, cells := 0, slots := 0, locals := 0 } : Room) s m args below meth cd H locs 0 0 Q (F0 m pc ls [.int v]) := by
    intro v  H locs pc ls h hw hd
    cases h
    exact hret H locs pc ls hw hd
  have B27 : ∀ (K4 : Int32 → Int32 → Option (Int32)) (hK4 : ∀ (x1 : Int32) (x2 : Int32) (H : Heap) (locs : List Loc) (ls : Array Slot), K4 x1 x2 = some rv → gS E A s.heap (wX3_fullestField E o_t a_t f_t_lying) H locs → lv_has ls 3 [(0, .ref o_t), (1, .int x1), (2, .int x2)] → W p l e ({ frames := 0, cells := 0, slots := 0, locals := 0 } : Room) s m args below meth cd H locs 0 0 Q (F0 m 4 ls [])), ∀ (x1 : Int32) (x2 : Int32) (H : Heap) (locs : List Loc) (ls : Array Slot), fX3_fullestField_b27 K4 f_t_lying x1 x2 = some rv → gS E A s.heap (wX3_fullestField E o_t a_t f_t_lying) H locs → lv_has ls 3 [(0, .ref o_t), (1, .int x1), (2, .int x2)] → W p l e ({ frames := 0, cells := 0, slots := 0, locals := 0 } : Room) s m args below meth cd H locs 0 0 Q (F0 m 27 ls []) := by
    intro K4 hK4 x1 x2 H locs ls hf hw hl
    refine lv_iinc (lv' := [(2, .int (x2 + 1)), (0, .ref o_t), (1, .int x1)]) hx hb dX3_fullestField_27 hl (k := 2) rfl (k_inc1 _) (Nat.le_of_ble_eq_true rfl) rfl (fun ls hl => ?_)
    refine lv_goto (tgt := 4) hx hb dX3_fullestField_30 (by decide) ?_
    exact hK4 x1 (x2 + 1) _ _ _ hf hw (lv_sub hl [1, 2, 0] rfl)
  have B4 : ∀ n : Nat, ∀ (x1 : Int32) (x2 : Int32) (H : Heap) (locs : List Loc) (ls : Array Slot), fX3_fullestField_b4 f_t_lying n x1 x2 = some rv → gS E A s.heap (wX3_fullestField E o_t a_t f_t_lying) H locs → lv_has ls 3 [(0, .ref o_t), (1, .int x1), (2, .int x2)] → W p l e ({ frames := 0, cells := 0, slots := 0, locals := 0 } : Room) s m args below meth cd H locs 0 0 Q (F0 m 4 ls []) := by
    intro n
    induction n with
    | zero => intro x1 x2 H locs ls hf hw hl; exact g_no hf
    | succ n ih =>
      intro x1 x2 H locs ls hf hw hl
      refine lv_iload_n hx hb dX3_fullestField_4 rfl (lv_at hl 2 rfl) ?_
      refine lv_bipush (v := 36) hx hb dX3_fullestField_5 k_b36 ?_
      refine lv_icmp_ge (tgt := 33) hx hb dX3_fullestField_7 (by decide) (fun hc => ?_) (fun hc => ?_)
      · have hf := g_t hc hf
        refine lv_iload_n hx hb dX3_fullestField_33 rfl (lv_at hl 1 rfl) ?_
        exact hret1 x1 _ _ _ _ hf hw dX3_fullestField_34
      · have hf := g_f hc hf
        refine lv_aload_n hx hb dX3_fullestField_10 rfl (lv_at hl 0 rfl) ?_
        refine g_get hx hb hG hown hK hw inlX3 (ci := 2) rfl 0 0 (Nat.le_of_ble_eq_true rfl) rfl rfl wd_4_23 dX3_fullestField_11 ?_
        refine lv_iload_n hx hb dX3_fullestField_14 rfl (lv_at hl 2 rfl) ?_
        obtain ⟨hi1, hf⟩ := gA_s hf
        refine g_iald hx hb hK hw 1 rfl hi1 dX3_fullestField_15 ?_
        refine lv_aload_n hx hb dX3_fullestField_16 rfl (lv_at hl 0 rfl) ?_
        refine g_get hx hb hG hown hK hw inlX3 (ci := 2) rfl 0 0 (Nat.le_of_ble_eq_true rfl) rfl rfl wd_4_23 dX3_fullestField_17 ?_
        refine lv_iload_n hx hb dX3_fullestField_20 rfl (lv_at hl 1 rfl) ?_
        obtain ⟨hi2, hf⟩ := gA_s hf
        refine g_iald hx hb hK hw 1 rfl hi2 dX3_fullestField_21 ?_
        refine lv_icmp_le (tgt := 27) hx hb dX3_fullestField_22 (by decide) (fun hc => ?_) (fun hc => ?_)
        · have hf := g_t hc hf
          exact B27 (fX3_fullestField_b4 f_t_lying n) ih x1 x2 _ _ _ hf hw (lv_sub hl [0, 1, 2] rfl)
        · have hf := g_f hc hf
          refine lv_iload_n hx hb dX3_fullestField_25 rfl (lv_at hl 2 rfl) ?_
          refine lv_istore_n (lv' := [(1, .int x2), (0, .ref o_t), (2, .int x2)]) hx hb dX3_fullestField_26 rfl hl (Nat.le_of_ble_eq_true rfl) rfl (fun ls hl => ?_)
          exact B27 (fX3_fullestField_b4 f_t_lying n) ih x2 x2 _ _ _ hf hw (lv_sub hl [1, 0, 2] rfl)
  refine lv_iconst (v := 0) hx hb dX3_fullestField_0 k_i0 ?_
  refine lv_istore_n (lv' := [(1, .int 0), (0, .ref o_t)]) hx hb dX3_fullestField_1 rfl hl (Nat.le_of_ble_eq_true rfl) rfl (fun ls hl => ?_)
  refine lv_iconst (v := 1) hx hb dX3_fullestField_2 k_i1 ?_
  refine lv_istore_n (lv' := [(2, .int 1), (1, .int 0), (0, .ref o_t)]) hx hb dX3_fullestField_3 rfl hl (Nat.le_of_ble_eq_true rfl) rfl (fun ls hl => ?_)
  exact B4 1000 0 1 _ _ _ hf hw (lv_sub hl [2, 1, 0] rfl)
theorem hX9_copyFrom : yX9_copyFrom.cls = RX9 ∧ yX9_copyFrom.cls ≠ "java/lang/invoke/MethodHandle" ∧ yX9_copyFrom.cls ≠ "java/lang/invoke/VarHandle" ∧ (parseMethodDescriptor yX9_copyFrom.desc).map (fun d => d.parameters.length) = some 1 := by decide +kernel
set_option maxHeartbeats 4000000 in
set_option maxRecDepth 100000 in
theorem mX9_copyFrom (l : Launch) (E : gE) (o_p0 : Nat) (a_p0 : (Nat → Nat)) (o_t : Nat) (a_t : (Nat → Nat)) (v_p0_count : Int32) (v_t_count : Int32) (f_p0_breaths : (Nat → Int32)) (f_p0_flews : (Nat → Int32)) (f_t_breaths : (Nat → Int32)) (f_t_flews : (Nat → Int32)) (z_t_count : Int32) (z_t_breaths : (Nat → Int32)) (z_t_flews : (Nat → Int32)) (hf : fX9_copyFrom v_p0_count v_t_count f_p0_breaths f_p0_flews f_t_breaths f_t_flews = some (z_t_count, z_t_breaths, z_t_flews)) {sz : Nat} : gMv l yX9_copyFrom (gW yX9_copyFrom cX9_copyFrom 2 none) ({ frames := 1, cells := 0, slots := 0, locals := 18 } : Room) E [.ref o_t, .ref o_p0] (wX9_copyFrom E o_p0 a_p0 o_t a_t v_p0_count v_t_count f_p0_breaths f_p0_flews f_t_breaths f_t_flews) sz (wX9_copyFrom E o_p0 a_p0 o_t a_t v_p0_count z_t_count f_p0_breaths f_p0_flews z_t_breaths z_t_flews) := by
  refine g_openV (own := RX9) (by decide) rfl (Nat.le_of_ble_eq_true rfl) (fun p e s m args below meth cd Q A hx hb hml hown hG hK hA hret hw ls hl => ?_)
  have hl : lv_has ls 2 [(0, .ref o_t), (1, .ref o_p0)] := hl
  have hret1 : ∀ (v_t_count : Int32) (f_t_breaths : (Nat → Int32)) (f_t_flews : (Nat → Int32)) (H : Heap) (locs : List Loc) (pc : Nat) (ls : Array Slot), some (v_t_count, f_t_breaths, f_t_flews) = some (z_t_count, z_t_breaths, z_t_flews) → gS E A s.heap (wX9_copyFrom E o_p0 a_p0 o_t a_t v_p0_count v_t_count f_p0_breaths f_p0_flews f_t_breaths f_t_flews) H locs → decode cX9_copyFrom pc = .ok (.return_, 1) → W p l e ({ frames := 1, cells := 0, slots := 0, locals := 18 } : Room) s m args below meth cd H locs 0 0 Q (F0 m pc ls []) := by
    intro v_t_count f_t_breaths f_t_flews H locs pc ls h hw hd
    cases h
    exact hret H locs pc ls hw hd
  refine lv_aload_n hx hb dX9_copyFrom_0 rfl (lv_at hl 1 rfl) ?_
  refine g_get hx hb hG hown hK hw inlX9 (ci := 7) rfl 0 0 (Nat.le_of_ble_eq_true rfl) rfl rfl wd_3_20 dX9_copyFrom_1 ?_
  refine lv_iconst (v := 0) hx hb dX9_copyFrom_4 k_i0 ?_
  refine lv_aload_n hx hb dX9_copyFrom_5 rfl (lv_at hl 0 rfl) ?_
  refine g_get hx hb hG hown hK hw inlX9 (ci := 7) rfl 3 0 (Nat.le_of_ble_eq_true rfl) rfl rfl wd_3_20 dX9_copyFrom_6 ?_
  refine lv_iconst (v := 0) hx hb dX9_copyFrom_9 k_i0 ?_
  refine lv_bipush (v := 8) hx hb dX9_copyFrom_10 k_b8 ?_
  refine g_acpy (N := 8) (ws' := (wX9_copyFrom E o_p0 a_p0 o_t a_t v_p0_count v_t_count f_p0_breaths f_p0_flews f_p0_breaths f_t_flews)) hx hb (hml.trans hl.1.symm) hG hown wd_37_8 wd_15_20 wd_15_21 wd_15_22 hK hw 1 4 rfl rfl (by decide) (by decide) rfl ⟨Nat.le_of_ble_eq_true rfl, Nat.le_of_ble_eq_true rfl⟩ rfl dX9_copyFrom_12 (fun H locs hw => ?_)
  refine lv_aload_n hx hb dX9_copyFrom_15 rfl (lv_at hl 1 rfl) ?_
  refine g_get hx hb hG hown hK hw inlX9 (ci := 7) rfl 0 1 (Nat.le_of_ble_eq_true rfl) rfl rfl wd_3_21 dX9_copyFrom_16 ?_
  refine lv_iconst (v := 0) hx hb dX9_copyFrom_19 k_i0 ?_
  refine lv_aload_n hx hb dX9_copyFrom_20 rfl (lv_at hl 0 rfl) ?_
  refine g_get hx hb hG hown hK hw inlX9 (ci := 7) rfl 3 1 (Nat.le_of_ble_eq_true rfl) rfl rfl wd_3_21 dX9_copyFrom_21 ?_
  refine lv_iconst (v := 0) hx hb dX9_copyFrom_24 k_i0 ?_
  refine lv_bipush (v := 8) hx hb dX9_copyFrom_25 k_b8 ?_
  refine g_acpy (N := 8) (ws' := (wX9_copyFrom E o_p0 a_p0 o_t a_t v_p0_count v_t_count f_p0_breaths f_p0_flews f_p0_breaths f_p0_flews)) hx hb (hml.trans hl.1.symm) hG hown wd_37_8 wd_15_20 wd_15_21 wd_15_22 hK hw 2 5 rfl rfl (by decide) (by decide) rfl ⟨Nat.le_of_ble_eq_true rfl, Nat.le_of_ble_eq_true rfl⟩ rfl dX9_copyFrom_27 (fun H locs hw => ?_)
  refine lv_aload_n hx hb dX9_copyFrom_30 rfl (lv_at hl 0 rfl) ?_
  refine lv_aload_n hx hb dX9_copyFrom_31 rfl (lv_at hl 1 rfl) ?_
  refine g_get hx hb hG hown hK hw inlX9 (ci := 7) rfl 0 2 (Nat.le_of_ble_eq_true rfl) rfl rfl wd_3_22 dX9_copyFrom_32 ?_
  refine g_put (ws' := (wX9_copyFrom E o_p0 a_p0 o_t a_t v_p0_count v_p0_count f_p0_breaths f_p0_flews f_p0_breaths f_p0_flews)) hx hb hG hown hK hw inlX9 tyX9_ok nmX9 (ci := 7) rfl 3 2 (Nat.le_of_ble_eq_true rfl) rfl wd_3_22 rfl rfl rfl (Nat.le_of_ble_eq_true rfl) rfl dX9_copyFrom_35 (fun H locs hw => ?_)
  exact hret1 v_p0_count f_p0_breaths f_p0_flews _ _ _ _ hf hw dX9_copyFrom_38
theorem hX4_copyFrom : yX4_copyFrom.cls = RX4 ∧ yX4_copyFrom.cls ≠ "java/lang/invoke/MethodHandle" ∧ yX4_copyFrom.cls ≠ "java/lang/invoke/VarHandle" ∧ (parseMethodDescriptor yX4_copyFrom.desc).map (fun d => d.parameters.length) = some 1 := by decide +kernel
set_option maxHeartbeats 4000000 in
set_option maxRecDepth 100000 in
theorem mX4_copyFrom (l : Launch) (E : gE) (o_p0 : Nat) (o_p0_meadow : Nat) (a_p0_meadow : (Nat → Nat)) (o_p0_sights : Nat) (a_p0_sights : (Nat → Nat)) (o_t : Nat) (o_t_meadow : Nat) (a_t_meadow : (Nat → Nat)) (o_t_sights : Nat) (a_t_sights : (Nat → Nat)) (v_p0_meadow_families : Int32) (v_p0_meadow_wind : Int32) (v_p0_meadow_force : Int32) (v_p0_meadow_rain : Int32) (v_p0_meadow_lost : Int32) (v_p0_meadow_hour : Int32) (v_p0_sights_count : Int32) (v_t_meadow_families : Int32) (v_t_meadow_wind : Int32) (v_t_meadow_force : Int32) (v_t_meadow_rain : Int32) (v_t_meadow_lost : Int32) (v_t_meadow_hour : Int32) (v_t_sights_count : Int32) (f_p0_meadow_home : (Nat → Int32)) (f_p0_meadow_seeds : (Nat → Int32)) (f_p0_meadow_lungs : (Nat → Int32)) (f_p0_meadow_blown : (Nat → Int32)) (f_p0_meadow_ground : (Nat → Int32)) (f_p0_sights_breaths : (Nat → Int32)) (f_p0_sights_flews : (Nat → Int32)) (f_t_meadow_home : (Nat → Int32)) (f_t_meadow_seeds : (Nat → Int32)) (f_t_meadow_lungs : (Nat → Int32)) (f_t_meadow_blown : (Nat → Int32)) (f_t_meadow_ground : (Nat → Int32)) (f_t_sights_breaths : (Nat → Int32)) (f_t_sights_flews : (Nat → Int32)) (z_t_meadow_families : Int32) (z_t_meadow_wind : Int32) (z_t_meadow_force : Int32) (z_t_meadow_rain : Int32) (z_t_meadow_lost : Int32) (z_t_meadow_hour : Int32) (z_t_sights_count : Int32) (z_t_meadow_home : (Nat → Int32)) (z_t_meadow_seeds : (Nat → Int32)) (z_t_meadow_lungs : (Nat → Int32)) (z_t_meadow_blown : (Nat → Int32)) (z_t_meadow_ground : (Nat → Int32)) (z_t_sights_breaths : (Nat → Int32)) (z_t_sights_flews : (Nat → Int32)) (hf : fX4_copyFrom v_p0_meadow_families v_p0_meadow_wind v_p0_meadow_force v_p0_meadow_rain v_p0_meadow_lost v_p0_meadow_hour v_p0_sights_count v_t_meadow_families v_t_meadow_wind v_t_meadow_force v_t_meadow_rain v_t_meadow_lost v_t_meadow_hour v_t_sights_count f_p0_meadow_home f_p0_meadow_seeds f_p0_meadow_lungs f_p0_meadow_blown f_p0_meadow_ground f_p0_sights_breaths f_p0_sights_flews f_t_meadow_home f_t_meadow_seeds f_t_meadow_lungs f_t_meadow_blown f_t_meadow_ground f_t_sights_breaths f_t_sights_flews = some (z_t_meadow_families, z_t_meadow_wind, z_t_meadow_force, z_t_meadow_rain, z_t_meadow_lost, z_t_meadow_hour, z_t_sights_count, z_t_meadow_home, z_t_meadow_seeds, z_t_meadow_lungs, z_t_meadow_blown, z_t_meadow_ground, z_t_sights_breaths, z_t_sights_flews)) {sz : Nat} : gMv l yX4_copyFrom (gW yX4_copyFrom cX4_copyFrom 2 none) ({ frames := 2, cells := 0, slots := 0, locals := 39 } : Room) E [.ref o_t, .ref o_p0] (wX4_copyFrom E o_p0 o_p0_meadow a_p0_meadow o_p0_sights a_p0_sights o_t o_t_meadow a_t_meadow o_t_sights a_t_sights v_p0_meadow_families v_p0_meadow_wind v_p0_meadow_force v_p0_meadow_rain v_p0_meadow_lost v_p0_meadow_hour v_p0_sights_count v_t_meadow_families v_t_meadow_wind v_t_meadow_force v_t_meadow_rain v_t_meadow_lost v_t_meadow_hour v_t_sights_count f_p0_meadow_home f_p0_meadow_seeds f_p0_meadow_lungs f_p0_meadow_blown f_p0_meadow_ground f_p0_sights_breaths f_p0_sights_flews f_t_meadow_home f_t_meadow_seeds f_t_meadow_lungs f_t_meadow_blown f_t_meadow_ground f_t_sights_breaths f_t_sights_flews) sz (wX4_copyFrom E o_p0 o_p0_meadow a_p0_meadow o_p0_sights a_p0_sights o_t o_t_meadow a_t_meadow o_t_sights a_t_sights v_p0_meadow_families v_p0_meadow_wind v_p0_meadow_force v_p0_meadow_rain v_p0_meadow_lost v_p0_meadow_hour v_p0_sights_count z_t_meadow_families z_t_meadow_wind z_t_meadow_force z_t_meadow_rain z_t_meadow_lost z_t_meadow_hour z_t_sights_count f_p0_meadow_home f_p0_meadow_seeds f_p0_meadow_lungs f_p0_meadow_blown f_p0_meadow_ground f_p0_sights_breaths f_p0_sights_flews z_t_meadow_home z_t_meadow_seeds z_t_meadow_lungs z_t_meadow_blown z_t_meadow_ground z_t_sights_breaths z_t_sights_flews) := by
  refine g_openV (own := RX4) (by decide) rfl (Nat.le_of_ble_eq_true rfl) (fun p e s m args below meth cd Q A hx hb hml hown hG hK hA hret hw ls hl => ?_)
  have hl : lv_has ls 2 [(0, .ref o_t), (1, .ref o_p0)] := hl
  have hret1 : ∀ (v_t_meadow_families : Int32) (v_t_meadow_wind : Int32) (v_t_meadow_force : Int32) (v_t_meadow_rain : Int32) (v_t_meadow_lost : Int32) (v_t_meadow_hour : Int32) (v_t_sights_count : Int32) (f_t_meadow_home : (Nat → Int32)) (f_t_meadow_seeds : (Nat → Int32)) (f_t_meadow_lungs : (Nat → Int32)) (f_t_meadow_blown : (Nat → Int32)) (f_t_meadow_ground : (Nat → Int32)) (f_t_sights_breaths : (Nat → Int32)) (f_t_sights_flews : (Nat → Int32)) (H : Heap) (locs : List Loc) (pc : Nat) (ls : Array Slot), some (v_t_meadow_families, v_t_meadow_wind, v_t_meadow_force, v_t_meadow_rain, v_t_meadow_lost, v_t_meadow_hour, v_t_sights_count, f_t_meadow_home, f_t_meadow_seeds, f_t_meadow_lungs, f_t_meadow_blown, f_t_meadow_ground, f_t_sights_breaths, f_t_sights_flews) = some (z_t_meadow_families, z_t_meadow_wind, z_t_meadow_force, z_t_meadow_rain, z_t_meadow_lost, z_t_meadow_hour, z_t_sights_count, z_t_meadow_home, z_t_meadow_seeds, z_t_meadow_lungs, z_t_meadow_blown, z_t_meadow_ground, z_t_sights_breaths, z_t_sights_flews) → gS E A s.heap (wX4_copyFrom E o_p0 o_p0_meadow a_p0_meadow o_p0_sights a_p0_sights o_t o_t_meadow a_t_meadow o_t_sights a_t_sights v_p0_meadow_families v_p0_meadow_wind v_p0_meadow_force v_p0_meadow_rain v_p0_meadow_lost v_p0_meadow_hour v_p0_sights_count v_t_meadow_families v_t_meadow_wind v_t_meadow_force v_t_meadow_rain v_t_meadow_lost v_t_meadow_hour v_t_sights_count f_p0_meadow_home f_p0_meadow_seeds f_p0_meadow_lungs f_p0_meadow_blown f_p0_meadow_ground f_p0_sights_breaths f_p0_sights_flews f_t_meadow_home f_t_meadow_seeds f_t_meadow_lungs f_t_meadow_blown f_t_meadow_ground f_t_sights_breaths f_t_sights_flews) H locs → decode cX4_copyFrom pc = .ok (.return_, 1) → W p l e ({ frames := 2, cells := 0, slots := 0, locals := 39 } : Room) s m args below meth cd H locs 0 0 Q (F0 m pc ls []) := by
    intro v_t_meadow_families v_t_meadow_wind v_t_meadow_force v_t_meadow_rain v_t_meadow_lost v_t_meadow_hour v_t_sights_count f_t_meadow_home f_t_meadow_seeds f_t_meadow_lungs f_t_meadow_blown f_t_meadow_ground f_t_sights_breaths f_t_sights_flews H locs pc ls h hw hd
    cases h
    exact hret H locs pc ls hw hd
  refine lv_aload_n hx hb dX4_copyFrom_0 rfl (lv_at hl 0 rfl) ?_
  refine g_get hx hb hG hown hK hw inlX4 (ci := 3) rfl 10 0 (Nat.le_of_ble_eq_true rfl) rfl rfl wd_2_21 dX4_copyFrom_1 ?_
  refine lv_aload_n hx hb dX4_copyFrom_4 rfl (lv_at hl 1 rfl) ?_
  refine g_get hx hb hG hown hK hw inlX4 (ci := 3) rfl 0 0 (Nat.le_of_ble_eq_true rfl) rfl rfl wd_2_21 dX4_copyFrom_5 ?_
  obtain ⟨r1, hc2, hf⟩ := gB_s hf
  refine g_kv (is := [1, 2, 3, 4, 5, 6, 11, 12, 13, 14, 15, 16]) (w1 := (wX6_copyFrom E o_p0_meadow a_p0_meadow o_t_meadow a_t_meadow v_p0_meadow_families v_p0_meadow_wind v_p0_meadow_force v_p0_meadow_rain v_p0_meadow_lost v_p0_meadow_hour r1.1 r1.2.1 r1.2.2.1 r1.2.2.2.1 r1.2.2.2.2.1 r1.2.2.2.2.2.1 f_p0_meadow_home f_p0_meadow_seeds f_p0_meadow_lungs f_p0_meadow_blown f_p0_meadow_ground r1.2.2.2.2.2.2.1 r1.2.2.2.2.2.2.2.1 r1.2.2.2.2.2.2.2.2.1 r1.2.2.2.2.2.2.2.2.2.1 r1.2.2.2.2.2.2.2.2.2.2)) (ws' := (wX4_copyFrom E o_p0 o_p0_meadow a_p0_meadow o_p0_sights a_p0_sights o_t o_t_meadow a_t_meadow o_t_sights a_t_sights v_p0_meadow_families v_p0_meadow_wind v_p0_meadow_force v_p0_meadow_rain v_p0_meadow_lost v_p0_meadow_hour v_p0_sights_count r1.1 r1.2.1 r1.2.2.1 r1.2.2.2.1 r1.2.2.2.2.1 r1.2.2.2.2.2.1 v_t_sights_count f_p0_meadow_home f_p0_meadow_seeds f_p0_meadow_lungs f_p0_meadow_blown f_p0_meadow_ground f_p0_sights_breaths f_p0_sights_flews r1.2.2.2.2.2.2.1 r1.2.2.2.2.2.2.2.1 r1.2.2.2.2.2.2.2.2.1 r1.2.2.2.2.2.2.2.2.2.1 r1.2.2.2.2.2.2.2.2.2.2 f_t_sights_breaths f_t_sights_flews)) hw hA (g_rV hx hb hml hG hown hK hw (is := [1, 2, 3, 4, 5, 6, 11, 12, 13, 14, 15, 16]) rfl (by decide) (mX6_copyFrom l E o_p0_meadow a_p0_meadow o_t_meadow a_t_meadow v_p0_meadow_families v_p0_meadow_wind v_p0_meadow_force v_p0_meadow_rain v_p0_meadow_lost v_p0_meadow_hour v_t_meadow_families v_t_meadow_wind v_t_meadow_force v_t_meadow_rain v_t_meadow_lost v_t_meadow_hour f_p0_meadow_home f_p0_meadow_seeds f_p0_meadow_lungs f_p0_meadow_blown f_p0_meadow_ground f_t_meadow_home f_t_meadow_seeds f_t_meadow_lungs f_t_meadow_blown f_t_meadow_ground r1.1 r1.2.1 r1.2.2.1 r1.2.2.2.1 r1.2.2.2.2.1 r1.2.2.2.2.2.1 r1.2.2.2.2.2.2.1 r1.2.2.2.2.2.2.2.1 r1.2.2.2.2.2.2.2.2.1 r1.2.2.2.2.2.2.2.2.2.1 r1.2.2.2.2.2.2.2.2.2.2 hc2) wd_37_3 wd_15_16 wd_15_17 wd_2_20 wd_15_18 hX6_copyFrom g_allgood ⟨rfl, rfl⟩ ⟨Nat.le_of_ble_eq_true rfl, Nat.le_of_ble_eq_true rfl⟩ ⟨Nat.zero_le _, Nat.zero_le _⟩ (ci := 5) (q0 := 6) rfl rfl rfl rfl hl.1 rfl (Nat.le_of_ble_eq_true rfl) dX4_copyFrom_8) rfl rfl rfl (fun H locs hw => ?_)
  refine lv_aload_n hx hb dX4_copyFrom_11 rfl (lv_at hl 0 rfl) ?_
  refine g_get hx hb hG hown hK hw inlX4 (ci := 3) rfl 10 1 (Nat.le_of_ble_eq_true rfl) rfl rfl wd_3_1 dX4_copyFrom_12 ?_
  refine lv_aload_n hx hb dX4_copyFrom_15 rfl (lv_at hl 1 rfl) ?_
  refine g_get hx hb hG hown hK hw inlX4 (ci := 3) rfl 0 1 (Nat.le_of_ble_eq_true rfl) rfl rfl wd_3_1 dX4_copyFrom_16 ?_
  obtain ⟨r3, hc4, hf⟩ := gB_s hf
  refine g_kv (is := [7, 8, 9, 17, 18, 19]) (w1 := (wX9_copyFrom E o_p0_sights a_p0_sights o_t_sights a_t_sights v_p0_sights_count r3.1 f_p0_sights_breaths f_p0_sights_flews r3.2.1 r3.2.2)) (ws' := (wX4_copyFrom E o_p0 o_p0_meadow a_p0_meadow o_p0_sights a_p0_sights o_t o_t_meadow a_t_meadow o_t_sights a_t_sights v_p0_meadow_families v_p0_meadow_wind v_p0_meadow_force v_p0_meadow_rain v_p0_meadow_lost v_p0_meadow_hour v_p0_sights_count r1.1 r1.2.1 r1.2.2.1 r1.2.2.2.1 r1.2.2.2.2.1 r1.2.2.2.2.2.1 r3.1 f_p0_meadow_home f_p0_meadow_seeds f_p0_meadow_lungs f_p0_meadow_blown f_p0_meadow_ground f_p0_sights_breaths f_p0_sights_flews r1.2.2.2.2.2.2.1 r1.2.2.2.2.2.2.2.1 r1.2.2.2.2.2.2.2.2.1 r1.2.2.2.2.2.2.2.2.2.1 r1.2.2.2.2.2.2.2.2.2.2 r3.2.1 r3.2.2)) hw hA (g_rV hx hb hml hG hown hK hw (is := [7, 8, 9, 17, 18, 19]) rfl (by decide) (mX9_copyFrom l E o_p0_sights a_p0_sights o_t_sights a_t_sights v_p0_sights_count v_t_sights_count f_p0_sights_breaths f_p0_sights_flews f_t_sights_breaths f_t_sights_flews r3.1 r3.2.1 r3.2.2 hc4) wd_37_4 wd_37_5 wd_37_6 wd_3_0 wd_37_7 hX9_copyFrom g_allgood ⟨rfl, rfl⟩ ⟨Nat.le_of_ble_eq_true rfl, Nat.le_of_ble_eq_true rfl⟩ ⟨Nat.zero_le _, Nat.zero_le _⟩ (ci := 7) (q0 := 3) rfl rfl rfl rfl hl.1 rfl (Nat.le_of_ble_eq_true rfl) dX4_copyFrom_19) rfl rfl rfl (fun H locs hw => ?_)
  exact hret1 r1.1 r1.2.1 r1.2.2.1 r1.2.2.2.1 r1.2.2.2.2.1 r1.2.2.2.2.2.1 r3.1 r1.2.2.2.2.2.2.1 r1.2.2.2.2.2.2.2.1 r1.2.2.2.2.2.2.2.2.1 r1.2.2.2.2.2.2.2.2.2.1 r1.2.2.2.2.2.2.2.2.2.2 r3.2.1 r3.2.2 _ _ _ _ hf hw dX4_copyFrom_22
theorem hX7_faultPlace : yX7_faultPlace.cls = RX7 ∧ yX7_faultPlace.cls ≠ "java/lang/invoke/MethodHandle" ∧ yX7_faultPlace.cls ≠ "java/lang/invoke/VarHandle" ∧ (parseMethodDescriptor yX7_faultPlace.desc).map (fun d => d.parameters.length) = some 0 := by decide +kernel
set_option maxHeartbeats 4000000 in
set_option maxRecDepth 100000 in
theorem mX7_faultPlace (l : Launch) (E : gE) (o_t : Nat) (a_t : (Nat → Nat)) (v_t_signs : Int32) (v_t_acts : Int32) (v_t_reading : Int32) (v_t_begun : Int32) (v_t_brokenAt : Int32) (rv : Int32) (hf : fX7_faultPlace v_t_signs v_t_reading v_t_brokenAt = some rv) {sz : Nat} : gMi l yX7_faultPlace (gW yX7_faultPlace cX7_faultPlace 1 (some .int)) ({ frames := 0, cells := 0, slots := 0, locals := 0 } : Room) E [.ref o_t] (wX7_faultPlace E o_t a_t v_t_signs v_t_acts v_t_reading v_t_begun v_t_brokenAt) sz rv (wX7_faultPlace E o_t a_t v_t_signs v_t_acts v_t_reading v_t_begun v_t_brokenAt) := by
  refine g_openI (own := RX7) (by decide) rfl (Nat.le_of_ble_eq_true rfl) (fun p e s m args below meth cd Q A hx hb hml hown hG hK hA hret hw ls hl => ?_)
  have hl : lv_has ls 1 [(0, .ref o_t)] := hl
  have hret1 : ∀ (v : Int32)  (H : Heap) (locs : List Loc) (pc : Nat) (ls : Array Slot), some v = some rv → gS E A s.heap (wX7_faultPlace E o_t a_t v_t_signs v_t_acts v_t_reading v_t_begun v_t_brokenAt) H locs → decode cX7_faultPlace pc = .ok (.ireturn, 1) → W p l e ({ frames := 0, cells := 0, slots := 0, locals := 0 } : Room) s m args below meth cd H locs 0 0 Q (F0 m pc ls [.int v]) := by
    intro v  H locs pc ls h hw hd
    cases h
    exact hret H locs pc ls hw hd
  have B29 : ∀ (s0 : Int32) (H : Heap) (locs : List Loc) (ls : Array Slot), fX7_faultPlace_b29 s0 = some rv → gS E A s.heap (wX7_faultPlace E o_t a_t v_t_signs v_t_acts v_t_reading v_t_begun v_t_brokenAt) H locs → lv_has ls 1 [] → W p l e ({ frames := 0, cells := 0, slots := 0, locals := 0 } : Room) s m args below meth cd H locs 0 0 Q (F0 m 29 ls [.int s0]) := by
    intro  s0 H locs ls hf hw hl
    exact hret1 s0 _ _ _ _ hf hw dX7_faultPlace_29
  refine lv_aload_n hx hb dX7_faultPlace_0 rfl (lv_at hl 0 rfl) ?_
  refine g_get hx hb hG hown hK hw inlX7 (ci := 6) rfl 0 5 (Nat.le_of_ble_eq_true rfl) rfl rfl wd_4_7 dX7_faultPlace_1 ?_
  refine lv_iconst (v := 4) hx hb dX7_faultPlace_4 k_i4 ?_
  refine lv_icmp_ne (tgt := 13) hx hb dX7_faultPlace_5 (by decide) (fun hc => ?_) (fun hc => ?_)
  · have hf := g_f hc hf
    refine lv_aload_n hx hb dX7_faultPlace_13 rfl (lv_at hl 0 rfl) ?_
    refine g_get hx hb hG hown hK hw inlX7 (ci := 6) rfl 0 5 (Nat.le_of_ble_eq_true rfl) rfl rfl wd_4_7 dX7_faultPlace_14 ?_
    refine lv_if_ne (tgt := 25) hx hb dX7_faultPlace_17 (by decide) (fun hc => ?_) (fun hc => ?_)
    · have hf := g_f hc hf
      refine lv_aload_n hx hb dX7_faultPlace_25 rfl (lv_at hl 0 rfl) ?_
      refine g_get hx hb hG hown hK hw inlX7 (ci := 6) rfl 0 3 (Nat.le_of_ble_eq_true rfl) rfl rfl wd_4_5 dX7_faultPlace_26 ?_
      exact B29 v_t_signs _ _ _ hf hw (lv_sub hl [] rfl)
    · have hf := g_t hc hf
      refine lv_bipush (v := -6) hx hb dX7_faultPlace_20 k_bm6 ?_
      refine lv_goto (tgt := 29) hx hb dX7_faultPlace_22 (by decide) ?_
      exact B29 (-6) _ _ _ hf hw (lv_sub hl [] rfl)
  · have hf := g_t hc hf
    refine lv_aload_n hx hb dX7_faultPlace_8 rfl (lv_at hl 0 rfl) ?_
    refine g_get hx hb hG hown hK hw inlX7 (ci := 6) rfl 0 7 (Nat.le_of_ble_eq_true rfl) rfl rfl wd_4_9 dX7_faultPlace_9 ?_
    exact hret1 v_t_brokenAt _ _ _ _ hf hw dX7_faultPlace_12
theorem hX6_owners : yX6_owners.cls = RX6 ∧ yX6_owners.cls ≠ "java/lang/invoke/MethodHandle" ∧ yX6_owners.cls ≠ "java/lang/invoke/VarHandle" ∧ (parseMethodDescriptor yX6_owners.desc).map (fun d => d.parameters.length) = some 0 := by decide +kernel
set_option maxHeartbeats 4000000 in
set_option maxRecDepth 100000 in
theorem mX6_owners (l : Launch) (E : gE) (o_t : Nat) (a_t : (Nat → Nat)) (v_t_families : Int32) (v_t_wind : Int32) (v_t_force : Int32) (v_t_rain : Int32) (v_t_lost : Int32) (v_t_hour : Int32) (f_t_seeds : (Nat → Int32)) (rv : Int32) (hf : fX6_owners v_t_families f_t_seeds = some rv) {sz : Nat} : gMi l yX6_owners (gW yX6_owners cX6_owners 3 (some .int)) ({ frames := 1, cells := 0, slots := 0, locals := 21 } : Room) E [.ref o_t] (wX6_owners E o_t a_t v_t_families v_t_wind v_t_force v_t_rain v_t_lost v_t_hour f_t_seeds) sz rv (wX6_owners E o_t a_t v_t_families v_t_wind v_t_force v_t_rain v_t_lost v_t_hour f_t_seeds) := by
  refine g_openI (own := RX6) (by decide) rfl (Nat.le_of_ble_eq_true rfl) (fun p e s m args below meth cd Q A hx hb hml hown hG hK hA hret hw ls hl => ?_)
  have hl : lv_has ls 3 [(0, .ref o_t)] := hl
  have hret1 : ∀ (v : Int32)  (H : Heap) (locs : List Loc) (pc : Nat) (ls : Array Slot), some v = some rv → gS E A s.heap (wX6_owners E o_t a_t v_t_families v_t_wind v_t_force v_t_rain v_t_lost v_t_hour f_t_seeds) H locs → decode cX6_owners pc = .ok (.ireturn, 1) → W p l e ({ frames := 1, cells := 0, slots := 0, locals := 21 } : Room) s m args below meth cd H locs 0 0 Q (F0 m pc ls [.int v]) := by
    intro v  H locs pc ls h hw hd
    cases h
    exact hret H locs pc ls hw hd
  have B33 : ∀ (K4 : Int32 → Int32 → Option (Int32)) (hK4 : ∀ (x1 : Int32) (x2 : Int32) (H : Heap) (locs : List Loc) (ls : Array Slot), K4 x1 x2 = some rv → gS E A s.heap (wX6_owners E o_t a_t v_t_families v_t_wind v_t_force v_t_rain v_t_lost v_t_hour f_t_seeds) H locs → lv_has ls 3 [(0, .ref o_t), (1, .int x1), (2, .int x2)] → W p l e ({ frames := 1, cells := 0, slots := 0, locals := 21 } : Room) s m args below meth cd H locs 0 0 Q (F0 m 4 ls [])), ∀ (x1 : Int32) (x2 : Int32) (H : Heap) (locs : List Loc) (ls : Array Slot), fX6_owners_b33 K4 v_t_families f_t_seeds x1 x2 = some rv → gS E A s.heap (wX6_owners E o_t a_t v_t_families v_t_wind v_t_force v_t_rain v_t_lost v_t_hour f_t_seeds) H locs → lv_has ls 3 [(0, .ref o_t), (1, .int x1), (2, .int x2)] → W p l e ({ frames := 1, cells := 0, slots := 0, locals := 21 } : Room) s m args below meth cd H locs 0 0 Q (F0 m 33 ls []) := by
    intro K4 hK4 x1 x2 H locs ls hf hw hl
    refine lv_iinc (lv' := [(2, .int (x2 + 1)), (0, .ref o_t), (1, .int x1)]) hx hb dX6_owners_33 hl (k := 2) rfl (k_inc1 _) (Nat.le_of_ble_eq_true rfl) rfl (fun ls hl => ?_)
    refine lv_goto (tgt := 4) hx hb dX6_owners_36 (by decide) ?_
    exact hK4 x1 (x2 + 1) _ _ _ hf hw (lv_sub hl [1, 2, 0] rfl)
  have B4 : ∀ n : Nat, ∀ (x1 : Int32) (x2 : Int32) (H : Heap) (locs : List Loc) (ls : Array Slot), fX6_owners_b4 v_t_families f_t_seeds n x1 x2 = some rv → gS E A s.heap (wX6_owners E o_t a_t v_t_families v_t_wind v_t_force v_t_rain v_t_lost v_t_hour f_t_seeds) H locs → lv_has ls 3 [(0, .ref o_t), (1, .int x1), (2, .int x2)] → W p l e ({ frames := 1, cells := 0, slots := 0, locals := 21 } : Room) s m args below meth cd H locs 0 0 Q (F0 m 4 ls []) := by
    intro n
    induction n with
    | zero => intro x1 x2 H locs ls hf hw hl; exact g_no hf
    | succ n ih =>
      intro x1 x2 H locs ls hf hw hl
      refine lv_iload_n hx hb dX6_owners_4 rfl (lv_at hl 2 rfl) ?_
      refine lv_bipush (v := 6) hx hb dX6_owners_5 k_b6 ?_
      refine lv_icmp_ge (tgt := 39) hx hb dX6_owners_7 (by decide) (fun hc => ?_) (fun hc => ?_)
      · have hf := g_t hc hf
        refine lv_iload_n hx hb dX6_owners_39 rfl (lv_at hl 1 rfl) ?_
        exact hret1 x1 _ _ _ _ hf hw dX6_owners_40
      · have hf := g_f hc hf
        refine lv_aload_n hx hb dX6_owners_10 rfl (lv_at hl 0 rfl) ?_
        refine lv_iload_n hx hb dX6_owners_11 rfl (lv_at hl 2 rfl) ?_
        obtain ⟨r1, hc2, hf⟩ := gB_s hf
        refine g_ki (is := [0]) (w1 := (wX6_isThere E o_t a_t v_t_families v_t_wind v_t_force v_t_rain v_t_lost v_t_hour)) (ws' := (wX6_owners E o_t a_t v_t_families v_t_wind v_t_force v_t_rain v_t_lost v_t_hour f_t_seeds)) hw hA (g_rV hx hb hml hG hown hK hw (is := [0]) rfl (by decide) (mX6_isThere l E o_t a_t v_t_families v_t_wind v_t_force v_t_rain v_t_lost v_t_hour x2 r1 hc2) wd_9_16 wd_9_9 wd_9_10 wd_2_20 wd_9_11 hX6_isThere g_allgood ⟨rfl, rfl⟩ ⟨Nat.le_of_ble_eq_true rfl, Nat.le_of_ble_eq_true rfl⟩ ⟨Nat.zero_le _, Nat.zero_le _⟩ (ci := 5) (q0 := 0) rfl rfl rfl rfl hl.1 rfl (Nat.le_of_ble_eq_true rfl) dX6_owners_12) rfl rfl rfl (fun H locs hw => ?_)
        refine lv_if_eq (tgt := 33) hx hb dX6_owners_15 (by decide) (fun hc => ?_) (fun hc => ?_)
        · have hf := g_t hc hf
          exact B33 (fX6_owners_b4 v_t_families f_t_seeds n) ih x1 x2 _ _ _ hf hw (lv_sub hl [0, 1, 2] rfl)
        · have hf := g_f hc hf
          refine lv_aload_n hx hb dX6_owners_18 rfl (lv_at hl 0 rfl) ?_
          refine g_get hx hb hG hown hK hw inlX6 (ci := 5) rfl 0 1 (Nat.le_of_ble_eq_true rfl) rfl rfl wd_3_7 dX6_owners_19 ?_
          refine lv_iload_n hx hb dX6_owners_22 rfl (lv_at hl 2 rfl) ?_
          obtain ⟨hi3, hf⟩ := gA_s hf
          refine g_iald hx hb hK hw 1 rfl hi3 dX6_owners_23 ?_
          refine lv_if_le (tgt := 33) hx hb dX6_owners_24 (by decide) (fun hc => ?_) (fun hc => ?_)
          · have hf := g_t hc hf
            exact B33 (fX6_owners_b4 v_t_families f_t_seeds n) ih x1 x2 _ _ _ hf hw (lv_sub hl [0, 1, 2] rfl)
          · have hf := g_f hc hf
            refine lv_iload_n hx hb dX6_owners_27 rfl (lv_at hl 1 rfl) ?_
            refine lv_iconst (v := 1) hx hb dX6_owners_28 k_i1 ?_
            refine lv_iload_n hx hb dX6_owners_29 rfl (lv_at hl 2 rfl) ?_
            refine lv_ishl hx hb dX6_owners_30 ?_
            refine lv_ior hx hb dX6_owners_31 ?_
            refine lv_istore_n (lv' := [(1, .int (x1 ||| (1 <<< (x2 &&& 31)))), (0, .ref o_t), (2, .int x2)]) hx hb dX6_owners_32 rfl hl (Nat.le_of_ble_eq_true rfl) rfl (fun ls hl => ?_)
            exact B33 (fX6_owners_b4 v_t_families f_t_seeds n) ih (x1 ||| (1 <<< (x2 &&& 31))) x2 _ _ _ hf hw (lv_sub hl [1, 0, 2] rfl)
  refine lv_iconst (v := 0) hx hb dX6_owners_0 k_i0 ?_
  refine lv_istore_n (lv' := [(1, .int 0), (0, .ref o_t)]) hx hb dX6_owners_1 rfl hl (Nat.le_of_ble_eq_true rfl) rfl (fun ls hl => ?_)
  refine lv_iconst (v := 0) hx hb dX6_owners_2 k_i0 ?_
  refine lv_istore_n (lv' := [(2, .int 0), (1, .int 0), (0, .ref o_t)]) hx hb dX6_owners_3 rfl hl (Nat.le_of_ble_eq_true rfl) rfl (fun ls hl => ?_)
  exact B4 1000 0 0 _ _ _ hf hw (lv_sub hl [2, 1, 0] rfl)
theorem hX5_noteRuin : yX5_noteRuin.cls = RX5 ∧ yX5_noteRuin.cls ≠ "java/lang/invoke/MethodHandle" ∧ yX5_noteRuin.cls ≠ "java/lang/invoke/VarHandle" ∧ (parseMethodDescriptor yX5_noteRuin.desc).map (fun d => d.parameters.length) = some 2 := by decide +kernel
set_option maxHeartbeats 4000000 in
set_option maxRecDepth 100000 in
theorem mX5_noteRuin (l : Launch) (E : gE) (o_t : Nat) (o_t_meadow : Nat) (v_t_barredAct : Int32) (v_t_barredWhy : Int32) (v_t_flown : Int32) (v_t_ruinAct : Int32) (v_t_ruinFamily : Int32) (x1 : Int32) (x2 : Int32) (z_t_ruinAct : Int32) (z_t_ruinFamily : Int32) (hf : fX5_noteRuin v_t_ruinAct v_t_ruinFamily x1 x2 = some (z_t_ruinAct, z_t_ruinFamily)) {sz : Nat} : gMv l yX5_noteRuin (gW yX5_noteRuin cX5_noteRuin 4 none) ({ frames := 0, cells := 0, slots := 0, locals := 0 } : Room) E [.ref o_t, .int x1, .int x2] (wX5_noteRuin E o_t o_t_meadow v_t_barredAct v_t_barredWhy v_t_flown v_t_ruinAct v_t_ruinFamily) sz (wX5_noteRuin E o_t o_t_meadow v_t_barredAct v_t_barredWhy v_t_flown z_t_ruinAct z_t_ruinFamily) := by
  refine g_openV (own := RX5) (by decide) rfl (Nat.le_of_ble_eq_true rfl) (fun p e s m args below meth cd Q A hx hb hml hown hG hK hA hret hw ls hl => ?_)
  have hl : lv_has ls 4 [(0, .ref o_t), (1, .int x1), (2, .int x2)] := hl
  have hret1 : ∀ (v_t_ruinAct : Int32) (v_t_ruinFamily : Int32) (H : Heap) (locs : List Loc) (pc : Nat) (ls : Array Slot), some (v_t_ruinAct, v_t_ruinFamily) = some (z_t_ruinAct, z_t_ruinFamily) → gS E A s.heap (wX5_noteRuin E o_t o_t_meadow v_t_barredAct v_t_barredWhy v_t_flown v_t_ruinAct v_t_ruinFamily) H locs → decode cX5_noteRuin pc = .ok (.return_, 1) → W p l e ({ frames := 0, cells := 0, slots := 0, locals := 0 } : Room) s m args below meth cd H locs 0 0 Q (F0 m pc ls []) := by
    intro v_t_ruinAct v_t_ruinFamily H locs pc ls h hw hd
    cases h
    exact hret H locs pc ls hw hd
  have B41 : ∀ (v_t_ruinAct : Int32) (v_t_ruinFamily : Int32) (H : Heap) (locs : List Loc) (ls : Array Slot), fX5_noteRuin_b41 v_t_ruinAct v_t_ruinFamily = some (z_t_ruinAct, z_t_ruinFamily) → gS E A s.heap (wX5_noteRuin E o_t o_t_meadow v_t_barredAct v_t_barredWhy v_t_flown v_t_ruinAct v_t_ruinFamily) H locs → lv_has ls 4 [] → W p l e ({ frames := 0, cells := 0, slots := 0, locals := 0 } : Room) s m args below meth cd H locs 0 0 Q (F0 m 41 ls []) := by
    intro  v_t_ruinAct v_t_ruinFamily H locs ls hf hw hl
    exact hret1 v_t_ruinAct v_t_ruinFamily _ _ _ _ hf hw dX5_noteRuin_41
  have B35 : ∀ (K2 : Int32 → Int32 → Int32 → Int32 → Int32 → Option (Int32 × Int32)) (hK2 : ∀ (v_t_ruinAct : Int32) (v_t_ruinFamily : Int32) (x1 : Int32) (x2 : Int32) (x3 : Int32) (H : Heap) (locs : List Loc) (ls : Array Slot), K2 v_t_ruinAct v_t_ruinFamily x1 x2 x3 = some (z_t_ruinAct, z_t_ruinFamily) → gS E A s.heap (wX5_noteRuin E o_t o_t_meadow v_t_barredAct v_t_barredWhy v_t_flown v_t_ruinAct v_t_ruinFamily) H locs → lv_has ls 4 [(0, .ref o_t), (1, .int x1), (2, .int x2), (3, .int x3)] → W p l e ({ frames := 0, cells := 0, slots := 0, locals := 0 } : Room) s m args below meth cd H locs 0 0 Q (F0 m 2 ls [])), ∀ (v_t_ruinAct : Int32) (v_t_ruinFamily : Int32) (x1 : Int32) (x2 : Int32) (x3 : Int32) (H : Heap) (locs : List Loc) (ls : Array Slot), fX5_noteRuin_b35 K2 v_t_ruinAct v_t_ruinFamily x1 x2 x3 = some (z_t_ruinAct, z_t_ruinFamily) → gS E A s.heap (wX5_noteRuin E o_t o_t_meadow v_t_barredAct v_t_barredWhy v_t_flown v_t_ruinAct v_t_ruinFamily) H locs → lv_has ls 4 [(0, .ref o_t), (1, .int x1), (2, .int x2), (3, .int x3)] → W p l e ({ frames := 0, cells := 0, slots := 0, locals := 0 } : Room) s m args below meth cd H locs 0 0 Q (F0 m 35 ls []) := by
    intro K2 hK2 v_t_ruinAct v_t_ruinFamily x1 x2 x3 H locs ls hf hw hl
    refine lv_iinc (lv' := [(3, .int (x3 + 1)), (0, .ref o_t), (1, .int x1), (2, .int x2)]) hx hb dX5_noteRuin_35 hl (k := 3) rfl (k_inc1 _) (Nat.le_of_ble_eq_true rfl) rfl (fun ls hl => ?_)
    refine lv_goto (tgt := 2) hx hb dX5_noteRuin_38 (by decide) ?_
    exact hK2 v_t_ruinAct v_t_ruinFamily x1 x2 (x3 + 1) _ _ _ hf hw (lv_sub hl [1, 2, 3, 0] rfl)
  have B2 : ∀ n : Nat, ∀ (v_t_ruinAct : Int32) (v_t_ruinFamily : Int32) (x1 : Int32) (x2 : Int32) (x3 : Int32) (H : Heap) (locs : List Loc) (ls : Array Slot), fX5_noteRuin_b2 n v_t_ruinAct v_t_ruinFamily x1 x2 x3 = some (z_t_ruinAct, z_t_ruinFamily) → gS E A s.heap (wX5_noteRuin E o_t o_t_meadow v_t_barredAct v_t_barredWhy v_t_flown v_t_ruinAct v_t_ruinFamily) H locs → lv_has ls 4 [(0, .ref o_t), (1, .int x1), (2, .int x2), (3, .int x3)] → W p l e ({ frames := 0, cells := 0, slots := 0, locals := 0 } : Room) s m args below meth cd H locs 0 0 Q (F0 m 2 ls []) := by
    intro n
    induction n with
    | zero => intro v_t_ruinAct v_t_ruinFamily x1 x2 x3 H locs ls hf hw hl; exact g_no hf
    | succ n ih =>
      intro v_t_ruinAct v_t_ruinFamily x1 x2 x3 H locs ls hf hw hl
      refine lv_iload_n hx hb dX5_noteRuin_2 rfl (lv_at hl 3 rfl) ?_
      refine lv_bipush (v := 6) hx hb dX5_noteRuin_3 k_b6 ?_
      refine lv_icmp_ge (tgt := 41) hx hb dX5_noteRuin_5 (by decide) (fun hc => ?_) (fun hc => ?_)
      · have hf := g_t hc hf
        exact B41 v_t_ruinAct v_t_ruinFamily _ _ _ hf hw (lv_sub hl [] rfl)
      · have hf := g_f hc hf
        refine lv_aload_n hx hb dX5_noteRuin_8 rfl (lv_at hl 0 rfl) ?_
        refine g_get hx hb hG hown hK hw inlX5 (ci := 4) rfl 0 4 (Nat.le_of_ble_eq_true rfl) rfl rfl wd_4_18 dX5_noteRuin_9 ?_
        refine lv_bipush (v := -6) hx hb dX5_noteRuin_12 k_bm6 ?_
        refine lv_icmp_ne (tgt := 41) hx hb dX5_noteRuin_14 (by decide) (fun hc => ?_) (fun hc => ?_)
        · have hf := g_f hc hf
          exact B41 v_t_ruinAct v_t_ruinFamily _ _ _ hf hw (lv_sub hl [] rfl)
        · have hf := g_t hc hf
          refine lv_iload_n hx hb dX5_noteRuin_17 rfl (lv_at hl 2 rfl) ?_
          refine lv_iconst (v := 1) hx hb dX5_noteRuin_18 k_i1 ?_
          refine lv_iload_n hx hb dX5_noteRuin_19 rfl (lv_at hl 3 rfl) ?_
          refine lv_ishl hx hb dX5_noteRuin_20 ?_
          refine lv_iand hx hb dX5_noteRuin_21 ?_
          refine lv_if_eq (tgt := 35) hx hb dX5_noteRuin_22 (by decide) (fun hc => ?_) (fun hc => ?_)
          · have hf := g_t hc hf
            exact B35 (fX5_noteRuin_b2 n) ih v_t_ruinAct v_t_ruinFamily x1 x2 x3 _ _ _ hf hw (lv_sub hl [0, 1, 2, 3] rfl)
          · have hf := g_f hc hf
            refine lv_aload_n hx hb dX5_noteRuin_25 rfl (lv_at hl 0 rfl) ?_
            refine lv_iload_n hx hb dX5_noteRuin_26 rfl (lv_at hl 1 rfl) ?_
            refine g_put (ws' := (wX5_noteRuin E o_t o_t_meadow v_t_barredAct v_t_barredWhy v_t_flown x1 v_t_ruinFamily)) hx hb hG hown hK hw inlX5 tyX5_ok nmX5 (ci := 4) rfl 0 4 (Nat.le_of_ble_eq_true rfl) rfl wd_4_18 rfl rfl rfl (Nat.le_of_ble_eq_true rfl) rfl dX5_noteRuin_27 (fun H locs hw => ?_)
            refine lv_aload_n hx hb dX5_noteRuin_30 rfl (lv_at hl 0 rfl) ?_
            refine lv_iload_n hx hb dX5_noteRuin_31 rfl (lv_at hl 3 rfl) ?_
            refine g_put (ws' := (wX5_noteRuin E o_t o_t_meadow v_t_barredAct v_t_barredWhy v_t_flown x1 x3)) hx hb hG hown hK hw inlX5 tyX5_ok nmX5 (ci := 4) rfl 0 5 (Nat.le_of_ble_eq_true rfl) rfl wd_4_19 rfl rfl rfl (Nat.le_of_ble_eq_true rfl) rfl dX5_noteRuin_32 (fun H locs hw => ?_)
            exact B35 (fX5_noteRuin_b2 n) ih x1 x3 x1 x2 x3 _ _ _ hf hw (lv_sub hl [0, 1, 2, 3] rfl)
  refine lv_iconst (v := 0) hx hb dX5_noteRuin_0 k_i0 ?_
  refine lv_istore_n (lv' := [(3, .int 0), (0, .ref o_t), (1, .int x1), (2, .int x2)]) hx hb dX5_noteRuin_1 rfl hl (Nat.le_of_ble_eq_true rfl) rfl (fun ls hl => ?_)
  exact B2 1000 v_t_ruinAct v_t_ruinFamily x1 x2 0 _ _ _ hf hw (lv_sub hl [1, 2, 3, 0] rfl)
theorem hX5_runAct : yX5_runAct.cls = RX5 ∧ yX5_runAct.cls ≠ "java/lang/invoke/MethodHandle" ∧ yX5_runAct.cls ≠ "java/lang/invoke/VarHandle" ∧ (parseMethodDescriptor yX5_runAct.desc).map (fun d => d.parameters.length) = some 4 := by decide +kernel
set_option maxHeartbeats 4000000 in
set_option maxRecDepth 100000 in
theorem mX5_runAct (l : Launch) (E : gE) (o_t : Nat) (o_t_meadow : Nat) (a_t_meadow : (Nat → Nat)) (v_t_barredAct : Int32) (v_t_barredWhy : Int32) (v_t_flown : Int32) (v_t_ruinAct : Int32) (v_t_ruinFamily : Int32) (v_t_meadow_families : Int32) (v_t_meadow_wind : Int32) (v_t_meadow_force : Int32) (v_t_meadow_rain : Int32) (v_t_meadow_lost : Int32) (v_t_meadow_hour : Int32) (f_t_meadow_home : (Nat → Int32)) (f_t_meadow_seeds : (Nat → Int32)) (f_t_meadow_lungs : (Nat → Int32)) (f_t_meadow_blown : (Nat → Int32)) (f_t_meadow_ground : (Nat → Int32)) (x1 : Int32) (x2 : Int32) (x3 : Int32) (x4 : Int32) (z_t_barredAct : Int32) (z_t_barredWhy : Int32) (z_t_flown : Int32) (z_t_ruinAct : Int32) (z_t_ruinFamily : Int32) (z_t_meadow_wind : Int32) (z_t_meadow_force : Int32) (z_t_meadow_rain : Int32) (z_t_meadow_lost : Int32) (z_t_meadow_hour : Int32) (z_t_meadow_seeds : (Nat → Int32)) (z_t_meadow_blown : (Nat → Int32)) (z_t_meadow_ground : (Nat → Int32)) (hf : fX5_runAct v_t_barredAct v_t_barredWhy v_t_flown v_t_ruinAct v_t_ruinFamily v_t_meadow_families v_t_meadow_wind v_t_meadow_force v_t_meadow_rain v_t_meadow_lost v_t_meadow_hour f_t_meadow_home f_t_meadow_seeds f_t_meadow_lungs f_t_meadow_blown f_t_meadow_ground x1 x2 x3 x4 = some (z_t_barredAct, z_t_barredWhy, z_t_flown, z_t_ruinAct, z_t_ruinFamily, z_t_meadow_wind, z_t_meadow_force, z_t_meadow_rain, z_t_meadow_lost, z_t_meadow_hour, z_t_meadow_seeds, z_t_meadow_blown, z_t_meadow_ground)) {sz : Nat} : gMv l yX5_runAct (gW yX5_runAct cX5_runAct 7 none) ({ frames := 4, cells := 0, slots := 0, locals := 94 } : Room) E [.ref o_t, .int x1, .int x2, .int x3, .int x4] (wX5_runAct E o_t o_t_meadow a_t_meadow v_t_barredAct v_t_barredWhy v_t_flown v_t_ruinAct v_t_ruinFamily v_t_meadow_families v_t_meadow_wind v_t_meadow_force v_t_meadow_rain v_t_meadow_lost v_t_meadow_hour f_t_meadow_home f_t_meadow_seeds f_t_meadow_lungs f_t_meadow_blown f_t_meadow_ground) sz (wX5_runAct E o_t o_t_meadow a_t_meadow z_t_barredAct z_t_barredWhy z_t_flown z_t_ruinAct z_t_ruinFamily v_t_meadow_families z_t_meadow_wind z_t_meadow_force z_t_meadow_rain z_t_meadow_lost z_t_meadow_hour f_t_meadow_home z_t_meadow_seeds f_t_meadow_lungs z_t_meadow_blown z_t_meadow_ground) := by
  refine g_openV (own := RX5) (by decide) rfl (Nat.le_of_ble_eq_true rfl) (fun p e s m args below meth cd Q A hx hb hml hown hG hK hA hret hw ls hl => ?_)
  have hl : lv_has ls 7 [(0, .ref o_t), (1, .int x1), (2, .int x2), (3, .int x3), (4, .int x4)] := hl
  have hret1 : ∀ (v_t_barredAct : Int32) (v_t_barredWhy : Int32) (v_t_flown : Int32) (v_t_ruinAct : Int32) (v_t_ruinFamily : Int32) (v_t_meadow_wind : Int32) (v_t_meadow_force : Int32) (v_t_meadow_rain : Int32) (v_t_meadow_lost : Int32) (v_t_meadow_hour : Int32) (f_t_meadow_seeds : (Nat → Int32)) (f_t_meadow_blown : (Nat → Int32)) (f_t_meadow_ground : (Nat → Int32)) (H : Heap) (locs : List Loc) (pc : Nat) (ls : Array Slot), some (v_t_barredAct, v_t_barredWhy, v_t_flown, v_t_ruinAct, v_t_ruinFamily, v_t_meadow_wind, v_t_meadow_force, v_t_meadow_rain, v_t_meadow_lost, v_t_meadow_hour, f_t_meadow_seeds, f_t_meadow_blown, f_t_meadow_ground) = some (z_t_barredAct, z_t_barredWhy, z_t_flown, z_t_ruinAct, z_t_ruinFamily, z_t_meadow_wind, z_t_meadow_force, z_t_meadow_rain, z_t_meadow_lost, z_t_meadow_hour, z_t_meadow_seeds, z_t_meadow_blown, z_t_meadow_ground) → gS E A s.heap (wX5_runAct E o_t o_t_meadow a_t_meadow v_t_barredAct v_t_barredWhy v_t_flown v_t_ruinAct v_t_ruinFamily v_t_meadow_families v_t_meadow_wind v_t_meadow_force v_t_meadow_rain v_t_meadow_lost v_t_meadow_hour f_t_meadow_home f_t_meadow_seeds f_t_meadow_lungs f_t_meadow_blown f_t_meadow_ground) H locs → decode cX5_runAct pc = .ok (.return_, 1) → W p l e ({ frames := 4, cells := 0, slots := 0, locals := 94 } : Room) s m args below meth cd H locs 0 0 Q (F0 m pc ls []) := by
    intro v_t_barredAct v_t_barredWhy v_t_flown v_t_ruinAct v_t_ruinFamily v_t_meadow_wind v_t_meadow_force v_t_meadow_rain v_t_meadow_lost v_t_meadow_hour f_t_meadow_seeds f_t_meadow_blown f_t_meadow_ground H locs pc ls h hw hd
    cases h
    exact hret H locs pc ls hw hd
  refine lv_aload_n hx hb dX5_runAct_0 rfl (lv_at hl 0 rfl) ?_
  refine g_get hx hb hG hown hK hw inlX5 (ci := 4) rfl 0 0 (Nat.le_of_ble_eq_true rfl) rfl rfl wd_4_14 dX5_runAct_1 ?_
  refine lv_iload_n hx hb dX5_runAct_4 rfl (lv_at hl 2 rfl) ?_
  refine lv_iload_n hx hb dX5_runAct_5 rfl (lv_at hl 3 rfl) ?_
  refine lv_iload hx hb dX5_runAct_6 (lv_at hl 4 rfl) ?_
  obtain ⟨r1, hc2, hf⟩ := gB_s hf
  refine g_ki (is := [1, 2, 3, 4, 5, 6]) (w1 := (wX0_whyNot E o_t_meadow a_t_meadow v_t_meadow_families v_t_meadow_wind v_t_meadow_force v_t_meadow_rain v_t_meadow_lost v_t_meadow_hour f_t_meadow_home f_t_meadow_seeds f_t_meadow_lungs f_t_meadow_blown f_t_meadow_ground)) (ws' := (wX5_runAct E o_t o_t_meadow a_t_meadow v_t_barredAct v_t_barredWhy v_t_flown v_t_ruinAct v_t_ruinFamily v_t_meadow_families v_t_meadow_wind v_t_meadow_force v_t_meadow_rain v_t_meadow_lost v_t_meadow_hour f_t_meadow_home f_t_meadow_seeds f_t_meadow_lungs f_t_meadow_blown f_t_meadow_ground)) hw hA (g_rS hx hb hml hG hown hK hw (is := [1, 2, 3, 4, 5, 6]) rfl (by decide) (mX0_whyNot l E o_t_meadow a_t_meadow v_t_meadow_families v_t_meadow_wind v_t_meadow_force v_t_meadow_rain v_t_meadow_lost v_t_meadow_hour f_t_meadow_home f_t_meadow_seeds f_t_meadow_lungs f_t_meadow_blown f_t_meadow_ground x2 x3 x4 r1 hc2) wd_16_5 wd_16_6 wd_16_7 wd_16_8 hX0_whyNot g_allgood ⟨rfl, rfl⟩ ⟨Nat.le_of_ble_eq_true rfl, Nat.le_of_ble_eq_true rfl⟩ ⟨Nat.zero_le _, Nat.zero_le _⟩ rfl hl.1 rfl (Nat.le_of_ble_eq_true rfl) dX5_runAct_8) rfl rfl rfl (fun H locs hw => ?_)
  refine lv_istore (lv' := [(5, .int r1), (0, .ref o_t), (1, .int x1), (2, .int x2), (3, .int x3), (4, .int x4)]) hx hb dX5_runAct_11 hl (Nat.le_of_ble_eq_true rfl) rfl (fun ls hl => ?_)
  refine lv_iload hx hb dX5_runAct_13 (lv_at hl 0 rfl) ?_
  refine lv_if_eq (tgt := 30) hx hb dX5_runAct_15 (by decide) (fun hc => ?_) (fun hc => ?_)
  · have hf := g_t hc hf
    refine lv_aload_n hx hb dX5_runAct_30 rfl (lv_at hl 1 rfl) ?_
    refine g_get hx hb hG hown hK hw inlX5 (ci := 4) rfl 0 0 (Nat.le_of_ble_eq_true rfl) rfl rfl wd_4_14 dX5_runAct_31 ?_
    obtain ⟨r3, hc4, hf⟩ := gB_s hf
    refine g_ki (is := [1, 3]) (w1 := (wX6_owners E o_t_meadow a_t_meadow v_t_meadow_families v_t_meadow_wind v_t_meadow_force v_t_meadow_rain v_t_meadow_lost v_t_meadow_hour f_t_meadow_seeds)) (ws' := (wX5_runAct E o_t o_t_meadow a_t_meadow v_t_barredAct v_t_barredWhy v_t_flown v_t_ruinAct v_t_ruinFamily v_t_meadow_families v_t_meadow_wind v_t_meadow_force v_t_meadow_rain v_t_meadow_lost v_t_meadow_hour f_t_meadow_home f_t_meadow_seeds f_t_meadow_lungs f_t_meadow_blown f_t_meadow_ground)) hw hA (g_rV hx hb hml hG hown hK hw (is := [1, 3]) rfl (by decide) (mX6_owners l E o_t_meadow a_t_meadow v_t_meadow_families v_t_meadow_wind v_t_meadow_force v_t_meadow_rain v_t_meadow_lost v_t_meadow_hour f_t_meadow_seeds r3 hc4) wd_16_20 wd_16_21 wd_16_22 wd_2_20 wd_16_23 hX6_owners g_allgood ⟨rfl, rfl⟩ ⟨Nat.le_of_ble_eq_true rfl, Nat.le_of_ble_eq_true rfl⟩ ⟨Nat.zero_le _, Nat.zero_le _⟩ (ci := 5) (q0 := 0) rfl rfl rfl rfl hl.1 rfl (Nat.le_of_ble_eq_true rfl) dX5_runAct_34) rfl rfl rfl (fun H locs hw => ?_)
    refine lv_istore (lv' := [(6, .int r3), (5, .int r1), (0, .ref o_t), (1, .int x1), (2, .int x2), (3, .int x3), (4, .int x4)]) hx hb dX5_runAct_37 hl (Nat.le_of_ble_eq_true rfl) rfl (fun ls hl => ?_)
    refine lv_aload_n hx hb dX5_runAct_39 rfl (lv_at hl 2 rfl) ?_
    refine lv_dup hx hb dX5_runAct_40 rfl ?_
    refine g_get hx hb hG hown hK hw inlX5 (ci := 4) rfl 0 3 (Nat.le_of_ble_eq_true rfl) rfl rfl wd_4_17 dX5_runAct_41 ?_
    refine lv_aload_n hx hb dX5_runAct_44 rfl (lv_at hl 2 rfl) ?_
    refine g_get hx hb hG hown hK hw inlX5 (ci := 4) rfl 0 0 (Nat.le_of_ble_eq_true rfl) rfl rfl wd_4_14 dX5_runAct_45 ?_
    refine lv_iload_n hx hb dX5_runAct_48 rfl (lv_at hl 4 rfl) ?_
    refine lv_iload_n hx hb dX5_runAct_49 rfl (lv_at hl 5 rfl) ?_
    refine lv_iload hx hb dX5_runAct_50 (lv_at hl 6 rfl) ?_
    obtain ⟨r5, hc6, hf⟩ := gB_s hf
    refine g_ki (is := [1, 3]) (w1 := (wX0_blownBy E o_t_meadow a_t_meadow v_t_meadow_families v_t_meadow_wind v_t_meadow_force v_t_meadow_rain v_t_meadow_lost v_t_meadow_hour f_t_meadow_seeds)) (ws' := (wX5_runAct E o_t o_t_meadow a_t_meadow v_t_barredAct v_t_barredWhy v_t_flown v_t_ruinAct v_t_ruinFamily v_t_meadow_families v_t_meadow_wind v_t_meadow_force v_t_meadow_rain v_t_meadow_lost v_t_meadow_hour f_t_meadow_home f_t_meadow_seeds f_t_meadow_lungs f_t_meadow_blown f_t_meadow_ground)) hw hA (g_rS hx hb hml hG hown hK hw (is := [1, 3]) rfl (by decide) (mX0_blownBy l E o_t_meadow a_t_meadow v_t_meadow_families v_t_meadow_wind v_t_meadow_force v_t_meadow_rain v_t_meadow_lost v_t_meadow_hour f_t_meadow_seeds x2 x3 x4 r5 hc6) wd_17_0 wd_17_1 wd_16_7 wd_17_2 hX0_blownBy g_allgood ⟨rfl, rfl⟩ ⟨Nat.le_of_ble_eq_true rfl, Nat.le_of_ble_eq_true rfl⟩ ⟨Nat.zero_le _, Nat.zero_le _⟩ rfl hl.1 rfl (Nat.le_of_ble_eq_true rfl) dX5_runAct_52) rfl rfl rfl (fun H locs hw => ?_)
    refine lv_iadd hx hb dX5_runAct_55 ?_
    refine g_put (ws' := (wX5_runAct E o_t o_t_meadow a_t_meadow v_t_barredAct v_t_barredWhy (v_t_flown + r5) v_t_ruinAct v_t_ruinFamily v_t_meadow_families v_t_meadow_wind v_t_meadow_force v_t_meadow_rain v_t_meadow_lost v_t_meadow_hour f_t_meadow_home f_t_meadow_seeds f_t_meadow_lungs f_t_meadow_blown f_t_meadow_ground)) hx hb hG hown hK hw inlX5 tyX5_ok nmX5 (ci := 4) rfl 0 3 (Nat.le_of_ble_eq_true rfl) rfl wd_4_17 rfl rfl rfl (Nat.le_of_ble_eq_true rfl) rfl dX5_runAct_56 (fun H locs hw => ?_)
    refine lv_aload_n hx hb dX5_runAct_59 rfl (lv_at hl 2 rfl) ?_
    refine g_get hx hb hG hown hK hw inlX5 (ci := 4) rfl 0 0 (Nat.le_of_ble_eq_true rfl) rfl rfl wd_4_14 dX5_runAct_60 ?_
    refine lv_iload_n hx hb dX5_runAct_63 rfl (lv_at hl 4 rfl) ?_
    refine lv_iload_n hx hb dX5_runAct_64 rfl (lv_at hl 5 rfl) ?_
    refine lv_iload hx hb dX5_runAct_65 (lv_at hl 6 rfl) ?_
    obtain ⟨r7, hc8, hf⟩ := gB_s hf
    refine g_kv (is := [1, 2, 3, 5, 6]) (w1 := (wX0_carryOut E o_t_meadow a_t_meadow v_t_meadow_families r7.1 r7.2.1 r7.2.2.1 r7.2.2.2.1 r7.2.2.2.2.1 f_t_meadow_home r7.2.2.2.2.2.1 r7.2.2.2.2.2.2.1 r7.2.2.2.2.2.2.2)) (ws' := (wX5_runAct E o_t o_t_meadow a_t_meadow v_t_barredAct v_t_barredWhy (v_t_flown + r5) v_t_ruinAct v_t_ruinFamily v_t_meadow_families r7.1 r7.2.1 r7.2.2.1 r7.2.2.2.1 r7.2.2.2.2.1 f_t_meadow_home r7.2.2.2.2.2.1 f_t_meadow_lungs r7.2.2.2.2.2.2.1 r7.2.2.2.2.2.2.2)) hw hA (g_rS hx hb hml hG hown hK hw (is := [1, 2, 3, 5, 6]) rfl (by decide) (mX0_carryOut l E o_t_meadow a_t_meadow v_t_meadow_families v_t_meadow_wind v_t_meadow_force v_t_meadow_rain v_t_meadow_lost v_t_meadow_hour f_t_meadow_home f_t_meadow_seeds f_t_meadow_blown f_t_meadow_ground x2 x3 x4 r7.1 r7.2.1 r7.2.2.1 r7.2.2.2.1 r7.2.2.2.2.1 r7.2.2.2.2.2.1 r7.2.2.2.2.2.2.1 r7.2.2.2.2.2.2.2 hc8) wd_17_3 wd_17_4 wd_16_7 wd_17_5 hX0_carryOut g_allgood ⟨rfl, rfl⟩ ⟨Nat.le_of_ble_eq_true rfl, Nat.le_of_ble_eq_true rfl⟩ ⟨Nat.zero_le _, Nat.zero_le _⟩ rfl hl.1 rfl (Nat.le_of_ble_eq_true rfl) dX5_runAct_67) rfl rfl rfl (fun H locs hw => ?_)
    refine lv_aload_n hx hb dX5_runAct_70 rfl (lv_at hl 2 rfl) ?_
    refine lv_iload_n hx hb dX5_runAct_71 rfl (lv_at hl 3 rfl) ?_
    refine lv_iload hx hb dX5_runAct_72 (lv_at hl 0 rfl) ?_
    refine lv_aload_n hx hb dX5_runAct_74 rfl (lv_at hl 2 rfl) ?_
    refine g_get hx hb hG hown hK hw inlX5 (ci := 4) rfl 0 0 (Nat.le_of_ble_eq_true rfl) rfl rfl wd_4_14 dX5_runAct_75 ?_
    obtain ⟨r9, hc10, hf⟩ := gB_s hf
    refine g_ki (is := [1, 3]) (w1 := (wX6_owners E o_t_meadow a_t_meadow v_t_meadow_families r7.1 r7.2.1 r7.2.2.1 r7.2.2.2.1 r7.2.2.2.2.1 r7.2.2.2.2.2.1)) (ws' := (wX5_runAct E o_t o_t_meadow a_t_meadow v_t_barredAct v_t_barredWhy (v_t_flown + r5) v_t_ruinAct v_t_ruinFamily v_t_meadow_families r7.1 r7.2.1 r7.2.2.1 r7.2.2.2.1 r7.2.2.2.2.1 f_t_meadow_home r7.2.2.2.2.2.1 f_t_meadow_lungs r7.2.2.2.2.2.2.1 r7.2.2.2.2.2.2.2)) hw hA (g_rV hx hb hml hG hown hK hw (is := [1, 3]) rfl (by decide) (mX6_owners l E o_t_meadow a_t_meadow v_t_meadow_families r7.1 r7.2.1 r7.2.2.1 r7.2.2.2.1 r7.2.2.2.2.1 r7.2.2.2.2.2.1 r9 hc10) wd_16_20 wd_16_21 wd_16_22 wd_2_20 wd_16_23 hX6_owners g_allgood ⟨rfl, rfl⟩ ⟨Nat.le_of_ble_eq_true rfl, Nat.le_of_ble_eq_true rfl⟩ ⟨Nat.zero_le _, Nat.zero_le _⟩ (ci := 5) (q0 := 0) rfl rfl rfl rfl hl.1 rfl (Nat.le_of_ble_eq_true rfl) dX5_runAct_78) rfl rfl rfl (fun H locs hw => ?_)
    refine lv_iconst (v := -1) hx hb dX5_runAct_81 k_im1 ?_
    refine lv_ixor hx hb dX5_runAct_82 ?_
    refine lv_iand hx hb dX5_runAct_83 ?_
    obtain ⟨r11, hc12, hf⟩ := gB_s hf
    refine g_kv (is := [0]) (w1 := (wX5_noteRuin E o_t o_t_meadow v_t_barredAct v_t_barredWhy (v_t_flown + r5) r11.1 r11.2)) (ws' := (wX5_runAct E o_t o_t_meadow a_t_meadow v_t_barredAct v_t_barredWhy (v_t_flown + r5) r11.1 r11.2 v_t_meadow_families r7.1 r7.2.1 r7.2.2.1 r7.2.2.2.1 r7.2.2.2.2.1 f_t_meadow_home r7.2.2.2.2.2.1 f_t_meadow_lungs r7.2.2.2.2.2.2.1 r7.2.2.2.2.2.2.2)) hw hA (g_rV hx hb hml hG hown hK hw (is := [0]) rfl (by decide) (mX5_noteRuin l E o_t o_t_meadow v_t_barredAct v_t_barredWhy (v_t_flown + r5) v_t_ruinAct v_t_ruinFamily x1 (r3 &&& (r9 ^^^ (-1))) r11.1 r11.2 hc12) wd_18_17 wd_18_18 wd_18_19 wd_2_1 wd_18_20 hX5_noteRuin g_allgood ⟨rfl, rfl⟩ ⟨Nat.le_of_ble_eq_true rfl, Nat.le_of_ble_eq_true rfl⟩ ⟨Nat.zero_le _, Nat.zero_le _⟩ (ci := 4) (q0 := 0) rfl rfl rfl rfl hl.1 rfl (Nat.le_of_ble_eq_true rfl) dX5_runAct_84) rfl rfl rfl (fun H locs hw => ?_)
    exact hret1 v_t_barredAct v_t_barredWhy (v_t_flown + r5) r11.1 r11.2 r7.1 r7.2.1 r7.2.2.1 r7.2.2.2.1 r7.2.2.2.2.1 r7.2.2.2.2.2.1 r7.2.2.2.2.2.2.1 r7.2.2.2.2.2.2.2 _ _ _ _ hf hw dX5_runAct_87
  · have hf := g_f hc hf
    refine lv_aload_n hx hb dX5_runAct_18 rfl (lv_at hl 1 rfl) ?_
    refine lv_iload_n hx hb dX5_runAct_19 rfl (lv_at hl 2 rfl) ?_
    refine g_put (ws' := (wX5_runAct E o_t o_t_meadow a_t_meadow x1 v_t_barredWhy v_t_flown v_t_ruinAct v_t_ruinFamily v_t_meadow_families v_t_meadow_wind v_t_meadow_force v_t_meadow_rain v_t_meadow_lost v_t_meadow_hour f_t_meadow_home f_t_meadow_seeds f_t_meadow_lungs f_t_meadow_blown f_t_meadow_ground)) hx hb hG hown hK hw inlX5 tyX5_ok nmX5 (ci := 4) rfl 0 1 (Nat.le_of_ble_eq_true rfl) rfl wd_4_15 rfl rfl rfl (Nat.le_of_ble_eq_true rfl) rfl dX5_runAct_20 (fun H locs hw => ?_)
    refine lv_aload_n hx hb dX5_runAct_23 rfl (lv_at hl 1 rfl) ?_
    refine lv_iload hx hb dX5_runAct_24 (lv_at hl 0 rfl) ?_
    refine g_put (ws' := (wX5_runAct E o_t o_t_meadow a_t_meadow x1 r1 v_t_flown v_t_ruinAct v_t_ruinFamily v_t_meadow_families v_t_meadow_wind v_t_meadow_force v_t_meadow_rain v_t_meadow_lost v_t_meadow_hour f_t_meadow_home f_t_meadow_seeds f_t_meadow_lungs f_t_meadow_blown f_t_meadow_ground)) hx hb hG hown hK hw inlX5 tyX5_ok nmX5 (ci := 4) rfl 0 2 (Nat.le_of_ble_eq_true rfl) rfl wd_4_16 rfl rfl rfl (Nat.le_of_ble_eq_true rfl) rfl dX5_runAct_26 (fun H locs hw => ?_)
    exact hret1 x1 r1 v_t_flown v_t_ruinAct v_t_ruinFamily v_t_meadow_wind v_t_meadow_force v_t_meadow_rain v_t_meadow_lost v_t_meadow_hour f_t_meadow_seeds f_t_meadow_blown f_t_meadow_ground _ _ _ _ hf hw dX5_runAct_29
theorem hX5_run : yX5_run.cls = RX5 ∧ yX5_run.cls ≠ "java/lang/invoke/MethodHandle" ∧ yX5_run.cls ≠ "java/lang/invoke/VarHandle" ∧ (parseMethodDescriptor yX5_run.desc).map (fun d => d.parameters.length) = some 2 := by decide +kernel
set_option maxHeartbeats 4000000 in
set_option maxRecDepth 100000 in
theorem mX5_run (l : Launch) (E : gE) (o_p0 : Nat) (a_p0 : (Nat → Nat)) (o_p1 : Nat) (a_p1 : (Nat → Nat)) (o_t : Nat) (o_t_meadow : Nat) (a_t_meadow : (Nat → Nat)) (v_p0_families : Int32) (v_p0_wind : Int32) (v_p0_force : Int32) (v_p0_rain : Int32) (v_p0_lost : Int32) (v_p0_hour : Int32) (v_p1_signs : Int32) (v_p1_acts : Int32) (v_p1_reading : Int32) (v_p1_begun : Int32) (v_p1_brokenAt : Int32) (v_t_barredAct : Int32) (v_t_barredWhy : Int32) (v_t_flown : Int32) (v_t_ruinAct : Int32) (v_t_ruinFamily : Int32) (v_t_meadow_families : Int32) (v_t_meadow_wind : Int32) (v_t_meadow_force : Int32) (v_t_meadow_rain : Int32) (v_t_meadow_lost : Int32) (v_t_meadow_hour : Int32) (f_p0_home : (Nat → Int32)) (f_p0_seeds : (Nat → Int32)) (f_p0_lungs : (Nat → Int32)) (f_p0_blown : (Nat → Int32)) (f_p0_ground : (Nat → Int32)) (f_p1_kinds : (Nat → Int32)) (f_p1_firsts : (Nat → Int32)) (f_p1_seconds : (Nat → Int32)) (f_t_meadow_home : (Nat → Int32)) (f_t_meadow_seeds : (Nat → Int32)) (f_t_meadow_lungs : (Nat → Int32)) (f_t_meadow_blown : (Nat → Int32)) (f_t_meadow_ground : (Nat → Int32)) (rv : Int32) (z_t_barredAct : Int32) (z_t_barredWhy : Int32) (z_t_flown : Int32) (z_t_ruinAct : Int32) (z_t_ruinFamily : Int32) (z_t_meadow_families : Int32) (z_t_meadow_wind : Int32) (z_t_meadow_force : Int32) (z_t_meadow_rain : Int32) (z_t_meadow_lost : Int32) (z_t_meadow_hour : Int32) (z_t_meadow_home : (Nat → Int32)) (z_t_meadow_seeds : (Nat → Int32)) (z_t_meadow_lungs : (Nat → Int32)) (z_t_meadow_blown : (Nat → Int32)) (z_t_meadow_ground : (Nat → Int32)) (hf : fX5_run v_p0_families v_p0_wind v_p0_force v_p0_rain v_p0_lost v_p0_hour v_p1_signs v_p1_acts v_p1_reading v_p1_brokenAt v_t_barredAct v_t_barredWhy v_t_flown v_t_ruinAct v_t_ruinFamily v_t_meadow_families v_t_meadow_wind v_t_meadow_force v_t_meadow_rain v_t_meadow_lost v_t_meadow_hour f_p0_home f_p0_seeds f_p0_lungs f_p0_blown f_p0_ground f_p1_kinds f_p1_firsts f_p1_seconds f_t_meadow_home f_t_meadow_seeds f_t_meadow_lungs f_t_meadow_blown f_t_meadow_ground = some (rv, z_t_barredAct, z_t_barredWhy, z_t_flown, z_t_ruinAct, z_t_ruinFamily, z_t_meadow_families, z_t_meadow_wind, z_t_meadow_force, z_t_meadow_rain, z_t_meadow_lost, z_t_meadow_hour, z_t_meadow_home, z_t_meadow_seeds, z_t_meadow_lungs, z_t_meadow_blown, z_t_meadow_ground)) {sz : Nat} : gMi l yX5_run (gW yX5_run cX5_run 4 (some .int)) ({ frames := 5, cells := 0, slots := 0, locals := 120 } : Room) E [.ref o_t, .ref o_p0, .ref o_p1] (wX5_run E o_p0 a_p0 o_p1 a_p1 o_t o_t_meadow a_t_meadow v_p0_families v_p0_wind v_p0_force v_p0_rain v_p0_lost v_p0_hour v_p1_signs v_p1_acts v_p1_reading v_p1_begun v_p1_brokenAt v_t_barredAct v_t_barredWhy v_t_flown v_t_ruinAct v_t_ruinFamily v_t_meadow_families v_t_meadow_wind v_t_meadow_force v_t_meadow_rain v_t_meadow_lost v_t_meadow_hour f_p0_home f_p0_seeds f_p0_lungs f_p0_blown f_p0_ground f_p1_kinds f_p1_firsts f_p1_seconds f_t_meadow_home f_t_meadow_seeds f_t_meadow_lungs f_t_meadow_blown f_t_meadow_ground) sz rv (wX5_run E o_p0 a_p0 o_p1 a_p1 o_t o_t_meadow a_t_meadow v_p0_families v_p0_wind v_p0_force v_p0_rain v_p0_lost v_p0_hour v_p1_signs v_p1_acts v_p1_reading v_p1_begun v_p1_brokenAt z_t_barredAct z_t_barredWhy z_t_flown z_t_ruinAct z_t_ruinFamily z_t_meadow_families z_t_meadow_wind z_t_meadow_force z_t_meadow_rain z_t_meadow_lost z_t_meadow_hour f_p0_home f_p0_seeds f_p0_lungs f_p0_blown f_p0_ground f_p1_kinds f_p1_firsts f_p1_seconds z_t_meadow_home z_t_meadow_seeds z_t_meadow_lungs z_t_meadow_blown z_t_meadow_ground) := by
  refine g_openI (own := RX5) (by decide) rfl (Nat.le_of_ble_eq_true rfl) (fun p e s m args below meth cd Q A hx hb hml hown hG hK hA hret hw ls hl => ?_)
  have hl : lv_has ls 4 [(0, .ref o_t), (1, .ref o_p0), (2, .ref o_p1)] := hl
  have hret1 : ∀ (v : Int32) (v_t_barredAct : Int32) (v_t_barredWhy : Int32) (v_t_flown : Int32) (v_t_ruinAct : Int32) (v_t_ruinFamily : Int32) (v_t_meadow_families : Int32) (v_t_meadow_wind : Int32) (v_t_meadow_force : Int32) (v_t_meadow_rain : Int32) (v_t_meadow_lost : Int32) (v_t_meadow_hour : Int32) (f_t_meadow_home : (Nat → Int32)) (f_t_meadow_seeds : (Nat → Int32)) (f_t_meadow_lungs : (Nat → Int32)) (f_t_meadow_blown : (Nat → Int32)) (f_t_meadow_ground : (Nat → Int32)) (H : Heap) (locs : List Loc) (pc : Nat) (ls : Array Slot), some (v, v_t_barredAct, v_t_barredWhy, v_t_flown, v_t_ruinAct, v_t_ruinFamily, v_t_meadow_families, v_t_meadow_wind, v_t_meadow_force, v_t_meadow_rain, v_t_meadow_lost, v_t_meadow_hour, f_t_meadow_home, f_t_meadow_seeds, f_t_meadow_lungs, f_t_meadow_blown, f_t_meadow_ground) = some (rv, z_t_barredAct, z_t_barredWhy, z_t_flown, z_t_ruinAct, z_t_ruinFamily, z_t_meadow_families, z_t_meadow_wind, z_t_meadow_force, z_t_meadow_rain, z_t_meadow_lost, z_t_meadow_hour, z_t_meadow_home, z_t_meadow_seeds, z_t_meadow_lungs, z_t_meadow_blown, z_t_meadow_ground) → gS E A s.heap (wX5_run E o_p0 a_p0 o_p1 a_p1 o_t o_t_meadow a_t_meadow v_p0_families v_p0_wind v_p0_force v_p0_rain v_p0_lost v_p0_hour v_p1_signs v_p1_acts v_p1_reading v_p1_begun v_p1_brokenAt v_t_barredAct v_t_barredWhy v_t_flown v_t_ruinAct v_t_ruinFamily v_t_meadow_families v_t_meadow_wind v_t_meadow_force v_t_meadow_rain v_t_meadow_lost v_t_meadow_hour f_p0_home f_p0_seeds f_p0_lungs f_p0_blown f_p0_ground f_p1_kinds f_p1_firsts f_p1_seconds f_t_meadow_home f_t_meadow_seeds f_t_meadow_lungs f_t_meadow_blown f_t_meadow_ground) H locs → decode cX5_run pc = .ok (.ireturn, 1) → W p l e ({ frames := 5, cells := 0, slots := 0, locals := 120 } : Room) s m args below meth cd H locs 0 0 Q (F0 m pc ls [.int v]) := by
    intro v v_t_barredAct v_t_barredWhy v_t_flown v_t_ruinAct v_t_ruinFamily v_t_meadow_families v_t_meadow_wind v_t_meadow_force v_t_meadow_rain v_t_meadow_lost v_t_meadow_hour f_t_meadow_home f_t_meadow_seeds f_t_meadow_lungs f_t_meadow_blown f_t_meadow_ground H locs pc ls h hw hd
    cases h
    exact hret H locs pc ls hw hd
  have B118 : ∀ (v_t_barredAct : Int32) (v_t_barredWhy : Int32) (v_t_flown : Int32) (v_t_ruinAct : Int32) (v_t_ruinFamily : Int32) (v_t_meadow_families : Int32) (v_t_meadow_wind : Int32) (v_t_meadow_force : Int32) (v_t_meadow_rain : Int32) (v_t_meadow_lost : Int32) (v_t_meadow_hour : Int32) (f_t_meadow_home : (Nat → Int32)) (f_t_meadow_seeds : (Nat → Int32)) (f_t_meadow_lungs : (Nat → Int32)) (f_t_meadow_blown : (Nat → Int32)) (f_t_meadow_ground : (Nat → Int32)) (s0 : Int32) (H : Heap) (locs : List Loc) (ls : Array Slot), fX5_run_b118 v_t_barredAct v_t_barredWhy v_t_flown v_t_ruinAct v_t_ruinFamily v_t_meadow_families v_t_meadow_wind v_t_meadow_force v_t_meadow_rain v_t_meadow_lost v_t_meadow_hour f_t_meadow_home f_t_meadow_seeds f_t_meadow_lungs f_t_meadow_blown f_t_meadow_ground s0 = some (rv, z_t_barredAct, z_t_barredWhy, z_t_flown, z_t_ruinAct, z_t_ruinFamily, z_t_meadow_families, z_t_meadow_wind, z_t_meadow_force, z_t_meadow_rain, z_t_meadow_lost, z_t_meadow_hour, z_t_meadow_home, z_t_meadow_seeds, z_t_meadow_lungs, z_t_meadow_blown, z_t_meadow_ground) → gS E A s.heap (wX5_run E o_p0 a_p0 o_p1 a_p1 o_t o_t_meadow a_t_meadow v_p0_families v_p0_wind v_p0_force v_p0_rain v_p0_lost v_p0_hour v_p1_signs v_p1_acts v_p1_reading v_p1_begun v_p1_brokenAt v_t_barredAct v_t_barredWhy v_t_flown v_t_ruinAct v_t_ruinFamily v_t_meadow_families v_t_meadow_wind v_t_meadow_force v_t_meadow_rain v_t_meadow_lost v_t_meadow_hour f_p0_home f_p0_seeds f_p0_lungs f_p0_blown f_p0_ground f_p1_kinds f_p1_firsts f_p1_seconds f_t_meadow_home f_t_meadow_seeds f_t_meadow_lungs f_t_meadow_blown f_t_meadow_ground) H locs → lv_has ls 4 [] → W p l e ({ frames := 5, cells := 0, slots := 0, locals := 120 } : Room) s m args below meth cd H locs 0 0 Q (F0 m 118 ls [.int s0]) := by
    intro  v_t_barredAct v_t_barredWhy v_t_flown v_t_ruinAct v_t_ruinFamily v_t_meadow_families v_t_meadow_wind v_t_meadow_force v_t_meadow_rain v_t_meadow_lost v_t_meadow_hour f_t_meadow_home f_t_meadow_seeds f_t_meadow_lungs f_t_meadow_blown f_t_meadow_ground s0 H locs ls hf hw hl
    exact hret1 s0 v_t_barredAct v_t_barredWhy v_t_flown v_t_ruinAct v_t_ruinFamily v_t_meadow_families v_t_meadow_wind v_t_meadow_force v_t_meadow_rain v_t_meadow_lost v_t_meadow_hour f_t_meadow_home f_t_meadow_seeds f_t_meadow_lungs f_t_meadow_blown f_t_meadow_ground _ _ _ _ hf hw dX5_run_118
  have B103 : ∀ (v_t_barredAct : Int32) (v_t_barredWhy : Int32) (v_t_flown : Int32) (v_t_ruinAct : Int32) (v_t_ruinFamily : Int32) (v_t_meadow_families : Int32) (v_t_meadow_wind : Int32) (v_t_meadow_force : Int32) (v_t_meadow_rain : Int32) (v_t_meadow_lost : Int32) (v_t_meadow_hour : Int32) (f_t_meadow_home : (Nat → Int32)) (f_t_meadow_seeds : (Nat → Int32)) (f_t_meadow_lungs : (Nat → Int32)) (f_t_meadow_blown : (Nat → Int32)) (f_t_meadow_ground : (Nat → Int32)) (H : Heap) (locs : List Loc) (ls : Array Slot), fX5_run_b103 v_t_barredAct v_t_barredWhy v_t_flown v_t_ruinAct v_t_ruinFamily v_t_meadow_families v_t_meadow_wind v_t_meadow_force v_t_meadow_rain v_t_meadow_lost v_t_meadow_hour f_t_meadow_home f_t_meadow_seeds f_t_meadow_lungs f_t_meadow_blown f_t_meadow_ground = some (rv, z_t_barredAct, z_t_barredWhy, z_t_flown, z_t_ruinAct, z_t_ruinFamily, z_t_meadow_families, z_t_meadow_wind, z_t_meadow_force, z_t_meadow_rain, z_t_meadow_lost, z_t_meadow_hour, z_t_meadow_home, z_t_meadow_seeds, z_t_meadow_lungs, z_t_meadow_blown, z_t_meadow_ground) → gS E A s.heap (wX5_run E o_p0 a_p0 o_p1 a_p1 o_t o_t_meadow a_t_meadow v_p0_families v_p0_wind v_p0_force v_p0_rain v_p0_lost v_p0_hour v_p1_signs v_p1_acts v_p1_reading v_p1_begun v_p1_brokenAt v_t_barredAct v_t_barredWhy v_t_flown v_t_ruinAct v_t_ruinFamily v_t_meadow_families v_t_meadow_wind v_t_meadow_force v_t_meadow_rain v_t_meadow_lost v_t_meadow_hour f_p0_home f_p0_seeds f_p0_lungs f_p0_blown f_p0_ground f_p1_kinds f_p1_firsts f_p1_seconds f_t_meadow_home f_t_meadow_seeds f_t_meadow_lungs f_t_meadow_blown f_t_meadow_ground) H locs → lv_has ls 4 [(0, .ref o_t)] → W p l e ({ frames := 5, cells := 0, slots := 0, locals := 120 } : Room) s m args below meth cd H locs 0 0 Q (F0 m 103 ls []) := by
    intro  v_t_barredAct v_t_barredWhy v_t_flown v_t_ruinAct v_t_ruinFamily v_t_meadow_families v_t_meadow_wind v_t_meadow_force v_t_meadow_rain v_t_meadow_lost v_t_meadow_hour f_t_meadow_home f_t_meadow_seeds f_t_meadow_lungs f_t_meadow_blown f_t_meadow_ground H locs ls hf hw hl
    refine lv_aload_n hx hb dX5_run_103 rfl (lv_at hl 0 rfl) ?_
    refine g_get hx hb hG hown hK hw inlX5 (ci := 4) rfl 10 1 (Nat.le_of_ble_eq_true rfl) rfl rfl wd_4_15 dX5_run_104 ?_
    refine lv_bipush (v := -6) hx hb dX5_run_107 k_bm6 ?_
    refine lv_icmp_ne (tgt := 116) hx hb dX5_run_109 (by decide) (fun hc => ?_) (fun hc => ?_)
    · have hf := g_f hc hf
      refine lv_bipush (v := -3) hx hb dX5_run_116 k_bm3 ?_
      exact B118 v_t_barredAct v_t_barredWhy v_t_flown v_t_ruinAct v_t_ruinFamily v_t_meadow_families v_t_meadow_wind v_t_meadow_force v_t_meadow_rain v_t_meadow_lost v_t_meadow_hour f_t_meadow_home f_t_meadow_seeds f_t_meadow_lungs f_t_meadow_blown f_t_meadow_ground (-3) _ _ _ hf hw (lv_sub hl [] rfl)
    · have hf := g_t hc hf
      refine lv_iconst (v := 0) hx hb dX5_run_112 k_i0 ?_
      refine lv_goto (tgt := 118) hx hb dX5_run_113 (by decide) ?_
      exact B118 v_t_barredAct v_t_barredWhy v_t_flown v_t_ruinAct v_t_ruinFamily v_t_meadow_families v_t_meadow_wind v_t_meadow_force v_t_meadow_rain v_t_meadow_lost v_t_meadow_hour f_t_meadow_home f_t_meadow_seeds f_t_meadow_lungs f_t_meadow_blown f_t_meadow_ground 0 _ _ _ hf hw (lv_sub hl [] rfl)
  have B51 : ∀ n : Nat, ∀ (v_t_barredAct : Int32) (v_t_barredWhy : Int32) (v_t_flown : Int32) (v_t_ruinAct : Int32) (v_t_ruinFamily : Int32) (v_t_meadow_families : Int32) (v_t_meadow_wind : Int32) (v_t_meadow_force : Int32) (v_t_meadow_rain : Int32) (v_t_meadow_lost : Int32) (v_t_meadow_hour : Int32) (f_t_meadow_home : (Nat → Int32)) (f_t_meadow_seeds : (Nat → Int32)) (f_t_meadow_lungs : (Nat → Int32)) (f_t_meadow_blown : (Nat → Int32)) (f_t_meadow_ground : (Nat → Int32)) (x3 : Int32) (H : Heap) (locs : List Loc) (ls : Array Slot), fX5_run_b51 v_p1_acts f_p1_kinds f_p1_firsts f_p1_seconds n v_t_barredAct v_t_barredWhy v_t_flown v_t_ruinAct v_t_ruinFamily v_t_meadow_families v_t_meadow_wind v_t_meadow_force v_t_meadow_rain v_t_meadow_lost v_t_meadow_hour f_t_meadow_home f_t_meadow_seeds f_t_meadow_lungs f_t_meadow_blown f_t_meadow_ground x3 = some (rv, z_t_barredAct, z_t_barredWhy, z_t_flown, z_t_ruinAct, z_t_ruinFamily, z_t_meadow_families, z_t_meadow_wind, z_t_meadow_force, z_t_meadow_rain, z_t_meadow_lost, z_t_meadow_hour, z_t_meadow_home, z_t_meadow_seeds, z_t_meadow_lungs, z_t_meadow_blown, z_t_meadow_ground) → gS E A s.heap (wX5_run E o_p0 a_p0 o_p1 a_p1 o_t o_t_meadow a_t_meadow v_p0_families v_p0_wind v_p0_force v_p0_rain v_p0_lost v_p0_hour v_p1_signs v_p1_acts v_p1_reading v_p1_begun v_p1_brokenAt v_t_barredAct v_t_barredWhy v_t_flown v_t_ruinAct v_t_ruinFamily v_t_meadow_families v_t_meadow_wind v_t_meadow_force v_t_meadow_rain v_t_meadow_lost v_t_meadow_hour f_p0_home f_p0_seeds f_p0_lungs f_p0_blown f_p0_ground f_p1_kinds f_p1_firsts f_p1_seconds f_t_meadow_home f_t_meadow_seeds f_t_meadow_lungs f_t_meadow_blown f_t_meadow_ground) H locs → lv_has ls 4 [(0, .ref o_t), (2, .ref o_p1), (3, .int x3)] → W p l e ({ frames := 5, cells := 0, slots := 0, locals := 120 } : Room) s m args below meth cd H locs 0 0 Q (F0 m 51 ls []) := by
    intro n
    induction n with
    | zero => intro v_t_barredAct v_t_barredWhy v_t_flown v_t_ruinAct v_t_ruinFamily v_t_meadow_families v_t_meadow_wind v_t_meadow_force v_t_meadow_rain v_t_meadow_lost v_t_meadow_hour f_t_meadow_home f_t_meadow_seeds f_t_meadow_lungs f_t_meadow_blown f_t_meadow_ground x3 H locs ls hf hw hl; exact g_no hf
    | succ n ih =>
      intro v_t_barredAct v_t_barredWhy v_t_flown v_t_ruinAct v_t_ruinFamily v_t_meadow_families v_t_meadow_wind v_t_meadow_force v_t_meadow_rain v_t_meadow_lost v_t_meadow_hour f_t_meadow_home f_t_meadow_seeds f_t_meadow_lungs f_t_meadow_blown f_t_meadow_ground x3 H locs ls hf hw hl
      refine lv_iload_n hx hb dX5_run_51 rfl (lv_at hl 2 rfl) ?_
      refine lv_aload_n hx hb dX5_run_52 rfl (lv_at hl 1 rfl) ?_
      refine g_get hx hb hG hown hK hw inlX7 (ci := 6) rfl 6 4 (Nat.le_of_ble_eq_true rfl) rfl rfl wd_15_10 dX5_run_53 ?_
      refine lv_icmp_ge (tgt := 103) hx hb dX5_run_56 (by decide) (fun hc => ?_) (fun hc => ?_)
      · have hf := g_t hc hf
        exact B103 v_t_barredAct v_t_barredWhy v_t_flown v_t_ruinAct v_t_ruinFamily v_t_meadow_families v_t_meadow_wind v_t_meadow_force v_t_meadow_rain v_t_meadow_lost v_t_meadow_hour f_t_meadow_home f_t_meadow_seeds f_t_meadow_lungs f_t_meadow_blown f_t_meadow_ground _ _ _ hf hw (lv_sub hl [0] rfl)
      · have hf := g_f hc hf
        refine lv_aload_n hx hb dX5_run_59 rfl (lv_at hl 0 rfl) ?_
        refine g_get hx hb hG hown hK hw inlX5 (ci := 4) rfl 10 1 (Nat.le_of_ble_eq_true rfl) rfl rfl wd_4_15 dX5_run_60 ?_
        refine lv_bipush (v := -6) hx hb dX5_run_63 k_bm6 ?_
        refine lv_icmp_ne (tgt := 103) hx hb dX5_run_65 (by decide) (fun hc => ?_) (fun hc => ?_)
        · have hf := g_f hc hf
          exact B103 v_t_barredAct v_t_barredWhy v_t_flown v_t_ruinAct v_t_ruinFamily v_t_meadow_families v_t_meadow_wind v_t_meadow_force v_t_meadow_rain v_t_meadow_lost v_t_meadow_hour f_t_meadow_home f_t_meadow_seeds f_t_meadow_lungs f_t_meadow_blown f_t_meadow_ground _ _ _ hf hw (lv_sub hl [0] rfl)
        · have hf := g_t hc hf
          refine lv_aload_n hx hb dX5_run_68 rfl (lv_at hl 0 rfl) ?_
          refine lv_iload_n hx hb dX5_run_69 rfl (lv_at hl 2 rfl) ?_
          refine lv_aload_n hx hb dX5_run_70 rfl (lv_at hl 1 rfl) ?_
          refine g_get hx hb hG hown hK hw inlX7 (ci := 6) rfl 6 0 (Nat.le_of_ble_eq_true rfl) rfl rfl wd_15_11 dX5_run_71 ?_
          refine lv_iload_n hx hb dX5_run_74 rfl (lv_at hl 2 rfl) ?_
          obtain ⟨r1, hc2, hf⟩ := gB_s hf
          refine g_ki (is := [7]) (w1 := (wX10_at E (a_p1 0) 60 f_p1_kinds)) (ws' := (wX5_run E o_p0 a_p0 o_p1 a_p1 o_t o_t_meadow a_t_meadow v_p0_families v_p0_wind v_p0_force v_p0_rain v_p0_lost v_p0_hour v_p1_signs v_p1_acts v_p1_reading v_p1_begun v_p1_brokenAt v_t_barredAct v_t_barredWhy v_t_flown v_t_ruinAct v_t_ruinFamily v_t_meadow_families v_t_meadow_wind v_t_meadow_force v_t_meadow_rain v_t_meadow_lost v_t_meadow_hour f_p0_home f_p0_seeds f_p0_lungs f_p0_blown f_p0_ground f_p1_kinds f_p1_firsts f_p1_seconds f_t_meadow_home f_t_meadow_seeds f_t_meadow_lungs f_t_meadow_blown f_t_meadow_ground)) hw hA (g_rN (host := "SeedBank") hx hb hml hG hown hK hw (is := [7]) rfl (by decide) (mX10_at l E (a_p1 0) 60 f_p1_kinds x3 r1 hc2) (List.mem_of_getElem? (i := 11) rfl) wd_15_23 wd_1_2 wd_16_0 hX10_at g_allgood ⟨rfl, rfl⟩ ⟨Nat.le_of_ble_eq_true rfl, Nat.le_of_ble_eq_true rfl⟩ ⟨Nat.zero_le _, Nat.zero_le _⟩ rfl hl.1 rfl (Nat.le_of_ble_eq_true rfl) dX5_run_75) rfl rfl rfl (fun H locs hw => ?_)
          refine lv_aload_n hx hb dX5_run_78 rfl (lv_at hl 1 rfl) ?_
          refine g_get hx hb hG hown hK hw inlX7 (ci := 6) rfl 6 1 (Nat.le_of_ble_eq_true rfl) rfl rfl wd_15_12 dX5_run_79 ?_
          refine lv_iload_n hx hb dX5_run_82 rfl (lv_at hl 2 rfl) ?_
          obtain ⟨r3, hc4, hf⟩ := gB_s hf
          refine g_ki (is := [8]) (w1 := (wX10_at E (a_p1 1) 60 f_p1_firsts)) (ws' := (wX5_run E o_p0 a_p0 o_p1 a_p1 o_t o_t_meadow a_t_meadow v_p0_families v_p0_wind v_p0_force v_p0_rain v_p0_lost v_p0_hour v_p1_signs v_p1_acts v_p1_reading v_p1_begun v_p1_brokenAt v_t_barredAct v_t_barredWhy v_t_flown v_t_ruinAct v_t_ruinFamily v_t_meadow_families v_t_meadow_wind v_t_meadow_force v_t_meadow_rain v_t_meadow_lost v_t_meadow_hour f_p0_home f_p0_seeds f_p0_lungs f_p0_blown f_p0_ground f_p1_kinds f_p1_firsts f_p1_seconds f_t_meadow_home f_t_meadow_seeds f_t_meadow_lungs f_t_meadow_blown f_t_meadow_ground)) hw hA (g_rN (host := "SeedBank") hx hb hml hG hown hK hw (is := [8]) rfl (by decide) (mX10_at l E (a_p1 1) 60 f_p1_firsts x3 r3 hc4) (List.mem_of_getElem? (i := 11) rfl) wd_15_23 wd_1_2 wd_16_0 hX10_at g_allgood ⟨rfl, rfl⟩ ⟨Nat.le_of_ble_eq_true rfl, Nat.le_of_ble_eq_true rfl⟩ ⟨Nat.zero_le _, Nat.zero_le _⟩ rfl hl.1 rfl (Nat.le_of_ble_eq_true rfl) dX5_run_83) rfl rfl rfl (fun H locs hw => ?_)
          refine lv_aload_n hx hb dX5_run_86 rfl (lv_at hl 1 rfl) ?_
          refine g_get hx hb hG hown hK hw inlX7 (ci := 6) rfl 6 2 (Nat.le_of_ble_eq_true rfl) rfl rfl wd_15_13 dX5_run_87 ?_
          refine lv_iload_n hx hb dX5_run_90 rfl (lv_at hl 2 rfl) ?_
          obtain ⟨r5, hc6, hf⟩ := gB_s hf
          refine g_ki (is := [9]) (w1 := (wX10_at E (a_p1 2) 60 f_p1_seconds)) (ws' := (wX5_run E o_p0 a_p0 o_p1 a_p1 o_t o_t_meadow a_t_meadow v_p0_families v_p0_wind v_p0_force v_p0_rain v_p0_lost v_p0_hour v_p1_signs v_p1_acts v_p1_reading v_p1_begun v_p1_brokenAt v_t_barredAct v_t_barredWhy v_t_flown v_t_ruinAct v_t_ruinFamily v_t_meadow_families v_t_meadow_wind v_t_meadow_force v_t_meadow_rain v_t_meadow_lost v_t_meadow_hour f_p0_home f_p0_seeds f_p0_lungs f_p0_blown f_p0_ground f_p1_kinds f_p1_firsts f_p1_seconds f_t_meadow_home f_t_meadow_seeds f_t_meadow_lungs f_t_meadow_blown f_t_meadow_ground)) hw hA (g_rN (host := "SeedBank") hx hb hml hG hown hK hw (is := [9]) rfl (by decide) (mX10_at l E (a_p1 2) 60 f_p1_seconds x3 r5 hc6) (List.mem_of_getElem? (i := 11) rfl) wd_15_23 wd_1_2 wd_16_0 hX10_at g_allgood ⟨rfl, rfl⟩ ⟨Nat.le_of_ble_eq_true rfl, Nat.le_of_ble_eq_true rfl⟩ ⟨Nat.zero_le _, Nat.zero_le _⟩ rfl hl.1 rfl (Nat.le_of_ble_eq_true rfl) dX5_run_91) rfl rfl rfl (fun H locs hw => ?_)
          obtain ⟨r7, hc8, hf⟩ := gB_s hf
          refine g_kv (is := [10, 11, 12, 13, 14, 15, 16]) (w1 := (wX5_runAct E o_t o_t_meadow a_t_meadow r7.1 r7.2.1 r7.2.2.1 r7.2.2.2.1 r7.2.2.2.2.1 v_t_meadow_families r7.2.2.2.2.2.1 r7.2.2.2.2.2.2.1 r7.2.2.2.2.2.2.2.1 r7.2.2.2.2.2.2.2.2.1 r7.2.2.2.2.2.2.2.2.2.1 f_t_meadow_home r7.2.2.2.2.2.2.2.2.2.2.1 f_t_meadow_lungs r7.2.2.2.2.2.2.2.2.2.2.2.1 r7.2.2.2.2.2.2.2.2.2.2.2.2)) (ws' := (wX5_run E o_p0 a_p0 o_p1 a_p1 o_t o_t_meadow a_t_meadow v_p0_families v_p0_wind v_p0_force v_p0_rain v_p0_lost v_p0_hour v_p1_signs v_p1_acts v_p1_reading v_p1_begun v_p1_brokenAt r7.1 r7.2.1 r7.2.2.1 r7.2.2.2.1 r7.2.2.2.2.1 v_t_meadow_families r7.2.2.2.2.2.1 r7.2.2.2.2.2.2.1 r7.2.2.2.2.2.2.2.1 r7.2.2.2.2.2.2.2.2.1 r7.2.2.2.2.2.2.2.2.2.1 f_p0_home f_p0_seeds f_p0_lungs f_p0_blown f_p0_ground f_p1_kinds f_p1_firsts f_p1_seconds f_t_meadow_home r7.2.2.2.2.2.2.2.2.2.2.1 f_t_meadow_lungs r7.2.2.2.2.2.2.2.2.2.2.2.1 r7.2.2.2.2.2.2.2.2.2.2.2.2)) hw hA (g_rV hx hb hml hG hown hK hw (is := [10, 11, 12, 13, 14, 15, 16]) rfl (by decide) (mX5_runAct l E o_t o_t_meadow a_t_meadow v_t_barredAct v_t_barredWhy v_t_flown v_t_ruinAct v_t_ruinFamily v_t_meadow_families v_t_meadow_wind v_t_meadow_force v_t_meadow_rain v_t_meadow_lost v_t_meadow_hour f_t_meadow_home f_t_meadow_seeds f_t_meadow_lungs f_t_meadow_blown f_t_meadow_ground x3 r1 r3 r5 r7.1 r7.2.1 r7.2.2.1 r7.2.2.2.1 r7.2.2.2.2.1 r7.2.2.2.2.2.1 r7.2.2.2.2.2.2.1 r7.2.2.2.2.2.2.2.1 r7.2.2.2.2.2.2.2.2.1 r7.2.2.2.2.2.2.2.2.2.1 r7.2.2.2.2.2.2.2.2.2.2.1 r7.2.2.2.2.2.2.2.2.2.2.2.1 r7.2.2.2.2.2.2.2.2.2.2.2.2 hc8) wd_16_1 wd_16_2 wd_16_3 wd_2_1 wd_16_4 hX5_runAct g_allgood ⟨rfl, rfl⟩ ⟨Nat.le_of_ble_eq_true rfl, Nat.le_of_ble_eq_true rfl⟩ ⟨Nat.zero_le _, Nat.zero_le _⟩ (ci := 4) (q0 := 0) rfl rfl rfl rfl hl.1 rfl (Nat.le_of_ble_eq_true rfl) dX5_run_94) rfl rfl rfl (fun H locs hw => ?_)
          refine lv_iinc (lv' := [(3, .int (x3 + 1)), (0, .ref o_t), (2, .ref o_p1)]) hx hb dX5_run_97 hl (k := 2) rfl (k_inc1 _) (Nat.le_of_ble_eq_true rfl) rfl (fun ls hl => ?_)
          refine lv_goto (tgt := 51) hx hb dX5_run_100 (by decide) ?_
          exact ih r7.1 r7.2.1 r7.2.2.1 r7.2.2.2.1 r7.2.2.2.2.1 v_t_meadow_families r7.2.2.2.2.2.1 r7.2.2.2.2.2.2.1 r7.2.2.2.2.2.2.2.1 r7.2.2.2.2.2.2.2.2.1 r7.2.2.2.2.2.2.2.2.2.1 f_t_meadow_home r7.2.2.2.2.2.2.2.2.2.2.1 f_t_meadow_lungs r7.2.2.2.2.2.2.2.2.2.2.2.1 r7.2.2.2.2.2.2.2.2.2.2.2.2 (x3 + 1) _ _ _ hf hw (lv_sub hl [1, 2, 0] rfl)
  refine lv_aload_n hx hb dX5_run_0 rfl (lv_at hl 2 rfl) ?_
  obtain ⟨r9, hc10, hf⟩ := gB_s hf
  refine g_ki (is := [6]) (w1 := (wX7_faultPlace E o_p1 a_p1 v_p1_signs v_p1_acts v_p1_reading v_p1_begun v_p1_brokenAt)) (ws' := (wX5_run E o_p0 a_p0 o_p1 a_p1 o_t o_t_meadow a_t_meadow v_p0_families v_p0_wind v_p0_force v_p0_rain v_p0_lost v_p0_hour v_p1_signs v_p1_acts v_p1_reading v_p1_begun v_p1_brokenAt v_t_barredAct v_t_barredWhy v_t_flown v_t_ruinAct v_t_ruinFamily v_t_meadow_families v_t_meadow_wind v_t_meadow_force v_t_meadow_rain v_t_meadow_lost v_t_meadow_hour f_p0_home f_p0_seeds f_p0_lungs f_p0_blown f_p0_ground f_p1_kinds f_p1_firsts f_p1_seconds f_t_meadow_home f_t_meadow_seeds f_t_meadow_lungs f_t_meadow_blown f_t_meadow_ground)) hw hA (g_rV hx hb hml hG hown hK hw (is := [6]) rfl (by decide) (mX7_faultPlace l E o_p1 a_p1 v_p1_signs v_p1_acts v_p1_reading v_p1_begun v_p1_brokenAt r9 hc10) wd_15_14 wd_13_20 wd_13_21 wd_1_21 wd_13_22 hX7_faultPlace g_allgood ⟨rfl, rfl⟩ ⟨Nat.le_of_ble_eq_true rfl, Nat.le_of_ble_eq_true rfl⟩ ⟨Nat.zero_le _, Nat.zero_le _⟩ (ci := 6) (q0 := 0) rfl rfl rfl rfl hl.1 rfl (Nat.le_of_ble_eq_true rfl) dX5_run_1) rfl rfl rfl (fun H locs hw => ?_)
  refine lv_bipush (v := -6) hx hb dX5_run_4 k_bm6 ?_
  refine lv_icmp_eq (tgt := 12) hx hb dX5_run_6 (by decide) (fun hc => ?_) (fun hc => ?_)
  · have hf := g_t hc hf
    refine lv_aload_n hx hb dX5_run_12 rfl (lv_at hl 0 rfl) ?_
    refine g_get hx hb hG hown hK hw inlX5 (ci := 4) rfl 10 0 (Nat.le_of_ble_eq_true rfl) rfl rfl wd_4_14 dX5_run_13 ?_
    refine lv_aload_n hx hb dX5_run_16 rfl (lv_at hl 1 rfl) ?_
    obtain ⟨r11, hc12, hf⟩ := gB_s hf
    refine g_kv (is := [0, 1, 2, 3, 4, 5, 11, 12, 13, 14, 15, 16]) (w1 := (wX6_copyFrom E o_p0 a_p0 o_t_meadow a_t_meadow v_p0_families v_p0_wind v_p0_force v_p0_rain v_p0_lost v_p0_hour r11.1 r11.2.1 r11.2.2.1 r11.2.2.2.1 r11.2.2.2.2.1 r11.2.2.2.2.2.1 f_p0_home f_p0_seeds f_p0_lungs f_p0_blown f_p0_ground r11.2.2.2.2.2.2.1 r11.2.2.2.2.2.2.2.1 r11.2.2.2.2.2.2.2.2.1 r11.2.2.2.2.2.2.2.2.2.1 r11.2.2.2.2.2.2.2.2.2.2)) (ws' := (wX5_run E o_p0 a_p0 o_p1 a_p1 o_t o_t_meadow a_t_meadow v_p0_families v_p0_wind v_p0_force v_p0_rain v_p0_lost v_p0_hour v_p1_signs v_p1_acts v_p1_reading v_p1_begun v_p1_brokenAt v_t_barredAct v_t_barredWhy v_t_flown v_t_ruinAct v_t_ruinFamily r11.1 r11.2.1 r11.2.2.1 r11.2.2.2.1 r11.2.2.2.2.1 r11.2.2.2.2.2.1 f_p0_home f_p0_seeds f_p0_lungs f_p0_blown f_p0_ground f_p1_kinds f_p1_firsts f_p1_seconds r11.2.2.2.2.2.2.1 r11.2.2.2.2.2.2.2.1 r11.2.2.2.2.2.2.2.2.1 r11.2.2.2.2.2.2.2.2.2.1 r11.2.2.2.2.2.2.2.2.2.2)) hw hA (g_rV hx hb hml hG hown hK hw (is := [0, 1, 2, 3, 4, 5, 11, 12, 13, 14, 15, 16]) rfl (by decide) (mX6_copyFrom l E o_p0 a_p0 o_t_meadow a_t_meadow v_p0_families v_p0_wind v_p0_force v_p0_rain v_p0_lost v_p0_hour v_t_meadow_families v_t_meadow_wind v_t_meadow_force v_t_meadow_rain v_t_meadow_lost v_t_meadow_hour f_p0_home f_p0_seeds f_p0_lungs f_p0_blown f_p0_ground f_t_meadow_home f_t_meadow_seeds f_t_meadow_lungs f_t_meadow_blown f_t_meadow_ground r11.1 r11.2.1 r11.2.2.1 r11.2.2.2.1 r11.2.2.2.2.1 r11.2.2.2.2.2.1 r11.2.2.2.2.2.2.1 r11.2.2.2.2.2.2.2.1 r11.2.2.2.2.2.2.2.2.1 r11.2.2.2.2.2.2.2.2.2.1 r11.2.2.2.2.2.2.2.2.2.2 hc12) wd_15_15 wd_15_16 wd_15_17 wd_2_20 wd_15_18 hX6_copyFrom g_allgood ⟨rfl, rfl⟩ ⟨Nat.le_of_ble_eq_true rfl, Nat.le_of_ble_eq_true rfl⟩ ⟨Nat.zero_le _, Nat.zero_le _⟩ (ci := 5) (q0 := 6) rfl rfl rfl rfl hl.1 rfl (Nat.le_of_ble_eq_true rfl) dX5_run_17) rfl rfl rfl (fun H locs hw => ?_)
    refine lv_aload_n hx hb dX5_run_20 rfl (lv_at hl 0 rfl) ?_
    refine lv_bipush (v := -6) hx hb dX5_run_21 k_bm6 ?_
    refine g_put (ws' := (wX5_run E o_p0 a_p0 o_p1 a_p1 o_t o_t_meadow a_t_meadow v_p0_families v_p0_wind v_p0_force v_p0_rain v_p0_lost v_p0_hour v_p1_signs v_p1_acts v_p1_reading v_p1_begun v_p1_brokenAt (-6) v_t_barredWhy v_t_flown v_t_ruinAct v_t_ruinFamily r11.1 r11.2.1 r11.2.2.1 r11.2.2.2.1 r11.2.2.2.2.1 r11.2.2.2.2.2.1 f_p0_home f_p0_seeds f_p0_lungs f_p0_blown f_p0_ground f_p1_kinds f_p1_firsts f_p1_seconds r11.2.2.2.2.2.2.1 r11.2.2.2.2.2.2.2.1 r11.2.2.2.2.2.2.2.2.1 r11.2.2.2.2.2.2.2.2.2.1 r11.2.2.2.2.2.2.2.2.2.2)) hx hb hG hown hK hw inlX5 tyX5_ok nmX5 (ci := 4) rfl 10 1 (Nat.le_of_ble_eq_true rfl) rfl wd_4_15 rfl rfl rfl (Nat.le_of_ble_eq_true rfl) rfl dX5_run_23 (fun H locs hw => ?_)
    refine lv_aload_n hx hb dX5_run_26 rfl (lv_at hl 0 rfl) ?_
    refine lv_bipush (v := -6) hx hb dX5_run_27 k_bm6 ?_
    refine g_put (ws' := (wX5_run E o_p0 a_p0 o_p1 a_p1 o_t o_t_meadow a_t_meadow v_p0_families v_p0_wind v_p0_force v_p0_rain v_p0_lost v_p0_hour v_p1_signs v_p1_acts v_p1_reading v_p1_begun v_p1_brokenAt (-6) (-6) v_t_flown v_t_ruinAct v_t_ruinFamily r11.1 r11.2.1 r11.2.2.1 r11.2.2.2.1 r11.2.2.2.2.1 r11.2.2.2.2.2.1 f_p0_home f_p0_seeds f_p0_lungs f_p0_blown f_p0_ground f_p1_kinds f_p1_firsts f_p1_seconds r11.2.2.2.2.2.2.1 r11.2.2.2.2.2.2.2.1 r11.2.2.2.2.2.2.2.2.1 r11.2.2.2.2.2.2.2.2.2.1 r11.2.2.2.2.2.2.2.2.2.2)) hx hb hG hown hK hw inlX5 tyX5_ok nmX5 (ci := 4) rfl 10 2 (Nat.le_of_ble_eq_true rfl) rfl wd_4_16 rfl rfl rfl (Nat.le_of_ble_eq_true rfl) rfl dX5_run_29 (fun H locs hw => ?_)
    refine lv_aload_n hx hb dX5_run_32 rfl (lv_at hl 0 rfl) ?_
    refine lv_iconst (v := 0) hx hb dX5_run_33 k_i0 ?_
    refine g_put (ws' := (wX5_run E o_p0 a_p0 o_p1 a_p1 o_t o_t_meadow a_t_meadow v_p0_families v_p0_wind v_p0_force v_p0_rain v_p0_lost v_p0_hour v_p1_signs v_p1_acts v_p1_reading v_p1_begun v_p1_brokenAt (-6) (-6) 0 v_t_ruinAct v_t_ruinFamily r11.1 r11.2.1 r11.2.2.1 r11.2.2.2.1 r11.2.2.2.2.1 r11.2.2.2.2.2.1 f_p0_home f_p0_seeds f_p0_lungs f_p0_blown f_p0_ground f_p1_kinds f_p1_firsts f_p1_seconds r11.2.2.2.2.2.2.1 r11.2.2.2.2.2.2.2.1 r11.2.2.2.2.2.2.2.2.1 r11.2.2.2.2.2.2.2.2.2.1 r11.2.2.2.2.2.2.2.2.2.2)) hx hb hG hown hK hw inlX5 tyX5_ok nmX5 (ci := 4) rfl 10 3 (Nat.le_of_ble_eq_true rfl) rfl wd_4_17 rfl rfl rfl (Nat.le_of_ble_eq_true rfl) rfl dX5_run_34 (fun H locs hw => ?_)
    refine lv_aload_n hx hb dX5_run_37 rfl (lv_at hl 0 rfl) ?_
    refine lv_bipush (v := -6) hx hb dX5_run_38 k_bm6 ?_
    refine g_put (ws' := (wX5_run E o_p0 a_p0 o_p1 a_p1 o_t o_t_meadow a_t_meadow v_p0_families v_p0_wind v_p0_force v_p0_rain v_p0_lost v_p0_hour v_p1_signs v_p1_acts v_p1_reading v_p1_begun v_p1_brokenAt (-6) (-6) 0 (-6) v_t_ruinFamily r11.1 r11.2.1 r11.2.2.1 r11.2.2.2.1 r11.2.2.2.2.1 r11.2.2.2.2.2.1 f_p0_home f_p0_seeds f_p0_lungs f_p0_blown f_p0_ground f_p1_kinds f_p1_firsts f_p1_seconds r11.2.2.2.2.2.2.1 r11.2.2.2.2.2.2.2.1 r11.2.2.2.2.2.2.2.2.1 r11.2.2.2.2.2.2.2.2.2.1 r11.2.2.2.2.2.2.2.2.2.2)) hx hb hG hown hK hw inlX5 tyX5_ok nmX5 (ci := 4) rfl 10 4 (Nat.le_of_ble_eq_true rfl) rfl wd_4_18 rfl rfl rfl (Nat.le_of_ble_eq_true rfl) rfl dX5_run_40 (fun H locs hw => ?_)
    refine lv_aload_n hx hb dX5_run_43 rfl (lv_at hl 0 rfl) ?_
    refine lv_bipush (v := -6) hx hb dX5_run_44 k_bm6 ?_
    refine g_put (ws' := (wX5_run E o_p0 a_p0 o_p1 a_p1 o_t o_t_meadow a_t_meadow v_p0_families v_p0_wind v_p0_force v_p0_rain v_p0_lost v_p0_hour v_p1_signs v_p1_acts v_p1_reading v_p1_begun v_p1_brokenAt (-6) (-6) 0 (-6) (-6) r11.1 r11.2.1 r11.2.2.1 r11.2.2.2.1 r11.2.2.2.2.1 r11.2.2.2.2.2.1 f_p0_home f_p0_seeds f_p0_lungs f_p0_blown f_p0_ground f_p1_kinds f_p1_firsts f_p1_seconds r11.2.2.2.2.2.2.1 r11.2.2.2.2.2.2.2.1 r11.2.2.2.2.2.2.2.2.1 r11.2.2.2.2.2.2.2.2.2.1 r11.2.2.2.2.2.2.2.2.2.2)) hx hb hG hown hK hw inlX5 tyX5_ok nmX5 (ci := 4) rfl 10 5 (Nat.le_of_ble_eq_true rfl) rfl wd_4_19 rfl rfl rfl (Nat.le_of_ble_eq_true rfl) rfl dX5_run_46 (fun H locs hw => ?_)
    refine lv_iconst (v := 0) hx hb dX5_run_49 k_i0 ?_
    refine lv_istore_n (lv' := [(3, .int 0), (0, .ref o_t), (1, .ref o_p0), (2, .ref o_p1)]) hx hb dX5_run_50 rfl hl (Nat.le_of_ble_eq_true rfl) rfl (fun ls hl => ?_)
    exact B51 1000 (-6) (-6) 0 (-6) (-6) r11.1 r11.2.1 r11.2.2.1 r11.2.2.2.1 r11.2.2.2.2.1 r11.2.2.2.2.2.1 r11.2.2.2.2.2.2.1 r11.2.2.2.2.2.2.2.1 r11.2.2.2.2.2.2.2.2.1 r11.2.2.2.2.2.2.2.2.2.1 r11.2.2.2.2.2.2.2.2.2.2 0 _ _ _ hf hw (lv_sub hl [1, 3, 0] rfl)
  · have hf := g_f hc hf
    refine lv_bipush (v := -5) hx hb dX5_run_9 k_bm5 ?_
    exact hret1 (-5) v_t_barredAct v_t_barredWhy v_t_flown v_t_ruinAct v_t_ruinFamily v_t_meadow_families v_t_meadow_wind v_t_meadow_force v_t_meadow_rain v_t_meadow_lost v_t_meadow_hour f_t_meadow_home f_t_meadow_seeds f_t_meadow_lungs f_t_meadow_blown f_t_meadow_ground _ _ _ _ hf hw dX5_run_11
theorem hJ6_bitCount_0f7a4 : yJ6_bitCount_0f7a4.cls ≠ "java/lang/invoke/MethodHandle" ∧ yJ6_bitCount_0f7a4.cls ≠ "java/lang/invoke/VarHandle" ∧ (parseMethodDescriptor yJ6_bitCount_0f7a4.desc).map (fun d => d.parameters.length) = some 1 := by decide +kernel
set_option maxHeartbeats 4000000 in
set_option maxRecDepth 100000 in
theorem mJ6_bitCount_0f7a4 (l : Launch) (E : gE) (x0 : Int32) (rv : Int32) (hf : fJ6_bitCount_0f7a4 x0 = some rv) {sz : Nat} : gMi l yJ6_bitCount_0f7a4 (gW yJ6_bitCount_0f7a4 cJ6_bitCount_0f7a4 1 (some .int)) ({ frames := 0, cells := 0, slots := 0, locals := 0 } : Room) E [.int x0] (wJ6_bitCount_0f7a4 E) sz rv (wJ6_bitCount_0f7a4 E) := by
  refine g_openI (own := RJ6) (by decide) rfl (Nat.le_of_ble_eq_true rfl) (fun p e s m args below meth cd Q A hx hb hml hown hG hK hA hret hw ls hl => ?_)
  have hl : lv_has ls 1 [(0, .int x0)] := hl
  have hret1 : ∀ (v : Int32)  (H : Heap) (locs : List Loc) (pc : Nat) (ls : Array Slot), some v = some rv → gS E A s.heap (wJ6_bitCount_0f7a4 E) H locs → decode cJ6_bitCount_0f7a4 pc = .ok (.ireturn, 1) → W p l e ({ frames := 0, cells := 0, slots := 0, locals := 0 } : Room) s m args below meth cd H locs 0 0 Q (F0 m pc ls [.int v]) := by
    intro v  H locs pc ls h hw hd
    cases h
    exact hret H locs pc ls hw hd
  refine lv_iload_n hx hb dJ6_bitCount_0f7a4_0 rfl (lv_at hl 0 rfl) ?_
  refine lv_iload_n hx hb dJ6_bitCount_0f7a4_1 rfl (lv_at hl 0 rfl) ?_
  refine lv_iconst (v := 1) hx hb dJ6_bitCount_0f7a4_2 k_i1 ?_
  refine lv_iushr hx hb dJ6_bitCount_0f7a4_3 rfl ?_
  refine lv_ldcw hx hb hown (hG _ wd_7_23) dJ6_bitCount_0f7a4_4 ?_
  refine lv_iand hx hb dJ6_bitCount_0f7a4_7 ?_
  refine lv_isub hx hb dJ6_bitCount_0f7a4_8 ?_
  refine lv_istore_n (lv' := [(0, .int (x0 - ((((x0 : Int32).toUInt32 >>> ((1 : Int32).toUInt32 &&& Int32.toUInt32 31)).toInt32) &&& 1431655765)))]) hx hb dJ6_bitCount_0f7a4_9 rfl hl (Nat.le_of_ble_eq_true rfl) rfl (fun ls hl => ?_)
  refine lv_iload_n hx hb dJ6_bitCount_0f7a4_10 rfl (lv_at hl 0 rfl) ?_
  refine lv_ldcw hx hb hown (hG _ wd_8_0) dJ6_bitCount_0f7a4_11 ?_
  refine lv_iand hx hb dJ6_bitCount_0f7a4_14 ?_
  refine lv_iload_n hx hb dJ6_bitCount_0f7a4_15 rfl (lv_at hl 0 rfl) ?_
  refine lv_iconst (v := 2) hx hb dJ6_bitCount_0f7a4_16 k_i2 ?_
  refine lv_iushr hx hb dJ6_bitCount_0f7a4_17 rfl ?_
  refine lv_ldcw hx hb hown (hG _ wd_8_0) dJ6_bitCount_0f7a4_18 ?_
  refine lv_iand hx hb dJ6_bitCount_0f7a4_21 ?_
  refine lv_iadd hx hb dJ6_bitCount_0f7a4_22 ?_
  refine lv_istore_n (lv' := [(0, .int (((x0 - ((((x0 : Int32).toUInt32 >>> ((1 : Int32).toUInt32 &&& Int32.toUInt32 31)).toInt32) &&& 1431655765)) &&& 858993459) + (((((x0 - ((((x0 : Int32).toUInt32 >>> ((1 : Int32).toUInt32 &&& Int32.toUInt32 31)).toInt32) &&& 1431655765)) : Int32).toUInt32 >>> ((2 : Int32).toUInt32 &&& Int32.toUInt32 31)).toInt32) &&& 858993459)))]) hx hb dJ6_bitCount_0f7a4_23 rfl hl (Nat.le_of_ble_eq_true rfl) rfl (fun ls hl => ?_)
  refine lv_iload_n hx hb dJ6_bitCount_0f7a4_24 rfl (lv_at hl 0 rfl) ?_
  refine lv_iload_n hx hb dJ6_bitCount_0f7a4_25 rfl (lv_at hl 0 rfl) ?_
  refine lv_iconst (v := 4) hx hb dJ6_bitCount_0f7a4_26 k_i4 ?_
  refine lv_iushr hx hb dJ6_bitCount_0f7a4_27 rfl ?_
  refine lv_iadd hx hb dJ6_bitCount_0f7a4_28 ?_
  refine lv_ldcw hx hb hown (hG _ wd_8_1) dJ6_bitCount_0f7a4_29 ?_
  refine lv_iand hx hb dJ6_bitCount_0f7a4_32 ?_
  refine lv_istore_n (lv' := [(0, .int (((((x0 - ((((x0 : Int32).toUInt32 >>> ((1 : Int32).toUInt32 &&& Int32.toUInt32 31)).toInt32) &&& 1431655765)) &&& 858993459) + (((((x0 - ((((x0 : Int32).toUInt32 >>> ((1 : Int32).toUInt32 &&& Int32.toUInt32 31)).toInt32) &&& 1431655765)) : Int32).toUInt32 >>> ((2 : Int32).toUInt32 &&& Int32.toUInt32 31)).toInt32) &&& 858993459)) + ((((((x0 - ((((x0 : Int32).toUInt32 >>> ((1 : Int32).toUInt32 &&& Int32.toUInt32 31)).toInt32) &&& 1431655765)) &&& 858993459) + (((((x0 - ((((x0 : Int32).toUInt32 >>> ((1 : Int32).toUInt32 &&& Int32.toUInt32 31)).toInt32) &&& 1431655765)) : Int32).toUInt32 >>> ((2 : Int32).toUInt32 &&& Int32.toUInt32 31)).toInt32) &&& 858993459)) : Int32).toUInt32 >>> ((4 : Int32).toUInt32 &&& Int32.toUInt32 31)).toInt32)) &&& 252645135))]) hx hb dJ6_bitCount_0f7a4_33 rfl hl (Nat.le_of_ble_eq_true rfl) rfl (fun ls hl => ?_)
  refine lv_iload_n hx hb dJ6_bitCount_0f7a4_34 rfl (lv_at hl 0 rfl) ?_
  refine lv_iload_n hx hb dJ6_bitCount_0f7a4_35 rfl (lv_at hl 0 rfl) ?_
  refine lv_bipush (v := 8) hx hb dJ6_bitCount_0f7a4_36 k_b8 ?_
  refine lv_iushr hx hb dJ6_bitCount_0f7a4_38 rfl ?_
  refine lv_iadd hx hb dJ6_bitCount_0f7a4_39 ?_
  refine lv_istore_n (lv' := [(0, .int ((((((x0 - ((((x0 : Int32).toUInt32 >>> ((1 : Int32).toUInt32 &&& Int32.toUInt32 31)).toInt32) &&& 1431655765)) &&& 858993459) + (((((x0 - ((((x0 : Int32).toUInt32 >>> ((1 : Int32).toUInt32 &&& Int32.toUInt32 31)).toInt32) &&& 1431655765)) : Int32).toUInt32 >>> ((2 : Int32).toUInt32 &&& Int32.toUInt32 31)).toInt32) &&& 858993459)) + ((((((x0 - ((((x0 : Int32).toUInt32 >>> ((1 : Int32).toUInt32 &&& Int32.toUInt32 31)).toInt32) &&& 1431655765)) &&& 858993459) + (((((x0 - ((((x0 : Int32).toUInt32 >>> ((1 : Int32).toUInt32 &&& Int32.toUInt32 31)).toInt32) &&& 1431655765)) : Int32).toUInt32 >>> ((2 : Int32).toUInt32 &&& Int32.toUInt32 31)).toInt32) &&& 858993459)) : Int32).toUInt32 >>> ((4 : Int32).toUInt32 &&& Int32.toUInt32 31)).toInt32)) &&& 252645135) + ((((((((x0 - ((((x0 : Int32).toUInt32 >>> ((1 : Int32).toUInt32 &&& Int32.toUInt32 31)).toInt32) &&& 1431655765)) &&& 858993459) + (((((x0 - ((((x0 : Int32).toUInt32 >>> ((1 : Int32).toUInt32 &&& Int32.toUInt32 31)).toInt32) &&& 1431655765)) : Int32).toUInt32 >>> ((2 : Int32).toUInt32 &&& Int32.toUInt32 31)).toInt32) &&& 858993459)) + ((((((x0 - ((((x0 : Int32).toUInt32 >>> ((1 : Int32).toUInt32 &&& Int32.toUInt32 31)).toInt32) &&& 1431655765)) &&& 858993459) + (((((x0 - ((((x0 : Int32).toUInt32 >>> ((1 : Int32).toUInt32 &&& Int32.toUInt32 31)).toInt32) &&& 1431655765)) : Int32).toUInt32 >>> ((2 : Int32).toUInt32 &&& Int32.toUInt32 31)).toInt32) &&& 858993459)) : Int32).toUInt32 >>> ((4 : Int32).toUInt32 &&& Int32.toUInt32 31)).toInt32)) &&& 252645135) : Int32).toUInt32 >>> ((8 : Int32).toUInt32 &&& Int32.toUInt32 31)).toInt32)))]) hx hb dJ6_bitCount_0f7a4_40 rfl hl (Nat.le_of_ble_eq_true rfl) rfl (fun ls hl => ?_)
  refine lv_iload_n hx hb dJ6_bitCount_0f7a4_41 rfl (lv_at hl 0 rfl) ?_
  refine lv_iload_n hx hb dJ6_bitCount_0f7a4_42 rfl (lv_at hl 0 rfl) ?_
  refine lv_bipush (v := 16) hx hb dJ6_bitCount_0f7a4_43 k_b16 ?_
  refine lv_iushr hx hb dJ6_bitCount_0f7a4_45 rfl ?_
  refine lv_iadd hx hb dJ6_bitCount_0f7a4_46 ?_
  refine lv_istore_n (lv' := [(0, .int (((((((x0 - ((((x0 : Int32).toUInt32 >>> ((1 : Int32).toUInt32 &&& Int32.toUInt32 31)).toInt32) &&& 1431655765)) &&& 858993459) + (((((x0 - ((((x0 : Int32).toUInt32 >>> ((1 : Int32).toUInt32 &&& Int32.toUInt32 31)).toInt32) &&& 1431655765)) : Int32).toUInt32 >>> ((2 : Int32).toUInt32 &&& Int32.toUInt32 31)).toInt32) &&& 858993459)) + ((((((x0 - ((((x0 : Int32).toUInt32 >>> ((1 : Int32).toUInt32 &&& Int32.toUInt32 31)).toInt32) &&& 1431655765)) &&& 858993459) + (((((x0 - ((((x0 : Int32).toUInt32 >>> ((1 : Int32).toUInt32 &&& Int32.toUInt32 31)).toInt32) &&& 1431655765)) : Int32).toUInt32 >>> ((2 : Int32).toUInt32 &&& Int32.toUInt32 31)).toInt32) &&& 858993459)) : Int32).toUInt32 >>> ((4 : Int32).toUInt32 &&& Int32.toUInt32 31)).toInt32)) &&& 252645135) + ((((((((x0 - ((((x0 : Int32).toUInt32 >>> ((1 : Int32).toUInt32 &&& Int32.toUInt32 31)).toInt32) &&& 1431655765)) &&& 858993459) + (((((x0 - ((((x0 : Int32).toUInt32 >>> ((1 : Int32).toUInt32 &&& Int32.toUInt32 31)).toInt32) &&& 1431655765)) : Int32).toUInt32 >>> ((2 : Int32).toUInt32 &&& Int32.toUInt32 31)).toInt32) &&& 858993459)) + ((((((x0 - ((((x0 : Int32).toUInt32 >>> ((1 : Int32).toUInt32 &&& Int32.toUInt32 31)).toInt32) &&& 1431655765)) &&& 858993459) + (((((x0 - ((((x0 : Int32).toUInt32 >>> ((1 : Int32).toUInt32 &&& Int32.toUInt32 31)).toInt32) &&& 1431655765)) : Int32).toUInt32 >>> ((2 : Int32).toUInt32 &&& Int32.toUInt32 31)).toInt32) &&& 858993459)) : Int32).toUInt32 >>> ((4 : Int32).toUInt32 &&& Int32.toUInt32 31)).toInt32)) &&& 252645135) : Int32).toUInt32 >>> ((8 : Int32).toUInt32 &&& Int32.toUInt32 31)).toInt32)) + (((((((((x0 - ((((x0 : Int32).toUInt32 >>> ((1 : Int32).toUInt32 &&& Int32.toUInt32 31)).toInt32) &&& 1431655765)) &&& 858993459) + (((((x0 - ((((x0 : Int32).toUInt32 >>> ((1 : Int32).toUInt32 &&& Int32.toUInt32 31)).toInt32) &&& 1431655765)) : Int32).toUInt32 >>> ((2 : Int32).toUInt32 &&& Int32.toUInt32 31)).toInt32) &&& 858993459)) + ((((((x0 - ((((x0 : Int32).toUInt32 >>> ((1 : Int32).toUInt32 &&& Int32.toUInt32 31)).toInt32) &&& 1431655765)) &&& 858993459) + (((((x0 - ((((x0 : Int32).toUInt32 >>> ((1 : Int32).toUInt32 &&& Int32.toUInt32 31)).toInt32) &&& 1431655765)) : Int32).toUInt32 >>> ((2 : Int32).toUInt32 &&& Int32.toUInt32 31)).toInt32) &&& 858993459)) : Int32).toUInt32 >>> ((4 : Int32).toUInt32 &&& Int32.toUInt32 31)).toInt32)) &&& 252645135) + ((((((((x0 - ((((x0 : Int32).toUInt32 >>> ((1 : Int32).toUInt32 &&& Int32.toUInt32 31)).toInt32) &&& 1431655765)) &&& 858993459) + (((((x0 - ((((x0 : Int32).toUInt32 >>> ((1 : Int32).toUInt32 &&& Int32.toUInt32 31)).toInt32) &&& 1431655765)) : Int32).toUInt32 >>> ((2 : Int32).toUInt32 &&& Int32.toUInt32 31)).toInt32) &&& 858993459)) + ((((((x0 - ((((x0 : Int32).toUInt32 >>> ((1 : Int32).toUInt32 &&& Int32.toUInt32 31)).toInt32) &&& 1431655765)) &&& 858993459) + (((((x0 - ((((x0 : Int32).toUInt32 >>> ((1 : Int32).toUInt32 &&& Int32.toUInt32 31)).toInt32) &&& 1431655765)) : Int32).toUInt32 >>> ((2 : Int32).toUInt32 &&& Int32.toUInt32 31)).toInt32) &&& 858993459)) : Int32).toUInt32 >>> ((4 : Int32).toUInt32 &&& Int32.toUInt32 31)).toInt32)) &&& 252645135) : Int32).toUInt32 >>> ((8 : Int32).toUInt32 &&& Int32.toUInt32 31)).toInt32)) : Int32).toUInt32 >>> ((16 : Int32).toUInt32 &&& Int32.toUInt32 31)).toInt32)))]) hx hb dJ6_bitCount_0f7a4_47 rfl hl (Nat.le_of_ble_eq_true rfl) rfl (fun ls hl => ?_)
  refine lv_iload_n hx hb dJ6_bitCount_0f7a4_48 rfl (lv_at hl 0 rfl) ?_
  refine lv_bipush (v := 63) hx hb dJ6_bitCount_0f7a4_49 k_b63 ?_
  refine lv_iand hx hb dJ6_bitCount_0f7a4_51 ?_
  exact hret1 ((((((((x0 - ((((x0 : Int32).toUInt32 >>> ((1 : Int32).toUInt32 &&& Int32.toUInt32 31)).toInt32) &&& 1431655765)) &&& 858993459) + (((((x0 - ((((x0 : Int32).toUInt32 >>> ((1 : Int32).toUInt32 &&& Int32.toUInt32 31)).toInt32) &&& 1431655765)) : Int32).toUInt32 >>> ((2 : Int32).toUInt32 &&& Int32.toUInt32 31)).toInt32) &&& 858993459)) + ((((((x0 - ((((x0 : Int32).toUInt32 >>> ((1 : Int32).toUInt32 &&& Int32.toUInt32 31)).toInt32) &&& 1431655765)) &&& 858993459) + (((((x0 - ((((x0 : Int32).toUInt32 >>> ((1 : Int32).toUInt32 &&& Int32.toUInt32 31)).toInt32) &&& 1431655765)) : Int32).toUInt32 >>> ((2 : Int32).toUInt32 &&& Int32.toUInt32 31)).toInt32) &&& 858993459)) : Int32).toUInt32 >>> ((4 : Int32).toUInt32 &&& Int32.toUInt32 31)).toInt32)) &&& 252645135) + ((((((((x0 - ((((x0 : Int32).toUInt32 >>> ((1 : Int32).toUInt32 &&& Int32.toUInt32 31)).toInt32) &&& 1431655765)) &&& 858993459) + (((((x0 - ((((x0 : Int32).toUInt32 >>> ((1 : Int32).toUInt32 &&& Int32.toUInt32 31)).toInt32) &&& 1431655765)) : Int32).toUInt32 >>> ((2 : Int32).toUInt32 &&& Int32.toUInt32 31)).toInt32) &&& 858993459)) + ((((((x0 - ((((x0 : Int32).toUInt32 >>> ((1 : Int32).toUInt32 &&& Int32.toUInt32 31)).toInt32) &&& 1431655765)) &&& 858993459) + (((((x0 - ((((x0 : Int32).toUInt32 >>> ((1 : Int32).toUInt32 &&& Int32.toUInt32 31)).toInt32) &&& 1431655765)) : Int32).toUInt32 >>> ((2 : Int32).toUInt32 &&& Int32.toUInt32 31)).toInt32) &&& 858993459)) : Int32).toUInt32 >>> ((4 : Int32).toUInt32 &&& Int32.toUInt32 31)).toInt32)) &&& 252645135) : Int32).toUInt32 >>> ((8 : Int32).toUInt32 &&& Int32.toUInt32 31)).toInt32)) + (((((((((x0 - ((((x0 : Int32).toUInt32 >>> ((1 : Int32).toUInt32 &&& Int32.toUInt32 31)).toInt32) &&& 1431655765)) &&& 858993459) + (((((x0 - ((((x0 : Int32).toUInt32 >>> ((1 : Int32).toUInt32 &&& Int32.toUInt32 31)).toInt32) &&& 1431655765)) : Int32).toUInt32 >>> ((2 : Int32).toUInt32 &&& Int32.toUInt32 31)).toInt32) &&& 858993459)) + ((((((x0 - ((((x0 : Int32).toUInt32 >>> ((1 : Int32).toUInt32 &&& Int32.toUInt32 31)).toInt32) &&& 1431655765)) &&& 858993459) + (((((x0 - ((((x0 : Int32).toUInt32 >>> ((1 : Int32).toUInt32 &&& Int32.toUInt32 31)).toInt32) &&& 1431655765)) : Int32).toUInt32 >>> ((2 : Int32).toUInt32 &&& Int32.toUInt32 31)).toInt32) &&& 858993459)) : Int32).toUInt32 >>> ((4 : Int32).toUInt32 &&& Int32.toUInt32 31)).toInt32)) &&& 252645135) + ((((((((x0 - ((((x0 : Int32).toUInt32 >>> ((1 : Int32).toUInt32 &&& Int32.toUInt32 31)).toInt32) &&& 1431655765)) &&& 858993459) + (((((x0 - ((((x0 : Int32).toUInt32 >>> ((1 : Int32).toUInt32 &&& Int32.toUInt32 31)).toInt32) &&& 1431655765)) : Int32).toUInt32 >>> ((2 : Int32).toUInt32 &&& Int32.toUInt32 31)).toInt32) &&& 858993459)) + ((((((x0 - ((((x0 : Int32).toUInt32 >>> ((1 : Int32).toUInt32 &&& Int32.toUInt32 31)).toInt32) &&& 1431655765)) &&& 858993459) + (((((x0 - ((((x0 : Int32).toUInt32 >>> ((1 : Int32).toUInt32 &&& Int32.toUInt32 31)).toInt32) &&& 1431655765)) : Int32).toUInt32 >>> ((2 : Int32).toUInt32 &&& Int32.toUInt32 31)).toInt32) &&& 858993459)) : Int32).toUInt32 >>> ((4 : Int32).toUInt32 &&& Int32.toUInt32 31)).toInt32)) &&& 252645135) : Int32).toUInt32 >>> ((8 : Int32).toUInt32 &&& Int32.toUInt32 31)).toInt32)) : Int32).toUInt32 >>> ((16 : Int32).toUInt32 &&& Int32.toUInt32 31)).toInt32)) &&& 63) _ _ _ _ hf hw dJ6_bitCount_0f7a4_52
theorem hX6_howManyFamilies : yX6_howManyFamilies.cls = RX6 ∧ yX6_howManyFamilies.cls ≠ "java/lang/invoke/MethodHandle" ∧ yX6_howManyFamilies.cls ≠ "java/lang/invoke/VarHandle" ∧ (parseMethodDescriptor yX6_howManyFamilies.desc).map (fun d => d.parameters.length) = some 0 := by decide +kernel
set_option maxHeartbeats 4000000 in
set_option maxRecDepth 100000 in
theorem mX6_howManyFamilies (l : Launch) (E : gE) (o_t : Nat) (a_t : (Nat → Nat)) (v_t_families : Int32) (v_t_wind : Int32) (v_t_force : Int32) (v_t_rain : Int32) (v_t_lost : Int32) (v_t_hour : Int32) (rv : Int32) (hf : fX6_howManyFamilies v_t_families = some rv) {sz : Nat} : gMi l yX6_howManyFamilies (gW yX6_howManyFamilies cX6_howManyFamilies 1 (some .int)) ({ frames := 1, cells := 0, slots := 0, locals := 20 } : Room) E [.ref o_t] (wX6_howManyFamilies E o_t a_t v_t_families v_t_wind v_t_force v_t_rain v_t_lost v_t_hour) sz rv (wX6_howManyFamilies E o_t a_t v_t_families v_t_wind v_t_force v_t_rain v_t_lost v_t_hour) := by
  refine g_openI (own := RX6) (by decide) rfl (Nat.le_of_ble_eq_true rfl) (fun p e s m args below meth cd Q A hx hb hml hown hG hK hA hret hw ls hl => ?_)
  have hl : lv_has ls 1 [(0, .ref o_t)] := hl
  have hret1 : ∀ (v : Int32)  (H : Heap) (locs : List Loc) (pc : Nat) (ls : Array Slot), some v = some rv → gS E A s.heap (wX6_howManyFamilies E o_t a_t v_t_families v_t_wind v_t_force v_t_rain v_t_lost v_t_hour) H locs → decode cX6_howManyFamilies pc = .ok (.ireturn, 1) → W p l e ({ frames := 1, cells := 0, slots := 0, locals := 20 } : Room) s m args below meth cd H locs 0 0 Q (F0 m pc ls [.int v]) := by
    intro v  H locs pc ls h hw hd
    cases h
    exact hret H locs pc ls hw hd
  refine lv_aload_n hx hb dX6_howManyFamilies_0 rfl (lv_at hl 0 rfl) ?_
  refine g_get hx hb hG hown hK hw inlX6 (ci := 5) rfl 0 5 (Nat.le_of_ble_eq_true rfl) rfl rfl wd_3_11 dX6_howManyFamilies_1 ?_
  obtain ⟨r1, hc2, hf⟩ := gB_s hf
  refine g_ki (is := []) (w1 := (wJ6_bitCount_0f7a4 E)) (ws' := (wX6_howManyFamilies E o_t a_t v_t_families v_t_wind v_t_force v_t_rain v_t_lost v_t_hour)) hw hA (g_rS hx hb hml hG hown hK hw (is := []) rfl (by decide) (mJ6_bitCount_0f7a4 l E v_t_families r1 hc2) wd_7_19 wd_7_20 wd_7_21 wd_7_22 hJ6_bitCount_0f7a4 g_allgood ⟨rfl, rfl⟩ ⟨Nat.le_of_ble_eq_true rfl, Nat.le_of_ble_eq_true rfl⟩ ⟨Nat.zero_le _, Nat.zero_le _⟩ rfl hl.1 rfl (Nat.le_of_ble_eq_true rfl) dX6_howManyFamilies_4) rfl rfl rfl (fun H locs hw => ?_)
  exact hret1 r1 _ _ _ _ hf hw dX6_howManyFamilies_7
theorem hX6_settle : yX6_settle.cls = RX6 ∧ yX6_settle.cls ≠ "java/lang/invoke/MethodHandle" ∧ yX6_settle.cls ≠ "java/lang/invoke/VarHandle" ∧ (parseMethodDescriptor yX6_settle.desc).map (fun d => d.parameters.length) = some 4 := by decide +kernel
set_option maxHeartbeats 4000000 in
set_option maxRecDepth 100000 in
theorem mX6_settle (l : Launch) (E : gE) (o_t : Nat) (a_t : (Nat → Nat)) (v_t_families : Int32) (v_t_wind : Int32) (v_t_force : Int32) (v_t_rain : Int32) (v_t_lost : Int32) (v_t_hour : Int32) (f_t_home : (Nat → Int32)) (f_t_seeds : (Nat → Int32)) (f_t_lungs : (Nat → Int32)) (f_t_blown : (Nat → Int32)) (x1 : Int32) (x2 : Int32) (x3 : Int32) (x4 : Int32) (z_t_families : Int32) (z_t_home : (Nat → Int32)) (z_t_seeds : (Nat → Int32)) (z_t_lungs : (Nat → Int32)) (z_t_blown : (Nat → Int32)) (hf : fX6_settle v_t_families f_t_home f_t_seeds f_t_lungs f_t_blown x1 x2 x3 x4 = some (z_t_families, z_t_home, z_t_seeds, z_t_lungs, z_t_blown)) {sz : Nat} : gMv l yX6_settle (gW yX6_settle cX6_settle 5 none) ({ frames := 0, cells := 0, slots := 0, locals := 0 } : Room) E [.ref o_t, .int x1, .int x2, .int x3, .int x4] (wX6_settle E o_t a_t v_t_families v_t_wind v_t_force v_t_rain v_t_lost v_t_hour f_t_home f_t_seeds f_t_lungs f_t_blown) sz (wX6_settle E o_t a_t z_t_families v_t_wind v_t_force v_t_rain v_t_lost v_t_hour z_t_home z_t_seeds z_t_lungs z_t_blown) := by
  refine g_openV (own := RX6) (by decide) rfl (Nat.le_of_ble_eq_true rfl) (fun p e s m args below meth cd Q A hx hb hml hown hG hK hA hret hw ls hl => ?_)
  have hl : lv_has ls 5 [(0, .ref o_t), (1, .int x1), (2, .int x2), (3, .int x3), (4, .int x4)] := hl
  have hret1 : ∀ (v_t_families : Int32) (f_t_home : (Nat → Int32)) (f_t_seeds : (Nat → Int32)) (f_t_lungs : (Nat → Int32)) (f_t_blown : (Nat → Int32)) (H : Heap) (locs : List Loc) (pc : Nat) (ls : Array Slot), some (v_t_families, f_t_home, f_t_seeds, f_t_lungs, f_t_blown) = some (z_t_families, z_t_home, z_t_seeds, z_t_lungs, z_t_blown) → gS E A s.heap (wX6_settle E o_t a_t v_t_families v_t_wind v_t_force v_t_rain v_t_lost v_t_hour f_t_home f_t_seeds f_t_lungs f_t_blown) H locs → decode cX6_settle pc = .ok (.return_, 1) → W p l e ({ frames := 0, cells := 0, slots := 0, locals := 0 } : Room) s m args below meth cd H locs 0 0 Q (F0 m pc ls []) := by
    intro v_t_families f_t_home f_t_seeds f_t_lungs f_t_blown H locs pc ls h hw hd
    cases h
    exact hret H locs pc ls hw hd
  have B10 : ∀ (v_t_families : Int32) (f_t_home : (Nat → Int32)) (f_t_seeds : (Nat → Int32)) (f_t_lungs : (Nat → Int32)) (f_t_blown : (Nat → Int32)) (H : Heap) (locs : List Loc) (ls : Array Slot), fX6_settle_b10 v_t_families f_t_home f_t_seeds f_t_lungs f_t_blown = some (z_t_families, z_t_home, z_t_seeds, z_t_lungs, z_t_blown) → gS E A s.heap (wX6_settle E o_t a_t v_t_families v_t_wind v_t_force v_t_rain v_t_lost v_t_hour f_t_home f_t_seeds f_t_lungs f_t_blown) H locs → lv_has ls 5 [] → W p l e ({ frames := 0, cells := 0, slots := 0, locals := 0 } : Room) s m args below meth cd H locs 0 0 Q (F0 m 10 ls []) := by
    intro  v_t_families f_t_home f_t_seeds f_t_lungs f_t_blown H locs ls hf hw hl
    exact hret1 v_t_families f_t_home f_t_seeds f_t_lungs f_t_blown _ _ _ _ hf hw dX6_settle_10
  refine lv_iload_n hx hb dX6_settle_0 rfl (lv_at hl 1 rfl) ?_
  refine lv_if_lt (tgt := 10) hx hb dX6_settle_1 (by decide) (fun hc => ?_) (fun hc => ?_)
  · have hf := g_t hc hf
    exact B10 v_t_families f_t_home f_t_seeds f_t_lungs f_t_blown _ _ _ hf hw (lv_sub hl [] rfl)
  · have hf := g_f hc hf
    refine lv_iload_n hx hb dX6_settle_4 rfl (lv_at hl 1 rfl) ?_
    refine lv_bipush (v := 6) hx hb dX6_settle_5 k_b6 ?_
    refine lv_icmp_lt (tgt := 11) hx hb dX6_settle_7 (by decide) (fun hc => ?_) (fun hc => ?_)
    · have hf := g_t hc hf
      refine lv_aload_n hx hb dX6_settle_11 rfl (lv_at hl 0 rfl) ?_
      refine lv_dup hx hb dX6_settle_12 rfl ?_
      refine g_get hx hb hG hown hK hw inlX6 (ci := 5) rfl 0 5 (Nat.le_of_ble_eq_true rfl) rfl rfl wd_3_11 dX6_settle_13 ?_
      refine lv_iconst (v := 1) hx hb dX6_settle_16 k_i1 ?_
      refine lv_iload_n hx hb dX6_settle_17 rfl (lv_at hl 1 rfl) ?_
      refine lv_ishl hx hb dX6_settle_18 ?_
      refine lv_ior hx hb dX6_settle_19 ?_
      refine g_put (ws' := (wX6_settle E o_t a_t (v_t_families ||| (1 <<< (x1 &&& 31))) v_t_wind v_t_force v_t_rain v_t_lost v_t_hour f_t_home f_t_seeds f_t_lungs f_t_blown)) hx hb hG hown hK hw inlX6 tyX6_ok nmX6 (ci := 5) rfl 0 5 (Nat.le_of_ble_eq_true rfl) rfl wd_3_11 rfl rfl rfl (Nat.le_of_ble_eq_true rfl) rfl dX6_settle_20 (fun H locs hw => ?_)
      refine lv_aload_n hx hb dX6_settle_23 rfl (lv_at hl 0 rfl) ?_
      refine g_get hx hb hG hown hK hw inlX6 (ci := 5) rfl 0 0 (Nat.le_of_ble_eq_true rfl) rfl rfl wd_3_6 dX6_settle_24 ?_
      refine lv_iload_n hx hb dX6_settle_27 rfl (lv_at hl 1 rfl) ?_
      refine lv_iload_n hx hb dX6_settle_28 rfl (lv_at hl 2 rfl) ?_
      obtain ⟨hi1, hf⟩ := gA_s hf
      refine g_iast (ws' := (wX6_settle E o_t a_t (v_t_families ||| (1 <<< (x1 &&& 31))) v_t_wind v_t_force v_t_rain v_t_lost v_t_hour (upd f_t_home (Int32.toNatClampNeg x1) x2) f_t_seeds f_t_lungs f_t_blown)) hx hb hK hw 1 rfl hi1 rfl dX6_settle_29 (fun H locs hw => ?_)
      refine lv_aload_n hx hb dX6_settle_30 rfl (lv_at hl 0 rfl) ?_
      refine g_get hx hb hG hown hK hw inlX6 (ci := 5) rfl 0 1 (Nat.le_of_ble_eq_true rfl) rfl rfl wd_3_7 dX6_settle_31 ?_
      refine lv_iload_n hx hb dX6_settle_34 rfl (lv_at hl 1 rfl) ?_
      refine lv_iload_n hx hb dX6_settle_35 rfl (lv_at hl 3 rfl) ?_
      obtain ⟨hi2, hf⟩ := gA_s hf
      refine g_iast (ws' := (wX6_settle E o_t a_t (v_t_families ||| (1 <<< (x1 &&& 31))) v_t_wind v_t_force v_t_rain v_t_lost v_t_hour (upd f_t_home (Int32.toNatClampNeg x1) x2) (upd f_t_seeds (Int32.toNatClampNeg x1) x3) f_t_lungs f_t_blown)) hx hb hK hw 2 rfl hi2 rfl dX6_settle_36 (fun H locs hw => ?_)
      refine lv_aload_n hx hb dX6_settle_37 rfl (lv_at hl 0 rfl) ?_
      refine g_get hx hb hG hown hK hw inlX6 (ci := 5) rfl 0 2 (Nat.le_of_ble_eq_true rfl) rfl rfl wd_3_8 dX6_settle_38 ?_
      refine lv_iload_n hx hb dX6_settle_41 rfl (lv_at hl 1 rfl) ?_
      refine lv_iload hx hb dX6_settle_42 (lv_at hl 4 rfl) ?_
      obtain ⟨hi3, hf⟩ := gA_s hf
      refine g_iast (ws' := (wX6_settle E o_t a_t (v_t_families ||| (1 <<< (x1 &&& 31))) v_t_wind v_t_force v_t_rain v_t_lost v_t_hour (upd f_t_home (Int32.toNatClampNeg x1) x2) (upd f_t_seeds (Int32.toNatClampNeg x1) x3) (upd f_t_lungs (Int32.toNatClampNeg x1) x4) f_t_blown)) hx hb hK hw 3 rfl hi3 rfl dX6_settle_44 (fun H locs hw => ?_)
      refine lv_aload_n hx hb dX6_settle_45 rfl (lv_at hl 0 rfl) ?_
      refine g_get hx hb hG hown hK hw inlX6 (ci := 5) rfl 0 3 (Nat.le_of_ble_eq_true rfl) rfl rfl wd_3_9 dX6_settle_46 ?_
      refine lv_iload_n hx hb dX6_settle_49 rfl (lv_at hl 1 rfl) ?_
      refine lv_iconst (v := 0) hx hb dX6_settle_50 k_i0 ?_
      obtain ⟨hi4, hf⟩ := gA_s hf
      refine g_iast (ws' := (wX6_settle E o_t a_t (v_t_families ||| (1 <<< (x1 &&& 31))) v_t_wind v_t_force v_t_rain v_t_lost v_t_hour (upd f_t_home (Int32.toNatClampNeg x1) x2) (upd f_t_seeds (Int32.toNatClampNeg x1) x3) (upd f_t_lungs (Int32.toNatClampNeg x1) x4) (upd f_t_blown (Int32.toNatClampNeg x1) 0))) hx hb hK hw 4 rfl hi4 rfl dX6_settle_51 (fun H locs hw => ?_)
      exact hret1 (v_t_families ||| (1 <<< (x1 &&& 31))) (upd f_t_home (Int32.toNatClampNeg x1) x2) (upd f_t_seeds (Int32.toNatClampNeg x1) x3) (upd f_t_lungs (Int32.toNatClampNeg x1) x4) (upd f_t_blown (Int32.toNatClampNeg x1) 0) _ _ _ _ hf hw dX6_settle_52
    · have hf := g_f hc hf
      exact B10 v_t_families f_t_home f_t_seeds f_t_lungs f_t_blown _ _ _ hf hw (lv_sub hl [] rfl)
theorem hX6_moveOut : yX6_moveOut.cls = RX6 ∧ yX6_moveOut.cls ≠ "java/lang/invoke/MethodHandle" ∧ yX6_moveOut.cls ≠ "java/lang/invoke/VarHandle" ∧ (parseMethodDescriptor yX6_moveOut.desc).map (fun d => d.parameters.length) = some 1 := by decide +kernel
set_option maxHeartbeats 4000000 in
set_option maxRecDepth 100000 in
theorem mX6_moveOut (l : Launch) (E : gE) (o_t : Nat) (a_t : (Nat → Nat)) (v_t_families : Int32) (v_t_wind : Int32) (v_t_force : Int32) (v_t_rain : Int32) (v_t_lost : Int32) (v_t_hour : Int32) (f_t_home : (Nat → Int32)) (f_t_seeds : (Nat → Int32)) (f_t_ground : (Nat → Int32)) (x1 : Int32) (z_t_families : Int32) (z_t_lost : Int32) (z_t_seeds : (Nat → Int32)) (z_t_ground : (Nat → Int32)) (hf : fX6_moveOut v_t_families v_t_lost f_t_home f_t_seeds f_t_ground x1 = some (z_t_families, z_t_lost, z_t_seeds, z_t_ground)) {sz : Nat} : gMv l yX6_moveOut (gW yX6_moveOut cX6_moveOut 2 none) ({ frames := 1, cells := 0, slots := 0, locals := 24 } : Room) E [.ref o_t, .int x1] (wX6_moveOut E o_t a_t v_t_families v_t_wind v_t_force v_t_rain v_t_lost v_t_hour f_t_home f_t_seeds f_t_ground) sz (wX6_moveOut E o_t a_t z_t_families v_t_wind v_t_force v_t_rain z_t_lost v_t_hour f_t_home z_t_seeds z_t_ground) := by
  refine g_openV (own := RX6) (by decide) rfl (Nat.le_of_ble_eq_true rfl) (fun p e s m args below meth cd Q A hx hb hml hown hG hK hA hret hw ls hl => ?_)
  have hl : lv_has ls 2 [(0, .ref o_t), (1, .int x1)] := hl
  have hret1 : ∀ (v_t_families : Int32) (v_t_lost : Int32) (f_t_seeds : (Nat → Int32)) (f_t_ground : (Nat → Int32)) (H : Heap) (locs : List Loc) (pc : Nat) (ls : Array Slot), some (v_t_families, v_t_lost, f_t_seeds, f_t_ground) = some (z_t_families, z_t_lost, z_t_seeds, z_t_ground) → gS E A s.heap (wX6_moveOut E o_t a_t v_t_families v_t_wind v_t_force v_t_rain v_t_lost v_t_hour f_t_home f_t_seeds f_t_ground) H locs → decode cX6_moveOut pc = .ok (.return_, 1) → W p l e ({ frames := 1, cells := 0, slots := 0, locals := 24 } : Room) s m args below meth cd H locs 0 0 Q (F0 m pc ls []) := by
    intro v_t_families v_t_lost f_t_seeds f_t_ground H locs pc ls h hw hd
    cases h
    exact hret H locs pc ls hw hd
  refine lv_aload_n hx hb dX6_moveOut_0 rfl (lv_at hl 0 rfl) ?_
  refine lv_iload_n hx hb dX6_moveOut_1 rfl (lv_at hl 1 rfl) ?_
  obtain ⟨r1, hc2, hf⟩ := gB_s hf
  refine g_ki (is := [0]) (w1 := (wX6_isThere E o_t a_t v_t_families v_t_wind v_t_force v_t_rain v_t_lost v_t_hour)) (ws' := (wX6_moveOut E o_t a_t v_t_families v_t_wind v_t_force v_t_rain v_t_lost v_t_hour f_t_home f_t_seeds f_t_ground)) hw hA (g_rV hx hb hml hG hown hK hw (is := [0]) rfl (by decide) (mX6_isThere l E o_t a_t v_t_families v_t_wind v_t_force v_t_rain v_t_lost v_t_hour x1 r1 hc2) wd_9_16 wd_9_9 wd_9_10 wd_2_20 wd_9_11 hX6_isThere g_allgood ⟨rfl, rfl⟩ ⟨Nat.le_of_ble_eq_true rfl, Nat.le_of_ble_eq_true rfl⟩ ⟨Nat.zero_le _, Nat.zero_le _⟩ (ci := 5) (q0 := 0) rfl rfl rfl rfl hl.1 rfl (Nat.le_of_ble_eq_true rfl) dX6_moveOut_2) rfl rfl rfl (fun H locs hw => ?_)
  refine lv_if_ne (tgt := 9) hx hb dX6_moveOut_5 (by decide) (fun hc => ?_) (fun hc => ?_)
  · have hf := g_f hc hf
    refine lv_aload_n hx hb dX6_moveOut_9 rfl (lv_at hl 0 rfl) ?_
    refine lv_dup hx hb dX6_moveOut_10 rfl ?_
    refine g_get hx hb hG hown hK hw inlX6 (ci := 5) rfl 0 5 (Nat.le_of_ble_eq_true rfl) rfl rfl wd_3_11 dX6_moveOut_11 ?_
    refine lv_iconst (v := 1) hx hb dX6_moveOut_14 k_i1 ?_
    refine lv_iload_n hx hb dX6_moveOut_15 rfl (lv_at hl 1 rfl) ?_
    refine lv_ishl hx hb dX6_moveOut_16 ?_
    refine lv_iconst (v := -1) hx hb dX6_moveOut_17 k_im1 ?_
    refine lv_ixor hx hb dX6_moveOut_18 ?_
    refine lv_iand hx hb dX6_moveOut_19 ?_
    refine g_put (ws' := (wX6_moveOut E o_t a_t (v_t_families &&& ((1 <<< (x1 &&& 31)) ^^^ (-1))) v_t_wind v_t_force v_t_rain v_t_lost v_t_hour f_t_home f_t_seeds f_t_ground)) hx hb hG hown hK hw inlX6 tyX6_ok nmX6 (ci := 5) rfl 0 5 (Nat.le_of_ble_eq_true rfl) rfl wd_3_11 rfl rfl rfl (Nat.le_of_ble_eq_true rfl) rfl dX6_moveOut_20 (fun H locs hw => ?_)
    refine lv_aload_n hx hb dX6_moveOut_23 rfl (lv_at hl 0 rfl) ?_
    refine lv_aload_n hx hb dX6_moveOut_24 rfl (lv_at hl 0 rfl) ?_
    refine g_get hx hb hG hown hK hw inlX6 (ci := 5) rfl 0 0 (Nat.le_of_ble_eq_true rfl) rfl rfl wd_3_6 dX6_moveOut_25 ?_
    refine lv_iload_n hx hb dX6_moveOut_28 rfl (lv_at hl 1 rfl) ?_
    obtain ⟨hi3, hf⟩ := gA_s hf
    refine g_iald hx hb hK hw 1 rfl hi3 dX6_moveOut_29 ?_
    refine lv_aload_n hx hb dX6_moveOut_30 rfl (lv_at hl 0 rfl) ?_
    refine g_get hx hb hG hown hK hw inlX6 (ci := 5) rfl 0 1 (Nat.le_of_ble_eq_true rfl) rfl rfl wd_3_7 dX6_moveOut_31 ?_
    refine lv_iload_n hx hb dX6_moveOut_34 rfl (lv_at hl 1 rfl) ?_
    obtain ⟨hi4, hf⟩ := gA_s hf
    refine g_iald hx hb hK hw 2 rfl hi4 dX6_moveOut_35 ?_
    obtain ⟨r5, hc6, hf⟩ := gB_s hf
    refine g_kv (is := [0, 3]) (w1 := (wX6_lieDown E o_t a_t (v_t_families &&& ((1 <<< (x1 &&& 31)) ^^^ (-1))) v_t_wind v_t_force v_t_rain r5.1 v_t_hour r5.2)) (ws' := (wX6_moveOut E o_t a_t (v_t_families &&& ((1 <<< (x1 &&& 31)) ^^^ (-1))) v_t_wind v_t_force v_t_rain r5.1 v_t_hour f_t_home f_t_seeds r5.2)) hw hA (g_rV hx hb hml hG hown hK hw (is := [0, 3]) rfl (by decide) (mX6_lieDown l E o_t a_t (v_t_families &&& ((1 <<< (x1 &&& 31)) ^^^ (-1))) v_t_wind v_t_force v_t_rain v_t_lost v_t_hour f_t_ground (f_t_home (Int32.toNatClampNeg x1)) (f_t_seeds (Int32.toNatClampNeg x1)) r5.1 r5.2 hc6) wd_9_17 wd_9_18 wd_9_19 wd_2_20 wd_9_20 hX6_lieDown g_allgood ⟨rfl, rfl⟩ ⟨Nat.le_of_ble_eq_true rfl, Nat.le_of_ble_eq_true rfl⟩ ⟨Nat.zero_le _, Nat.zero_le _⟩ (ci := 5) (q0 := 0) rfl rfl rfl rfl hl.1 rfl (Nat.le_of_ble_eq_true rfl) dX6_moveOut_36) rfl rfl rfl (fun H locs hw => ?_)
    refine lv_aload_n hx hb dX6_moveOut_39 rfl (lv_at hl 0 rfl) ?_
    refine g_get hx hb hG hown hK hw inlX6 (ci := 5) rfl 0 1 (Nat.le_of_ble_eq_true rfl) rfl rfl wd_3_7 dX6_moveOut_40 ?_
    refine lv_iload_n hx hb dX6_moveOut_43 rfl (lv_at hl 1 rfl) ?_
    refine lv_iconst (v := 0) hx hb dX6_moveOut_44 k_i0 ?_
    obtain ⟨hi7, hf⟩ := gA_s hf
    refine g_iast (ws' := (wX6_moveOut E o_t a_t (v_t_families &&& ((1 <<< (x1 &&& 31)) ^^^ (-1))) v_t_wind v_t_force v_t_rain r5.1 v_t_hour f_t_home (upd f_t_seeds (Int32.toNatClampNeg x1) 0) r5.2)) hx hb hK hw 2 rfl hi7 rfl dX6_moveOut_45 (fun H locs hw => ?_)
    exact hret1 (v_t_families &&& ((1 <<< (x1 &&& 31)) ^^^ (-1))) r5.1 (upd f_t_seeds (Int32.toNatClampNeg x1) 0) r5.2 _ _ _ _ hf hw dX6_moveOut_46
  · have hf := g_t hc hf
    exact hret1 v_t_families v_t_lost f_t_seeds f_t_ground _ _ _ _ hf hw dX6_moveOut_8
theorem hX6_allSeeds : yX6_allSeeds.cls = RX6 ∧ yX6_allSeeds.cls ≠ "java/lang/invoke/MethodHandle" ∧ yX6_allSeeds.cls ≠ "java/lang/invoke/VarHandle" ∧ (parseMethodDescriptor yX6_allSeeds.desc).map (fun d => d.parameters.length) = some 0 := by decide +kernel
set_option maxHeartbeats 4000000 in
set_option maxRecDepth 100000 in
theorem mX6_allSeeds (l : Launch) (E : gE) (o_t : Nat) (a_t : (Nat → Nat)) (v_t_families : Int32) (v_t_wind : Int32) (v_t_force : Int32) (v_t_rain : Int32) (v_t_lost : Int32) (v_t_hour : Int32) (f_t_seeds : (Nat → Int32)) (rv : Int32) (hf : fX6_allSeeds v_t_families f_t_seeds = some rv) {sz : Nat} : gMi l yX6_allSeeds (gW yX6_allSeeds cX6_allSeeds 3 (some .int)) ({ frames := 1, cells := 0, slots := 0, locals := 21 } : Room) E [.ref o_t] (wX6_allSeeds E o_t a_t v_t_families v_t_wind v_t_force v_t_rain v_t_lost v_t_hour f_t_seeds) sz rv (wX6_allSeeds E o_t a_t v_t_families v_t_wind v_t_force v_t_rain v_t_lost v_t_hour f_t_seeds) := by
  refine g_openI (own := RX6) (by decide) rfl (Nat.le_of_ble_eq_true rfl) (fun p e s m args below meth cd Q A hx hb hml hown hG hK hA hret hw ls hl => ?_)
  have hl : lv_has ls 3 [(0, .ref o_t)] := hl
  have hret1 : ∀ (v : Int32)  (H : Heap) (locs : List Loc) (pc : Nat) (ls : Array Slot), some v = some rv → gS E A s.heap (wX6_allSeeds E o_t a_t v_t_families v_t_wind v_t_force v_t_rain v_t_lost v_t_hour f_t_seeds) H locs → decode cX6_allSeeds pc = .ok (.ireturn, 1) → W p l e ({ frames := 1, cells := 0, slots := 0, locals := 21 } : Room) s m args below meth cd H locs 0 0 Q (F0 m pc ls [.int v]) := by
    intro v  H locs pc ls h hw hd
    cases h
    exact hret H locs pc ls hw hd
  have B29 : ∀ (K4 : Int32 → Int32 → Option (Int32)) (hK4 : ∀ (x1 : Int32) (x2 : Int32) (H : Heap) (locs : List Loc) (ls : Array Slot), K4 x1 x2 = some rv → gS E A s.heap (wX6_allSeeds E o_t a_t v_t_families v_t_wind v_t_force v_t_rain v_t_lost v_t_hour f_t_seeds) H locs → lv_has ls 3 [(0, .ref o_t), (1, .int x1), (2, .int x2)] → W p l e ({ frames := 1, cells := 0, slots := 0, locals := 21 } : Room) s m args below meth cd H locs 0 0 Q (F0 m 4 ls [])), ∀ (x2 : Int32) (s0 : Int32) (s1 : Int32) (H : Heap) (locs : List Loc) (ls : Array Slot), fX6_allSeeds_b29 K4 v_t_families f_t_seeds x2 s0 s1 = some rv → gS E A s.heap (wX6_allSeeds E o_t a_t v_t_families v_t_wind v_t_force v_t_rain v_t_lost v_t_hour f_t_seeds) H locs → lv_has ls 3 [(0, .ref o_t), (2, .int x2)] → W p l e ({ frames := 1, cells := 0, slots := 0, locals := 21 } : Room) s m args below meth cd H locs 0 0 Q (F0 m 29 ls [.int s1, .int s0]) := by
    intro K4 hK4 x2 s0 s1 H locs ls hf hw hl
    refine lv_iadd hx hb dX6_allSeeds_29 ?_
    refine lv_istore_n (lv' := [(1, .int (s0 + s1)), (0, .ref o_t), (2, .int x2)]) hx hb dX6_allSeeds_30 rfl hl (Nat.le_of_ble_eq_true rfl) rfl (fun ls hl => ?_)
    refine lv_iinc (lv' := [(2, .int (x2 + 1)), (1, .int (s0 + s1)), (0, .ref o_t)]) hx hb dX6_allSeeds_31 hl (k := 2) rfl (k_inc1 _) (Nat.le_of_ble_eq_true rfl) rfl (fun ls hl => ?_)
    refine lv_goto (tgt := 4) hx hb dX6_allSeeds_34 (by decide) ?_
    exact hK4 (s0 + s1) (x2 + 1) _ _ _ hf hw (lv_sub hl [2, 1, 0] rfl)
  have B4 : ∀ n : Nat, ∀ (x1 : Int32) (x2 : Int32) (H : Heap) (locs : List Loc) (ls : Array Slot), fX6_allSeeds_b4 v_t_families f_t_seeds n x1 x2 = some rv → gS E A s.heap (wX6_allSeeds E o_t a_t v_t_families v_t_wind v_t_force v_t_rain v_t_lost v_t_hour f_t_seeds) H locs → lv_has ls 3 [(0, .ref o_t), (1, .int x1), (2, .int x2)] → W p l e ({ frames := 1, cells := 0, slots := 0, locals := 21 } : Room) s m args below meth cd H locs 0 0 Q (F0 m 4 ls []) := by
    intro n
    induction n with
    | zero => intro x1 x2 H locs ls hf hw hl; exact g_no hf
    | succ n ih =>
      intro x1 x2 H locs ls hf hw hl
      refine lv_iload_n hx hb dX6_allSeeds_4 rfl (lv_at hl 2 rfl) ?_
      refine lv_bipush (v := 6) hx hb dX6_allSeeds_5 k_b6 ?_
      refine lv_icmp_ge (tgt := 37) hx hb dX6_allSeeds_7 (by decide) (fun hc => ?_) (fun hc => ?_)
      · have hf := g_t hc hf
        refine lv_iload_n hx hb dX6_allSeeds_37 rfl (lv_at hl 1 rfl) ?_
        exact hret1 x1 _ _ _ _ hf hw dX6_allSeeds_38
      · have hf := g_f hc hf
        refine lv_iload_n hx hb dX6_allSeeds_10 rfl (lv_at hl 1 rfl) ?_
        refine lv_aload_n hx hb dX6_allSeeds_11 rfl (lv_at hl 0 rfl) ?_
        refine lv_iload_n hx hb dX6_allSeeds_12 rfl (lv_at hl 2 rfl) ?_
        obtain ⟨r1, hc2, hf⟩ := gB_s hf
        refine g_ki (is := [0]) (w1 := (wX6_isThere E o_t a_t v_t_families v_t_wind v_t_force v_t_rain v_t_lost v_t_hour)) (ws' := (wX6_allSeeds E o_t a_t v_t_families v_t_wind v_t_force v_t_rain v_t_lost v_t_hour f_t_seeds)) hw hA (g_rV hx hb hml hG hown hK hw (is := [0]) rfl (by decide) (mX6_isThere l E o_t a_t v_t_families v_t_wind v_t_force v_t_rain v_t_lost v_t_hour x2 r1 hc2) wd_9_16 wd_9_9 wd_9_10 wd_2_20 wd_9_11 hX6_isThere g_allgood ⟨rfl, rfl⟩ ⟨Nat.le_of_ble_eq_true rfl, Nat.le_of_ble_eq_true rfl⟩ ⟨Nat.zero_le _, Nat.zero_le _⟩ (ci := 5) (q0 := 0) rfl rfl rfl rfl hl.1 rfl (Nat.le_of_ble_eq_true rfl) dX6_allSeeds_13) rfl rfl rfl (fun H locs hw => ?_)
        refine lv_if_eq (tgt := 28) hx hb dX6_allSeeds_16 (by decide) (fun hc => ?_) (fun hc => ?_)
        · have hf := g_t hc hf
          refine lv_iconst (v := 0) hx hb dX6_allSeeds_28 k_i0 ?_
          exact B29 (fX6_allSeeds_b4 v_t_families f_t_seeds n) ih x2 x1 0 _ _ _ hf hw (lv_sub hl [0, 2] rfl)
        · have hf := g_f hc hf
          refine lv_aload_n hx hb dX6_allSeeds_19 rfl (lv_at hl 0 rfl) ?_
          refine g_get hx hb hG hown hK hw inlX6 (ci := 5) rfl 0 1 (Nat.le_of_ble_eq_true rfl) rfl rfl wd_3_7 dX6_allSeeds_20 ?_
          refine lv_iload_n hx hb dX6_allSeeds_23 rfl (lv_at hl 2 rfl) ?_
          obtain ⟨hi3, hf⟩ := gA_s hf
          refine g_iald hx hb hK hw 1 rfl hi3 dX6_allSeeds_24 ?_
          refine lv_goto (tgt := 29) hx hb dX6_allSeeds_25 (by decide) ?_
          exact B29 (fX6_allSeeds_b4 v_t_families f_t_seeds n) ih x2 x1 (f_t_seeds (Int32.toNatClampNeg x2)) _ _ _ hf hw (lv_sub hl [0, 2] rfl)
  refine lv_iconst (v := 0) hx hb dX6_allSeeds_0 k_i0 ?_
  refine lv_istore_n (lv' := [(1, .int 0), (0, .ref o_t)]) hx hb dX6_allSeeds_1 rfl hl (Nat.le_of_ble_eq_true rfl) rfl (fun ls hl => ?_)
  refine lv_iconst (v := 0) hx hb dX6_allSeeds_2 k_i0 ?_
  refine lv_istore_n (lv' := [(2, .int 0), (1, .int 0), (0, .ref o_t)]) hx hb dX6_allSeeds_3 rfl hl (Nat.le_of_ble_eq_true rfl) rfl (fun ls hl => ?_)
  exact B4 1000 0 0 _ _ _ hf hw (lv_sub hl [2, 1, 0] rfl)
theorem hX6_allLying : yX6_allLying.cls = RX6 ∧ yX6_allLying.cls ≠ "java/lang/invoke/MethodHandle" ∧ yX6_allLying.cls ≠ "java/lang/invoke/VarHandle" ∧ (parseMethodDescriptor yX6_allLying.desc).map (fun d => d.parameters.length) = some 0 := by decide +kernel
set_option maxHeartbeats 4000000 in
set_option maxRecDepth 100000 in
theorem mX6_allLying (l : Launch) (E : gE) (o_t : Nat) (a_t : (Nat → Nat)) (v_t_families : Int32) (v_t_wind : Int32) (v_t_force : Int32) (v_t_rain : Int32) (v_t_lost : Int32) (v_t_hour : Int32) (f_t_ground : (Nat → Int32)) (rv : Int32) (hf : fX6_allLying f_t_ground = some rv) {sz : Nat} : gMi l yX6_allLying (gW yX6_allLying cX6_allLying 1 (some .int)) ({ frames := 1, cells := 0, slots := 0, locals := 22 } : Room) E [.ref o_t] (wX6_allLying E o_t a_t v_t_families v_t_wind v_t_force v_t_rain v_t_lost v_t_hour f_t_ground) sz rv (wX6_allLying E o_t a_t v_t_families v_t_wind v_t_force v_t_rain v_t_lost v_t_hour f_t_ground) := by
  refine g_openI (own := RX6) (by decide) rfl (Nat.le_of_ble_eq_true rfl) (fun p e s m args below meth cd Q A hx hb hml hown hG hK hA hret hw ls hl => ?_)
  have hl : lv_has ls 1 [(0, .ref o_t)] := hl
  have hret1 : ∀ (v : Int32)  (H : Heap) (locs : List Loc) (pc : Nat) (ls : Array Slot), some v = some rv → gS E A s.heap (wX6_allLying E o_t a_t v_t_families v_t_wind v_t_force v_t_rain v_t_lost v_t_hour f_t_ground) H locs → decode cX6_allLying pc = .ok (.ireturn, 1) → W p l e ({ frames := 1, cells := 0, slots := 0, locals := 22 } : Room) s m args below meth cd H locs 0 0 Q (F0 m pc ls [.int v]) := by
    intro v  H locs pc ls h hw hd
    cases h
    exact hret H locs pc ls hw hd
  refine lv_aload_n hx hb dX6_allLying_0 rfl (lv_at hl 0 rfl) ?_
  refine g_get hx hb hG hown hK hw inlX6 (ci := 5) rfl 0 4 (Nat.le_of_ble_eq_true rfl) rfl rfl wd_3_10 dX6_allLying_1 ?_
  obtain ⟨r1, hc2, hf⟩ := gB_s hf
  refine g_ki (is := [1]) (w1 := (wX10_sumOfRow E (a_t 4) 36 f_t_ground)) (ws' := (wX6_allLying E o_t a_t v_t_families v_t_wind v_t_force v_t_rain v_t_lost v_t_hour f_t_ground)) hw hA (g_rN (host := "SeedBank") hx hb hml hG hown hK hw (is := [1]) rfl (by decide) (mX10_sumOfRow l E (a_t 4) 36 f_t_ground r1 hc2) (List.mem_of_getElem? (i := 16) rfl) wd_23_16 wd_1_2 wd_23_17 hX10_sumOfRow g_allgood ⟨rfl, rfl⟩ ⟨Nat.le_of_ble_eq_true rfl, Nat.le_of_ble_eq_true rfl⟩ ⟨Nat.zero_le _, Nat.zero_le _⟩ rfl hl.1 rfl (Nat.le_of_ble_eq_true rfl) dX6_allLying_4) rfl rfl rfl (fun H locs hw => ?_)
  exact hret1 r1 _ _ _ _ hf hw dX6_allLying_7
theorem hX7_clear : yX7_clear.cls = RX7 ∧ yX7_clear.cls ≠ "java/lang/invoke/MethodHandle" ∧ yX7_clear.cls ≠ "java/lang/invoke/VarHandle" ∧ (parseMethodDescriptor yX7_clear.desc).map (fun d => d.parameters.length) = some 0 := by decide +kernel
set_option maxHeartbeats 4000000 in
set_option maxRecDepth 100000 in
theorem mX7_clear (l : Launch) (E : gE) (o_t : Nat) (a_t : (Nat → Nat)) (v_t_signs : Int32) (v_t_acts : Int32) (v_t_reading : Int32) (v_t_begun : Int32) (v_t_brokenAt : Int32) (z_t_signs : Int32) (z_t_acts : Int32) (z_t_reading : Int32) (hf : fX7_clear v_t_signs v_t_acts v_t_reading = some (z_t_signs, z_t_acts, z_t_reading)) {sz : Nat} : gMv l yX7_clear (gW yX7_clear cX7_clear 1 none) ({ frames := 0, cells := 0, slots := 0, locals := 0 } : Room) E [.ref o_t] (wX7_clear E o_t a_t v_t_signs v_t_acts v_t_reading v_t_begun v_t_brokenAt) sz (wX7_clear E o_t a_t z_t_signs z_t_acts z_t_reading v_t_begun v_t_brokenAt) := by
  refine g_openV (own := RX7) (by decide) rfl (Nat.le_of_ble_eq_true rfl) (fun p e s m args below meth cd Q A hx hb hml hown hG hK hA hret hw ls hl => ?_)
  have hl : lv_has ls 1 [(0, .ref o_t)] := hl
  have hret1 : ∀ (v_t_signs : Int32) (v_t_acts : Int32) (v_t_reading : Int32) (H : Heap) (locs : List Loc) (pc : Nat) (ls : Array Slot), some (v_t_signs, v_t_acts, v_t_reading) = some (z_t_signs, z_t_acts, z_t_reading) → gS E A s.heap (wX7_clear E o_t a_t v_t_signs v_t_acts v_t_reading v_t_begun v_t_brokenAt) H locs → decode cX7_clear pc = .ok (.return_, 1) → W p l e ({ frames := 0, cells := 0, slots := 0, locals := 0 } : Room) s m args below meth cd H locs 0 0 Q (F0 m pc ls []) := by
    intro v_t_signs v_t_acts v_t_reading H locs pc ls h hw hd
    cases h
    exact hret H locs pc ls hw hd
  refine lv_aload_n hx hb dX7_clear_0 rfl (lv_at hl 0 rfl) ?_
  refine lv_iconst (v := 0) hx hb dX7_clear_1 k_i0 ?_
  refine g_put (ws' := (wX7_clear E o_t a_t 0 v_t_acts v_t_reading v_t_begun v_t_brokenAt)) hx hb hG hown hK hw inlX7 tyX7_ok nmX7 (ci := 6) rfl 0 3 (Nat.le_of_ble_eq_true rfl) rfl wd_4_5 rfl rfl rfl (Nat.le_of_ble_eq_true rfl) rfl dX7_clear_2 (fun H locs hw => ?_)
  refine lv_aload_n hx hb dX7_clear_5 rfl (lv_at hl 0 rfl) ?_
  refine lv_iconst (v := 0) hx hb dX7_clear_6 k_i0 ?_
  refine g_put (ws' := (wX7_clear E o_t a_t 0 0 v_t_reading v_t_begun v_t_brokenAt)) hx hb hG hown hK hw inlX7 tyX7_ok nmX7 (ci := 6) rfl 0 4 (Nat.le_of_ble_eq_true rfl) rfl wd_4_6 rfl rfl rfl (Nat.le_of_ble_eq_true rfl) rfl dX7_clear_7 (fun H locs hw => ?_)
  refine lv_aload_n hx hb dX7_clear_10 rfl (lv_at hl 0 rfl) ?_
  refine lv_iconst (v := 0) hx hb dX7_clear_11 k_i0 ?_
  refine g_put (ws' := (wX7_clear E o_t a_t 0 0 0 v_t_begun v_t_brokenAt)) hx hb hG hown hK hw inlX7 tyX7_ok nmX7 (ci := 6) rfl 0 5 (Nat.le_of_ble_eq_true rfl) rfl wd_4_7 rfl rfl rfl (Nat.le_of_ble_eq_true rfl) rfl dX7_clear_12 (fun H locs hw => ?_)
  exact hret1 0 0 0 _ _ _ _ hf hw dX7_clear_15
theorem hX7_endAct : yX7_endAct.cls = RX7 ∧ yX7_endAct.cls ≠ "java/lang/invoke/MethodHandle" ∧ yX7_endAct.cls ≠ "java/lang/invoke/VarHandle" ∧ (parseMethodDescriptor yX7_endAct.desc).map (fun d => d.parameters.length) = some 3 := by decide +kernel
set_option maxHeartbeats 4000000 in
set_option maxRecDepth 100000 in
theorem mX7_endAct (l : Launch) (E : gE) (o_t : Nat) (a_t : (Nat → Nat)) (v_t_signs : Int32) (v_t_acts : Int32) (v_t_reading : Int32) (v_t_begun : Int32) (v_t_brokenAt : Int32) (f_t_kinds : (Nat → Int32)) (f_t_firsts : (Nat → Int32)) (f_t_seconds : (Nat → Int32)) (x1 : Int32) (x2 : Int32) (x3 : Int32) (rv : Int32) (z_t_acts : Int32) (z_t_kinds : (Nat → Int32)) (z_t_firsts : (Nat → Int32)) (z_t_seconds : (Nat → Int32)) (hf : fX7_endAct v_t_acts f_t_kinds f_t_firsts f_t_seconds x1 x2 x3 = some (rv, z_t_acts, z_t_kinds, z_t_firsts, z_t_seconds)) {sz : Nat} : gMi l yX7_endAct (gW yX7_endAct cX7_endAct 4 (some .int)) ({ frames := 0, cells := 0, slots := 0, locals := 0 } : Room) E [.ref o_t, .int x1, .int x2, .int x3] (wX7_endAct E o_t a_t v_t_signs v_t_acts v_t_reading v_t_begun v_t_brokenAt f_t_kinds f_t_firsts f_t_seconds) sz rv (wX7_endAct E o_t a_t v_t_signs z_t_acts v_t_reading v_t_begun v_t_brokenAt z_t_kinds z_t_firsts z_t_seconds) := by
  refine g_openI (own := RX7) (by decide) rfl (Nat.le_of_ble_eq_true rfl) (fun p e s m args below meth cd Q A hx hb hml hown hG hK hA hret hw ls hl => ?_)
  have hl : lv_has ls 4 [(0, .ref o_t), (1, .int x1), (2, .int x2), (3, .int x3)] := hl
  have hret1 : ∀ (v : Int32) (v_t_acts : Int32) (f_t_kinds : (Nat → Int32)) (f_t_firsts : (Nat → Int32)) (f_t_seconds : (Nat → Int32)) (H : Heap) (locs : List Loc) (pc : Nat) (ls : Array Slot), some (v, v_t_acts, f_t_kinds, f_t_firsts, f_t_seconds) = some (rv, z_t_acts, z_t_kinds, z_t_firsts, z_t_seconds) → gS E A s.heap (wX7_endAct E o_t a_t v_t_signs v_t_acts v_t_reading v_t_begun v_t_brokenAt f_t_kinds f_t_firsts f_t_seconds) H locs → decode cX7_endAct pc = .ok (.ireturn, 1) → W p l e ({ frames := 0, cells := 0, slots := 0, locals := 0 } : Room) s m args below meth cd H locs 0 0 Q (F0 m pc ls [.int v]) := by
    intro v v_t_acts f_t_kinds f_t_firsts f_t_seconds H locs pc ls h hw hd
    cases h
    exact hret H locs pc ls hw hd
  have B16 : ∀ (v_t_acts : Int32) (f_t_kinds : (Nat → Int32)) (f_t_firsts : (Nat → Int32)) (f_t_seconds : (Nat → Int32)) (H : Heap) (locs : List Loc) (ls : Array Slot), fX7_endAct_b16 v_t_acts f_t_kinds f_t_firsts f_t_seconds = some (rv, z_t_acts, z_t_kinds, z_t_firsts, z_t_seconds) → gS E A s.heap (wX7_endAct E o_t a_t v_t_signs v_t_acts v_t_reading v_t_begun v_t_brokenAt f_t_kinds f_t_firsts f_t_seconds) H locs → lv_has ls 4 [] → W p l e ({ frames := 0, cells := 0, slots := 0, locals := 0 } : Room) s m args below meth cd H locs 0 0 Q (F0 m 16 ls []) := by
    intro  v_t_acts f_t_kinds f_t_firsts f_t_seconds H locs ls hf hw hl
    refine lv_iconst (v := 4) hx hb dX7_endAct_16 k_i4 ?_
    exact hret1 4 v_t_acts f_t_kinds f_t_firsts f_t_seconds _ _ _ _ hf hw dX7_endAct_17
  refine lv_aload_n hx hb dX7_endAct_0 rfl (lv_at hl 0 rfl) ?_
  refine g_get hx hb hG hown hK hw inlX7 (ci := 6) rfl 0 4 (Nat.le_of_ble_eq_true rfl) rfl rfl wd_4_6 dX7_endAct_1 ?_
  refine lv_if_lt (tgt := 16) hx hb dX7_endAct_4 (by decide) (fun hc => ?_) (fun hc => ?_)
  · have hf := g_t hc hf
    exact B16 v_t_acts f_t_kinds f_t_firsts f_t_seconds _ _ _ hf hw (lv_sub hl [] rfl)
  · have hf := g_f hc hf
    refine lv_aload_n hx hb dX7_endAct_7 rfl (lv_at hl 0 rfl) ?_
    refine g_get hx hb hG hown hK hw inlX7 (ci := 6) rfl 0 4 (Nat.le_of_ble_eq_true rfl) rfl rfl wd_4_6 dX7_endAct_8 ?_
    refine lv_bipush (v := 60) hx hb dX7_endAct_11 k_b60 ?_
    refine lv_icmp_lt (tgt := 18) hx hb dX7_endAct_13 (by decide) (fun hc => ?_) (fun hc => ?_)
    · have hf := g_t hc hf
      refine lv_aload_n hx hb dX7_endAct_18 rfl (lv_at hl 0 rfl) ?_
      refine g_get hx hb hG hown hK hw inlX7 (ci := 6) rfl 0 0 (Nat.le_of_ble_eq_true rfl) rfl rfl wd_4_2 dX7_endAct_19 ?_
      refine lv_aload_n hx hb dX7_endAct_22 rfl (lv_at hl 0 rfl) ?_
      refine g_get hx hb hG hown hK hw inlX7 (ci := 6) rfl 0 4 (Nat.le_of_ble_eq_true rfl) rfl rfl wd_4_6 dX7_endAct_23 ?_
      refine lv_iload_n hx hb dX7_endAct_26 rfl (lv_at hl 1 rfl) ?_
      obtain ⟨hi1, hf⟩ := gA_s hf
      refine g_iast (ws' := (wX7_endAct E o_t a_t v_t_signs v_t_acts v_t_reading v_t_begun v_t_brokenAt (upd f_t_kinds (Int32.toNatClampNeg v_t_acts) x1) f_t_firsts f_t_seconds)) hx hb hK hw 1 rfl hi1 rfl dX7_endAct_27 (fun H locs hw => ?_)
      refine lv_aload_n hx hb dX7_endAct_28 rfl (lv_at hl 0 rfl) ?_
      refine g_get hx hb hG hown hK hw inlX7 (ci := 6) rfl 0 1 (Nat.le_of_ble_eq_true rfl) rfl rfl wd_4_3 dX7_endAct_29 ?_
      refine lv_aload_n hx hb dX7_endAct_32 rfl (lv_at hl 0 rfl) ?_
      refine g_get hx hb hG hown hK hw inlX7 (ci := 6) rfl 0 4 (Nat.le_of_ble_eq_true rfl) rfl rfl wd_4_6 dX7_endAct_33 ?_
      refine lv_iload_n hx hb dX7_endAct_36 rfl (lv_at hl 2 rfl) ?_
      obtain ⟨hi2, hf⟩ := gA_s hf
      refine g_iast (ws' := (wX7_endAct E o_t a_t v_t_signs v_t_acts v_t_reading v_t_begun v_t_brokenAt (upd f_t_kinds (Int32.toNatClampNeg v_t_acts) x1) (upd f_t_firsts (Int32.toNatClampNeg v_t_acts) x2) f_t_seconds)) hx hb hK hw 2 rfl hi2 rfl dX7_endAct_37 (fun H locs hw => ?_)
      refine lv_aload_n hx hb dX7_endAct_38 rfl (lv_at hl 0 rfl) ?_
      refine g_get hx hb hG hown hK hw inlX7 (ci := 6) rfl 0 2 (Nat.le_of_ble_eq_true rfl) rfl rfl wd_4_4 dX7_endAct_39 ?_
      refine lv_aload_n hx hb dX7_endAct_42 rfl (lv_at hl 0 rfl) ?_
      refine g_get hx hb hG hown hK hw inlX7 (ci := 6) rfl 0 4 (Nat.le_of_ble_eq_true rfl) rfl rfl wd_4_6 dX7_endAct_43 ?_
      refine lv_iload_n hx hb dX7_endAct_46 rfl (lv_at hl 3 rfl) ?_
      obtain ⟨hi3, hf⟩ := gA_s hf
      refine g_iast (ws' := (wX7_endAct E o_t a_t v_t_signs v_t_acts v_t_reading v_t_begun v_t_brokenAt (upd f_t_kinds (Int32.toNatClampNeg v_t_acts) x1) (upd f_t_firsts (Int32.toNatClampNeg v_t_acts) x2) (upd f_t_seconds (Int32.toNatClampNeg v_t_acts) x3))) hx hb hK hw 3 rfl hi3 rfl dX7_endAct_47 (fun H locs hw => ?_)
      refine lv_aload_n hx hb dX7_endAct_48 rfl (lv_at hl 0 rfl) ?_
      refine lv_dup hx hb dX7_endAct_49 rfl ?_
      refine g_get hx hb hG hown hK hw inlX7 (ci := 6) rfl 0 4 (Nat.le_of_ble_eq_true rfl) rfl rfl wd_4_6 dX7_endAct_50 ?_
      refine lv_iconst (v := 1) hx hb dX7_endAct_53 k_i1 ?_
      refine lv_iadd hx hb dX7_endAct_54 ?_
      refine g_put (ws' := (wX7_endAct E o_t a_t v_t_signs (v_t_acts + 1) v_t_reading v_t_begun v_t_brokenAt (upd f_t_kinds (Int32.toNatClampNeg v_t_acts) x1) (upd f_t_firsts (Int32.toNatClampNeg v_t_acts) x2) (upd f_t_seconds (Int32.toNatClampNeg v_t_acts) x3))) hx hb hG hown hK hw inlX7 tyX7_ok nmX7 (ci := 6) rfl 0 4 (Nat.le_of_ble_eq_true rfl) rfl wd_4_6 rfl rfl rfl (Nat.le_of_ble_eq_true rfl) rfl dX7_endAct_55 (fun H locs hw => ?_)
      refine lv_iconst (v := 0) hx hb dX7_endAct_58 k_i0 ?_
      exact hret1 0 (v_t_acts + 1) (upd f_t_kinds (Int32.toNatClampNeg v_t_acts) x1) (upd f_t_firsts (Int32.toNatClampNeg v_t_acts) x2) (upd f_t_seconds (Int32.toNatClampNeg v_t_acts) x3) _ _ _ _ hf hw dX7_endAct_59
    · have hf := g_f hc hf
      exact B16 v_t_acts f_t_kinds f_t_firsts f_t_seconds _ _ _ hf hw (lv_sub hl [] rfl)
