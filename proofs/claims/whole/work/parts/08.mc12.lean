theorem hX10_within : yX10_within.cls ≠ "java/lang/invoke/MethodHandle" ∧ yX10_within.cls ≠ "java/lang/invoke/VarHandle" ∧ (parseMethodDescriptor yX10_within.desc).map (fun d => d.parameters.length) = some 3 := by decide +kernel
set_option maxHeartbeats 4000000 in
set_option maxRecDepth 100000 in
theorem mX10_within (l : Launch) (E : gE) (x0 : Int32) (x1 : Int32) (x2 : Int32) (rv : Int32) (hf : fX10_within x0 x1 x2 = some rv) {sz : Nat} : gMi l yX10_within (gW yX10_within cX10_within 3 (some .boolean)) ({ frames := 0, cells := 0, slots := 0, locals := 0 } : Room) E [.int x0, .int x1, .int x2] (wX10_within E) sz rv (wX10_within E) := by
  refine g_openZ (own := RX10) (by decide) rfl (Nat.le_of_ble_eq_true rfl) (fun p e s m args below meth cd Q A hx hb hml hown hG hK hA hret hw ls hl => ?_)
  have hl : lv_has ls 3 [(0, .int x0), (1, .int x1), (2, .int x2)] := hl
  have hret1 : ∀ (t : Int32) (H : Heap) (locs : List Loc) (pc : Nat) (ls : Array Slot), some t = some rv → t &&& 1 = t → gS E A s.heap (wX10_within E) H locs → decode cX10_within pc = .ok (.ireturn, 1) → W p l e ({ frames := 0, cells := 0, slots := 0, locals := 0 } : Room) s m args below meth cd H locs 0 0 Q (F0 m pc ls [.int t]) := by
    intro t H locs pc ls h hz hw hd
    obtain rfl : t = rv := Option.some.inj h
    exact hret H locs pc ls hz hw hd
  have B15 : ∀ (s0 : Int32) (H : Heap) (locs : List Loc) (ls : Array Slot), fX10_within_b15 s0 = some rv → gS E A s.heap (wX10_within E) H locs → lv_has ls 3 [] → W p l e ({ frames := 0, cells := 0, slots := 0, locals := 0 } : Room) s m args below meth cd H locs 0 0 Q (F0 m 15 ls [.int s0]) := by
    intro  s0 H locs ls hf hw hl
    obtain ⟨hz1, hf⟩ := gZ_s hf
    exact hret1 s0 _ _ _ _ hf hz1 hw dX10_within_15
  have B14 : ∀ (H : Heap) (locs : List Loc) (ls : Array Slot), fX10_within_b14 = some rv → gS E A s.heap (wX10_within E) H locs → lv_has ls 3 [] → W p l e ({ frames := 0, cells := 0, slots := 0, locals := 0 } : Room) s m args below meth cd H locs 0 0 Q (F0 m 14 ls []) := by
    intro   H locs ls hf hw hl
    refine lv_iconst (v := 0) hx hb dX10_within_14 k_i0 ?_
    exact B15 0 _ _ _ hf hw (lv_sub hl [] rfl)
  refine lv_iload_n hx hb dX10_within_0 rfl (lv_at hl 0 rfl) ?_
  refine lv_iload_n hx hb dX10_within_1 rfl (lv_at hl 1 rfl) ?_
  refine lv_icmp_lt (tgt := 14) hx hb dX10_within_2 (by decide) (fun hc => ?_) (fun hc => ?_)
  · have hf := g_t hc hf
    exact B14 _ _ _ hf hw (lv_sub hl [] rfl)
  · have hf := g_f hc hf
    refine lv_iload_n hx hb dX10_within_5 rfl (lv_at hl 0 rfl) ?_
    refine lv_iload_n hx hb dX10_within_6 rfl (lv_at hl 2 rfl) ?_
    refine lv_icmp_gt (tgt := 14) hx hb dX10_within_7 (by decide) (fun hc => ?_) (fun hc => ?_)
    · have hf := g_t hc hf
      exact B14 _ _ _ hf hw (lv_sub hl [] rfl)
    · have hf := g_f hc hf
      refine lv_iconst (v := 1) hx hb dX10_within_10 k_i1 ?_
      refine lv_goto (tgt := 15) hx hb dX10_within_11 (by decide) ?_
      exact B15 1 _ _ _ hf hw (lv_sub hl [] rfl)
theorem hX2_mostLeft : yX2_mostLeft.cls = RX2 ∧ yX2_mostLeft.cls ≠ "java/lang/invoke/MethodHandle" ∧ yX2_mostLeft.cls ≠ "java/lang/invoke/VarHandle" ∧ (parseMethodDescriptor yX2_mostLeft.desc).map (fun d => d.parameters.length) = some 1 := by decide +kernel
set_option maxHeartbeats 4000000 in
set_option maxRecDepth 100000 in
theorem mX2_mostLeft (l : Launch) (E : gE) (o_t : Nat) (a_t : (Nat → Nat)) (v_t_count : Int32) (f_t_twos : (Nat → Int32)) (f_t_left : (Nat → Int32)) (x1 : Int32) (rv : Int32) (z_t_left : (Nat → Int32)) (hf : fX2_mostLeft v_t_count f_t_twos f_t_left x1 = some (rv, z_t_left)) {sz : Nat} : gMi l yX2_mostLeft (gW yX2_mostLeft cX2_mostLeft 5 (some .int)) ({ frames := 1, cells := 0, slots := 0, locals := 22 } : Room) E [.ref o_t, .int x1] (wX2_mostLeft E o_t a_t v_t_count f_t_twos f_t_left) sz rv (wX2_mostLeft E o_t a_t v_t_count f_t_twos z_t_left) := by
  refine g_openI (own := RX2) (by decide) rfl (Nat.le_of_ble_eq_true rfl) (fun p e s m args below meth cd Q A hx hb hml hown hG hK hA hret hw ls hl => ?_)
  have hl : lv_has ls 5 [(0, .ref o_t), (1, .int x1)] := hl
  have hret1 : ∀ (t : Int32 × (Nat → Int32)) (H : Heap) (locs : List Loc) (pc : Nat) (ls : Array Slot), some t = some (rv, z_t_left) → gS E A s.heap (wX2_mostLeft E o_t a_t v_t_count f_t_twos t.2) H locs → decode cX2_mostLeft pc = .ok (.ireturn, 1) → W p l e ({ frames := 1, cells := 0, slots := 0, locals := 22 } : Room) s m args below meth cd H locs 0 0 Q (F0 m pc ls [.int t.1]) := by
    intro t H locs pc ls h hw hd
    obtain rfl : t = (rv, z_t_left) := Option.some.inj h
    exact hret H locs pc ls hw hd
  have B93 : ∀ (f_t_left : (Nat → Int32)) (x2 : Int32) (H : Heap) (locs : List Loc) (ls : Array Slot), fX2_mostLeft_b93 f_t_left x2 = some (rv, z_t_left) → gS E A s.heap (wX2_mostLeft E o_t a_t v_t_count f_t_twos f_t_left) H locs → lv_has ls 5 [(2, .int x2)] → W p l e ({ frames := 1, cells := 0, slots := 0, locals := 22 } : Room) s m args below meth cd H locs 0 0 Q (F0 m 93 ls []) := by
    intro  f_t_left x2 H locs ls hf hw hl
    refine lv_iload_n hx hb dX2_mostLeft_93 rfl (lv_at hl 0 rfl) ?_
    exact hret1 (x2, f_t_left) _ _ _ _ hf hw dX2_mostLeft_94
  have B87 : ∀ (K11 : (Nat → Int32) → Int32 → Int32 → Int32 → Option (Int32 × (Nat → Int32))) (hK11 : ∀ (f_t_left : (Nat → Int32)) (x1 : Int32) (x2 : Int32) (x3 : Int32) (H : Heap) (locs : List Loc) (ls : Array Slot), K11 f_t_left x1 x2 x3 = some (rv, z_t_left) → gS E A s.heap (wX2_mostLeft E o_t a_t v_t_count f_t_twos f_t_left) H locs → lv_has ls 5 [(0, .ref o_t), (1, .int x1), (2, .int x2), (3, .int x3)] → W p l e ({ frames := 1, cells := 0, slots := 0, locals := 22 } : Room) s m args below meth cd H locs 0 0 Q (F0 m 11 ls [])), ∀ (f_t_left : (Nat → Int32)) (x1 : Int32) (x2 : Int32) (x3 : Int32) (H : Heap) (locs : List Loc) (ls : Array Slot), fX2_mostLeft_b87 K11 v_t_count f_t_twos f_t_left x1 x2 x3 = some (rv, z_t_left) → gS E A s.heap (wX2_mostLeft E o_t a_t v_t_count f_t_twos f_t_left) H locs → lv_has ls 5 [(0, .ref o_t), (1, .int x1), (2, .int x2), (3, .int x3)] → W p l e ({ frames := 1, cells := 0, slots := 0, locals := 22 } : Room) s m args below meth cd H locs 0 0 Q (F0 m 87 ls []) := by
    intro K11 hK11 f_t_left x1 x2 x3 H locs ls hf hw hl
    refine lv_iinc (lv' := [(3, .int (x3 + 1)), (0, .ref o_t), (1, .int x1), (2, .int x2)]) hx hb dX2_mostLeft_87 hl (k := 3) rfl (k_inc1 _) (Nat.le_of_ble_eq_true rfl) rfl (fun ls hl => ?_)
    refine lv_goto (tgt := 11) hx hb dX2_mostLeft_90 (by decide) ?_
    exact hK11 f_t_left x1 x2 (x3 + 1) _ _ _ hf hw (lv_sub hl [1, 2, 3, 0] rfl)
  have B11 : ∀ n : Nat, ∀ (f_t_left : (Nat → Int32)) (x1 : Int32) (x2 : Int32) (x3 : Int32) (H : Heap) (locs : List Loc) (ls : Array Slot), fX2_mostLeft_b11 v_t_count f_t_twos n f_t_left x1 x2 x3 = some (rv, z_t_left) → gS E A s.heap (wX2_mostLeft E o_t a_t v_t_count f_t_twos f_t_left) H locs → lv_has ls 5 [(0, .ref o_t), (1, .int x1), (2, .int x2), (3, .int x3)] → W p l e ({ frames := 1, cells := 0, slots := 0, locals := 22 } : Room) s m args below meth cd H locs 0 0 Q (F0 m 11 ls []) := by
    intro n
    induction n with
    | zero => intro f_t_left x1 x2 x3 H locs ls hf hw hl; exact g_no hf
    | succ n ih =>
      intro f_t_left x1 x2 x3 H locs ls hf hw hl
      refine lv_iload_n hx hb dX2_mostLeft_11 rfl (lv_at hl 3 rfl) ?_
      refine lv_aload_n hx hb dX2_mostLeft_12 rfl (lv_at hl 0 rfl) ?_
      refine g_get hx hb hG hown hK hw inlX2 (ci := 1) rfl 0 1 (Nat.le_of_ble_eq_true rfl) rfl rfl wd_5_5 dX2_mostLeft_13 ?_
      refine lv_icmp_ge (tgt := 93) hx hb dX2_mostLeft_16 (by decide) (fun hc => ?_) (fun hc => ?_)
      · have hf := g_t hc hf
        exact B93 f_t_left x2 _ _ _ hf hw (lv_sub hl [2] rfl)
      · have hf := g_f hc hf
        refine lv_iload_n hx hb dX2_mostLeft_19 rfl (lv_at hl 3 rfl) ?_
        refine lv_aload_n hx hb dX2_mostLeft_20 rfl (lv_at hl 0 rfl) ?_
        refine g_get hx hb hG hown hK hw inlX2 (ci := 1) rfl 0 0 (Nat.le_of_ble_eq_true rfl) rfl rfl wd_5_4 dX2_mostLeft_21 ?_
        refine g_alen hx hb hK hw 1 rfl dX2_mostLeft_24 ?_
        refine lv_icmp_ge (tgt := 93) hx hb dX2_mostLeft_25 (by decide) (fun hc => ?_) (fun hc => ?_)
        · have hf := g_t hc hf
          exact B93 f_t_left x2 _ _ _ hf hw (lv_sub hl [2] rfl)
        · have hf := g_f hc hf
          refine lv_iload_n hx hb dX2_mostLeft_28 rfl (lv_at hl 1 rfl) ?_
          refine lv_aload_n hx hb dX2_mostLeft_29 rfl (lv_at hl 0 rfl) ?_
          refine g_get hx hb hG hown hK hw inlX2 (ci := 1) rfl 0 0 (Nat.le_of_ble_eq_true rfl) rfl rfl wd_5_4 dX2_mostLeft_30 ?_
          refine lv_iload_n hx hb dX2_mostLeft_33 rfl (lv_at hl 3 rfl) ?_
          obtain ⟨hi1, hf⟩ := gA_s hf
          refine g_iald hx hb hK hw 1 rfl hi1 dX2_mostLeft_34 ?_
          refine lv_bipush (v := 100) hx hb dX2_mostLeft_35 k_b100 ?_
          refine lv_idiv hx hb dX2_mostLeft_37 (by decide) ?_
          refine lv_imul hx hb dX2_mostLeft_38 ?_
          refine lv_aload_n hx hb dX2_mostLeft_39 rfl (lv_at hl 0 rfl) ?_
          refine g_get hx hb hG hown hK hw inlX2 (ci := 1) rfl 0 0 (Nat.le_of_ble_eq_true rfl) rfl rfl wd_5_4 dX2_mostLeft_40 ?_
          refine lv_iload_n hx hb dX2_mostLeft_43 rfl (lv_at hl 3 rfl) ?_
          obtain ⟨hi2, hf⟩ := gA_s hf
          refine g_iald hx hb hK hw 1 rfl hi2 dX2_mostLeft_44 ?_
          refine lv_bipush (v := 100) hx hb dX2_mostLeft_45 k_b100 ?_
          refine g_irem hx hb dX2_mostLeft_47 (by decide) ?_
          refine va_mmin hx hb (hml.trans hl.1.symm) hown (hG _ wd_33_5) (hG _ wd_18_4) (hG _ wd_18_5) (hG _ wd_18_6) (Nat.le_of_ble_eq_true rfl) (Nat.le_of_ble_eq_true rfl) (Nat.zero_le _) (Nat.zero_le _) dX2_mostLeft_48 ?_
          refine lv_istore (lv' := [(4, .int (if ((f_t_twos (Int32.toNatClampNeg x3)) % 100) < (x1 * ((f_t_twos (Int32.toNatClampNeg x3)) / 100)) then ((f_t_twos (Int32.toNatClampNeg x3)) % 100) else (x1 * ((f_t_twos (Int32.toNatClampNeg x3)) / 100)))), (0, .ref o_t), (1, .int x1), (2, .int x2), (3, .int x3)]) hx hb dX2_mostLeft_51 hl (Nat.le_of_ble_eq_true rfl) rfl (fun ls hl => ?_)
          refine lv_iload hx hb dX2_mostLeft_53 (lv_at hl 0 rfl) ?_
          refine lv_iconst (v := 0) hx hb dX2_mostLeft_55 k_i0 ?_
          refine lv_bipush (v := 40) hx hb dX2_mostLeft_56 k_b40 ?_
          obtain ⟨r3, hc4, hf⟩ := gB_s hf
          refine g_ki0 (is := []) hw hA (g_rN (host := "SeedBank") hx hb hml hG hown hK hw (is := []) rfl (by decide) (mX10_within l E (if ((f_t_twos (Int32.toNatClampNeg x3)) % 100) < (x1 * ((f_t_twos (Int32.toNatClampNeg x3)) / 100)) then ((f_t_twos (Int32.toNatClampNeg x3)) % 100) else (x1 * ((f_t_twos (Int32.toNatClampNeg x3)) / 100))) 0 40 r3 hc4) (List.mem_of_getElem? (i := 24) rfl) wd_7_2 wd_1_2 wd_7_3 hX10_within g_allgood ⟨rfl, rfl⟩ ⟨Nat.le_of_ble_eq_true rfl, Nat.le_of_ble_eq_true rfl⟩ ⟨Nat.zero_le _, Nat.zero_le _⟩ rfl hl.1 rfl (Nat.le_of_ble_eq_true rfl) dX2_mostLeft_58) rfl (fun H locs hw => ?_)
          refine lv_if_eq (tgt := 87) hx hb dX2_mostLeft_61 (by decide) (fun hc => ?_) (fun hc => ?_)
          · have hf := g_t hc hf
            exact B87 (fX2_mostLeft_b11 v_t_count f_t_twos n) ih f_t_left x1 x2 x3 _ _ _ hf hw (lv_sub hl [1, 2, 3, 4] rfl)
          · have hf := g_f hc hf
            refine lv_aload_n hx hb dX2_mostLeft_64 rfl (lv_at hl 1 rfl) ?_
            refine g_get hx hb hG hown hK hw inlX2 (ci := 1) rfl 0 2 (Nat.le_of_ble_eq_true rfl) rfl rfl wd_5_6 dX2_mostLeft_65 ?_
            refine lv_iload hx hb dX2_mostLeft_68 (lv_at hl 0 rfl) ?_
            refine lv_dup2_11 hx hb dX2_mostLeft_70 rfl rfl ?_
            obtain ⟨hi5, hf⟩ := gA_s hf
            refine g_iald hx hb hK hw 2 rfl hi5 dX2_mostLeft_71 ?_
            refine lv_iconst (v := 1) hx hb dX2_mostLeft_72 k_i1 ?_
            refine lv_iadd hx hb dX2_mostLeft_73 ?_
            obtain ⟨hi6, hf⟩ := gA_s hf
            refine g_iast (ws' := (wX2_mostLeft E o_t a_t v_t_count f_t_twos (upd f_t_left (Int32.toNatClampNeg (if ((f_t_twos (Int32.toNatClampNeg x3)) % 100) < (x1 * ((f_t_twos (Int32.toNatClampNeg x3)) / 100)) then ((f_t_twos (Int32.toNatClampNeg x3)) % 100) else (x1 * ((f_t_twos (Int32.toNatClampNeg x3)) / 100)))) ((f_t_left (Int32.toNatClampNeg (if ((f_t_twos (Int32.toNatClampNeg x3)) % 100) < (x1 * ((f_t_twos (Int32.toNatClampNeg x3)) / 100)) then ((f_t_twos (Int32.toNatClampNeg x3)) % 100) else (x1 * ((f_t_twos (Int32.toNatClampNeg x3)) / 100))))) + 1)))) hx hb hK hw 2 rfl hi6 rfl dX2_mostLeft_74 (fun H locs hw => ?_)
            refine lv_iload_n hx hb dX2_mostLeft_75 rfl (lv_at hl 3 rfl) ?_
            refine lv_aload_n hx hb dX2_mostLeft_76 rfl (lv_at hl 1 rfl) ?_
            refine g_get hx hb hG hown hK hw inlX2 (ci := 1) rfl 0 2 (Nat.le_of_ble_eq_true rfl) rfl rfl wd_5_6 dX2_mostLeft_77 ?_
            refine lv_iload hx hb dX2_mostLeft_80 (lv_at hl 0 rfl) ?_
            obtain ⟨hi7, hf⟩ := gA_s hf
            refine g_iald hx hb hK hw 2 rfl hi7 dX2_mostLeft_82 ?_
            refine va_mmax hx hb (hml.trans hl.1.symm) hown (hG _ wd_33_6) (hG _ wd_33_7) (hG _ wd_18_5) (hG _ wd_33_8) (Nat.le_of_ble_eq_true rfl) (Nat.le_of_ble_eq_true rfl) (Nat.zero_le _) (Nat.zero_le _) dX2_mostLeft_83 ?_
            refine lv_istore_n (lv' := [(2, .int (if x2 < ((upd f_t_left (Int32.toNatClampNeg (if ((f_t_twos (Int32.toNatClampNeg x3)) % 100) < (x1 * ((f_t_twos (Int32.toNatClampNeg x3)) / 100)) then ((f_t_twos (Int32.toNatClampNeg x3)) % 100) else (x1 * ((f_t_twos (Int32.toNatClampNeg x3)) / 100)))) ((f_t_left (Int32.toNatClampNeg (if ((f_t_twos (Int32.toNatClampNeg x3)) % 100) < (x1 * ((f_t_twos (Int32.toNatClampNeg x3)) / 100)) then ((f_t_twos (Int32.toNatClampNeg x3)) % 100) else (x1 * ((f_t_twos (Int32.toNatClampNeg x3)) / 100))))) + 1)) (Int32.toNatClampNeg (if ((f_t_twos (Int32.toNatClampNeg x3)) % 100) < (x1 * ((f_t_twos (Int32.toNatClampNeg x3)) / 100)) then ((f_t_twos (Int32.toNatClampNeg x3)) % 100) else (x1 * ((f_t_twos (Int32.toNatClampNeg x3)) / 100))))) then ((upd f_t_left (Int32.toNatClampNeg (if ((f_t_twos (Int32.toNatClampNeg x3)) % 100) < (x1 * ((f_t_twos (Int32.toNatClampNeg x3)) / 100)) then ((f_t_twos (Int32.toNatClampNeg x3)) % 100) else (x1 * ((f_t_twos (Int32.toNatClampNeg x3)) / 100)))) ((f_t_left (Int32.toNatClampNeg (if ((f_t_twos (Int32.toNatClampNeg x3)) % 100) < (x1 * ((f_t_twos (Int32.toNatClampNeg x3)) / 100)) then ((f_t_twos (Int32.toNatClampNeg x3)) % 100) else (x1 * ((f_t_twos (Int32.toNatClampNeg x3)) / 100))))) + 1)) (Int32.toNatClampNeg (if ((f_t_twos (Int32.toNatClampNeg x3)) % 100) < (x1 * ((f_t_twos (Int32.toNatClampNeg x3)) / 100)) then ((f_t_twos (Int32.toNatClampNeg x3)) % 100) else (x1 * ((f_t_twos (Int32.toNatClampNeg x3)) / 100))))) else x2)), (4, .int (if ((f_t_twos (Int32.toNatClampNeg x3)) % 100) < (x1 * ((f_t_twos (Int32.toNatClampNeg x3)) / 100)) then ((f_t_twos (Int32.toNatClampNeg x3)) % 100) else (x1 * ((f_t_twos (Int32.toNatClampNeg x3)) / 100)))), (0, .ref o_t), (1, .int x1), (3, .int x3)]) hx hb dX2_mostLeft_86 rfl hl (Nat.le_of_ble_eq_true rfl) rfl (fun ls hl => ?_)
            exact B87 (fX2_mostLeft_b11 v_t_count f_t_twos n) ih (upd f_t_left (Int32.toNatClampNeg (if ((f_t_twos (Int32.toNatClampNeg x3)) % 100) < (x1 * ((f_t_twos (Int32.toNatClampNeg x3)) / 100)) then ((f_t_twos (Int32.toNatClampNeg x3)) % 100) else (x1 * ((f_t_twos (Int32.toNatClampNeg x3)) / 100)))) ((f_t_left (Int32.toNatClampNeg (if ((f_t_twos (Int32.toNatClampNeg x3)) % 100) < (x1 * ((f_t_twos (Int32.toNatClampNeg x3)) / 100)) then ((f_t_twos (Int32.toNatClampNeg x3)) % 100) else (x1 * ((f_t_twos (Int32.toNatClampNeg x3)) / 100))))) + 1)) x1 (if x2 < ((upd f_t_left (Int32.toNatClampNeg (if ((f_t_twos (Int32.toNatClampNeg x3)) % 100) < (x1 * ((f_t_twos (Int32.toNatClampNeg x3)) / 100)) then ((f_t_twos (Int32.toNatClampNeg x3)) % 100) else (x1 * ((f_t_twos (Int32.toNatClampNeg x3)) / 100)))) ((f_t_left (Int32.toNatClampNeg (if ((f_t_twos (Int32.toNatClampNeg x3)) % 100) < (x1 * ((f_t_twos (Int32.toNatClampNeg x3)) / 100)) then ((f_t_twos (Int32.toNatClampNeg x3)) % 100) else (x1 * ((f_t_twos (Int32.toNatClampNeg x3)) / 100))))) + 1)) (Int32.toNatClampNeg (if ((f_t_twos (Int32.toNatClampNeg x3)) % 100) < (x1 * ((f_t_twos (Int32.toNatClampNeg x3)) / 100)) then ((f_t_twos (Int32.toNatClampNeg x3)) % 100) else (x1 * ((f_t_twos (Int32.toNatClampNeg x3)) / 100))))) then ((upd f_t_left (Int32.toNatClampNeg (if ((f_t_twos (Int32.toNatClampNeg x3)) % 100) < (x1 * ((f_t_twos (Int32.toNatClampNeg x3)) / 100)) then ((f_t_twos (Int32.toNatClampNeg x3)) % 100) else (x1 * ((f_t_twos (Int32.toNatClampNeg x3)) / 100)))) ((f_t_left (Int32.toNatClampNeg (if ((f_t_twos (Int32.toNatClampNeg x3)) % 100) < (x1 * ((f_t_twos (Int32.toNatClampNeg x3)) / 100)) then ((f_t_twos (Int32.toNatClampNeg x3)) % 100) else (x1 * ((f_t_twos (Int32.toNatClampNeg x3)) / 100))))) + 1)) (Int32.toNatClampNeg (if ((f_t_twos (Int32.toNatClampNeg x3)) % 100) < (x1 * ((f_t_twos (Int32.toNatClampNeg x3)) / 100)) then ((f_t_twos (Int32.toNatClampNeg x3)) % 100) else (x1 * ((f_t_twos (Int32.toNatClampNeg x3)) / 100))))) else x2) x3 _ _ _ hf hw (lv_sub hl [2, 3, 0, 4] rfl)
  refine lv_aload_n hx hb dX2_mostLeft_0 rfl (lv_at hl 0 rfl) ?_
  refine g_get hx hb hG hown hK hw inlX2 (ci := 1) rfl 0 2 (Nat.le_of_ble_eq_true rfl) rfl rfl wd_5_6 dX2_mostLeft_1 ?_
  obtain ⟨r8, hc9, hf⟩ := gB_s hf
  refine g_kv (is := [2]) (isR := [0, 1]) (nW := 3) (w1 := (wX10_clearRow E (a_t 2) 41 r8)) (ws' := (wX2_mostLeft E o_t a_t v_t_count f_t_twos r8)) hw hA (g_rN (host := "SeedBank") hx hb hml hG hown hK hw (is := [2]) rfl (by decide) (mX10_clearRow l E (a_t 2) 41 f_t_left r8 hc9) (List.mem_of_getElem? (i := 23) rfl) wd_18_15 wd_1_2 wd_18_16 hX10_clearRow g_allgood ⟨rfl, rfl⟩ ⟨Nat.le_of_ble_eq_true rfl, Nat.le_of_ble_eq_true rfl⟩ ⟨Nat.zero_le _, Nat.zero_le _⟩ rfl hl.1 rfl (Nat.le_of_ble_eq_true rfl) dX2_mostLeft_4) rfl (g_had [(a_t 2)] rfl rfl) rfl (⟨⟨_, rfl, rfl⟩, ⟨⟨_, rfl, rfl⟩, trivial⟩⟩) rfl rfl (by decide) (fun H locs hw => ?_)
  refine lv_iconst (v := 0) hx hb dX2_mostLeft_7 k_i0 ?_
  refine lv_istore_n (lv' := [(2, .int 0), (0, .ref o_t), (1, .int x1)]) hx hb dX2_mostLeft_8 rfl hl (Nat.le_of_ble_eq_true rfl) rfl (fun ls hl => ?_)
  refine lv_iconst (v := 0) hx hb dX2_mostLeft_9 k_i0 ?_
  refine lv_istore_n (lv' := [(3, .int 0), (2, .int 0), (0, .ref o_t), (1, .int x1)]) hx hb dX2_mostLeft_10 rfl hl (Nat.le_of_ble_eq_true rfl) rfl (fun ls hl => ?_)
  exact B11 1000 r8 x1 0 0 _ _ _ hf hw (lv_sub hl [2, 3, 1, 0] rfl)
theorem hX2_bestBreath : yX2_bestBreath.cls = RX2 ∧ yX2_bestBreath.cls ≠ "java/lang/invoke/MethodHandle" ∧ yX2_bestBreath.cls ≠ "java/lang/invoke/VarHandle" ∧ (parseMethodDescriptor yX2_bestBreath.desc).map (fun d => d.parameters.length) = some 0 := by decide +kernel
set_option maxHeartbeats 4000000 in
set_option maxRecDepth 100000 in
theorem mX2_bestBreath (l : Launch) (E : gE) (o_t : Nat) (a_t : (Nat → Nat)) (v_t_count : Int32) (f_t_twos : (Nat → Int32)) (f_t_left : (Nat → Int32)) (rv : Int32) (z_t_left : (Nat → Int32)) (hf : fX2_bestBreath v_t_count f_t_twos f_t_left = some (rv, z_t_left)) {sz : Nat} : gMi l yX2_bestBreath (gW yX2_bestBreath cX2_bestBreath 5 (some .int)) ({ frames := 2, cells := 0, slots := 0, locals := 46 } : Room) E [.ref o_t] (wX2_bestBreath E o_t a_t v_t_count f_t_twos f_t_left) sz rv (wX2_bestBreath E o_t a_t v_t_count f_t_twos z_t_left) := by
  refine g_openI (own := RX2) (by decide) rfl (Nat.le_of_ble_eq_true rfl) (fun p e s m args below meth cd Q A hx hb hml hown hG hK hA hret hw ls hl => ?_)
  have hl : lv_has ls 5 [(0, .ref o_t)] := hl
  have hret1 : ∀ (t : Int32 × (Nat → Int32)) (H : Heap) (locs : List Loc) (pc : Nat) (ls : Array Slot), some t = some (rv, z_t_left) → gS E A s.heap (wX2_bestBreath E o_t a_t v_t_count f_t_twos t.2) H locs → decode cX2_bestBreath pc = .ok (.ireturn, 1) → W p l e ({ frames := 2, cells := 0, slots := 0, locals := 46 } : Room) s m args below meth cd H locs 0 0 Q (F0 m pc ls [.int t.1]) := by
    intro t H locs pc ls h hw hd
    obtain rfl : t = (rv, z_t_left) := Option.some.inj h
    exact hret H locs pc ls hw hd
  have B34 : ∀ (K10 : (Nat → Int32) → Int32 → Int32 → Int32 → Option (Int32 × (Nat → Int32))) (hK10 : ∀ (f_t_left : (Nat → Int32)) (x1 : Int32) (x2 : Int32) (x3 : Int32) (H : Heap) (locs : List Loc) (ls : Array Slot), K10 f_t_left x1 x2 x3 = some (rv, z_t_left) → gS E A s.heap (wX2_bestBreath E o_t a_t v_t_count f_t_twos f_t_left) H locs → lv_has ls 5 [(0, .ref o_t), (1, .int x1), (2, .int x2), (3, .int x3)] → W p l e ({ frames := 2, cells := 0, slots := 0, locals := 46 } : Room) s m args below meth cd H locs 0 0 Q (F0 m 10 ls [])), ∀ (f_t_left : (Nat → Int32)) (x1 : Int32) (x2 : Int32) (x3 : Int32) (H : Heap) (locs : List Loc) (ls : Array Slot), fX2_bestBreath_b34 K10 v_t_count f_t_twos f_t_left x1 x2 x3 = some (rv, z_t_left) → gS E A s.heap (wX2_bestBreath E o_t a_t v_t_count f_t_twos f_t_left) H locs → lv_has ls 5 [(0, .ref o_t), (1, .int x1), (2, .int x2), (3, .int x3)] → W p l e ({ frames := 2, cells := 0, slots := 0, locals := 46 } : Room) s m args below meth cd H locs 0 0 Q (F0 m 34 ls []) := by
    intro K10 hK10 f_t_left x1 x2 x3 H locs ls hf hw hl
    refine lv_iinc (lv' := [(3, .int (x3 + 1)), (0, .ref o_t), (1, .int x1), (2, .int x2)]) hx hb dX2_bestBreath_34 hl (k := 3) rfl (k_inc1 _) (Nat.le_of_ble_eq_true rfl) rfl (fun ls hl => ?_)
    refine lv_goto (tgt := 10) hx hb dX2_bestBreath_37 (by decide) ?_
    exact hK10 f_t_left x1 x2 (x3 + 1) _ _ _ hf hw (lv_sub hl [1, 2, 3, 0] rfl)
  have B10 : ∀ n : Nat, ∀ (f_t_left : (Nat → Int32)) (x1 : Int32) (x2 : Int32) (x3 : Int32) (H : Heap) (locs : List Loc) (ls : Array Slot), fX2_bestBreath_b10 v_t_count f_t_twos n f_t_left x1 x2 x3 = some (rv, z_t_left) → gS E A s.heap (wX2_bestBreath E o_t a_t v_t_count f_t_twos f_t_left) H locs → lv_has ls 5 [(0, .ref o_t), (1, .int x1), (2, .int x2), (3, .int x3)] → W p l e ({ frames := 2, cells := 0, slots := 0, locals := 46 } : Room) s m args below meth cd H locs 0 0 Q (F0 m 10 ls []) := by
    intro n
    induction n with
    | zero => intro f_t_left x1 x2 x3 H locs ls hf hw hl; exact g_no hf
    | succ n ih =>
      intro f_t_left x1 x2 x3 H locs ls hf hw hl
      refine lv_iload_n hx hb dX2_bestBreath_10 rfl (lv_at hl 3 rfl) ?_
      refine lv_bipush (v := 9) hx hb dX2_bestBreath_11 k_b9 ?_
      refine lv_icmp_gt (tgt := 40) hx hb dX2_bestBreath_13 (by decide) (fun hc => ?_) (fun hc => ?_)
      · have hf := g_t hc hf
        refine lv_iload_n hx hb dX2_bestBreath_40 rfl (lv_at hl 1 rfl) ?_
        exact hret1 (x1, f_t_left) _ _ _ _ hf hw dX2_bestBreath_41
      · have hf := g_f hc hf
        refine lv_aload_n hx hb dX2_bestBreath_16 rfl (lv_at hl 0 rfl) ?_
        refine lv_iload_n hx hb dX2_bestBreath_17 rfl (lv_at hl 3 rfl) ?_
        obtain ⟨⟨r1_0, r1_1⟩, hc2, hf⟩ := gB_s hf
        refine g_ki (is := [0, 1, 2]) (isR := []) (nW := 3) (w1 := (wX2_mostLeft E o_t a_t v_t_count f_t_twos r1_1)) (ws' := (wX2_bestBreath E o_t a_t v_t_count f_t_twos r1_1)) hw hA (g_rV hx hb hml hG hown hK hw (is := [0, 1, 2]) rfl (by decide) (mX2_mostLeft l E o_t a_t v_t_count f_t_twos f_t_left x3 r1_0 r1_1 hc2) wd_33_1 wd_33_2 wd_33_3 wd_2_9 wd_33_4 hX2_mostLeft g_allgood ⟨rfl, rfl⟩ ⟨Nat.le_of_ble_eq_true rfl, Nat.le_of_ble_eq_true rfl⟩ ⟨Nat.zero_le _, Nat.zero_le _⟩ (ci := 1) (q0 := 0) rfl rfl rfl rfl hl.1 rfl (Nat.le_of_ble_eq_true rfl) dX2_bestBreath_18) rfl (g_had [o_t, (a_t 0), (a_t 2)] rfl rfl) rfl (trivial) rfl rfl (by decide) (fun H locs hw => ?_)
        refine lv_istore (lv' := [(4, .int r1_0), (0, .ref o_t), (1, .int x1), (2, .int x2), (3, .int x3)]) hx hb dX2_bestBreath_21 hl (Nat.le_of_ble_eq_true rfl) rfl (fun ls hl => ?_)
        refine lv_iload hx hb dX2_bestBreath_23 (lv_at hl 0 rfl) ?_
        refine lv_iload_n hx hb dX2_bestBreath_25 rfl (lv_at hl 3 rfl) ?_
        refine lv_icmp_ge (tgt := 34) hx hb dX2_bestBreath_26 (by decide) (fun hc => ?_) (fun hc => ?_)
        · have hf := g_t hc hf
          exact B34 (fX2_bestBreath_b10 v_t_count f_t_twos n) ih r1_1 x1 x2 x3 _ _ _ hf hw (lv_sub hl [1, 2, 3, 4] rfl)
        · have hf := g_f hc hf
          refine lv_iload_n hx hb dX2_bestBreath_29 rfl (lv_at hl 4 rfl) ?_
          refine lv_istore_n (lv' := [(1, .int x3), (4, .int r1_0), (0, .ref o_t), (2, .int x2), (3, .int x3)]) hx hb dX2_bestBreath_30 rfl hl (Nat.le_of_ble_eq_true rfl) rfl (fun ls hl => ?_)
          refine lv_iload hx hb dX2_bestBreath_31 (lv_at hl 1 rfl) ?_
          refine lv_istore_n (lv' := [(2, .int r1_0), (1, .int x3), (4, .int r1_0), (0, .ref o_t), (3, .int x3)]) hx hb dX2_bestBreath_33 rfl hl (Nat.le_of_ble_eq_true rfl) rfl (fun ls hl => ?_)
          exact B34 (fX2_bestBreath_b10 v_t_count f_t_twos n) ih r1_1 x3 r1_0 x3 _ _ _ hf hw (lv_sub hl [3, 1, 0, 4] rfl)
  refine lv_iconst (v := 1) hx hb dX2_bestBreath_0 k_i1 ?_
  refine lv_istore_n (lv' := [(1, .int 1), (0, .ref o_t)]) hx hb dX2_bestBreath_1 rfl hl (Nat.le_of_ble_eq_true rfl) rfl (fun ls hl => ?_)
  refine lv_aload_n hx hb dX2_bestBreath_2 rfl (lv_at hl 1 rfl) ?_
  refine lv_iconst (v := 1) hx hb dX2_bestBreath_3 k_i1 ?_
  obtain ⟨⟨r3_0, r3_1⟩, hc4, hf⟩ := gB_s hf
  refine g_ki (is := [0, 1, 2]) (isR := []) (nW := 3) (w1 := (wX2_mostLeft E o_t a_t v_t_count f_t_twos r3_1)) (ws' := (wX2_bestBreath E o_t a_t v_t_count f_t_twos r3_1)) hw hA (g_rV hx hb hml hG hown hK hw (is := [0, 1, 2]) rfl (by decide) (mX2_mostLeft l E o_t a_t v_t_count f_t_twos f_t_left 1 r3_0 r3_1 hc4) wd_33_1 wd_33_2 wd_33_3 wd_2_9 wd_33_4 hX2_mostLeft g_allgood ⟨rfl, rfl⟩ ⟨Nat.le_of_ble_eq_true rfl, Nat.le_of_ble_eq_true rfl⟩ ⟨Nat.zero_le _, Nat.zero_le _⟩ (ci := 1) (q0 := 0) rfl rfl rfl rfl hl.1 rfl (Nat.le_of_ble_eq_true rfl) dX2_bestBreath_4) rfl (g_had [o_t, (a_t 0), (a_t 2)] rfl rfl) rfl (trivial) rfl rfl (by decide) (fun H locs hw => ?_)
  refine lv_istore_n (lv' := [(2, .int r3_0), (1, .int 1), (0, .ref o_t)]) hx hb dX2_bestBreath_7 rfl hl (Nat.le_of_ble_eq_true rfl) rfl (fun ls hl => ?_)
  refine lv_iconst (v := 2) hx hb dX2_bestBreath_8 k_i2 ?_
  refine lv_istore_n (lv' := [(3, .int 2), (2, .int r3_0), (1, .int 1), (0, .ref o_t)]) hx hb dX2_bestBreath_9 rfl hl (Nat.le_of_ble_eq_true rfl) rfl (fun ls hl => ?_)
  exact B10 1000 r3_1 1 r3_0 2 _ _ _ hf hw (lv_sub hl [3, 2, 1, 0] rfl)
theorem hX2_spread : yX2_spread.cls = RX2 ∧ yX2_spread.cls ≠ "java/lang/invoke/MethodHandle" ∧ yX2_spread.cls ≠ "java/lang/invoke/VarHandle" ∧ (parseMethodDescriptor yX2_spread.desc).map (fun d => d.parameters.length) = some 1 := by decide +kernel
set_option maxHeartbeats 4000000 in
set_option maxRecDepth 100000 in
theorem mX2_spread (l : Launch) (E : gE) (o_t : Nat) (a_t : (Nat → Nat)) (v_t_count : Int32) (f_t_ways : (Nat → Int32)) (f_t_waysOn : (Nat → Int32)) (x1 : Int32) (z_t_waysOn : (Nat → Int32)) (hf : fX2_spread f_t_ways f_t_waysOn x1 = some z_t_waysOn) {sz : Nat} : gMv l yX2_spread (gW yX2_spread cX2_spread 4 none) ({ frames := 1, cells := 0, slots := 0, locals := 25 } : Room) E [.ref o_t, .int x1] (wX2_spread E o_t a_t v_t_count f_t_ways f_t_waysOn) sz (wX2_spread E o_t a_t v_t_count f_t_ways z_t_waysOn) := by
  refine g_openV (own := RX2) (by decide) rfl (Nat.le_of_ble_eq_true rfl) (fun p e s m args below meth cd Q A hx hb hml hown hG hK hA hret hw ls hl => ?_)
  have hl : lv_has ls 4 [(0, .ref o_t), (1, .int x1)] := hl
  have hret1 : ∀ (t : (Nat → Int32)) (H : Heap) (locs : List Loc) (pc : Nat) (ls : Array Slot), some t = some z_t_waysOn → gS E A s.heap (wX2_spread E o_t a_t v_t_count f_t_ways t) H locs → decode cX2_spread pc = .ok (.return_, 1) → W p l e ({ frames := 1, cells := 0, slots := 0, locals := 25 } : Room) s m args below meth cd H locs 0 0 Q (F0 m pc ls []) := by
    intro t H locs pc ls h hw hd
    obtain rfl : t = z_t_waysOn := Option.some.inj h
    exact hret H locs pc ls hw hd
  have B38 : ∀ (K2 : (Nat → Int32) → Int32 → Int32 → Option ((Nat → Int32))) (hK2 : ∀ (f_t_waysOn : (Nat → Int32)) (x1 : Int32) (x2 : Int32) (H : Heap) (locs : List Loc) (ls : Array Slot), K2 f_t_waysOn x1 x2 = some z_t_waysOn → gS E A s.heap (wX2_spread E o_t a_t v_t_count f_t_ways f_t_waysOn) H locs → lv_has ls 4 [(0, .ref o_t), (1, .int x1), (2, .int x2)] → W p l e ({ frames := 1, cells := 0, slots := 0, locals := 25 } : Room) s m args below meth cd H locs 0 0 Q (F0 m 2 ls [])), ∀ (f_t_waysOn : (Nat → Int32)) (x1 : Int32) (x2 : Int32) (H : Heap) (locs : List Loc) (ls : Array Slot), fX2_spread_b38 K2 f_t_ways f_t_waysOn x1 x2 = some z_t_waysOn → gS E A s.heap (wX2_spread E o_t a_t v_t_count f_t_ways f_t_waysOn) H locs → lv_has ls 4 [(0, .ref o_t), (1, .int x1), (2, .int x2)] → W p l e ({ frames := 1, cells := 0, slots := 0, locals := 25 } : Room) s m args below meth cd H locs 0 0 Q (F0 m 38 ls []) := by
    intro K2 hK2 f_t_waysOn x1 x2 H locs ls hf hw hl
    refine lv_iinc (lv' := [(2, .int (x2 + 1)), (0, .ref o_t), (1, .int x1)]) hx hb dX2_spread_38 hl (k := 2) rfl (k_inc1 _) (Nat.le_of_ble_eq_true rfl) rfl (fun ls hl => ?_)
    refine lv_goto (tgt := 2) hx hb dX2_spread_41 (by decide) ?_
    exact hK2 f_t_waysOn x1 (x2 + 1) _ _ _ hf hw (lv_sub hl [1, 2, 0] rfl)
  have B2 : ∀ n : Nat, ∀ (f_t_waysOn : (Nat → Int32)) (x1 : Int32) (x2 : Int32) (H : Heap) (locs : List Loc) (ls : Array Slot), fX2_spread_b2 f_t_ways n f_t_waysOn x1 x2 = some z_t_waysOn → gS E A s.heap (wX2_spread E o_t a_t v_t_count f_t_ways f_t_waysOn) H locs → lv_has ls 4 [(0, .ref o_t), (1, .int x1), (2, .int x2)] → W p l e ({ frames := 1, cells := 0, slots := 0, locals := 25 } : Room) s m args below meth cd H locs 0 0 Q (F0 m 2 ls []) := by
    intro n
    induction n with
    | zero => intro f_t_waysOn x1 x2 H locs ls hf hw hl; exact g_no hf
    | succ n ih =>
      intro f_t_waysOn x1 x2 H locs ls hf hw hl
      refine lv_iload_n hx hb dX2_spread_2 rfl (lv_at hl 2 rfl) ?_
      refine lv_iconst (v := 4) hx hb dX2_spread_3 k_i4 ?_
      refine lv_icmp_ge (tgt := 44) hx hb dX2_spread_4 (by decide) (fun hc => ?_) (fun hc => ?_)
      · have hf := g_t hc hf
        exact hret1 f_t_waysOn _ _ _ _ hf hw dX2_spread_44
      · have hf := g_f hc hf
        refine lv_iload_n hx hb dX2_spread_7 rfl (lv_at hl 1 rfl) ?_
        refine lv_iload_n hx hb dX2_spread_8 rfl (lv_at hl 2 rfl) ?_
        refine lv_iconst (v := 1) hx hb dX2_spread_9 k_i1 ?_
        obtain ⟨r1, hc2, hf⟩ := gB_s hf
        refine g_ki0 (is := []) hw hA (g_rN (host := "SeedBank") hx hb hml hG hown hK hw (is := []) rfl (by decide) (mX10_downwind l E x1 x2 1 r1 hc2) (List.mem_of_getElem? (i := 26) rfl) wd_17_12 wd_1_2 wd_17_13 hX10_downwind g_allgood ⟨rfl, rfl⟩ ⟨Nat.le_of_ble_eq_true rfl, Nat.le_of_ble_eq_true rfl⟩ ⟨Nat.zero_le _, Nat.zero_le _⟩ rfl hl.1 rfl (Nat.le_of_ble_eq_true rfl) dX2_spread_10) rfl (fun H locs hw => ?_)
        refine lv_istore_n (lv' := [(3, .int r1), (0, .ref o_t), (1, .int x1), (2, .int x2)]) hx hb dX2_spread_13 rfl hl (Nat.le_of_ble_eq_true rfl) rfl (fun ls hl => ?_)
        refine lv_iload_n hx hb dX2_spread_14 rfl (lv_at hl 0 rfl) ?_
        obtain ⟨r3, hc4, hf⟩ := gB_s hf
        refine g_ki0 (is := []) hw hA (g_rN (host := "SeedBank") hx hb hml hG hown hK hw (is := []) rfl (by decide) (mX10_isField l E r1 r3 hc4) (List.mem_of_getElem? (i := 25) rfl) wd_7_5 wd_1_2 wd_7_6 hX10_isField g_allgood ⟨rfl, rfl⟩ ⟨Nat.le_of_ble_eq_true rfl, Nat.le_of_ble_eq_true rfl⟩ ⟨Nat.zero_le _, Nat.zero_le _⟩ rfl hl.1 rfl (Nat.le_of_ble_eq_true rfl) dX2_spread_15) rfl (fun H locs hw => ?_)
        refine lv_if_eq (tgt := 38) hx hb dX2_spread_18 (by decide) (fun hc => ?_) (fun hc => ?_)
        · have hf := g_t hc hf
          exact B38 (fX2_spread_b2 f_t_ways n) ih f_t_waysOn x1 x2 _ _ _ hf hw (lv_sub hl [1, 2, 3] rfl)
        · have hf := g_f hc hf
          refine lv_aload_n hx hb dX2_spread_21 rfl (lv_at hl 1 rfl) ?_
          refine g_get hx hb hG hown hK hw inlX2 (ci := 1) rfl 0 4 (Nat.le_of_ble_eq_true rfl) rfl rfl wd_5_8 dX2_spread_22 ?_
          refine lv_iload_n hx hb dX2_spread_25 rfl (lv_at hl 0 rfl) ?_
          refine lv_dup2_11 hx hb dX2_spread_26 rfl rfl ?_
          obtain ⟨hi5, hf⟩ := gA_s hf
          refine g_iald hx hb hK hw 2 rfl hi5 dX2_spread_27 ?_
          refine lv_aload_n hx hb dX2_spread_28 rfl (lv_at hl 1 rfl) ?_
          refine g_get hx hb hG hown hK hw inlX2 (ci := 1) rfl 0 3 (Nat.le_of_ble_eq_true rfl) rfl rfl wd_5_7 dX2_spread_29 ?_
          refine lv_iload_n hx hb dX2_spread_32 rfl (lv_at hl 2 rfl) ?_
          obtain ⟨r6, hc7, hf⟩ := gB_s hf
          refine g_ki0 (is := [1]) hw hA (g_rN (host := "SeedBank") hx hb hml hG hown hK hw (is := [1]) rfl (by decide) (mX10_at l E (a_t 3) 36 f_t_ways x1 r6 hc7) (List.mem_of_getElem? (i := 27) rfl) wd_15_23 wd_1_2 wd_16_0 hX10_at g_allgood ⟨rfl, rfl⟩ ⟨Nat.le_of_ble_eq_true rfl, Nat.le_of_ble_eq_true rfl⟩ ⟨Nat.zero_le _, Nat.zero_le _⟩ rfl hl.1 rfl (Nat.le_of_ble_eq_true rfl) dX2_spread_33) rfl (fun H locs hw => ?_)
          refine lv_iadd hx hb dX2_spread_36 ?_
          obtain ⟨hi8, hf⟩ := gA_s hf
          refine g_iast (ws' := (wX2_spread E o_t a_t v_t_count f_t_ways (upd f_t_waysOn (Int32.toNatClampNeg r1) ((f_t_waysOn (Int32.toNatClampNeg r1)) + r6)))) hx hb hK hw 2 rfl hi8 rfl dX2_spread_37 (fun H locs hw => ?_)
          exact B38 (fX2_spread_b2 f_t_ways n) ih (upd f_t_waysOn (Int32.toNatClampNeg r1) ((f_t_waysOn (Int32.toNatClampNeg r1)) + r6)) x1 x2 _ _ _ hf hw (lv_sub hl [1, 2, 3] rfl)
  refine lv_iconst (v := 0) hx hb dX2_spread_0 k_i0 ?_
  refine lv_istore_n (lv' := [(2, .int 0), (0, .ref o_t), (1, .int x1)]) hx hb dX2_spread_1 rfl hl (Nat.le_of_ble_eq_true rfl) rfl (fun ls hl => ?_)
  exact B2 1000 f_t_waysOn x1 0 _ _ _ hf hw (lv_sub hl [1, 2, 0] rfl)
theorem hX2_countWays : yX2_countWays.cls = RX2 ∧ yX2_countWays.cls ≠ "java/lang/invoke/MethodHandle" ∧ yX2_countWays.cls ≠ "java/lang/invoke/VarHandle" ∧ (parseMethodDescriptor yX2_countWays.desc).map (fun d => d.parameters.length) = some 2 := by decide +kernel
set_option maxHeartbeats 4000000 in
set_option maxRecDepth 100000 in
theorem mX2_countWays (l : Launch) (E : gE) (o_t : Nat) (a_t : (Nat → Nat)) (v_t_count : Int32) (f_t_ways : (Nat → Int32)) (f_t_waysOn : (Nat → Int32)) (x1 : Int32) (x2 : Int32) (z_t_ways : (Nat → Int32)) (z_t_waysOn : (Nat → Int32)) (hf : fX2_countWays f_t_ways f_t_waysOn x1 x2 = some (z_t_ways, z_t_waysOn)) {sz : Nat} : gMv l yX2_countWays (gW yX2_countWays cX2_countWays 5 none) ({ frames := 2, cells := 0, slots := 0, locals := 48 } : Room) E [.ref o_t, .int x1, .int x2] (wX2_countWays E o_t a_t v_t_count f_t_ways f_t_waysOn) sz (wX2_countWays E o_t a_t v_t_count z_t_ways z_t_waysOn) := by
  refine g_openV (own := RX2) (by decide) rfl (Nat.le_of_ble_eq_true rfl) (fun p e s m args below meth cd Q A hx hb hml hown hG hK hA hret hw ls hl => ?_)
  have hl : lv_has ls 5 [(0, .ref o_t), (1, .int x1), (2, .int x2)] := hl
  have hret1 : ∀ (t : (Nat → Int32) × (Nat → Int32)) (H : Heap) (locs : List Loc) (pc : Nat) (ls : Array Slot), some t = some (z_t_ways, z_t_waysOn) → gS E A s.heap (wX2_countWays E o_t a_t v_t_count t.1 t.2) H locs → decode cX2_countWays pc = .ok (.return_, 1) → W p l e ({ frames := 2, cells := 0, slots := 0, locals := 48 } : Room) s m args below meth cd H locs 0 0 Q (F0 m pc ls []) := by
    intro t H locs pc ls h hw hd
    obtain rfl : t = (z_t_ways, z_t_waysOn) := Option.some.inj h
    exact hret H locs pc ls hw hd
  have B38 : ∀ (K23 : (Nat → Int32) → (Nat → Int32) → Int32 → Int32 → Option ((Nat → Int32) × (Nat → Int32))) (hK23 : ∀ (f_t_ways : (Nat → Int32)) (f_t_waysOn : (Nat → Int32)) (x2 : Int32) (x3 : Int32) (H : Heap) (locs : List Loc) (ls : Array Slot), K23 f_t_ways f_t_waysOn x2 x3 = some (z_t_ways, z_t_waysOn) → gS E A s.heap (wX2_countWays E o_t a_t v_t_count f_t_ways f_t_waysOn) H locs → lv_has ls 5 [(0, .ref o_t), (2, .int x2), (3, .int x3)] → W p l e ({ frames := 2, cells := 0, slots := 0, locals := 48 } : Room) s m args below meth cd H locs 0 0 Q (F0 m 23 ls [])), ∀ n : Nat, ∀ (f_t_ways : (Nat → Int32)) (f_t_waysOn : (Nat → Int32)) (x2 : Int32) (x3 : Int32) (x4 : Int32) (H : Heap) (locs : List Loc) (ls : Array Slot), fX2_countWays_b38 K23 n f_t_ways f_t_waysOn x2 x3 x4 = some (z_t_ways, z_t_waysOn) → gS E A s.heap (wX2_countWays E o_t a_t v_t_count f_t_ways f_t_waysOn) H locs → lv_has ls 5 [(0, .ref o_t), (2, .int x2), (3, .int x3), (4, .int x4)] → W p l e ({ frames := 2, cells := 0, slots := 0, locals := 48 } : Room) s m args below meth cd H locs 0 0 Q (F0 m 38 ls []) := by
    intro K23 hK23
    intro n
    induction n with
    | zero => intro f_t_ways f_t_waysOn x2 x3 x4 H locs ls hf hw hl; exact g_no hf
    | succ n ih =>
      intro f_t_ways f_t_waysOn x2 x3 x4 H locs ls hf hw hl
      refine lv_iload hx hb dX2_countWays_38 (lv_at hl 3 rfl) ?_
      refine lv_bipush (v := 36) hx hb dX2_countWays_40 k_b36 ?_
      refine lv_icmp_ge (tgt := 57) hx hb dX2_countWays_42 (by decide) (fun hc => ?_) (fun hc => ?_)
      · have hf := g_t hc hf
        refine lv_aload_n hx hb dX2_countWays_57 rfl (lv_at hl 0 rfl) ?_
        refine g_get hx hb hG hown hK hw inlX2 (ci := 1) rfl 0 4 (Nat.le_of_ble_eq_true rfl) rfl rfl wd_5_8 dX2_countWays_58 ?_
        refine lv_iconst (v := 0) hx hb dX2_countWays_61 k_i0 ?_
        refine lv_aload_n hx hb dX2_countWays_62 rfl (lv_at hl 0 rfl) ?_
        refine g_get hx hb hG hown hK hw inlX2 (ci := 1) rfl 0 3 (Nat.le_of_ble_eq_true rfl) rfl rfl wd_5_7 dX2_countWays_63 ?_
        refine lv_iconst (v := 0) hx hb dX2_countWays_66 k_i0 ?_
        refine lv_bipush (v := 36) hx hb dX2_countWays_67 k_b36 ?_
        refine g_acpy (N := 36) (ws' := (wX2_countWays E o_t a_t v_t_count f_t_waysOn f_t_waysOn)) hx hb (hml.trans hl.1.symm) hG hown wd_34_7 wd_15_20 wd_15_21 wd_15_22 hK hw 2 1 rfl rfl (by decide) (by decide) rfl ⟨Nat.le_of_ble_eq_true rfl, Nat.le_of_ble_eq_true rfl⟩ rfl dX2_countWays_69 (fun H locs hw => ?_)
        refine lv_iinc (lv' := [(3, .int (x3 + 1)), (0, .ref o_t), (2, .int x2), (4, .int x4)]) hx hb dX2_countWays_72 hl (k := 2) rfl (k_inc1 _) (Nat.le_of_ble_eq_true rfl) rfl (fun ls hl => ?_)
        refine lv_goto (tgt := 23) hx hb dX2_countWays_75 (by decide) ?_
        exact hK23 f_t_waysOn f_t_waysOn x2 (x3 + 1) _ _ _ hf hw (lv_sub hl [1, 2, 0] rfl)
      · have hf := g_f hc hf
        refine lv_aload_n hx hb dX2_countWays_45 rfl (lv_at hl 0 rfl) ?_
        refine lv_iload hx hb dX2_countWays_46 (lv_at hl 3 rfl) ?_
        obtain ⟨r1, hc2, hf⟩ := gB_s hf
        refine g_kv (is := [0, 1, 2]) (isR := []) (nW := 3) (w1 := (wX2_spread E o_t a_t v_t_count f_t_ways r1)) (ws' := (wX2_countWays E o_t a_t v_t_count f_t_ways r1)) hw hA (g_rV hx hb hml hG hown hK hw (is := [0, 1, 2]) rfl (by decide) (mX2_spread l E o_t a_t v_t_count f_t_ways f_t_waysOn x4 r1 hc2) wd_34_8 wd_34_9 wd_34_10 wd_2_9 wd_34_11 hX2_spread g_allgood ⟨rfl, rfl⟩ ⟨Nat.le_of_ble_eq_true rfl, Nat.le_of_ble_eq_true rfl⟩ ⟨Nat.zero_le _, Nat.zero_le _⟩ (ci := 1) (q0 := 0) rfl rfl rfl rfl hl.1 rfl (Nat.le_of_ble_eq_true rfl) dX2_countWays_48) rfl (g_had [o_t, (a_t 3), (a_t 4)] rfl rfl) rfl (trivial) rfl rfl (by decide) (fun H locs hw => ?_)
        refine lv_iinc (lv' := [(4, .int (x4 + 1)), (0, .ref o_t), (2, .int x2), (3, .int x3)]) hx hb dX2_countWays_51 hl (k := 3) rfl (k_inc1 _) (Nat.le_of_ble_eq_true rfl) rfl (fun ls hl => ?_)
        refine lv_goto (tgt := 38) hx hb dX2_countWays_54 (by decide) ?_
        exact ih f_t_ways r1 x2 x3 (x4 + 1) _ _ _ hf hw (lv_sub hl [1, 2, 3, 0] rfl)
  have B23 : ∀ n : Nat, ∀ (f_t_ways : (Nat → Int32)) (f_t_waysOn : (Nat → Int32)) (x2 : Int32) (x3 : Int32) (H : Heap) (locs : List Loc) (ls : Array Slot), fX2_countWays_b23 n f_t_ways f_t_waysOn x2 x3 = some (z_t_ways, z_t_waysOn) → gS E A s.heap (wX2_countWays E o_t a_t v_t_count f_t_ways f_t_waysOn) H locs → lv_has ls 5 [(0, .ref o_t), (2, .int x2), (3, .int x3)] → W p l e ({ frames := 2, cells := 0, slots := 0, locals := 48 } : Room) s m args below meth cd H locs 0 0 Q (F0 m 23 ls []) := by
    intro n
    induction n with
    | zero => intro f_t_ways f_t_waysOn x2 x3 H locs ls hf hw hl; exact g_no hf
    | succ n ih =>
      intro f_t_ways f_t_waysOn x2 x3 H locs ls hf hw hl
      refine lv_iload_n hx hb dX2_countWays_23 rfl (lv_at hl 2 rfl) ?_
      refine lv_iload_n hx hb dX2_countWays_24 rfl (lv_at hl 1 rfl) ?_
      refine lv_icmp_ge (tgt := 78) hx hb dX2_countWays_25 (by decide) (fun hc => ?_) (fun hc => ?_)
      · have hf := g_t hc hf
        exact hret1 (f_t_ways, f_t_waysOn) _ _ _ _ hf hw dX2_countWays_78
      · have hf := g_f hc hf
        refine lv_aload_n hx hb dX2_countWays_28 rfl (lv_at hl 0 rfl) ?_
        refine g_get hx hb hG hown hK hw inlX2 (ci := 1) rfl 0 4 (Nat.le_of_ble_eq_true rfl) rfl rfl wd_5_8 dX2_countWays_29 ?_
        obtain ⟨r3, hc4, hf⟩ := gB_s hf
        refine g_kv (is := [2]) (isR := [0, 1]) (nW := 3) (w1 := (wX10_clearRow E (a_t 4) 36 r3)) (ws' := (wX2_countWays E o_t a_t v_t_count f_t_ways r3)) hw hA (g_rN (host := "SeedBank") hx hb hml hG hown hK hw (is := [2]) rfl (by decide) (mX10_clearRow l E (a_t 4) 36 f_t_waysOn r3 hc4) (List.mem_of_getElem? (i := 23) rfl) wd_18_15 wd_1_2 wd_18_16 hX10_clearRow g_allgood ⟨rfl, rfl⟩ ⟨Nat.le_of_ble_eq_true rfl, Nat.le_of_ble_eq_true rfl⟩ ⟨Nat.zero_le _, Nat.zero_le _⟩ rfl hl.1 rfl (Nat.le_of_ble_eq_true rfl) dX2_countWays_32) rfl (g_had [(a_t 4)] rfl rfl) rfl (⟨⟨_, rfl, rfl⟩, ⟨⟨_, rfl, rfl⟩, trivial⟩⟩) rfl rfl (by decide) (fun H locs hw => ?_)
        refine lv_iconst (v := 0) hx hb dX2_countWays_35 k_i0 ?_
        refine lv_istore (lv' := [(4, .int 0), (0, .ref o_t), (2, .int x2), (3, .int x3)]) hx hb dX2_countWays_36 hl (Nat.le_of_ble_eq_true rfl) rfl (fun ls hl => ?_)
        exact B38 (fX2_countWays_b23 n) ih 1000 f_t_ways r3 x2 x3 0 _ _ _ hf hw (lv_sub hl [1, 2, 3, 0] rfl)
  have B21 : ∀ (f_t_ways : (Nat → Int32)) (f_t_waysOn : (Nat → Int32)) (x2 : Int32) (H : Heap) (locs : List Loc) (ls : Array Slot), fX2_countWays_b21 f_t_ways f_t_waysOn x2 = some (z_t_ways, z_t_waysOn) → gS E A s.heap (wX2_countWays E o_t a_t v_t_count f_t_ways f_t_waysOn) H locs → lv_has ls 5 [(0, .ref o_t), (2, .int x2)] → W p l e ({ frames := 2, cells := 0, slots := 0, locals := 48 } : Room) s m args below meth cd H locs 0 0 Q (F0 m 21 ls []) := by
    intro  f_t_ways f_t_waysOn x2 H locs ls hf hw hl
    refine lv_iconst (v := 0) hx hb dX2_countWays_21 k_i0 ?_
    refine lv_istore_n (lv' := [(3, .int 0), (0, .ref o_t), (2, .int x2)]) hx hb dX2_countWays_22 rfl hl (Nat.le_of_ble_eq_true rfl) rfl (fun ls hl => ?_)
    exact B23 1000 f_t_ways f_t_waysOn x2 0 _ _ _ hf hw (lv_sub hl [1, 2, 0] rfl)
  refine lv_aload_n hx hb dX2_countWays_0 rfl (lv_at hl 0 rfl) ?_
  refine g_get hx hb hG hown hK hw inlX2 (ci := 1) rfl 0 3 (Nat.le_of_ble_eq_true rfl) rfl rfl wd_5_7 dX2_countWays_1 ?_
  obtain ⟨r5, hc6, hf⟩ := gB_s hf
  refine g_kv (is := [1]) (isR := [0, 2]) (nW := 3) (w1 := (wX10_clearRow E (a_t 3) 36 r5)) (ws' := (wX2_countWays E o_t a_t v_t_count r5 f_t_waysOn)) hw hA (g_rN (host := "SeedBank") hx hb hml hG hown hK hw (is := [1]) rfl (by decide) (mX10_clearRow l E (a_t 3) 36 f_t_ways r5 hc6) (List.mem_of_getElem? (i := 23) rfl) wd_18_15 wd_1_2 wd_18_16 hX10_clearRow g_allgood ⟨rfl, rfl⟩ ⟨Nat.le_of_ble_eq_true rfl, Nat.le_of_ble_eq_true rfl⟩ ⟨Nat.zero_le _, Nat.zero_le _⟩ rfl hl.1 rfl (Nat.le_of_ble_eq_true rfl) dX2_countWays_4) rfl (g_had [(a_t 3)] rfl rfl) rfl (⟨⟨_, rfl, rfl⟩, ⟨⟨_, rfl, rfl⟩, trivial⟩⟩) rfl rfl (by decide) (fun H locs hw => ?_)
  refine lv_iload_n hx hb dX2_countWays_7 rfl (lv_at hl 1 rfl) ?_
  obtain ⟨r7, hc8, hf⟩ := gB_s hf
  refine g_ki0 (is := []) hw hA (g_rN (host := "SeedBank") hx hb hml hG hown hK hw (is := []) rfl (by decide) (mX10_isField l E x1 r7 hc8) (List.mem_of_getElem? (i := 25) rfl) wd_7_5 wd_1_2 wd_7_6 hX10_isField g_allgood ⟨rfl, rfl⟩ ⟨Nat.le_of_ble_eq_true rfl, Nat.le_of_ble_eq_true rfl⟩ ⟨Nat.zero_le _, Nat.zero_le _⟩ rfl hl.1 rfl (Nat.le_of_ble_eq_true rfl) dX2_countWays_8) rfl (fun H locs hw => ?_)
  refine lv_if_eq (tgt := 21) hx hb dX2_countWays_11 (by decide) (fun hc => ?_) (fun hc => ?_)
  · have hf := g_t hc hf
    exact B21 r5 f_t_waysOn x2 _ _ _ hf hw (lv_sub hl [0, 2] rfl)
  · have hf := g_f hc hf
    refine lv_aload_n hx hb dX2_countWays_14 rfl (lv_at hl 0 rfl) ?_
    refine g_get hx hb hG hown hK hw inlX2 (ci := 1) rfl 0 3 (Nat.le_of_ble_eq_true rfl) rfl rfl wd_5_7 dX2_countWays_15 ?_
    refine lv_iload_n hx hb dX2_countWays_18 rfl (lv_at hl 1 rfl) ?_
    refine lv_iconst (v := 1) hx hb dX2_countWays_19 k_i1 ?_
    obtain ⟨hi9, hf⟩ := gA_s hf
    refine g_iast (ws' := (wX2_countWays E o_t a_t v_t_count (upd r5 (Int32.toNatClampNeg x1) 1) f_t_waysOn)) hx hb hK hw 1 rfl hi9 rfl dX2_countWays_20 (fun H locs hw => ?_)
    exact B21 (upd r5 (Int32.toNatClampNeg x1) 1) f_t_waysOn x2 _ _ _ hf hw (lv_sub hl [0, 2] rfl)
theorem hX10_sumOfRow : yX10_sumOfRow.cls ≠ "java/lang/invoke/MethodHandle" ∧ yX10_sumOfRow.cls ≠ "java/lang/invoke/VarHandle" ∧ (parseMethodDescriptor yX10_sumOfRow.desc).map (fun d => d.parameters.length) = some 1 := by decide +kernel
set_option maxHeartbeats 4000000 in
set_option maxRecDepth 100000 in
theorem mX10_sumOfRow (l : Launch) (E : gE) (o_p0 : Nat) (n_p0 : Nat) (f_p0 : (Nat → Int32)) (rv : Int32) (hf : fX10_sumOfRow n_p0 f_p0 = some rv) {sz : Nat} : gMi l yX10_sumOfRow (gW yX10_sumOfRow cX10_sumOfRow 3 (some .int)) ({ frames := 0, cells := 0, slots := 0, locals := 0 } : Room) E [.ref o_p0] (wX10_sumOfRow E o_p0 n_p0 f_p0) sz rv (wX10_sumOfRow E o_p0 n_p0 f_p0) := by
  refine g_openI (own := RX10) (by decide) rfl (Nat.le_of_ble_eq_true rfl) (fun p e s m args below meth cd Q A hx hb hml hown hG hK hA hret hw ls hl => ?_)
  have hl : lv_has ls 3 [(0, .ref o_p0)] := hl
  have hret1 : ∀ (t : Int32) (H : Heap) (locs : List Loc) (pc : Nat) (ls : Array Slot), some t = some rv → gS E A s.heap (wX10_sumOfRow E o_p0 n_p0 f_p0) H locs → decode cX10_sumOfRow pc = .ok (.ireturn, 1) → W p l e ({ frames := 0, cells := 0, slots := 0, locals := 0 } : Room) s m args below meth cd H locs 0 0 Q (F0 m pc ls [.int t]) := by
    intro t H locs pc ls h hw hd
    obtain rfl : t = rv := Option.some.inj h
    exact hret H locs pc ls hw hd
  have B4 : ∀ n : Nat, ∀ (x1 : Int32) (x2 : Int32) (H : Heap) (locs : List Loc) (ls : Array Slot), fX10_sumOfRow_b4 n_p0 f_p0 n x1 x2 = some rv → gS E A s.heap (wX10_sumOfRow E o_p0 n_p0 f_p0) H locs → lv_has ls 3 [(0, .ref o_p0), (1, .int x1), (2, .int x2)] → W p l e ({ frames := 0, cells := 0, slots := 0, locals := 0 } : Room) s m args below meth cd H locs 0 0 Q (F0 m 4 ls []) := by
    intro n
    induction n with
    | zero => intro x1 x2 H locs ls hf hw hl; exact g_no hf
    | succ n ih =>
      intro x1 x2 H locs ls hf hw hl
      refine lv_iload_n hx hb dX10_sumOfRow_4 rfl (lv_at hl 2 rfl) ?_
      refine lv_aload_n hx hb dX10_sumOfRow_5 rfl (lv_at hl 0 rfl) ?_
      refine g_alen hx hb hK hw 0 rfl dX10_sumOfRow_6 ?_
      refine lv_icmp_ge (tgt := 22) hx hb dX10_sumOfRow_7 (by decide) (fun hc => ?_) (fun hc => ?_)
      · have hf := g_t hc hf
        refine lv_iload_n hx hb dX10_sumOfRow_22 rfl (lv_at hl 1 rfl) ?_
        exact hret1 x1 _ _ _ _ hf hw dX10_sumOfRow_23
      · have hf := g_f hc hf
        refine lv_iload_n hx hb dX10_sumOfRow_10 rfl (lv_at hl 1 rfl) ?_
        refine lv_aload_n hx hb dX10_sumOfRow_11 rfl (lv_at hl 0 rfl) ?_
        refine lv_iload_n hx hb dX10_sumOfRow_12 rfl (lv_at hl 2 rfl) ?_
        obtain ⟨hi1, hf⟩ := gA_s hf
        refine g_iald hx hb hK hw 0 rfl hi1 dX10_sumOfRow_13 ?_
        refine lv_iadd hx hb dX10_sumOfRow_14 ?_
        refine lv_istore_n (lv' := [(1, .int (x1 + (f_p0 (Int32.toNatClampNeg x2)))), (0, .ref o_p0), (2, .int x2)]) hx hb dX10_sumOfRow_15 rfl hl (Nat.le_of_ble_eq_true rfl) rfl (fun ls hl => ?_)
        refine lv_iinc (lv' := [(2, .int (x2 + 1)), (1, .int (x1 + (f_p0 (Int32.toNatClampNeg x2)))), (0, .ref o_p0)]) hx hb dX10_sumOfRow_16 hl (k := 2) rfl (k_inc1 _) (Nat.le_of_ble_eq_true rfl) rfl (fun ls hl => ?_)
        refine lv_goto (tgt := 4) hx hb dX10_sumOfRow_19 (by decide) ?_
        exact ih (x1 + (f_p0 (Int32.toNatClampNeg x2))) (x2 + 1) _ _ _ hf hw (lv_sub hl [2, 1, 0] rfl)
  refine lv_iconst (v := 0) hx hb dX10_sumOfRow_0 k_i0 ?_
  refine lv_istore_n (lv' := [(1, .int 0), (0, .ref o_p0)]) hx hb dX10_sumOfRow_1 rfl hl (Nat.le_of_ble_eq_true rfl) rfl (fun ls hl => ?_)
  refine lv_iconst (v := 0) hx hb dX10_sumOfRow_2 k_i0 ?_
  refine lv_istore_n (lv' := [(2, .int 0), (1, .int 0), (0, .ref o_p0)]) hx hb dX10_sumOfRow_3 rfl hl (Nat.le_of_ble_eq_true rfl) rfl (fun ls hl => ?_)
  exact B4 1000 0 0 _ _ _ hf hw (lv_sub hl [2, 1, 0] rfl)
theorem hX2_chance : yX2_chance.cls = RX2 ∧ yX2_chance.cls ≠ "java/lang/invoke/MethodHandle" ∧ yX2_chance.cls ≠ "java/lang/invoke/VarHandle" ∧ (parseMethodDescriptor yX2_chance.desc).map (fun d => d.parameters.length) = some 4 := by decide +kernel
set_option maxHeartbeats 4000000 in
set_option maxRecDepth 100000 in
theorem mX2_chance (l : Launch) (E : gE) (o_t : Nat) (a_t : (Nat → Nat)) (v_t_count : Int32) (f_t_ways : (Nat → Int32)) (f_t_waysOn : (Nat → Int32)) (x1 : Int32) (x2 : Int32) (x3 : Int32) (x4 : Int32) (rv : Int64) (z_t_ways : (Nat → Int32)) (z_t_waysOn : (Nat → Int32)) (hf : fX2_chance f_t_ways f_t_waysOn x1 x2 x3 x4 = some (rv, z_t_ways, z_t_waysOn)) {sz : Nat} : gMl l yX2_chance (gW yX2_chance cX2_chance 8 (some .long)) ({ frames := 3, cells := 0, slots := 0, locals := 72 } : Room) E [.ref o_t, .int x1, .int x2, .int x3, .int x4] (wX2_chance E o_t a_t v_t_count f_t_ways f_t_waysOn) sz rv (wX2_chance E o_t a_t v_t_count z_t_ways z_t_waysOn) := by
  refine g_openL (own := RX2) (by decide) rfl (Nat.le_of_ble_eq_true rfl) (fun p e s m args below meth cd Q A hx hb hml hown hG hK hA hret hw ls hl => ?_)
  have hl : lv_has ls 8 [(0, .ref o_t), (1, .int x1), (2, .int x2), (3, .int x3), (4, .int x4)] := hl
  have hret1 : ∀ (t : Int64 × (Nat → Int32) × (Nat → Int32)) (H : Heap) (locs : List Loc) (pc : Nat) (ls : Array Slot), some t = some (rv, z_t_ways, z_t_waysOn) → gS E A s.heap (wX2_chance E o_t a_t v_t_count t.2.1 t.2.2) H locs → decode cX2_chance pc = .ok (.lreturn, 1) → W p l e ({ frames := 3, cells := 0, slots := 0, locals := 72 } : Room) s m args below meth cd H locs 0 0 Q (F0 m pc ls [.long t.1]) := by
    intro t H locs pc ls h hw hd
    obtain rfl : t = (rv, z_t_ways, z_t_waysOn) := Option.some.inj h
    exact hret H locs pc ls hw hd
  have B91 : ∀ (f_t_ways : (Nat → Int32)) (f_t_waysOn : (Nat → Int32)) (s0 : Int64) (H : Heap) (locs : List Loc) (ls : Array Slot), fX2_chance_b91 f_t_ways f_t_waysOn s0 = some (rv, z_t_ways, z_t_waysOn) → gS E A s.heap (wX2_chance E o_t a_t v_t_count f_t_ways f_t_waysOn) H locs → lv_has ls 8 [] → W p l e ({ frames := 3, cells := 0, slots := 0, locals := 72 } : Room) s m args below meth cd H locs 0 0 Q (F0 m 91 ls [.long s0]) := by
    intro  f_t_ways f_t_waysOn s0 H locs ls hf hw hl
    exact hret1 (s0, f_t_ways, f_t_waysOn) _ _ _ _ hf hw dX2_chance_91
  have B77 : ∀ (f_t_ways : (Nat → Int32)) (f_t_waysOn : (Nat → Int32)) (x4 : Int32) (x5 : Int32) (x6 : Int32) (H : Heap) (locs : List Loc) (ls : Array Slot), fX2_chance_b77 f_t_ways f_t_waysOn x4 x5 x6 = some (rv, z_t_ways, z_t_waysOn) → gS E A s.heap (wX2_chance E o_t a_t v_t_count f_t_ways f_t_waysOn) H locs → lv_has ls 8 [(4, .int x4), (5, .int x5), (6, .int x6)] → W p l e ({ frames := 3, cells := 0, slots := 0, locals := 72 } : Room) s m args below meth cd H locs 0 0 Q (F0 m 77 ls []) := by
    intro  f_t_ways f_t_waysOn x4 x5 x6 H locs ls hf hw hl
    refine lv_iload hx hb dX2_chance_77 (lv_at hl 0 rfl) ?_
    refine lv_if_ne (tgt := 88) hx hb dX2_chance_79 (by decide) (fun hc => ?_) (fun hc => ?_)
    · have hf := g_f hc hf
      refine lv_iload hx hb dX2_chance_88 (lv_at hl 1 rfl) ?_
      refine lv_i2l hx hb dX2_chance_90 rfl ?_
      exact B91 f_t_ways f_t_waysOn (Int32.toInt64 x5) _ _ _ hf hw (lv_sub hl [] rfl)
    · have hf := g_t hc hf
      refine lv_iload hx hb dX2_chance_82 (lv_at hl 2 rfl) ?_
      refine lv_i2l hx hb dX2_chance_84 rfl ?_
      refine lv_goto (tgt := 91) hx hb dX2_chance_85 (by decide) ?_
      exact B91 f_t_ways f_t_waysOn (Int32.toInt64 x6) _ _ _ hf hw (lv_sub hl [] rfl)
  have B44 : ∀ n : Nat, ∀ (f_t_ways : (Nat → Int32)) (f_t_waysOn : (Nat → Int32)) (x3 : Int32) (x4 : Int32) (x5 : Int32) (x6 : Int32) (x7 : Int32) (H : Heap) (locs : List Loc) (ls : Array Slot), fX2_chance_b44 n f_t_ways f_t_waysOn x3 x4 x5 x6 x7 = some (rv, z_t_ways, z_t_waysOn) → gS E A s.heap (wX2_chance E o_t a_t v_t_count f_t_ways f_t_waysOn) H locs → lv_has ls 8 [(3, .int x3), (4, .int x4), (5, .int x5), (6, .int x6), (7, .int x7)] → W p l e ({ frames := 3, cells := 0, slots := 0, locals := 72 } : Room) s m args below meth cd H locs 0 0 Q (F0 m 44 ls []) := by
    intro n
    induction n with
    | zero => intro f_t_ways f_t_waysOn x3 x4 x5 x6 x7 H locs ls hf hw hl; exact g_no hf
    | succ n ih =>
      intro f_t_ways f_t_waysOn x3 x4 x5 x6 x7 H locs ls hf hw hl
      refine lv_iload hx hb dX2_chance_44 (lv_at hl 4 rfl) ?_
      refine lv_iconst (v := 2) hx hb dX2_chance_46 k_i2 ?_
      refine lv_iload_n hx hb dX2_chance_47 rfl (lv_at hl 0 rfl) ?_
      refine lv_imul hx hb dX2_chance_48 ?_
      refine lv_icmp_ge (tgt := 77) hx hb dX2_chance_49 (by decide) (fun hc => ?_) (fun hc => ?_)
      · have hf := g_t hc hf
        exact B77 f_t_ways f_t_waysOn x4 x5 x6 _ _ _ hf hw (lv_sub hl [1, 2, 3] rfl)
      · have hf := g_f hc hf
        refine lv_iload hx hb dX2_chance_52 (lv_at hl 3 rfl) ?_
        refine lv_iconst (v := 2) hx hb dX2_chance_54 k_i2 ?_
        refine g_irem hx hb dX2_chance_55 (by decide) ?_
        refine lv_if_ne (tgt := 77) hx hb dX2_chance_56 (by decide) (fun hc => ?_) (fun hc => ?_)
        · have hf := g_f hc hf
          exact B77 f_t_ways f_t_waysOn x4 x5 x6 _ _ _ hf hw (lv_sub hl [1, 2, 3] rfl)
        · have hf := g_t hc hf
          refine lv_iload hx hb dX2_chance_59 (lv_at hl 3 rfl) ?_
          refine lv_iconst (v := 2) hx hb dX2_chance_61 k_i2 ?_
          refine lv_idiv hx hb dX2_chance_62 (by decide) ?_
          refine lv_istore (lv' := [(6, .int (x6 / 2)), (3, .int x3), (4, .int x4), (5, .int x5), (7, .int x7)]) hx hb dX2_chance_63 hl (Nat.le_of_ble_eq_true rfl) rfl (fun ls hl => ?_)
          refine lv_iload hx hb dX2_chance_65 (lv_at hl 3 rfl) ?_
          refine lv_iconst (v := 2) hx hb dX2_chance_67 k_i2 ?_
          refine lv_idiv hx hb dX2_chance_68 (by decide) ?_
          refine lv_istore (lv' := [(5, .int (x5 / 2)), (6, .int (x6 / 2)), (3, .int x3), (4, .int x4), (7, .int x7)]) hx hb dX2_chance_69 hl (Nat.le_of_ble_eq_true rfl) rfl (fun ls hl => ?_)
          refine lv_iinc (lv' := [(7, .int (x7 + 1)), (5, .int (x5 / 2)), (6, .int (x6 / 2)), (3, .int x3), (4, .int x4)]) hx hb dX2_chance_71 hl (k := 4) rfl (k_inc1 _) (Nat.le_of_ble_eq_true rfl) rfl (fun ls hl => ?_)
          refine lv_goto (tgt := 44) hx hb dX2_chance_74 (by decide) ?_
          exact ih f_t_ways f_t_waysOn x3 x4 (x5 / 2) (x6 / 2) (x7 + 1) _ _ _ hf hw (lv_sub hl [3, 4, 1, 2, 0] rfl)
  have B39 : ∀ (f_t_ways : (Nat → Int32)) (f_t_waysOn : (Nat → Int32)) (x3 : Int32) (x4 : Int32) (x5 : Int32) (s0 : Int32) (H : Heap) (locs : List Loc) (ls : Array Slot), fX2_chance_b39 f_t_ways f_t_waysOn x3 x4 x5 s0 = some (rv, z_t_ways, z_t_waysOn) → gS E A s.heap (wX2_chance E o_t a_t v_t_count f_t_ways f_t_waysOn) H locs → lv_has ls 8 [(3, .int x3), (4, .int x4), (5, .int x5)] → W p l e ({ frames := 3, cells := 0, slots := 0, locals := 72 } : Room) s m args below meth cd H locs 0 0 Q (F0 m 39 ls [.int s0]) := by
    intro  f_t_ways f_t_waysOn x3 x4 x5 s0 H locs ls hf hw hl
    refine lv_istore (lv' := [(6, .int s0), (3, .int x3), (4, .int x4), (5, .int x5)]) hx hb dX2_chance_39 hl (Nat.le_of_ble_eq_true rfl) rfl (fun ls hl => ?_)
    refine lv_iconst (v := 0) hx hb dX2_chance_41 k_i0 ?_
    refine lv_istore (lv' := [(7, .int 0), (6, .int s0), (3, .int x3), (4, .int x4), (5, .int x5)]) hx hb dX2_chance_42 hl (Nat.le_of_ble_eq_true rfl) rfl (fun ls hl => ?_)
    exact B44 1000 f_t_ways f_t_waysOn x3 x4 x5 s0 0 _ _ _ hf hw (lv_sub hl [2, 3, 4, 1, 0] rfl)
  refine lv_aload_n hx hb dX2_chance_0 rfl (lv_at hl 0 rfl) ?_
  refine lv_iload_n hx hb dX2_chance_1 rfl (lv_at hl 1 rfl) ?_
  refine lv_iload_n hx hb dX2_chance_2 rfl (lv_at hl 3 rfl) ?_
  obtain ⟨⟨r1_0, r1_1⟩, hc2, hf⟩ := gB_s hf
  refine g_kv (is := [0, 1, 2]) (isR := []) (nW := 3) (w1 := (wX2_countWays E o_t a_t v_t_count r1_0 r1_1)) (ws' := (wX2_chance E o_t a_t v_t_count r1_0 r1_1)) hw hA (g_rV hx hb hml hG hown hK hw (is := [0, 1, 2]) rfl (by decide) (mX2_countWays l E o_t a_t v_t_count f_t_ways f_t_waysOn x1 x3 r1_0 r1_1 hc2) wd_34_3 wd_34_4 wd_34_5 wd_2_9 wd_34_6 hX2_countWays g_allgood ⟨rfl, rfl⟩ ⟨Nat.le_of_ble_eq_true rfl, Nat.le_of_ble_eq_true rfl⟩ ⟨Nat.zero_le _, Nat.zero_le _⟩ (ci := 1) (q0 := 0) rfl rfl rfl rfl hl.1 rfl (Nat.le_of_ble_eq_true rfl) dX2_chance_3) rfl (g_had [o_t, (a_t 3), (a_t 4)] rfl rfl) rfl (trivial) rfl rfl (by decide) (fun H locs hw => ?_)
  refine lv_iconst (v := 1) hx hb dX2_chance_6 k_i1 ?_
  refine lv_iconst (v := 2) hx hb dX2_chance_7 k_i2 ?_
  refine lv_iload_n hx hb dX2_chance_8 rfl (lv_at hl 3 rfl) ?_
  refine lv_imul hx hb dX2_chance_9 ?_
  refine lv_ishl hx hb dX2_chance_10 ?_
  refine lv_istore (lv' := [(5, .int (1 <<< ((2 * x3) &&& 31))), (0, .ref o_t), (1, .int x1), (2, .int x2), (3, .int x3), (4, .int x4)]) hx hb dX2_chance_11 hl (Nat.le_of_ble_eq_true rfl) rfl (fun ls hl => ?_)
  refine lv_iload_n hx hb dX2_chance_13 rfl (lv_at hl 3 rfl) ?_
  refine lv_iconst (v := -1) hx hb dX2_chance_14 k_im1 ?_
  refine lv_icmp_ne (tgt := 31) hx hb dX2_chance_15 (by decide) (fun hc => ?_) (fun hc => ?_)
  · have hf := g_f hc hf
    refine lv_aload_n hx hb dX2_chance_31 rfl (lv_at hl 1 rfl) ?_
    refine g_get hx hb hG hown hK hw inlX2 (ci := 1) rfl 0 3 (Nat.le_of_ble_eq_true rfl) rfl rfl wd_5_7 dX2_chance_32 ?_
    refine lv_iload_n hx hb dX2_chance_35 rfl (lv_at hl 3 rfl) ?_
    obtain ⟨r3, hc4, hf⟩ := gB_s hf
    refine g_ki0 (is := [1]) hw hA (g_rN (host := "SeedBank") hx hb hml hG hown hK hw (is := [1]) rfl (by decide) (mX10_at l E (a_t 3) 36 r1_0 x2 r3 hc4) (List.mem_of_getElem? (i := 27) rfl) wd_15_23 wd_1_2 wd_16_0 hX10_at g_allgood ⟨rfl, rfl⟩ ⟨Nat.le_of_ble_eq_true rfl, Nat.le_of_ble_eq_true rfl⟩ ⟨Nat.zero_le _, Nat.zero_le _⟩ rfl hl.1 rfl (Nat.le_of_ble_eq_true rfl) dX2_chance_36) rfl (fun H locs hw => ?_)
    exact B39 r1_0 r1_1 x3 x4 (1 <<< ((2 * x3) &&& 31)) r3 _ _ _ hf hw (lv_sub hl [4, 5, 0] rfl)
  · have hf := g_t hc hf
    refine lv_iload hx hb dX2_chance_18 (lv_at hl 0 rfl) ?_
    refine lv_aload_n hx hb dX2_chance_20 rfl (lv_at hl 1 rfl) ?_
    refine g_get hx hb hG hown hK hw inlX2 (ci := 1) rfl 0 3 (Nat.le_of_ble_eq_true rfl) rfl rfl wd_5_7 dX2_chance_21 ?_
    obtain ⟨r5, hc6, hf⟩ := gB_s hf
    refine g_ki0 (is := [1]) hw hA (g_rN (host := "SeedBank") hx hb hml hG hown hK hw (is := [1]) rfl (by decide) (mX10_sumOfRow l E (a_t 3) 36 r1_0 r5 hc6) (List.mem_of_getElem? (i := 28) rfl) wd_23_16 wd_1_2 wd_23_17 hX10_sumOfRow g_allgood ⟨rfl, rfl⟩ ⟨Nat.le_of_ble_eq_true rfl, Nat.le_of_ble_eq_true rfl⟩ ⟨Nat.zero_le _, Nat.zero_le _⟩ rfl hl.1 rfl (Nat.le_of_ble_eq_true rfl) dX2_chance_24) rfl (fun H locs hw => ?_)
    refine lv_isub hx hb dX2_chance_27 ?_
    refine lv_goto (tgt := 39) hx hb dX2_chance_28 (by decide) ?_
    exact B39 r1_0 r1_1 x3 x4 (1 <<< ((2 * x3) &&& 31)) ((1 <<< ((2 * x3) &&& 31)) - r5) _ _ _ hf hw (lv_sub hl [4, 5, 0] rfl)
theorem hX3_runYear : yX3_runYear.cls = RX3 ∧ yX3_runYear.cls ≠ "java/lang/invoke/MethodHandle" ∧ yX3_runYear.cls ≠ "java/lang/invoke/VarHandle" ∧ (parseMethodDescriptor yX3_runYear.desc).map (fun d => d.parameters.length) = some 2 := by decide +kernel
set_option maxHeartbeats 4000000 in
set_option maxRecDepth 100000 in
theorem mX3_runYear (l : Launch) (E : gE) (o_t : Nat) (a_t : (Nat → Nat)) (f_t_lying : (Nat → Int32)) (f_t_landed : (Nat → Int32)) (x1 : Int32) (x2 : Int32) (z_t_lying : (Nat → Int32)) (z_t_landed : (Nat → Int32)) (hf : fX3_runYear f_t_lying f_t_landed x1 x2 = some (z_t_lying, z_t_landed)) {sz : Nat} : gMv l yX3_runYear (gW yX3_runYear cX3_runYear 6 none) ({ frames := 1, cells := 0, slots := 0, locals := 25 } : Room) E [.ref o_t, .int x1, .int x2] (wX3_runYear E o_t a_t f_t_lying f_t_landed) sz (wX3_runYear E o_t a_t z_t_lying z_t_landed) := by
  refine g_openV (own := RX3) (by decide) rfl (Nat.le_of_ble_eq_true rfl) (fun p e s m args below meth cd Q A hx hb hml hown hG hK hA hret hw ls hl => ?_)
  have hl : lv_has ls 6 [(0, .ref o_t), (1, .int x1), (2, .int x2)] := hl
  have hret1 : ∀ (t : (Nat → Int32) × (Nat → Int32)) (H : Heap) (locs : List Loc) (pc : Nat) (ls : Array Slot), some t = some (z_t_lying, z_t_landed) → gS E A s.heap (wX3_runYear E o_t a_t t.1 t.2) H locs → decode cX3_runYear pc = .ok (.return_, 1) → W p l e ({ frames := 1, cells := 0, slots := 0, locals := 25 } : Room) s m args below meth cd H locs 0 0 Q (F0 m pc ls []) := by
    intro t H locs pc ls h hw hd
    obtain rfl : t = (z_t_lying, z_t_landed) := Option.some.inj h
    exact hret H locs pc ls hw hd
  have B70 : ∀ (K9 : (Nat → Int32) → (Nat → Int32) → Int32 → Int32 → Int32 → Option ((Nat → Int32) × (Nat → Int32))) (hK9 : ∀ (f_t_lying : (Nat → Int32)) (f_t_landed : (Nat → Int32)) (x1 : Int32) (x2 : Int32) (x3 : Int32) (H : Heap) (locs : List Loc) (ls : Array Slot), K9 f_t_lying f_t_landed x1 x2 x3 = some (z_t_lying, z_t_landed) → gS E A s.heap (wX3_runYear E o_t a_t f_t_lying f_t_landed) H locs → lv_has ls 6 [(0, .ref o_t), (1, .int x1), (2, .int x2), (3, .int x3)] → W p l e ({ frames := 1, cells := 0, slots := 0, locals := 25 } : Room) s m args below meth cd H locs 0 0 Q (F0 m 9 ls [])), ∀ (f_t_lying : (Nat → Int32)) (f_t_landed : (Nat → Int32)) (x1 : Int32) (x2 : Int32) (x3 : Int32) (H : Heap) (locs : List Loc) (ls : Array Slot), fX3_runYear_b70 K9 f_t_lying f_t_landed x1 x2 x3 = some (z_t_lying, z_t_landed) → gS E A s.heap (wX3_runYear E o_t a_t f_t_lying f_t_landed) H locs → lv_has ls 6 [(0, .ref o_t), (1, .int x1), (2, .int x2), (3, .int x3)] → W p l e ({ frames := 1, cells := 0, slots := 0, locals := 25 } : Room) s m args below meth cd H locs 0 0 Q (F0 m 70 ls []) := by
    intro K9 hK9 f_t_lying f_t_landed x1 x2 x3 H locs ls hf hw hl
    refine lv_iinc (lv' := [(3, .int (x3 + 1)), (0, .ref o_t), (1, .int x1), (2, .int x2)]) hx hb dX3_runYear_70 hl (k := 3) rfl (k_inc1 _) (Nat.le_of_ble_eq_true rfl) rfl (fun ls hl => ?_)
    refine lv_goto (tgt := 9) hx hb dX3_runYear_73 (by decide) ?_
    exact hK9 f_t_lying f_t_landed x1 x2 (x3 + 1) _ _ _ hf hw (lv_sub hl [1, 2, 3, 0] rfl)
  have B9 : ∀ n : Nat, ∀ (f_t_lying : (Nat → Int32)) (f_t_landed : (Nat → Int32)) (x1 : Int32) (x2 : Int32) (x3 : Int32) (H : Heap) (locs : List Loc) (ls : Array Slot), fX3_runYear_b9 n f_t_lying f_t_landed x1 x2 x3 = some (z_t_lying, z_t_landed) → gS E A s.heap (wX3_runYear E o_t a_t f_t_lying f_t_landed) H locs → lv_has ls 6 [(0, .ref o_t), (1, .int x1), (2, .int x2), (3, .int x3)] → W p l e ({ frames := 1, cells := 0, slots := 0, locals := 25 } : Room) s m args below meth cd H locs 0 0 Q (F0 m 9 ls []) := by
    intro n
    induction n with
    | zero => intro f_t_lying f_t_landed x1 x2 x3 H locs ls hf hw hl; exact g_no hf
    | succ n ih =>
      intro f_t_lying f_t_landed x1 x2 x3 H locs ls hf hw hl
      refine lv_iload_n hx hb dX3_runYear_9 rfl (lv_at hl 3 rfl) ?_
      refine lv_bipush (v := 36) hx hb dX3_runYear_10 k_b36 ?_
      refine lv_icmp_ge (tgt := 76) hx hb dX3_runYear_12 (by decide) (fun hc => ?_) (fun hc => ?_)
      · have hf := g_t hc hf
        refine lv_aload_n hx hb dX3_runYear_76 rfl (lv_at hl 0 rfl) ?_
        refine g_get hx hb hG hown hK hw inlX3 (ci := 2) rfl 0 1 (Nat.le_of_ble_eq_true rfl) rfl rfl wd_5_0 dX3_runYear_77 ?_
        refine lv_iconst (v := 0) hx hb dX3_runYear_80 k_i0 ?_
        refine lv_aload_n hx hb dX3_runYear_81 rfl (lv_at hl 0 rfl) ?_
        refine g_get hx hb hG hown hK hw inlX3 (ci := 2) rfl 0 0 (Nat.le_of_ble_eq_true rfl) rfl rfl wd_4_23 dX3_runYear_82 ?_
        refine lv_iconst (v := 0) hx hb dX3_runYear_85 k_i0 ?_
        refine lv_bipush (v := 36) hx hb dX3_runYear_86 k_b36 ?_
        refine g_acpy (N := 36) (ws' := (wX3_runYear E o_t a_t f_t_landed f_t_landed)) hx hb (hml.trans hl.1.symm) hG hown wd_28_21 wd_15_20 wd_15_21 wd_15_22 hK hw 2 1 rfl rfl (by decide) (by decide) rfl ⟨Nat.le_of_ble_eq_true rfl, Nat.le_of_ble_eq_true rfl⟩ rfl dX3_runYear_88 (fun H locs hw => ?_)
        exact hret1 (f_t_landed, f_t_landed) _ _ _ _ hf hw dX3_runYear_91
      · have hf := g_f hc hf
        refine lv_sipush (v := 999) hx hb dX3_runYear_15 k_s999 ?_
        refine lv_iconst (v := 2) hx hb dX3_runYear_18 k_i2 ?_
        refine lv_aload_n hx hb dX3_runYear_19 rfl (lv_at hl 0 rfl) ?_
        refine g_get hx hb hG hown hK hw inlX3 (ci := 2) rfl 0 0 (Nat.le_of_ble_eq_true rfl) rfl rfl wd_4_23 dX3_runYear_20 ?_
        refine lv_iload_n hx hb dX3_runYear_23 rfl (lv_at hl 3 rfl) ?_
        obtain ⟨hi1, hf⟩ := gA_s hf
        refine g_iald hx hb hK hw 1 rfl hi1 dX3_runYear_24 ?_
        refine lv_imul hx hb dX3_runYear_25 ?_
        refine va_mmin hx hb (hml.trans hl.1.symm) hown (hG _ wd_29_4) (hG _ wd_18_4) (hG _ wd_18_5) (hG _ wd_18_6) (Nat.le_of_ble_eq_true rfl) (Nat.le_of_ble_eq_true rfl) (Nat.zero_le _) (Nat.zero_le _) dX3_runYear_26 ?_
        refine lv_istore (lv' := [(4, .int (if (2 * (f_t_lying (Int32.toNatClampNeg x3))) < 999 then (2 * (f_t_lying (Int32.toNatClampNeg x3))) else 999)), (0, .ref o_t), (1, .int x1), (2, .int x2), (3, .int x3)]) hx hb dX3_runYear_29 hl (Nat.le_of_ble_eq_true rfl) rfl (fun ls hl => ?_)
        refine lv_iload_n hx hb dX3_runYear_31 rfl (lv_at hl 4 rfl) ?_
        refine lv_iload_n hx hb dX3_runYear_32 rfl (lv_at hl 2 rfl) ?_
        refine lv_iload_n hx hb dX3_runYear_33 rfl (lv_at hl 3 rfl) ?_
        obtain ⟨r2, hc3, hf⟩ := gB_s hf
        refine g_ki0 (is := []) hw hA (g_rN (host := "SeedBank") hx hb hml hG hown hK hw (is := []) rfl (by decide) (mX10_downwind l E x3 x1 x2 r2 hc3) (List.mem_of_getElem? (i := 20) rfl) wd_17_12 wd_1_2 wd_17_13 hX10_downwind g_allgood ⟨rfl, rfl⟩ ⟨Nat.le_of_ble_eq_true rfl, Nat.le_of_ble_eq_true rfl⟩ ⟨Nat.zero_le _, Nat.zero_le _⟩ rfl hl.1 rfl (Nat.le_of_ble_eq_true rfl) dX3_runYear_34) rfl (fun H locs hw => ?_)
        refine lv_istore (lv' := [(5, .int r2), (4, .int (if (2 * (f_t_lying (Int32.toNatClampNeg x3))) < 999 then (2 * (f_t_lying (Int32.toNatClampNeg x3))) else 999)), (0, .ref o_t), (1, .int x1), (2, .int x2), (3, .int x3)]) hx hb dX3_runYear_37 hl (Nat.le_of_ble_eq_true rfl) rfl (fun ls hl => ?_)
        refine lv_iload hx hb dX3_runYear_39 (lv_at hl 0 rfl) ?_
        obtain ⟨r4, hc5, hf⟩ := gB_s hf
        refine g_ki0 (is := []) hw hA (g_rN (host := "SeedBank") hx hb hml hG hown hK hw (is := []) rfl (by decide) (mX10_isField l E r2 r4 hc5) (List.mem_of_getElem? (i := 21) rfl) wd_7_5 wd_1_2 wd_7_6 hX10_isField g_allgood ⟨rfl, rfl⟩ ⟨Nat.le_of_ble_eq_true rfl, Nat.le_of_ble_eq_true rfl⟩ ⟨Nat.zero_le _, Nat.zero_le _⟩ rfl hl.1 rfl (Nat.le_of_ble_eq_true rfl) dX3_runYear_41) rfl (fun H locs hw => ?_)
        refine lv_if_eq (tgt := 70) hx hb dX3_runYear_44 (by decide) (fun hc => ?_) (fun hc => ?_)
        · have hf := g_t hc hf
          exact B70 (fX3_runYear_b9 n) ih f_t_lying f_t_landed x1 x2 x3 _ _ _ hf hw (lv_sub hl [2, 3, 4, 5] rfl)
        · have hf := g_f hc hf
          refine lv_aload_n hx hb dX3_runYear_47 rfl (lv_at hl 2 rfl) ?_
          refine g_get hx hb hG hown hK hw inlX3 (ci := 2) rfl 0 1 (Nat.le_of_ble_eq_true rfl) rfl rfl wd_5_0 dX3_runYear_48 ?_
          refine lv_iload hx hb dX3_runYear_51 (lv_at hl 0 rfl) ?_
          refine lv_sipush (v := 999) hx hb dX3_runYear_53 k_s999 ?_
          refine lv_aload_n hx hb dX3_runYear_56 rfl (lv_at hl 2 rfl) ?_
          refine g_get hx hb hG hown hK hw inlX3 (ci := 2) rfl 0 1 (Nat.le_of_ble_eq_true rfl) rfl rfl wd_5_0 dX3_runYear_57 ?_
          refine lv_iload hx hb dX3_runYear_60 (lv_at hl 0 rfl) ?_
          obtain ⟨hi6, hf⟩ := gA_s hf
          refine g_iald hx hb hK hw 2 rfl hi6 dX3_runYear_62 ?_
          refine lv_iload hx hb dX3_runYear_63 (lv_at hl 1 rfl) ?_
          refine lv_iadd hx hb dX3_runYear_65 ?_
          refine va_mmin hx hb (hml.trans hl.1.symm) hown (hG _ wd_29_4) (hG _ wd_18_4) (hG _ wd_18_5) (hG _ wd_18_6) (Nat.le_of_ble_eq_true rfl) (Nat.le_of_ble_eq_true rfl) (Nat.zero_le _) (Nat.zero_le _) dX3_runYear_66 ?_
          obtain ⟨hi7, hf⟩ := gA_s hf
          refine g_iast (ws' := (wX3_runYear E o_t a_t f_t_lying (upd f_t_landed (Int32.toNatClampNeg r2) (if ((f_t_landed (Int32.toNatClampNeg r2)) + (if (2 * (f_t_lying (Int32.toNatClampNeg x3))) < 999 then (2 * (f_t_lying (Int32.toNatClampNeg x3))) else 999)) < 999 then ((f_t_landed (Int32.toNatClampNeg r2)) + (if (2 * (f_t_lying (Int32.toNatClampNeg x3))) < 999 then (2 * (f_t_lying (Int32.toNatClampNeg x3))) else 999)) else 999)))) hx hb hK hw 2 rfl hi7 rfl dX3_runYear_69 (fun H locs hw => ?_)
          exact B70 (fX3_runYear_b9 n) ih f_t_lying (upd f_t_landed (Int32.toNatClampNeg r2) (if ((f_t_landed (Int32.toNatClampNeg r2)) + (if (2 * (f_t_lying (Int32.toNatClampNeg x3))) < 999 then (2 * (f_t_lying (Int32.toNatClampNeg x3))) else 999)) < 999 then ((f_t_landed (Int32.toNatClampNeg r2)) + (if (2 * (f_t_lying (Int32.toNatClampNeg x3))) < 999 then (2 * (f_t_lying (Int32.toNatClampNeg x3))) else 999)) else 999)) x1 x2 x3 _ _ _ hf hw (lv_sub hl [2, 3, 4, 5] rfl)
  refine lv_aload_n hx hb dX3_runYear_0 rfl (lv_at hl 0 rfl) ?_
  refine g_get hx hb hG hown hK hw inlX3 (ci := 2) rfl 0 1 (Nat.le_of_ble_eq_true rfl) rfl rfl wd_5_0 dX3_runYear_1 ?_
  obtain ⟨r8, hc9, hf⟩ := gB_s hf
  refine g_kv (is := [2]) (isR := [0, 1]) (nW := 3) (w1 := (wX10_clearRow E (a_t 1) 36 r8)) (ws' := (wX3_runYear E o_t a_t f_t_lying r8)) hw hA (g_rN (host := "SeedBank") hx hb hml hG hown hK hw (is := [2]) rfl (by decide) (mX10_clearRow l E (a_t 1) 36 f_t_landed r8 hc9) (List.mem_of_getElem? (i := 19) rfl) wd_18_15 wd_1_2 wd_18_16 hX10_clearRow g_allgood ⟨rfl, rfl⟩ ⟨Nat.le_of_ble_eq_true rfl, Nat.le_of_ble_eq_true rfl⟩ ⟨Nat.zero_le _, Nat.zero_le _⟩ rfl hl.1 rfl (Nat.le_of_ble_eq_true rfl) dX3_runYear_4) rfl (g_had [(a_t 1)] rfl rfl) rfl (⟨⟨_, rfl, rfl⟩, ⟨⟨_, rfl, rfl⟩, trivial⟩⟩) rfl rfl (by decide) (fun H locs hw => ?_)
  refine lv_iconst (v := 0) hx hb dX3_runYear_7 k_i0 ?_
  refine lv_istore_n (lv' := [(3, .int 0), (0, .ref o_t), (1, .int x1), (2, .int x2)]) hx hb dX3_runYear_8 rfl hl (Nat.le_of_ble_eq_true rfl) rfl (fun ls hl => ?_)
  exact B9 1000 f_t_lying r8 x1 x2 0 _ _ _ hf hw (lv_sub hl [1, 2, 3, 0] rfl)
theorem hX3_run : yX3_run.cls = RX3 ∧ yX3_run.cls ≠ "java/lang/invoke/MethodHandle" ∧ yX3_run.cls ≠ "java/lang/invoke/VarHandle" ∧ (parseMethodDescriptor yX3_run.desc).map (fun d => d.parameters.length) = some 2 := by decide +kernel
set_option maxHeartbeats 4000000 in
set_option maxRecDepth 100000 in
theorem mX3_run (l : Launch) (E : gE) (o_p0 : Nat) (a_p0 : (Nat → Nat)) (o_t : Nat) (a_t : (Nat → Nat)) (v_p0_families : Int32) (v_p0_wind : Int32) (v_p0_force : Int32) (v_p0_rain : Int32) (v_p0_lost : Int32) (v_p0_hour : Int32) (f_p0_ground : (Nat → Int32)) (f_t_lying : (Nat → Int32)) (f_t_landed : (Nat → Int32)) (x2 : Int32) (z_t_lying : (Nat → Int32)) (z_t_landed : (Nat → Int32)) (hf : fX3_run v_p0_wind v_p0_force f_p0_ground f_t_lying f_t_landed x2 = some (z_t_lying, z_t_landed)) {sz : Nat} : gMv l yX3_run (gW yX3_run cX3_run 4 none) ({ frames := 2, cells := 0, slots := 0, locals := 50 } : Room) E [.ref o_t, .ref o_p0, .int x2] (wX3_run E o_p0 a_p0 o_t a_t v_p0_families v_p0_wind v_p0_force v_p0_rain v_p0_lost v_p0_hour f_p0_ground f_t_lying f_t_landed) sz (wX3_run E o_p0 a_p0 o_t a_t v_p0_families v_p0_wind v_p0_force v_p0_rain v_p0_lost v_p0_hour f_p0_ground z_t_lying z_t_landed) := by
  refine g_openV (own := RX3) (by decide) rfl (Nat.le_of_ble_eq_true rfl) (fun p e s m args below meth cd Q A hx hb hml hown hG hK hA hret hw ls hl => ?_)
  have hl : lv_has ls 4 [(0, .ref o_t), (1, .ref o_p0), (2, .int x2)] := hl
  have hret1 : ∀ (t : (Nat → Int32) × (Nat → Int32)) (H : Heap) (locs : List Loc) (pc : Nat) (ls : Array Slot), some t = some (z_t_lying, z_t_landed) → gS E A s.heap (wX3_run E o_p0 a_p0 o_t a_t v_p0_families v_p0_wind v_p0_force v_p0_rain v_p0_lost v_p0_hour f_p0_ground t.1 t.2) H locs → decode cX3_run pc = .ok (.return_, 1) → W p l e ({ frames := 2, cells := 0, slots := 0, locals := 50 } : Room) s m args below meth cd H locs 0 0 Q (F0 m pc ls []) := by
    intro t H locs pc ls h hw hd
    obtain rfl : t = (z_t_lying, z_t_landed) := Option.some.inj h
    exact hret H locs pc ls hw hd
  have B17 : ∀ n : Nat, ∀ (f_t_lying : (Nat → Int32)) (f_t_landed : (Nat → Int32)) (x2 : Int32) (x3 : Int32) (H : Heap) (locs : List Loc) (ls : Array Slot), fX3_run_b17 v_p0_wind v_p0_force n f_t_lying f_t_landed x2 x3 = some (z_t_lying, z_t_landed) → gS E A s.heap (wX3_run E o_p0 a_p0 o_t a_t v_p0_families v_p0_wind v_p0_force v_p0_rain v_p0_lost v_p0_hour f_p0_ground f_t_lying f_t_landed) H locs → lv_has ls 4 [(0, .ref o_t), (1, .ref o_p0), (2, .int x2), (3, .int x3)] → W p l e ({ frames := 2, cells := 0, slots := 0, locals := 50 } : Room) s m args below meth cd H locs 0 0 Q (F0 m 17 ls []) := by
    intro n
    induction n with
    | zero => intro f_t_lying f_t_landed x2 x3 H locs ls hf hw hl; exact g_no hf
    | succ n ih =>
      intro f_t_lying f_t_landed x2 x3 H locs ls hf hw hl
      refine lv_iload_n hx hb dX3_run_17 rfl (lv_at hl 3 rfl) ?_
      refine lv_iload_n hx hb dX3_run_18 rfl (lv_at hl 2 rfl) ?_
      refine lv_icmp_ge (tgt := 40) hx hb dX3_run_19 (by decide) (fun hc => ?_) (fun hc => ?_)
      · have hf := g_t hc hf
        exact hret1 (f_t_lying, f_t_landed) _ _ _ _ hf hw dX3_run_40
      · have hf := g_f hc hf
        refine lv_aload_n hx hb dX3_run_22 rfl (lv_at hl 0 rfl) ?_
        refine lv_aload_n hx hb dX3_run_23 rfl (lv_at hl 1 rfl) ?_
        refine g_get hx hb hG hown hK hw inlX6 (ci := 5) rfl 0 6 (Nat.le_of_ble_eq_true rfl) rfl rfl wd_28_22 dX3_run_24 ?_
        refine lv_aload_n hx hb dX3_run_27 rfl (lv_at hl 1 rfl) ?_
        refine g_get hx hb hG hown hK hw inlX6 (ci := 5) rfl 0 7 (Nat.le_of_ble_eq_true rfl) rfl rfl wd_28_23 dX3_run_28 ?_
        obtain ⟨⟨r1_0, r1_1⟩, hc2, hf⟩ := gB_s hf
        refine g_kv (is := [2, 3, 4]) (isR := [0, 1]) (nW := 5) (w1 := (wX3_runYear E o_t a_t r1_0 r1_1)) (ws' := (wX3_run E o_p0 a_p0 o_t a_t v_p0_families v_p0_wind v_p0_force v_p0_rain v_p0_lost v_p0_hour f_p0_ground r1_0 r1_1)) hw hA (g_rV hx hb hml hG hown hK hw (is := [2, 3, 4]) rfl (by decide) (mX3_runYear l E o_t a_t f_t_lying f_t_landed v_p0_wind v_p0_force r1_0 r1_1 hc2) wd_29_0 wd_29_1 wd_29_2 wd_2_5 wd_29_3 hX3_runYear g_allgood ⟨rfl, rfl⟩ ⟨Nat.le_of_ble_eq_true rfl, Nat.le_of_ble_eq_true rfl⟩ ⟨Nat.zero_le _, Nat.zero_le _⟩ (ci := 2) (q0 := 0) rfl rfl rfl rfl hl.1 rfl (Nat.le_of_ble_eq_true rfl) dX3_run_31) rfl (g_had [o_t, (a_t 0), (a_t 1)] rfl rfl) rfl (⟨⟨_, rfl, rfl⟩, ⟨⟨_, rfl, rfl⟩, trivial⟩⟩) rfl rfl (by decide) (fun H locs hw => ?_)
        refine lv_iinc (lv' := [(3, .int (x3 + 1)), (0, .ref o_t), (1, .ref o_p0), (2, .int x2)]) hx hb dX3_run_34 hl (k := 3) rfl (k_inc1 _) (Nat.le_of_ble_eq_true rfl) rfl (fun ls hl => ?_)
        refine lv_goto (tgt := 17) hx hb dX3_run_37 (by decide) ?_
        exact ih r1_0 r1_1 x2 (x3 + 1) _ _ _ hf hw (lv_sub hl [1, 2, 3, 0] rfl)
  refine lv_aload_n hx hb dX3_run_0 rfl (lv_at hl 1 rfl) ?_
  refine g_get hx hb hG hown hK hw inlX6 (ci := 5) rfl 0 4 (Nat.le_of_ble_eq_true rfl) rfl rfl wd_28_20 dX3_run_1 ?_
  refine lv_iconst (v := 0) hx hb dX3_run_4 k_i0 ?_
  refine lv_aload_n hx hb dX3_run_5 rfl (lv_at hl 0 rfl) ?_
  refine g_get hx hb hG hown hK hw inlX3 (ci := 2) rfl 2 0 (Nat.le_of_ble_eq_true rfl) rfl rfl wd_4_23 dX3_run_6 ?_
  refine lv_iconst (v := 0) hx hb dX3_run_9 k_i0 ?_
  refine lv_bipush (v := 36) hx hb dX3_run_10 k_b36 ?_
  refine g_acpy (N := 36) (ws' := (wX3_run E o_p0 a_p0 o_t a_t v_p0_families v_p0_wind v_p0_force v_p0_rain v_p0_lost v_p0_hour f_p0_ground f_p0_ground f_t_landed)) hx hb (hml.trans hl.1.symm) hG hown wd_28_21 wd_15_20 wd_15_21 wd_15_22 hK hw 1 3 rfl rfl (by decide) (by decide) rfl ⟨Nat.le_of_ble_eq_true rfl, Nat.le_of_ble_eq_true rfl⟩ rfl dX3_run_12 (fun H locs hw => ?_)
  refine lv_iconst (v := 0) hx hb dX3_run_15 k_i0 ?_
  refine lv_istore_n (lv' := [(3, .int 0), (0, .ref o_t), (1, .ref o_p0), (2, .int x2)]) hx hb dX3_run_16 rfl hl (Nat.le_of_ble_eq_true rfl) rfl (fun ls hl => ?_)
  exact B17 1000 f_p0_ground f_t_landed x2 0 _ _ _ hf hw (lv_sub hl [1, 2, 3, 0] rfl)
theorem hX3_sum : yX3_sum.cls = RX3 ∧ yX3_sum.cls ≠ "java/lang/invoke/MethodHandle" ∧ yX3_sum.cls ≠ "java/lang/invoke/VarHandle" ∧ (parseMethodDescriptor yX3_sum.desc).map (fun d => d.parameters.length) = some 0 := by decide +kernel
set_option maxHeartbeats 4000000 in
set_option maxRecDepth 100000 in
theorem mX3_sum (l : Launch) (E : gE) (o_t : Nat) (a_t : (Nat → Nat)) (f_t_lying : (Nat → Int32)) (rv : Int32) (hf : fX3_sum f_t_lying = some rv) {sz : Nat} : gMi l yX3_sum (gW yX3_sum cX3_sum 1 (some .int)) ({ frames := 1, cells := 0, slots := 0, locals := 22 } : Room) E [.ref o_t] (wX3_sum E o_t a_t f_t_lying) sz rv (wX3_sum E o_t a_t f_t_lying) := by
  refine g_openI (own := RX3) (by decide) rfl (Nat.le_of_ble_eq_true rfl) (fun p e s m args below meth cd Q A hx hb hml hown hG hK hA hret hw ls hl => ?_)
  have hl : lv_has ls 1 [(0, .ref o_t)] := hl
  have hret1 : ∀ (t : Int32) (H : Heap) (locs : List Loc) (pc : Nat) (ls : Array Slot), some t = some rv → gS E A s.heap (wX3_sum E o_t a_t f_t_lying) H locs → decode cX3_sum pc = .ok (.ireturn, 1) → W p l e ({ frames := 1, cells := 0, slots := 0, locals := 22 } : Room) s m args below meth cd H locs 0 0 Q (F0 m pc ls [.int t]) := by
    intro t H locs pc ls h hw hd
    obtain rfl : t = rv := Option.some.inj h
    exact hret H locs pc ls hw hd
  refine lv_aload_n hx hb dX3_sum_0 rfl (lv_at hl 0 rfl) ?_
  refine g_get hx hb hG hown hK hw inlX3 (ci := 2) rfl 0 0 (Nat.le_of_ble_eq_true rfl) rfl rfl wd_4_23 dX3_sum_1 ?_
  obtain ⟨r1, hc2, hf⟩ := gB_s hf
  refine g_ki0 (is := [1]) hw hA (g_rN (host := "SeedBank") hx hb hml hG hown hK hw (is := [1]) rfl (by decide) (mX10_sumOfRow l E (a_t 0) 36 f_t_lying r1 hc2) (List.mem_of_getElem? (i := 22) rfl) wd_23_16 wd_1_2 wd_23_17 hX10_sumOfRow g_allgood ⟨rfl, rfl⟩ ⟨Nat.le_of_ble_eq_true rfl, Nat.le_of_ble_eq_true rfl⟩ ⟨Nat.zero_le _, Nat.zero_le _⟩ rfl hl.1 rfl (Nat.le_of_ble_eq_true rfl) dX3_sum_4) rfl (fun H locs hw => ?_)
  exact hret1 r1 _ _ _ _ hf hw dX3_sum_7
theorem hX3_fullestField : yX3_fullestField.cls = RX3 ∧ yX3_fullestField.cls ≠ "java/lang/invoke/MethodHandle" ∧ yX3_fullestField.cls ≠ "java/lang/invoke/VarHandle" ∧ (parseMethodDescriptor yX3_fullestField.desc).map (fun d => d.parameters.length) = some 0 := by decide +kernel
set_option maxHeartbeats 4000000 in
set_option maxRecDepth 100000 in
theorem mX3_fullestField (l : Launch) (E : gE) (o_t : Nat) (a_t : (Nat → Nat)) (f_t_lying : (Nat → Int32)) (rv : Int32) (hf : fX3_fullestField f_t_lying = some rv) {sz : Nat} : gMi l yX3_fullestField (gW yX3_fullestField cX3_fullestField 3 (some .int)) ({ frames := 0, cells := 0, slots := 0, locals := 0 } : Room) E [.ref o_t] (wX3_fullestField E o_t a_t f_t_lying) sz rv (wX3_fullestField E o_t a_t f_t_lying) := by
  refine g_openI (own := RX3) (by decide) rfl (Nat.le_of_ble_eq_true rfl) (fun p e s m args below meth cd Q A hx hb hml hown hG hK hA hret hw ls hl => ?_)
  have hl : lv_has ls 3 [(0, .ref o_t)] := hl
  have hret1 : ∀ (t : Int32) (H : Heap) (locs : List Loc) (pc : Nat) (ls : Array Slot), some t = some rv → gS E A s.heap (wX3_fullestField E o_t a_t f_t_lying) H locs → decode cX3_fullestField pc = .ok (.ireturn, 1) → W p l e ({ frames := 0, cells := 0, slots := 0, locals := 0 } : Room) s m args below meth cd H locs 0 0 Q (F0 m pc ls [.int t]) := by
    intro t H locs pc ls h hw hd
    obtain rfl : t = rv := Option.some.inj h
    exact hret H locs pc ls hw hd
  have B27 : ∀ (K4 : Int32 → Int32 → Option (Int32)) (hK4 : ∀ (x1 : Int32) (x2 : Int32) (H : Heap) (locs : List Loc) (ls : Array Slot), K4 x1 x2 = some rv → gS E A s.heap (wX3_fullestField E o_t a_t f_t_lying) H locs → lv_has ls 3 [(0, .ref o_t), (1, .int x1), (2, .int x2)] → W p l e ({ frames := 0, cells := 0, slots := 0, locals := 0 } : Room) s m args below meth cd H locs 0 0 Q (F0 m 4 ls [])), ∀ (x1 : Int32) (x2 : Int32) (H : Heap) (locs : List Loc) (ls : Array Slot), fX3_fullestField_b27 K4 f_t_lying x1 x2 = some rv → gS E A s.heap (wX3_fullestField E o_t a_t f_t_lying) H locs → lv_has ls 3 [(0, .ref o_t), (1, .int x1), (2, .int x2)] → W p l e ({ frames := 0, cells := 0, slots := 0, locals := 0 } : Room) s m args below meth cd H locs 0 0 Q (F0 m 27 ls []) := by
    intro K4 hK4 x1 x2 H locs ls hf hw hl
    refine lv_iinc (lv' := [(2, .int (x2 + 1)), (0, .ref o_t), (1, .int x1)]) hx hb dX3_fullestField_27 hl (k := 2) rfl (k_inc1 _) (Nat.le_of_ble_eq_true rfl) rfl (fun ls hl => ?_)
    refine lv_goto (tgt := 4) hx hb dX3_fullestField_30 (by decide) ?_
    exact hK4 x1 (x2 + 1) _ _ _ hf hw (lv_sub hl [1, 2, 0] rfl)
  have B4 : ∀ n : Nat, ∀ (x1 : Int32) (x2 : Int32) (H : Heap) (locs : List Loc) (ls : Array Slot), fX3_fullestField_b4 f_t_lying n x1 x2 = some rv → gS E A s.heap (wX3_fullestField E o_t a_t f_t_lying) H locs → lv_has ls 3 [(0, .ref o_t), (1, .int x1), (2, .int x2)] → W p l e ({ frames := 0, cells := 0, slots := 0, locals := 0 } : Room) s m args below meth cd H locs 0 0 Q (F0 m 4 ls []) := by
    intro n
    induction n with
    | zero => intro x1 x2 H locs ls hf hw hl; exact g_no hf
    | succ n ih =>
      intro x1 x2 H locs ls hf hw hl
      refine lv_iload_n hx hb dX3_fullestField_4 rfl (lv_at hl 2 rfl) ?_
      refine lv_bipush (v := 36) hx hb dX3_fullestField_5 k_b36 ?_
      refine lv_icmp_ge (tgt := 33) hx hb dX3_fullestField_7 (by decide) (fun hc => ?_) (fun hc => ?_)
      · have hf := g_t hc hf
        refine lv_iload_n hx hb dX3_fullestField_33 rfl (lv_at hl 1 rfl) ?_
        exact hret1 x1 _ _ _ _ hf hw dX3_fullestField_34
      · have hf := g_f hc hf
        refine lv_aload_n hx hb dX3_fullestField_10 rfl (lv_at hl 0 rfl) ?_
        refine g_get hx hb hG hown hK hw inlX3 (ci := 2) rfl 0 0 (Nat.le_of_ble_eq_true rfl) rfl rfl wd_4_23 dX3_fullestField_11 ?_
        refine lv_iload_n hx hb dX3_fullestField_14 rfl (lv_at hl 2 rfl) ?_
        obtain ⟨hi1, hf⟩ := gA_s hf
        refine g_iald hx hb hK hw 1 rfl hi1 dX3_fullestField_15 ?_
        refine lv_aload_n hx hb dX3_fullestField_16 rfl (lv_at hl 0 rfl) ?_
        refine g_get hx hb hG hown hK hw inlX3 (ci := 2) rfl 0 0 (Nat.le_of_ble_eq_true rfl) rfl rfl wd_4_23 dX3_fullestField_17 ?_
        refine lv_iload_n hx hb dX3_fullestField_20 rfl (lv_at hl 1 rfl) ?_
        obtain ⟨hi2, hf⟩ := gA_s hf
        refine g_iald hx hb hK hw 1 rfl hi2 dX3_fullestField_21 ?_
        refine lv_icmp_le (tgt := 27) hx hb dX3_fullestField_22 (by decide) (fun hc => ?_) (fun hc => ?_)
        · have hf := g_t hc hf
          exact B27 (fX3_fullestField_b4 f_t_lying n) ih x1 x2 _ _ _ hf hw (lv_sub hl [0, 1, 2] rfl)
        · have hf := g_f hc hf
          refine lv_iload_n hx hb dX3_fullestField_25 rfl (lv_at hl 2 rfl) ?_
          refine lv_istore_n (lv' := [(1, .int x2), (0, .ref o_t), (2, .int x2)]) hx hb dX3_fullestField_26 rfl hl (Nat.le_of_ble_eq_true rfl) rfl (fun ls hl => ?_)
          exact B27 (fX3_fullestField_b4 f_t_lying n) ih x2 x2 _ _ _ hf hw (lv_sub hl [1, 0, 2] rfl)
  refine lv_iconst (v := 0) hx hb dX3_fullestField_0 k_i0 ?_
  refine lv_istore_n (lv' := [(1, .int 0), (0, .ref o_t)]) hx hb dX3_fullestField_1 rfl hl (Nat.le_of_ble_eq_true rfl) rfl (fun ls hl => ?_)
  refine lv_iconst (v := 1) hx hb dX3_fullestField_2 k_i1 ?_
  refine lv_istore_n (lv' := [(2, .int 1), (1, .int 0), (0, .ref o_t)]) hx hb dX3_fullestField_3 rfl hl (Nat.le_of_ble_eq_true rfl) rfl (fun ls hl => ?_)
  exact B4 1000 0 1 _ _ _ hf hw (lv_sub hl [2, 1, 0] rfl)
theorem hX9_copyFrom : yX9_copyFrom.cls = RX9 ∧ yX9_copyFrom.cls ≠ "java/lang/invoke/MethodHandle" ∧ yX9_copyFrom.cls ≠ "java/lang/invoke/VarHandle" ∧ (parseMethodDescriptor yX9_copyFrom.desc).map (fun d => d.parameters.length) = some 1 := by decide +kernel
set_option maxHeartbeats 4000000 in
set_option maxRecDepth 100000 in
theorem mX9_copyFrom (l : Launch) (E : gE) (o_p0 : Nat) (a_p0 : (Nat → Nat)) (o_t : Nat) (a_t : (Nat → Nat)) (v_p0_count : Int32) (v_t_count : Int32) (f_p0_breaths : (Nat → Int32)) (f_p0_flews : (Nat → Int32)) (f_t_breaths : (Nat → Int32)) (f_t_flews : (Nat → Int32)) (z_t_count : Int32) (z_t_breaths : (Nat → Int32)) (z_t_flews : (Nat → Int32)) (hf : fX9_copyFrom v_p0_count v_t_count f_p0_breaths f_p0_flews f_t_breaths f_t_flews = some (z_t_count, z_t_breaths, z_t_flews)) {sz : Nat} : gMv l yX9_copyFrom (gW yX9_copyFrom cX9_copyFrom 2 none) ({ frames := 1, cells := 0, slots := 0, locals := 18 } : Room) E [.ref o_t, .ref o_p0] (wX9_copyFrom E o_p0 a_p0 o_t a_t v_p0_count v_t_count f_p0_breaths f_p0_flews f_t_breaths f_t_flews) sz (wX9_copyFrom E o_p0 a_p0 o_t a_t v_p0_count z_t_count f_p0_breaths f_p0_flews z_t_breaths z_t_flews) := by
  refine g_openV (own := RX9) (by decide) rfl (Nat.le_of_ble_eq_true rfl) (fun p e s m args below meth cd Q A hx hb hml hown hG hK hA hret hw ls hl => ?_)
  have hl : lv_has ls 2 [(0, .ref o_t), (1, .ref o_p0)] := hl
  have hret1 : ∀ (t : Int32 × (Nat → Int32) × (Nat → Int32)) (H : Heap) (locs : List Loc) (pc : Nat) (ls : Array Slot), some t = some (z_t_count, z_t_breaths, z_t_flews) → gS E A s.heap (wX9_copyFrom E o_p0 a_p0 o_t a_t v_p0_count t.1 f_p0_breaths f_p0_flews t.2.1 t.2.2) H locs → decode cX9_copyFrom pc = .ok (.return_, 1) → W p l e ({ frames := 1, cells := 0, slots := 0, locals := 18 } : Room) s m args below meth cd H locs 0 0 Q (F0 m pc ls []) := by
    intro t H locs pc ls h hw hd
    obtain rfl : t = (z_t_count, z_t_breaths, z_t_flews) := Option.some.inj h
    exact hret H locs pc ls hw hd
  refine lv_aload_n hx hb dX9_copyFrom_0 rfl (lv_at hl 1 rfl) ?_
  refine g_get hx hb hG hown hK hw inlX9 (ci := 7) rfl 0 0 (Nat.le_of_ble_eq_true rfl) rfl rfl wd_3_20 dX9_copyFrom_1 ?_
  refine lv_iconst (v := 0) hx hb dX9_copyFrom_4 k_i0 ?_
  refine lv_aload_n hx hb dX9_copyFrom_5 rfl (lv_at hl 0 rfl) ?_
  refine g_get hx hb hG hown hK hw inlX9 (ci := 7) rfl 3 0 (Nat.le_of_ble_eq_true rfl) rfl rfl wd_3_20 dX9_copyFrom_6 ?_
  refine lv_iconst (v := 0) hx hb dX9_copyFrom_9 k_i0 ?_
  refine lv_bipush (v := 8) hx hb dX9_copyFrom_10 k_b8 ?_
  refine g_acpy (N := 8) (ws' := (wX9_copyFrom E o_p0 a_p0 o_t a_t v_p0_count v_t_count f_p0_breaths f_p0_flews f_p0_breaths f_t_flews)) hx hb (hml.trans hl.1.symm) hG hown wd_37_8 wd_15_20 wd_15_21 wd_15_22 hK hw 1 4 rfl rfl (by decide) (by decide) rfl ⟨Nat.le_of_ble_eq_true rfl, Nat.le_of_ble_eq_true rfl⟩ rfl dX9_copyFrom_12 (fun H locs hw => ?_)
  refine lv_aload_n hx hb dX9_copyFrom_15 rfl (lv_at hl 1 rfl) ?_
  refine g_get hx hb hG hown hK hw inlX9 (ci := 7) rfl 0 1 (Nat.le_of_ble_eq_true rfl) rfl rfl wd_3_21 dX9_copyFrom_16 ?_
  refine lv_iconst (v := 0) hx hb dX9_copyFrom_19 k_i0 ?_
  refine lv_aload_n hx hb dX9_copyFrom_20 rfl (lv_at hl 0 rfl) ?_
  refine g_get hx hb hG hown hK hw inlX9 (ci := 7) rfl 3 1 (Nat.le_of_ble_eq_true rfl) rfl rfl wd_3_21 dX9_copyFrom_21 ?_
  refine lv_iconst (v := 0) hx hb dX9_copyFrom_24 k_i0 ?_
  refine lv_bipush (v := 8) hx hb dX9_copyFrom_25 k_b8 ?_
  refine g_acpy (N := 8) (ws' := (wX9_copyFrom E o_p0 a_p0 o_t a_t v_p0_count v_t_count f_p0_breaths f_p0_flews f_p0_breaths f_p0_flews)) hx hb (hml.trans hl.1.symm) hG hown wd_37_8 wd_15_20 wd_15_21 wd_15_22 hK hw 2 5 rfl rfl (by decide) (by decide) rfl ⟨Nat.le_of_ble_eq_true rfl, Nat.le_of_ble_eq_true rfl⟩ rfl dX9_copyFrom_27 (fun H locs hw => ?_)
  refine lv_aload_n hx hb dX9_copyFrom_30 rfl (lv_at hl 0 rfl) ?_
  refine lv_aload_n hx hb dX9_copyFrom_31 rfl (lv_at hl 1 rfl) ?_
  refine g_get hx hb hG hown hK hw inlX9 (ci := 7) rfl 0 2 (Nat.le_of_ble_eq_true rfl) rfl rfl wd_3_22 dX9_copyFrom_32 ?_
  refine g_put (ws' := (wX9_copyFrom E o_p0 a_p0 o_t a_t v_p0_count v_p0_count f_p0_breaths f_p0_flews f_p0_breaths f_p0_flews)) hx hb hG hown hK hw inlX9 tyX9_ok nmX9 (ci := 7) rfl 3 2 (Nat.le_of_ble_eq_true rfl) rfl wd_3_22 rfl rfl rfl (Nat.le_of_ble_eq_true rfl) rfl dX9_copyFrom_35 (fun H locs hw => ?_)
  exact hret1 (v_p0_count, f_p0_breaths, f_p0_flews) _ _ _ _ hf hw dX9_copyFrom_38
