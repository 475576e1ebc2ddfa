theorem hX8_withNeighbours : yX8_withNeighbours.cls ≠ "java/lang/invoke/MethodHandle" ∧ yX8_withNeighbours.cls ≠ "java/lang/invoke/VarHandle" ∧ (parseMethodDescriptor yX8_withNeighbours.desc).map (fun d => d.parameters.length) = some 2 := by decide +kernel
set_option maxHeartbeats 4000000 in
set_option maxRecDepth 100000 in
theorem mX8_withNeighbours (l : Launch) (E : gE) (o_p0 : Nat) (a_p0 : (Nat → Nat)) (v_p0_families : Int32) (v_p0_wind : Int32) (v_p0_force : Int32) (v_p0_rain : Int32) (v_p0_lost : Int32) (v_p0_hour : Int32) (f_p0_home : (Nat → Int32)) (x1 : Int32) (rv : Int32) (hf : fX8_withNeighbours v_p0_families f_p0_home x1 = some rv) {sz : Nat} : gMi l yX8_withNeighbours (gW yX8_withNeighbours cX8_withNeighbours 5 (some .int)) ({ frames := 3, cells := 0, slots := 0, locals := 73 } : Room) E [.ref o_p0, .int x1] (wX8_withNeighbours E o_p0 a_p0 v_p0_families v_p0_wind v_p0_force v_p0_rain v_p0_lost v_p0_hour f_p0_home) sz rv (wX8_withNeighbours E o_p0 a_p0 v_p0_families v_p0_wind v_p0_force v_p0_rain v_p0_lost v_p0_hour f_p0_home) := by
  refine g_openI (own := RX8) (by decide) rfl (Nat.le_of_ble_eq_true rfl) (fun p e s m args below meth cd Q A hx hb hml hown hG hK hA hret hw ls hl => ?_)
  have hl : lv_has ls 5 [(0, .ref o_p0), (1, .int x1)] := hl
  have hret1 : ∀ (t : Int32) (H : Heap) (locs : List Loc) (pc : Nat) (ls : Array Slot), some t = some rv → gS E A s.heap (wX8_withNeighbours E o_p0 a_p0 v_p0_families v_p0_wind v_p0_force v_p0_rain v_p0_lost v_p0_hour f_p0_home) H locs → decode cX8_withNeighbours pc = .ok (.ireturn, 1) → W p l e ({ frames := 3, cells := 0, slots := 0, locals := 73 } : Room) s m args below meth cd H locs 0 0 Q (F0 m pc ls [.int t]) := by
    intro t H locs pc ls h hw hd
    obtain rfl : t = rv := Option.some.inj h
    exact hret H locs pc ls hw hd
  have B45 : ∀ (K13 : Int32 → Int32 → Int32 → Int32 → Option (Int32)) (hK13 : ∀ (x1 : Int32) (x2 : Int32) (x3 : Int32) (x4 : Int32) (H : Heap) (locs : List Loc) (ls : Array Slot), K13 x1 x2 x3 x4 = some rv → gS E A s.heap (wX8_withNeighbours E o_p0 a_p0 v_p0_families v_p0_wind v_p0_force v_p0_rain v_p0_lost v_p0_hour f_p0_home) H locs → lv_has ls 5 [(0, .ref o_p0), (1, .int x1), (2, .int x2), (3, .int x3), (4, .int x4)] → W p l e ({ frames := 3, cells := 0, slots := 0, locals := 73 } : Room) s m args below meth cd H locs 0 0 Q (F0 m 13 ls [])), ∀ (x1 : Int32) (x2 : Int32) (x3 : Int32) (x4 : Int32) (H : Heap) (locs : List Loc) (ls : Array Slot), fX8_withNeighbours_b45 K13 v_p0_families f_p0_home x1 x2 x3 x4 = some rv → gS E A s.heap (wX8_withNeighbours E o_p0 a_p0 v_p0_families v_p0_wind v_p0_force v_p0_rain v_p0_lost v_p0_hour f_p0_home) H locs → lv_has ls 5 [(0, .ref o_p0), (1, .int x1), (2, .int x2), (3, .int x3), (4, .int x4)] → W p l e ({ frames := 3, cells := 0, slots := 0, locals := 73 } : Room) s m args below meth cd H locs 0 0 Q (F0 m 45 ls []) := by
    intro K13 hK13 x1 x2 x3 x4 H locs ls hf hw hl
    refine lv_iinc (lv' := [(4, .int (x4 + 1)), (0, .ref o_p0), (1, .int x1), (2, .int x2), (3, .int x3)]) hx hb dX8_withNeighbours_45 hl (k := 4) rfl (k_inc1 _) (Nat.le_of_ble_eq_true rfl) rfl (fun ls hl => ?_)
    refine lv_goto (tgt := 13) hx hb dX8_withNeighbours_48 (by decide) ?_
    exact hK13 x1 x2 x3 (x4 + 1) _ _ _ hf hw (lv_sub hl [1, 2, 3, 4, 0] rfl)
  have B13 : ∀ (K4 : Int32 → Int32 → Int32 → Option (Int32)) (hK4 : ∀ (x1 : Int32) (x2 : Int32) (x3 : Int32) (H : Heap) (locs : List Loc) (ls : Array Slot), K4 x1 x2 x3 = some rv → gS E A s.heap (wX8_withNeighbours E o_p0 a_p0 v_p0_families v_p0_wind v_p0_force v_p0_rain v_p0_lost v_p0_hour f_p0_home) H locs → lv_has ls 5 [(0, .ref o_p0), (1, .int x1), (2, .int x2), (3, .int x3)] → W p l e ({ frames := 3, cells := 0, slots := 0, locals := 73 } : Room) s m args below meth cd H locs 0 0 Q (F0 m 4 ls [])), ∀ n : Nat, ∀ (x1 : Int32) (x2 : Int32) (x3 : Int32) (x4 : Int32) (H : Heap) (locs : List Loc) (ls : Array Slot), fX8_withNeighbours_b13 K4 v_p0_families f_p0_home n x1 x2 x3 x4 = some rv → gS E A s.heap (wX8_withNeighbours E o_p0 a_p0 v_p0_families v_p0_wind v_p0_force v_p0_rain v_p0_lost v_p0_hour f_p0_home) H locs → lv_has ls 5 [(0, .ref o_p0), (1, .int x1), (2, .int x2), (3, .int x3), (4, .int x4)] → W p l e ({ frames := 3, cells := 0, slots := 0, locals := 73 } : Room) s m args below meth cd H locs 0 0 Q (F0 m 13 ls []) := by
    intro K4 hK4
    intro n
    induction n with
    | zero => intro x1 x2 x3 x4 H locs ls hf hw hl; exact g_no hf
    | succ n ih =>
      intro x1 x2 x3 x4 H locs ls hf hw hl
      refine lv_iload hx hb dX8_withNeighbours_13 (lv_at hl 4 rfl) ?_
      refine lv_bipush (v := 6) hx hb dX8_withNeighbours_15 k_b6 ?_
      refine lv_icmp_ge (tgt := 51) hx hb dX8_withNeighbours_17 (by decide) (fun hc => ?_) (fun hc => ?_)
      · have hf := g_t hc hf
        refine lv_iinc (lv' := [(3, .int (x3 + 1)), (0, .ref o_p0), (1, .int x1), (2, .int x2), (4, .int x4)]) hx hb dX8_withNeighbours_51 hl (k := 3) rfl (k_inc1 _) (Nat.le_of_ble_eq_true rfl) rfl (fun ls hl => ?_)
        refine lv_goto (tgt := 4) hx hb dX8_withNeighbours_54 (by decide) ?_
        exact hK4 x1 x2 (x3 + 1) _ _ _ hf hw (lv_sub hl [1, 2, 3, 0] rfl)
      · have hf := g_f hc hf
        refine lv_iload_n hx hb dX8_withNeighbours_20 rfl (lv_at hl 1 rfl) ?_
        refine lv_iconst (v := 1) hx hb dX8_withNeighbours_21 k_i1 ?_
        refine lv_iload_n hx hb dX8_withNeighbours_22 rfl (lv_at hl 3 rfl) ?_
        refine lv_ishl hx hb dX8_withNeighbours_23 ?_
        refine lv_iand hx hb dX8_withNeighbours_24 ?_
        refine lv_if_eq (tgt := 45) hx hb dX8_withNeighbours_25 (by decide) (fun hc => ?_) (fun hc => ?_)
        · have hf := g_t hc hf
          exact B45 (fX8_withNeighbours_b13 K4 v_p0_families f_p0_home n) ih x1 x2 x3 x4 _ _ _ hf hw (lv_sub hl [0, 1, 2, 3, 4] rfl)
        · have hf := g_f hc hf
          refine lv_aload_n hx hb dX8_withNeighbours_28 rfl (lv_at hl 0 rfl) ?_
          refine lv_iload_n hx hb dX8_withNeighbours_29 rfl (lv_at hl 3 rfl) ?_
          refine lv_iload hx hb dX8_withNeighbours_30 (lv_at hl 4 rfl) ?_
          obtain ⟨r1, hc2, hf⟩ := gB_s hf
          refine g_ki0 (is := [0, 1]) hw hA (g_rS hx hb hml hG hown hK hw (is := [0, 1]) rfl (by decide) (mX8_isOnePuff l E o_p0 a_p0 v_p0_families v_p0_wind v_p0_force v_p0_rain v_p0_lost v_p0_hour f_p0_home x3 x4 r1 hc2) wd_26_9 wd_26_10 wd_25_12 wd_26_11 hX8_isOnePuff g_allgood ⟨rfl, rfl⟩ ⟨Nat.le_of_ble_eq_true rfl, Nat.le_of_ble_eq_true rfl⟩ ⟨Nat.zero_le _, Nat.zero_le _⟩ rfl hl.1 rfl (Nat.le_of_ble_eq_true rfl) dX8_withNeighbours_32) rfl (fun H locs hw => ?_)
          refine lv_if_eq (tgt := 45) hx hb dX8_withNeighbours_35 (by decide) (fun hc => ?_) (fun hc => ?_)
          · have hf := g_t hc hf
            exact B45 (fX8_withNeighbours_b13 K4 v_p0_families f_p0_home n) ih x1 x2 x3 x4 _ _ _ hf hw (lv_sub hl [0, 1, 2, 3, 4] rfl)
          · have hf := g_f hc hf
            refine lv_iload_n hx hb dX8_withNeighbours_38 rfl (lv_at hl 2 rfl) ?_
            refine lv_iconst (v := 1) hx hb dX8_withNeighbours_39 k_i1 ?_
            refine lv_iload hx hb dX8_withNeighbours_40 (lv_at hl 4 rfl) ?_
            refine lv_ishl hx hb dX8_withNeighbours_42 ?_
            refine lv_ior hx hb dX8_withNeighbours_43 ?_
            refine lv_istore_n (lv' := [(2, .int (x2 ||| (1 <<< (x4 &&& 31)))), (0, .ref o_p0), (1, .int x1), (3, .int x3), (4, .int x4)]) hx hb dX8_withNeighbours_44 rfl hl (Nat.le_of_ble_eq_true rfl) rfl (fun ls hl => ?_)
            exact B45 (fX8_withNeighbours_b13 K4 v_p0_families f_p0_home n) ih x1 (x2 ||| (1 <<< (x4 &&& 31))) x3 x4 _ _ _ hf hw (lv_sub hl [1, 2, 0, 3, 4] rfl)
  have B4 : ∀ n : Nat, ∀ (x1 : Int32) (x2 : Int32) (x3 : Int32) (H : Heap) (locs : List Loc) (ls : Array Slot), fX8_withNeighbours_b4 v_p0_families f_p0_home n x1 x2 x3 = some rv → gS E A s.heap (wX8_withNeighbours E o_p0 a_p0 v_p0_families v_p0_wind v_p0_force v_p0_rain v_p0_lost v_p0_hour f_p0_home) H locs → lv_has ls 5 [(0, .ref o_p0), (1, .int x1), (2, .int x2), (3, .int x3)] → W p l e ({ frames := 3, cells := 0, slots := 0, locals := 73 } : Room) s m args below meth cd H locs 0 0 Q (F0 m 4 ls []) := by
    intro n
    induction n with
    | zero => intro x1 x2 x3 H locs ls hf hw hl; exact g_no hf
    | succ n ih =>
      intro x1 x2 x3 H locs ls hf hw hl
      refine lv_iload_n hx hb dX8_withNeighbours_4 rfl (lv_at hl 3 rfl) ?_
      refine lv_bipush (v := 6) hx hb dX8_withNeighbours_5 k_b6 ?_
      refine lv_icmp_ge (tgt := 57) hx hb dX8_withNeighbours_7 (by decide) (fun hc => ?_) (fun hc => ?_)
      · have hf := g_t hc hf
        refine lv_iload_n hx hb dX8_withNeighbours_57 rfl (lv_at hl 2 rfl) ?_
        exact hret1 x2 _ _ _ _ hf hw dX8_withNeighbours_58
      · have hf := g_f hc hf
        refine lv_iconst (v := 0) hx hb dX8_withNeighbours_10 k_i0 ?_
        refine lv_istore (lv' := [(4, .int 0), (0, .ref o_p0), (1, .int x1), (2, .int x2), (3, .int x3)]) hx hb dX8_withNeighbours_11 hl (Nat.le_of_ble_eq_true rfl) rfl (fun ls hl => ?_)
        exact B13 (fX8_withNeighbours_b4 v_p0_families f_p0_home n) ih 1000 x1 x2 x3 0 _ _ _ hf hw (lv_sub hl [1, 2, 3, 4, 0] rfl)
  refine lv_iload_n hx hb dX8_withNeighbours_0 rfl (lv_at hl 1 rfl) ?_
  refine lv_istore_n (lv' := [(2, .int x1), (0, .ref o_p0), (1, .int x1)]) hx hb dX8_withNeighbours_1 rfl hl (Nat.le_of_ble_eq_true rfl) rfl (fun ls hl => ?_)
  refine lv_iconst (v := 0) hx hb dX8_withNeighbours_2 k_i0 ?_
  refine lv_istore_n (lv' := [(3, .int 0), (2, .int x1), (0, .ref o_p0), (1, .int x1)]) hx hb dX8_withNeighbours_3 rfl hl (Nat.le_of_ble_eq_true rfl) rfl (fun ls hl => ?_)
  exact B4 1000 x1 x1 0 _ _ _ hf hw (lv_sub hl [2, 3, 1, 0] rfl)
theorem hX8_puffsBetween : yX8_puffsBetween.cls ≠ "java/lang/invoke/MethodHandle" ∧ yX8_puffsBetween.cls ≠ "java/lang/invoke/VarHandle" ∧ (parseMethodDescriptor yX8_puffsBetween.desc).map (fun d => d.parameters.length) = some 3 := by decide +kernel
set_option maxHeartbeats 4000000 in
set_option maxRecDepth 100000 in
theorem mX8_puffsBetween (l : Launch) (E : gE) (o_p0 : Nat) (a_p0 : (Nat → Nat)) (v_p0_families : Int32) (v_p0_wind : Int32) (v_p0_force : Int32) (v_p0_rain : Int32) (v_p0_lost : Int32) (v_p0_hour : Int32) (f_p0_home : (Nat → Int32)) (x1 : Int32) (x2 : Int32) (rv : Int32) (hf : fX8_puffsBetween v_p0_families f_p0_home x1 x2 = some rv) {sz : Nat} : gMi l yX8_puffsBetween (gW yX8_puffsBetween cX8_puffsBetween 5 (some .int)) ({ frames := 4, cells := 0, slots := 0, locals := 97 } : Room) E [.ref o_p0, .int x1, .int x2] (wX8_puffsBetween E o_p0 a_p0 v_p0_families v_p0_wind v_p0_force v_p0_rain v_p0_lost v_p0_hour f_p0_home) sz rv (wX8_puffsBetween E o_p0 a_p0 v_p0_families v_p0_wind v_p0_force v_p0_rain v_p0_lost v_p0_hour f_p0_home) := by
  refine g_openI (own := RX8) (by decide) rfl (Nat.le_of_ble_eq_true rfl) (fun p e s m args below meth cd Q A hx hb hml hown hG hK hA hret hw ls hl => ?_)
  have hl : lv_has ls 5 [(0, .ref o_p0), (1, .int x1), (2, .int x2)] := hl
  have hret1 : ∀ (t : Int32) (H : Heap) (locs : List Loc) (pc : Nat) (ls : Array Slot), some t = some rv → gS E A s.heap (wX8_puffsBetween E o_p0 a_p0 v_p0_families v_p0_wind v_p0_force v_p0_rain v_p0_lost v_p0_hour f_p0_home) H locs → decode cX8_puffsBetween pc = .ok (.ireturn, 1) → W p l e ({ frames := 4, cells := 0, slots := 0, locals := 97 } : Room) s m args below meth cd H locs 0 0 Q (F0 m pc ls [.int t]) := by
    intro t H locs pc ls h hw hd
    obtain rfl : t = rv := Option.some.inj h
    exact hret H locs pc ls hw hd
  have B7 : ∀ n : Nat, ∀ (x2 : Int32) (x3 : Int32) (x4 : Int32) (H : Heap) (locs : List Loc) (ls : Array Slot), fX8_puffsBetween_b7 v_p0_families f_p0_home n x2 x3 x4 = some rv → gS E A s.heap (wX8_puffsBetween E o_p0 a_p0 v_p0_families v_p0_wind v_p0_force v_p0_rain v_p0_lost v_p0_hour f_p0_home) H locs → lv_has ls 5 [(0, .ref o_p0), (2, .int x2), (3, .int x3), (4, .int x4)] → W p l e ({ frames := 4, cells := 0, slots := 0, locals := 97 } : Room) s m args below meth cd H locs 0 0 Q (F0 m 7 ls []) := by
    intro n
    induction n with
    | zero => intro x2 x3 x4 H locs ls hf hw hl; exact g_no hf
    | succ n ih =>
      intro x2 x3 x4 H locs ls hf hw hl
      refine lv_iload hx hb dX8_puffsBetween_7 (lv_at hl 3 rfl) ?_
      refine lv_bipush (v := 6) hx hb dX8_puffsBetween_9 k_b6 ?_
      refine lv_icmp_ge (tgt := 37) hx hb dX8_puffsBetween_11 (by decide) (fun hc => ?_) (fun hc => ?_)
      · have hf := g_t hc hf
        refine lv_bipush (v := -6) hx hb dX8_puffsBetween_37 k_bm6 ?_
        exact hret1 (-6) _ _ _ _ hf hw dX8_puffsBetween_39
      · have hf := g_f hc hf
        refine lv_aload_n hx hb dX8_puffsBetween_14 rfl (lv_at hl 0 rfl) ?_
        refine lv_iload_n hx hb dX8_puffsBetween_15 rfl (lv_at hl 2 rfl) ?_
        obtain ⟨r1, hc2, hf⟩ := gB_s hf
        refine g_ki0 (is := [0, 1]) hw hA (g_rS hx hb hml hG hown hK hw (is := [0, 1]) rfl (by decide) (mX8_withNeighbours l E o_p0 a_p0 v_p0_families v_p0_wind v_p0_force v_p0_rain v_p0_lost v_p0_hour f_p0_home x3 r1 hc2) wd_26_6 wd_26_7 wd_25_12 wd_26_8 hX8_withNeighbours g_allgood ⟨rfl, rfl⟩ ⟨Nat.le_of_ble_eq_true rfl, Nat.le_of_ble_eq_true rfl⟩ ⟨Nat.zero_le _, Nat.zero_le _⟩ rfl hl.1 rfl (Nat.le_of_ble_eq_true rfl) dX8_puffsBetween_16) rfl (fun H locs hw => ?_)
        refine lv_istore_n (lv' := [(3, .int r1), (0, .ref o_p0), (2, .int x2), (4, .int x4)]) hx hb dX8_puffsBetween_19 rfl hl (Nat.le_of_ble_eq_true rfl) rfl (fun ls hl => ?_)
        refine lv_iload_n hx hb dX8_puffsBetween_20 rfl (lv_at hl 0 rfl) ?_
        refine lv_iconst (v := 1) hx hb dX8_puffsBetween_21 k_i1 ?_
        refine lv_iload_n hx hb dX8_puffsBetween_22 rfl (lv_at hl 2 rfl) ?_
        refine lv_ishl hx hb dX8_puffsBetween_23 ?_
        refine lv_iand hx hb dX8_puffsBetween_24 ?_
        refine lv_if_eq (tgt := 31) hx hb dX8_puffsBetween_25 (by decide) (fun hc => ?_) (fun hc => ?_)
        · have hf := g_t hc hf
          refine lv_iinc (lv' := [(4, .int (x4 + 1)), (3, .int r1), (0, .ref o_p0), (2, .int x2)]) hx hb dX8_puffsBetween_31 hl (k := 3) rfl (k_inc1 _) (Nat.le_of_ble_eq_true rfl) rfl (fun ls hl => ?_)
          refine lv_goto (tgt := 7) hx hb dX8_puffsBetween_34 (by decide) ?_
          exact ih x2 r1 (x4 + 1) _ _ _ hf hw (lv_sub hl [2, 3, 1, 0] rfl)
        · have hf := g_f hc hf
          refine lv_iload hx hb dX8_puffsBetween_28 (lv_at hl 3 rfl) ?_
          exact hret1 x4 _ _ _ _ hf hw dX8_puffsBetween_30
  refine lv_iconst (v := 1) hx hb dX8_puffsBetween_0 k_i1 ?_
  refine lv_iload_n hx hb dX8_puffsBetween_1 rfl (lv_at hl 1 rfl) ?_
  refine lv_ishl hx hb dX8_puffsBetween_2 ?_
  refine lv_istore_n (lv' := [(3, .int (1 <<< (x1 &&& 31))), (0, .ref o_p0), (1, .int x1), (2, .int x2)]) hx hb dX8_puffsBetween_3 rfl hl (Nat.le_of_ble_eq_true rfl) rfl (fun ls hl => ?_)
  refine lv_iconst (v := 1) hx hb dX8_puffsBetween_4 k_i1 ?_
  refine lv_istore (lv' := [(4, .int 1), (3, .int (1 <<< (x1 &&& 31))), (0, .ref o_p0), (1, .int x1), (2, .int x2)]) hx hb dX8_puffsBetween_5 hl (Nat.le_of_ble_eq_true rfl) rfl (fun ls hl => ?_)
  exact B7 1000 x2 (1 <<< (x1 &&& 31)) 1 _ _ _ hf hw (lv_sub hl [2, 4, 1, 0] rfl)
theorem hX8_firstOnTheWay : yX8_firstOnTheWay.cls ≠ "java/lang/invoke/MethodHandle" ∧ yX8_firstOnTheWay.cls ≠ "java/lang/invoke/VarHandle" ∧ (parseMethodDescriptor yX8_firstOnTheWay.desc).map (fun d => d.parameters.length) = some 3 := by decide +kernel
set_option maxHeartbeats 4000000 in
set_option maxRecDepth 100000 in
theorem mX8_firstOnTheWay (l : Launch) (E : gE) (o_p0 : Nat) (a_p0 : (Nat → Nat)) (v_p0_families : Int32) (v_p0_wind : Int32) (v_p0_force : Int32) (v_p0_rain : Int32) (v_p0_lost : Int32) (v_p0_hour : Int32) (f_p0_home : (Nat → Int32)) (x1 : Int32) (x2 : Int32) (rv : Int32) (hf : fX8_firstOnTheWay v_p0_families f_p0_home x1 x2 = some rv) {sz : Nat} : gMi l yX8_firstOnTheWay (gW yX8_firstOnTheWay cX8_firstOnTheWay 5 (some .int)) ({ frames := 5, cells := 0, slots := 0, locals := 121 } : Room) E [.ref o_p0, .int x1, .int x2] (wX8_firstOnTheWay E o_p0 a_p0 v_p0_families v_p0_wind v_p0_force v_p0_rain v_p0_lost v_p0_hour f_p0_home) sz rv (wX8_firstOnTheWay E o_p0 a_p0 v_p0_families v_p0_wind v_p0_force v_p0_rain v_p0_lost v_p0_hour f_p0_home) := by
  refine g_openI (own := RX8) (by decide) rfl (Nat.le_of_ble_eq_true rfl) (fun p e s m args below meth cd Q A hx hb hml hown hG hK hA hret hw ls hl => ?_)
  have hl : lv_has ls 5 [(0, .ref o_p0), (1, .int x1), (2, .int x2)] := hl
  have hret1 : ∀ (t : Int32) (H : Heap) (locs : List Loc) (pc : Nat) (ls : Array Slot), some t = some rv → gS E A s.heap (wX8_firstOnTheWay E o_p0 a_p0 v_p0_families v_p0_wind v_p0_force v_p0_rain v_p0_lost v_p0_hour f_p0_home) H locs → decode cX8_firstOnTheWay pc = .ok (.ireturn, 1) → W p l e ({ frames := 5, cells := 0, slots := 0, locals := 121 } : Room) s m args below meth cd H locs 0 0 Q (F0 m pc ls [.int t]) := by
    intro t H locs pc ls h hw hd
    obtain rfl : t = rv := Option.some.inj h
    exact hret H locs pc ls hw hd
  have B66 : ∀ (H : Heap) (locs : List Loc) (ls : Array Slot), fX8_firstOnTheWay_b66 = some rv → gS E A s.heap (wX8_firstOnTheWay E o_p0 a_p0 v_p0_families v_p0_wind v_p0_force v_p0_rain v_p0_lost v_p0_hour f_p0_home) H locs → lv_has ls 5 [] → W p l e ({ frames := 5, cells := 0, slots := 0, locals := 121 } : Room) s m args below meth cd H locs 0 0 Q (F0 m 66 ls []) := by
    intro   H locs ls hf hw hl
    refine lv_bipush (v := -6) hx hb dX8_firstOnTheWay_66 k_bm6 ?_
    exact hret1 (-6) _ _ _ _ hf hw dX8_firstOnTheWay_68
  have B60 : ∀ (K21 : Int32 → Int32 → Int32 → Int32 → Option (Int32)) (hK21 : ∀ (x1 : Int32) (x2 : Int32) (x3 : Int32) (x4 : Int32) (H : Heap) (locs : List Loc) (ls : Array Slot), K21 x1 x2 x3 x4 = some rv → gS E A s.heap (wX8_firstOnTheWay E o_p0 a_p0 v_p0_families v_p0_wind v_p0_force v_p0_rain v_p0_lost v_p0_hour f_p0_home) H locs → lv_has ls 5 [(0, .ref o_p0), (1, .int x1), (2, .int x2), (3, .int x3), (4, .int x4)] → W p l e ({ frames := 5, cells := 0, slots := 0, locals := 121 } : Room) s m args below meth cd H locs 0 0 Q (F0 m 21 ls [])), ∀ (x1 : Int32) (x2 : Int32) (x3 : Int32) (x4 : Int32) (H : Heap) (locs : List Loc) (ls : Array Slot), fX8_firstOnTheWay_b60 K21 v_p0_families f_p0_home x1 x2 x3 x4 = some rv → gS E A s.heap (wX8_firstOnTheWay E o_p0 a_p0 v_p0_families v_p0_wind v_p0_force v_p0_rain v_p0_lost v_p0_hour f_p0_home) H locs → lv_has ls 5 [(0, .ref o_p0), (1, .int x1), (2, .int x2), (3, .int x3), (4, .int x4)] → W p l e ({ frames := 5, cells := 0, slots := 0, locals := 121 } : Room) s m args below meth cd H locs 0 0 Q (F0 m 60 ls []) := by
    intro K21 hK21 x1 x2 x3 x4 H locs ls hf hw hl
    refine lv_iinc (lv' := [(4, .int (x4 + 1)), (0, .ref o_p0), (1, .int x1), (2, .int x2), (3, .int x3)]) hx hb dX8_firstOnTheWay_60 hl (k := 4) rfl (k_inc1 _) (Nat.le_of_ble_eq_true rfl) rfl (fun ls hl => ?_)
    refine lv_goto (tgt := 21) hx hb dX8_firstOnTheWay_63 (by decide) ?_
    exact hK21 x1 x2 x3 (x4 + 1) _ _ _ hf hw (lv_sub hl [1, 2, 3, 4, 0] rfl)
  have B21 : ∀ n : Nat, ∀ (x1 : Int32) (x2 : Int32) (x3 : Int32) (x4 : Int32) (H : Heap) (locs : List Loc) (ls : Array Slot), fX8_firstOnTheWay_b21 v_p0_families f_p0_home n x1 x2 x3 x4 = some rv → gS E A s.heap (wX8_firstOnTheWay E o_p0 a_p0 v_p0_families v_p0_wind v_p0_force v_p0_rain v_p0_lost v_p0_hour f_p0_home) H locs → lv_has ls 5 [(0, .ref o_p0), (1, .int x1), (2, .int x2), (3, .int x3), (4, .int x4)] → W p l e ({ frames := 5, cells := 0, slots := 0, locals := 121 } : Room) s m args below meth cd H locs 0 0 Q (F0 m 21 ls []) := by
    intro n
    induction n with
    | zero => intro x1 x2 x3 x4 H locs ls hf hw hl; exact g_no hf
    | succ n ih =>
      intro x1 x2 x3 x4 H locs ls hf hw hl
      refine lv_iload hx hb dX8_firstOnTheWay_21 (lv_at hl 4 rfl) ?_
      refine lv_bipush (v := 6) hx hb dX8_firstOnTheWay_23 k_b6 ?_
      refine lv_icmp_ge (tgt := 66) hx hb dX8_firstOnTheWay_25 (by decide) (fun hc => ?_) (fun hc => ?_)
      · have hf := g_t hc hf
        exact B66 _ _ _ hf hw (lv_sub hl [] rfl)
      · have hf := g_f hc hf
        refine lv_iload_n hx hb dX8_firstOnTheWay_28 rfl (lv_at hl 3 rfl) ?_
        refine lv_bipush (v := -6) hx hb dX8_firstOnTheWay_29 k_bm6 ?_
        refine lv_icmp_eq (tgt := 66) hx hb dX8_firstOnTheWay_31 (by decide) (fun hc => ?_) (fun hc => ?_)
        · have hf := g_t hc hf
          exact B66 _ _ _ hf hw (lv_sub hl [] rfl)
        · have hf := g_f hc hf
          refine lv_aload_n hx hb dX8_firstOnTheWay_34 rfl (lv_at hl 0 rfl) ?_
          refine lv_iload_n hx hb dX8_firstOnTheWay_35 rfl (lv_at hl 1 rfl) ?_
          refine lv_iload hx hb dX8_firstOnTheWay_36 (lv_at hl 4 rfl) ?_
          obtain ⟨r1, hc2, hf⟩ := gB_s hf
          refine g_ki0 (is := [0, 1]) hw hA (g_rS hx hb hml hG hown hK hw (is := [0, 1]) rfl (by decide) (mX8_isOnePuff l E o_p0 a_p0 v_p0_families v_p0_wind v_p0_force v_p0_rain v_p0_lost v_p0_hour f_p0_home x1 x4 r1 hc2) wd_26_9 wd_26_10 wd_25_12 wd_26_11 hX8_isOnePuff g_allgood ⟨rfl, rfl⟩ ⟨Nat.le_of_ble_eq_true rfl, Nat.le_of_ble_eq_true rfl⟩ ⟨Nat.zero_le _, Nat.zero_le _⟩ rfl hl.1 rfl (Nat.le_of_ble_eq_true rfl) dX8_firstOnTheWay_38) rfl (fun H locs hw => ?_)
          refine lv_if_eq (tgt := 60) hx hb dX8_firstOnTheWay_41 (by decide) (fun hc => ?_) (fun hc => ?_)
          · have hf := g_t hc hf
            exact B60 (fX8_firstOnTheWay_b21 v_p0_families f_p0_home n) ih x1 x2 x3 x4 _ _ _ hf hw (lv_sub hl [0, 1, 2, 3, 4] rfl)
          · have hf := g_f hc hf
            refine lv_aload_n hx hb dX8_firstOnTheWay_44 rfl (lv_at hl 0 rfl) ?_
            refine lv_iload hx hb dX8_firstOnTheWay_45 (lv_at hl 4 rfl) ?_
            refine lv_iload_n hx hb dX8_firstOnTheWay_47 rfl (lv_at hl 2 rfl) ?_
            obtain ⟨r3, hc4, hf⟩ := gB_s hf
            refine g_ki0 (is := [0, 1]) hw hA (g_rS hx hb hml hG hown hK hw (is := [0, 1]) rfl (by decide) (mX8_puffsBetween l E o_p0 a_p0 v_p0_families v_p0_wind v_p0_force v_p0_rain v_p0_lost v_p0_hour f_p0_home x4 x2 r3 hc4) wd_26_17 wd_26_4 wd_25_12 wd_26_5 hX8_puffsBetween g_allgood ⟨rfl, rfl⟩ ⟨Nat.le_of_ble_eq_true rfl, Nat.le_of_ble_eq_true rfl⟩ ⟨Nat.zero_le _, Nat.zero_le _⟩ rfl hl.1 rfl (Nat.le_of_ble_eq_true rfl) dX8_firstOnTheWay_48) rfl (fun H locs hw => ?_)
            refine lv_iload_n hx hb dX8_firstOnTheWay_51 rfl (lv_at hl 3 rfl) ?_
            refine lv_iconst (v := 1) hx hb dX8_firstOnTheWay_52 k_i1 ?_
            refine lv_isub hx hb dX8_firstOnTheWay_53 ?_
            refine lv_icmp_ne (tgt := 60) hx hb dX8_firstOnTheWay_54 (by decide) (fun hc => ?_) (fun hc => ?_)
            · have hf := g_f hc hf
              exact B60 (fX8_firstOnTheWay_b21 v_p0_families f_p0_home n) ih x1 x2 x3 x4 _ _ _ hf hw (lv_sub hl [0, 1, 2, 3, 4] rfl)
            · have hf := g_t hc hf
              refine lv_iload hx hb dX8_firstOnTheWay_57 (lv_at hl 4 rfl) ?_
              exact hret1 x4 _ _ _ _ hf hw dX8_firstOnTheWay_59
  refine lv_aload_n hx hb dX8_firstOnTheWay_0 rfl (lv_at hl 0 rfl) ?_
  refine lv_iload_n hx hb dX8_firstOnTheWay_1 rfl (lv_at hl 1 rfl) ?_
  refine lv_iload_n hx hb dX8_firstOnTheWay_2 rfl (lv_at hl 2 rfl) ?_
  obtain ⟨r5, hc6, hf⟩ := gB_s hf
  refine g_ki0 (is := [0, 1]) hw hA (g_rS hx hb hml hG hown hK hw (is := [0, 1]) rfl (by decide) (mX8_isOnePuff l E o_p0 a_p0 v_p0_families v_p0_wind v_p0_force v_p0_rain v_p0_lost v_p0_hour f_p0_home x1 x2 r5 hc6) wd_26_9 wd_26_10 wd_25_12 wd_26_11 hX8_isOnePuff g_allgood ⟨rfl, rfl⟩ ⟨Nat.le_of_ble_eq_true rfl, Nat.le_of_ble_eq_true rfl⟩ ⟨Nat.zero_le _, Nat.zero_le _⟩ rfl hl.1 rfl (Nat.le_of_ble_eq_true rfl) dX8_firstOnTheWay_3) rfl (fun H locs hw => ?_)
  refine lv_if_eq (tgt := 11) hx hb dX8_firstOnTheWay_6 (by decide) (fun hc => ?_) (fun hc => ?_)
  · have hf := g_t hc hf
    refine lv_aload_n hx hb dX8_firstOnTheWay_11 rfl (lv_at hl 0 rfl) ?_
    refine lv_iload_n hx hb dX8_firstOnTheWay_12 rfl (lv_at hl 1 rfl) ?_
    refine lv_iload_n hx hb dX8_firstOnTheWay_13 rfl (lv_at hl 2 rfl) ?_
    obtain ⟨r7, hc8, hf⟩ := gB_s hf
    refine g_ki0 (is := [0, 1]) hw hA (g_rS hx hb hml hG hown hK hw (is := [0, 1]) rfl (by decide) (mX8_puffsBetween l E o_p0 a_p0 v_p0_families v_p0_wind v_p0_force v_p0_rain v_p0_lost v_p0_hour f_p0_home x1 x2 r7 hc8) wd_26_17 wd_26_4 wd_25_12 wd_26_5 hX8_puffsBetween g_allgood ⟨rfl, rfl⟩ ⟨Nat.le_of_ble_eq_true rfl, Nat.le_of_ble_eq_true rfl⟩ ⟨Nat.zero_le _, Nat.zero_le _⟩ rfl hl.1 rfl (Nat.le_of_ble_eq_true rfl) dX8_firstOnTheWay_14) rfl (fun H locs hw => ?_)
    refine lv_istore_n (lv' := [(3, .int r7), (0, .ref o_p0), (1, .int x1), (2, .int x2)]) hx hb dX8_firstOnTheWay_17 rfl hl (Nat.le_of_ble_eq_true rfl) rfl (fun ls hl => ?_)
    refine lv_iconst (v := 0) hx hb dX8_firstOnTheWay_18 k_i0 ?_
    refine lv_istore (lv' := [(4, .int 0), (3, .int r7), (0, .ref o_p0), (1, .int x1), (2, .int x2)]) hx hb dX8_firstOnTheWay_19 hl (Nat.le_of_ble_eq_true rfl) rfl (fun ls hl => ?_)
    exact B21 1000 x1 x2 r7 0 _ _ _ hf hw (lv_sub hl [2, 3, 4, 1, 0] rfl)
  · have hf := g_f hc hf
    refine lv_iload_n hx hb dX8_firstOnTheWay_9 rfl (lv_at hl 2 rfl) ?_
    exact hret1 x2 _ _ _ _ hf hw dX8_firstOnTheWay_10
theorem hX8_fieldWorth : yX8_fieldWorth.cls ≠ "java/lang/invoke/MethodHandle" ∧ yX8_fieldWorth.cls ≠ "java/lang/invoke/VarHandle" ∧ (parseMethodDescriptor yX8_fieldWorth.desc).map (fun d => d.parameters.length) = some 2 := by decide +kernel
set_option maxHeartbeats 4000000 in
set_option maxRecDepth 100000 in
theorem mX8_fieldWorth (l : Launch) (E : gE) (o_p0 : Nat) (a_p0 : (Nat → Nat)) (v_p0_families : Int32) (v_p0_wind : Int32) (v_p0_force : Int32) (v_p0_rain : Int32) (v_p0_lost : Int32) (v_p0_hour : Int32) (f_p0_home : (Nat → Int32)) (f_p0_seeds : (Nat → Int32)) (f_p0_ground : (Nat → Int32)) (x1 : Int32) (rv : Int32) (hf : fX8_fieldWorth v_p0_families f_p0_home f_p0_seeds f_p0_ground x1 = some rv) {sz : Nat} : gMi l yX8_fieldWorth (gW yX8_fieldWorth cX8_fieldWorth 3 (some .int)) ({ frames := 1, cells := 0, slots := 0, locals := 22 } : Room) E [.ref o_p0, .int x1] (wX8_fieldWorth E o_p0 a_p0 v_p0_families v_p0_wind v_p0_force v_p0_rain v_p0_lost v_p0_hour f_p0_home f_p0_seeds f_p0_ground) sz rv (wX8_fieldWorth E o_p0 a_p0 v_p0_families v_p0_wind v_p0_force v_p0_rain v_p0_lost v_p0_hour f_p0_home f_p0_seeds f_p0_ground) := by
  refine g_openI (own := RX8) (by decide) rfl (Nat.le_of_ble_eq_true rfl) (fun p e s m args below meth cd Q A hx hb hml hown hG hK hA hret hw ls hl => ?_)
  have hl : lv_has ls 3 [(0, .ref o_p0), (1, .int x1)] := hl
  have hret1 : ∀ (t : Int32) (H : Heap) (locs : List Loc) (pc : Nat) (ls : Array Slot), some t = some rv → gS E A s.heap (wX8_fieldWorth E o_p0 a_p0 v_p0_families v_p0_wind v_p0_force v_p0_rain v_p0_lost v_p0_hour f_p0_home f_p0_seeds f_p0_ground) H locs → decode cX8_fieldWorth pc = .ok (.ireturn, 1) → W p l e ({ frames := 1, cells := 0, slots := 0, locals := 22 } : Room) s m args below meth cd H locs 0 0 Q (F0 m pc ls [.int t]) := by
    intro t H locs pc ls h hw hd
    obtain rfl : t = rv := Option.some.inj h
    exact hret H locs pc ls hw hd
  refine lv_aload_n hx hb dX8_fieldWorth_0 rfl (lv_at hl 0 rfl) ?_
  refine lv_iload_n hx hb dX8_fieldWorth_1 rfl (lv_at hl 1 rfl) ?_
  obtain ⟨r1, hc2, hf⟩ := gB_s hf
  refine g_ki0 (is := [0, 1]) hw hA (g_rV hx hb hml hG hown hK hw (is := [0, 1]) rfl (by decide) (mX6_familyAt l E o_p0 a_p0 v_p0_families v_p0_wind v_p0_force v_p0_rain v_p0_lost v_p0_hour f_p0_home x1 r1 hc2) wd_27_21 wd_7_8 wd_7_9 wd_2_20 wd_7_10 hX6_familyAt g_allgood ⟨rfl, rfl⟩ ⟨Nat.le_of_ble_eq_true rfl, Nat.le_of_ble_eq_true rfl⟩ ⟨Nat.zero_le _, Nat.zero_le _⟩ (ci := 5) (q0 := 0) rfl rfl rfl rfl hl.1 rfl (Nat.le_of_ble_eq_true rfl) dX8_fieldWorth_2) rfl (fun H locs hw => ?_)
  refine lv_istore_n (lv' := [(2, .int r1), (0, .ref o_p0), (1, .int x1)]) hx hb dX8_fieldWorth_5 rfl hl (Nat.le_of_ble_eq_true rfl) rfl (fun ls hl => ?_)
  refine lv_aload_n hx hb dX8_fieldWorth_6 rfl (lv_at hl 1 rfl) ?_
  refine g_get hx hb hG hown hK hw inlX6 (ci := 5) rfl 0 4 (Nat.le_of_ble_eq_true rfl) rfl rfl wd_27_19 dX8_fieldWorth_7 ?_
  refine lv_iload_n hx hb dX8_fieldWorth_10 rfl (lv_at hl 2 rfl) ?_
  obtain ⟨r3, hc4, hf⟩ := gB_s hf
  refine g_ki0 (is := [3]) hw hA (g_rN (host := "SeedBank") hx hb hml hG hown hK hw (is := [3]) rfl (by decide) (mX10_at l E (a_p0 4) 36 f_p0_ground x1 r3 hc4) (List.mem_of_getElem? (i := 17) rfl) wd_15_23 wd_1_2 wd_16_0 hX10_at g_allgood ⟨rfl, rfl⟩ ⟨Nat.le_of_ble_eq_true rfl, Nat.le_of_ble_eq_true rfl⟩ ⟨Nat.zero_le _, Nat.zero_le _⟩ rfl hl.1 rfl (Nat.le_of_ble_eq_true rfl) dX8_fieldWorth_11) rfl (fun H locs hw => ?_)
  refine lv_aload_n hx hb dX8_fieldWorth_14 rfl (lv_at hl 1 rfl) ?_
  refine g_get hx hb hG hown hK hw inlX6 (ci := 5) rfl 0 1 (Nat.le_of_ble_eq_true rfl) rfl rfl wd_27_20 dX8_fieldWorth_15 ?_
  refine lv_iload_n hx hb dX8_fieldWorth_18 rfl (lv_at hl 0 rfl) ?_
  obtain ⟨r5, hc6, hf⟩ := gB_s hf
  refine g_ki0 (is := [2]) hw hA (g_rN (host := "SeedBank") hx hb hml hG hown hK hw (is := [2]) rfl (by decide) (mX10_at l E (a_p0 1) 6 f_p0_seeds r1 r5 hc6) (List.mem_of_getElem? (i := 17) rfl) wd_15_23 wd_1_2 wd_16_0 hX10_at g_allgood ⟨rfl, rfl⟩ ⟨Nat.le_of_ble_eq_true rfl, Nat.le_of_ble_eq_true rfl⟩ ⟨Nat.zero_le _, Nat.zero_le _⟩ rfl hl.1 rfl (Nat.le_of_ble_eq_true rfl) dX8_fieldWorth_19) rfl (fun H locs hw => ?_)
  refine lv_iadd hx hb dX8_fieldWorth_22 ?_
  exact hret1 (r3 + r5) _ _ _ _ hf hw dX8_fieldWorth_23
theorem hX8_squareWorth : yX8_squareWorth.cls ≠ "java/lang/invoke/MethodHandle" ∧ yX8_squareWorth.cls ≠ "java/lang/invoke/VarHandle" ∧ (parseMethodDescriptor yX8_squareWorth.desc).map (fun d => d.parameters.length) = some 3 := by decide +kernel
set_option maxHeartbeats 4000000 in
set_option maxRecDepth 100000 in
theorem mX8_squareWorth (l : Launch) (E : gE) (o_p0 : Nat) (a_p0 : (Nat → Nat)) (v_p0_families : Int32) (v_p0_wind : Int32) (v_p0_force : Int32) (v_p0_rain : Int32) (v_p0_lost : Int32) (v_p0_hour : Int32) (f_p0_home : (Nat → Int32)) (f_p0_seeds : (Nat → Int32)) (f_p0_ground : (Nat → Int32)) (x1 : Int32) (x2 : Int32) (rv : Int32) (hf : fX8_squareWorth v_p0_families f_p0_home f_p0_seeds f_p0_ground x1 x2 = some rv) {sz : Nat} : gMi l yX8_squareWorth (gW yX8_squareWorth cX8_squareWorth 6 (some .int)) ({ frames := 2, cells := 0, slots := 0, locals := 44 } : Room) E [.ref o_p0, .int x1, .int x2] (wX8_squareWorth E o_p0 a_p0 v_p0_families v_p0_wind v_p0_force v_p0_rain v_p0_lost v_p0_hour f_p0_home f_p0_seeds f_p0_ground) sz rv (wX8_squareWorth E o_p0 a_p0 v_p0_families v_p0_wind v_p0_force v_p0_rain v_p0_lost v_p0_hour f_p0_home f_p0_seeds f_p0_ground) := by
  refine g_openI (own := RX8) (by decide) rfl (Nat.le_of_ble_eq_true rfl) (fun p e s m args below meth cd Q A hx hb hml hown hG hK hA hret hw ls hl => ?_)
  have hl : lv_has ls 6 [(0, .ref o_p0), (1, .int x1), (2, .int x2)] := hl
  have hret1 : ∀ (t : Int32) (H : Heap) (locs : List Loc) (pc : Nat) (ls : Array Slot), some t = some rv → gS E A s.heap (wX8_squareWorth E o_p0 a_p0 v_p0_families v_p0_wind v_p0_force v_p0_rain v_p0_lost v_p0_hour f_p0_home f_p0_seeds f_p0_ground) H locs → decode cX8_squareWorth pc = .ok (.ireturn, 1) → W p l e ({ frames := 2, cells := 0, slots := 0, locals := 44 } : Room) s m args below meth cd H locs 0 0 Q (F0 m pc ls [.int t]) := by
    intro t H locs pc ls h hw hd
    obtain rfl : t = rv := Option.some.inj h
    exact hret H locs pc ls hw hd
  have B14 : ∀ (K5 : Int32 → Int32 → Int32 → Int32 → Option (Int32)) (hK5 : ∀ (x1 : Int32) (x2 : Int32) (x3 : Int32) (x4 : Int32) (H : Heap) (locs : List Loc) (ls : Array Slot), K5 x1 x2 x3 x4 = some rv → gS E A s.heap (wX8_squareWorth E o_p0 a_p0 v_p0_families v_p0_wind v_p0_force v_p0_rain v_p0_lost v_p0_hour f_p0_home f_p0_seeds f_p0_ground) H locs → lv_has ls 6 [(0, .ref o_p0), (1, .int x1), (2, .int x2), (3, .int x3), (4, .int x4)] → W p l e ({ frames := 2, cells := 0, slots := 0, locals := 44 } : Room) s m args below meth cd H locs 0 0 Q (F0 m 5 ls [])), ∀ n : Nat, ∀ (x1 : Int32) (x2 : Int32) (x3 : Int32) (x4 : Int32) (x5 : Int32) (H : Heap) (locs : List Loc) (ls : Array Slot), fX8_squareWorth_b14 K5 v_p0_families f_p0_home f_p0_seeds f_p0_ground n x1 x2 x3 x4 x5 = some rv → gS E A s.heap (wX8_squareWorth E o_p0 a_p0 v_p0_families v_p0_wind v_p0_force v_p0_rain v_p0_lost v_p0_hour f_p0_home f_p0_seeds f_p0_ground) H locs → lv_has ls 6 [(0, .ref o_p0), (1, .int x1), (2, .int x2), (3, .int x3), (4, .int x4), (5, .int x5)] → W p l e ({ frames := 2, cells := 0, slots := 0, locals := 44 } : Room) s m args below meth cd H locs 0 0 Q (F0 m 14 ls []) := by
    intro K5 hK5
    intro n
    induction n with
    | zero => intro x1 x2 x3 x4 x5 H locs ls hf hw hl; exact g_no hf
    | succ n ih =>
      intro x1 x2 x3 x4 x5 H locs ls hf hw hl
      refine lv_iload hx hb dX8_squareWorth_14 (lv_at hl 5 rfl) ?_
      refine lv_iload_n hx hb dX8_squareWorth_16 rfl (lv_at hl 2 rfl) ?_
      refine lv_icmp_ge (tgt := 43) hx hb dX8_squareWorth_17 (by decide) (fun hc => ?_) (fun hc => ?_)
      · have hf := g_t hc hf
        refine lv_iinc (lv' := [(4, .int (x4 + 1)), (0, .ref o_p0), (1, .int x1), (2, .int x2), (3, .int x3), (5, .int x5)]) hx hb dX8_squareWorth_43 hl (k := 4) rfl (k_inc1 _) (Nat.le_of_ble_eq_true rfl) rfl (fun ls hl => ?_)
        refine lv_goto (tgt := 5) hx hb dX8_squareWorth_46 (by decide) ?_
        exact hK5 x1 x2 x3 (x4 + 1) _ _ _ hf hw (lv_sub hl [1, 2, 3, 4, 0] rfl)
      · have hf := g_f hc hf
        refine lv_iload_n hx hb dX8_squareWorth_20 rfl (lv_at hl 3 rfl) ?_
        refine lv_aload_n hx hb dX8_squareWorth_21 rfl (lv_at hl 0 rfl) ?_
        refine lv_iload_n hx hb dX8_squareWorth_22 rfl (lv_at hl 1 rfl) ?_
        refine lv_bipush (v := 6) hx hb dX8_squareWorth_23 k_b6 ?_
        refine lv_iload hx hb dX8_squareWorth_25 (lv_at hl 4 rfl) ?_
        refine lv_imul hx hb dX8_squareWorth_27 ?_
        refine lv_iadd hx hb dX8_squareWorth_28 ?_
        refine lv_iload hx hb dX8_squareWorth_29 (lv_at hl 5 rfl) ?_
        refine lv_iadd hx hb dX8_squareWorth_31 ?_
        obtain ⟨r1, hc2, hf⟩ := gB_s hf
        refine g_ki0 (is := [0, 1, 2, 3]) hw hA (g_rS hx hb hml hG hown hK hw (is := [0, 1, 2, 3]) rfl (by decide) (mX8_fieldWorth l E o_p0 a_p0 v_p0_families v_p0_wind v_p0_force v_p0_rain v_p0_lost v_p0_hour f_p0_home f_p0_seeds f_p0_ground ((x1 + (6 * x4)) + x5) r1 hc2) wd_27_16 wd_27_17 wd_25_12 wd_27_18 hX8_fieldWorth g_allgood ⟨rfl, rfl⟩ ⟨Nat.le_of_ble_eq_true rfl, Nat.le_of_ble_eq_true rfl⟩ ⟨Nat.zero_le _, Nat.zero_le _⟩ rfl hl.1 rfl (Nat.le_of_ble_eq_true rfl) dX8_squareWorth_32) rfl (fun H locs hw => ?_)
        refine lv_iadd hx hb dX8_squareWorth_35 ?_
        refine lv_istore_n (lv' := [(3, .int (x3 + r1)), (0, .ref o_p0), (1, .int x1), (2, .int x2), (4, .int x4), (5, .int x5)]) hx hb dX8_squareWorth_36 rfl hl (Nat.le_of_ble_eq_true rfl) rfl (fun ls hl => ?_)
        refine lv_iinc (lv' := [(5, .int (x5 + 1)), (3, .int (x3 + r1)), (0, .ref o_p0), (1, .int x1), (2, .int x2), (4, .int x4)]) hx hb dX8_squareWorth_37 hl (k := 5) rfl (k_inc1 _) (Nat.le_of_ble_eq_true rfl) rfl (fun ls hl => ?_)
        refine lv_goto (tgt := 14) hx hb dX8_squareWorth_40 (by decide) ?_
        exact ih x1 x2 (x3 + r1) x4 (x5 + 1) _ _ _ hf hw (lv_sub hl [2, 3, 4, 1, 5, 0] rfl)
  have B5 : ∀ n : Nat, ∀ (x1 : Int32) (x2 : Int32) (x3 : Int32) (x4 : Int32) (H : Heap) (locs : List Loc) (ls : Array Slot), fX8_squareWorth_b5 v_p0_families f_p0_home f_p0_seeds f_p0_ground n x1 x2 x3 x4 = some rv → gS E A s.heap (wX8_squareWorth E o_p0 a_p0 v_p0_families v_p0_wind v_p0_force v_p0_rain v_p0_lost v_p0_hour f_p0_home f_p0_seeds f_p0_ground) H locs → lv_has ls 6 [(0, .ref o_p0), (1, .int x1), (2, .int x2), (3, .int x3), (4, .int x4)] → W p l e ({ frames := 2, cells := 0, slots := 0, locals := 44 } : Room) s m args below meth cd H locs 0 0 Q (F0 m 5 ls []) := by
    intro n
    induction n with
    | zero => intro x1 x2 x3 x4 H locs ls hf hw hl; exact g_no hf
    | succ n ih =>
      intro x1 x2 x3 x4 H locs ls hf hw hl
      refine lv_iload hx hb dX8_squareWorth_5 (lv_at hl 4 rfl) ?_
      refine lv_iload_n hx hb dX8_squareWorth_7 rfl (lv_at hl 2 rfl) ?_
      refine lv_icmp_ge (tgt := 49) hx hb dX8_squareWorth_8 (by decide) (fun hc => ?_) (fun hc => ?_)
      · have hf := g_t hc hf
        refine lv_iload_n hx hb dX8_squareWorth_49 rfl (lv_at hl 3 rfl) ?_
        exact hret1 x3 _ _ _ _ hf hw dX8_squareWorth_50
      · have hf := g_f hc hf
        refine lv_iconst (v := 0) hx hb dX8_squareWorth_11 k_i0 ?_
        refine lv_istore (lv' := [(5, .int 0), (0, .ref o_p0), (1, .int x1), (2, .int x2), (3, .int x3), (4, .int x4)]) hx hb dX8_squareWorth_12 hl (Nat.le_of_ble_eq_true rfl) rfl (fun ls hl => ?_)
        exact B14 (fX8_squareWorth_b5 v_p0_families f_p0_home f_p0_seeds f_p0_ground n) ih 1000 x1 x2 x3 x4 0 _ _ _ hf hw (lv_sub hl [1, 2, 3, 4, 5, 0] rfl)
  refine lv_iconst (v := 0) hx hb dX8_squareWorth_0 k_i0 ?_
  refine lv_istore_n (lv' := [(3, .int 0), (0, .ref o_p0), (1, .int x1), (2, .int x2)]) hx hb dX8_squareWorth_1 rfl hl (Nat.le_of_ble_eq_true rfl) rfl (fun ls hl => ?_)
  refine lv_iconst (v := 0) hx hb dX8_squareWorth_2 k_i0 ?_
  refine lv_istore (lv' := [(4, .int 0), (3, .int 0), (0, .ref o_p0), (1, .int x1), (2, .int x2)]) hx hb dX8_squareWorth_3 hl (Nat.le_of_ble_eq_true rfl) rfl (fun ls hl => ?_)
  exact B5 1000 x1 x2 0 0 _ _ _ hf hw (lv_sub hl [2, 3, 4, 1, 0] rfl)
theorem hX8_richestCorner : yX8_richestCorner.cls ≠ "java/lang/invoke/MethodHandle" ∧ yX8_richestCorner.cls ≠ "java/lang/invoke/VarHandle" ∧ (parseMethodDescriptor yX8_richestCorner.desc).map (fun d => d.parameters.length) = some 2 := by decide +kernel
set_option maxHeartbeats 4000000 in
set_option maxRecDepth 100000 in
theorem mX8_richestCorner (l : Launch) (E : gE) (o_p0 : Nat) (a_p0 : (Nat → Nat)) (v_p0_families : Int32) (v_p0_wind : Int32) (v_p0_force : Int32) (v_p0_rain : Int32) (v_p0_lost : Int32) (v_p0_hour : Int32) (f_p0_home : (Nat → Int32)) (f_p0_seeds : (Nat → Int32)) (f_p0_ground : (Nat → Int32)) (x1 : Int32) (rv : Int32) (hf : fX8_richestCorner v_p0_families f_p0_home f_p0_seeds f_p0_ground x1 = some rv) {sz : Nat} : gMi l yX8_richestCorner (gW yX8_richestCorner cX8_richestCorner 6 (some .int)) ({ frames := 3, cells := 0, slots := 0, locals := 69 } : Room) E [.ref o_p0, .int x1] (wX8_richestCorner E o_p0 a_p0 v_p0_families v_p0_wind v_p0_force v_p0_rain v_p0_lost v_p0_hour f_p0_home f_p0_seeds f_p0_ground) sz rv (wX8_richestCorner E o_p0 a_p0 v_p0_families v_p0_wind v_p0_force v_p0_rain v_p0_lost v_p0_hour f_p0_home f_p0_seeds f_p0_ground) := by
  refine g_openI (own := RX8) (by decide) rfl (Nat.le_of_ble_eq_true rfl) (fun p e s m args below meth cd Q A hx hb hml hown hG hK hA hret hw ls hl => ?_)
  have hl : lv_has ls 6 [(0, .ref o_p0), (1, .int x1)] := hl
  have hret1 : ∀ (t : Int32) (H : Heap) (locs : List Loc) (pc : Nat) (ls : Array Slot), some t = some rv → gS E A s.heap (wX8_richestCorner E o_p0 a_p0 v_p0_families v_p0_wind v_p0_force v_p0_rain v_p0_lost v_p0_hour f_p0_home f_p0_seeds f_p0_ground) H locs → decode cX8_richestCorner pc = .ok (.ireturn, 1) → W p l e ({ frames := 3, cells := 0, slots := 0, locals := 69 } : Room) s m args below meth cd H locs 0 0 Q (F0 m pc ls [.int t]) := by
    intro t H locs pc ls h hw hd
    obtain rfl : t = rv := Option.some.inj h
    exact hret H locs pc ls hw hd
  have B52 : ∀ (K15 : Int32 → Int32 → Int32 → Int32 → Option (Int32)) (hK15 : ∀ (x1 : Int32) (x2 : Int32) (x3 : Int32) (x4 : Int32) (H : Heap) (locs : List Loc) (ls : Array Slot), K15 x1 x2 x3 x4 = some rv → gS E A s.heap (wX8_richestCorner E o_p0 a_p0 v_p0_families v_p0_wind v_p0_force v_p0_rain v_p0_lost v_p0_hour f_p0_home f_p0_seeds f_p0_ground) H locs → lv_has ls 6 [(0, .ref o_p0), (1, .int x1), (2, .int x2), (3, .int x3), (4, .int x4)] → W p l e ({ frames := 3, cells := 0, slots := 0, locals := 69 } : Room) s m args below meth cd H locs 0 0 Q (F0 m 15 ls [])), ∀ (x1 : Int32) (x2 : Int32) (x3 : Int32) (x4 : Int32) (H : Heap) (locs : List Loc) (ls : Array Slot), fX8_richestCorner_b52 K15 v_p0_families f_p0_home f_p0_seeds f_p0_ground x1 x2 x3 x4 = some rv → gS E A s.heap (wX8_richestCorner E o_p0 a_p0 v_p0_families v_p0_wind v_p0_force v_p0_rain v_p0_lost v_p0_hour f_p0_home f_p0_seeds f_p0_ground) H locs → lv_has ls 6 [(0, .ref o_p0), (1, .int x1), (2, .int x2), (3, .int x3), (4, .int x4)] → W p l e ({ frames := 3, cells := 0, slots := 0, locals := 69 } : Room) s m args below meth cd H locs 0 0 Q (F0 m 52 ls []) := by
    intro K15 hK15 x1 x2 x3 x4 H locs ls hf hw hl
    refine lv_iinc (lv' := [(4, .int (x4 + 1)), (0, .ref o_p0), (1, .int x1), (2, .int x2), (3, .int x3)]) hx hb dX8_richestCorner_52 hl (k := 4) rfl (k_inc1 _) (Nat.le_of_ble_eq_true rfl) rfl (fun ls hl => ?_)
    refine lv_goto (tgt := 15) hx hb dX8_richestCorner_55 (by decide) ?_
    exact hK15 x1 x2 x3 (x4 + 1) _ _ _ hf hw (lv_sub hl [1, 2, 3, 4, 0] rfl)
  have B15 : ∀ (K4 : Int32 → Int32 → Int32 → Option (Int32)) (hK4 : ∀ (x1 : Int32) (x2 : Int32) (x3 : Int32) (H : Heap) (locs : List Loc) (ls : Array Slot), K4 x1 x2 x3 = some rv → gS E A s.heap (wX8_richestCorner E o_p0 a_p0 v_p0_families v_p0_wind v_p0_force v_p0_rain v_p0_lost v_p0_hour f_p0_home f_p0_seeds f_p0_ground) H locs → lv_has ls 6 [(0, .ref o_p0), (1, .int x1), (2, .int x2), (3, .int x3)] → W p l e ({ frames := 3, cells := 0, slots := 0, locals := 69 } : Room) s m args below meth cd H locs 0 0 Q (F0 m 4 ls [])), ∀ n : Nat, ∀ (x1 : Int32) (x2 : Int32) (x3 : Int32) (x4 : Int32) (H : Heap) (locs : List Loc) (ls : Array Slot), fX8_richestCorner_b15 K4 v_p0_families f_p0_home f_p0_seeds f_p0_ground n x1 x2 x3 x4 = some rv → gS E A s.heap (wX8_richestCorner E o_p0 a_p0 v_p0_families v_p0_wind v_p0_force v_p0_rain v_p0_lost v_p0_hour f_p0_home f_p0_seeds f_p0_ground) H locs → lv_has ls 6 [(0, .ref o_p0), (1, .int x1), (2, .int x2), (3, .int x3), (4, .int x4)] → W p l e ({ frames := 3, cells := 0, slots := 0, locals := 69 } : Room) s m args below meth cd H locs 0 0 Q (F0 m 15 ls []) := by
    intro K4 hK4
    intro n
    induction n with
    | zero => intro x1 x2 x3 x4 H locs ls hf hw hl; exact g_no hf
    | succ n ih =>
      intro x1 x2 x3 x4 H locs ls hf hw hl
      refine lv_iload hx hb dX8_richestCorner_15 (lv_at hl 4 rfl) ?_
      refine lv_bipush (v := 6) hx hb dX8_richestCorner_17 k_b6 ?_
      refine lv_iload_n hx hb dX8_richestCorner_19 rfl (lv_at hl 1 rfl) ?_
      refine lv_isub hx hb dX8_richestCorner_20 ?_
      refine lv_icmp_gt (tgt := 58) hx hb dX8_richestCorner_21 (by decide) (fun hc => ?_) (fun hc => ?_)
      · have hf := g_t hc hf
        refine lv_iinc (lv' := [(3, .int (x3 + 1)), (0, .ref o_p0), (1, .int x1), (2, .int x2), (4, .int x4)]) hx hb dX8_richestCorner_58 hl (k := 3) rfl (k_inc1 _) (Nat.le_of_ble_eq_true rfl) rfl (fun ls hl => ?_)
        refine lv_goto (tgt := 4) hx hb dX8_richestCorner_61 (by decide) ?_
        exact hK4 x1 x2 (x3 + 1) _ _ _ hf hw (lv_sub hl [1, 2, 3, 0] rfl)
      · have hf := g_f hc hf
        refine lv_bipush (v := 6) hx hb dX8_richestCorner_24 k_b6 ?_
        refine lv_iload_n hx hb dX8_richestCorner_26 rfl (lv_at hl 3 rfl) ?_
        refine lv_imul hx hb dX8_richestCorner_27 ?_
        refine lv_iload hx hb dX8_richestCorner_28 (lv_at hl 4 rfl) ?_
        refine lv_iadd hx hb dX8_richestCorner_30 ?_
        refine lv_istore (lv' := [(5, .int ((6 * x3) + x4)), (0, .ref o_p0), (1, .int x1), (2, .int x2), (3, .int x3), (4, .int x4)]) hx hb dX8_richestCorner_31 hl (Nat.le_of_ble_eq_true rfl) rfl (fun ls hl => ?_)
        refine lv_aload_n hx hb dX8_richestCorner_33 rfl (lv_at hl 1 rfl) ?_
        refine lv_iload hx hb dX8_richestCorner_34 (lv_at hl 0 rfl) ?_
        refine lv_iload_n hx hb dX8_richestCorner_36 rfl (lv_at hl 2 rfl) ?_
        obtain ⟨r1, hc2, hf⟩ := gB_s hf
        refine g_ki0 (is := [0, 1, 2, 3]) hw hA (g_rS hx hb hml hG hown hK hw (is := [0, 1, 2, 3]) rfl (by decide) (mX8_squareWorth l E o_p0 a_p0 v_p0_families v_p0_wind v_p0_force v_p0_rain v_p0_lost v_p0_hour f_p0_home f_p0_seeds f_p0_ground ((6 * x3) + x4) x1 r1 hc2) wd_27_13 wd_27_14 wd_25_12 wd_27_15 hX8_squareWorth g_allgood ⟨rfl, rfl⟩ ⟨Nat.le_of_ble_eq_true rfl, Nat.le_of_ble_eq_true rfl⟩ ⟨Nat.zero_le _, Nat.zero_le _⟩ rfl hl.1 rfl (Nat.le_of_ble_eq_true rfl) dX8_richestCorner_37) rfl (fun H locs hw => ?_)
        refine lv_aload_n hx hb dX8_richestCorner_40 rfl (lv_at hl 1 rfl) ?_
        refine lv_iload_n hx hb dX8_richestCorner_41 rfl (lv_at hl 3 rfl) ?_
        refine lv_iload_n hx hb dX8_richestCorner_42 rfl (lv_at hl 2 rfl) ?_
        obtain ⟨r3, hc4, hf⟩ := gB_s hf
        refine g_ki0 (is := [0, 1, 2, 3]) hw hA (g_rS hx hb hml hG hown hK hw (is := [0, 1, 2, 3]) rfl (by decide) (mX8_squareWorth l E o_p0 a_p0 v_p0_families v_p0_wind v_p0_force v_p0_rain v_p0_lost v_p0_hour f_p0_home f_p0_seeds f_p0_ground x2 x1 r3 hc4) wd_27_13 wd_27_14 wd_25_12 wd_27_15 hX8_squareWorth g_allgood ⟨rfl, rfl⟩ ⟨Nat.le_of_ble_eq_true rfl, Nat.le_of_ble_eq_true rfl⟩ ⟨Nat.zero_le _, Nat.zero_le _⟩ rfl hl.1 rfl (Nat.le_of_ble_eq_true rfl) dX8_richestCorner_43) rfl (fun H locs hw => ?_)
        refine lv_icmp_le (tgt := 52) hx hb dX8_richestCorner_46 (by decide) (fun hc => ?_) (fun hc => ?_)
        · have hf := g_t hc hf
          exact B52 (fX8_richestCorner_b15 K4 v_p0_families f_p0_home f_p0_seeds f_p0_ground n) ih x1 x2 x3 x4 _ _ _ hf hw (lv_sub hl [1, 2, 3, 4, 5] rfl)
        · have hf := g_f hc hf
          refine lv_iload hx hb dX8_richestCorner_49 (lv_at hl 0 rfl) ?_
          refine lv_istore_n (lv' := [(2, .int ((6 * x3) + x4)), (5, .int ((6 * x3) + x4)), (0, .ref o_p0), (1, .int x1), (3, .int x3), (4, .int x4)]) hx hb dX8_richestCorner_51 rfl hl (Nat.le_of_ble_eq_true rfl) rfl (fun ls hl => ?_)
          exact B52 (fX8_richestCorner_b15 K4 v_p0_families f_p0_home f_p0_seeds f_p0_ground n) ih x1 ((6 * x3) + x4) x3 x4 _ _ _ hf hw (lv_sub hl [2, 3, 0, 4, 5] rfl)
  have B4 : ∀ n : Nat, ∀ (x1 : Int32) (x2 : Int32) (x3 : Int32) (H : Heap) (locs : List Loc) (ls : Array Slot), fX8_richestCorner_b4 v_p0_families f_p0_home f_p0_seeds f_p0_ground n x1 x2 x3 = some rv → gS E A s.heap (wX8_richestCorner E o_p0 a_p0 v_p0_families v_p0_wind v_p0_force v_p0_rain v_p0_lost v_p0_hour f_p0_home f_p0_seeds f_p0_ground) H locs → lv_has ls 6 [(0, .ref o_p0), (1, .int x1), (2, .int x2), (3, .int x3)] → W p l e ({ frames := 3, cells := 0, slots := 0, locals := 69 } : Room) s m args below meth cd H locs 0 0 Q (F0 m 4 ls []) := by
    intro n
    induction n with
    | zero => intro x1 x2 x3 H locs ls hf hw hl; exact g_no hf
    | succ n ih =>
      intro x1 x2 x3 H locs ls hf hw hl
      refine lv_iload_n hx hb dX8_richestCorner_4 rfl (lv_at hl 3 rfl) ?_
      refine lv_bipush (v := 6) hx hb dX8_richestCorner_5 k_b6 ?_
      refine lv_iload_n hx hb dX8_richestCorner_7 rfl (lv_at hl 1 rfl) ?_
      refine lv_isub hx hb dX8_richestCorner_8 ?_
      refine lv_icmp_gt (tgt := 64) hx hb dX8_richestCorner_9 (by decide) (fun hc => ?_) (fun hc => ?_)
      · have hf := g_t hc hf
        refine lv_iload_n hx hb dX8_richestCorner_64 rfl (lv_at hl 2 rfl) ?_
        exact hret1 x2 _ _ _ _ hf hw dX8_richestCorner_65
      · have hf := g_f hc hf
        refine lv_iconst (v := 0) hx hb dX8_richestCorner_12 k_i0 ?_
        refine lv_istore (lv' := [(4, .int 0), (0, .ref o_p0), (1, .int x1), (2, .int x2), (3, .int x3)]) hx hb dX8_richestCorner_13 hl (Nat.le_of_ble_eq_true rfl) rfl (fun ls hl => ?_)
        exact B15 (fX8_richestCorner_b4 v_p0_families f_p0_home f_p0_seeds f_p0_ground n) ih 1000 x1 x2 x3 0 _ _ _ hf hw (lv_sub hl [1, 2, 3, 4, 0] rfl)
  refine lv_iconst (v := 0) hx hb dX8_richestCorner_0 k_i0 ?_
  refine lv_istore_n (lv' := [(2, .int 0), (0, .ref o_p0), (1, .int x1)]) hx hb dX8_richestCorner_1 rfl hl (Nat.le_of_ble_eq_true rfl) rfl (fun ls hl => ?_)
  refine lv_iconst (v := 0) hx hb dX8_richestCorner_2 k_i0 ?_
  refine lv_istore_n (lv' := [(3, .int 0), (2, .int 0), (0, .ref o_p0), (1, .int x1)]) hx hb dX8_richestCorner_3 rfl hl (Nat.le_of_ble_eq_true rfl) rfl (fun ls hl => ?_)
  exact B4 1000 x1 0 0 _ _ _ hf hw (lv_sub hl [2, 3, 1, 0] rfl)
theorem hX8_richerThan : yX8_richerThan.cls ≠ "java/lang/invoke/MethodHandle" ∧ yX8_richerThan.cls ≠ "java/lang/invoke/VarHandle" ∧ (parseMethodDescriptor yX8_richerThan.desc).map (fun d => d.parameters.length) = some 2 := by decide +kernel
set_option maxHeartbeats 4000000 in
set_option maxRecDepth 100000 in
theorem mX8_richerThan (l : Launch) (E : gE) (o_p0 : Nat) (a_p0 : (Nat → Nat)) (v_p0_families : Int32) (v_p0_wind : Int32) (v_p0_force : Int32) (v_p0_rain : Int32) (v_p0_lost : Int32) (v_p0_hour : Int32) (f_p0_seeds : (Nat → Int32)) (x1 : Int32) (rv : Int32) (hf : fX8_richerThan v_p0_families f_p0_seeds x1 = some rv) {sz : Nat} : gMi l yX8_richerThan (gW yX8_richerThan cX8_richerThan 6 (some .int)) ({ frames := 1, cells := 0, slots := 0, locals := 21 } : Room) E [.ref o_p0, .int x1] (wX8_richerThan E o_p0 a_p0 v_p0_families v_p0_wind v_p0_force v_p0_rain v_p0_lost v_p0_hour f_p0_seeds) sz rv (wX8_richerThan E o_p0 a_p0 v_p0_families v_p0_wind v_p0_force v_p0_rain v_p0_lost v_p0_hour f_p0_seeds) := by
  refine g_openI (own := RX8) (by decide) rfl (Nat.le_of_ble_eq_true rfl) (fun p e s m args below meth cd Q A hx hb hml hown hG hK hA hret hw ls hl => ?_)
  have hl : lv_has ls 6 [(0, .ref o_p0), (1, .int x1)] := hl
  have hret1 : ∀ (t : Int32) (H : Heap) (locs : List Loc) (pc : Nat) (ls : Array Slot), some t = some rv → gS E A s.heap (wX8_richerThan E o_p0 a_p0 v_p0_families v_p0_wind v_p0_force v_p0_rain v_p0_lost v_p0_hour f_p0_seeds) H locs → decode cX8_richerThan pc = .ok (.ireturn, 1) → W p l e ({ frames := 1, cells := 0, slots := 0, locals := 21 } : Room) s m args below meth cd H locs 0 0 Q (F0 m pc ls [.int t]) := by
    intro t H locs pc ls h hw hd
    obtain rfl : t = rv := Option.some.inj h
    exact hret H locs pc ls hw hd
  have B76 : ∀ (K14 : Int32 → Int32 → Int32 → Int32 → Option (Int32)) (hK14 : ∀ (x1 : Int32) (x2 : Int32) (x3 : Int32) (x4 : Int32) (H : Heap) (locs : List Loc) (ls : Array Slot), K14 x1 x2 x3 x4 = some rv → gS E A s.heap (wX8_richerThan E o_p0 a_p0 v_p0_families v_p0_wind v_p0_force v_p0_rain v_p0_lost v_p0_hour f_p0_seeds) H locs → lv_has ls 6 [(0, .ref o_p0), (1, .int x1), (2, .int x2), (3, .int x3), (4, .int x4)] → W p l e ({ frames := 1, cells := 0, slots := 0, locals := 21 } : Room) s m args below meth cd H locs 0 0 Q (F0 m 14 ls [])), ∀ (x1 : Int32) (x2 : Int32) (x4 : Int32) (s0 : Int32) (s1 : Int32) (H : Heap) (locs : List Loc) (ls : Array Slot), fX8_richerThan_b76 K14 v_p0_families f_p0_seeds x1 x2 x4 s0 s1 = some rv → gS E A s.heap (wX8_richerThan E o_p0 a_p0 v_p0_families v_p0_wind v_p0_force v_p0_rain v_p0_lost v_p0_hour f_p0_seeds) H locs → lv_has ls 6 [(0, .ref o_p0), (1, .int x1), (2, .int x2), (4, .int x4)] → W p l e ({ frames := 1, cells := 0, slots := 0, locals := 21 } : Room) s m args below meth cd H locs 0 0 Q (F0 m 76 ls [.int s1, .int s0]) := by
    intro K14 hK14 x1 x2 x4 s0 s1 H locs ls hf hw hl
    refine lv_iadd hx hb dX8_richerThan_76 ?_
    refine lv_istore_n (lv' := [(3, .int (s0 + s1)), (0, .ref o_p0), (1, .int x1), (2, .int x2), (4, .int x4)]) hx hb dX8_richerThan_77 rfl hl (Nat.le_of_ble_eq_true rfl) rfl (fun ls hl => ?_)
    refine lv_iinc (lv' := [(4, .int (x4 + 1)), (3, .int (s0 + s1)), (0, .ref o_p0), (1, .int x1), (2, .int x2)]) hx hb dX8_richerThan_78 hl (k := 4) rfl (k_inc1 _) (Nat.le_of_ble_eq_true rfl) rfl (fun ls hl => ?_)
    refine lv_goto (tgt := 14) hx hb dX8_richerThan_81 (by decide) ?_
    exact hK14 x1 x2 (s0 + s1) (x4 + 1) _ _ _ hf hw (lv_sub hl [2, 3, 4, 1, 0] rfl)
  have B75 : ∀ (K14 : Int32 → Int32 → Int32 → Int32 → Option (Int32)) (hK14 : ∀ (x1 : Int32) (x2 : Int32) (x3 : Int32) (x4 : Int32) (H : Heap) (locs : List Loc) (ls : Array Slot), K14 x1 x2 x3 x4 = some rv → gS E A s.heap (wX8_richerThan E o_p0 a_p0 v_p0_families v_p0_wind v_p0_force v_p0_rain v_p0_lost v_p0_hour f_p0_seeds) H locs → lv_has ls 6 [(0, .ref o_p0), (1, .int x1), (2, .int x2), (3, .int x3), (4, .int x4)] → W p l e ({ frames := 1, cells := 0, slots := 0, locals := 21 } : Room) s m args below meth cd H locs 0 0 Q (F0 m 14 ls [])), ∀ (x1 : Int32) (x2 : Int32) (x4 : Int32) (s0 : Int32) (H : Heap) (locs : List Loc) (ls : Array Slot), fX8_richerThan_b75 K14 v_p0_families f_p0_seeds x1 x2 x4 s0 = some rv → gS E A s.heap (wX8_richerThan E o_p0 a_p0 v_p0_families v_p0_wind v_p0_force v_p0_rain v_p0_lost v_p0_hour f_p0_seeds) H locs → lv_has ls 6 [(0, .ref o_p0), (1, .int x1), (2, .int x2), (4, .int x4)] → W p l e ({ frames := 1, cells := 0, slots := 0, locals := 21 } : Room) s m args below meth cd H locs 0 0 Q (F0 m 75 ls [.int s0]) := by
    intro K14 hK14 x1 x2 x4 s0 H locs ls hf hw hl
    refine lv_iconst (v := 0) hx hb dX8_richerThan_75 k_i0 ?_
    exact B76 K14 hK14 x1 x2 x4 s0 0 _ _ _ hf hw (lv_sub hl [0, 1, 2, 3] rfl)
  have B54 : ∀ (K14 : Int32 → Int32 → Int32 → Int32 → Option (Int32)) (hK14 : ∀ (x1 : Int32) (x2 : Int32) (x3 : Int32) (x4 : Int32) (H : Heap) (locs : List Loc) (ls : Array Slot), K14 x1 x2 x3 x4 = some rv → gS E A s.heap (wX8_richerThan E o_p0 a_p0 v_p0_families v_p0_wind v_p0_force v_p0_rain v_p0_lost v_p0_hour f_p0_seeds) H locs → lv_has ls 6 [(0, .ref o_p0), (1, .int x1), (2, .int x2), (3, .int x3), (4, .int x4)] → W p l e ({ frames := 1, cells := 0, slots := 0, locals := 21 } : Room) s m args below meth cd H locs 0 0 Q (F0 m 14 ls [])), ∀ (x1 : Int32) (x2 : Int32) (x3 : Int32) (x4 : Int32) (s0 : Int32) (H : Heap) (locs : List Loc) (ls : Array Slot), fX8_richerThan_b54 K14 v_p0_families f_p0_seeds x1 x2 x3 x4 s0 = some rv → gS E A s.heap (wX8_richerThan E o_p0 a_p0 v_p0_families v_p0_wind v_p0_force v_p0_rain v_p0_lost v_p0_hour f_p0_seeds) H locs → lv_has ls 6 [(0, .ref o_p0), (1, .int x1), (2, .int x2), (3, .int x3), (4, .int x4)] → W p l e ({ frames := 1, cells := 0, slots := 0, locals := 21 } : Room) s m args below meth cd H locs 0 0 Q (F0 m 54 ls [.int s0]) := by
    intro K14 hK14 x1 x2 x3 x4 s0 H locs ls hf hw hl
    refine lv_istore (lv' := [(5, .int s0), (0, .ref o_p0), (1, .int x1), (2, .int x2), (3, .int x3), (4, .int x4)]) hx hb dX8_richerThan_54 hl (Nat.le_of_ble_eq_true rfl) rfl (fun ls hl => ?_)
    refine lv_iload_n hx hb dX8_richerThan_56 rfl (lv_at hl 4 rfl) ?_
    refine lv_aload_n hx hb dX8_richerThan_57 rfl (lv_at hl 1 rfl) ?_
    refine lv_iload hx hb dX8_richerThan_58 (lv_at hl 5 rfl) ?_
    obtain ⟨r1, hc2, hf⟩ := gB_s hf
    refine g_ki0 (is := [0]) hw hA (g_rV hx hb hml hG hown hK hw (is := [0]) rfl (by decide) (mX6_isThere l E o_p0 a_p0 v_p0_families v_p0_wind v_p0_force v_p0_rain v_p0_lost v_p0_hour x4 r1 hc2) wd_26_12 wd_9_9 wd_9_10 wd_2_20 wd_9_11 hX6_isThere g_allgood ⟨rfl, rfl⟩ ⟨Nat.le_of_ble_eq_true rfl, Nat.le_of_ble_eq_true rfl⟩ ⟨Nat.zero_le _, Nat.zero_le _⟩ (ci := 5) (q0 := 0) rfl rfl rfl rfl hl.1 rfl (Nat.le_of_ble_eq_true rfl) dX8_richerThan_60) rfl (fun H locs hw => ?_)
    refine lv_if_eq (tgt := 75) hx hb dX8_richerThan_63 (by decide) (fun hc => ?_) (fun hc => ?_)
    · have hf := g_t hc hf
      exact B75 K14 hK14 x1 x2 x4 x3 _ _ _ hf hw (lv_sub hl [1, 2, 3, 5] rfl)
    · have hf := g_f hc hf
      refine lv_iload hx hb dX8_richerThan_66 (lv_at hl 0 rfl) ?_
      refine lv_if_eq (tgt := 75) hx hb dX8_richerThan_68 (by decide) (fun hc => ?_) (fun hc => ?_)
      · have hf := g_t hc hf
        exact B75 K14 hK14 x1 x2 x4 x3 _ _ _ hf hw (lv_sub hl [1, 2, 3, 5] rfl)
      · have hf := g_f hc hf
        refine lv_iconst (v := 1) hx hb dX8_richerThan_71 k_i1 ?_
        refine lv_goto (tgt := 76) hx hb dX8_richerThan_72 (by decide) ?_
        exact B76 K14 hK14 x1 x2 x4 x3 1 _ _ _ hf hw (lv_sub hl [1, 2, 3, 5] rfl)
  have B49 : ∀ (K14 : Int32 → Int32 → Int32 → Int32 → Option (Int32)) (hK14 : ∀ (x1 : Int32) (x2 : Int32) (x3 : Int32) (x4 : Int32) (H : Heap) (locs : List Loc) (ls : Array Slot), K14 x1 x2 x3 x4 = some rv → gS E A s.heap (wX8_richerThan E o_p0 a_p0 v_p0_families v_p0_wind v_p0_force v_p0_rain v_p0_lost v_p0_hour f_p0_seeds) H locs → lv_has ls 6 [(0, .ref o_p0), (1, .int x1), (2, .int x2), (3, .int x3), (4, .int x4)] → W p l e ({ frames := 1, cells := 0, slots := 0, locals := 21 } : Room) s m args below meth cd H locs 0 0 Q (F0 m 14 ls [])), ∀ (x1 : Int32) (x2 : Int32) (x3 : Int32) (x4 : Int32) (H : Heap) (locs : List Loc) (ls : Array Slot), fX8_richerThan_b49 K14 v_p0_families f_p0_seeds x1 x2 x3 x4 = some rv → gS E A s.heap (wX8_richerThan E o_p0 a_p0 v_p0_families v_p0_wind v_p0_force v_p0_rain v_p0_lost v_p0_hour f_p0_seeds) H locs → lv_has ls 6 [(0, .ref o_p0), (1, .int x1), (2, .int x2), (3, .int x3), (4, .int x4)] → W p l e ({ frames := 1, cells := 0, slots := 0, locals := 21 } : Room) s m args below meth cd H locs 0 0 Q (F0 m 49 ls []) := by
    intro K14 hK14 x1 x2 x3 x4 H locs ls hf hw hl
    refine lv_iconst (v := 1) hx hb dX8_richerThan_49 k_i1 ?_
    refine lv_goto (tgt := 54) hx hb dX8_richerThan_50 (by decide) ?_
    exact B54 K14 hK14 x1 x2 x3 x4 1 _ _ _ hf hw (lv_sub hl [0, 1, 2, 3, 4] rfl)
  have B53 : ∀ (K14 : Int32 → Int32 → Int32 → Int32 → Option (Int32)) (hK14 : ∀ (x1 : Int32) (x2 : Int32) (x3 : Int32) (x4 : Int32) (H : Heap) (locs : List Loc) (ls : Array Slot), K14 x1 x2 x3 x4 = some rv → gS E A s.heap (wX8_richerThan E o_p0 a_p0 v_p0_families v_p0_wind v_p0_force v_p0_rain v_p0_lost v_p0_hour f_p0_seeds) H locs → lv_has ls 6 [(0, .ref o_p0), (1, .int x1), (2, .int x2), (3, .int x3), (4, .int x4)] → W p l e ({ frames := 1, cells := 0, slots := 0, locals := 21 } : Room) s m args below meth cd H locs 0 0 Q (F0 m 14 ls [])), ∀ (x1 : Int32) (x2 : Int32) (x3 : Int32) (x4 : Int32) (H : Heap) (locs : List Loc) (ls : Array Slot), fX8_richerThan_b53 K14 v_p0_families f_p0_seeds x1 x2 x3 x4 = some rv → gS E A s.heap (wX8_richerThan E o_p0 a_p0 v_p0_families v_p0_wind v_p0_force v_p0_rain v_p0_lost v_p0_hour f_p0_seeds) H locs → lv_has ls 6 [(0, .ref o_p0), (1, .int x1), (2, .int x2), (3, .int x3), (4, .int x4)] → W p l e ({ frames := 1, cells := 0, slots := 0, locals := 21 } : Room) s m args below meth cd H locs 0 0 Q (F0 m 53 ls []) := by
    intro K14 hK14 x1 x2 x3 x4 H locs ls hf hw hl
    refine lv_iconst (v := 0) hx hb dX8_richerThan_53 k_i0 ?_
    exact B54 K14 hK14 x1 x2 x3 x4 0 _ _ _ hf hw (lv_sub hl [0, 1, 2, 3, 4] rfl)
  have B14 : ∀ n : Nat, ∀ (x1 : Int32) (x2 : Int32) (x3 : Int32) (x4 : Int32) (H : Heap) (locs : List Loc) (ls : Array Slot), fX8_richerThan_b14 v_p0_families f_p0_seeds n x1 x2 x3 x4 = some rv → gS E A s.heap (wX8_richerThan E o_p0 a_p0 v_p0_families v_p0_wind v_p0_force v_p0_rain v_p0_lost v_p0_hour f_p0_seeds) H locs → lv_has ls 6 [(0, .ref o_p0), (1, .int x1), (2, .int x2), (3, .int x3), (4, .int x4)] → W p l e ({ frames := 1, cells := 0, slots := 0, locals := 21 } : Room) s m args below meth cd H locs 0 0 Q (F0 m 14 ls []) := by
    intro n
    induction n with
    | zero => intro x1 x2 x3 x4 H locs ls hf hw hl; exact g_no hf
    | succ n ih =>
      intro x1 x2 x3 x4 H locs ls hf hw hl
      refine lv_iload hx hb dX8_richerThan_14 (lv_at hl 4 rfl) ?_
      refine lv_bipush (v := 6) hx hb dX8_richerThan_16 k_b6 ?_
      refine lv_icmp_ge (tgt := 84) hx hb dX8_richerThan_18 (by decide) (fun hc => ?_) (fun hc => ?_)
      · have hf := g_t hc hf
        refine lv_iload_n hx hb dX8_richerThan_84 rfl (lv_at hl 3 rfl) ?_
        exact hret1 x3 _ _ _ _ hf hw dX8_richerThan_85
      · have hf := g_f hc hf
        refine lv_aload_n hx hb dX8_richerThan_21 rfl (lv_at hl 0 rfl) ?_
        refine g_get hx hb hG hown hK hw inlX6 (ci := 5) rfl 0 1 (Nat.le_of_ble_eq_true rfl) rfl rfl wd_27_20 dX8_richerThan_22 ?_
        refine lv_iload hx hb dX8_richerThan_25 (lv_at hl 4 rfl) ?_
        obtain ⟨hi3, hf⟩ := gA_s hf
        refine g_iald hx hb hK hw 1 rfl hi3 dX8_richerThan_27 ?_
        refine lv_iload_n hx hb dX8_richerThan_28 rfl (lv_at hl 2 rfl) ?_
        refine lv_icmp_gt (tgt := 49) hx hb dX8_richerThan_29 (by decide) (fun hc => ?_) (fun hc => ?_)
        · have hf := g_t hc hf
          exact B49 (fX8_richerThan_b14 v_p0_families f_p0_seeds n) ih x1 x2 x3 x4 _ _ _ hf hw (lv_sub hl [0, 1, 2, 3, 4] rfl)
        · have hf := g_f hc hf
          refine lv_aload_n hx hb dX8_richerThan_32 rfl (lv_at hl 0 rfl) ?_
          refine g_get hx hb hG hown hK hw inlX6 (ci := 5) rfl 0 1 (Nat.le_of_ble_eq_true rfl) rfl rfl wd_27_20 dX8_richerThan_33 ?_
          refine lv_iload hx hb dX8_richerThan_36 (lv_at hl 4 rfl) ?_
          obtain ⟨hi4, hf⟩ := gA_s hf
          refine g_iald hx hb hK hw 1 rfl hi4 dX8_richerThan_38 ?_
          refine lv_iload_n hx hb dX8_richerThan_39 rfl (lv_at hl 2 rfl) ?_
          refine lv_icmp_ne (tgt := 53) hx hb dX8_richerThan_40 (by decide) (fun hc => ?_) (fun hc => ?_)
          · have hf := g_f hc hf
            exact B53 (fX8_richerThan_b14 v_p0_families f_p0_seeds n) ih x1 x2 x3 x4 _ _ _ hf hw (lv_sub hl [0, 1, 2, 3, 4] rfl)
          · have hf := g_t hc hf
            refine lv_iload hx hb dX8_richerThan_43 (lv_at hl 4 rfl) ?_
            refine lv_iload_n hx hb dX8_richerThan_45 rfl (lv_at hl 1 rfl) ?_
            refine lv_icmp_ge (tgt := 53) hx hb dX8_richerThan_46 (by decide) (fun hc => ?_) (fun hc => ?_)
            · have hf := g_t hc hf
              exact B53 (fX8_richerThan_b14 v_p0_families f_p0_seeds n) ih x1 x2 x3 x4 _ _ _ hf hw (lv_sub hl [0, 1, 2, 3, 4] rfl)
            · have hf := g_f hc hf
              exact B49 (fX8_richerThan_b14 v_p0_families f_p0_seeds n) ih x1 x2 x3 x4 _ _ _ hf hw (lv_sub hl [0, 1, 2, 3, 4] rfl)
  refine lv_aload_n hx hb dX8_richerThan_0 rfl (lv_at hl 0 rfl) ?_
  refine g_get hx hb hG hown hK hw inlX6 (ci := 5) rfl 0 1 (Nat.le_of_ble_eq_true rfl) rfl rfl wd_27_20 dX8_richerThan_1 ?_
  refine lv_iload_n hx hb dX8_richerThan_4 rfl (lv_at hl 1 rfl) ?_
  obtain ⟨r5, hc6, hf⟩ := gB_s hf
  refine g_ki0 (is := [1]) hw hA (g_rN (host := "SeedBank") hx hb hml hG hown hK hw (is := [1]) rfl (by decide) (mX10_at l E (a_p0 1) 6 f_p0_seeds x1 r5 hc6) (List.mem_of_getElem? (i := 17) rfl) wd_15_23 wd_1_2 wd_16_0 hX10_at g_allgood ⟨rfl, rfl⟩ ⟨Nat.le_of_ble_eq_true rfl, Nat.le_of_ble_eq_true rfl⟩ ⟨Nat.zero_le _, Nat.zero_le _⟩ rfl hl.1 rfl (Nat.le_of_ble_eq_true rfl) dX8_richerThan_5) rfl (fun H locs hw => ?_)
  refine lv_istore_n (lv' := [(2, .int r5), (0, .ref o_p0), (1, .int x1)]) hx hb dX8_richerThan_8 rfl hl (Nat.le_of_ble_eq_true rfl) rfl (fun ls hl => ?_)
  refine lv_iconst (v := 0) hx hb dX8_richerThan_9 k_i0 ?_
  refine lv_istore_n (lv' := [(3, .int 0), (2, .int r5), (0, .ref o_p0), (1, .int x1)]) hx hb dX8_richerThan_10 rfl hl (Nat.le_of_ble_eq_true rfl) rfl (fun ls hl => ?_)
  refine lv_iconst (v := 0) hx hb dX8_richerThan_11 k_i0 ?_
  refine lv_istore (lv' := [(4, .int 0), (3, .int 0), (2, .int r5), (0, .ref o_p0), (1, .int x1)]) hx hb dX8_richerThan_12 hl (Nat.le_of_ble_eq_true rfl) rfl (fun ls hl => ?_)
  exact B14 1000 x1 r5 0 0 _ _ _ hf hw (lv_sub hl [3, 4, 2, 1, 0] rfl)
theorem hX8_taxOf : yX8_taxOf.cls ≠ "java/lang/invoke/MethodHandle" ∧ yX8_taxOf.cls ≠ "java/lang/invoke/VarHandle" ∧ (parseMethodDescriptor yX8_taxOf.desc).map (fun d => d.parameters.length) = some 3 := by decide +kernel
set_option maxHeartbeats 4000000 in
set_option maxRecDepth 100000 in
theorem mX8_taxOf (l : Launch) (E : gE) (o_p0 : Nat) (a_p0 : (Nat → Nat)) (v_p0_families : Int32) (v_p0_wind : Int32) (v_p0_force : Int32) (v_p0_rain : Int32) (v_p0_lost : Int32) (v_p0_hour : Int32) (f_p0_seeds : (Nat → Int32)) (x1 : Int32) (x2 : Int32) (rv : Int32) (hf : fX8_taxOf v_p0_families f_p0_seeds x1 x2 = some rv) {sz : Nat} : gMi l yX8_taxOf (gW yX8_taxOf cX8_taxOf 6 (some .int)) ({ frames := 2, cells := 0, slots := 0, locals := 46 } : Room) E [.ref o_p0, .int x1, .int x2] (wX8_taxOf E o_p0 a_p0 v_p0_families v_p0_wind v_p0_force v_p0_rain v_p0_lost v_p0_hour f_p0_seeds) sz rv (wX8_taxOf E o_p0 a_p0 v_p0_families v_p0_wind v_p0_force v_p0_rain v_p0_lost v_p0_hour f_p0_seeds) := by
  refine g_openI (own := RX8) (by decide) rfl (Nat.le_of_ble_eq_true rfl) (fun p e s m args below meth cd Q A hx hb hml hown hG hK hA hret hw ls hl => ?_)
  have hl : lv_has ls 6 [(0, .ref o_p0), (1, .int x1), (2, .int x2)] := hl
  have hret1 : ∀ (t : Int32) (H : Heap) (locs : List Loc) (pc : Nat) (ls : Array Slot), some t = some rv → gS E A s.heap (wX8_taxOf E o_p0 a_p0 v_p0_families v_p0_wind v_p0_force v_p0_rain v_p0_lost v_p0_hour f_p0_seeds) H locs → decode cX8_taxOf pc = .ok (.ireturn, 1) → W p l e ({ frames := 2, cells := 0, slots := 0, locals := 46 } : Room) s m args below meth cd H locs 0 0 Q (F0 m pc ls [.int t]) := by
    intro t H locs pc ls h hw hd
    obtain rfl : t = rv := Option.some.inj h
    exact hret H locs pc ls hw hd
  have B50 : ∀ (K17 : Int32 → Int32 → Int32 → Int32 → Int32 → Option (Int32)) (hK17 : ∀ (x1 : Int32) (x2 : Int32) (x3 : Int32) (x4 : Int32) (x5 : Int32) (H : Heap) (locs : List Loc) (ls : Array Slot), K17 x1 x2 x3 x4 x5 = some rv → gS E A s.heap (wX8_taxOf E o_p0 a_p0 v_p0_families v_p0_wind v_p0_force v_p0_rain v_p0_lost v_p0_hour f_p0_seeds) H locs → lv_has ls 6 [(0, .ref o_p0), (1, .int x1), (2, .int x2), (3, .int x3), (4, .int x4), (5, .int x5)] → W p l e ({ frames := 2, cells := 0, slots := 0, locals := 46 } : Room) s m args below meth cd H locs 0 0 Q (F0 m 17 ls [])), ∀ (x1 : Int32) (x2 : Int32) (x3 : Int32) (x5 : Int32) (s0 : Int32) (s1 : Int32) (H : Heap) (locs : List Loc) (ls : Array Slot), fX8_taxOf_b50 K17 v_p0_families f_p0_seeds x1 x2 x3 x5 s0 s1 = some rv → gS E A s.heap (wX8_taxOf E o_p0 a_p0 v_p0_families v_p0_wind v_p0_force v_p0_rain v_p0_lost v_p0_hour f_p0_seeds) H locs → lv_has ls 6 [(0, .ref o_p0), (1, .int x1), (2, .int x2), (3, .int x3), (5, .int x5)] → W p l e ({ frames := 2, cells := 0, slots := 0, locals := 46 } : Room) s m args below meth cd H locs 0 0 Q (F0 m 50 ls [.int s1, .int s0]) := by
    intro K17 hK17 x1 x2 x3 x5 s0 s1 H locs ls hf hw hl
    refine lv_isub hx hb dX8_taxOf_50 ?_
    refine lv_istore (lv' := [(4, .int (s0 - s1)), (0, .ref o_p0), (1, .int x1), (2, .int x2), (3, .int x3), (5, .int x5)]) hx hb dX8_taxOf_51 hl (Nat.le_of_ble_eq_true rfl) rfl (fun ls hl => ?_)
    refine lv_iinc (lv' := [(5, .int (x5 + 1)), (4, .int (s0 - s1)), (0, .ref o_p0), (1, .int x1), (2, .int x2), (3, .int x3)]) hx hb dX8_taxOf_53 hl (k := 5) rfl (k_inc1 _) (Nat.le_of_ble_eq_true rfl) rfl (fun ls hl => ?_)
    refine lv_goto (tgt := 17) hx hb dX8_taxOf_56 (by decide) ?_
    exact hK17 x1 x2 x3 (s0 - s1) (x5 + 1) _ _ _ hf hw (lv_sub hl [2, 3, 4, 5, 1, 0] rfl)
  have B92 : ∀ (s0 : Int32) (H : Heap) (locs : List Loc) (ls : Array Slot), fX8_taxOf_b92 s0 = some rv → gS E A s.heap (wX8_taxOf E o_p0 a_p0 v_p0_families v_p0_wind v_p0_force v_p0_rain v_p0_lost v_p0_hour f_p0_seeds) H locs → lv_has ls 6 [] → W p l e ({ frames := 2, cells := 0, slots := 0, locals := 46 } : Room) s m args below meth cd H locs 0 0 Q (F0 m 92 ls [.int s0]) := by
    intro  s0 H locs ls hf hw hl
    exact hret1 s0 _ _ _ _ hf hw dX8_taxOf_92
  have B17 : ∀ n : Nat, ∀ (x1 : Int32) (x2 : Int32) (x3 : Int32) (x4 : Int32) (x5 : Int32) (H : Heap) (locs : List Loc) (ls : Array Slot), fX8_taxOf_b17 v_p0_families f_p0_seeds n x1 x2 x3 x4 x5 = some rv → gS E A s.heap (wX8_taxOf E o_p0 a_p0 v_p0_families v_p0_wind v_p0_force v_p0_rain v_p0_lost v_p0_hour f_p0_seeds) H locs → lv_has ls 6 [(0, .ref o_p0), (1, .int x1), (2, .int x2), (3, .int x3), (4, .int x4), (5, .int x5)] → W p l e ({ frames := 2, cells := 0, slots := 0, locals := 46 } : Room) s m args below meth cd H locs 0 0 Q (F0 m 17 ls []) := by
    intro n
    induction n with
    | zero => intro x1 x2 x3 x4 x5 H locs ls hf hw hl; exact g_no hf
    | succ n ih =>
      intro x1 x2 x3 x4 x5 H locs ls hf hw hl
      refine lv_iload hx hb dX8_taxOf_17 (lv_at hl 5 rfl) ?_
      refine lv_bipush (v := 6) hx hb dX8_taxOf_19 k_b6 ?_
      refine lv_icmp_ge (tgt := 59) hx hb dX8_taxOf_21 (by decide) (fun hc => ?_) (fun hc => ?_)
      · have hf := g_t hc hf
        refine lv_iload_n hx hb dX8_taxOf_59 rfl (lv_at hl 2 rfl) ?_
        refine lv_aload_n hx hb dX8_taxOf_60 rfl (lv_at hl 0 rfl) ?_
        refine g_get hx hb hG hown hK hw inlX6 (ci := 5) rfl 0 1 (Nat.le_of_ble_eq_true rfl) rfl rfl wd_27_20 dX8_taxOf_61 ?_
        refine lv_iload_n hx hb dX8_taxOf_64 rfl (lv_at hl 1 rfl) ?_
        obtain ⟨r1, hc2, hf⟩ := gB_s hf
        refine g_ki0 (is := [1]) hw hA (g_rN (host := "SeedBank") hx hb hml hG hown hK hw (is := [1]) rfl (by decide) (mX10_at l E (a_p0 1) 6 f_p0_seeds x1 r1 hc2) (List.mem_of_getElem? (i := 17) rfl) wd_15_23 wd_1_2 wd_16_0 hX10_at g_allgood ⟨rfl, rfl⟩ ⟨Nat.le_of_ble_eq_true rfl, Nat.le_of_ble_eq_true rfl⟩ ⟨Nat.zero_le _, Nat.zero_le _⟩ rfl hl.1 rfl (Nat.le_of_ble_eq_true rfl) dX8_taxOf_65) rfl (fun H locs hw => ?_)
        refine lv_imul hx hb dX8_taxOf_68 ?_
        refine lv_iload_n hx hb dX8_taxOf_69 rfl (lv_at hl 3 rfl) ?_
        obtain ⟨hd3, hf⟩ := gD_s hf
        refine lv_idiv hx hb dX8_taxOf_70 hd3 ?_
        refine lv_istore (lv' := [(5, .int ((x2 * r1) / x3)), (0, .ref o_p0), (1, .int x1), (2, .int x2), (3, .int x3), (4, .int x4)]) hx hb dX8_taxOf_71 hl (Nat.le_of_ble_eq_true rfl) rfl (fun ls hl => ?_)
        refine lv_aload_n hx hb dX8_taxOf_73 rfl (lv_at hl 1 rfl) ?_
        refine lv_iload_n hx hb dX8_taxOf_74 rfl (lv_at hl 2 rfl) ?_
        obtain ⟨r4, hc5, hf⟩ := gB_s hf
        refine g_ki0 (is := [0, 1]) hw hA (g_rS hx hb hml hG hown hK hw (is := [0, 1]) rfl (by decide) (mX8_richerThan l E o_p0 a_p0 v_p0_families v_p0_wind v_p0_force v_p0_rain v_p0_lost v_p0_hour f_p0_seeds x1 r4 hc5) wd_30_6 wd_30_7 wd_25_12 wd_30_8 hX8_richerThan g_allgood ⟨rfl, rfl⟩ ⟨Nat.le_of_ble_eq_true rfl, Nat.le_of_ble_eq_true rfl⟩ ⟨Nat.zero_le _, Nat.zero_le _⟩ rfl hl.1 rfl (Nat.le_of_ble_eq_true rfl) dX8_taxOf_75) rfl (fun H locs hw => ?_)
        refine lv_iload hx hb dX8_taxOf_78 (lv_at hl 5 rfl) ?_
        refine lv_icmp_ge (tgt := 90) hx hb dX8_taxOf_80 (by decide) (fun hc => ?_) (fun hc => ?_)
        · have hf := g_t hc hf
          refine lv_iload hx hb dX8_taxOf_90 (lv_at hl 0 rfl) ?_
          exact B92 ((x2 * r1) / x3) _ _ _ hf hw (lv_sub hl [] rfl)
        · have hf := g_f hc hf
          refine lv_iload hx hb dX8_taxOf_83 (lv_at hl 0 rfl) ?_
          refine lv_iconst (v := 1) hx hb dX8_taxOf_85 k_i1 ?_
          refine lv_iadd hx hb dX8_taxOf_86 ?_
          refine lv_goto (tgt := 92) hx hb dX8_taxOf_87 (by decide) ?_
          exact B92 (((x2 * r1) / x3) + 1) _ _ _ hf hw (lv_sub hl [] rfl)
      · have hf := g_f hc hf
        refine lv_iload hx hb dX8_taxOf_24 (lv_at hl 4 rfl) ?_
        refine lv_aload_n hx hb dX8_taxOf_26 rfl (lv_at hl 0 rfl) ?_
        refine lv_iload hx hb dX8_taxOf_27 (lv_at hl 5 rfl) ?_
        obtain ⟨r6, hc7, hf⟩ := gB_s hf
        refine g_ki0 (is := [0]) hw hA (g_rV hx hb hml hG hown hK hw (is := [0]) rfl (by decide) (mX6_isThere l E o_p0 a_p0 v_p0_families v_p0_wind v_p0_force v_p0_rain v_p0_lost v_p0_hour x5 r6 hc7) wd_26_12 wd_9_9 wd_9_10 wd_2_20 wd_9_11 hX6_isThere g_allgood ⟨rfl, rfl⟩ ⟨Nat.le_of_ble_eq_true rfl, Nat.le_of_ble_eq_true rfl⟩ ⟨Nat.zero_le _, Nat.zero_le _⟩ (ci := 5) (q0 := 0) rfl rfl rfl rfl hl.1 rfl (Nat.le_of_ble_eq_true rfl) dX8_taxOf_29) rfl (fun H locs hw => ?_)
        refine lv_if_eq (tgt := 49) hx hb dX8_taxOf_32 (by decide) (fun hc => ?_) (fun hc => ?_)
        · have hf := g_t hc hf
          refine lv_iconst (v := 0) hx hb dX8_taxOf_49 k_i0 ?_
          exact B50 (fX8_taxOf_b17 v_p0_families f_p0_seeds n) ih x1 x2 x3 x5 x4 0 _ _ _ hf hw (lv_sub hl [0, 1, 2, 3, 5] rfl)
        · have hf := g_f hc hf
          refine lv_iload_n hx hb dX8_taxOf_35 rfl (lv_at hl 2 rfl) ?_
          refine lv_aload_n hx hb dX8_taxOf_36 rfl (lv_at hl 0 rfl) ?_
          refine g_get hx hb hG hown hK hw inlX6 (ci := 5) rfl 0 1 (Nat.le_of_ble_eq_true rfl) rfl rfl wd_27_20 dX8_taxOf_37 ?_
          refine lv_iload hx hb dX8_taxOf_40 (lv_at hl 5 rfl) ?_
          obtain ⟨hi8, hf⟩ := gA_s hf
          refine g_iald hx hb hK hw 1 rfl hi8 dX8_taxOf_42 ?_
          refine lv_imul hx hb dX8_taxOf_43 ?_
          refine lv_iload_n hx hb dX8_taxOf_44 rfl (lv_at hl 3 rfl) ?_
          obtain ⟨hd9, hf⟩ := gD_s hf
          refine lv_idiv hx hb dX8_taxOf_45 hd9 ?_
          refine lv_goto (tgt := 50) hx hb dX8_taxOf_46 (by decide) ?_
          exact B50 (fX8_taxOf_b17 v_p0_families f_p0_seeds n) ih x1 x2 x3 x5 x4 ((x2 * (f_p0_seeds (Int32.toNatClampNeg x5))) / x3) _ _ _ hf hw (lv_sub hl [0, 1, 2, 3, 5] rfl)
  refine lv_aload_n hx hb dX8_taxOf_0 rfl (lv_at hl 0 rfl) ?_
  obtain ⟨r10, hc11, hf⟩ := gB_s hf
  refine g_ki0 (is := [0, 1]) hw hA (g_rV hx hb hml hG hown hK hw (is := [0, 1]) rfl (by decide) (mX6_allSeeds l E o_p0 a_p0 v_p0_families v_p0_wind v_p0_force v_p0_rain v_p0_lost v_p0_hour f_p0_seeds r10 hc11) wd_30_5 wd_23_9 wd_23_10 wd_2_20 wd_23_11 hX6_allSeeds g_allgood ⟨rfl, rfl⟩ ⟨Nat.le_of_ble_eq_true rfl, Nat.le_of_ble_eq_true rfl⟩ ⟨Nat.zero_le _, Nat.zero_le _⟩ (ci := 5) (q0 := 0) rfl rfl rfl rfl hl.1 rfl (Nat.le_of_ble_eq_true rfl) dX8_taxOf_1) rfl (fun H locs hw => ?_)
  refine lv_istore_n (lv' := [(3, .int r10), (0, .ref o_p0), (1, .int x1), (2, .int x2)]) hx hb dX8_taxOf_4 rfl hl (Nat.le_of_ble_eq_true rfl) rfl (fun ls hl => ?_)
  refine lv_iload_n hx hb dX8_taxOf_5 rfl (lv_at hl 0 rfl) ?_
  refine lv_if_gt (tgt := 11) hx hb dX8_taxOf_6 (by decide) (fun hc => ?_) (fun hc => ?_)
  · have hf := g_t hc hf
    refine lv_iload_n hx hb dX8_taxOf_11 rfl (lv_at hl 3 rfl) ?_
    refine lv_istore (lv' := [(4, .int x2), (3, .int r10), (0, .ref o_p0), (1, .int x1), (2, .int x2)]) hx hb dX8_taxOf_12 hl (Nat.le_of_ble_eq_true rfl) rfl (fun ls hl => ?_)
    refine lv_iconst (v := 0) hx hb dX8_taxOf_14 k_i0 ?_
    refine lv_istore (lv' := [(5, .int 0), (4, .int x2), (3, .int r10), (0, .ref o_p0), (1, .int x1), (2, .int x2)]) hx hb dX8_taxOf_15 hl (Nat.le_of_ble_eq_true rfl) rfl (fun ls hl => ?_)
    exact B17 1000 x1 x2 r10 x2 0 _ _ _ hf hw (lv_sub hl [3, 4, 5, 2, 1, 0] rfl)
  · have hf := g_f hc hf
    refine lv_iconst (v := 0) hx hb dX8_taxOf_9 k_i0 ?_
    exact hret1 0 _ _ _ _ hf hw dX8_taxOf_10
theorem hX9_note : yX9_note.cls = RX9 ∧ yX9_note.cls ≠ "java/lang/invoke/MethodHandle" ∧ yX9_note.cls ≠ "java/lang/invoke/VarHandle" ∧ (parseMethodDescriptor yX9_note.desc).map (fun d => d.parameters.length) = some 2 := by decide +kernel
set_option maxHeartbeats 4000000 in
set_option maxRecDepth 100000 in
theorem mX9_note (l : Launch) (E : gE) (o_t : Nat) (a_t : (Nat → Nat)) (v_t_count : Int32) (f_t_breaths : (Nat → Int32)) (f_t_flews : (Nat → Int32)) (x1 : Int32) (x2 : Int32) (z_t_count : Int32) (z_t_breaths : (Nat → Int32)) (z_t_flews : (Nat → Int32)) (hf : fX9_note v_t_count f_t_breaths f_t_flews x1 x2 = some (z_t_count, z_t_breaths, z_t_flews)) {sz : Nat} : gMv l yX9_note (gW yX9_note cX9_note 3 none) ({ frames := 0, cells := 0, slots := 0, locals := 0 } : Room) E [.ref o_t, .int x1, .int x2] (wX9_note E o_t a_t v_t_count f_t_breaths f_t_flews) sz (wX9_note E o_t a_t z_t_count z_t_breaths z_t_flews) := by
  refine g_openV (own := RX9) (by decide) rfl (Nat.le_of_ble_eq_true rfl) (fun p e s m args below meth cd Q A hx hb hml hown hG hK hA hret hw ls hl => ?_)
  have hl : lv_has ls 3 [(0, .ref o_t), (1, .int x1), (2, .int x2)] := hl
  have hret1 : ∀ (t : Int32 × (Nat → Int32) × (Nat → Int32)) (H : Heap) (locs : List Loc) (pc : Nat) (ls : Array Slot), some t = some (z_t_count, z_t_breaths, z_t_flews) → gS E A s.heap (wX9_note E o_t a_t t.1 t.2.1 t.2.2) H locs → decode cX9_note pc = .ok (.return_, 1) → W p l e ({ frames := 0, cells := 0, slots := 0, locals := 0 } : Room) s m args below meth cd H locs 0 0 Q (F0 m pc ls []) := by
    intro t H locs pc ls h hw hd
    obtain rfl : t = (z_t_count, z_t_breaths, z_t_flews) := Option.some.inj h
    exact hret H locs pc ls hw hd
  have B16 : ∀ (v_t_count : Int32) (f_t_breaths : (Nat → Int32)) (f_t_flews : (Nat → Int32)) (H : Heap) (locs : List Loc) (ls : Array Slot), fX9_note_b16 v_t_count f_t_breaths f_t_flews = some (z_t_count, z_t_breaths, z_t_flews) → gS E A s.heap (wX9_note E o_t a_t v_t_count f_t_breaths f_t_flews) H locs → lv_has ls 3 [] → W p l e ({ frames := 0, cells := 0, slots := 0, locals := 0 } : Room) s m args below meth cd H locs 0 0 Q (F0 m 16 ls []) := by
    intro  v_t_count f_t_breaths f_t_flews H locs ls hf hw hl
    exact hret1 (v_t_count, f_t_breaths, f_t_flews) _ _ _ _ hf hw dX9_note_16
  refine lv_aload_n hx hb dX9_note_0 rfl (lv_at hl 0 rfl) ?_
  refine g_get hx hb hG hown hK hw inlX9 (ci := 7) rfl 0 2 (Nat.le_of_ble_eq_true rfl) rfl rfl wd_3_22 dX9_note_1 ?_
  refine lv_if_lt (tgt := 16) hx hb dX9_note_4 (by decide) (fun hc => ?_) (fun hc => ?_)
  · have hf := g_t hc hf
    exact B16 v_t_count f_t_breaths f_t_flews _ _ _ hf hw (lv_sub hl [] rfl)
  · have hf := g_f hc hf
    refine lv_aload_n hx hb dX9_note_7 rfl (lv_at hl 0 rfl) ?_
    refine g_get hx hb hG hown hK hw inlX9 (ci := 7) rfl 0 2 (Nat.le_of_ble_eq_true rfl) rfl rfl wd_3_22 dX9_note_8 ?_
    refine lv_bipush (v := 8) hx hb dX9_note_11 k_b8 ?_
    refine lv_icmp_lt (tgt := 17) hx hb dX9_note_13 (by decide) (fun hc => ?_) (fun hc => ?_)
    · have hf := g_t hc hf
      refine lv_aload_n hx hb dX9_note_17 rfl (lv_at hl 0 rfl) ?_
      refine g_get hx hb hG hown hK hw inlX9 (ci := 7) rfl 0 0 (Nat.le_of_ble_eq_true rfl) rfl rfl wd_3_20 dX9_note_18 ?_
      refine lv_aload_n hx hb dX9_note_21 rfl (lv_at hl 0 rfl) ?_
      refine g_get hx hb hG hown hK hw inlX9 (ci := 7) rfl 0 2 (Nat.le_of_ble_eq_true rfl) rfl rfl wd_3_22 dX9_note_22 ?_
      refine lv_iload_n hx hb dX9_note_25 rfl (lv_at hl 1 rfl) ?_
      obtain ⟨hi1, hf⟩ := gA_s hf
      refine g_iast (ws' := (wX9_note E o_t a_t v_t_count (upd f_t_breaths (Int32.toNatClampNeg v_t_count) x1) f_t_flews)) hx hb hK hw 1 rfl hi1 rfl dX9_note_26 (fun H locs hw => ?_)
      refine lv_aload_n hx hb dX9_note_27 rfl (lv_at hl 0 rfl) ?_
      refine g_get hx hb hG hown hK hw inlX9 (ci := 7) rfl 0 1 (Nat.le_of_ble_eq_true rfl) rfl rfl wd_3_21 dX9_note_28 ?_
      refine lv_aload_n hx hb dX9_note_31 rfl (lv_at hl 0 rfl) ?_
      refine g_get hx hb hG hown hK hw inlX9 (ci := 7) rfl 0 2 (Nat.le_of_ble_eq_true rfl) rfl rfl wd_3_22 dX9_note_32 ?_
      refine lv_iload_n hx hb dX9_note_35 rfl (lv_at hl 2 rfl) ?_
      obtain ⟨hi2, hf⟩ := gA_s hf
      refine g_iast (ws' := (wX9_note E o_t a_t v_t_count (upd f_t_breaths (Int32.toNatClampNeg v_t_count) x1) (upd f_t_flews (Int32.toNatClampNeg v_t_count) x2))) hx hb hK hw 2 rfl hi2 rfl dX9_note_36 (fun H locs hw => ?_)
      refine lv_aload_n hx hb dX9_note_37 rfl (lv_at hl 0 rfl) ?_
      refine lv_dup hx hb dX9_note_38 rfl ?_
      refine g_get hx hb hG hown hK hw inlX9 (ci := 7) rfl 0 2 (Nat.le_of_ble_eq_true rfl) rfl rfl wd_3_22 dX9_note_39 ?_
      refine lv_iconst (v := 1) hx hb dX9_note_42 k_i1 ?_
      refine lv_iadd hx hb dX9_note_43 ?_
      refine g_put (ws' := (wX9_note E o_t a_t (v_t_count + 1) (upd f_t_breaths (Int32.toNatClampNeg v_t_count) x1) (upd f_t_flews (Int32.toNatClampNeg v_t_count) x2))) hx hb hG hown hK hw inlX9 tyX9_ok nmX9 (ci := 7) rfl 0 2 (Nat.le_of_ble_eq_true rfl) rfl wd_3_22 rfl rfl rfl (Nat.le_of_ble_eq_true rfl) rfl dX9_note_44 (fun H locs hw => ?_)
      exact hret1 ((v_t_count + 1), (upd f_t_breaths (Int32.toNatClampNeg v_t_count) x1), (upd f_t_flews (Int32.toNatClampNeg v_t_count) x2)) _ _ _ _ hf hw dX9_note_47
    · have hf := g_f hc hf
      exact B16 v_t_count f_t_breaths f_t_flews _ _ _ hf hw (lv_sub hl [] rfl)
