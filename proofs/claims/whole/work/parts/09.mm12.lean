theorem hX11_done : yX11_done.cls = RX11 ∧ yX11_done.cls ≠ "java/lang/invoke/MethodHandle" ∧ yX11_done.cls ≠ "java/lang/invoke/VarHandle" ∧ (parseMethodDescriptor yX11_done.desc).map (fun d => d.parameters.length) = some 0 := by decide +kernel
set_option maxHeartbeats 4000000 in
set_option maxRecDepth 100000 in
theorem mX11_done (l : Launch) (E : gE) (o_t : Nat) (a_t : (Nat → Nat)) (v_t_there : Int32) (v_t_wind : Int32) (v_t_force : Int32) (v_t_rains : Int32) (v_t_lost : Int32) (v_t_hours : Int32) (v_t_sights : Int32) (v_t_padMany : Int32) (v_t_acts : Int32) (v_t_blownMany : Int32) (v_t_badAct : Int32) (v_t_badWhy : Int32) (v_t_ruinAct : Int32) (v_t_ruinWho : Int32) (v_t_keptAt : Int32) (v_t_isWriting : Int32) (f_t_at : (Nat → Int32)) (f_t_stem : (Nat → Int32)) (f_t_lungs : (Nat → Int32)) (f_t_blown : (Nat → Int32)) (f_t_heap : (Nat → Int32)) (f_t_pad : (Nat → Int32)) (f_t_act : (Nat → Int32)) (f_t_who : (Nat → Int32)) (f_t_much : (Nat → Int32)) (f_t_had : (Nat → Int32)) (rv : Int32) (z_t_wind : Int32) (z_t_force : Int32) (z_t_rains : Int32) (z_t_lost : Int32) (z_t_hours : Int32) (z_t_padMany : Int32) (z_t_acts : Int32) (z_t_blownMany : Int32) (z_t_badAct : Int32) (z_t_badWhy : Int32) (z_t_ruinAct : Int32) (z_t_ruinWho : Int32) (z_t_stem : (Nat → Int32)) (z_t_blown : (Nat → Int32)) (z_t_heap : (Nat → Int32)) (z_t_act : (Nat → Int32)) (z_t_who : (Nat → Int32)) (z_t_much : (Nat → Int32)) (z_t_had : (Nat → Int32)) (hf : fX11_done v_t_there v_t_wind v_t_force v_t_rains v_t_lost v_t_hours v_t_padMany v_t_acts v_t_blownMany v_t_badAct v_t_badWhy v_t_ruinAct v_t_ruinWho f_t_at f_t_stem f_t_lungs f_t_blown f_t_heap f_t_pad f_t_act f_t_who f_t_much f_t_had = some (rv, z_t_wind, z_t_force, z_t_rains, z_t_lost, z_t_hours, z_t_padMany, z_t_acts, z_t_blownMany, z_t_badAct, z_t_badWhy, z_t_ruinAct, z_t_ruinWho, z_t_stem, z_t_blown, z_t_heap, z_t_act, z_t_who, z_t_much, z_t_had)) {sz : Nat} : gMi l yX11_done (gW yX11_done cX11_done 2 (some .int)) ({ frames := 9, cells := 0, slots := 0, locals := 204 } : Room) E [.ref o_t] (wX11_done E o_t a_t v_t_there v_t_wind v_t_force v_t_rains v_t_lost v_t_hours v_t_sights v_t_padMany v_t_acts v_t_blownMany v_t_badAct v_t_badWhy v_t_ruinAct v_t_ruinWho v_t_keptAt v_t_isWriting f_t_at f_t_stem f_t_lungs f_t_blown f_t_heap f_t_pad f_t_act f_t_who f_t_much f_t_had) sz rv (wX11_done E o_t a_t v_t_there z_t_wind z_t_force z_t_rains z_t_lost z_t_hours v_t_sights z_t_padMany z_t_acts z_t_blownMany z_t_badAct z_t_badWhy z_t_ruinAct z_t_ruinWho v_t_keptAt v_t_isWriting f_t_at z_t_stem f_t_lungs z_t_blown z_t_heap f_t_pad z_t_act z_t_who z_t_much z_t_had) := by
  refine g_openI (own := RX11) (by decide) rfl (Nat.le_of_ble_eq_true rfl) (fun p e s m args below meth cd Q A hx hb hml hown hG hK hA hret hw ls hl => ?_)
  have hl : lv_has ls 2 [(0, .ref o_t)] := hl
  have hret1 : ∀ (t : Int32 × Int32 × Int32 × Int32 × Int32 × Int32 × Int32 × Int32 × Int32 × Int32 × Int32 × Int32 × Int32 × (Nat → Int32) × (Nat → Int32) × (Nat → Int32) × (Nat → Int32) × (Nat → Int32) × (Nat → Int32) × (Nat → Int32)) (H : Heap) (locs : List Loc) (pc : Nat) (ls : Array Slot), some t = some (rv, z_t_wind, z_t_force, z_t_rains, z_t_lost, z_t_hours, z_t_padMany, z_t_acts, z_t_blownMany, z_t_badAct, z_t_badWhy, z_t_ruinAct, z_t_ruinWho, z_t_stem, z_t_blown, z_t_heap, z_t_act, z_t_who, z_t_much, z_t_had) → gS E A s.heap (wX11_done E o_t a_t v_t_there t.2.1 t.2.2.1 t.2.2.2.1 t.2.2.2.2.1 t.2.2.2.2.2.1 v_t_sights t.2.2.2.2.2.2.1 t.2.2.2.2.2.2.2.1 t.2.2.2.2.2.2.2.2.1 t.2.2.2.2.2.2.2.2.2.1 t.2.2.2.2.2.2.2.2.2.2.1 t.2.2.2.2.2.2.2.2.2.2.2.1 t.2.2.2.2.2.2.2.2.2.2.2.2.1 v_t_keptAt v_t_isWriting f_t_at t.2.2.2.2.2.2.2.2.2.2.2.2.2.1 f_t_lungs t.2.2.2.2.2.2.2.2.2.2.2.2.2.2.1 t.2.2.2.2.2.2.2.2.2.2.2.2.2.2.2.1 f_t_pad t.2.2.2.2.2.2.2.2.2.2.2.2.2.2.2.2.1 t.2.2.2.2.2.2.2.2.2.2.2.2.2.2.2.2.2.1 t.2.2.2.2.2.2.2.2.2.2.2.2.2.2.2.2.2.2.1 t.2.2.2.2.2.2.2.2.2.2.2.2.2.2.2.2.2.2.2) H locs → decode cX11_done pc = .ok (.ireturn, 1) → W p l e ({ frames := 9, cells := 0, slots := 0, locals := 204 } : Room) s m args below meth cd H locs 0 0 Q (F0 m pc ls [.int t.1]) := by
    intro t H locs pc ls h hw hd
    obtain rfl : t = (rv, z_t_wind, z_t_force, z_t_rains, z_t_lost, z_t_hours, z_t_padMany, z_t_acts, z_t_blownMany, z_t_badAct, z_t_badWhy, z_t_ruinAct, z_t_ruinWho, z_t_stem, z_t_blown, z_t_heap, z_t_act, z_t_who, z_t_much, z_t_had) := Option.some.inj h
    exact hret H locs pc ls hw hd
  refine lv_aload_n hx hb dX11_done_0 rfl (lv_at hl 0 rfl) ?_
  obtain ⟨⟨r1_0, r1_1, r1_2, r1_3, r1_4, r1_5, r1_6, r1_7, r1_8, r1_9, r1_10, r1_11, r1_12, r1_13, r1_14, r1_15, r1_16, r1_17, r1_18⟩, hc2, hf⟩ := gB_s hf
  refine g_ki (is := [0, 1, 2, 3, 4, 5, 6, 7, 8, 9, 10]) (isR := []) (nW := 11) (w1 := (wX11_refusal E o_t a_t v_t_there r1_1 r1_2 r1_3 r1_4 r1_5 v_t_sights v_t_padMany r1_6 r1_7 r1_8 r1_9 r1_10 r1_11 v_t_keptAt v_t_isWriting f_t_at r1_12 f_t_lungs r1_13 r1_14 f_t_pad r1_15 r1_16 r1_17 r1_18)) (ws' := (wX11_done E o_t a_t v_t_there r1_1 r1_2 r1_3 r1_4 r1_5 v_t_sights v_t_padMany r1_6 r1_7 r1_8 r1_9 r1_10 r1_11 v_t_keptAt v_t_isWriting f_t_at r1_12 f_t_lungs r1_13 r1_14 f_t_pad r1_15 r1_16 r1_17 r1_18)) hw hA (g_rV hx hb hml hG hown hK hw (is := [0, 1, 2, 3, 4, 5, 6, 7, 8, 9, 10]) rfl (by decide) (mX11_refusal l E o_t a_t v_t_there v_t_wind v_t_force v_t_rains v_t_lost v_t_hours v_t_sights v_t_padMany v_t_acts v_t_blownMany v_t_badAct v_t_badWhy v_t_ruinAct v_t_ruinWho v_t_keptAt v_t_isWriting f_t_at f_t_stem f_t_lungs f_t_blown f_t_heap f_t_pad f_t_act f_t_who f_t_much f_t_had r1_0 r1_1 r1_2 r1_3 r1_4 r1_5 r1_6 r1_7 r1_8 r1_9 r1_10 r1_11 r1_12 r1_13 r1_14 r1_15 r1_16 r1_17 r1_18 hc2) wd_19_4 wd_19_5 wd_19_6 wd_1_5 wd_19_7 hX11_refusal g_allgood ⟨rfl, rfl⟩ ⟨Nat.le_of_ble_eq_true rfl, Nat.le_of_ble_eq_true rfl⟩ ⟨Nat.zero_le _, Nat.zero_le _⟩ (ci := 9) (q0 := 0) rfl rfl rfl rfl hl.1 rfl (Nat.le_of_ble_eq_true rfl) dX11_done_1) rfl (g_had [o_t, (a_t 1), (a_t 2), (a_t 3), (a_t 4), (a_t 5), (a_t 14), (a_t 16), (a_t 17), (a_t 18), (a_t 21)] rfl rfl) rfl (trivial) rfl rfl (by decide) (fun H locs hw => ?_)
  refine lv_istore_n (lv' := [(1, .int r1_0), (0, .ref o_t)]) hx hb dX11_done_4 rfl hl (Nat.le_of_ble_eq_true rfl) rfl (fun ls hl => ?_)
  refine lv_iload_n hx hb dX11_done_5 rfl (lv_at hl 0 rfl) ?_
  refine lv_bipush (v := -6) hx hb dX11_done_6 k_bm6 ?_
  refine lv_icmp_eq (tgt := 17) hx hb dX11_done_8 (by decide) (fun hc => ?_) (fun hc => ?_)
  · have hf := g_t hc hf
    refine lv_aload_n hx hb dX11_done_17 rfl (lv_at hl 1 rfl) ?_
    refine lv_iconst (v := 0) hx hb dX11_done_18 k_i0 ?_
    refine g_put (ws' := (wX11_done E o_t a_t v_t_there r1_1 r1_2 r1_3 r1_4 r1_5 v_t_sights 0 r1_6 r1_7 r1_8 r1_9 r1_10 r1_11 v_t_keptAt v_t_isWriting f_t_at r1_12 f_t_lungs r1_13 r1_14 f_t_pad r1_15 r1_16 r1_17 r1_18)) hx hb hG hown hK hw inlX11 tyX11_ok nmX11 (ci := 9) rfl 0 15 (Nat.le_of_ble_eq_true rfl) rfl wd_13_2 rfl rfl rfl (Nat.le_of_ble_eq_true rfl) rfl dX11_done_19 (fun H locs hw => ?_)
    refine lv_aload_n hx hb dX11_done_22 rfl (lv_at hl 1 rfl) ?_
    refine g_get hx hb hG hown hK hw inlX11 (ci := 9) rfl 0 19 (Nat.le_of_ble_eq_true rfl) rfl rfl wd_14_3 dX11_done_23 ?_
    exact hret1 (r1_6, r1_1, r1_2, r1_3, r1_4, r1_5, 0, r1_6, r1_7, r1_8, r1_9, r1_10, r1_11, r1_12, r1_13, r1_14, r1_15, r1_16, r1_17, r1_18) _ _ _ _ hf hw dX11_done_26
  · have hf := g_f hc hf
    refine lv_aload_n hx hb dX11_done_11 rfl (lv_at hl 1 rfl) ?_
    refine lv_iload_n hx hb dX11_done_12 rfl (lv_at hl 0 rfl) ?_
    obtain ⟨⟨r3_0, r3_1, r3_2, r3_3, r3_4, r3_5, r3_6, r3_7, r3_8⟩, hc4, hf⟩ := gB_s hf
    refine g_ki (is := [0, 2, 4, 5, 10]) (isR := [1, 3, 6, 7, 8, 9]) (nW := 11) (w1 := (wX11_back E o_t a_t v_t_there r3_1 r3_2 r3_3 r3_4 r3_5 v_t_sights v_t_padMany r1_6 r1_7 r1_8 r1_9 r1_10 r1_11 v_t_keptAt v_t_isWriting r3_6 r3_7 r3_8 r1_18)) (ws' := (wX11_done E o_t a_t v_t_there r3_1 r3_2 r3_3 r3_4 r3_5 v_t_sights v_t_padMany r1_6 r1_7 r1_8 r1_9 r1_10 r1_11 v_t_keptAt v_t_isWriting f_t_at r3_6 f_t_lungs r3_7 r3_8 f_t_pad r1_15 r1_16 r1_17 r1_18)) hw hA (g_rV hx hb hml hG hown hK hw (is := [0, 2, 4, 5, 10]) rfl (by decide) (mX11_back l E o_t a_t v_t_there r1_1 r1_2 r1_3 r1_4 r1_5 v_t_sights v_t_padMany r1_6 r1_7 r1_8 r1_9 r1_10 r1_11 v_t_keptAt v_t_isWriting r1_12 r1_13 r1_14 r1_18 r1_0 r3_0 r3_1 r3_2 r3_3 r3_4 r3_5 r3_6 r3_7 r3_8 hc4) wd_22_0 wd_22_1 wd_22_2 wd_1_5 wd_22_3 hX11_back g_allgood ⟨rfl, rfl⟩ ⟨Nat.le_of_ble_eq_true rfl, Nat.le_of_ble_eq_true rfl⟩ ⟨Nat.zero_le _, Nat.zero_le _⟩ (ci := 9) (q0 := 0) rfl rfl rfl rfl hl.1 rfl (Nat.le_of_ble_eq_true rfl) dX11_done_13) rfl (g_had [o_t, (a_t 2), (a_t 4), (a_t 5), (a_t 21)] rfl rfl) rfl (⟨⟨_, rfl, rfl⟩, ⟨⟨_, rfl, rfl⟩, ⟨⟨_, rfl, rfl⟩, ⟨⟨_, rfl, rfl⟩, ⟨⟨_, rfl, rfl⟩, ⟨⟨_, rfl, rfl⟩, trivial⟩⟩⟩⟩⟩⟩) rfl rfl (by decide) (fun H locs hw => ?_)
    exact hret1 (r3_0, r3_1, r3_2, r3_3, r3_4, r3_5, v_t_padMany, r1_6, r1_7, r1_8, r1_9, r1_10, r1_11, r3_6, r3_7, r3_8, r1_15, r1_16, r1_17, r1_18) _ _ _ _ hf hw dX11_done_16
theorem hX11_paysBy : yX11_paysBy.cls = RX11 ∧ yX11_paysBy.cls ≠ "java/lang/invoke/MethodHandle" ∧ yX11_paysBy.cls ≠ "java/lang/invoke/VarHandle" ∧ (parseMethodDescriptor yX11_paysBy.desc).map (fun d => d.parameters.length) = some 2 := by decide +kernel
set_option maxHeartbeats 4000000 in
set_option maxRecDepth 100000 in
theorem mX11_paysBy (l : Launch) (E : gE) (o_t : Nat) (a_t : (Nat → Nat)) (v_t_there : Int32) (v_t_wind : Int32) (v_t_force : Int32) (v_t_rains : Int32) (v_t_lost : Int32) (v_t_hours : Int32) (v_t_sights : Int32) (v_t_padMany : Int32) (v_t_acts : Int32) (v_t_blownMany : Int32) (v_t_badAct : Int32) (v_t_badWhy : Int32) (v_t_ruinAct : Int32) (v_t_ruinWho : Int32) (v_t_keptAt : Int32) (v_t_isWriting : Int32) (x1 : Int32) (x2 : Int32) (rv : Int32) (hf : fX11_paysBy x1 x2 = some rv) {sz : Nat} : gMi l yX11_paysBy (gW yX11_paysBy cX11_paysBy 4 (some .int)) ({ frames := 2, cells := 0, slots := 0, locals := 49 } : Room) E [.ref o_t, .int x1, .int x2] (wX11_paysBy E o_t a_t v_t_there v_t_wind v_t_force v_t_rains v_t_lost v_t_hours v_t_sights v_t_padMany v_t_acts v_t_blownMany v_t_badAct v_t_badWhy v_t_ruinAct v_t_ruinWho v_t_keptAt v_t_isWriting) sz rv (wX11_paysBy E o_t a_t v_t_there v_t_wind v_t_force v_t_rains v_t_lost v_t_hours v_t_sights v_t_padMany v_t_acts v_t_blownMany v_t_badAct v_t_badWhy v_t_ruinAct v_t_ruinWho v_t_keptAt v_t_isWriting) := by
  refine g_openI (own := RX11) (by decide) rfl (Nat.le_of_ble_eq_true rfl) (fun p e s m args below meth cd Q A hx hb hml hown hG hK hA hret hw ls hl => ?_)
  have hl : lv_has ls 4 [(0, .ref o_t), (1, .int x1), (2, .int x2)] := hl
  have hret1 : ∀ (t : Int32) (H : Heap) (locs : List Loc) (pc : Nat) (ls : Array Slot), some t = some rv → gS E A s.heap (wX11_paysBy E o_t a_t v_t_there v_t_wind v_t_force v_t_rains v_t_lost v_t_hours v_t_sights v_t_padMany v_t_acts v_t_blownMany v_t_badAct v_t_badWhy v_t_ruinAct v_t_ruinWho v_t_keptAt v_t_isWriting) H locs → decode cX11_paysBy pc = .ok (.ireturn, 1) → W p l e ({ frames := 2, cells := 0, slots := 0, locals := 49 } : Room) s m args below meth cd H locs 0 0 Q (F0 m pc ls [.int t]) := by
    intro t H locs pc ls h hw hd
    obtain rfl : t = rv := Option.some.inj h
    exact hret H locs pc ls hw hd
  have B41 : ∀ (K2 : Int32 → Int32 → Int32 → Option (Int32)) (hK2 : ∀ (x1 : Int32) (x2 : Int32) (x3 : Int32) (H : Heap) (locs : List Loc) (ls : Array Slot), K2 x1 x2 x3 = some rv → gS E A s.heap (wX11_paysBy E o_t a_t v_t_there v_t_wind v_t_force v_t_rains v_t_lost v_t_hours v_t_sights v_t_padMany v_t_acts v_t_blownMany v_t_badAct v_t_badWhy v_t_ruinAct v_t_ruinWho v_t_keptAt v_t_isWriting) H locs → lv_has ls 4 [(1, .int x1), (2, .int x2), (3, .int x3)] → W p l e ({ frames := 2, cells := 0, slots := 0, locals := 49 } : Room) s m args below meth cd H locs 0 0 Q (F0 m 2 ls [])), ∀ (x1 : Int32) (x2 : Int32) (x3 : Int32) (H : Heap) (locs : List Loc) (ls : Array Slot), fX11_paysBy_b41 K2 x1 x2 x3 = some rv → gS E A s.heap (wX11_paysBy E o_t a_t v_t_there v_t_wind v_t_force v_t_rains v_t_lost v_t_hours v_t_sights v_t_padMany v_t_acts v_t_blownMany v_t_badAct v_t_badWhy v_t_ruinAct v_t_ruinWho v_t_keptAt v_t_isWriting) H locs → lv_has ls 4 [(1, .int x1), (2, .int x2), (3, .int x3)] → W p l e ({ frames := 2, cells := 0, slots := 0, locals := 49 } : Room) s m args below meth cd H locs 0 0 Q (F0 m 41 ls []) := by
    intro K2 hK2 x1 x2 x3 H locs ls hf hw hl
    refine lv_iinc (lv' := [(3, .int (x3 + 1)), (1, .int x1), (2, .int x2)]) hx hb dX11_paysBy_41 hl (k := 2) rfl (k_inc1 _) (Nat.le_of_ble_eq_true rfl) rfl (fun ls hl => ?_)
    refine lv_goto (tgt := 2) hx hb dX11_paysBy_44 (by decide) ?_
    exact hK2 x1 x2 (x3 + 1) _ _ _ hf hw (lv_sub hl [1, 2, 0] rfl)
  have B2 : ∀ n : Nat, ∀ (x1 : Int32) (x2 : Int32) (x3 : Int32) (H : Heap) (locs : List Loc) (ls : Array Slot), fX11_paysBy_b2 n x1 x2 x3 = some rv → gS E A s.heap (wX11_paysBy E o_t a_t v_t_there v_t_wind v_t_force v_t_rains v_t_lost v_t_hours v_t_sights v_t_padMany v_t_acts v_t_blownMany v_t_badAct v_t_badWhy v_t_ruinAct v_t_ruinWho v_t_keptAt v_t_isWriting) H locs → lv_has ls 4 [(1, .int x1), (2, .int x2), (3, .int x3)] → W p l e ({ frames := 2, cells := 0, slots := 0, locals := 49 } : Room) s m args below meth cd H locs 0 0 Q (F0 m 2 ls []) := by
    intro n
    induction n with
    | zero => intro x1 x2 x3 H locs ls hf hw hl; exact g_no hf
    | succ n ih =>
      intro x1 x2 x3 H locs ls hf hw hl
      refine lv_iload_n hx hb dX11_paysBy_2 rfl (lv_at hl 2 rfl) ?_
      refine lv_bipush (v := 40) hx hb dX11_paysBy_3 k_b40 ?_
      refine lv_icmp_ge (tgt := 47) hx hb dX11_paysBy_5 (by decide) (fun hc => ?_) (fun hc => ?_)
      · have hf := g_t hc hf
        refine lv_bipush (v := -6) hx hb dX11_paysBy_47 k_bm6 ?_
        exact hret1 (-6) _ _ _ _ hf hw dX11_paysBy_49
      · have hf := g_f hc hf
        refine lv_iload_n hx hb dX11_paysBy_8 rfl (lv_at hl 2 rfl) ?_
        refine lv_bipush (v := 10) hx hb dX11_paysBy_9 k_b10 ?_
        refine g_irem hx hb dX11_paysBy_11 (by decide) ?_
        refine lv_i2l hx hb dX11_paysBy_12 rfl ?_
        refine lv_lconst (v := 1) hx hb dX11_paysBy_13 k_l1 ?_
        refine lv_ldc2 hx hb hown (hG _ wd_8_6) dX11_paysBy_14 ?_
        obtain ⟨r1, hc2, hf⟩ := gB_s hf
        refine g_ki0 (is := []) hw hA (g_rS hx hb hml hG hown hK hw (is := []) rfl (by decide) (mX11_in l E (Int32.toInt64 (x3 % 10)) 1 5 r1 hc2) wd_8_10 wd_8_11 wd_1_5 wd_8_12 hX11_in g_allgood ⟨rfl, rfl⟩ ⟨Nat.le_of_ble_eq_true rfl, Nat.le_of_ble_eq_true rfl⟩ ⟨Nat.zero_le _, Nat.zero_le _⟩ rfl hl.1 rfl (Nat.le_of_ble_eq_true rfl) dX11_paysBy_17) rfl (fun H locs hw => ?_)
        refine lv_if_eq (tgt := 41) hx hb dX11_paysBy_20 (by decide) (fun hc => ?_) (fun hc => ?_)
        · have hf := g_t hc hf
          exact B41 (fX11_paysBy_b2 n) ih x1 x2 x3 _ _ _ hf hw (lv_sub hl [0, 1, 2] rfl)
        · have hf := g_f hc hf
          refine lv_iload_n hx hb dX11_paysBy_23 rfl (lv_at hl 0 rfl) ?_
          refine lv_iload_n hx hb dX11_paysBy_24 rfl (lv_at hl 2 rfl) ?_
          refine lv_bipush (v := 10) hx hb dX11_paysBy_25 k_b10 ?_
          refine lv_idiv hx hb dX11_paysBy_27 (by decide) ?_
          refine lv_iload_n hx hb dX11_paysBy_28 rfl (lv_at hl 2 rfl) ?_
          refine lv_bipush (v := 10) hx hb dX11_paysBy_29 k_b10 ?_
          refine g_irem hx hb dX11_paysBy_31 (by decide) ?_
          obtain ⟨r3, hc4, hf⟩ := gB_s hf
          refine g_ki0 (is := []) hw hA (g_rS hx hb hml hG hown hK hw (is := []) rfl (by decide) (mX11_onBy l E x1 (x3 / 10) (x3 % 10) r3 hc4) wd_20_20 wd_20_21 wd_1_5 wd_20_22 hX11_onBy g_allgood ⟨rfl, rfl⟩ ⟨Nat.le_of_ble_eq_true rfl, Nat.le_of_ble_eq_true rfl⟩ ⟨Nat.zero_le _, Nat.zero_le _⟩ rfl hl.1 rfl (Nat.le_of_ble_eq_true rfl) dX11_paysBy_32) rfl (fun H locs hw => ?_)
          refine lv_iload_n hx hb dX11_paysBy_35 rfl (lv_at hl 1 rfl) ?_
          refine lv_icmp_ne (tgt := 41) hx hb dX11_paysBy_36 (by decide) (fun hc => ?_) (fun hc => ?_)
          · have hf := g_f hc hf
            exact B41 (fX11_paysBy_b2 n) ih x1 x2 x3 _ _ _ hf hw (lv_sub hl [0, 1, 2] rfl)
          · have hf := g_t hc hf
            refine lv_iload_n hx hb dX11_paysBy_39 rfl (lv_at hl 2 rfl) ?_
            exact hret1 x3 _ _ _ _ hf hw dX11_paysBy_40
  refine lv_iconst (v := 0) hx hb dX11_paysBy_0 k_i0 ?_
  refine lv_istore_n (lv' := [(3, .int 0), (0, .ref o_t), (1, .int x1), (2, .int x2)]) hx hb dX11_paysBy_1 rfl hl (Nat.le_of_ble_eq_true rfl) rfl (fun ls hl => ?_)
  exact B2 1000 x1 x2 0 _ _ _ hf hw (lv_sub hl [2, 3, 0] rfl)
theorem hX11_pays : yX11_pays.cls = RX11 ∧ yX11_pays.cls ≠ "java/lang/invoke/MethodHandle" ∧ yX11_pays.cls ≠ "java/lang/invoke/VarHandle" ∧ (parseMethodDescriptor yX11_pays.desc).map (fun d => d.parameters.length) = some 2 := by decide +kernel
set_option maxHeartbeats 4000000 in
set_option maxRecDepth 100000 in
theorem mX11_pays (l : Launch) (E : gE) (o_t : Nat) (a_t : (Nat → Nat)) (v_t_there : Int32) (v_t_wind : Int32) (v_t_force : Int32) (v_t_rains : Int32) (v_t_lost : Int32) (v_t_hours : Int32) (v_t_sights : Int32) (v_t_padMany : Int32) (v_t_acts : Int32) (v_t_blownMany : Int32) (v_t_badAct : Int32) (v_t_badWhy : Int32) (v_t_ruinAct : Int32) (v_t_ruinWho : Int32) (v_t_keptAt : Int32) (v_t_isWriting : Int32) (f_t_at : (Nat → Int32)) (x1 : Int32) (x2 : Int32) (rv : Int32) (hf : fX11_pays v_t_there f_t_at x1 x2 = some rv) {sz : Nat} : gMi l yX11_pays (gW yX11_pays cX11_pays 3 (some .int)) ({ frames := 3, cells := 0, slots := 0, locals := 72 } : Room) E [.ref o_t, .int x1, .int x2] (wX11_pays E o_t a_t v_t_there v_t_wind v_t_force v_t_rains v_t_lost v_t_hours v_t_sights v_t_padMany v_t_acts v_t_blownMany v_t_badAct v_t_badWhy v_t_ruinAct v_t_ruinWho v_t_keptAt v_t_isWriting f_t_at) sz rv (wX11_pays E o_t a_t v_t_there v_t_wind v_t_force v_t_rains v_t_lost v_t_hours v_t_sights v_t_padMany v_t_acts v_t_blownMany v_t_badAct v_t_badWhy v_t_ruinAct v_t_ruinWho v_t_keptAt v_t_isWriting f_t_at) := by
  refine g_openI (own := RX11) (by decide) rfl (Nat.le_of_ble_eq_true rfl) (fun p e s m args below meth cd Q A hx hb hml hown hG hK hA hret hw ls hl => ?_)
  have hl : lv_has ls 3 [(0, .ref o_t), (1, .int x1), (2, .int x2)] := hl
  have hret1 : ∀ (t : Int32) (H : Heap) (locs : List Loc) (pc : Nat) (ls : Array Slot), some t = some rv → gS E A s.heap (wX11_pays E o_t a_t v_t_there v_t_wind v_t_force v_t_rains v_t_lost v_t_hours v_t_sights v_t_padMany v_t_acts v_t_blownMany v_t_badAct v_t_badWhy v_t_ruinAct v_t_ruinWho v_t_keptAt v_t_isWriting f_t_at) H locs → decode cX11_pays pc = .ok (.ireturn, 1) → W p l e ({ frames := 3, cells := 0, slots := 0, locals := 72 } : Room) s m args below meth cd H locs 0 0 Q (F0 m pc ls [.int t]) := by
    intro t H locs pc ls h hw hd
    obtain rfl : t = rv := Option.some.inj h
    exact hret H locs pc ls hw hd
  have B41 : ∀ (s0 : Int32) (H : Heap) (locs : List Loc) (ls : Array Slot), fX11_pays_b41 s0 = some rv → gS E A s.heap (wX11_pays E o_t a_t v_t_there v_t_wind v_t_force v_t_rains v_t_lost v_t_hours v_t_sights v_t_padMany v_t_acts v_t_blownMany v_t_badAct v_t_badWhy v_t_ruinAct v_t_ruinWho v_t_keptAt v_t_isWriting f_t_at) H locs → lv_has ls 3 [] → W p l e ({ frames := 3, cells := 0, slots := 0, locals := 72 } : Room) s m args below meth cd H locs 0 0 Q (F0 m 41 ls [.int s0]) := by
    intro  s0 H locs ls hf hw hl
    exact hret1 s0 _ _ _ _ hf hw dX11_pays_41
  have B40 : ∀ (H : Heap) (locs : List Loc) (ls : Array Slot), fX11_pays_b40 = some rv → gS E A s.heap (wX11_pays E o_t a_t v_t_there v_t_wind v_t_force v_t_rains v_t_lost v_t_hours v_t_sights v_t_padMany v_t_acts v_t_blownMany v_t_badAct v_t_badWhy v_t_ruinAct v_t_ruinWho v_t_keptAt v_t_isWriting f_t_at) H locs → lv_has ls 3 [] → W p l e ({ frames := 3, cells := 0, slots := 0, locals := 72 } : Room) s m args below meth cd H locs 0 0 Q (F0 m 40 ls []) := by
    intro   H locs ls hf hw hl
    refine lv_iconst (v := -1) hx hb dX11_pays_40 k_im1 ?_
    exact B41 (-1) _ _ _ hf hw (lv_sub hl [] rfl)
  refine lv_aload_n hx hb dX11_pays_0 rfl (lv_at hl 0 rfl) ?_
  refine lv_iload_n hx hb dX11_pays_1 rfl (lv_at hl 1 rfl) ?_
  obtain ⟨r1, hc2, hf⟩ := gB_s hf
  refine g_ki0 (is := [0]) hw hA (g_rV hx hb hml hG hown hK hw (is := [0]) rfl (by decide) (mX11_isFamily l E o_t a_t v_t_there v_t_wind v_t_force v_t_rains v_t_lost v_t_hours v_t_sights v_t_padMany v_t_acts v_t_blownMany v_t_badAct v_t_badWhy v_t_ruinAct v_t_ruinWho v_t_keptAt v_t_isWriting x1 r1 hc2) wd_8_21 wd_8_22 wd_8_23 wd_1_5 wd_9_0 hX11_isFamily g_allgood ⟨rfl, rfl⟩ ⟨Nat.le_of_ble_eq_true rfl, Nat.le_of_ble_eq_true rfl⟩ ⟨Nat.zero_le _, Nat.zero_le _⟩ (ci := 9) (q0 := 0) rfl rfl rfl rfl hl.1 rfl (Nat.le_of_ble_eq_true rfl) dX11_pays_2) rfl (fun H locs hw => ?_)
  refine lv_if_eq (tgt := 40) hx hb dX11_pays_5 (by decide) (fun hc => ?_) (fun hc => ?_)
  · have hf := g_t hc hf
    exact B40 _ _ _ hf hw (lv_sub hl [] rfl)
  · have hf := g_f hc hf
    refine lv_aload_n hx hb dX11_pays_8 rfl (lv_at hl 0 rfl) ?_
    refine lv_iload_n hx hb dX11_pays_9 rfl (lv_at hl 2 rfl) ?_
    obtain ⟨r3, hc4, hf⟩ := gB_s hf
    refine g_ki0 (is := [0]) hw hA (g_rV hx hb hml hG hown hK hw (is := [0]) rfl (by decide) (mX11_isFamily l E o_t a_t v_t_there v_t_wind v_t_force v_t_rains v_t_lost v_t_hours v_t_sights v_t_padMany v_t_acts v_t_blownMany v_t_badAct v_t_badWhy v_t_ruinAct v_t_ruinWho v_t_keptAt v_t_isWriting x2 r3 hc4) wd_8_21 wd_8_22 wd_8_23 wd_1_5 wd_9_0 hX11_isFamily g_allgood ⟨rfl, rfl⟩ ⟨Nat.le_of_ble_eq_true rfl, Nat.le_of_ble_eq_true rfl⟩ ⟨Nat.zero_le _, Nat.zero_le _⟩ (ci := 9) (q0 := 0) rfl rfl rfl rfl hl.1 rfl (Nat.le_of_ble_eq_true rfl) dX11_pays_10) rfl (fun H locs hw => ?_)
    refine lv_if_eq (tgt := 40) hx hb dX11_pays_13 (by decide) (fun hc => ?_) (fun hc => ?_)
    · have hf := g_t hc hf
      exact B40 _ _ _ hf hw (lv_sub hl [] rfl)
    · have hf := g_f hc hf
      refine lv_iload_n hx hb dX11_pays_16 rfl (lv_at hl 1 rfl) ?_
      refine lv_iload_n hx hb dX11_pays_17 rfl (lv_at hl 2 rfl) ?_
      refine lv_icmp_eq (tgt := 40) hx hb dX11_pays_18 (by decide) (fun hc => ?_) (fun hc => ?_)
      · have hf := g_t hc hf
        exact B40 _ _ _ hf hw (lv_sub hl [] rfl)
      · have hf := g_f hc hf
        refine lv_aload_n hx hb dX11_pays_21 rfl (lv_at hl 0 rfl) ?_
        refine lv_aload_n hx hb dX11_pays_22 rfl (lv_at hl 0 rfl) ?_
        refine g_get hx hb hG hown hK hw inlX11 (ci := 9) rfl 0 1 (Nat.le_of_ble_eq_true rfl) rfl rfl wd_5_21 dX11_pays_23 ?_
        refine lv_iload_n hx hb dX11_pays_26 rfl (lv_at hl 1 rfl) ?_
        obtain ⟨hi5, hf⟩ := gA_s hf
        refine g_iald hx hb hK hw 1 rfl hi5 dX11_pays_27 ?_
        refine lv_aload_n hx hb dX11_pays_28 rfl (lv_at hl 0 rfl) ?_
        refine g_get hx hb hG hown hK hw inlX11 (ci := 9) rfl 0 1 (Nat.le_of_ble_eq_true rfl) rfl rfl wd_5_21 dX11_pays_29 ?_
        refine lv_iload_n hx hb dX11_pays_32 rfl (lv_at hl 2 rfl) ?_
        obtain ⟨hi6, hf⟩ := gA_s hf
        refine g_iald hx hb hK hw 1 rfl hi6 dX11_pays_33 ?_
        obtain ⟨r7, hc8, hf⟩ := gB_s hf
        refine g_ki0 (is := [0]) hw hA (g_rV hx hb hml hG hown hK hw (is := [0]) rfl (by decide) (mX11_paysBy l E o_t a_t v_t_there v_t_wind v_t_force v_t_rains v_t_lost v_t_hours v_t_sights v_t_padMany v_t_acts v_t_blownMany v_t_badAct v_t_badWhy v_t_ruinAct v_t_ruinWho v_t_keptAt v_t_isWriting (f_t_at (Int32.toNatClampNeg x1)) (f_t_at (Int32.toNatClampNeg x2)) r7 hc8) wd_25_19 wd_25_20 wd_25_21 wd_1_5 wd_25_22 hX11_paysBy g_allgood ⟨rfl, rfl⟩ ⟨Nat.le_of_ble_eq_true rfl, Nat.le_of_ble_eq_true rfl⟩ ⟨Nat.zero_le _, Nat.zero_le _⟩ (ci := 9) (q0 := 0) rfl rfl rfl rfl hl.1 rfl (Nat.le_of_ble_eq_true rfl) dX11_pays_34) rfl (fun H locs hw => ?_)
        refine lv_goto (tgt := 41) hx hb dX11_pays_37 (by decide) ?_
        exact B41 r7 _ _ _ hf hw (lv_sub hl [] rfl)
theorem hX11_canPay : yX11_canPay.cls = RX11 ∧ yX11_canPay.cls ≠ "java/lang/invoke/MethodHandle" ∧ yX11_canPay.cls ≠ "java/lang/invoke/VarHandle" ∧ (parseMethodDescriptor yX11_canPay.desc).map (fun d => d.parameters.length) = some 2 := by decide +kernel
set_option maxHeartbeats 4000000 in
set_option maxRecDepth 100000 in
theorem mX11_canPay (l : Launch) (E : gE) (o_t : Nat) (a_t : (Nat → Nat)) (v_t_there : Int32) (v_t_wind : Int32) (v_t_force : Int32) (v_t_rains : Int32) (v_t_lost : Int32) (v_t_hours : Int32) (v_t_sights : Int32) (v_t_padMany : Int32) (v_t_acts : Int32) (v_t_blownMany : Int32) (v_t_badAct : Int32) (v_t_badWhy : Int32) (v_t_ruinAct : Int32) (v_t_ruinWho : Int32) (v_t_keptAt : Int32) (v_t_isWriting : Int32) (f_t_at : (Nat → Int32)) (x1 : Int32) (x2 : Int32) (rv : Int32) (hf : fX11_canPay v_t_there f_t_at x1 x2 = some rv) {sz : Nat} : gMi l yX11_canPay (gW yX11_canPay cX11_canPay 3 (some .boolean)) ({ frames := 3, cells := 0, slots := 0, locals := 72 } : Room) E [.ref o_t, .int x1, .int x2] (wX11_canPay E o_t a_t v_t_there v_t_wind v_t_force v_t_rains v_t_lost v_t_hours v_t_sights v_t_padMany v_t_acts v_t_blownMany v_t_badAct v_t_badWhy v_t_ruinAct v_t_ruinWho v_t_keptAt v_t_isWriting f_t_at) sz rv (wX11_canPay E o_t a_t v_t_there v_t_wind v_t_force v_t_rains v_t_lost v_t_hours v_t_sights v_t_padMany v_t_acts v_t_blownMany v_t_badAct v_t_badWhy v_t_ruinAct v_t_ruinWho v_t_keptAt v_t_isWriting f_t_at) := by
  refine g_openZ (own := RX11) (by decide) rfl (Nat.le_of_ble_eq_true rfl) (fun p e s m args below meth cd Q A hx hb hml hown hG hK hA hret hw ls hl => ?_)
  have hl : lv_has ls 3 [(0, .ref o_t), (1, .int x1), (2, .int x2)] := hl
  have hret1 : ∀ (t : Int32) (H : Heap) (locs : List Loc) (pc : Nat) (ls : Array Slot), some t = some rv → t &&& 1 = t → gS E A s.heap (wX11_canPay E o_t a_t v_t_there v_t_wind v_t_force v_t_rains v_t_lost v_t_hours v_t_sights v_t_padMany v_t_acts v_t_blownMany v_t_badAct v_t_badWhy v_t_ruinAct v_t_ruinWho v_t_keptAt v_t_isWriting f_t_at) H locs → decode cX11_canPay pc = .ok (.ireturn, 1) → W p l e ({ frames := 3, cells := 0, slots := 0, locals := 72 } : Room) s m args below meth cd H locs 0 0 Q (F0 m pc ls [.int t]) := by
    intro t H locs pc ls h hz hw hd
    obtain rfl : t = rv := Option.some.inj h
    exact hret H locs pc ls hz hw hd
  have B45 : ∀ (s0 : Int32) (H : Heap) (locs : List Loc) (ls : Array Slot), fX11_canPay_b45 s0 = some rv → gS E A s.heap (wX11_canPay E o_t a_t v_t_there v_t_wind v_t_force v_t_rains v_t_lost v_t_hours v_t_sights v_t_padMany v_t_acts v_t_blownMany v_t_badAct v_t_badWhy v_t_ruinAct v_t_ruinWho v_t_keptAt v_t_isWriting f_t_at) H locs → lv_has ls 3 [] → W p l e ({ frames := 3, cells := 0, slots := 0, locals := 72 } : Room) s m args below meth cd H locs 0 0 Q (F0 m 45 ls [.int s0]) := by
    intro  s0 H locs ls hf hw hl
    obtain ⟨hz1, hf⟩ := gZ_s hf
    exact hret1 s0 _ _ _ _ hf hz1 hw dX11_canPay_45
  have B44 : ∀ (H : Heap) (locs : List Loc) (ls : Array Slot), fX11_canPay_b44 = some rv → gS E A s.heap (wX11_canPay E o_t a_t v_t_there v_t_wind v_t_force v_t_rains v_t_lost v_t_hours v_t_sights v_t_padMany v_t_acts v_t_blownMany v_t_badAct v_t_badWhy v_t_ruinAct v_t_ruinWho v_t_keptAt v_t_isWriting f_t_at) H locs → lv_has ls 3 [] → W p l e ({ frames := 3, cells := 0, slots := 0, locals := 72 } : Room) s m args below meth cd H locs 0 0 Q (F0 m 44 ls []) := by
    intro   H locs ls hf hw hl
    refine lv_iconst (v := 0) hx hb dX11_canPay_44 k_i0 ?_
    exact B45 0 _ _ _ hf hw (lv_sub hl [] rfl)
  refine lv_aload_n hx hb dX11_canPay_0 rfl (lv_at hl 0 rfl) ?_
  refine lv_iload_n hx hb dX11_canPay_1 rfl (lv_at hl 1 rfl) ?_
  obtain ⟨r2, hc3, hf⟩ := gB_s hf
  refine g_ki0 (is := [0]) hw hA (g_rV hx hb hml hG hown hK hw (is := [0]) rfl (by decide) (mX11_isFamily l E o_t a_t v_t_there v_t_wind v_t_force v_t_rains v_t_lost v_t_hours v_t_sights v_t_padMany v_t_acts v_t_blownMany v_t_badAct v_t_badWhy v_t_ruinAct v_t_ruinWho v_t_keptAt v_t_isWriting x1 r2 hc3) wd_8_21 wd_8_22 wd_8_23 wd_1_5 wd_9_0 hX11_isFamily g_allgood ⟨rfl, rfl⟩ ⟨Nat.le_of_ble_eq_true rfl, Nat.le_of_ble_eq_true rfl⟩ ⟨Nat.zero_le _, Nat.zero_le _⟩ (ci := 9) (q0 := 0) rfl rfl rfl rfl hl.1 rfl (Nat.le_of_ble_eq_true rfl) dX11_canPay_2) rfl (fun H locs hw => ?_)
  refine lv_if_eq (tgt := 44) hx hb dX11_canPay_5 (by decide) (fun hc => ?_) (fun hc => ?_)
  · have hf := g_t hc hf
    exact B44 _ _ _ hf hw (lv_sub hl [] rfl)
  · have hf := g_f hc hf
    refine lv_aload_n hx hb dX11_canPay_8 rfl (lv_at hl 0 rfl) ?_
    refine lv_iload_n hx hb dX11_canPay_9 rfl (lv_at hl 2 rfl) ?_
    obtain ⟨r4, hc5, hf⟩ := gB_s hf
    refine g_ki0 (is := [0]) hw hA (g_rV hx hb hml hG hown hK hw (is := [0]) rfl (by decide) (mX11_isFamily l E o_t a_t v_t_there v_t_wind v_t_force v_t_rains v_t_lost v_t_hours v_t_sights v_t_padMany v_t_acts v_t_blownMany v_t_badAct v_t_badWhy v_t_ruinAct v_t_ruinWho v_t_keptAt v_t_isWriting x2 r4 hc5) wd_8_21 wd_8_22 wd_8_23 wd_1_5 wd_9_0 hX11_isFamily g_allgood ⟨rfl, rfl⟩ ⟨Nat.le_of_ble_eq_true rfl, Nat.le_of_ble_eq_true rfl⟩ ⟨Nat.zero_le _, Nat.zero_le _⟩ (ci := 9) (q0 := 0) rfl rfl rfl rfl hl.1 rfl (Nat.le_of_ble_eq_true rfl) dX11_canPay_10) rfl (fun H locs hw => ?_)
    refine lv_if_eq (tgt := 44) hx hb dX11_canPay_13 (by decide) (fun hc => ?_) (fun hc => ?_)
    · have hf := g_t hc hf
      exact B44 _ _ _ hf hw (lv_sub hl [] rfl)
    · have hf := g_f hc hf
      refine lv_iload_n hx hb dX11_canPay_16 rfl (lv_at hl 1 rfl) ?_
      refine lv_iload_n hx hb dX11_canPay_17 rfl (lv_at hl 2 rfl) ?_
      refine lv_icmp_eq (tgt := 44) hx hb dX11_canPay_18 (by decide) (fun hc => ?_) (fun hc => ?_)
      · have hf := g_t hc hf
        exact B44 _ _ _ hf hw (lv_sub hl [] rfl)
      · have hf := g_f hc hf
        refine lv_aload_n hx hb dX11_canPay_21 rfl (lv_at hl 0 rfl) ?_
        refine lv_aload_n hx hb dX11_canPay_22 rfl (lv_at hl 0 rfl) ?_
        refine g_get hx hb hG hown hK hw inlX11 (ci := 9) rfl 0 1 (Nat.le_of_ble_eq_true rfl) rfl rfl wd_5_21 dX11_canPay_23 ?_
        refine lv_iload_n hx hb dX11_canPay_26 rfl (lv_at hl 1 rfl) ?_
        obtain ⟨hi6, hf⟩ := gA_s hf
        refine g_iald hx hb hK hw 1 rfl hi6 dX11_canPay_27 ?_
        refine lv_aload_n hx hb dX11_canPay_28 rfl (lv_at hl 0 rfl) ?_
        refine g_get hx hb hG hown hK hw inlX11 (ci := 9) rfl 0 1 (Nat.le_of_ble_eq_true rfl) rfl rfl wd_5_21 dX11_canPay_29 ?_
        refine lv_iload_n hx hb dX11_canPay_32 rfl (lv_at hl 2 rfl) ?_
        obtain ⟨hi7, hf⟩ := gA_s hf
        refine g_iald hx hb hK hw 1 rfl hi7 dX11_canPay_33 ?_
        obtain ⟨r8, hc9, hf⟩ := gB_s hf
        refine g_ki0 (is := [0]) hw hA (g_rV hx hb hml hG hown hK hw (is := [0]) rfl (by decide) (mX11_paysBy l E o_t a_t v_t_there v_t_wind v_t_force v_t_rains v_t_lost v_t_hours v_t_sights v_t_padMany v_t_acts v_t_blownMany v_t_badAct v_t_badWhy v_t_ruinAct v_t_ruinWho v_t_keptAt v_t_isWriting (f_t_at (Int32.toNatClampNeg x1)) (f_t_at (Int32.toNatClampNeg x2)) r8 hc9) wd_25_19 wd_25_20 wd_25_21 wd_1_5 wd_25_22 hX11_paysBy g_allgood ⟨rfl, rfl⟩ ⟨Nat.le_of_ble_eq_true rfl, Nat.le_of_ble_eq_true rfl⟩ ⟨Nat.zero_le _, Nat.zero_le _⟩ (ci := 9) (q0 := 0) rfl rfl rfl rfl hl.1 rfl (Nat.le_of_ble_eq_true rfl) dX11_canPay_34) rfl (fun H locs hw => ?_)
        refine lv_if_lt (tgt := 44) hx hb dX11_canPay_37 (by decide) (fun hc => ?_) (fun hc => ?_)
        · have hf := g_t hc hf
          exact B44 _ _ _ hf hw (lv_sub hl [] rfl)
        · have hf := g_f hc hf
          refine lv_iconst (v := 1) hx hb dX11_canPay_40 k_i1 ?_
          refine lv_goto (tgt := 45) hx hb dX11_canPay_41 (by decide) ?_
          exact B45 1 _ _ _ hf hw (lv_sub hl [] rfl)
theorem hX11_findOff : yX11_findOff.cls = RX11 ∧ yX11_findOff.cls ≠ "java/lang/invoke/MethodHandle" ∧ yX11_findOff.cls ≠ "java/lang/invoke/VarHandle" ∧ (parseMethodDescriptor yX11_findOff.desc).map (fun d => d.parameters.length) = some 1 := by decide +kernel
set_option maxHeartbeats 4000000 in
set_option maxRecDepth 100000 in
theorem mX11_findOff (l : Launch) (E : gE) (o_t : Nat) (a_t : (Nat → Nat)) (v_t_there : Int32) (v_t_wind : Int32) (v_t_force : Int32) (v_t_rains : Int32) (v_t_lost : Int32) (v_t_hours : Int32) (v_t_sights : Int32) (v_t_padMany : Int32) (v_t_acts : Int32) (v_t_blownMany : Int32) (v_t_badAct : Int32) (v_t_badWhy : Int32) (v_t_ruinAct : Int32) (v_t_ruinWho : Int32) (v_t_keptAt : Int32) (v_t_isWriting : Int32) (f_t_at : (Nat → Int32)) (f_t_off : (Nat → Int32)) (x1 : Int32) (z_t_off : (Nat → Int32)) (hf : fX11_findOff v_t_there f_t_at f_t_off x1 = some z_t_off) {sz : Nat} : gMv l yX11_findOff (gW yX11_findOff cX11_findOff 5 none) ({ frames := 4, cells := 0, slots := 0, locals := 94 } : Room) E [.ref o_t, .int x1] (wX11_findOff E o_t a_t v_t_there v_t_wind v_t_force v_t_rains v_t_lost v_t_hours v_t_sights v_t_padMany v_t_acts v_t_blownMany v_t_badAct v_t_badWhy v_t_ruinAct v_t_ruinWho v_t_keptAt v_t_isWriting f_t_at f_t_off) sz (wX11_findOff E o_t a_t v_t_there v_t_wind v_t_force v_t_rains v_t_lost v_t_hours v_t_sights v_t_padMany v_t_acts v_t_blownMany v_t_badAct v_t_badWhy v_t_ruinAct v_t_ruinWho v_t_keptAt v_t_isWriting f_t_at z_t_off) := by
  refine g_openV (own := RX11) (by decide) rfl (Nat.le_of_ble_eq_true rfl) (fun p e s m args below meth cd Q A hx hb hml hown hG hK hA hret hw ls hl => ?_)
  have hl : lv_has ls 5 [(0, .ref o_t), (1, .int x1)] := hl
  have hret1 : ∀ (t : (Nat → Int32)) (H : Heap) (locs : List Loc) (pc : Nat) (ls : Array Slot), some t = some z_t_off → gS E A s.heap (wX11_findOff E o_t a_t v_t_there v_t_wind v_t_force v_t_rains v_t_lost v_t_hours v_t_sights v_t_padMany v_t_acts v_t_blownMany v_t_badAct v_t_badWhy v_t_ruinAct v_t_ruinWho v_t_keptAt v_t_isWriting f_t_at t) H locs → decode cX11_findOff pc = .ok (.return_, 1) → W p l e ({ frames := 4, cells := 0, slots := 0, locals := 94 } : Room) s m args below meth cd H locs 0 0 Q (F0 m pc ls []) := by
    intro t H locs pc ls h hw hd
    obtain rfl : t = z_t_off := Option.some.inj h
    exact hret H locs pc ls hw hd
  have B24 : ∀ (K2 : (Nat → Int32) → Int32 → Int32 → Option ((Nat → Int32))) (hK2 : ∀ (f_t_off : (Nat → Int32)) (x1 : Int32) (x2 : Int32) (H : Heap) (locs : List Loc) (ls : Array Slot), K2 f_t_off x1 x2 = some z_t_off → gS E A s.heap (wX11_findOff E o_t a_t v_t_there v_t_wind v_t_force v_t_rains v_t_lost v_t_hours v_t_sights v_t_padMany v_t_acts v_t_blownMany v_t_badAct v_t_badWhy v_t_ruinAct v_t_ruinWho v_t_keptAt v_t_isWriting f_t_at f_t_off) H locs → lv_has ls 5 [(0, .ref o_t), (1, .int x1), (2, .int x2)] → W p l e ({ frames := 4, cells := 0, slots := 0, locals := 94 } : Room) s m args below meth cd H locs 0 0 Q (F0 m 2 ls [])), ∀ (f_t_off : (Nat → Int32)) (x1 : Int32) (x2 : Int32) (s1 : Int32) (s2 : Int32) (H : Heap) (locs : List Loc) (ls : Array Slot), fX11_findOff_b24 K2 v_t_there f_t_at f_t_off x1 x2 s1 s2 = some z_t_off → gS E A s.heap (wX11_findOff E o_t a_t v_t_there v_t_wind v_t_force v_t_rains v_t_lost v_t_hours v_t_sights v_t_padMany v_t_acts v_t_blownMany v_t_badAct v_t_badWhy v_t_ruinAct v_t_ruinWho v_t_keptAt v_t_isWriting f_t_at f_t_off) H locs → lv_has ls 5 [(0, .ref o_t), (1, .int x1), (2, .int x2)] → W p l e ({ frames := 4, cells := 0, slots := 0, locals := 94 } : Room) s m args below meth cd H locs 0 0 Q (F0 m 24 ls [.int s2, .int s1, .ref (a_t 26)]) := by
    intro K2 hK2 f_t_off x1 x2 s1 s2 H locs ls hf hw hl
    obtain ⟨hi1, hf⟩ := gA_s hf
    refine g_iast (ws' := (wX11_findOff E o_t a_t v_t_there v_t_wind v_t_force v_t_rains v_t_lost v_t_hours v_t_sights v_t_padMany v_t_acts v_t_blownMany v_t_badAct v_t_badWhy v_t_ruinAct v_t_ruinWho v_t_keptAt v_t_isWriting f_t_at (upd f_t_off (Int32.toNatClampNeg s1) s2))) hx hb hK hw 2 rfl hi1 rfl dX11_findOff_24 (fun H locs hw => ?_)
    refine lv_iinc (lv' := [(2, .int (x2 + 1)), (0, .ref o_t), (1, .int x1)]) hx hb dX11_findOff_25 hl (k := 2) rfl (k_inc1 _) (Nat.le_of_ble_eq_true rfl) rfl (fun ls hl => ?_)
    refine lv_goto (tgt := 2) hx hb dX11_findOff_28 (by decide) ?_
    exact hK2 (upd f_t_off (Int32.toNatClampNeg s1) s2) x1 (x2 + 1) _ _ _ hf hw (lv_sub hl [1, 2, 0] rfl)
  have B104 : ∀ (K50 : (Nat → Int32) → Int32 → Int32 → Int32 → Option ((Nat → Int32))) (hK50 : ∀ (f_t_off : (Nat → Int32)) (x2 : Int32) (x3 : Int32) (x4 : Int32) (H : Heap) (locs : List Loc) (ls : Array Slot), K50 f_t_off x2 x3 x4 = some z_t_off → gS E A s.heap (wX11_findOff E o_t a_t v_t_there v_t_wind v_t_force v_t_rains v_t_lost v_t_hours v_t_sights v_t_padMany v_t_acts v_t_blownMany v_t_badAct v_t_badWhy v_t_ruinAct v_t_ruinWho v_t_keptAt v_t_isWriting f_t_at f_t_off) H locs → lv_has ls 5 [(0, .ref o_t), (2, .int x2), (3, .int x3), (4, .int x4)] → W p l e ({ frames := 4, cells := 0, slots := 0, locals := 94 } : Room) s m args below meth cd H locs 0 0 Q (F0 m 50 ls [])), ∀ (f_t_off : (Nat → Int32)) (x2 : Int32) (x3 : Int32) (x4 : Int32) (s1 : Int32) (s2 : Int32) (H : Heap) (locs : List Loc) (ls : Array Slot), fX11_findOff_b104 K50 v_t_there f_t_at f_t_off x2 x3 x4 s1 s2 = some z_t_off → gS E A s.heap (wX11_findOff E o_t a_t v_t_there v_t_wind v_t_force v_t_rains v_t_lost v_t_hours v_t_sights v_t_padMany v_t_acts v_t_blownMany v_t_badAct v_t_badWhy v_t_ruinAct v_t_ruinWho v_t_keptAt v_t_isWriting f_t_at f_t_off) H locs → lv_has ls 5 [(0, .ref o_t), (2, .int x2), (3, .int x3), (4, .int x4)] → W p l e ({ frames := 4, cells := 0, slots := 0, locals := 94 } : Room) s m args below meth cd H locs 0 0 Q (F0 m 104 ls [.int s2, .int s1, .ref (a_t 26)]) := by
    intro K50 hK50 f_t_off x2 x3 x4 s1 s2 H locs ls hf hw hl
    obtain ⟨hi2, hf⟩ := gA_s hf
    refine g_iast (ws' := (wX11_findOff E o_t a_t v_t_there v_t_wind v_t_force v_t_rains v_t_lost v_t_hours v_t_sights v_t_padMany v_t_acts v_t_blownMany v_t_badAct v_t_badWhy v_t_ruinAct v_t_ruinWho v_t_keptAt v_t_isWriting f_t_at (upd f_t_off (Int32.toNatClampNeg s1) s2))) hx hb hK hw 2 rfl hi2 rfl dX11_findOff_104 (fun H locs hw => ?_)
    refine lv_iinc (lv' := [(4, .int (x4 + 1)), (0, .ref o_t), (2, .int x2), (3, .int x3)]) hx hb dX11_findOff_105 hl (k := 3) rfl (k_inc1 _) (Nat.le_of_ble_eq_true rfl) rfl (fun ls hl => ?_)
    refine lv_goto (tgt := 50) hx hb dX11_findOff_108 (by decide) ?_
    exact hK50 (upd f_t_off (Int32.toNatClampNeg s1) s2) x2 x3 (x4 + 1) _ _ _ hf hw (lv_sub hl [1, 2, 3, 0] rfl)
  have B98 : ∀ (K50 : (Nat → Int32) → Int32 → Int32 → Int32 → Option ((Nat → Int32))) (hK50 : ∀ (f_t_off : (Nat → Int32)) (x2 : Int32) (x3 : Int32) (x4 : Int32) (H : Heap) (locs : List Loc) (ls : Array Slot), K50 f_t_off x2 x3 x4 = some z_t_off → gS E A s.heap (wX11_findOff E o_t a_t v_t_there v_t_wind v_t_force v_t_rains v_t_lost v_t_hours v_t_sights v_t_padMany v_t_acts v_t_blownMany v_t_badAct v_t_badWhy v_t_ruinAct v_t_ruinWho v_t_keptAt v_t_isWriting f_t_at f_t_off) H locs → lv_has ls 5 [(0, .ref o_t), (2, .int x2), (3, .int x3), (4, .int x4)] → W p l e ({ frames := 4, cells := 0, slots := 0, locals := 94 } : Room) s m args below meth cd H locs 0 0 Q (F0 m 50 ls [])), ∀ (f_t_off : (Nat → Int32)) (x2 : Int32) (x3 : Int32) (x4 : Int32) (s1 : Int32) (H : Heap) (locs : List Loc) (ls : Array Slot), fX11_findOff_b98 K50 v_t_there f_t_at f_t_off x2 x3 x4 s1 = some z_t_off → gS E A s.heap (wX11_findOff E o_t a_t v_t_there v_t_wind v_t_force v_t_rains v_t_lost v_t_hours v_t_sights v_t_padMany v_t_acts v_t_blownMany v_t_badAct v_t_badWhy v_t_ruinAct v_t_ruinWho v_t_keptAt v_t_isWriting f_t_at f_t_off) H locs → lv_has ls 5 [(0, .ref o_t), (2, .int x2), (3, .int x3), (4, .int x4)] → W p l e ({ frames := 4, cells := 0, slots := 0, locals := 94 } : Room) s m args below meth cd H locs 0 0 Q (F0 m 98 ls [.int s1, .ref (a_t 26)]) := by
    intro K50 hK50 f_t_off x2 x3 x4 s1 H locs ls hf hw hl
    refine lv_aload_n hx hb dX11_findOff_98 rfl (lv_at hl 0 rfl) ?_
    refine g_get hx hb hG hown hK hw inlX11 (ci := 9) rfl 0 26 (Nat.le_of_ble_eq_true rfl) rfl rfl wd_6_9 dX11_findOff_99 ?_
    refine lv_iload_n hx hb dX11_findOff_102 rfl (lv_at hl 2 rfl) ?_
    obtain ⟨hi3, hf⟩ := gA_s hf
    refine g_iald hx hb hK hw 2 rfl hi3 dX11_findOff_103 ?_
    exact B104 K50 hK50 f_t_off x2 x3 x4 s1 (f_t_off (Int32.toNatClampNeg x3)) _ _ _ hf hw (lv_sub hl [0, 1, 2, 3] rfl)
  have B50 : ∀ (K41 : (Nat → Int32) → Int32 → Int32 → Option ((Nat → Int32))) (hK41 : ∀ (f_t_off : (Nat → Int32)) (x2 : Int32) (x3 : Int32) (H : Heap) (locs : List Loc) (ls : Array Slot), K41 f_t_off x2 x3 = some z_t_off → gS E A s.heap (wX11_findOff E o_t a_t v_t_there v_t_wind v_t_force v_t_rains v_t_lost v_t_hours v_t_sights v_t_padMany v_t_acts v_t_blownMany v_t_badAct v_t_badWhy v_t_ruinAct v_t_ruinWho v_t_keptAt v_t_isWriting f_t_at f_t_off) H locs → lv_has ls 5 [(0, .ref o_t), (2, .int x2), (3, .int x3)] → W p l e ({ frames := 4, cells := 0, slots := 0, locals := 94 } : Room) s m args below meth cd H locs 0 0 Q (F0 m 41 ls [])), ∀ n : Nat, ∀ (f_t_off : (Nat → Int32)) (x2 : Int32) (x3 : Int32) (x4 : Int32) (H : Heap) (locs : List Loc) (ls : Array Slot), fX11_findOff_b50 K41 v_t_there f_t_at n f_t_off x2 x3 x4 = some z_t_off → gS E A s.heap (wX11_findOff E o_t a_t v_t_there v_t_wind v_t_force v_t_rains v_t_lost v_t_hours v_t_sights v_t_padMany v_t_acts v_t_blownMany v_t_badAct v_t_badWhy v_t_ruinAct v_t_ruinWho v_t_keptAt v_t_isWriting f_t_at f_t_off) H locs → lv_has ls 5 [(0, .ref o_t), (2, .int x2), (3, .int x3), (4, .int x4)] → W p l e ({ frames := 4, cells := 0, slots := 0, locals := 94 } : Room) s m args below meth cd H locs 0 0 Q (F0 m 50 ls []) := by
    intro K41 hK41
    intro n
    induction n with
    | zero => intro f_t_off x2 x3 x4 H locs ls hf hw hl; exact g_no hf
    | succ n ih =>
      intro f_t_off x2 x3 x4 H locs ls hf hw hl
      refine lv_iload hx hb dX11_findOff_50 (lv_at hl 3 rfl) ?_
      refine lv_bipush (v := 6) hx hb dX11_findOff_52 k_b6 ?_
      refine lv_icmp_ge (tgt := 111) hx hb dX11_findOff_54 (by decide) (fun hc => ?_) (fun hc => ?_)
      · have hf := g_t hc hf
        refine lv_iinc (lv' := [(3, .int (x3 + 1)), (0, .ref o_t), (2, .int x2), (4, .int x4)]) hx hb dX11_findOff_111 hl (k := 2) rfl (k_inc1 _) (Nat.le_of_ble_eq_true rfl) rfl (fun ls hl => ?_)
        refine lv_goto (tgt := 41) hx hb dX11_findOff_114 (by decide) ?_
        exact hK41 f_t_off x2 (x3 + 1) _ _ _ hf hw (lv_sub hl [1, 2, 0] rfl)
      · have hf := g_f hc hf
        refine lv_aload_n hx hb dX11_findOff_57 rfl (lv_at hl 0 rfl) ?_
        refine g_get hx hb hG hown hK hw inlX11 (ci := 9) rfl 0 26 (Nat.le_of_ble_eq_true rfl) rfl rfl wd_6_9 dX11_findOff_58 ?_
        refine lv_iload_n hx hb dX11_findOff_61 rfl (lv_at hl 2 rfl) ?_
        refine lv_aload_n hx hb dX11_findOff_62 rfl (lv_at hl 0 rfl) ?_
        refine g_get hx hb hG hown hK hw inlX11 (ci := 9) rfl 0 26 (Nat.le_of_ble_eq_true rfl) rfl rfl wd_6_9 dX11_findOff_63 ?_
        refine lv_iload_n hx hb dX11_findOff_66 rfl (lv_at hl 2 rfl) ?_
        obtain ⟨hi4, hf⟩ := gA_s hf
        refine g_iald hx hb hK hw 2 rfl hi4 dX11_findOff_67 ?_
        refine lv_if_ge (tgt := 98) hx hb dX11_findOff_68 (by decide) (fun hc => ?_) (fun hc => ?_)
        · have hf := g_t hc hf
          exact B98 (fX11_findOff_b50 K41 v_t_there f_t_at n) ih f_t_off x2 x3 x4 x3 _ _ _ hf hw (lv_sub hl [0, 1, 2, 3] rfl)
        · have hf := g_f hc hf
          refine lv_aload_n hx hb dX11_findOff_71 rfl (lv_at hl 0 rfl) ?_
          refine g_get hx hb hG hown hK hw inlX11 (ci := 9) rfl 0 26 (Nat.le_of_ble_eq_true rfl) rfl rfl wd_6_9 dX11_findOff_72 ?_
          refine lv_iload hx hb dX11_findOff_75 (lv_at hl 3 rfl) ?_
          obtain ⟨hi5, hf⟩ := gA_s hf
          refine g_iald hx hb hK hw 2 rfl hi5 dX11_findOff_77 ?_
          refine lv_iload_n hx hb dX11_findOff_78 rfl (lv_at hl 1 rfl) ?_
          refine lv_icmp_ne (tgt := 98) hx hb dX11_findOff_79 (by decide) (fun hc => ?_) (fun hc => ?_)
          · have hf := g_f hc hf
            exact B98 (fX11_findOff_b50 K41 v_t_there f_t_at n) ih f_t_off x2 x3 x4 x3 _ _ _ hf hw (lv_sub hl [0, 1, 2, 3] rfl)
          · have hf := g_t hc hf
            refine lv_aload_n hx hb dX11_findOff_82 rfl (lv_at hl 0 rfl) ?_
            refine lv_iload_n hx hb dX11_findOff_83 rfl (lv_at hl 2 rfl) ?_
            refine lv_iload hx hb dX11_findOff_84 (lv_at hl 3 rfl) ?_
            obtain ⟨r6, hc7, hf⟩ := gB_s hf
            refine g_ki0 (is := [0, 1]) hw hA (g_rV hx hb hml hG hown hK hw (is := [0, 1]) rfl (by decide) (mX11_canPay l E o_t a_t v_t_there v_t_wind v_t_force v_t_rains v_t_lost v_t_hours v_t_sights v_t_padMany v_t_acts v_t_blownMany v_t_badAct v_t_badWhy v_t_ruinAct v_t_ruinWho v_t_keptAt v_t_isWriting f_t_at x3 x4 r6 hc7) wd_27_2 wd_27_3 wd_27_4 wd_1_5 wd_27_5 hX11_canPay g_allgood ⟨rfl, rfl⟩ ⟨Nat.le_of_ble_eq_true rfl, Nat.le_of_ble_eq_true rfl⟩ ⟨Nat.zero_le _, Nat.zero_le _⟩ (ci := 9) (q0 := 0) rfl rfl rfl rfl hl.1 rfl (Nat.le_of_ble_eq_true rfl) dX11_findOff_86) rfl (fun H locs hw => ?_)
            refine lv_if_eq (tgt := 98) hx hb dX11_findOff_89 (by decide) (fun hc => ?_) (fun hc => ?_)
            · have hf := g_t hc hf
              exact B98 (fX11_findOff_b50 K41 v_t_there f_t_at n) ih f_t_off x2 x3 x4 x3 _ _ _ hf hw (lv_sub hl [0, 1, 2, 3] rfl)
            · have hf := g_f hc hf
              refine lv_iload_n hx hb dX11_findOff_92 rfl (lv_at hl 1 rfl) ?_
              refine lv_iconst (v := 1) hx hb dX11_findOff_93 k_i1 ?_
              refine lv_iadd hx hb dX11_findOff_94 ?_
              refine lv_goto (tgt := 104) hx hb dX11_findOff_95 (by decide) ?_
              exact B104 (fX11_findOff_b50 K41 v_t_there f_t_at n) ih f_t_off x2 x3 x4 x3 (x2 + 1) _ _ _ hf hw (lv_sub hl [0, 1, 2, 3] rfl)
  have B41 : ∀ (K33 : (Nat → Int32) → Int32 → Option ((Nat → Int32))) (hK33 : ∀ (f_t_off : (Nat → Int32)) (x2 : Int32) (H : Heap) (locs : List Loc) (ls : Array Slot), K33 f_t_off x2 = some z_t_off → gS E A s.heap (wX11_findOff E o_t a_t v_t_there v_t_wind v_t_force v_t_rains v_t_lost v_t_hours v_t_sights v_t_padMany v_t_acts v_t_blownMany v_t_badAct v_t_badWhy v_t_ruinAct v_t_ruinWho v_t_keptAt v_t_isWriting f_t_at f_t_off) H locs → lv_has ls 5 [(0, .ref o_t), (2, .int x2)] → W p l e ({ frames := 4, cells := 0, slots := 0, locals := 94 } : Room) s m args below meth cd H locs 0 0 Q (F0 m 33 ls [])), ∀ n : Nat, ∀ (f_t_off : (Nat → Int32)) (x2 : Int32) (x3 : Int32) (H : Heap) (locs : List Loc) (ls : Array Slot), fX11_findOff_b41 K33 v_t_there f_t_at n f_t_off x2 x3 = some z_t_off → gS E A s.heap (wX11_findOff E o_t a_t v_t_there v_t_wind v_t_force v_t_rains v_t_lost v_t_hours v_t_sights v_t_padMany v_t_acts v_t_blownMany v_t_badAct v_t_badWhy v_t_ruinAct v_t_ruinWho v_t_keptAt v_t_isWriting f_t_at f_t_off) H locs → lv_has ls 5 [(0, .ref o_t), (2, .int x2), (3, .int x3)] → W p l e ({ frames := 4, cells := 0, slots := 0, locals := 94 } : Room) s m args below meth cd H locs 0 0 Q (F0 m 41 ls []) := by
    intro K33 hK33
    intro n
    induction n with
    | zero => intro f_t_off x2 x3 H locs ls hf hw hl; exact g_no hf
    | succ n ih =>
      intro f_t_off x2 x3 H locs ls hf hw hl
      refine lv_iload_n hx hb dX11_findOff_41 rfl (lv_at hl 2 rfl) ?_
      refine lv_bipush (v := 6) hx hb dX11_findOff_42 k_b6 ?_
      refine lv_icmp_ge (tgt := 117) hx hb dX11_findOff_44 (by decide) (fun hc => ?_) (fun hc => ?_)
      · have hf := g_t hc hf
        refine lv_iinc (lv' := [(2, .int (x2 + 1)), (0, .ref o_t), (3, .int x3)]) hx hb dX11_findOff_117 hl (k := 1) rfl (k_inc1 _) (Nat.le_of_ble_eq_true rfl) rfl (fun ls hl => ?_)
        refine lv_goto (tgt := 33) hx hb dX11_findOff_120 (by decide) ?_
        exact hK33 f_t_off (x2 + 1) _ _ _ hf hw (lv_sub hl [1, 0] rfl)
      · have hf := g_f hc hf
        refine lv_iconst (v := 0) hx hb dX11_findOff_47 k_i0 ?_
        refine lv_istore (lv' := [(4, .int 0), (0, .ref o_t), (2, .int x2), (3, .int x3)]) hx hb dX11_findOff_48 hl (Nat.le_of_ble_eq_true rfl) rfl (fun ls hl => ?_)
        exact B50 (fX11_findOff_b41 K33 v_t_there f_t_at n) ih 1000 f_t_off x2 x3 0 _ _ _ hf hw (lv_sub hl [1, 2, 3, 0] rfl)
  have B33 : ∀ n : Nat, ∀ (f_t_off : (Nat → Int32)) (x2 : Int32) (H : Heap) (locs : List Loc) (ls : Array Slot), fX11_findOff_b33 v_t_there f_t_at n f_t_off x2 = some z_t_off → gS E A s.heap (wX11_findOff E o_t a_t v_t_there v_t_wind v_t_force v_t_rains v_t_lost v_t_hours v_t_sights v_t_padMany v_t_acts v_t_blownMany v_t_badAct v_t_badWhy v_t_ruinAct v_t_ruinWho v_t_keptAt v_t_isWriting f_t_at f_t_off) H locs → lv_has ls 5 [(0, .ref o_t), (2, .int x2)] → W p l e ({ frames := 4, cells := 0, slots := 0, locals := 94 } : Room) s m args below meth cd H locs 0 0 Q (F0 m 33 ls []) := by
    intro n
    induction n with
    | zero => intro f_t_off x2 H locs ls hf hw hl; exact g_no hf
    | succ n ih =>
      intro f_t_off x2 H locs ls hf hw hl
      refine lv_iload_n hx hb dX11_findOff_33 rfl (lv_at hl 1 rfl) ?_
      refine lv_bipush (v := 6) hx hb dX11_findOff_34 k_b6 ?_
      refine lv_icmp_ge (tgt := 123) hx hb dX11_findOff_36 (by decide) (fun hc => ?_) (fun hc => ?_)
      · have hf := g_t hc hf
        exact hret1 f_t_off _ _ _ _ hf hw dX11_findOff_123
      · have hf := g_f hc hf
        refine lv_iconst (v := 0) hx hb dX11_findOff_39 k_i0 ?_
        refine lv_istore_n (lv' := [(3, .int 0), (0, .ref o_t), (2, .int x2)]) hx hb dX11_findOff_40 rfl hl (Nat.le_of_ble_eq_true rfl) rfl (fun ls hl => ?_)
        exact B41 (fX11_findOff_b33 v_t_there f_t_at n) ih 1000 f_t_off x2 0 _ _ _ hf hw (lv_sub hl [1, 2, 0] rfl)
  have B2 : ∀ n : Nat, ∀ (f_t_off : (Nat → Int32)) (x1 : Int32) (x2 : Int32) (H : Heap) (locs : List Loc) (ls : Array Slot), fX11_findOff_b2 v_t_there f_t_at n f_t_off x1 x2 = some z_t_off → gS E A s.heap (wX11_findOff E o_t a_t v_t_there v_t_wind v_t_force v_t_rains v_t_lost v_t_hours v_t_sights v_t_padMany v_t_acts v_t_blownMany v_t_badAct v_t_badWhy v_t_ruinAct v_t_ruinWho v_t_keptAt v_t_isWriting f_t_at f_t_off) H locs → lv_has ls 5 [(0, .ref o_t), (1, .int x1), (2, .int x2)] → W p l e ({ frames := 4, cells := 0, slots := 0, locals := 94 } : Room) s m args below meth cd H locs 0 0 Q (F0 m 2 ls []) := by
    intro n
    induction n with
    | zero => intro f_t_off x1 x2 H locs ls hf hw hl; exact g_no hf
    | succ n ih =>
      intro f_t_off x1 x2 H locs ls hf hw hl
      refine lv_iload_n hx hb dX11_findOff_2 rfl (lv_at hl 2 rfl) ?_
      refine lv_bipush (v := 6) hx hb dX11_findOff_3 k_b6 ?_
      refine lv_icmp_ge (tgt := 31) hx hb dX11_findOff_5 (by decide) (fun hc => ?_) (fun hc => ?_)
      · have hf := g_t hc hf
        refine lv_iconst (v := 0) hx hb dX11_findOff_31 k_i0 ?_
        refine lv_istore_n (lv' := [(2, .int 0), (0, .ref o_t), (1, .int x1)]) hx hb dX11_findOff_32 rfl hl (Nat.le_of_ble_eq_true rfl) rfl (fun ls hl => ?_)
        exact B33 1000 f_t_off 0 _ _ _ hf hw (lv_sub hl [1, 0] rfl)
      · have hf := g_f hc hf
        refine lv_aload_n hx hb dX11_findOff_8 rfl (lv_at hl 0 rfl) ?_
        refine g_get hx hb hG hown hK hw inlX11 (ci := 9) rfl 0 26 (Nat.le_of_ble_eq_true rfl) rfl rfl wd_6_9 dX11_findOff_9 ?_
        refine lv_iload_n hx hb dX11_findOff_12 rfl (lv_at hl 2 rfl) ?_
        refine lv_iload_n hx hb dX11_findOff_13 rfl (lv_at hl 2 rfl) ?_
        refine lv_iload_n hx hb dX11_findOff_14 rfl (lv_at hl 1 rfl) ?_
        refine lv_icmp_ne (tgt := 22) hx hb dX11_findOff_15 (by decide) (fun hc => ?_) (fun hc => ?_)
        · have hf := g_f hc hf
          refine lv_bipush (v := -6) hx hb dX11_findOff_22 k_bm6 ?_
          exact B24 (fX11_findOff_b2 v_t_there f_t_at n) ih f_t_off x1 x2 x2 (-6) _ _ _ hf hw (lv_sub hl [0, 1, 2] rfl)
        · have hf := g_t hc hf
          refine lv_iconst (v := 0) hx hb dX11_findOff_18 k_i0 ?_
          refine lv_goto (tgt := 24) hx hb dX11_findOff_19 (by decide) ?_
          exact B24 (fX11_findOff_b2 v_t_there f_t_at n) ih f_t_off x1 x2 x2 0 _ _ _ hf hw (lv_sub hl [0, 1, 2] rfl)
  refine lv_iconst (v := 0) hx hb dX11_findOff_0 k_i0 ?_
  refine lv_istore_n (lv' := [(2, .int 0), (0, .ref o_t), (1, .int x1)]) hx hb dX11_findOff_1 rfl hl (Nat.le_of_ble_eq_true rfl) rfl (fun ls hl => ?_)
  exact B2 1000 f_t_off x1 0 _ _ _ hf hw (lv_sub hl [1, 2, 0] rfl)
theorem hX11_over : yX11_over.cls = RX11 ∧ yX11_over.cls ≠ "java/lang/invoke/MethodHandle" ∧ yX11_over.cls ≠ "java/lang/invoke/VarHandle" ∧ (parseMethodDescriptor yX11_over.desc).map (fun d => d.parameters.length) = some 3 := by decide +kernel
set_option maxHeartbeats 4000000 in
set_option maxRecDepth 100000 in
theorem mX11_over (l : Launch) (E : gE) (o_t : Nat) (a_t : (Nat → Nat)) (v_t_there : Int32) (v_t_wind : Int32) (v_t_force : Int32) (v_t_rains : Int32) (v_t_lost : Int32) (v_t_hours : Int32) (v_t_sights : Int32) (v_t_padMany : Int32) (v_t_acts : Int32) (v_t_blownMany : Int32) (v_t_badAct : Int32) (v_t_badWhy : Int32) (v_t_ruinAct : Int32) (v_t_ruinWho : Int32) (v_t_keptAt : Int32) (v_t_isWriting : Int32) (f_t_at : (Nat → Int32)) (f_t_off : (Nat → Int32)) (x1 : Int32) (x2 : Int32) (x3 : Int32) (rv : Int32) (z_t_off : (Nat → Int32)) (hf : fX11_over v_t_there f_t_at f_t_off x1 x2 x3 = some (rv, z_t_off)) {sz : Nat} : gMi l yX11_over (gW yX11_over cX11_over 6 (some .int)) ({ frames := 5, cells := 0, slots := 0, locals := 118 } : Room) E [.ref o_t, .int x1, .int x2, .int x3] (wX11_over E o_t a_t v_t_there v_t_wind v_t_force v_t_rains v_t_lost v_t_hours v_t_sights v_t_padMany v_t_acts v_t_blownMany v_t_badAct v_t_badWhy v_t_ruinAct v_t_ruinWho v_t_keptAt v_t_isWriting f_t_at f_t_off) sz rv (wX11_over E o_t a_t v_t_there v_t_wind v_t_force v_t_rains v_t_lost v_t_hours v_t_sights v_t_padMany v_t_acts v_t_blownMany v_t_badAct v_t_badWhy v_t_ruinAct v_t_ruinWho v_t_keptAt v_t_isWriting f_t_at z_t_off) := by
  refine g_openI (own := RX11) (by decide) rfl (Nat.le_of_ble_eq_true rfl) (fun p e s m args below meth cd Q A hx hb hml hown hG hK hA hret hw ls hl => ?_)
  have hl : lv_has ls 6 [(0, .ref o_t), (1, .int x1), (2, .int x2), (3, .int x3)] := hl
  have hret1 : ∀ (t : Int32 × (Nat → Int32)) (H : Heap) (locs : List Loc) (pc : Nat) (ls : Array Slot), some t = some (rv, z_t_off) → gS E A s.heap (wX11_over E o_t a_t v_t_there v_t_wind v_t_force v_t_rains v_t_lost v_t_hours v_t_sights v_t_padMany v_t_acts v_t_blownMany v_t_badAct v_t_badWhy v_t_ruinAct v_t_ruinWho v_t_keptAt v_t_isWriting f_t_at t.2) H locs → decode cX11_over pc = .ok (.ireturn, 1) → W p l e ({ frames := 5, cells := 0, slots := 0, locals := 118 } : Room) s m args below meth cd H locs 0 0 Q (F0 m pc ls [.int t.1]) := by
    intro t H locs pc ls h hw hd
    obtain rfl : t = (rv, z_t_off) := Option.some.inj h
    exact hret H locs pc ls hw hd
  have B21 : ∀ (f_t_off : (Nat → Int32)) (H : Heap) (locs : List Loc) (ls : Array Slot), fX11_over_b21 f_t_off = some (rv, z_t_off) → gS E A s.heap (wX11_over E o_t a_t v_t_there v_t_wind v_t_force v_t_rains v_t_lost v_t_hours v_t_sights v_t_padMany v_t_acts v_t_blownMany v_t_badAct v_t_badWhy v_t_ruinAct v_t_ruinWho v_t_keptAt v_t_isWriting f_t_at f_t_off) H locs → lv_has ls 6 [] → W p l e ({ frames := 5, cells := 0, slots := 0, locals := 118 } : Room) s m args below meth cd H locs 0 0 Q (F0 m 21 ls []) := by
    intro  f_t_off H locs ls hf hw hl
    refine lv_iconst (v := -1) hx hb dX11_over_21 k_im1 ?_
    exact hret1 ((-1), f_t_off) _ _ _ _ hf hw dX11_over_22
  have B54 : ∀ (f_t_off : (Nat → Int32)) (x1 : Int32) (H : Heap) (locs : List Loc) (ls : Array Slot), fX11_over_b54 f_t_off x1 = some (rv, z_t_off) → gS E A s.heap (wX11_over E o_t a_t v_t_there v_t_wind v_t_force v_t_rains v_t_lost v_t_hours v_t_sights v_t_padMany v_t_acts v_t_blownMany v_t_badAct v_t_badWhy v_t_ruinAct v_t_ruinWho v_t_keptAt v_t_isWriting f_t_at f_t_off) H locs → lv_has ls 6 [(0, .ref o_t), (1, .int x1)] → W p l e ({ frames := 5, cells := 0, slots := 0, locals := 118 } : Room) s m args below meth cd H locs 0 0 Q (F0 m 54 ls []) := by
    intro  f_t_off x1 H locs ls hf hw hl
    refine lv_aload_n hx hb dX11_over_54 rfl (lv_at hl 0 rfl) ?_
    refine g_get hx hb hG hown hK hw inlX11 (ci := 9) rfl 0 26 (Nat.le_of_ble_eq_true rfl) rfl rfl wd_6_9 dX11_over_55 ?_
    refine lv_iload_n hx hb dX11_over_58 rfl (lv_at hl 1 rfl) ?_
    obtain ⟨hi1, hf⟩ := gA_s hf
    refine g_iald hx hb hK hw 2 rfl hi1 dX11_over_59 ?_
    exact hret1 ((f_t_off (Int32.toNatClampNeg x1)), f_t_off) _ _ _ _ hf hw dX11_over_60
  have B108 : ∀ (K68 : (Nat → Int32) → Int32 → Int32 → Int32 → Option (Int32 × (Nat → Int32))) (hK68 : ∀ (f_t_off : (Nat → Int32)) (x1 : Int32) (x4 : Int32) (x5 : Int32) (H : Heap) (locs : List Loc) (ls : Array Slot), K68 f_t_off x1 x4 x5 = some (rv, z_t_off) → gS E A s.heap (wX11_over E o_t a_t v_t_there v_t_wind v_t_force v_t_rains v_t_lost v_t_hours v_t_sights v_t_padMany v_t_acts v_t_blownMany v_t_badAct v_t_badWhy v_t_ruinAct v_t_ruinWho v_t_keptAt v_t_isWriting f_t_at f_t_off) H locs → lv_has ls 6 [(0, .ref o_t), (1, .int x1), (4, .int x4), (5, .int x5)] → W p l e ({ frames := 5, cells := 0, slots := 0, locals := 118 } : Room) s m args below meth cd H locs 0 0 Q (F0 m 68 ls [])), ∀ (f_t_off : (Nat → Int32)) (x1 : Int32) (x5 : Int32) (s0 : Int32) (H : Heap) (locs : List Loc) (ls : Array Slot), fX11_over_b108 K68 v_t_there f_t_at f_t_off x1 x5 s0 = some (rv, z_t_off) → gS E A s.heap (wX11_over E o_t a_t v_t_there v_t_wind v_t_force v_t_rains v_t_lost v_t_hours v_t_sights v_t_padMany v_t_acts v_t_blownMany v_t_badAct v_t_badWhy v_t_ruinAct v_t_ruinWho v_t_keptAt v_t_isWriting f_t_at f_t_off) H locs → lv_has ls 6 [(0, .ref o_t), (1, .int x1), (5, .int x5)] → W p l e ({ frames := 5, cells := 0, slots := 0, locals := 118 } : Room) s m args below meth cd H locs 0 0 Q (F0 m 108 ls [.int s0]) := by
    intro K68 hK68 f_t_off x1 x5 s0 H locs ls hf hw hl
    refine lv_istore (lv' := [(4, .int s0), (0, .ref o_t), (1, .int x1), (5, .int x5)]) hx hb dX11_over_108 hl (Nat.le_of_ble_eq_true rfl) rfl (fun ls hl => ?_)
    refine lv_iinc (lv' := [(5, .int (x5 + (-1))), (4, .int s0), (0, .ref o_t), (1, .int x1)]) hx hb dX11_over_110 hl (k := 3) rfl (k_incm1 _) (Nat.le_of_ble_eq_true rfl) rfl (fun ls hl => ?_)
    refine lv_goto (tgt := 68) hx hb dX11_over_113 (by decide) ?_
    exact hK68 f_t_off x1 s0 (x5 + (-1)) _ _ _ hf hw (lv_sub hl [2, 3, 1, 0] rfl)
  have B106 : ∀ (K68 : (Nat → Int32) → Int32 → Int32 → Int32 → Option (Int32 × (Nat → Int32))) (hK68 : ∀ (f_t_off : (Nat → Int32)) (x1 : Int32) (x4 : Int32) (x5 : Int32) (H : Heap) (locs : List Loc) (ls : Array Slot), K68 f_t_off x1 x4 x5 = some (rv, z_t_off) → gS E A s.heap (wX11_over E o_t a_t v_t_there v_t_wind v_t_force v_t_rains v_t_lost v_t_hours v_t_sights v_t_padMany v_t_acts v_t_blownMany v_t_badAct v_t_badWhy v_t_ruinAct v_t_ruinWho v_t_keptAt v_t_isWriting f_t_at f_t_off) H locs → lv_has ls 6 [(0, .ref o_t), (1, .int x1), (4, .int x4), (5, .int x5)] → W p l e ({ frames := 5, cells := 0, slots := 0, locals := 118 } : Room) s m args below meth cd H locs 0 0 Q (F0 m 68 ls [])), ∀ (f_t_off : (Nat → Int32)) (x1 : Int32) (x4 : Int32) (x5 : Int32) (H : Heap) (locs : List Loc) (ls : Array Slot), fX11_over_b106 K68 v_t_there f_t_at f_t_off x1 x4 x5 = some (rv, z_t_off) → gS E A s.heap (wX11_over E o_t a_t v_t_there v_t_wind v_t_force v_t_rains v_t_lost v_t_hours v_t_sights v_t_padMany v_t_acts v_t_blownMany v_t_badAct v_t_badWhy v_t_ruinAct v_t_ruinWho v_t_keptAt v_t_isWriting f_t_at f_t_off) H locs → lv_has ls 6 [(0, .ref o_t), (1, .int x1), (4, .int x4), (5, .int x5)] → W p l e ({ frames := 5, cells := 0, slots := 0, locals := 118 } : Room) s m args below meth cd H locs 0 0 Q (F0 m 106 ls []) := by
    intro K68 hK68 f_t_off x1 x4 x5 H locs ls hf hw hl
    refine lv_iload hx hb dX11_over_106 (lv_at hl 2 rfl) ?_
    exact B108 K68 hK68 f_t_off x1 x5 x4 _ _ _ hf hw (lv_sub hl [0, 1, 3] rfl)
  have B68 : ∀ n : Nat, ∀ (f_t_off : (Nat → Int32)) (x1 : Int32) (x4 : Int32) (x5 : Int32) (H : Heap) (locs : List Loc) (ls : Array Slot), fX11_over_b68 v_t_there f_t_at n f_t_off x1 x4 x5 = some (rv, z_t_off) → gS E A s.heap (wX11_over E o_t a_t v_t_there v_t_wind v_t_force v_t_rains v_t_lost v_t_hours v_t_sights v_t_padMany v_t_acts v_t_blownMany v_t_badAct v_t_badWhy v_t_ruinAct v_t_ruinWho v_t_keptAt v_t_isWriting f_t_at f_t_off) H locs → lv_has ls 6 [(0, .ref o_t), (1, .int x1), (4, .int x4), (5, .int x5)] → W p l e ({ frames := 5, cells := 0, slots := 0, locals := 118 } : Room) s m args below meth cd H locs 0 0 Q (F0 m 68 ls []) := by
    intro n
    induction n with
    | zero => intro f_t_off x1 x4 x5 H locs ls hf hw hl; exact g_no hf
    | succ n ih =>
      intro f_t_off x1 x4 x5 H locs ls hf hw hl
      refine lv_iload hx hb dX11_over_68 (lv_at hl 3 rfl) ?_
      refine lv_if_lt (tgt := 116) hx hb dX11_over_70 (by decide) (fun hc => ?_) (fun hc => ?_)
      · have hf := g_t hc hf
        refine lv_iload hx hb dX11_over_116 (lv_at hl 2 rfl) ?_
        exact hret1 (x4, f_t_off) _ _ _ _ hf hw dX11_over_118
      · have hf := g_f hc hf
        refine lv_aload_n hx hb dX11_over_73 rfl (lv_at hl 0 rfl) ?_
        refine g_get hx hb hG hown hK hw inlX11 (ci := 9) rfl 0 26 (Nat.le_of_ble_eq_true rfl) rfl rfl wd_6_9 dX11_over_74 ?_
        refine lv_iload hx hb dX11_over_77 (lv_at hl 3 rfl) ?_
        obtain ⟨hi2, hf⟩ := gA_s hf
        refine g_iald hx hb hK hw 2 rfl hi2 dX11_over_79 ?_
        refine lv_aload_n hx hb dX11_over_80 rfl (lv_at hl 0 rfl) ?_
        refine g_get hx hb hG hown hK hw inlX11 (ci := 9) rfl 0 26 (Nat.le_of_ble_eq_true rfl) rfl rfl wd_6_9 dX11_over_81 ?_
        refine lv_iload_n hx hb dX11_over_84 rfl (lv_at hl 1 rfl) ?_
        obtain ⟨hi3, hf⟩ := gA_s hf
        refine g_iald hx hb hK hw 2 rfl hi3 dX11_over_85 ?_
        refine lv_iconst (v := 1) hx hb dX11_over_86 k_i1 ?_
        refine lv_isub hx hb dX11_over_87 ?_
        refine lv_icmp_ne (tgt := 106) hx hb dX11_over_88 (by decide) (fun hc => ?_) (fun hc => ?_)
        · have hf := g_f hc hf
          exact B106 (fX11_over_b68 v_t_there f_t_at n) ih f_t_off x1 x4 x5 _ _ _ hf hw (lv_sub hl [0, 1, 2, 3] rfl)
        · have hf := g_t hc hf
          refine lv_aload_n hx hb dX11_over_91 rfl (lv_at hl 0 rfl) ?_
          refine lv_iload_n hx hb dX11_over_92 rfl (lv_at hl 1 rfl) ?_
          refine lv_iload hx hb dX11_over_93 (lv_at hl 3 rfl) ?_
          obtain ⟨r4, hc5, hf⟩ := gB_s hf
          refine g_ki0 (is := [0, 1]) hw hA (g_rV hx hb hml hG hown hK hw (is := [0, 1]) rfl (by decide) (mX11_canPay l E o_t a_t v_t_there v_t_wind v_t_force v_t_rains v_t_lost v_t_hours v_t_sights v_t_padMany v_t_acts v_t_blownMany v_t_badAct v_t_badWhy v_t_ruinAct v_t_ruinWho v_t_keptAt v_t_isWriting f_t_at x1 x5 r4 hc5) wd_27_2 wd_27_3 wd_27_4 wd_1_5 wd_27_5 hX11_canPay g_allgood ⟨rfl, rfl⟩ ⟨Nat.le_of_ble_eq_true rfl, Nat.le_of_ble_eq_true rfl⟩ ⟨Nat.zero_le _, Nat.zero_le _⟩ (ci := 9) (q0 := 0) rfl rfl rfl rfl hl.1 rfl (Nat.le_of_ble_eq_true rfl) dX11_over_95) rfl (fun H locs hw => ?_)
          refine lv_if_eq (tgt := 106) hx hb dX11_over_98 (by decide) (fun hc => ?_) (fun hc => ?_)
          · have hf := g_t hc hf
            exact B106 (fX11_over_b68 v_t_there f_t_at n) ih f_t_off x1 x4 x5 _ _ _ hf hw (lv_sub hl [0, 1, 2, 3] rfl)
          · have hf := g_f hc hf
            refine lv_iload hx hb dX11_over_101 (lv_at hl 3 rfl) ?_
            refine lv_goto (tgt := 108) hx hb dX11_over_103 (by decide) ?_
            exact B108 (fX11_over_b68 v_t_there f_t_at n) ih f_t_off x1 x5 x5 _ _ _ hf hw (lv_sub hl [0, 1, 3] rfl)
  refine lv_aload_n hx hb dX11_over_0 rfl (lv_at hl 0 rfl) ?_
  refine lv_iload_n hx hb dX11_over_1 rfl (lv_at hl 1 rfl) ?_
  obtain ⟨r6, hc7, hf⟩ := gB_s hf
  refine g_ki0 (is := [0]) hw hA (g_rV hx hb hml hG hown hK hw (is := [0]) rfl (by decide) (mX11_isFamily l E o_t a_t v_t_there v_t_wind v_t_force v_t_rains v_t_lost v_t_hours v_t_sights v_t_padMany v_t_acts v_t_blownMany v_t_badAct v_t_badWhy v_t_ruinAct v_t_ruinWho v_t_keptAt v_t_isWriting x1 r6 hc7) wd_8_21 wd_8_22 wd_8_23 wd_1_5 wd_9_0 hX11_isFamily g_allgood ⟨rfl, rfl⟩ ⟨Nat.le_of_ble_eq_true rfl, Nat.le_of_ble_eq_true rfl⟩ ⟨Nat.zero_le _, Nat.zero_le _⟩ (ci := 9) (q0 := 0) rfl rfl rfl rfl hl.1 rfl (Nat.le_of_ble_eq_true rfl) dX11_over_2) rfl (fun H locs hw => ?_)
  refine lv_if_eq (tgt := 21) hx hb dX11_over_5 (by decide) (fun hc => ?_) (fun hc => ?_)
  · have hf := g_t hc hf
    exact B21 f_t_off _ _ _ hf hw (lv_sub hl [] rfl)
  · have hf := g_f hc hf
    refine lv_aload_n hx hb dX11_over_8 rfl (lv_at hl 0 rfl) ?_
    refine lv_iload_n hx hb dX11_over_9 rfl (lv_at hl 2 rfl) ?_
    obtain ⟨r8, hc9, hf⟩ := gB_s hf
    refine g_ki0 (is := [0]) hw hA (g_rV hx hb hml hG hown hK hw (is := [0]) rfl (by decide) (mX11_isFamily l E o_t a_t v_t_there v_t_wind v_t_force v_t_rains v_t_lost v_t_hours v_t_sights v_t_padMany v_t_acts v_t_blownMany v_t_badAct v_t_badWhy v_t_ruinAct v_t_ruinWho v_t_keptAt v_t_isWriting x2 r8 hc9) wd_8_21 wd_8_22 wd_8_23 wd_1_5 wd_9_0 hX11_isFamily g_allgood ⟨rfl, rfl⟩ ⟨Nat.le_of_ble_eq_true rfl, Nat.le_of_ble_eq_true rfl⟩ ⟨Nat.zero_le _, Nat.zero_le _⟩ (ci := 9) (q0 := 0) rfl rfl rfl rfl hl.1 rfl (Nat.le_of_ble_eq_true rfl) dX11_over_10) rfl (fun H locs hw => ?_)
    refine lv_if_eq (tgt := 21) hx hb dX11_over_13 (by decide) (fun hc => ?_) (fun hc => ?_)
    · have hf := g_t hc hf
      exact B21 f_t_off _ _ _ hf hw (lv_sub hl [] rfl)
    · have hf := g_f hc hf
      refine lv_iload_n hx hb dX11_over_16 rfl (lv_at hl 1 rfl) ?_
      refine lv_iload_n hx hb dX11_over_17 rfl (lv_at hl 2 rfl) ?_
      refine lv_icmp_ne (tgt := 23) hx hb dX11_over_18 (by decide) (fun hc => ?_) (fun hc => ?_)
      · have hf := g_f hc hf
        refine lv_iload_n hx hb dX11_over_23 rfl (lv_at hl 3 rfl) ?_
        refine lv_i2l hx hb dX11_over_24 rfl ?_
        refine lv_lconst (v := 0) hx hb dX11_over_25 k_l0 ?_
        refine lv_lconst (v := 1) hx hb dX11_over_26 k_l1 ?_
        obtain ⟨r10, hc11, hf⟩ := gB_s hf
        refine g_ki0 (is := []) hw hA (g_rS hx hb hml hG hown hK hw (is := []) rfl (by decide) (mX11_in l E (Int32.toInt64 x3) 0 1 r10 hc11) wd_8_10 wd_8_11 wd_1_5 wd_8_12 hX11_in g_allgood ⟨rfl, rfl⟩ ⟨Nat.le_of_ble_eq_true rfl, Nat.le_of_ble_eq_true rfl⟩ ⟨Nat.zero_le _, Nat.zero_le _⟩ rfl hl.1 rfl (Nat.le_of_ble_eq_true rfl) dX11_over_27) rfl (fun H locs hw => ?_)
        refine lv_if_ne (tgt := 36) hx hb dX11_over_30 (by decide) (fun hc => ?_) (fun hc => ?_)
        · have hf := g_f hc hf
          refine lv_aload_n hx hb dX11_over_36 rfl (lv_at hl 0 rfl) ?_
          refine lv_iload_n hx hb dX11_over_37 rfl (lv_at hl 2 rfl) ?_
          obtain ⟨r12, hc13, hf⟩ := gB_s hf
          refine g_kv (is := [0, 1, 2]) (isR := []) (nW := 3) (w1 := (wX11_findOff E o_t a_t v_t_there v_t_wind v_t_force v_t_rains v_t_lost v_t_hours v_t_sights v_t_padMany v_t_acts v_t_blownMany v_t_badAct v_t_badWhy v_t_ruinAct v_t_ruinWho v_t_keptAt v_t_isWriting f_t_at r12)) (ws' := (wX11_over E o_t a_t v_t_there v_t_wind v_t_force v_t_rains v_t_lost v_t_hours v_t_sights v_t_padMany v_t_acts v_t_blownMany v_t_badAct v_t_badWhy v_t_ruinAct v_t_ruinWho v_t_keptAt v_t_isWriting f_t_at r12)) hw hA (g_rV hx hb hml hG hown hK hw (is := [0, 1, 2]) rfl (by decide) (mX11_findOff l E o_t a_t v_t_there v_t_wind v_t_force v_t_rains v_t_lost v_t_hours v_t_sights v_t_padMany v_t_acts v_t_blownMany v_t_badAct v_t_badWhy v_t_ruinAct v_t_ruinWho v_t_keptAt v_t_isWriting f_t_at f_t_off x2 r12 hc13) wd_26_22 wd_26_23 wd_27_0 wd_1_5 wd_27_1 hX11_findOff g_allgood ⟨rfl, rfl⟩ ⟨Nat.le_of_ble_eq_true rfl, Nat.le_of_ble_eq_true rfl⟩ ⟨Nat.zero_le _, Nat.zero_le _⟩ (ci := 9) (q0 := 0) rfl rfl rfl rfl hl.1 rfl (Nat.le_of_ble_eq_true rfl) dX11_over_38) rfl (g_had [o_t, (a_t 1), (a_t 26)] rfl rfl) rfl (trivial) rfl rfl (by decide) (fun H locs hw => ?_)
          refine lv_aload_n hx hb dX11_over_41 rfl (lv_at hl 0 rfl) ?_
          refine g_get hx hb hG hown hK hw inlX11 (ci := 9) rfl 0 26 (Nat.le_of_ble_eq_true rfl) rfl rfl wd_6_9 dX11_over_42 ?_
          refine lv_iload_n hx hb dX11_over_45 rfl (lv_at hl 1 rfl) ?_
          obtain ⟨hi14, hf⟩ := gA_s hf
          refine g_iald hx hb hK hw 2 rfl hi14 dX11_over_46 ?_
          refine lv_if_lt (tgt := 54) hx hb dX11_over_47 (by decide) (fun hc => ?_) (fun hc => ?_)
          · have hf := g_t hc hf
            exact B54 r12 x1 _ _ _ hf hw (lv_sub hl [0, 1] rfl)
          · have hf := g_f hc hf
            refine lv_iload_n hx hb dX11_over_50 rfl (lv_at hl 3 rfl) ?_
            refine lv_if_ne (tgt := 61) hx hb dX11_over_51 (by decide) (fun hc => ?_) (fun hc => ?_)
            · have hf := g_f hc hf
              refine lv_bipush (v := -6) hx hb dX11_over_61 k_bm6 ?_
              refine lv_istore (lv' := [(4, .int (-6)), (0, .ref o_t), (1, .int x1), (2, .int x2), (3, .int x3)]) hx hb dX11_over_63 hl (Nat.le_of_ble_eq_true rfl) rfl (fun ls hl => ?_)
              refine lv_iconst (v := 5) hx hb dX11_over_65 k_i5 ?_
              refine lv_istore (lv' := [(5, .int 5), (4, .int (-6)), (0, .ref o_t), (1, .int x1), (2, .int x2), (3, .int x3)]) hx hb dX11_over_66 hl (Nat.le_of_ble_eq_true rfl) rfl (fun ls hl => ?_)
              exact B68 1000 r12 x1 (-6) 5 _ _ _ hf hw (lv_sub hl [2, 3, 1, 0] rfl)
            · have hf := g_t hc hf
              exact B54 r12 x1 _ _ _ hf hw (lv_sub hl [0, 1] rfl)
        · have hf := g_t hc hf
          refine lv_bipush (v := -2) hx hb dX11_over_33 k_bm2 ?_
          exact hret1 ((-2), f_t_off) _ _ _ _ hf hw dX11_over_35
      · have hf := g_t hc hf
        exact B21 f_t_off _ _ _ hf hw (lv_sub hl [] rfl)
theorem hX11_worthOf : yX11_worthOf.cls = RX11 ∧ yX11_worthOf.cls ≠ "java/lang/invoke/MethodHandle" ∧ yX11_worthOf.cls ≠ "java/lang/invoke/VarHandle" ∧ (parseMethodDescriptor yX11_worthOf.desc).map (fun d => d.parameters.length) = some 1 := by decide +kernel
set_option maxHeartbeats 4000000 in
set_option maxRecDepth 100000 in
theorem mX11_worthOf (l : Launch) (E : gE) (o_t : Nat) (a_t : (Nat → Nat)) (v_t_there : Int32) (v_t_wind : Int32) (v_t_force : Int32) (v_t_rains : Int32) (v_t_lost : Int32) (v_t_hours : Int32) (v_t_sights : Int32) (v_t_padMany : Int32) (v_t_acts : Int32) (v_t_blownMany : Int32) (v_t_badAct : Int32) (v_t_badWhy : Int32) (v_t_ruinAct : Int32) (v_t_ruinWho : Int32) (v_t_keptAt : Int32) (v_t_isWriting : Int32) (f_t_at : (Nat → Int32)) (f_t_stem : (Nat → Int32)) (f_t_heap : (Nat → Int32)) (x1 : Int32) (rv : Int32) (hf : fX11_worthOf v_t_there f_t_at f_t_stem f_t_heap x1 = some rv) {sz : Nat} : gMi l yX11_worthOf (gW yX11_worthOf cX11_worthOf 3 (some .int)) ({ frames := 3, cells := 0, slots := 0, locals := 69 } : Room) E [.ref o_t, .int x1] (wX11_worthOf E o_t a_t v_t_there v_t_wind v_t_force v_t_rains v_t_lost v_t_hours v_t_sights v_t_padMany v_t_acts v_t_blownMany v_t_badAct v_t_badWhy v_t_ruinAct v_t_ruinWho v_t_keptAt v_t_isWriting f_t_at f_t_stem f_t_heap) sz rv (wX11_worthOf E o_t a_t v_t_there v_t_wind v_t_force v_t_rains v_t_lost v_t_hours v_t_sights v_t_padMany v_t_acts v_t_blownMany v_t_badAct v_t_badWhy v_t_ruinAct v_t_ruinWho v_t_keptAt v_t_isWriting f_t_at f_t_stem f_t_heap) := by
  refine g_openI (own := RX11) (by decide) rfl (Nat.le_of_ble_eq_true rfl) (fun p e s m args below meth cd Q A hx hb hml hown hG hK hA hret hw ls hl => ?_)
  have hl : lv_has ls 3 [(0, .ref o_t), (1, .int x1)] := hl
  have hret1 : ∀ (t : Int32) (H : Heap) (locs : List Loc) (pc : Nat) (ls : Array Slot), some t = some rv → gS E A s.heap (wX11_worthOf E o_t a_t v_t_there v_t_wind v_t_force v_t_rains v_t_lost v_t_hours v_t_sights v_t_padMany v_t_acts v_t_blownMany v_t_badAct v_t_badWhy v_t_ruinAct v_t_ruinWho v_t_keptAt v_t_isWriting f_t_at f_t_stem f_t_heap) H locs → decode cX11_worthOf pc = .ok (.ireturn, 1) → W p l e ({ frames := 3, cells := 0, slots := 0, locals := 69 } : Room) s m args below meth cd H locs 0 0 Q (F0 m pc ls [.int t]) := by
    intro t H locs pc ls h hw hd
    obtain rfl : t = rv := Option.some.inj h
    exact hret H locs pc ls hw hd
  have B26 : ∀ (s0 : Int32) (s1 : Int32) (H : Heap) (locs : List Loc) (ls : Array Slot), fX11_worthOf_b26 s0 s1 = some rv → gS E A s.heap (wX11_worthOf E o_t a_t v_t_there v_t_wind v_t_force v_t_rains v_t_lost v_t_hours v_t_sights v_t_padMany v_t_acts v_t_blownMany v_t_badAct v_t_badWhy v_t_ruinAct v_t_ruinWho v_t_keptAt v_t_isWriting f_t_at f_t_stem f_t_heap) H locs → lv_has ls 3 [] → W p l e ({ frames := 3, cells := 0, slots := 0, locals := 69 } : Room) s m args below meth cd H locs 0 0 Q (F0 m 26 ls [.int s1, .int s0]) := by
    intro  s0 s1 H locs ls hf hw hl
    refine lv_iadd hx hb dX11_worthOf_26 ?_
    exact hret1 (s0 + s1) _ _ _ _ hf hw dX11_worthOf_27
  refine lv_aload_n hx hb dX11_worthOf_0 rfl (lv_at hl 0 rfl) ?_
  refine lv_iload_n hx hb dX11_worthOf_1 rfl (lv_at hl 1 rfl) ?_
  obtain ⟨r1, hc2, hf⟩ := gB_s hf
  refine g_ki0 (is := [0, 1]) hw hA (g_rV hx hb hml hG hown hK hw (is := [0, 1]) rfl (by decide) (mX11_familyOn l E o_t a_t v_t_there v_t_wind v_t_force v_t_rains v_t_lost v_t_hours v_t_sights v_t_padMany v_t_acts v_t_blownMany v_t_badAct v_t_badWhy v_t_ruinAct v_t_ruinWho v_t_keptAt v_t_isWriting f_t_at x1 r1 hc2) wd_8_17 wd_8_18 wd_8_19 wd_1_5 wd_8_20 hX11_familyOn g_allgood ⟨rfl, rfl⟩ ⟨Nat.le_of_ble_eq_true rfl, Nat.le_of_ble_eq_true rfl⟩ ⟨Nat.zero_le _, Nat.zero_le _⟩ (ci := 9) (q0 := 0) rfl rfl rfl rfl hl.1 rfl (Nat.le_of_ble_eq_true rfl) dX11_worthOf_2) rfl (fun H locs hw => ?_)
  refine lv_istore_n (lv' := [(2, .int r1), (0, .ref o_t), (1, .int x1)]) hx hb dX11_worthOf_5 rfl hl (Nat.le_of_ble_eq_true rfl) rfl (fun ls hl => ?_)
  refine lv_aload_n hx hb dX11_worthOf_6 rfl (lv_at hl 1 rfl) ?_
  refine g_get hx hb hG hown hK hw inlX11 (ci := 9) rfl 0 5 (Nat.le_of_ble_eq_true rfl) rfl rfl wd_6_1 dX11_worthOf_7 ?_
  refine lv_iload_n hx hb dX11_worthOf_10 rfl (lv_at hl 2 rfl) ?_
  obtain ⟨hi3, hf⟩ := gA_s hf
  refine g_iald hx hb hK hw 3 rfl hi3 dX11_worthOf_11 ?_
  refine lv_iload_n hx hb dX11_worthOf_12 rfl (lv_at hl 0 rfl) ?_
  refine lv_if_ge (tgt := 20) hx hb dX11_worthOf_13 (by decide) (fun hc => ?_) (fun hc => ?_)
  · have hf := g_t hc hf
    refine lv_aload_n hx hb dX11_worthOf_20 rfl (lv_at hl 1 rfl) ?_
    refine g_get hx hb hG hown hK hw inlX11 (ci := 9) rfl 0 2 (Nat.le_of_ble_eq_true rfl) rfl rfl wd_5_22 dX11_worthOf_21 ?_
    refine lv_iload_n hx hb dX11_worthOf_24 rfl (lv_at hl 0 rfl) ?_
    obtain ⟨hi4, hf⟩ := gA_s hf
    refine g_iald hx hb hK hw 2 rfl hi4 dX11_worthOf_25 ?_
    exact B26 (f_t_heap (Int32.toNatClampNeg x1)) (f_t_stem (Int32.toNatClampNeg r1)) _ _ _ hf hw (lv_sub hl [] rfl)
  · have hf := g_f hc hf
    refine lv_iconst (v := 0) hx hb dX11_worthOf_16 k_i0 ?_
    refine lv_goto (tgt := 26) hx hb dX11_worthOf_17 (by decide) ?_
    exact B26 (f_t_heap (Int32.toNatClampNeg x1)) 0 _ _ _ hf hw (lv_sub hl [] rfl)
theorem hX11_squareAt : yX11_squareAt.cls = RX11 ∧ yX11_squareAt.cls ≠ "java/lang/invoke/MethodHandle" ∧ yX11_squareAt.cls ≠ "java/lang/invoke/VarHandle" ∧ (parseMethodDescriptor yX11_squareAt.desc).map (fun d => d.parameters.length) = some 2 := by decide +kernel
set_option maxHeartbeats 4000000 in
set_option maxRecDepth 100000 in
theorem mX11_squareAt (l : Launch) (E : gE) (o_t : Nat) (a_t : (Nat → Nat)) (v_t_there : Int32) (v_t_wind : Int32) (v_t_force : Int32) (v_t_rains : Int32) (v_t_lost : Int32) (v_t_hours : Int32) (v_t_sights : Int32) (v_t_padMany : Int32) (v_t_acts : Int32) (v_t_blownMany : Int32) (v_t_badAct : Int32) (v_t_badWhy : Int32) (v_t_ruinAct : Int32) (v_t_ruinWho : Int32) (v_t_keptAt : Int32) (v_t_isWriting : Int32) (f_t_at : (Nat → Int32)) (f_t_stem : (Nat → Int32)) (f_t_heap : (Nat → Int32)) (x1 : Int32) (x2 : Int32) (rv : Int32) (hf : fX11_squareAt v_t_there f_t_at f_t_stem f_t_heap x1 x2 = some rv) {sz : Nat} : gMi l yX11_squareAt (gW yX11_squareAt cX11_squareAt 5 (some .int)) ({ frames := 4, cells := 0, slots := 0, locals := 91 } : Room) E [.ref o_t, .int x1, .int x2] (wX11_squareAt E o_t a_t v_t_there v_t_wind v_t_force v_t_rains v_t_lost v_t_hours v_t_sights v_t_padMany v_t_acts v_t_blownMany v_t_badAct v_t_badWhy v_t_ruinAct v_t_ruinWho v_t_keptAt v_t_isWriting f_t_at f_t_stem f_t_heap) sz rv (wX11_squareAt E o_t a_t v_t_there v_t_wind v_t_force v_t_rains v_t_lost v_t_hours v_t_sights v_t_padMany v_t_acts v_t_blownMany v_t_badAct v_t_badWhy v_t_ruinAct v_t_ruinWho v_t_keptAt v_t_isWriting f_t_at f_t_stem f_t_heap) := by
  refine g_openI (own := RX11) (by decide) rfl (Nat.le_of_ble_eq_true rfl) (fun p e s m args below meth cd Q A hx hb hml hown hG hK hA hret hw ls hl => ?_)
  have hl : lv_has ls 5 [(0, .ref o_t), (1, .int x1), (2, .int x2)] := hl
  have hret1 : ∀ (t : Int32) (H : Heap) (locs : List Loc) (pc : Nat) (ls : Array Slot), some t = some rv → gS E A s.heap (wX11_squareAt E o_t a_t v_t_there v_t_wind v_t_force v_t_rains v_t_lost v_t_hours v_t_sights v_t_padMany v_t_acts v_t_blownMany v_t_badAct v_t_badWhy v_t_ruinAct v_t_ruinWho v_t_keptAt v_t_isWriting f_t_at f_t_stem f_t_heap) H locs → decode cX11_squareAt pc = .ok (.ireturn, 1) → W p l e ({ frames := 4, cells := 0, slots := 0, locals := 91 } : Room) s m args below meth cd H locs 0 0 Q (F0 m pc ls [.int t]) := by
    intro t H locs pc ls h hw hd
    obtain rfl : t = rv := Option.some.inj h
    exact hret H locs pc ls hw hd
  have B5 : ∀ n : Nat, ∀ (x1 : Int32) (x2 : Int32) (x3 : Int32) (x4 : Int32) (H : Heap) (locs : List Loc) (ls : Array Slot), fX11_squareAt_b5 v_t_there f_t_at f_t_stem f_t_heap n x1 x2 x3 x4 = some rv → gS E A s.heap (wX11_squareAt E o_t a_t v_t_there v_t_wind v_t_force v_t_rains v_t_lost v_t_hours v_t_sights v_t_padMany v_t_acts v_t_blownMany v_t_badAct v_t_badWhy v_t_ruinAct v_t_ruinWho v_t_keptAt v_t_isWriting f_t_at f_t_stem f_t_heap) H locs → lv_has ls 5 [(0, .ref o_t), (1, .int x1), (2, .int x2), (3, .int x3), (4, .int x4)] → W p l e ({ frames := 4, cells := 0, slots := 0, locals := 91 } : Room) s m args below meth cd H locs 0 0 Q (F0 m 5 ls []) := by
    intro n
    induction n with
    | zero => intro x1 x2 x3 x4 H locs ls hf hw hl; exact g_no hf
    | succ n ih =>
      intro x1 x2 x3 x4 H locs ls hf hw hl
      refine lv_iload hx hb dX11_squareAt_5 (lv_at hl 4 rfl) ?_
      refine lv_iload_n hx hb dX11_squareAt_7 rfl (lv_at hl 2 rfl) ?_
      refine lv_iload_n hx hb dX11_squareAt_8 rfl (lv_at hl 2 rfl) ?_
      refine lv_imul hx hb dX11_squareAt_9 ?_
      refine lv_icmp_ge (tgt := 40) hx hb dX11_squareAt_10 (by decide) (fun hc => ?_) (fun hc => ?_)
      · have hf := g_t hc hf
        refine lv_iload_n hx hb dX11_squareAt_40 rfl (lv_at hl 3 rfl) ?_
        exact hret1 x3 _ _ _ _ hf hw dX11_squareAt_41
      · have hf := g_f hc hf
        refine lv_iload_n hx hb dX11_squareAt_13 rfl (lv_at hl 3 rfl) ?_
        refine lv_aload_n hx hb dX11_squareAt_14 rfl (lv_at hl 0 rfl) ?_
        refine lv_iload_n hx hb dX11_squareAt_15 rfl (lv_at hl 1 rfl) ?_
        refine lv_bipush (v := 6) hx hb dX11_squareAt_16 k_b6 ?_
        refine lv_iload hx hb dX11_squareAt_18 (lv_at hl 4 rfl) ?_
        refine lv_iload_n hx hb dX11_squareAt_20 rfl (lv_at hl 2 rfl) ?_
        obtain ⟨hd1, hf⟩ := gD_s hf
        refine lv_idiv hx hb dX11_squareAt_21 hd1 ?_
        refine lv_imul hx hb dX11_squareAt_22 ?_
        refine lv_iadd hx hb dX11_squareAt_23 ?_
        refine lv_iload hx hb dX11_squareAt_24 (lv_at hl 4 rfl) ?_
        refine lv_iload_n hx hb dX11_squareAt_26 rfl (lv_at hl 2 rfl) ?_
        obtain ⟨hd2, hf⟩ := gD_s hf
        refine g_irem hx hb dX11_squareAt_27 hd2 ?_
        refine lv_iadd hx hb dX11_squareAt_28 ?_
        obtain ⟨r3, hc4, hf⟩ := gB_s hf
        refine g_ki0 (is := [0, 1, 2, 3]) hw hA (g_rV hx hb hml hG hown hK hw (is := [0, 1, 2, 3]) rfl (by decide) (mX11_worthOf l E o_t a_t v_t_there v_t_wind v_t_force v_t_rains v_t_lost v_t_hours v_t_sights v_t_padMany v_t_acts v_t_blownMany v_t_badAct v_t_badWhy v_t_ruinAct v_t_ruinWho v_t_keptAt v_t_isWriting f_t_at f_t_stem f_t_heap ((x1 + (6 * (x4 / x2))) + (x4 % x2)) r3 hc4) wd_28_8 wd_28_9 wd_28_10 wd_1_5 wd_28_11 hX11_worthOf g_allgood ⟨rfl, rfl⟩ ⟨Nat.le_of_ble_eq_true rfl, Nat.le_of_ble_eq_true rfl⟩ ⟨Nat.zero_le _, Nat.zero_le _⟩ (ci := 9) (q0 := 0) rfl rfl rfl rfl hl.1 rfl (Nat.le_of_ble_eq_true rfl) dX11_squareAt_29) rfl (fun H locs hw => ?_)
        refine lv_iadd hx hb dX11_squareAt_32 ?_
        refine lv_istore_n (lv' := [(3, .int (x3 + r3)), (0, .ref o_t), (1, .int x1), (2, .int x2), (4, .int x4)]) hx hb dX11_squareAt_33 rfl hl (Nat.le_of_ble_eq_true rfl) rfl (fun ls hl => ?_)
        refine lv_iinc (lv' := [(4, .int (x4 + 1)), (3, .int (x3 + r3)), (0, .ref o_t), (1, .int x1), (2, .int x2)]) hx hb dX11_squareAt_34 hl (k := 4) rfl (k_inc1 _) (Nat.le_of_ble_eq_true rfl) rfl (fun ls hl => ?_)
        refine lv_goto (tgt := 5) hx hb dX11_squareAt_37 (by decide) ?_
        exact ih x1 x2 (x3 + r3) (x4 + 1) _ _ _ hf hw (lv_sub hl [2, 3, 4, 1, 0] rfl)
  refine lv_iconst (v := 0) hx hb dX11_squareAt_0 k_i0 ?_
  refine lv_istore_n (lv' := [(3, .int 0), (0, .ref o_t), (1, .int x1), (2, .int x2)]) hx hb dX11_squareAt_1 rfl hl (Nat.le_of_ble_eq_true rfl) rfl (fun ls hl => ?_)
  refine lv_iconst (v := 0) hx hb dX11_squareAt_2 k_i0 ?_
  refine lv_istore (lv' := [(4, .int 0), (3, .int 0), (0, .ref o_t), (1, .int x1), (2, .int x2)]) hx hb dX11_squareAt_3 hl (Nat.le_of_ble_eq_true rfl) rfl (fun ls hl => ?_)
  exact B5 1000 x1 x2 0 0 _ _ _ hf hw (lv_sub hl [2, 3, 4, 1, 0] rfl)
theorem hX11_bellows : yX11_bellows.cls = RX11 ∧ yX11_bellows.cls ≠ "java/lang/invoke/MethodHandle" ∧ yX11_bellows.cls ≠ "java/lang/invoke/VarHandle" ∧ (parseMethodDescriptor yX11_bellows.desc).map (fun d => d.parameters.length) = some 2 := by decide +kernel
set_option maxHeartbeats 4000000 in
set_option maxRecDepth 100000 in
theorem mX11_bellows (l : Launch) (E : gE) (o_t : Nat) (a_t : (Nat → Nat)) (v_t_there : Int32) (v_t_wind : Int32) (v_t_force : Int32) (v_t_rains : Int32) (v_t_lost : Int32) (v_t_hours : Int32) (v_t_sights : Int32) (v_t_padMany : Int32) (v_t_acts : Int32) (v_t_blownMany : Int32) (v_t_badAct : Int32) (v_t_badWhy : Int32) (v_t_ruinAct : Int32) (v_t_ruinWho : Int32) (v_t_keptAt : Int32) (v_t_isWriting : Int32) (f_t_at : (Nat → Int32)) (f_t_stem : (Nat → Int32)) (f_t_heap : (Nat → Int32)) (x1 : Int32) (x2 : Int32) (rv : Int32) (hf : fX11_bellows v_t_there f_t_at f_t_stem f_t_heap x1 x2 = some rv) {sz : Nat} : gMi l yX11_bellows (gW yX11_bellows cX11_bellows 8 (some .int)) ({ frames := 5, cells := 0, slots := 0, locals := 115 } : Room) E [.ref o_t, .int x1, .int x2] (wX11_bellows E o_t a_t v_t_there v_t_wind v_t_force v_t_rains v_t_lost v_t_hours v_t_sights v_t_padMany v_t_acts v_t_blownMany v_t_badAct v_t_badWhy v_t_ruinAct v_t_ruinWho v_t_keptAt v_t_isWriting f_t_at f_t_stem f_t_heap) sz rv (wX11_bellows E o_t a_t v_t_there v_t_wind v_t_force v_t_rains v_t_lost v_t_hours v_t_sights v_t_padMany v_t_acts v_t_blownMany v_t_badAct v_t_badWhy v_t_ruinAct v_t_ruinWho v_t_keptAt v_t_isWriting f_t_at f_t_stem f_t_heap) := by
  refine g_openI (own := RX11) (by decide) rfl (Nat.le_of_ble_eq_true rfl) (fun p e s m args below meth cd Q A hx hb hml hown hG hK hA hret hw ls hl => ?_)
  have hl : lv_has ls 8 [(0, .ref o_t), (1, .int x1), (2, .int x2)] := hl
  have hret1 : ∀ (t : Int32) (H : Heap) (locs : List Loc) (pc : Nat) (ls : Array Slot), some t = some rv → gS E A s.heap (wX11_bellows E o_t a_t v_t_there v_t_wind v_t_force v_t_rains v_t_lost v_t_hours v_t_sights v_t_padMany v_t_acts v_t_blownMany v_t_badAct v_t_badWhy v_t_ruinAct v_t_ruinWho v_t_keptAt v_t_isWriting f_t_at f_t_stem f_t_heap) H locs → decode cX11_bellows pc = .ok (.ireturn, 1) → W p l e ({ frames := 5, cells := 0, slots := 0, locals := 115 } : Room) s m args below meth cd H locs 0 0 Q (F0 m pc ls [.int t]) := by
    intro t H locs pc ls h hw hd
    obtain rfl : t = rv := Option.some.inj h
    exact hret H locs pc ls hw hd
  have B22 : ∀ (H : Heap) (locs : List Loc) (ls : Array Slot), fX11_bellows_b22 = some rv → gS E A s.heap (wX11_bellows E o_t a_t v_t_there v_t_wind v_t_force v_t_rains v_t_lost v_t_hours v_t_sights v_t_padMany v_t_acts v_t_blownMany v_t_badAct v_t_badWhy v_t_ruinAct v_t_ruinWho v_t_keptAt v_t_isWriting f_t_at f_t_stem f_t_heap) H locs → lv_has ls 8 [] → W p l e ({ frames := 5, cells := 0, slots := 0, locals := 115 } : Room) s m args below meth cd H locs 0 0 Q (F0 m 22 ls []) := by
    intro   H locs ls hf hw hl
    refine lv_bipush (v := -2) hx hb dX11_bellows_22 k_bm2 ?_
    exact hret1 (-2) _ _ _ _ hf hw dX11_bellows_24
  have B123 : ∀ (K38 : Int32 → Int32 → Int32 → Int32 → Int32 → Option (Int32)) (hK38 : ∀ (x1 : Int32) (x2 : Int32) (x3 : Int32) (x4 : Int32) (x5 : Int32) (H : Heap) (locs : List Loc) (ls : Array Slot), K38 x1 x2 x3 x4 x5 = some rv → gS E A s.heap (wX11_bellows E o_t a_t v_t_there v_t_wind v_t_force v_t_rains v_t_lost v_t_hours v_t_sights v_t_padMany v_t_acts v_t_blownMany v_t_badAct v_t_badWhy v_t_ruinAct v_t_ruinWho v_t_keptAt v_t_isWriting f_t_at f_t_stem f_t_heap) H locs → lv_has ls 8 [(0, .ref o_t), (1, .int x1), (2, .int x2), (3, .int x3), (4, .int x4), (5, .int x5)] → W p l e ({ frames := 5, cells := 0, slots := 0, locals := 115 } : Room) s m args below meth cd H locs 0 0 Q (F0 m 38 ls [])), ∀ (x1 : Int32) (x2 : Int32) (x3 : Int32) (x5 : Int32) (s0 : Int32) (H : Heap) (locs : List Loc) (ls : Array Slot), fX11_bellows_b123 K38 v_t_there f_t_at f_t_stem f_t_heap x1 x2 x3 x5 s0 = some rv → gS E A s.heap (wX11_bellows E o_t a_t v_t_there v_t_wind v_t_force v_t_rains v_t_lost v_t_hours v_t_sights v_t_padMany v_t_acts v_t_blownMany v_t_badAct v_t_badWhy v_t_ruinAct v_t_ruinWho v_t_keptAt v_t_isWriting f_t_at f_t_stem f_t_heap) H locs → lv_has ls 8 [(0, .ref o_t), (1, .int x1), (2, .int x2), (3, .int x3), (5, .int x5)] → W p l e ({ frames := 5, cells := 0, slots := 0, locals := 115 } : Room) s m args below meth cd H locs 0 0 Q (F0 m 123 ls [.int s0]) := by
    intro K38 hK38 x1 x2 x3 x5 s0 H locs ls hf hw hl
    refine lv_istore (lv' := [(4, .int s0), (0, .ref o_t), (1, .int x1), (2, .int x2), (3, .int x3), (5, .int x5)]) hx hb dX11_bellows_123 hl (Nat.le_of_ble_eq_true rfl) rfl (fun ls hl => ?_)
    refine lv_iinc (lv' := [(5, .int (x5 + 1)), (4, .int s0), (0, .ref o_t), (1, .int x1), (2, .int x2), (3, .int x3)]) hx hb dX11_bellows_125 hl (k := 5) rfl (k_inc1 _) (Nat.le_of_ble_eq_true rfl) rfl (fun ls hl => ?_)
    refine lv_goto (tgt := 38) hx hb dX11_bellows_128 (by decide) ?_
    exact hK38 x1 x2 x3 s0 (x5 + 1) _ _ _ hf hw (lv_sub hl [2, 3, 4, 5, 1, 0] rfl)
  have B108 : ∀ (K38 : Int32 → Int32 → Int32 → Int32 → Int32 → Option (Int32)) (hK38 : ∀ (x1 : Int32) (x2 : Int32) (x3 : Int32) (x4 : Int32) (x5 : Int32) (H : Heap) (locs : List Loc) (ls : Array Slot), K38 x1 x2 x3 x4 x5 = some rv → gS E A s.heap (wX11_bellows E o_t a_t v_t_there v_t_wind v_t_force v_t_rains v_t_lost v_t_hours v_t_sights v_t_padMany v_t_acts v_t_blownMany v_t_badAct v_t_badWhy v_t_ruinAct v_t_ruinWho v_t_keptAt v_t_isWriting f_t_at f_t_stem f_t_heap) H locs → lv_has ls 8 [(0, .ref o_t), (1, .int x1), (2, .int x2), (3, .int x3), (4, .int x4), (5, .int x5)] → W p l e ({ frames := 5, cells := 0, slots := 0, locals := 115 } : Room) s m args below meth cd H locs 0 0 Q (F0 m 38 ls [])), ∀ (x1 : Int32) (x2 : Int32) (x4 : Int32) (x5 : Int32) (x7 : Int32) (s0 : Int32) (H : Heap) (locs : List Loc) (ls : Array Slot), fX11_bellows_b108 K38 v_t_there f_t_at f_t_stem f_t_heap x1 x2 x4 x5 x7 s0 = some rv → gS E A s.heap (wX11_bellows E o_t a_t v_t_there v_t_wind v_t_force v_t_rains v_t_lost v_t_hours v_t_sights v_t_padMany v_t_acts v_t_blownMany v_t_badAct v_t_badWhy v_t_ruinAct v_t_ruinWho v_t_keptAt v_t_isWriting f_t_at f_t_stem f_t_heap) H locs → lv_has ls 8 [(0, .ref o_t), (1, .int x1), (2, .int x2), (4, .int x4), (5, .int x5), (7, .int x7)] → W p l e ({ frames := 5, cells := 0, slots := 0, locals := 115 } : Room) s m args below meth cd H locs 0 0 Q (F0 m 108 ls [.int s0]) := by
    intro K38 hK38 x1 x2 x4 x5 x7 s0 H locs ls hf hw hl
    refine lv_istore_n (lv' := [(3, .int s0), (0, .ref o_t), (1, .int x1), (2, .int x2), (4, .int x4), (5, .int x5), (7, .int x7)]) hx hb dX11_bellows_108 rfl hl (Nat.le_of_ble_eq_true rfl) rfl (fun ls hl => ?_)
    refine lv_iload hx hb dX11_bellows_109 (lv_at hl 6 rfl) ?_
    refine lv_iload hx hb dX11_bellows_111 (lv_at hl 4 rfl) ?_
    refine lv_icmp_le (tgt := 121) hx hb dX11_bellows_113 (by decide) (fun hc => ?_) (fun hc => ?_)
    · have hf := g_t hc hf
      refine lv_iload hx hb dX11_bellows_121 (lv_at hl 4 rfl) ?_
      exact B123 K38 hK38 x1 x2 s0 x5 x4 _ _ _ hf hw (lv_sub hl [1, 2, 3, 0, 5] rfl)
    · have hf := g_f hc hf
      refine lv_iload hx hb dX11_bellows_116 (lv_at hl 6 rfl) ?_
      refine lv_goto (tgt := 123) hx hb dX11_bellows_118 (by decide) ?_
      exact B123 K38 hK38 x1 x2 s0 x5 x7 _ _ _ hf hw (lv_sub hl [1, 2, 3, 0, 5] rfl)
  have B93 : ∀ (K38 : Int32 → Int32 → Int32 → Int32 → Int32 → Option (Int32)) (hK38 : ∀ (x1 : Int32) (x2 : Int32) (x3 : Int32) (x4 : Int32) (x5 : Int32) (H : Heap) (locs : List Loc) (ls : Array Slot), K38 x1 x2 x3 x4 x5 = some rv → gS E A s.heap (wX11_bellows E o_t a_t v_t_there v_t_wind v_t_force v_t_rains v_t_lost v_t_hours v_t_sights v_t_padMany v_t_acts v_t_blownMany v_t_badAct v_t_badWhy v_t_ruinAct v_t_ruinWho v_t_keptAt v_t_isWriting f_t_at f_t_stem f_t_heap) H locs → lv_has ls 8 [(0, .ref o_t), (1, .int x1), (2, .int x2), (3, .int x3), (4, .int x4), (5, .int x5)] → W p l e ({ frames := 5, cells := 0, slots := 0, locals := 115 } : Room) s m args below meth cd H locs 0 0 Q (F0 m 38 ls [])), ∀ (x1 : Int32) (x2 : Int32) (x3 : Int32) (x4 : Int32) (x5 : Int32) (s0 : Int32) (H : Heap) (locs : List Loc) (ls : Array Slot), fX11_bellows_b93 K38 v_t_there f_t_at f_t_stem f_t_heap x1 x2 x3 x4 x5 s0 = some rv → gS E A s.heap (wX11_bellows E o_t a_t v_t_there v_t_wind v_t_force v_t_rains v_t_lost v_t_hours v_t_sights v_t_padMany v_t_acts v_t_blownMany v_t_badAct v_t_badWhy v_t_ruinAct v_t_ruinWho v_t_keptAt v_t_isWriting f_t_at f_t_stem f_t_heap) H locs → lv_has ls 8 [(0, .ref o_t), (1, .int x1), (2, .int x2), (3, .int x3), (4, .int x4), (5, .int x5)] → W p l e ({ frames := 5, cells := 0, slots := 0, locals := 115 } : Room) s m args below meth cd H locs 0 0 Q (F0 m 93 ls [.int s0]) := by
    intro K38 hK38 x1 x2 x3 x4 x5 s0 H locs ls hf hw hl
    refine lv_istore (lv' := [(7, .int s0), (0, .ref o_t), (1, .int x1), (2, .int x2), (3, .int x3), (4, .int x4), (5, .int x5)]) hx hb dX11_bellows_93 hl (Nat.le_of_ble_eq_true rfl) rfl (fun ls hl => ?_)
    refine lv_iload hx hb dX11_bellows_95 (lv_at hl 0 rfl) ?_
    refine lv_iload hx hb dX11_bellows_97 (lv_at hl 5 rfl) ?_
    refine lv_icmp_le (tgt := 107) hx hb dX11_bellows_99 (by decide) (fun hc => ?_) (fun hc => ?_)
    · have hf := g_t hc hf
      refine lv_iload_n hx hb dX11_bellows_107 rfl (lv_at hl 4 rfl) ?_
      exact B108 K38 hK38 x1 x2 x4 x5 s0 x3 _ _ _ hf hw (lv_sub hl [1, 2, 3, 5, 6, 0] rfl)
    · have hf := g_f hc hf
      refine lv_iload hx hb dX11_bellows_102 (lv_at hl 6 rfl) ?_
      refine lv_goto (tgt := 108) hx hb dX11_bellows_104 (by decide) ?_
      exact B108 K38 hK38 x1 x2 x4 x5 s0 x5 _ _ _ hf hw (lv_sub hl [1, 2, 3, 5, 6, 0] rfl)
  have B74 : ∀ (K38 : Int32 → Int32 → Int32 → Int32 → Int32 → Option (Int32)) (hK38 : ∀ (x1 : Int32) (x2 : Int32) (x3 : Int32) (x4 : Int32) (x5 : Int32) (H : Heap) (locs : List Loc) (ls : Array Slot), K38 x1 x2 x3 x4 x5 = some rv → gS E A s.heap (wX11_bellows E o_t a_t v_t_there v_t_wind v_t_force v_t_rains v_t_lost v_t_hours v_t_sights v_t_padMany v_t_acts v_t_blownMany v_t_badAct v_t_badWhy v_t_ruinAct v_t_ruinWho v_t_keptAt v_t_isWriting f_t_at f_t_stem f_t_heap) H locs → lv_has ls 8 [(0, .ref o_t), (1, .int x1), (2, .int x2), (3, .int x3), (4, .int x4), (5, .int x5)] → W p l e ({ frames := 5, cells := 0, slots := 0, locals := 115 } : Room) s m args below meth cd H locs 0 0 Q (F0 m 38 ls [])), ∀ (x1 : Int32) (x2 : Int32) (x3 : Int32) (x4 : Int32) (x5 : Int32) (s0 : Int32) (H : Heap) (locs : List Loc) (ls : Array Slot), fX11_bellows_b74 K38 v_t_there f_t_at f_t_stem f_t_heap x1 x2 x3 x4 x5 s0 = some rv → gS E A s.heap (wX11_bellows E o_t a_t v_t_there v_t_wind v_t_force v_t_rains v_t_lost v_t_hours v_t_sights v_t_padMany v_t_acts v_t_blownMany v_t_badAct v_t_badWhy v_t_ruinAct v_t_ruinWho v_t_keptAt v_t_isWriting f_t_at f_t_stem f_t_heap) H locs → lv_has ls 8 [(0, .ref o_t), (1, .int x1), (2, .int x2), (3, .int x3), (4, .int x4), (5, .int x5)] → W p l e ({ frames := 5, cells := 0, slots := 0, locals := 115 } : Room) s m args below meth cd H locs 0 0 Q (F0 m 74 ls [.int s0]) := by
    intro K38 hK38 x1 x2 x3 x4 x5 s0 H locs ls hf hw hl
    refine lv_istore (lv' := [(6, .int s0), (0, .ref o_t), (1, .int x1), (2, .int x2), (3, .int x3), (4, .int x4), (5, .int x5)]) hx hb dX11_bellows_74 hl (Nat.le_of_ble_eq_true rfl) rfl (fun ls hl => ?_)
    refine lv_iload hx hb dX11_bellows_76 (lv_at hl 0 rfl) ?_
    refine lv_if_eq (tgt := 91) hx hb dX11_bellows_78 (by decide) (fun hc => ?_) (fun hc => ?_)
    · have hf := g_t hc hf
      refine lv_bipush (v := -6) hx hb dX11_bellows_91 k_bm6 ?_
      exact B93 K38 hK38 x1 x2 x3 x4 x5 (-6) _ _ _ hf hw (lv_sub hl [1, 2, 3, 4, 5, 6] rfl)
    · have hf := g_f hc hf
      refine lv_aload_n hx hb dX11_bellows_81 rfl (lv_at hl 1 rfl) ?_
      refine lv_iload hx hb dX11_bellows_82 (lv_at hl 6 rfl) ?_
      refine lv_iload_n hx hb dX11_bellows_84 rfl (lv_at hl 2 rfl) ?_
      obtain ⟨r1, hc2, hf⟩ := gB_s hf
      refine g_ki0 (is := [0, 1, 2, 3]) hw hA (g_rV hx hb hml hG hown hK hw (is := [0, 1, 2, 3]) rfl (by decide) (mX11_squareAt l E o_t a_t v_t_there v_t_wind v_t_force v_t_rains v_t_lost v_t_hours v_t_sights v_t_padMany v_t_acts v_t_blownMany v_t_badAct v_t_badWhy v_t_ruinAct v_t_ruinWho v_t_keptAt v_t_isWriting f_t_at f_t_stem f_t_heap x5 x1 r1 hc2) wd_28_4 wd_28_5 wd_28_6 wd_1_5 wd_28_7 hX11_squareAt g_allgood ⟨rfl, rfl⟩ ⟨Nat.le_of_ble_eq_true rfl, Nat.le_of_ble_eq_true rfl⟩ ⟨Nat.zero_le _, Nat.zero_le _⟩ (ci := 9) (q0 := 0) rfl rfl rfl rfl hl.1 rfl (Nat.le_of_ble_eq_true rfl) dX11_bellows_85) rfl (fun H locs hw => ?_)
      refine lv_goto (tgt := 93) hx hb dX11_bellows_88 (by decide) ?_
      exact B93 K38 hK38 x1 x2 x3 x4 x5 r1 _ _ _ hf hw (lv_sub hl [1, 2, 3, 4, 5, 6] rfl)
  have B73 : ∀ (K38 : Int32 → Int32 → Int32 → Int32 → Int32 → Option (Int32)) (hK38 : ∀ (x1 : Int32) (x2 : Int32) (x3 : Int32) (x4 : Int32) (x5 : Int32) (H : Heap) (locs : List Loc) (ls : Array Slot), K38 x1 x2 x3 x4 x5 = some rv → gS E A s.heap (wX11_bellows E o_t a_t v_t_there v_t_wind v_t_force v_t_rains v_t_lost v_t_hours v_t_sights v_t_padMany v_t_acts v_t_blownMany v_t_badAct v_t_badWhy v_t_ruinAct v_t_ruinWho v_t_keptAt v_t_isWriting f_t_at f_t_stem f_t_heap) H locs → lv_has ls 8 [(0, .ref o_t), (1, .int x1), (2, .int x2), (3, .int x3), (4, .int x4), (5, .int x5)] → W p l e ({ frames := 5, cells := 0, slots := 0, locals := 115 } : Room) s m args below meth cd H locs 0 0 Q (F0 m 38 ls [])), ∀ (x1 : Int32) (x2 : Int32) (x3 : Int32) (x4 : Int32) (x5 : Int32) (H : Heap) (locs : List Loc) (ls : Array Slot), fX11_bellows_b73 K38 v_t_there f_t_at f_t_stem f_t_heap x1 x2 x3 x4 x5 = some rv → gS E A s.heap (wX11_bellows E o_t a_t v_t_there v_t_wind v_t_force v_t_rains v_t_lost v_t_hours v_t_sights v_t_padMany v_t_acts v_t_blownMany v_t_badAct v_t_badWhy v_t_ruinAct v_t_ruinWho v_t_keptAt v_t_isWriting f_t_at f_t_stem f_t_heap) H locs → lv_has ls 8 [(0, .ref o_t), (1, .int x1), (2, .int x2), (3, .int x3), (4, .int x4), (5, .int x5)] → W p l e ({ frames := 5, cells := 0, slots := 0, locals := 115 } : Room) s m args below meth cd H locs 0 0 Q (F0 m 73 ls []) := by
    intro K38 hK38 x1 x2 x3 x4 x5 H locs ls hf hw hl
    refine lv_iconst (v := 0) hx hb dX11_bellows_73 k_i0 ?_
    exact B74 K38 hK38 x1 x2 x3 x4 x5 0 _ _ _ hf hw (lv_sub hl [0, 1, 2, 3, 4, 5] rfl)
  have B141 : ∀ (s0 : Int32) (H : Heap) (locs : List Loc) (ls : Array Slot), fX11_bellows_b141 s0 = some rv → gS E A s.heap (wX11_bellows E o_t a_t v_t_there v_t_wind v_t_force v_t_rains v_t_lost v_t_hours v_t_sights v_t_padMany v_t_acts v_t_blownMany v_t_badAct v_t_badWhy v_t_ruinAct v_t_ruinWho v_t_keptAt v_t_isWriting f_t_at f_t_stem f_t_heap) H locs → lv_has ls 8 [] → W p l e ({ frames := 5, cells := 0, slots := 0, locals := 115 } : Room) s m args below meth cd H locs 0 0 Q (F0 m 141 ls [.int s0]) := by
    intro  s0 H locs ls hf hw hl
    exact hret1 s0 _ _ _ _ hf hw dX11_bellows_141
  have B38 : ∀ n : Nat, ∀ (x1 : Int32) (x2 : Int32) (x3 : Int32) (x4 : Int32) (x5 : Int32) (H : Heap) (locs : List Loc) (ls : Array Slot), fX11_bellows_b38 v_t_there f_t_at f_t_stem f_t_heap n x1 x2 x3 x4 x5 = some rv → gS E A s.heap (wX11_bellows E o_t a_t v_t_there v_t_wind v_t_force v_t_rains v_t_lost v_t_hours v_t_sights v_t_padMany v_t_acts v_t_blownMany v_t_badAct v_t_badWhy v_t_ruinAct v_t_ruinWho v_t_keptAt v_t_isWriting f_t_at f_t_stem f_t_heap) H locs → lv_has ls 8 [(0, .ref o_t), (1, .int x1), (2, .int x2), (3, .int x3), (4, .int x4), (5, .int x5)] → W p l e ({ frames := 5, cells := 0, slots := 0, locals := 115 } : Room) s m args below meth cd H locs 0 0 Q (F0 m 38 ls []) := by
    intro n
    induction n with
    | zero => intro x1 x2 x3 x4 x5 H locs ls hf hw hl; exact g_no hf
    | succ n ih =>
      intro x1 x2 x3 x4 x5 H locs ls hf hw hl
      refine lv_iload hx hb dX11_bellows_38 (lv_at hl 5 rfl) ?_
      refine lv_bipush (v := 36) hx hb dX11_bellows_40 k_b36 ?_
      refine lv_icmp_ge (tgt := 131) hx hb dX11_bellows_42 (by decide) (fun hc => ?_) (fun hc => ?_)
      · have hf := g_t hc hf
        refine lv_iload_n hx hb dX11_bellows_131 rfl (lv_at hl 2 rfl) ?_
        refine lv_if_ne (tgt := 140) hx hb dX11_bellows_132 (by decide) (fun hc => ?_) (fun hc => ?_)
        · have hf := g_f hc hf
          refine lv_iload_n hx hb dX11_bellows_140 rfl (lv_at hl 3 rfl) ?_
          exact B141 x3 _ _ _ hf hw (lv_sub hl [] rfl)
        · have hf := g_t hc hf
          refine lv_iload hx hb dX11_bellows_135 (lv_at hl 4 rfl) ?_
          refine lv_goto (tgt := 141) hx hb dX11_bellows_137 (by decide) ?_
          exact B141 x4 _ _ _ hf hw (lv_sub hl [] rfl)
      · have hf := g_f hc hf
        refine lv_iload hx hb dX11_bellows_45 (lv_at hl 5 rfl) ?_
        refine lv_bipush (v := 6) hx hb dX11_bellows_47 k_b6 ?_
        refine g_irem hx hb dX11_bellows_49 (by decide) ?_
        refine lv_iload_n hx hb dX11_bellows_50 rfl (lv_at hl 1 rfl) ?_
        refine lv_iadd hx hb dX11_bellows_51 ?_
        refine lv_bipush (v := 6) hx hb dX11_bellows_52 k_b6 ?_
        refine lv_icmp_gt (tgt := 73) hx hb dX11_bellows_54 (by decide) (fun hc => ?_) (fun hc => ?_)
        · have hf := g_t hc hf
          exact B73 (fX11_bellows_b38 v_t_there f_t_at f_t_stem f_t_heap n) ih x1 x2 x3 x4 x5 _ _ _ hf hw (lv_sub hl [0, 1, 2, 3, 4, 5] rfl)
        · have hf := g_f hc hf
          refine lv_iload hx hb dX11_bellows_57 (lv_at hl 5 rfl) ?_
          refine lv_bipush (v := 6) hx hb dX11_bellows_59 k_b6 ?_
          refine lv_idiv hx hb dX11_bellows_61 (by decide) ?_
          refine lv_iload_n hx hb dX11_bellows_62 rfl (lv_at hl 1 rfl) ?_
          refine lv_iadd hx hb dX11_bellows_63 ?_
          refine lv_bipush (v := 6) hx hb dX11_bellows_64 k_b6 ?_
          refine lv_icmp_gt (tgt := 73) hx hb dX11_bellows_66 (by decide) (fun hc => ?_) (fun hc => ?_)
          · have hf := g_t hc hf
            exact B73 (fX11_bellows_b38 v_t_there f_t_at f_t_stem f_t_heap n) ih x1 x2 x3 x4 x5 _ _ _ hf hw (lv_sub hl [0, 1, 2, 3, 4, 5] rfl)
          · have hf := g_f hc hf
            refine lv_iconst (v := 1) hx hb dX11_bellows_69 k_i1 ?_
            refine lv_goto (tgt := 74) hx hb dX11_bellows_70 (by decide) ?_
            exact B74 (fX11_bellows_b38 v_t_there f_t_at f_t_stem f_t_heap n) ih x1 x2 x3 x4 x5 1 _ _ _ hf hw (lv_sub hl [0, 1, 2, 3, 4, 5] rfl)
  refine lv_iload_n hx hb dX11_bellows_0 rfl (lv_at hl 1 rfl) ?_
  refine lv_i2l hx hb dX11_bellows_1 rfl ?_
  refine lv_lconst (v := 1) hx hb dX11_bellows_2 k_l1 ?_
  refine lv_ldc2 hx hb hown (hG _ wd_28_3) dX11_bellows_3 ?_
  obtain ⟨r3, hc4, hf⟩ := gB_s hf
  refine g_ki0 (is := []) hw hA (g_rS hx hb hml hG hown hK hw (is := []) rfl (by decide) (mX11_in l E (Int32.toInt64 x1) 1 6 r3 hc4) wd_8_10 wd_8_11 wd_1_5 wd_8_12 hX11_in g_allgood ⟨rfl, rfl⟩ ⟨Nat.le_of_ble_eq_true rfl, Nat.le_of_ble_eq_true rfl⟩ ⟨Nat.zero_le _, Nat.zero_le _⟩ rfl hl.1 rfl (Nat.le_of_ble_eq_true rfl) dX11_bellows_6) rfl (fun H locs hw => ?_)
  refine lv_if_eq (tgt := 22) hx hb dX11_bellows_9 (by decide) (fun hc => ?_) (fun hc => ?_)
  · have hf := g_t hc hf
    exact B22 _ _ _ hf hw (lv_sub hl [] rfl)
  · have hf := g_f hc hf
    refine lv_iload_n hx hb dX11_bellows_12 rfl (lv_at hl 2 rfl) ?_
    refine lv_i2l hx hb dX11_bellows_13 rfl ?_
    refine lv_lconst (v := 0) hx hb dX11_bellows_14 k_l0 ?_
    refine lv_lconst (v := 1) hx hb dX11_bellows_15 k_l1 ?_
    obtain ⟨r5, hc6, hf⟩ := gB_s hf
    refine g_ki0 (is := []) hw hA (g_rS hx hb hml hG hown hK hw (is := []) rfl (by decide) (mX11_in l E (Int32.toInt64 x2) 0 1 r5 hc6) wd_8_10 wd_8_11 wd_1_5 wd_8_12 hX11_in g_allgood ⟨rfl, rfl⟩ ⟨Nat.le_of_ble_eq_true rfl, Nat.le_of_ble_eq_true rfl⟩ ⟨Nat.zero_le _, Nat.zero_le _⟩ rfl hl.1 rfl (Nat.le_of_ble_eq_true rfl) dX11_bellows_16) rfl (fun H locs hw => ?_)
    refine lv_if_ne (tgt := 25) hx hb dX11_bellows_19 (by decide) (fun hc => ?_) (fun hc => ?_)
    · have hf := g_f hc hf
      refine lv_iconst (v := 0) hx hb dX11_bellows_25 k_i0 ?_
      refine lv_istore_n (lv' := [(3, .int 0), (0, .ref o_t), (1, .int x1), (2, .int x2)]) hx hb dX11_bellows_26 rfl hl (Nat.le_of_ble_eq_true rfl) rfl (fun ls hl => ?_)
      refine lv_aload_n hx hb dX11_bellows_27 rfl (lv_at hl 1 rfl) ?_
      refine lv_iconst (v := 0) hx hb dX11_bellows_28 k_i0 ?_
      refine lv_iload_n hx hb dX11_bellows_29 rfl (lv_at hl 2 rfl) ?_
      obtain ⟨r7, hc8, hf⟩ := gB_s hf
      refine g_ki0 (is := [0, 1, 2, 3]) hw hA (g_rV hx hb hml hG hown hK hw (is := [0, 1, 2, 3]) rfl (by decide) (mX11_squareAt l E o_t a_t v_t_there v_t_wind v_t_force v_t_rains v_t_lost v_t_hours v_t_sights v_t_padMany v_t_acts v_t_blownMany v_t_badAct v_t_badWhy v_t_ruinAct v_t_ruinWho v_t_keptAt v_t_isWriting f_t_at f_t_stem f_t_heap 0 x1 r7 hc8) wd_28_4 wd_28_5 wd_28_6 wd_1_5 wd_28_7 hX11_squareAt g_allgood ⟨rfl, rfl⟩ ⟨Nat.le_of_ble_eq_true rfl, Nat.le_of_ble_eq_true rfl⟩ ⟨Nat.zero_le _, Nat.zero_le _⟩ (ci := 9) (q0 := 0) rfl rfl rfl rfl hl.1 rfl (Nat.le_of_ble_eq_true rfl) dX11_bellows_30) rfl (fun H locs hw => ?_)
      refine lv_istore (lv' := [(4, .int r7), (3, .int 0), (0, .ref o_t), (1, .int x1), (2, .int x2)]) hx hb dX11_bellows_33 hl (Nat.le_of_ble_eq_true rfl) rfl (fun ls hl => ?_)
      refine lv_iconst (v := 1) hx hb dX11_bellows_35 k_i1 ?_
      refine lv_istore (lv' := [(5, .int 1), (4, .int r7), (3, .int 0), (0, .ref o_t), (1, .int x1), (2, .int x2)]) hx hb dX11_bellows_36 hl (Nat.le_of_ble_eq_true rfl) rfl (fun ls hl => ?_)
      exact B38 1000 x1 x2 0 r7 1 _ _ _ hf hw (lv_sub hl [3, 4, 5, 2, 1, 0] rfl)
    · have hf := g_t hc hf
      exact B22 _ _ _ hf hw (lv_sub hl [] rfl)
theorem hX11_passYear : yX11_passYear.cls = RX11 ∧ yX11_passYear.cls ≠ "java/lang/invoke/MethodHandle" ∧ yX11_passYear.cls ≠ "java/lang/invoke/VarHandle" ∧ (parseMethodDescriptor yX11_passYear.desc).map (fun d => d.parameters.length) = some 0 := by decide +kernel
set_option maxHeartbeats 4000000 in
set_option maxRecDepth 100000 in
theorem mX11_passYear (l : Launch) (E : gE) (o_t : Nat) (a_t : (Nat → Nat)) (v_t_there : Int32) (v_t_wind : Int32) (v_t_force : Int32) (v_t_rains : Int32) (v_t_lost : Int32) (v_t_hours : Int32) (v_t_sights : Int32) (v_t_padMany : Int32) (v_t_acts : Int32) (v_t_blownMany : Int32) (v_t_badAct : Int32) (v_t_badWhy : Int32) (v_t_ruinAct : Int32) (v_t_ruinWho : Int32) (v_t_keptAt : Int32) (v_t_isWriting : Int32) (f_t_grown : (Nat → Int32)) (f_t_grownThen : (Nat → Int32)) (z_t_grown : (Nat → Int32)) (z_t_grownThen : (Nat → Int32)) (hf : fX11_passYear v_t_wind v_t_force f_t_grown f_t_grownThen = some (z_t_grown, z_t_grownThen)) {sz : Nat} : gMv l yX11_passYear (gW yX11_passYear cX11_passYear 4 none) ({ frames := 2, cells := 0, slots := 0, locals := 49 } : Room) E [.ref o_t] (wX11_passYear E o_t a_t v_t_there v_t_wind v_t_force v_t_rains v_t_lost v_t_hours v_t_sights v_t_padMany v_t_acts v_t_blownMany v_t_badAct v_t_badWhy v_t_ruinAct v_t_ruinWho v_t_keptAt v_t_isWriting f_t_grown f_t_grownThen) sz (wX11_passYear E o_t a_t v_t_there v_t_wind v_t_force v_t_rains v_t_lost v_t_hours v_t_sights v_t_padMany v_t_acts v_t_blownMany v_t_badAct v_t_badWhy v_t_ruinAct v_t_ruinWho v_t_keptAt v_t_isWriting z_t_grown z_t_grownThen) := by
  refine g_openV (own := RX11) (by decide) rfl (Nat.le_of_ble_eq_true rfl) (fun p e s m args below meth cd Q A hx hb hml hown hG hK hA hret hw ls hl => ?_)
  have hl : lv_has ls 4 [(0, .ref o_t)] := hl
  have hret1 : ∀ (t : (Nat → Int32) × (Nat → Int32)) (H : Heap) (locs : List Loc) (pc : Nat) (ls : Array Slot), some t = some (z_t_grown, z_t_grownThen) → gS E A s.heap (wX11_passYear E o_t a_t v_t_there v_t_wind v_t_force v_t_rains v_t_lost v_t_hours v_t_sights v_t_padMany v_t_acts v_t_blownMany v_t_badAct v_t_badWhy v_t_ruinAct v_t_ruinWho v_t_keptAt v_t_isWriting t.1 t.2) H locs → decode cX11_passYear pc = .ok (.return_, 1) → W p l e ({ frames := 2, cells := 0, slots := 0, locals := 49 } : Room) s m args below meth cd H locs 0 0 Q (F0 m pc ls []) := by
    intro t H locs pc ls h hw hd
    obtain rfl : t = (z_t_grown, z_t_grownThen) := Option.some.inj h
    exact hret H locs pc ls hw hd
  have B85 : ∀ (K23 : (Nat → Int32) → (Nat → Int32) → Int32 → Option ((Nat → Int32) × (Nat → Int32))) (hK23 : ∀ (f_t_grown : (Nat → Int32)) (f_t_grownThen : (Nat → Int32)) (x1 : Int32) (H : Heap) (locs : List Loc) (ls : Array Slot), K23 f_t_grown f_t_grownThen x1 = some (z_t_grown, z_t_grownThen) → gS E A s.heap (wX11_passYear E o_t a_t v_t_there v_t_wind v_t_force v_t_rains v_t_lost v_t_hours v_t_sights v_t_padMany v_t_acts v_t_blownMany v_t_badAct v_t_badWhy v_t_ruinAct v_t_ruinWho v_t_keptAt v_t_isWriting f_t_grown f_t_grownThen) H locs → lv_has ls 4 [(0, .ref o_t), (1, .int x1)] → W p l e ({ frames := 2, cells := 0, slots := 0, locals := 49 } : Room) s m args below meth cd H locs 0 0 Q (F0 m 23 ls [])), ∀ (f_t_grown : (Nat → Int32)) (f_t_grownThen : (Nat → Int32)) (x1 : Int32) (H : Heap) (locs : List Loc) (ls : Array Slot), fX11_passYear_b85 K23 v_t_wind v_t_force f_t_grown f_t_grownThen x1 = some (z_t_grown, z_t_grownThen) → gS E A s.heap (wX11_passYear E o_t a_t v_t_there v_t_wind v_t_force v_t_rains v_t_lost v_t_hours v_t_sights v_t_padMany v_t_acts v_t_blownMany v_t_badAct v_t_badWhy v_t_ruinAct v_t_ruinWho v_t_keptAt v_t_isWriting f_t_grown f_t_grownThen) H locs → lv_has ls 4 [(0, .ref o_t), (1, .int x1)] → W p l e ({ frames := 2, cells := 0, slots := 0, locals := 49 } : Room) s m args below meth cd H locs 0 0 Q (F0 m 85 ls []) := by
    intro K23 hK23 f_t_grown f_t_grownThen x1 H locs ls hf hw hl
    refine lv_iinc (lv' := [(1, .int (x1 + 1)), (0, .ref o_t)]) hx hb dX11_passYear_85 hl (k := 1) rfl (k_inc1 _) (Nat.le_of_ble_eq_true rfl) rfl (fun ls hl => ?_)
    refine lv_goto (tgt := 23) hx hb dX11_passYear_88 (by decide) ?_
    exact hK23 f_t_grown f_t_grownThen (x1 + 1) _ _ _ hf hw (lv_sub hl [1, 0] rfl)
  have B57 : ∀ (K23 : (Nat → Int32) → (Nat → Int32) → Int32 → Option ((Nat → Int32) × (Nat → Int32))) (hK23 : ∀ (f_t_grown : (Nat → Int32)) (f_t_grownThen : (Nat → Int32)) (x1 : Int32) (H : Heap) (locs : List Loc) (ls : Array Slot), K23 f_t_grown f_t_grownThen x1 = some (z_t_grown, z_t_grownThen) → gS E A s.heap (wX11_passYear E o_t a_t v_t_there v_t_wind v_t_force v_t_rains v_t_lost v_t_hours v_t_sights v_t_padMany v_t_acts v_t_blownMany v_t_badAct v_t_badWhy v_t_ruinAct v_t_ruinWho v_t_keptAt v_t_isWriting f_t_grown f_t_grownThen) H locs → lv_has ls 4 [(0, .ref o_t), (1, .int x1)] → W p l e ({ frames := 2, cells := 0, slots := 0, locals := 49 } : Room) s m args below meth cd H locs 0 0 Q (F0 m 23 ls [])), ∀ (f_t_grown : (Nat → Int32)) (f_t_grownThen : (Nat → Int32)) (x1 : Int32) (s0 : Int32) (H : Heap) (locs : List Loc) (ls : Array Slot), fX11_passYear_b57 K23 v_t_wind v_t_force f_t_grown f_t_grownThen x1 s0 = some (z_t_grown, z_t_grownThen) → gS E A s.heap (wX11_passYear E o_t a_t v_t_there v_t_wind v_t_force v_t_rains v_t_lost v_t_hours v_t_sights v_t_padMany v_t_acts v_t_blownMany v_t_badAct v_t_badWhy v_t_ruinAct v_t_ruinWho v_t_keptAt v_t_isWriting f_t_grown f_t_grownThen) H locs → lv_has ls 4 [(0, .ref o_t), (1, .int x1)] → W p l e ({ frames := 2, cells := 0, slots := 0, locals := 49 } : Room) s m args below meth cd H locs 0 0 Q (F0 m 57 ls [.int s0]) := by
    intro K23 hK23 f_t_grown f_t_grownThen x1 s0 H locs ls hf hw hl
    refine lv_istore_n (lv' := [(2, .int s0), (0, .ref o_t), (1, .int x1)]) hx hb dX11_passYear_57 rfl hl (Nat.le_of_ble_eq_true rfl) rfl (fun ls hl => ?_)
    refine lv_iload_n hx hb dX11_passYear_58 rfl (lv_at hl 2 rfl) ?_
    refine lv_aload_n hx hb dX11_passYear_59 rfl (lv_at hl 1 rfl) ?_
    refine g_get hx hb hG hown hK hw inlX11 (ci := 9) rfl 0 6 (Nat.le_of_ble_eq_true rfl) rfl rfl wd_11_17 dX11_passYear_60 ?_
    refine lv_aload_n hx hb dX11_passYear_63 rfl (lv_at hl 1 rfl) ?_
    refine g_get hx hb hG hown hK hw inlX11 (ci := 9) rfl 0 7 (Nat.le_of_ble_eq_true rfl) rfl rfl wd_6_19 dX11_passYear_64 ?_
    obtain ⟨r1, hc2, hf⟩ := gB_s hf
    refine g_ki0 (is := []) hw hA (g_rS hx hb hml hG hown hK hw (is := []) rfl (by decide) (mX11_onBy l E x1 v_t_wind v_t_force r1 hc2) wd_20_20 wd_20_21 wd_1_5 wd_20_22 hX11_onBy g_allgood ⟨rfl, rfl⟩ ⟨Nat.le_of_ble_eq_true rfl, Nat.le_of_ble_eq_true rfl⟩ ⟨Nat.zero_le _, Nat.zero_le _⟩ rfl hl.1 rfl (Nat.le_of_ble_eq_true rfl) dX11_passYear_67) rfl (fun H locs hw => ?_)
    refine lv_istore_n (lv' := [(3, .int r1), (2, .int s0), (0, .ref o_t), (1, .int x1)]) hx hb dX11_passYear_70 rfl hl (Nat.le_of_ble_eq_true rfl) rfl (fun ls hl => ?_)
    refine lv_iload_n hx hb dX11_passYear_71 rfl (lv_at hl 0 rfl) ?_
    refine lv_if_lt (tgt := 85) hx hb dX11_passYear_72 (by decide) (fun hc => ?_) (fun hc => ?_)
    · have hf := g_t hc hf
      exact B85 K23 hK23 f_t_grown f_t_grownThen x1 _ _ _ hf hw (lv_sub hl [2, 3] rfl)
    · have hf := g_f hc hf
      refine lv_aload_n hx hb dX11_passYear_75 rfl (lv_at hl 2 rfl) ?_
      refine g_get hx hb hG hown hK hw inlX11 (ci := 9) rfl 0 28 (Nat.le_of_ble_eq_true rfl) rfl rfl wd_6_11 dX11_passYear_76 ?_
      refine lv_iload_n hx hb dX11_passYear_79 rfl (lv_at hl 0 rfl) ?_
      refine lv_dup2_11 hx hb dX11_passYear_80 rfl rfl ?_
      obtain ⟨hi3, hf⟩ := gA_s hf
      refine g_iald hx hb hK hw 2 rfl hi3 dX11_passYear_81 ?_
      refine lv_iload_n hx hb dX11_passYear_82 rfl (lv_at hl 1 rfl) ?_
      refine lv_iadd hx hb dX11_passYear_83 ?_
      obtain ⟨hi4, hf⟩ := gA_s hf
      refine g_iast (ws' := (wX11_passYear E o_t a_t v_t_there v_t_wind v_t_force v_t_rains v_t_lost v_t_hours v_t_sights v_t_padMany v_t_acts v_t_blownMany v_t_badAct v_t_badWhy v_t_ruinAct v_t_ruinWho v_t_keptAt v_t_isWriting f_t_grown (upd f_t_grownThen (Int32.toNatClampNeg r1) ((f_t_grownThen (Int32.toNatClampNeg r1)) + s0)))) hx hb hK hw 2 rfl hi4 rfl dX11_passYear_84 (fun H locs hw => ?_)
      exact B85 K23 hK23 f_t_grown (upd f_t_grownThen (Int32.toNatClampNeg r1) ((f_t_grownThen (Int32.toNatClampNeg r1)) + s0)) x1 _ _ _ hf hw (lv_sub hl [2, 3] rfl)
  have B93 : ∀ n : Nat, ∀ (f_t_grown : (Nat → Int32)) (f_t_grownThen : (Nat → Int32)) (x1 : Int32) (H : Heap) (locs : List Loc) (ls : Array Slot), fX11_passYear_b93 n f_t_grown f_t_grownThen x1 = some (z_t_grown, z_t_grownThen) → gS E A s.heap (wX11_passYear E o_t a_t v_t_there v_t_wind v_t_force v_t_rains v_t_lost v_t_hours v_t_sights v_t_padMany v_t_acts v_t_blownMany v_t_badAct v_t_badWhy v_t_ruinAct v_t_ruinWho v_t_keptAt v_t_isWriting f_t_grown f_t_grownThen) H locs → lv_has ls 4 [(0, .ref o_t), (1, .int x1)] → W p l e ({ frames := 2, cells := 0, slots := 0, locals := 49 } : Room) s m args below meth cd H locs 0 0 Q (F0 m 93 ls []) := by
    intro n
    induction n with
    | zero => intro f_t_grown f_t_grownThen x1 H locs ls hf hw hl; exact g_no hf
    | succ n ih =>
      intro f_t_grown f_t_grownThen x1 H locs ls hf hw hl
      refine lv_iload_n hx hb dX11_passYear_93 rfl (lv_at hl 1 rfl) ?_
      refine lv_bipush (v := 36) hx hb dX11_passYear_94 k_b36 ?_
      refine lv_icmp_ge (tgt := 117) hx hb dX11_passYear_96 (by decide) (fun hc => ?_) (fun hc => ?_)
      · have hf := g_t hc hf
        exact hret1 (f_t_grown, f_t_grownThen) _ _ _ _ hf hw dX11_passYear_117
      · have hf := g_f hc hf
        refine lv_aload_n hx hb dX11_passYear_99 rfl (lv_at hl 0 rfl) ?_
        refine g_get hx hb hG hown hK hw inlX11 (ci := 9) rfl 0 27 (Nat.le_of_ble_eq_true rfl) rfl rfl wd_6_10 dX11_passYear_100 ?_
        refine lv_iload_n hx hb dX11_passYear_103 rfl (lv_at hl 1 rfl) ?_
        refine lv_aload_n hx hb dX11_passYear_104 rfl (lv_at hl 0 rfl) ?_
        refine g_get hx hb hG hown hK hw inlX11 (ci := 9) rfl 0 28 (Nat.le_of_ble_eq_true rfl) rfl rfl wd_6_11 dX11_passYear_105 ?_
        refine lv_iload_n hx hb dX11_passYear_108 rfl (lv_at hl 1 rfl) ?_
        obtain ⟨hi5, hf⟩ := gA_s hf
        refine g_iald hx hb hK hw 2 rfl hi5 dX11_passYear_109 ?_
        obtain ⟨hi6, hf⟩ := gA_s hf
        refine g_iast (ws' := (wX11_passYear E o_t a_t v_t_there v_t_wind v_t_force v_t_rains v_t_lost v_t_hours v_t_sights v_t_padMany v_t_acts v_t_blownMany v_t_badAct v_t_badWhy v_t_ruinAct v_t_ruinWho v_t_keptAt v_t_isWriting (upd f_t_grown (Int32.toNatClampNeg x1) (f_t_grownThen (Int32.toNatClampNeg x1))) f_t_grownThen)) hx hb hK hw 1 rfl hi6 rfl dX11_passYear_110 (fun H locs hw => ?_)
        refine lv_iinc (lv' := [(1, .int (x1 + 1)), (0, .ref o_t)]) hx hb dX11_passYear_111 hl (k := 1) rfl (k_inc1 _) (Nat.le_of_ble_eq_true rfl) rfl (fun ls hl => ?_)
        refine lv_goto (tgt := 93) hx hb dX11_passYear_114 (by decide) ?_
        exact ih (upd f_t_grown (Int32.toNatClampNeg x1) (f_t_grownThen (Int32.toNatClampNeg x1))) f_t_grownThen (x1 + 1) _ _ _ hf hw (lv_sub hl [1, 0] rfl)
  have B23 : ∀ n : Nat, ∀ (f_t_grown : (Nat → Int32)) (f_t_grownThen : (Nat → Int32)) (x1 : Int32) (H : Heap) (locs : List Loc) (ls : Array Slot), fX11_passYear_b23 v_t_wind v_t_force n f_t_grown f_t_grownThen x1 = some (z_t_grown, z_t_grownThen) → gS E A s.heap (wX11_passYear E o_t a_t v_t_there v_t_wind v_t_force v_t_rains v_t_lost v_t_hours v_t_sights v_t_padMany v_t_acts v_t_blownMany v_t_badAct v_t_badWhy v_t_ruinAct v_t_ruinWho v_t_keptAt v_t_isWriting f_t_grown f_t_grownThen) H locs → lv_has ls 4 [(0, .ref o_t), (1, .int x1)] → W p l e ({ frames := 2, cells := 0, slots := 0, locals := 49 } : Room) s m args below meth cd H locs 0 0 Q (F0 m 23 ls []) := by
    intro n
    induction n with
    | zero => intro f_t_grown f_t_grownThen x1 H locs ls hf hw hl; exact g_no hf
    | succ n ih =>
      intro f_t_grown f_t_grownThen x1 H locs ls hf hw hl
      refine lv_iload_n hx hb dX11_passYear_23 rfl (lv_at hl 1 rfl) ?_
      refine lv_bipush (v := 36) hx hb dX11_passYear_24 k_b36 ?_
      refine lv_icmp_ge (tgt := 91) hx hb dX11_passYear_26 (by decide) (fun hc => ?_) (fun hc => ?_)
      · have hf := g_t hc hf
        refine lv_iconst (v := 0) hx hb dX11_passYear_91 k_i0 ?_
        refine lv_istore_n (lv' := [(1, .int 0), (0, .ref o_t)]) hx hb dX11_passYear_92 rfl hl (Nat.le_of_ble_eq_true rfl) rfl (fun ls hl => ?_)
        exact B93 1000 f_t_grown f_t_grownThen 0 _ _ _ hf hw (lv_sub hl [1, 0] rfl)
      · have hf := g_f hc hf
        refine lv_iconst (v := 2) hx hb dX11_passYear_29 k_i2 ?_
        refine lv_aload_n hx hb dX11_passYear_30 rfl (lv_at hl 0 rfl) ?_
        refine g_get hx hb hG hown hK hw inlX11 (ci := 9) rfl 0 27 (Nat.le_of_ble_eq_true rfl) rfl rfl wd_6_10 dX11_passYear_31 ?_
        refine lv_iload_n hx hb dX11_passYear_34 rfl (lv_at hl 1 rfl) ?_
        obtain ⟨hi7, hf⟩ := gA_s hf
        refine g_iald hx hb hK hw 1 rfl hi7 dX11_passYear_35 ?_
        refine lv_imul hx hb dX11_passYear_36 ?_
        refine lv_sipush (v := 999) hx hb dX11_passYear_37 k_s999 ?_
        refine lv_icmp_le (tgt := 49) hx hb dX11_passYear_40 (by decide) (fun hc => ?_) (fun hc => ?_)
        · have hf := g_t hc hf
          refine lv_iconst (v := 2) hx hb dX11_passYear_49 k_i2 ?_
          refine lv_aload_n hx hb dX11_passYear_50 rfl (lv_at hl 0 rfl) ?_
          refine g_get hx hb hG hown hK hw inlX11 (ci := 9) rfl 0 27 (Nat.le_of_ble_eq_true rfl) rfl rfl wd_6_10 dX11_passYear_51 ?_
          refine lv_iload_n hx hb dX11_passYear_54 rfl (lv_at hl 1 rfl) ?_
          obtain ⟨hi8, hf⟩ := gA_s hf
          refine g_iald hx hb hK hw 1 rfl hi8 dX11_passYear_55 ?_
          refine lv_imul hx hb dX11_passYear_56 ?_
          exact B57 (fX11_passYear_b23 v_t_wind v_t_force n) ih f_t_grown f_t_grownThen x1 (2 * (f_t_grown (Int32.toNatClampNeg x1))) _ _ _ hf hw (lv_sub hl [0, 1] rfl)
        · have hf := g_f hc hf
          refine lv_sipush (v := 999) hx hb dX11_passYear_43 k_s999 ?_
          refine lv_goto (tgt := 57) hx hb dX11_passYear_46 (by decide) ?_
          exact B57 (fX11_passYear_b23 v_t_wind v_t_force n) ih f_t_grown f_t_grownThen x1 999 _ _ _ hf hw (lv_sub hl [0, 1] rfl)
  have B2 : ∀ n : Nat, ∀ (f_t_grown : (Nat → Int32)) (f_t_grownThen : (Nat → Int32)) (x1 : Int32) (H : Heap) (locs : List Loc) (ls : Array Slot), fX11_passYear_b2 v_t_wind v_t_force n f_t_grown f_t_grownThen x1 = some (z_t_grown, z_t_grownThen) → gS E A s.heap (wX11_passYear E o_t a_t v_t_there v_t_wind v_t_force v_t_rains v_t_lost v_t_hours v_t_sights v_t_padMany v_t_acts v_t_blownMany v_t_badAct v_t_badWhy v_t_ruinAct v_t_ruinWho v_t_keptAt v_t_isWriting f_t_grown f_t_grownThen) H locs → lv_has ls 4 [(0, .ref o_t), (1, .int x1)] → W p l e ({ frames := 2, cells := 0, slots := 0, locals := 49 } : Room) s m args below meth cd H locs 0 0 Q (F0 m 2 ls []) := by
    intro n
    induction n with
    | zero => intro f_t_grown f_t_grownThen x1 H locs ls hf hw hl; exact g_no hf
    | succ n ih =>
      intro f_t_grown f_t_grownThen x1 H locs ls hf hw hl
      refine lv_iload_n hx hb dX11_passYear_2 rfl (lv_at hl 1 rfl) ?_
      refine lv_bipush (v := 36) hx hb dX11_passYear_3 k_b36 ?_
      refine lv_icmp_ge (tgt := 21) hx hb dX11_passYear_5 (by decide) (fun hc => ?_) (fun hc => ?_)
      · have hf := g_t hc hf
        refine lv_iconst (v := 0) hx hb dX11_passYear_21 k_i0 ?_
        refine lv_istore_n (lv' := [(1, .int 0), (0, .ref o_t)]) hx hb dX11_passYear_22 rfl hl (Nat.le_of_ble_eq_true rfl) rfl (fun ls hl => ?_)
        exact B23 1000 f_t_grown f_t_grownThen 0 _ _ _ hf hw (lv_sub hl [1, 0] rfl)
      · have hf := g_f hc hf
        refine lv_aload_n hx hb dX11_passYear_8 rfl (lv_at hl 0 rfl) ?_
        refine g_get hx hb hG hown hK hw inlX11 (ci := 9) rfl 0 28 (Nat.le_of_ble_eq_true rfl) rfl rfl wd_6_11 dX11_passYear_9 ?_
        refine lv_iload_n hx hb dX11_passYear_12 rfl (lv_at hl 1 rfl) ?_
        refine lv_iconst (v := 0) hx hb dX11_passYear_13 k_i0 ?_
        obtain ⟨hi9, hf⟩ := gA_s hf
        refine g_iast (ws' := (wX11_passYear E o_t a_t v_t_there v_t_wind v_t_force v_t_rains v_t_lost v_t_hours v_t_sights v_t_padMany v_t_acts v_t_blownMany v_t_badAct v_t_badWhy v_t_ruinAct v_t_ruinWho v_t_keptAt v_t_isWriting f_t_grown (upd f_t_grownThen (Int32.toNatClampNeg x1) 0))) hx hb hK hw 2 rfl hi9 rfl dX11_passYear_14 (fun H locs hw => ?_)
        refine lv_iinc (lv' := [(1, .int (x1 + 1)), (0, .ref o_t)]) hx hb dX11_passYear_15 hl (k := 1) rfl (k_inc1 _) (Nat.le_of_ble_eq_true rfl) rfl (fun ls hl => ?_)
        refine lv_goto (tgt := 2) hx hb dX11_passYear_18 (by decide) ?_
        exact ih f_t_grown (upd f_t_grownThen (Int32.toNatClampNeg x1) 0) (x1 + 1) _ _ _ hf hw (lv_sub hl [1, 0] rfl)
  refine lv_iconst (v := 0) hx hb dX11_passYear_0 k_i0 ?_
  refine lv_istore_n (lv' := [(1, .int 0), (0, .ref o_t)]) hx hb dX11_passYear_1 rfl hl (Nat.le_of_ble_eq_true rfl) rfl (fun ls hl => ?_)
  exact B2 1000 f_t_grown f_t_grownThen 0 _ _ _ hf hw (lv_sub hl [1, 0] rfl)
theorem hX11_principal : yX11_principal.cls = RX11 ∧ yX11_principal.cls ≠ "java/lang/invoke/MethodHandle" ∧ yX11_principal.cls ≠ "java/lang/invoke/VarHandle" ∧ (parseMethodDescriptor yX11_principal.desc).map (fun d => d.parameters.length) = some 2 := by decide +kernel
set_option maxHeartbeats 4000000 in
set_option maxRecDepth 100000 in
theorem mX11_principal (l : Launch) (E : gE) (o_t : Nat) (a_t : (Nat → Nat)) (v_t_there : Int32) (v_t_wind : Int32) (v_t_force : Int32) (v_t_rains : Int32) (v_t_lost : Int32) (v_t_hours : Int32) (v_t_sights : Int32) (v_t_padMany : Int32) (v_t_acts : Int32) (v_t_blownMany : Int32) (v_t_badAct : Int32) (v_t_badWhy : Int32) (v_t_ruinAct : Int32) (v_t_ruinWho : Int32) (v_t_keptAt : Int32) (v_t_isWriting : Int32) (f_t_heap : (Nat → Int32)) (f_t_grown : (Nat → Int32)) (f_t_grownThen : (Nat → Int32)) (x1 : Int32) (x2 : Int32) (rv : Int32) (z_t_grown : (Nat → Int32)) (z_t_grownThen : (Nat → Int32)) (hf : fX11_principal v_t_wind v_t_force f_t_heap f_t_grown f_t_grownThen x1 x2 = some (rv, z_t_grown, z_t_grownThen)) {sz : Nat} : gMi l yX11_principal (gW yX11_principal cX11_principal 6 (some .int)) ({ frames := 3, cells := 0, slots := 0, locals := 72 } : Room) E [.ref o_t, .int x1, .int x2] (wX11_principal E o_t a_t v_t_there v_t_wind v_t_force v_t_rains v_t_lost v_t_hours v_t_sights v_t_padMany v_t_acts v_t_blownMany v_t_badAct v_t_badWhy v_t_ruinAct v_t_ruinWho v_t_keptAt v_t_isWriting f_t_heap f_t_grown f_t_grownThen) sz rv (wX11_principal E o_t a_t v_t_there v_t_wind v_t_force v_t_rains v_t_lost v_t_hours v_t_sights v_t_padMany v_t_acts v_t_blownMany v_t_badAct v_t_badWhy v_t_ruinAct v_t_ruinWho v_t_keptAt v_t_isWriting f_t_heap z_t_grown z_t_grownThen) := by
  refine g_openI (own := RX11) (by decide) rfl (Nat.le_of_ble_eq_true rfl) (fun p e s m args below meth cd Q A hx hb hml hown hG hK hA hret hw ls hl => ?_)
  have hl : lv_has ls 6 [(0, .ref o_t), (1, .int x1), (2, .int x2)] := hl
  have hret1 : ∀ (t : Int32 × (Nat → Int32) × (Nat → Int32)) (H : Heap) (locs : List Loc) (pc : Nat) (ls : Array Slot), some t = some (rv, z_t_grown, z_t_grownThen) → gS E A s.heap (wX11_principal E o_t a_t v_t_there v_t_wind v_t_force v_t_rains v_t_lost v_t_hours v_t_sights v_t_padMany v_t_acts v_t_blownMany v_t_badAct v_t_badWhy v_t_ruinAct v_t_ruinWho v_t_keptAt v_t_isWriting f_t_heap t.2.1 t.2.2) H locs → decode cX11_principal pc = .ok (.ireturn, 1) → W p l e ({ frames := 3, cells := 0, slots := 0, locals := 72 } : Room) s m args below meth cd H locs 0 0 Q (F0 m pc ls [.int t.1]) := by
    intro t H locs pc ls h hw hd
    obtain rfl : t = (rv, z_t_grown, z_t_grownThen) := Option.some.inj h
    exact hret H locs pc ls hw hd
  have B22 : ∀ (f_t_grown : (Nat → Int32)) (f_t_grownThen : (Nat → Int32)) (H : Heap) (locs : List Loc) (ls : Array Slot), fX11_principal_b22 f_t_grown f_t_grownThen = some (rv, z_t_grown, z_t_grownThen) → gS E A s.heap (wX11_principal E o_t a_t v_t_there v_t_wind v_t_force v_t_rains v_t_lost v_t_hours v_t_sights v_t_padMany v_t_acts v_t_blownMany v_t_badAct v_t_badWhy v_t_ruinAct v_t_ruinWho v_t_keptAt v_t_isWriting f_t_heap f_t_grown f_t_grownThen) H locs → lv_has ls 6 [] → W p l e ({ frames := 3, cells := 0, slots := 0, locals := 72 } : Room) s m args below meth cd H locs 0 0 Q (F0 m 22 ls []) := by
    intro  f_t_grown f_t_grownThen H locs ls hf hw hl
    refine lv_bipush (v := -2) hx hb dX11_principal_22 k_bm2 ?_
    exact hret1 ((-2), f_t_grown, f_t_grownThen) _ _ _ _ hf hw dX11_principal_24
  have B117 : ∀ (K76 : (Nat → Int32) → (Nat → Int32) → Int32 → Int32 → Int32 → Int32 → Option (Int32 × (Nat → Int32) × (Nat → Int32))) (hK76 : ∀ (f_t_grown : (Nat → Int32)) (f_t_grownThen : (Nat → Int32)) (x2 : Int32) (x3 : Int32) (x4 : Int32) (x5 : Int32) (H : Heap) (locs : List Loc) (ls : Array Slot), K76 f_t_grown f_t_grownThen x2 x3 x4 x5 = some (rv, z_t_grown, z_t_grownThen) → gS E A s.heap (wX11_principal E o_t a_t v_t_there v_t_wind v_t_force v_t_rains v_t_lost v_t_hours v_t_sights v_t_padMany v_t_acts v_t_blownMany v_t_badAct v_t_badWhy v_t_ruinAct v_t_ruinWho v_t_keptAt v_t_isWriting f_t_heap f_t_grown f_t_grownThen) H locs → lv_has ls 6 [(0, .ref o_t), (2, .int x2), (3, .int x3), (4, .int x4), (5, .int x5)] → W p l e ({ frames := 3, cells := 0, slots := 0, locals := 72 } : Room) s m args below meth cd H locs 0 0 Q (F0 m 76 ls [])), ∀ (f_t_grown : (Nat → Int32)) (f_t_grownThen : (Nat → Int32)) (x2 : Int32) (x3 : Int32) (x5 : Int32) (s0 : Int32) (H : Heap) (locs : List Loc) (ls : Array Slot), fX11_principal_b117 K76 f_t_grown f_t_grownThen x2 x3 x5 s0 = some (rv, z_t_grown, z_t_grownThen) → gS E A s.heap (wX11_principal E o_t a_t v_t_there v_t_wind v_t_force v_t_rains v_t_lost v_t_hours v_t_sights v_t_padMany v_t_acts v_t_blownMany v_t_badAct v_t_badWhy v_t_ruinAct v_t_ruinWho v_t_keptAt v_t_isWriting f_t_heap f_t_grown f_t_grownThen) H locs → lv_has ls 6 [(0, .ref o_t), (2, .int x2), (3, .int x3), (5, .int x5)] → W p l e ({ frames := 3, cells := 0, slots := 0, locals := 72 } : Room) s m args below meth cd H locs 0 0 Q (F0 m 117 ls [.int s0]) := by
    intro K76 hK76 f_t_grown f_t_grownThen x2 x3 x5 s0 H locs ls hf hw hl
    refine lv_istore (lv' := [(4, .int s0), (0, .ref o_t), (2, .int x2), (3, .int x3), (5, .int x5)]) hx hb dX11_principal_117 hl (Nat.le_of_ble_eq_true rfl) rfl (fun ls hl => ?_)
    refine lv_iinc (lv' := [(5, .int (x5 + 1)), (4, .int s0), (0, .ref o_t), (2, .int x2), (3, .int x3)]) hx hb dX11_principal_119 hl (k := 4) rfl (k_inc1 _) (Nat.le_of_ble_eq_true rfl) rfl (fun ls hl => ?_)
    refine lv_goto (tgt := 76) hx hb dX11_principal_122 (by decide) ?_
    exact hK76 f_t_grown f_t_grownThen x2 x3 s0 (x5 + 1) _ _ _ hf hw (lv_sub hl [2, 3, 4, 1, 0] rfl)
  have B135 : ∀ (f_t_grown : (Nat → Int32)) (f_t_grownThen : (Nat → Int32)) (s0 : Int32) (H : Heap) (locs : List Loc) (ls : Array Slot), fX11_principal_b135 f_t_grown f_t_grownThen s0 = some (rv, z_t_grown, z_t_grownThen) → gS E A s.heap (wX11_principal E o_t a_t v_t_there v_t_wind v_t_force v_t_rains v_t_lost v_t_hours v_t_sights v_t_padMany v_t_acts v_t_blownMany v_t_badAct v_t_badWhy v_t_ruinAct v_t_ruinWho v_t_keptAt v_t_isWriting f_t_heap f_t_grown f_t_grownThen) H locs → lv_has ls 6 [] → W p l e ({ frames := 3, cells := 0, slots := 0, locals := 72 } : Room) s m args below meth cd H locs 0 0 Q (F0 m 135 ls [.int s0]) := by
    intro  f_t_grown f_t_grownThen s0 H locs ls hf hw hl
    exact hret1 (s0, f_t_grown, f_t_grownThen) _ _ _ _ hf hw dX11_principal_135
  have B76 : ∀ n : Nat, ∀ (f_t_grown : (Nat → Int32)) (f_t_grownThen : (Nat → Int32)) (x2 : Int32) (x3 : Int32) (x4 : Int32) (x5 : Int32) (H : Heap) (locs : List Loc) (ls : Array Slot), fX11_principal_b76 n f_t_grown f_t_grownThen x2 x3 x4 x5 = some (rv, z_t_grown, z_t_grownThen) → gS E A s.heap (wX11_principal E o_t a_t v_t_there v_t_wind v_t_force v_t_rains v_t_lost v_t_hours v_t_sights v_t_padMany v_t_acts v_t_blownMany v_t_badAct v_t_badWhy v_t_ruinAct v_t_ruinWho v_t_keptAt v_t_isWriting f_t_heap f_t_grown f_t_grownThen) H locs → lv_has ls 6 [(0, .ref o_t), (2, .int x2), (3, .int x3), (4, .int x4), (5, .int x5)] → W p l e ({ frames := 3, cells := 0, slots := 0, locals := 72 } : Room) s m args below meth cd H locs 0 0 Q (F0 m 76 ls []) := by
    intro n
    induction n with
    | zero => intro f_t_grown f_t_grownThen x2 x3 x4 x5 H locs ls hf hw hl; exact g_no hf
    | succ n ih =>
      intro f_t_grown f_t_grownThen x2 x3 x4 x5 H locs ls hf hw hl
      refine lv_iload hx hb dX11_principal_76 (lv_at hl 4 rfl) ?_
      refine lv_bipush (v := 36) hx hb dX11_principal_78 k_b36 ?_
      refine lv_icmp_ge (tgt := 125) hx hb dX11_principal_80 (by decide) (fun hc => ?_) (fun hc => ?_)
      · have hf := g_t hc hf
        refine lv_iload_n hx hb dX11_principal_125 rfl (lv_at hl 1 rfl) ?_
        refine lv_if_ne (tgt := 133) hx hb dX11_principal_126 (by decide) (fun hc => ?_) (fun hc => ?_)
        · have hf := g_f hc hf
          refine lv_iload hx hb dX11_principal_133 (lv_at hl 3 rfl) ?_
          exact B135 f_t_grown f_t_grownThen x4 _ _ _ hf hw (lv_sub hl [] rfl)
        · have hf := g_t hc hf
          refine lv_iload_n hx hb dX11_principal_129 rfl (lv_at hl 2 rfl) ?_
          refine lv_goto (tgt := 135) hx hb dX11_principal_130 (by decide) ?_
          exact B135 f_t_grown f_t_grownThen x3 _ _ _ hf hw (lv_sub hl [] rfl)
      · have hf := g_f hc hf
        refine lv_iload_n hx hb dX11_principal_83 rfl (lv_at hl 2 rfl) ?_
        refine lv_aload_n hx hb dX11_principal_84 rfl (lv_at hl 0 rfl) ?_
        refine g_get hx hb hG hown hK hw inlX11 (ci := 9) rfl 0 27 (Nat.le_of_ble_eq_true rfl) rfl rfl wd_6_10 dX11_principal_85 ?_
        refine lv_iload hx hb dX11_principal_88 (lv_at hl 4 rfl) ?_
        obtain ⟨hi1, hf⟩ := gA_s hf
        refine g_iald hx hb hK hw 2 rfl hi1 dX11_principal_90 ?_
        refine lv_iadd hx hb dX11_principal_91 ?_
        refine lv_istore_n (lv' := [(3, .int (x3 + (f_t_grown (Int32.toNatClampNeg x5)))), (0, .ref o_t), (2, .int x2), (4, .int x4), (5, .int x5)]) hx hb dX11_principal_92 rfl hl (Nat.le_of_ble_eq_true rfl) rfl (fun ls hl => ?_)
        refine lv_aload_n hx hb dX11_principal_93 rfl (lv_at hl 1 rfl) ?_
        refine g_get hx hb hG hown hK hw inlX11 (ci := 9) rfl 0 27 (Nat.le_of_ble_eq_true rfl) rfl rfl wd_6_10 dX11_principal_94 ?_
        refine lv_iload hx hb dX11_principal_97 (lv_at hl 4 rfl) ?_
        obtain ⟨hi2, hf⟩ := gA_s hf
        refine g_iald hx hb hK hw 2 rfl hi2 dX11_principal_99 ?_
        refine lv_aload_n hx hb dX11_principal_100 rfl (lv_at hl 1 rfl) ?_
        refine g_get hx hb hG hown hK hw inlX11 (ci := 9) rfl 0 27 (Nat.le_of_ble_eq_true rfl) rfl rfl wd_6_10 dX11_principal_101 ?_
        refine lv_iload hx hb dX11_principal_104 (lv_at hl 3 rfl) ?_
        obtain ⟨hi3, hf⟩ := gA_s hf
        refine g_iald hx hb hK hw 2 rfl hi3 dX11_principal_106 ?_
        refine lv_icmp_le (tgt := 115) hx hb dX11_principal_107 (by decide) (fun hc => ?_) (fun hc => ?_)
        · have hf := g_t hc hf
          refine lv_iload hx hb dX11_principal_115 (lv_at hl 3 rfl) ?_
          exact B117 (fX11_principal_b76 n) ih f_t_grown f_t_grownThen x2 (x3 + (f_t_grown (Int32.toNatClampNeg x5))) x5 x4 _ _ _ hf hw (lv_sub hl [1, 2, 0, 4] rfl)
        · have hf := g_f hc hf
          refine lv_iload hx hb dX11_principal_110 (lv_at hl 4 rfl) ?_
          refine lv_goto (tgt := 117) hx hb dX11_principal_112 (by decide) ?_
          exact B117 (fX11_principal_b76 n) ih f_t_grown f_t_grownThen x2 (x3 + (f_t_grown (Int32.toNatClampNeg x5))) x5 x5 _ _ _ hf hw (lv_sub hl [1, 2, 0, 4] rfl)
  have B53 : ∀ n : Nat, ∀ (f_t_grown : (Nat → Int32)) (f_t_grownThen : (Nat → Int32)) (x1 : Int32) (x2 : Int32) (x3 : Int32) (H : Heap) (locs : List Loc) (ls : Array Slot), fX11_principal_b53 v_t_wind v_t_force n f_t_grown f_t_grownThen x1 x2 x3 = some (rv, z_t_grown, z_t_grownThen) → gS E A s.heap (wX11_principal E o_t a_t v_t_there v_t_wind v_t_force v_t_rains v_t_lost v_t_hours v_t_sights v_t_padMany v_t_acts v_t_blownMany v_t_badAct v_t_badWhy v_t_ruinAct v_t_ruinWho v_t_keptAt v_t_isWriting f_t_heap f_t_grown f_t_grownThen) H locs → lv_has ls 6 [(0, .ref o_t), (1, .int x1), (2, .int x2), (3, .int x3)] → W p l e ({ frames := 3, cells := 0, slots := 0, locals := 72 } : Room) s m args below meth cd H locs 0 0 Q (F0 m 53 ls []) := by
    intro n
    induction n with
    | zero => intro f_t_grown f_t_grownThen x1 x2 x3 H locs ls hf hw hl; exact g_no hf
    | succ n ih =>
      intro f_t_grown f_t_grownThen x1 x2 x3 H locs ls hf hw hl
      refine lv_iload_n hx hb dX11_principal_53 rfl (lv_at hl 3 rfl) ?_
      refine lv_iload_n hx hb dX11_principal_54 rfl (lv_at hl 1 rfl) ?_
      refine lv_icmp_ge (tgt := 68) hx hb dX11_principal_55 (by decide) (fun hc => ?_) (fun hc => ?_)
      · have hf := g_t hc hf
        refine lv_iconst (v := 0) hx hb dX11_principal_68 k_i0 ?_
        refine lv_istore_n (lv' := [(3, .int 0), (0, .ref o_t), (1, .int x1), (2, .int x2)]) hx hb dX11_principal_69 rfl hl (Nat.le_of_ble_eq_true rfl) rfl (fun ls hl => ?_)
        refine lv_iconst (v := 0) hx hb dX11_principal_70 k_i0 ?_
        refine lv_istore (lv' := [(4, .int 0), (3, .int 0), (0, .ref o_t), (1, .int x1), (2, .int x2)]) hx hb dX11_principal_71 hl (Nat.le_of_ble_eq_true rfl) rfl (fun ls hl => ?_)
        refine lv_iconst (v := 0) hx hb dX11_principal_73 k_i0 ?_
        refine lv_istore (lv' := [(5, .int 0), (4, .int 0), (3, .int 0), (0, .ref o_t), (1, .int x1), (2, .int x2)]) hx hb dX11_principal_74 hl (Nat.le_of_ble_eq_true rfl) rfl (fun ls hl => ?_)
        exact B76 1000 f_t_grown f_t_grownThen x2 0 0 0 _ _ _ hf hw (lv_sub hl [3, 5, 2, 1, 0] rfl)
      · have hf := g_f hc hf
        refine lv_aload_n hx hb dX11_principal_58 rfl (lv_at hl 0 rfl) ?_
        obtain ⟨⟨r4_0, r4_1⟩, hc5, hf⟩ := gB_s hf
        refine g_kv (is := [0, 2, 3]) (isR := [1]) (nW := 4) (w1 := (wX11_passYear E o_t a_t v_t_there v_t_wind v_t_force v_t_rains v_t_lost v_t_hours v_t_sights v_t_padMany v_t_acts v_t_blownMany v_t_badAct v_t_badWhy v_t_ruinAct v_t_ruinWho v_t_keptAt v_t_isWriting r4_0 r4_1)) (ws' := (wX11_principal E o_t a_t v_t_there v_t_wind v_t_force v_t_rains v_t_lost v_t_hours v_t_sights v_t_padMany v_t_acts v_t_blownMany v_t_badAct v_t_badWhy v_t_ruinAct v_t_ruinWho v_t_keptAt v_t_isWriting f_t_heap r4_0 r4_1)) hw hA (g_rV hx hb hml hG hown hK hw (is := [0, 2, 3]) rfl (by decide) (mX11_passYear l E o_t a_t v_t_there v_t_wind v_t_force v_t_rains v_t_lost v_t_hours v_t_sights v_t_padMany v_t_acts v_t_blownMany v_t_badAct v_t_badWhy v_t_ruinAct v_t_ruinWho v_t_keptAt v_t_isWriting f_t_grown f_t_grownThen r4_0 r4_1 hc5) wd_29_18 wd_29_19 wd_29_20 wd_1_5 wd_29_21 hX11_passYear g_allgood ⟨rfl, rfl⟩ ⟨Nat.le_of_ble_eq_true rfl, Nat.le_of_ble_eq_true rfl⟩ ⟨Nat.zero_le _, Nat.zero_le _⟩ (ci := 9) (q0 := 0) rfl rfl rfl rfl hl.1 rfl (Nat.le_of_ble_eq_true rfl) dX11_principal_59) rfl (g_had [o_t, (a_t 27), (a_t 28)] rfl rfl) rfl (⟨⟨_, rfl, rfl⟩, trivial⟩) rfl rfl (by decide) (fun H locs hw => ?_)
        refine lv_iinc (lv' := [(3, .int (x3 + 1)), (0, .ref o_t), (1, .int x1), (2, .int x2)]) hx hb dX11_principal_62 hl (k := 3) rfl (k_inc1 _) (Nat.le_of_ble_eq_true rfl) rfl (fun ls hl => ?_)
        refine lv_goto (tgt := 53) hx hb dX11_principal_65 (by decide) ?_
        exact ih r4_0 r4_1 x1 x2 (x3 + 1) _ _ _ hf hw (lv_sub hl [1, 2, 3, 0] rfl)
  have B27 : ∀ n : Nat, ∀ (f_t_grown : (Nat → Int32)) (f_t_grownThen : (Nat → Int32)) (x1 : Int32) (x2 : Int32) (x3 : Int32) (H : Heap) (locs : List Loc) (ls : Array Slot), fX11_principal_b27 v_t_wind v_t_force f_t_heap n f_t_grown f_t_grownThen x1 x2 x3 = some (rv, z_t_grown, z_t_grownThen) → gS E A s.heap (wX11_principal E o_t a_t v_t_there v_t_wind v_t_force v_t_rains v_t_lost v_t_hours v_t_sights v_t_padMany v_t_acts v_t_blownMany v_t_badAct v_t_badWhy v_t_ruinAct v_t_ruinWho v_t_keptAt v_t_isWriting f_t_heap f_t_grown f_t_grownThen) H locs → lv_has ls 6 [(0, .ref o_t), (1, .int x1), (2, .int x2), (3, .int x3)] → W p l e ({ frames := 3, cells := 0, slots := 0, locals := 72 } : Room) s m args below meth cd H locs 0 0 Q (F0 m 27 ls []) := by
    intro n
    induction n with
    | zero => intro f_t_grown f_t_grownThen x1 x2 x3 H locs ls hf hw hl; exact g_no hf
    | succ n ih =>
      intro f_t_grown f_t_grownThen x1 x2 x3 H locs ls hf hw hl
      refine lv_iload_n hx hb dX11_principal_27 rfl (lv_at hl 3 rfl) ?_
      refine lv_bipush (v := 36) hx hb dX11_principal_28 k_b36 ?_
      refine lv_icmp_ge (tgt := 51) hx hb dX11_principal_30 (by decide) (fun hc => ?_) (fun hc => ?_)
      · have hf := g_t hc hf
        refine lv_iconst (v := 0) hx hb dX11_principal_51 k_i0 ?_
        refine lv_istore_n (lv' := [(3, .int 0), (0, .ref o_t), (1, .int x1), (2, .int x2)]) hx hb dX11_principal_52 rfl hl (Nat.le_of_ble_eq_true rfl) rfl (fun ls hl => ?_)
        exact B53 1000 f_t_grown f_t_grownThen x1 x2 0 _ _ _ hf hw (lv_sub hl [1, 2, 3, 0] rfl)
      · have hf := g_f hc hf
        refine lv_aload_n hx hb dX11_principal_33 rfl (lv_at hl 0 rfl) ?_
        refine g_get hx hb hG hown hK hw inlX11 (ci := 9) rfl 0 27 (Nat.le_of_ble_eq_true rfl) rfl rfl wd_6_10 dX11_principal_34 ?_
        refine lv_iload_n hx hb dX11_principal_37 rfl (lv_at hl 3 rfl) ?_
        refine lv_aload_n hx hb dX11_principal_38 rfl (lv_at hl 0 rfl) ?_
        refine g_get hx hb hG hown hK hw inlX11 (ci := 9) rfl 0 5 (Nat.le_of_ble_eq_true rfl) rfl rfl wd_6_1 dX11_principal_39 ?_
        refine lv_iload_n hx hb dX11_principal_42 rfl (lv_at hl 3 rfl) ?_
        obtain ⟨hi6, hf⟩ := gA_s hf
        refine g_iald hx hb hK hw 1 rfl hi6 dX11_principal_43 ?_
        obtain ⟨hi7, hf⟩ := gA_s hf
        refine g_iast (ws' := (wX11_principal E o_t a_t v_t_there v_t_wind v_t_force v_t_rains v_t_lost v_t_hours v_t_sights v_t_padMany v_t_acts v_t_blownMany v_t_badAct v_t_badWhy v_t_ruinAct v_t_ruinWho v_t_keptAt v_t_isWriting f_t_heap (upd f_t_grown (Int32.toNatClampNeg x3) (f_t_heap (Int32.toNatClampNeg x3))) f_t_grownThen)) hx hb hK hw 2 rfl hi7 rfl dX11_principal_44 (fun H locs hw => ?_)
        refine lv_iinc (lv' := [(3, .int (x3 + 1)), (0, .ref o_t), (1, .int x1), (2, .int x2)]) hx hb dX11_principal_45 hl (k := 3) rfl (k_inc1 _) (Nat.le_of_ble_eq_true rfl) rfl (fun ls hl => ?_)
        refine lv_goto (tgt := 27) hx hb dX11_principal_48 (by decide) ?_
        exact ih (upd f_t_grown (Int32.toNatClampNeg x3) (f_t_heap (Int32.toNatClampNeg x3))) f_t_grownThen x1 x2 (x3 + 1) _ _ _ hf hw (lv_sub hl [1, 2, 3, 0] rfl)
  refine lv_iload_n hx hb dX11_principal_0 rfl (lv_at hl 1 rfl) ?_
  refine lv_i2l hx hb dX11_principal_1 rfl ?_
  refine lv_lconst (v := 0) hx hb dX11_principal_2 k_l0 ?_
  refine lv_ldc2 hx hb hown (hG _ wd_29_17) dX11_principal_3 ?_
  obtain ⟨r8, hc9, hf⟩ := gB_s hf
  refine g_ki0 (is := []) hw hA (g_rS hx hb hml hG hown hK hw (is := []) rfl (by decide) (mX11_in l E (Int32.toInt64 x1) 0 12 r8 hc9) wd_8_10 wd_8_11 wd_1_5 wd_8_12 hX11_in g_allgood ⟨rfl, rfl⟩ ⟨Nat.le_of_ble_eq_true rfl, Nat.le_of_ble_eq_true rfl⟩ ⟨Nat.zero_le _, Nat.zero_le _⟩ rfl hl.1 rfl (Nat.le_of_ble_eq_true rfl) dX11_principal_6) rfl (fun H locs hw => ?_)
  refine lv_if_eq (tgt := 22) hx hb dX11_principal_9 (by decide) (fun hc => ?_) (fun hc => ?_)
  · have hf := g_t hc hf
    exact B22 f_t_grown f_t_grownThen _ _ _ hf hw (lv_sub hl [] rfl)
  · have hf := g_f hc hf
    refine lv_iload_n hx hb dX11_principal_12 rfl (lv_at hl 2 rfl) ?_
    refine lv_i2l hx hb dX11_principal_13 rfl ?_
    refine lv_lconst (v := 0) hx hb dX11_principal_14 k_l0 ?_
    refine lv_lconst (v := 1) hx hb dX11_principal_15 k_l1 ?_
    obtain ⟨r10, hc11, hf⟩ := gB_s hf
    refine g_ki0 (is := []) hw hA (g_rS hx hb hml hG hown hK hw (is := []) rfl (by decide) (mX11_in l E (Int32.toInt64 x2) 0 1 r10 hc11) wd_8_10 wd_8_11 wd_1_5 wd_8_12 hX11_in g_allgood ⟨rfl, rfl⟩ ⟨Nat.le_of_ble_eq_true rfl, Nat.le_of_ble_eq_true rfl⟩ ⟨Nat.zero_le _, Nat.zero_le _⟩ rfl hl.1 rfl (Nat.le_of_ble_eq_true rfl) dX11_principal_16) rfl (fun H locs hw => ?_)
    refine lv_if_ne (tgt := 25) hx hb dX11_principal_19 (by decide) (fun hc => ?_) (fun hc => ?_)
    · have hf := g_f hc hf
      refine lv_iconst (v := 0) hx hb dX11_principal_25 k_i0 ?_
      refine lv_istore_n (lv' := [(3, .int 0), (0, .ref o_t), (1, .int x1), (2, .int x2)]) hx hb dX11_principal_26 rfl hl (Nat.le_of_ble_eq_true rfl) rfl (fun ls hl => ?_)
      exact B27 1000 f_t_grown f_t_grownThen x1 x2 0 _ _ _ hf hw (lv_sub hl [1, 2, 3, 0] rfl)
    · have hf := g_t hc hf
      exact B22 f_t_grown f_t_grownThen _ _ _ hf hw (lv_sub hl [] rfl)
theorem hX11_tax : yX11_tax.cls = RX11 ∧ yX11_tax.cls ≠ "java/lang/invoke/MethodHandle" ∧ yX11_tax.cls ≠ "java/lang/invoke/VarHandle" ∧ (parseMethodDescriptor yX11_tax.desc).map (fun d => d.parameters.length) = some 2 := by decide +kernel
set_option maxHeartbeats 4000000 in
set_option maxRecDepth 100000 in
theorem mX11_tax (l : Launch) (E : gE) (o_t : Nat) (a_t : (Nat → Nat)) (v_t_there : Int32) (v_t_wind : Int32) (v_t_force : Int32) (v_t_rains : Int32) (v_t_lost : Int32) (v_t_hours : Int32) (v_t_sights : Int32) (v_t_padMany : Int32) (v_t_acts : Int32) (v_t_blownMany : Int32) (v_t_badAct : Int32) (v_t_badWhy : Int32) (v_t_ruinAct : Int32) (v_t_ruinWho : Int32) (v_t_keptAt : Int32) (v_t_isWriting : Int32) (f_t_stem : (Nat → Int32)) (x1 : Int32) (x2 : Int32) (rv : Int32) (hf : fX11_tax v_t_there f_t_stem x1 x2 = some rv) {sz : Nat} : gMi l yX11_tax (gW yX11_tax cX11_tax 8 (some .int)) ({ frames := 3, cells := 0, slots := 0, locals := 68 } : Room) E [.ref o_t, .int x1, .int x2] (wX11_tax E o_t a_t v_t_there v_t_wind v_t_force v_t_rains v_t_lost v_t_hours v_t_sights v_t_padMany v_t_acts v_t_blownMany v_t_badAct v_t_badWhy v_t_ruinAct v_t_ruinWho v_t_keptAt v_t_isWriting f_t_stem) sz rv (wX11_tax E o_t a_t v_t_there v_t_wind v_t_force v_t_rains v_t_lost v_t_hours v_t_sights v_t_padMany v_t_acts v_t_blownMany v_t_badAct v_t_badWhy v_t_ruinAct v_t_ruinWho v_t_keptAt v_t_isWriting f_t_stem) := by
  refine g_openI (own := RX11) (by decide) rfl (Nat.le_of_ble_eq_true rfl) (fun p e s m args below meth cd Q A hx hb hml hown hG hK hA hret hw ls hl => ?_)
  have hl : lv_has ls 8 [(0, .ref o_t), (1, .int x1), (2, .int x2)] := hl
  have hret1 : ∀ (t : Int32) (H : Heap) (locs : List Loc) (pc : Nat) (ls : Array Slot), some t = some rv → gS E A s.heap (wX11_tax E o_t a_t v_t_there v_t_wind v_t_force v_t_rains v_t_lost v_t_hours v_t_sights v_t_padMany v_t_acts v_t_blownMany v_t_badAct v_t_badWhy v_t_ruinAct v_t_ruinWho v_t_keptAt v_t_isWriting f_t_stem) H locs → decode cX11_tax pc = .ok (.ireturn, 1) → W p l e ({ frames := 3, cells := 0, slots := 0, locals := 68 } : Room) s m args below meth cd H locs 0 0 Q (F0 m pc ls [.int t]) := by
    intro t H locs pc ls h hw hd
    obtain rfl : t = rv := Option.some.inj h
    exact hret H locs pc ls hw hd
  have B147 : ∀ (K45 : Int32 → Int32 → Int32 → Int32 → Int32 → Int32 → Option (Int32)) (hK45 : ∀ (x1 : Int32) (x2 : Int32) (x3 : Int32) (x4 : Int32) (x5 : Int32) (x6 : Int32) (H : Heap) (locs : List Loc) (ls : Array Slot), K45 x1 x2 x3 x4 x5 x6 = some rv → gS E A s.heap (wX11_tax E o_t a_t v_t_there v_t_wind v_t_force v_t_rains v_t_lost v_t_hours v_t_sights v_t_padMany v_t_acts v_t_blownMany v_t_badAct v_t_badWhy v_t_ruinAct v_t_ruinWho v_t_keptAt v_t_isWriting f_t_stem) H locs → lv_has ls 8 [(0, .ref o_t), (1, .int x1), (2, .int x2), (3, .int x3), (4, .int x4), (5, .int x5), (6, .int x6)] → W p l e ({ frames := 3, cells := 0, slots := 0, locals := 68 } : Room) s m args below meth cd H locs 0 0 Q (F0 m 45 ls [])), ∀ (x1 : Int32) (x2 : Int32) (x3 : Int32) (x4 : Int32) (x6 : Int32) (s0 : Int32) (s1 : Int32) (H : Heap) (locs : List Loc) (ls : Array Slot), fX11_tax_b147 K45 v_t_there f_t_stem x1 x2 x3 x4 x6 s0 s1 = some rv → gS E A s.heap (wX11_tax E o_t a_t v_t_there v_t_wind v_t_force v_t_rains v_t_lost v_t_hours v_t_sights v_t_padMany v_t_acts v_t_blownMany v_t_badAct v_t_badWhy v_t_ruinAct v_t_ruinWho v_t_keptAt v_t_isWriting f_t_stem) H locs → lv_has ls 8 [(0, .ref o_t), (1, .int x1), (2, .int x2), (3, .int x3), (4, .int x4), (6, .int x6)] → W p l e ({ frames := 3, cells := 0, slots := 0, locals := 68 } : Room) s m args below meth cd H locs 0 0 Q (F0 m 147 ls [.int s1, .int s0]) := by
    intro K45 hK45 x1 x2 x3 x4 x6 s0 s1 H locs ls hf hw hl
    refine lv_iadd hx hb dX11_tax_147 ?_
    refine lv_istore (lv' := [(5, .int (s0 + s1)), (0, .ref o_t), (1, .int x1), (2, .int x2), (3, .int x3), (4, .int x4), (6, .int x6)]) hx hb dX11_tax_148 hl (Nat.le_of_ble_eq_true rfl) rfl (fun ls hl => ?_)
    refine lv_iinc (lv' := [(6, .int (x6 + 1)), (5, .int (s0 + s1)), (0, .ref o_t), (1, .int x1), (2, .int x2), (3, .int x3), (4, .int x4)]) hx hb dX11_tax_150 hl (k := 6) rfl (k_inc1 _) (Nat.le_of_ble_eq_true rfl) rfl (fun ls hl => ?_)
    refine lv_goto (tgt := 45) hx hb dX11_tax_153 (by decide) ?_
    exact hK45 x1 x2 x3 x4 (s0 + s1) (x6 + 1) _ _ _ hf hw (lv_sub hl [2, 3, 4, 5, 6, 1, 0] rfl)
  have B146 : ∀ (K45 : Int32 → Int32 → Int32 → Int32 → Int32 → Int32 → Option (Int32)) (hK45 : ∀ (x1 : Int32) (x2 : Int32) (x3 : Int32) (x4 : Int32) (x5 : Int32) (x6 : Int32) (H : Heap) (locs : List Loc) (ls : Array Slot), K45 x1 x2 x3 x4 x5 x6 = some rv → gS E A s.heap (wX11_tax E o_t a_t v_t_there v_t_wind v_t_force v_t_rains v_t_lost v_t_hours v_t_sights v_t_padMany v_t_acts v_t_blownMany v_t_badAct v_t_badWhy v_t_ruinAct v_t_ruinWho v_t_keptAt v_t_isWriting f_t_stem) H locs → lv_has ls 8 [(0, .ref o_t), (1, .int x1), (2, .int x2), (3, .int x3), (4, .int x4), (5, .int x5), (6, .int x6)] → W p l e ({ frames := 3, cells := 0, slots := 0, locals := 68 } : Room) s m args below meth cd H locs 0 0 Q (F0 m 45 ls [])), ∀ (x1 : Int32) (x2 : Int32) (x3 : Int32) (x4 : Int32) (x6 : Int32) (s0 : Int32) (H : Heap) (locs : List Loc) (ls : Array Slot), fX11_tax_b146 K45 v_t_there f_t_stem x1 x2 x3 x4 x6 s0 = some rv → gS E A s.heap (wX11_tax E o_t a_t v_t_there v_t_wind v_t_force v_t_rains v_t_lost v_t_hours v_t_sights v_t_padMany v_t_acts v_t_blownMany v_t_badAct v_t_badWhy v_t_ruinAct v_t_ruinWho v_t_keptAt v_t_isWriting f_t_stem) H locs → lv_has ls 8 [(0, .ref o_t), (1, .int x1), (2, .int x2), (3, .int x3), (4, .int x4), (6, .int x6)] → W p l e ({ frames := 3, cells := 0, slots := 0, locals := 68 } : Room) s m args below meth cd H locs 0 0 Q (F0 m 146 ls [.int s0]) := by
    intro K45 hK45 x1 x2 x3 x4 x6 s0 H locs ls hf hw hl
    refine lv_iconst (v := 0) hx hb dX11_tax_146 k_i0 ?_
    exact B147 K45 hK45 x1 x2 x3 x4 x6 s0 0 _ _ _ hf hw (lv_sub hl [0, 1, 2, 3, 4, 5] rfl)
  have B124 : ∀ (K45 : Int32 → Int32 → Int32 → Int32 → Int32 → Int32 → Option (Int32)) (hK45 : ∀ (x1 : Int32) (x2 : Int32) (x3 : Int32) (x4 : Int32) (x5 : Int32) (x6 : Int32) (H : Heap) (locs : List Loc) (ls : Array Slot), K45 x1 x2 x3 x4 x5 x6 = some rv → gS E A s.heap (wX11_tax E o_t a_t v_t_there v_t_wind v_t_force v_t_rains v_t_lost v_t_hours v_t_sights v_t_padMany v_t_acts v_t_blownMany v_t_badAct v_t_badWhy v_t_ruinAct v_t_ruinWho v_t_keptAt v_t_isWriting f_t_stem) H locs → lv_has ls 8 [(0, .ref o_t), (1, .int x1), (2, .int x2), (3, .int x3), (4, .int x4), (5, .int x5), (6, .int x6)] → W p l e ({ frames := 3, cells := 0, slots := 0, locals := 68 } : Room) s m args below meth cd H locs 0 0 Q (F0 m 45 ls [])), ∀ (x1 : Int32) (x2 : Int32) (x3 : Int32) (x4 : Int32) (x5 : Int32) (x6 : Int32) (s0 : Int32) (H : Heap) (locs : List Loc) (ls : Array Slot), fX11_tax_b124 K45 v_t_there f_t_stem x1 x2 x3 x4 x5 x6 s0 = some rv → gS E A s.heap (wX11_tax E o_t a_t v_t_there v_t_wind v_t_force v_t_rains v_t_lost v_t_hours v_t_sights v_t_padMany v_t_acts v_t_blownMany v_t_badAct v_t_badWhy v_t_ruinAct v_t_ruinWho v_t_keptAt v_t_isWriting f_t_stem) H locs → lv_has ls 8 [(0, .ref o_t), (1, .int x1), (2, .int x2), (3, .int x3), (4, .int x4), (5, .int x5), (6, .int x6)] → W p l e ({ frames := 3, cells := 0, slots := 0, locals := 68 } : Room) s m args below meth cd H locs 0 0 Q (F0 m 124 ls [.int s0]) := by
    intro K45 hK45 x1 x2 x3 x4 x5 x6 s0 H locs ls hf hw hl
    refine lv_istore (lv' := [(7, .int s0), (0, .ref o_t), (1, .int x1), (2, .int x2), (3, .int x3), (4, .int x4), (5, .int x5), (6, .int x6)]) hx hb dX11_tax_124 hl (Nat.le_of_ble_eq_true rfl) rfl (fun ls hl => ?_)
    refine lv_iload hx hb dX11_tax_126 (lv_at hl 6 rfl) ?_
    refine lv_aload_n hx hb dX11_tax_128 rfl (lv_at hl 1 rfl) ?_
    refine lv_iload hx hb dX11_tax_129 (lv_at hl 7 rfl) ?_
    obtain ⟨r1, hc2, hf⟩ := gB_s hf
    refine g_ki0 (is := [0]) hw hA (g_rV hx hb hml hG hown hK hw (is := [0]) rfl (by decide) (mX11_isFamily l E o_t a_t v_t_there v_t_wind v_t_force v_t_rains v_t_lost v_t_hours v_t_sights v_t_padMany v_t_acts v_t_blownMany v_t_badAct v_t_badWhy v_t_ruinAct v_t_ruinWho v_t_keptAt v_t_isWriting x6 r1 hc2) wd_8_21 wd_8_22 wd_8_23 wd_1_5 wd_9_0 hX11_isFamily g_allgood ⟨rfl, rfl⟩ ⟨Nat.le_of_ble_eq_true rfl, Nat.le_of_ble_eq_true rfl⟩ ⟨Nat.zero_le _, Nat.zero_le _⟩ (ci := 9) (q0 := 0) rfl rfl rfl rfl hl.1 rfl (Nat.le_of_ble_eq_true rfl) dX11_tax_131) rfl (fun H locs hw => ?_)
    refine lv_if_eq (tgt := 146) hx hb dX11_tax_134 (by decide) (fun hc => ?_) (fun hc => ?_)
    · have hf := g_t hc hf
      exact B146 K45 hK45 x1 x2 x3 x4 x6 x5 _ _ _ hf hw (lv_sub hl [1, 2, 3, 4, 5, 7] rfl)
    · have hf := g_f hc hf
      refine lv_iload hx hb dX11_tax_137 (lv_at hl 0 rfl) ?_
      refine lv_if_eq (tgt := 146) hx hb dX11_tax_139 (by decide) (fun hc => ?_) (fun hc => ?_)
      · have hf := g_t hc hf
        exact B146 K45 hK45 x1 x2 x3 x4 x6 x5 _ _ _ hf hw (lv_sub hl [1, 2, 3, 4, 5, 7] rfl)
      · have hf := g_f hc hf
        refine lv_iconst (v := 1) hx hb dX11_tax_142 k_i1 ?_
        refine lv_goto (tgt := 147) hx hb dX11_tax_143 (by decide) ?_
        exact B147 K45 hK45 x1 x2 x3 x4 x6 x5 1 _ _ _ hf hw (lv_sub hl [1, 2, 3, 4, 5, 7] rfl)
  have B119 : ∀ (K45 : Int32 → Int32 → Int32 → Int32 → Int32 → Int32 → Option (Int32)) (hK45 : ∀ (x1 : Int32) (x2 : Int32) (x3 : Int32) (x4 : Int32) (x5 : Int32) (x6 : Int32) (H : Heap) (locs : List Loc) (ls : Array Slot), K45 x1 x2 x3 x4 x5 x6 = some rv → gS E A s.heap (wX11_tax E o_t a_t v_t_there v_t_wind v_t_force v_t_rains v_t_lost v_t_hours v_t_sights v_t_padMany v_t_acts v_t_blownMany v_t_badAct v_t_badWhy v_t_ruinAct v_t_ruinWho v_t_keptAt v_t_isWriting f_t_stem) H locs → lv_has ls 8 [(0, .ref o_t), (1, .int x1), (2, .int x2), (3, .int x3), (4, .int x4), (5, .int x5), (6, .int x6)] → W p l e ({ frames := 3, cells := 0, slots := 0, locals := 68 } : Room) s m args below meth cd H locs 0 0 Q (F0 m 45 ls [])), ∀ (x1 : Int32) (x2 : Int32) (x3 : Int32) (x4 : Int32) (x5 : Int32) (x6 : Int32) (H : Heap) (locs : List Loc) (ls : Array Slot), fX11_tax_b119 K45 v_t_there f_t_stem x1 x2 x3 x4 x5 x6 = some rv → gS E A s.heap (wX11_tax E o_t a_t v_t_there v_t_wind v_t_force v_t_rains v_t_lost v_t_hours v_t_sights v_t_padMany v_t_acts v_t_blownMany v_t_badAct v_t_badWhy v_t_ruinAct v_t_ruinWho v_t_keptAt v_t_isWriting f_t_stem) H locs → lv_has ls 8 [(0, .ref o_t), (1, .int x1), (2, .int x2), (3, .int x3), (4, .int x4), (5, .int x5), (6, .int x6)] → W p l e ({ frames := 3, cells := 0, slots := 0, locals := 68 } : Room) s m args below meth cd H locs 0 0 Q (F0 m 119 ls []) := by
    intro K45 hK45 x1 x2 x3 x4 x5 x6 H locs ls hf hw hl
    refine lv_iconst (v := 1) hx hb dX11_tax_119 k_i1 ?_
    refine lv_goto (tgt := 124) hx hb dX11_tax_120 (by decide) ?_
    exact B124 K45 hK45 x1 x2 x3 x4 x5 x6 1 _ _ _ hf hw (lv_sub hl [0, 1, 2, 3, 4, 5, 6] rfl)
  have B123 : ∀ (K45 : Int32 → Int32 → Int32 → Int32 → Int32 → Int32 → Option (Int32)) (hK45 : ∀ (x1 : Int32) (x2 : Int32) (x3 : Int32) (x4 : Int32) (x5 : Int32) (x6 : Int32) (H : Heap) (locs : List Loc) (ls : Array Slot), K45 x1 x2 x3 x4 x5 x6 = some rv → gS E A s.heap (wX11_tax E o_t a_t v_t_there v_t_wind v_t_force v_t_rains v_t_lost v_t_hours v_t_sights v_t_padMany v_t_acts v_t_blownMany v_t_badAct v_t_badWhy v_t_ruinAct v_t_ruinWho v_t_keptAt v_t_isWriting f_t_stem) H locs → lv_has ls 8 [(0, .ref o_t), (1, .int x1), (2, .int x2), (3, .int x3), (4, .int x4), (5, .int x5), (6, .int x6)] → W p l e ({ frames := 3, cells := 0, slots := 0, locals := 68 } : Room) s m args below meth cd H locs 0 0 Q (F0 m 45 ls [])), ∀ (x1 : Int32) (x2 : Int32) (x3 : Int32) (x4 : Int32) (x5 : Int32) (x6 : Int32) (H : Heap) (locs : List Loc) (ls : Array Slot), fX11_tax_b123 K45 v_t_there f_t_stem x1 x2 x3 x4 x5 x6 = some rv → gS E A s.heap (wX11_tax E o_t a_t v_t_there v_t_wind v_t_force v_t_rains v_t_lost v_t_hours v_t_sights v_t_padMany v_t_acts v_t_blownMany v_t_badAct v_t_badWhy v_t_ruinAct v_t_ruinWho v_t_keptAt v_t_isWriting f_t_stem) H locs → lv_has ls 8 [(0, .ref o_t), (1, .int x1), (2, .int x2), (3, .int x3), (4, .int x4), (5, .int x5), (6, .int x6)] → W p l e ({ frames := 3, cells := 0, slots := 0, locals := 68 } : Room) s m args below meth cd H locs 0 0 Q (F0 m 123 ls []) := by
    intro K45 hK45 x1 x2 x3 x4 x5 x6 H locs ls hf hw hl
    refine lv_iconst (v := 0) hx hb dX11_tax_123 k_i0 ?_
    exact B124 K45 hK45 x1 x2 x3 x4 x5 x6 0 _ _ _ hf hw (lv_sub hl [0, 1, 2, 3, 4, 5, 6] rfl)
  have B78 : ∀ (K45 : Int32 → Int32 → Int32 → Int32 → Int32 → Int32 → Option (Int32)) (hK45 : ∀ (x1 : Int32) (x2 : Int32) (x3 : Int32) (x4 : Int32) (x5 : Int32) (x6 : Int32) (H : Heap) (locs : List Loc) (ls : Array Slot), K45 x1 x2 x3 x4 x5 x6 = some rv → gS E A s.heap (wX11_tax E o_t a_t v_t_there v_t_wind v_t_force v_t_rains v_t_lost v_t_hours v_t_sights v_t_padMany v_t_acts v_t_blownMany v_t_badAct v_t_badWhy v_t_ruinAct v_t_ruinWho v_t_keptAt v_t_isWriting f_t_stem) H locs → lv_has ls 8 [(0, .ref o_t), (1, .int x1), (2, .int x2), (3, .int x3), (4, .int x4), (5, .int x5), (6, .int x6)] → W p l e ({ frames := 3, cells := 0, slots := 0, locals := 68 } : Room) s m args below meth cd H locs 0 0 Q (F0 m 45 ls [])), ∀ (x1 : Int32) (x2 : Int32) (x3 : Int32) (x5 : Int32) (x6 : Int32) (s0 : Int32) (s1 : Int32) (H : Heap) (locs : List Loc) (ls : Array Slot), fX11_tax_b78 K45 v_t_there f_t_stem x1 x2 x3 x5 x6 s0 s1 = some rv → gS E A s.heap (wX11_tax E o_t a_t v_t_there v_t_wind v_t_force v_t_rains v_t_lost v_t_hours v_t_sights v_t_padMany v_t_acts v_t_blownMany v_t_badAct v_t_badWhy v_t_ruinAct v_t_ruinWho v_t_keptAt v_t_isWriting f_t_stem) H locs → lv_has ls 8 [(0, .ref o_t), (1, .int x1), (2, .int x2), (3, .int x3), (5, .int x5), (6, .int x6)] → W p l e ({ frames := 3, cells := 0, slots := 0, locals := 68 } : Room) s m args below meth cd H locs 0 0 Q (F0 m 78 ls [.int s1, .int s0]) := by
    intro K45 hK45 x1 x2 x3 x5 x6 s0 s1 H locs ls hf hw hl
    refine lv_isub hx hb dX11_tax_78 ?_
    refine lv_istore (lv' := [(4, .int (s0 - s1)), (0, .ref o_t), (1, .int x1), (2, .int x2), (3, .int x3), (5, .int x5), (6, .int x6)]) hx hb dX11_tax_79 hl (Nat.le_of_ble_eq_true rfl) rfl (fun ls hl => ?_)
    refine lv_aload_n hx hb dX11_tax_81 rfl (lv_at hl 1 rfl) ?_
    refine g_get hx hb hG hown hK hw inlX11 (ci := 9) rfl 0 2 (Nat.le_of_ble_eq_true rfl) rfl rfl wd_5_22 dX11_tax_82 ?_
    refine lv_iload hx hb dX11_tax_85 (lv_at hl 6 rfl) ?_
    obtain ⟨hi3, hf⟩ := gA_s hf
    refine g_iald hx hb hK hw 1 rfl hi3 dX11_tax_87 ?_
    refine lv_aload_n hx hb dX11_tax_88 rfl (lv_at hl 1 rfl) ?_
    refine g_get hx hb hG hown hK hw inlX11 (ci := 9) rfl 0 2 (Nat.le_of_ble_eq_true rfl) rfl rfl wd_5_22 dX11_tax_89 ?_
    refine lv_iload_n hx hb dX11_tax_92 rfl (lv_at hl 2 rfl) ?_
    obtain ⟨hi4, hf⟩ := gA_s hf
    refine g_iald hx hb hK hw 1 rfl hi4 dX11_tax_93 ?_
    refine lv_icmp_gt (tgt := 119) hx hb dX11_tax_94 (by decide) (fun hc => ?_) (fun hc => ?_)
    · have hf := g_t hc hf
      exact B119 K45 hK45 x1 x2 x3 (s0 - s1) x5 x6 _ _ _ hf hw (lv_sub hl [1, 2, 3, 4, 0, 5, 6] rfl)
    · have hf := g_f hc hf
      refine lv_aload_n hx hb dX11_tax_97 rfl (lv_at hl 1 rfl) ?_
      refine g_get hx hb hG hown hK hw inlX11 (ci := 9) rfl 0 2 (Nat.le_of_ble_eq_true rfl) rfl rfl wd_5_22 dX11_tax_98 ?_
      refine lv_iload hx hb dX11_tax_101 (lv_at hl 6 rfl) ?_
      obtain ⟨hi5, hf⟩ := gA_s hf
      refine g_iald hx hb hK hw 1 rfl hi5 dX11_tax_103 ?_
      refine lv_aload_n hx hb dX11_tax_104 rfl (lv_at hl 1 rfl) ?_
      refine g_get hx hb hG hown hK hw inlX11 (ci := 9) rfl 0 2 (Nat.le_of_ble_eq_true rfl) rfl rfl wd_5_22 dX11_tax_105 ?_
      refine lv_iload_n hx hb dX11_tax_108 rfl (lv_at hl 2 rfl) ?_
      obtain ⟨hi6, hf⟩ := gA_s hf
      refine g_iald hx hb hK hw 1 rfl hi6 dX11_tax_109 ?_
      refine lv_icmp_ne (tgt := 123) hx hb dX11_tax_110 (by decide) (fun hc => ?_) (fun hc => ?_)
      · have hf := g_f hc hf
        exact B123 K45 hK45 x1 x2 x3 (s0 - s1) x5 x6 _ _ _ hf hw (lv_sub hl [1, 2, 3, 4, 0, 5, 6] rfl)
      · have hf := g_t hc hf
        refine lv_iload hx hb dX11_tax_113 (lv_at hl 6 rfl) ?_
        refine lv_iload_n hx hb dX11_tax_115 rfl (lv_at hl 2 rfl) ?_
        refine lv_icmp_ge (tgt := 123) hx hb dX11_tax_116 (by decide) (fun hc => ?_) (fun hc => ?_)
        · have hf := g_t hc hf
          exact B123 K45 hK45 x1 x2 x3 (s0 - s1) x5 x6 _ _ _ hf hw (lv_sub hl [1, 2, 3, 4, 0, 5, 6] rfl)
        · have hf := g_f hc hf
          exact B119 K45 hK45 x1 x2 x3 (s0 - s1) x5 x6 _ _ _ hf hw (lv_sub hl [1, 2, 3, 4, 0, 5, 6] rfl)
  have B178 : ∀ (s0 : Int32) (s1 : Int32) (H : Heap) (locs : List Loc) (ls : Array Slot), fX11_tax_b178 s0 s1 = some rv → gS E A s.heap (wX11_tax E o_t a_t v_t_there v_t_wind v_t_force v_t_rains v_t_lost v_t_hours v_t_sights v_t_padMany v_t_acts v_t_blownMany v_t_badAct v_t_badWhy v_t_ruinAct v_t_ruinWho v_t_keptAt v_t_isWriting f_t_stem) H locs → lv_has ls 8 [] → W p l e ({ frames := 3, cells := 0, slots := 0, locals := 68 } : Room) s m args below meth cd H locs 0 0 Q (F0 m 178 ls [.int s1, .int s0]) := by
    intro  s0 s1 H locs ls hf hw hl
    refine lv_iadd hx hb dX11_tax_178 ?_
    exact hret1 (s0 + s1) _ _ _ _ hf hw dX11_tax_179
  have B45 : ∀ n : Nat, ∀ (x1 : Int32) (x2 : Int32) (x3 : Int32) (x4 : Int32) (x5 : Int32) (x6 : Int32) (H : Heap) (locs : List Loc) (ls : Array Slot), fX11_tax_b45 v_t_there f_t_stem n x1 x2 x3 x4 x5 x6 = some rv → gS E A s.heap (wX11_tax E o_t a_t v_t_there v_t_wind v_t_force v_t_rains v_t_lost v_t_hours v_t_sights v_t_padMany v_t_acts v_t_blownMany v_t_badAct v_t_badWhy v_t_ruinAct v_t_ruinWho v_t_keptAt v_t_isWriting f_t_stem) H locs → lv_has ls 8 [(0, .ref o_t), (1, .int x1), (2, .int x2), (3, .int x3), (4, .int x4), (5, .int x5), (6, .int x6)] → W p l e ({ frames := 3, cells := 0, slots := 0, locals := 68 } : Room) s m args below meth cd H locs 0 0 Q (F0 m 45 ls []) := by
    intro n
    induction n with
    | zero => intro x1 x2 x3 x4 x5 x6 H locs ls hf hw hl; exact g_no hf
    | succ n ih =>
      intro x1 x2 x3 x4 x5 x6 H locs ls hf hw hl
      refine lv_iload hx hb dX11_tax_45 (lv_at hl 6 rfl) ?_
      refine lv_bipush (v := 6) hx hb dX11_tax_47 k_b6 ?_
      refine lv_icmp_ge (tgt := 156) hx hb dX11_tax_49 (by decide) (fun hc => ?_) (fun hc => ?_)
      · have hf := g_t hc hf
        refine lv_iload_n hx hb dX11_tax_156 rfl (lv_at hl 2 rfl) ?_
        refine lv_aload_n hx hb dX11_tax_157 rfl (lv_at hl 0 rfl) ?_
        refine g_get hx hb hG hown hK hw inlX11 (ci := 9) rfl 0 2 (Nat.le_of_ble_eq_true rfl) rfl rfl wd_5_22 dX11_tax_158 ?_
        refine lv_iload_n hx hb dX11_tax_161 rfl (lv_at hl 1 rfl) ?_
        obtain ⟨hi7, hf⟩ := gA_s hf
        refine g_iald hx hb hK hw 1 rfl hi7 dX11_tax_162 ?_
        refine lv_imul hx hb dX11_tax_163 ?_
        refine lv_iload_n hx hb dX11_tax_164 rfl (lv_at hl 3 rfl) ?_
        obtain ⟨hd8, hf⟩ := gD_s hf
        refine lv_idiv hx hb dX11_tax_165 hd8 ?_
        refine lv_iload hx hb dX11_tax_166 (lv_at hl 5 rfl) ?_
        refine lv_iload hx hb dX11_tax_168 (lv_at hl 4 rfl) ?_
        refine lv_icmp_ge (tgt := 177) hx hb dX11_tax_170 (by decide) (fun hc => ?_) (fun hc => ?_)
        · have hf := g_t hc hf
          refine lv_iconst (v := 0) hx hb dX11_tax_177 k_i0 ?_
          exact B178 ((x2 * (f_t_stem (Int32.toNatClampNeg x1))) / x3) 0 _ _ _ hf hw (lv_sub hl [] rfl)
        · have hf := g_f hc hf
          refine lv_iconst (v := 1) hx hb dX11_tax_173 k_i1 ?_
          refine lv_goto (tgt := 178) hx hb dX11_tax_174 (by decide) ?_
          exact B178 ((x2 * (f_t_stem (Int32.toNatClampNeg x1))) / x3) 1 _ _ _ hf hw (lv_sub hl [] rfl)
      · have hf := g_f hc hf
        refine lv_iload hx hb dX11_tax_52 (lv_at hl 4 rfl) ?_
        refine lv_aload_n hx hb dX11_tax_54 rfl (lv_at hl 0 rfl) ?_
        refine lv_iload hx hb dX11_tax_55 (lv_at hl 6 rfl) ?_
        obtain ⟨r9, hc10, hf⟩ := gB_s hf
        refine g_ki0 (is := [0]) hw hA (g_rV hx hb hml hG hown hK hw (is := [0]) rfl (by decide) (mX11_isFamily l E o_t a_t v_t_there v_t_wind v_t_force v_t_rains v_t_lost v_t_hours v_t_sights v_t_padMany v_t_acts v_t_blownMany v_t_badAct v_t_badWhy v_t_ruinAct v_t_ruinWho v_t_keptAt v_t_isWriting x6 r9 hc10) wd_8_21 wd_8_22 wd_8_23 wd_1_5 wd_9_0 hX11_isFamily g_allgood ⟨rfl, rfl⟩ ⟨Nat.le_of_ble_eq_true rfl, Nat.le_of_ble_eq_true rfl⟩ ⟨Nat.zero_le _, Nat.zero_le _⟩ (ci := 9) (q0 := 0) rfl rfl rfl rfl hl.1 rfl (Nat.le_of_ble_eq_true rfl) dX11_tax_57) rfl (fun H locs hw => ?_)
        refine lv_if_eq (tgt := 77) hx hb dX11_tax_60 (by decide) (fun hc => ?_) (fun hc => ?_)
        · have hf := g_t hc hf
          refine lv_iconst (v := 0) hx hb dX11_tax_77 k_i0 ?_
          exact B78 (fX11_tax_b45 v_t_there f_t_stem n) ih x1 x2 x3 x5 x6 x4 0 _ _ _ hf hw (lv_sub hl [0, 1, 2, 3, 5, 6] rfl)
        · have hf := g_f hc hf
          refine lv_iload_n hx hb dX11_tax_63 rfl (lv_at hl 2 rfl) ?_
          refine lv_aload_n hx hb dX11_tax_64 rfl (lv_at hl 0 rfl) ?_
          refine g_get hx hb hG hown hK hw inlX11 (ci := 9) rfl 0 2 (Nat.le_of_ble_eq_true rfl) rfl rfl wd_5_22 dX11_tax_65 ?_
          refine lv_iload hx hb dX11_tax_68 (lv_at hl 6 rfl) ?_
          obtain ⟨hi11, hf⟩ := gA_s hf
          refine g_iald hx hb hK hw 1 rfl hi11 dX11_tax_70 ?_
          refine lv_imul hx hb dX11_tax_71 ?_
          refine lv_iload_n hx hb dX11_tax_72 rfl (lv_at hl 3 rfl) ?_
          obtain ⟨hd12, hf⟩ := gD_s hf
          refine lv_idiv hx hb dX11_tax_73 hd12 ?_
          refine lv_goto (tgt := 78) hx hb dX11_tax_74 (by decide) ?_
          exact B78 (fX11_tax_b45 v_t_there f_t_stem n) ih x1 x2 x3 x5 x6 x4 ((x2 * (f_t_stem (Int32.toNatClampNeg x6))) / x3) _ _ _ hf hw (lv_sub hl [0, 1, 2, 3, 5, 6] rfl)
  refine lv_aload_n hx hb dX11_tax_0 rfl (lv_at hl 0 rfl) ?_
  refine lv_iload_n hx hb dX11_tax_1 rfl (lv_at hl 1 rfl) ?_
  obtain ⟨r13, hc14, hf⟩ := gB_s hf
  refine g_ki0 (is := [0]) hw hA (g_rV hx hb hml hG hown hK hw (is := [0]) rfl (by decide) (mX11_isFamily l E o_t a_t v_t_there v_t_wind v_t_force v_t_rains v_t_lost v_t_hours v_t_sights v_t_padMany v_t_acts v_t_blownMany v_t_badAct v_t_badWhy v_t_ruinAct v_t_ruinWho v_t_keptAt v_t_isWriting x1 r13 hc14) wd_8_21 wd_8_22 wd_8_23 wd_1_5 wd_9_0 hX11_isFamily g_allgood ⟨rfl, rfl⟩ ⟨Nat.le_of_ble_eq_true rfl, Nat.le_of_ble_eq_true rfl⟩ ⟨Nat.zero_le _, Nat.zero_le _⟩ (ci := 9) (q0 := 0) rfl rfl rfl rfl hl.1 rfl (Nat.le_of_ble_eq_true rfl) dX11_tax_2) rfl (fun H locs hw => ?_)
  refine lv_if_ne (tgt := 10) hx hb dX11_tax_5 (by decide) (fun hc => ?_) (fun hc => ?_)
  · have hf := g_f hc hf
    refine lv_iload_n hx hb dX11_tax_10 rfl (lv_at hl 2 rfl) ?_
    refine lv_i2l hx hb dX11_tax_11 rfl ?_
    refine lv_lconst (v := 0) hx hb dX11_tax_12 k_l0 ?_
    refine lv_ldc2 hx hb hown (hG _ wd_10_15) dX11_tax_13 ?_
    obtain ⟨r15, hc16, hf⟩ := gB_s hf
    refine g_ki0 (is := []) hw hA (g_rS hx hb hml hG hown hK hw (is := []) rfl (by decide) (mX11_in l E (Int32.toInt64 x2) 0 999 r15 hc16) wd_8_10 wd_8_11 wd_1_5 wd_8_12 hX11_in g_allgood ⟨rfl, rfl⟩ ⟨Nat.le_of_ble_eq_true rfl, Nat.le_of_ble_eq_true rfl⟩ ⟨Nat.zero_le _, Nat.zero_le _⟩ rfl hl.1 rfl (Nat.le_of_ble_eq_true rfl) dX11_tax_16) rfl (fun H locs hw => ?_)
    refine lv_if_ne (tgt := 25) hx hb dX11_tax_19 (by decide) (fun hc => ?_) (fun hc => ?_)
    · have hf := g_f hc hf
      refine lv_aload_n hx hb dX11_tax_25 rfl (lv_at hl 0 rfl) ?_
      obtain ⟨r17, hc18, hf⟩ := gB_s hf
      refine g_ki0 (is := [0, 1]) hw hA (g_rV hx hb hml hG hown hK hw (is := [0, 1]) rfl (by decide) (mX11_allSeeds l E o_t a_t v_t_there v_t_wind v_t_force v_t_rains v_t_lost v_t_hours v_t_sights v_t_padMany v_t_acts v_t_blownMany v_t_badAct v_t_badWhy v_t_ruinAct v_t_ruinWho v_t_keptAt v_t_isWriting f_t_stem r17 hc18) wd_23_22 wd_23_23 wd_24_0 wd_1_5 wd_24_1 hX11_allSeeds g_allgood ⟨rfl, rfl⟩ ⟨Nat.le_of_ble_eq_true rfl, Nat.le_of_ble_eq_true rfl⟩ ⟨Nat.zero_le _, Nat.zero_le _⟩ (ci := 9) (q0 := 0) rfl rfl rfl rfl hl.1 rfl (Nat.le_of_ble_eq_true rfl) dX11_tax_26) rfl (fun H locs hw => ?_)
      refine lv_istore_n (lv' := [(3, .int r17), (0, .ref o_t), (1, .int x1), (2, .int x2)]) hx hb dX11_tax_29 rfl hl (Nat.le_of_ble_eq_true rfl) rfl (fun ls hl => ?_)
      refine lv_iload_n hx hb dX11_tax_30 rfl (lv_at hl 0 rfl) ?_
      refine lv_if_ne (tgt := 36) hx hb dX11_tax_31 (by decide) (fun hc => ?_) (fun hc => ?_)
      · have hf := g_f hc hf
        refine lv_iload_n hx hb dX11_tax_36 rfl (lv_at hl 3 rfl) ?_
        refine lv_istore (lv' := [(4, .int x2), (3, .int r17), (0, .ref o_t), (1, .int x1), (2, .int x2)]) hx hb dX11_tax_37 hl (Nat.le_of_ble_eq_true rfl) rfl (fun ls hl => ?_)
        refine lv_iconst (v := 0) hx hb dX11_tax_39 k_i0 ?_
        refine lv_istore (lv' := [(5, .int 0), (4, .int x2), (3, .int r17), (0, .ref o_t), (1, .int x1), (2, .int x2)]) hx hb dX11_tax_40 hl (Nat.le_of_ble_eq_true rfl) rfl (fun ls hl => ?_)
        refine lv_iconst (v := 0) hx hb dX11_tax_42 k_i0 ?_
        refine lv_istore (lv' := [(6, .int 0), (5, .int 0), (4, .int x2), (3, .int r17), (0, .ref o_t), (1, .int x1), (2, .int x2)]) hx hb dX11_tax_43 hl (Nat.le_of_ble_eq_true rfl) rfl (fun ls hl => ?_)
        exact B45 1000 x1 x2 r17 x2 0 0 _ _ _ hf hw (lv_sub hl [4, 5, 6, 3, 2, 1, 0] rfl)
      · have hf := g_t hc hf
        refine lv_iconst (v := 0) hx hb dX11_tax_34 k_i0 ?_
        exact hret1 0 _ _ _ _ hf hw dX11_tax_35
    · have hf := g_t hc hf
      refine lv_bipush (v := -2) hx hb dX11_tax_22 k_bm2 ?_
      exact hret1 (-2) _ _ _ _ hf hw dX11_tax_24
  · have hf := g_t hc hf
    refine lv_iconst (v := -1) hx hb dX11_tax_8 k_im1 ?_
    exact hret1 (-1) _ _ _ _ hf hw dX11_tax_9
theorem hX11_seen : yX11_seen.cls = RX11 ∧ yX11_seen.cls ≠ "java/lang/invoke/MethodHandle" ∧ yX11_seen.cls ≠ "java/lang/invoke/VarHandle" ∧ (parseMethodDescriptor yX11_seen.desc).map (fun d => d.parameters.length) = some 2 := by decide +kernel
set_option maxHeartbeats 4000000 in
set_option maxRecDepth 100000 in
theorem mX11_seen (l : Launch) (E : gE) (o_t : Nat) (a_t : (Nat → Nat)) (v_t_there : Int32) (v_t_wind : Int32) (v_t_force : Int32) (v_t_rains : Int32) (v_t_lost : Int32) (v_t_hours : Int32) (v_t_sights : Int32) (v_t_padMany : Int32) (v_t_acts : Int32) (v_t_blownMany : Int32) (v_t_badAct : Int32) (v_t_badWhy : Int32) (v_t_ruinAct : Int32) (v_t_ruinWho : Int32) (v_t_keptAt : Int32) (v_t_isWriting : Int32) (f_t_sightBreath : (Nat → Int32)) (f_t_sightFlew : (Nat → Int32)) (x1 : Int32) (x2 : Int32) (rv : Int32) (z_t_sights : Int32) (z_t_sightBreath : (Nat → Int32)) (z_t_sightFlew : (Nat → Int32)) (hf : fX11_seen v_t_sights f_t_sightBreath f_t_sightFlew x1 x2 = some (rv, z_t_sights, z_t_sightBreath, z_t_sightFlew)) {sz : Nat} : gMi l yX11_seen (gW yX11_seen cX11_seen 3 (some .int)) ({ frames := 1, cells := 0, slots := 0, locals := 25 } : Room) E [.ref o_t, .int x1, .int x2] (wX11_seen E o_t a_t v_t_there v_t_wind v_t_force v_t_rains v_t_lost v_t_hours v_t_sights v_t_padMany v_t_acts v_t_blownMany v_t_badAct v_t_badWhy v_t_ruinAct v_t_ruinWho v_t_keptAt v_t_isWriting f_t_sightBreath f_t_sightFlew) sz rv (wX11_seen E o_t a_t v_t_there v_t_wind v_t_force v_t_rains v_t_lost v_t_hours z_t_sights v_t_padMany v_t_acts v_t_blownMany v_t_badAct v_t_badWhy v_t_ruinAct v_t_ruinWho v_t_keptAt v_t_isWriting z_t_sightBreath z_t_sightFlew) := by
  refine g_openI (own := RX11) (by decide) rfl (Nat.le_of_ble_eq_true rfl) (fun p e s m args below meth cd Q A hx hb hml hown hG hK hA hret hw ls hl => ?_)
  have hl : lv_has ls 3 [(0, .ref o_t), (1, .int x1), (2, .int x2)] := hl
  have hret1 : ∀ (t : Int32 × Int32 × (Nat → Int32) × (Nat → Int32)) (H : Heap) (locs : List Loc) (pc : Nat) (ls : Array Slot), some t = some (rv, z_t_sights, z_t_sightBreath, z_t_sightFlew) → gS E A s.heap (wX11_seen E o_t a_t v_t_there v_t_wind v_t_force v_t_rains v_t_lost v_t_hours t.2.1 v_t_padMany v_t_acts v_t_blownMany v_t_badAct v_t_badWhy v_t_ruinAct v_t_ruinWho v_t_keptAt v_t_isWriting t.2.2.1 t.2.2.2) H locs → decode cX11_seen pc = .ok (.ireturn, 1) → W p l e ({ frames := 1, cells := 0, slots := 0, locals := 25 } : Room) s m args below meth cd H locs 0 0 Q (F0 m pc ls [.int t.1]) := by
    intro t H locs pc ls h hw hd
    obtain rfl : t = (rv, z_t_sights, z_t_sightBreath, z_t_sightFlew) := Option.some.inj h
    exact hret H locs pc ls hw hd
  have B24 : ∀ (v_t_sights : Int32) (f_t_sightBreath : (Nat → Int32)) (f_t_sightFlew : (Nat → Int32)) (H : Heap) (locs : List Loc) (ls : Array Slot), fX11_seen_b24 v_t_sights f_t_sightBreath f_t_sightFlew = some (rv, z_t_sights, z_t_sightBreath, z_t_sightFlew) → gS E A s.heap (wX11_seen E o_t a_t v_t_there v_t_wind v_t_force v_t_rains v_t_lost v_t_hours v_t_sights v_t_padMany v_t_acts v_t_blownMany v_t_badAct v_t_badWhy v_t_ruinAct v_t_ruinWho v_t_keptAt v_t_isWriting f_t_sightBreath f_t_sightFlew) H locs → lv_has ls 3 [] → W p l e ({ frames := 1, cells := 0, slots := 0, locals := 25 } : Room) s m args below meth cd H locs 0 0 Q (F0 m 24 ls []) := by
    intro  v_t_sights f_t_sightBreath f_t_sightFlew H locs ls hf hw hl
    refine lv_bipush (v := -2) hx hb dX11_seen_24 k_bm2 ?_
    exact hret1 ((-2), v_t_sights, f_t_sightBreath, f_t_sightFlew) _ _ _ _ hf hw dX11_seen_26
  refine lv_iload_n hx hb dX11_seen_0 rfl (lv_at hl 1 rfl) ?_
  refine lv_i2l hx hb dX11_seen_1 rfl ?_
  refine lv_lconst (v := 1) hx hb dX11_seen_2 k_l1 ?_
  refine lv_ldc2 hx hb hown (hG _ wd_8_8) dX11_seen_3 ?_
  obtain ⟨r1, hc2, hf⟩ := gB_s hf
  refine g_ki0 (is := []) hw hA (g_rS hx hb hml hG hown hK hw (is := []) rfl (by decide) (mX11_in l E (Int32.toInt64 x1) 1 9 r1 hc2) wd_8_10 wd_8_11 wd_1_5 wd_8_12 hX11_in g_allgood ⟨rfl, rfl⟩ ⟨Nat.le_of_ble_eq_true rfl, Nat.le_of_ble_eq_true rfl⟩ ⟨Nat.zero_le _, Nat.zero_le _⟩ rfl hl.1 rfl (Nat.le_of_ble_eq_true rfl) dX11_seen_6) rfl (fun H locs hw => ?_)
  refine lv_if_eq (tgt := 24) hx hb dX11_seen_9 (by decide) (fun hc => ?_) (fun hc => ?_)
  · have hf := g_t hc hf
    exact B24 v_t_sights f_t_sightBreath f_t_sightFlew _ _ _ hf hw (lv_sub hl [] rfl)
  · have hf := g_f hc hf
    refine lv_iload_n hx hb dX11_seen_12 rfl (lv_at hl 2 rfl) ?_
    refine lv_i2l hx hb dX11_seen_13 rfl ?_
    refine lv_lconst (v := 0) hx hb dX11_seen_14 k_l0 ?_
    refine lv_ldc2 hx hb hown (hG _ wd_31_3) dX11_seen_15 ?_
    obtain ⟨r3, hc4, hf⟩ := gB_s hf
    refine g_ki0 (is := []) hw hA (g_rS hx hb hml hG hown hK hw (is := []) rfl (by decide) (mX11_in l E (Int32.toInt64 x2) 0 81 r3 hc4) wd_8_10 wd_8_11 wd_1_5 wd_8_12 hX11_in g_allgood ⟨rfl, rfl⟩ ⟨Nat.le_of_ble_eq_true rfl, Nat.le_of_ble_eq_true rfl⟩ ⟨Nat.zero_le _, Nat.zero_le _⟩ rfl hl.1 rfl (Nat.le_of_ble_eq_true rfl) dX11_seen_18) rfl (fun H locs hw => ?_)
    refine lv_if_ne (tgt := 27) hx hb dX11_seen_21 (by decide) (fun hc => ?_) (fun hc => ?_)
    · have hf := g_f hc hf
      refine lv_aload_n hx hb dX11_seen_27 rfl (lv_at hl 0 rfl) ?_
      refine g_get hx hb hG hown hK hw inlX11 (ci := 9) rfl 0 13 (Nat.le_of_ble_eq_true rfl) rfl rfl wd_31_4 dX11_seen_28 ?_
      refine lv_bipush (v := 8) hx hb dX11_seen_31 k_b8 ?_
      refine lv_icmp_ne (tgt := 39) hx hb dX11_seen_33 (by decide) (fun hc => ?_) (fun hc => ?_)
      · have hf := g_f hc hf
        refine lv_aload_n hx hb dX11_seen_39 rfl (lv_at hl 0 rfl) ?_
        refine g_get hx hb hG hown hK hw inlX11 (ci := 9) rfl 0 11 (Nat.le_of_ble_eq_true rfl) rfl rfl wd_6_2 dX11_seen_40 ?_
        refine lv_aload_n hx hb dX11_seen_43 rfl (lv_at hl 0 rfl) ?_
        refine g_get hx hb hG hown hK hw inlX11 (ci := 9) rfl 0 13 (Nat.le_of_ble_eq_true rfl) rfl rfl wd_31_4 dX11_seen_44 ?_
        refine lv_iload_n hx hb dX11_seen_47 rfl (lv_at hl 1 rfl) ?_
        obtain ⟨hi5, hf⟩ := gA_s hf
        refine g_iast (ws' := (wX11_seen E o_t a_t v_t_there v_t_wind v_t_force v_t_rains v_t_lost v_t_hours v_t_sights v_t_padMany v_t_acts v_t_blownMany v_t_badAct v_t_badWhy v_t_ruinAct v_t_ruinWho v_t_keptAt v_t_isWriting (upd f_t_sightBreath (Int32.toNatClampNeg v_t_sights) x1) f_t_sightFlew)) hx hb hK hw 1 rfl hi5 rfl dX11_seen_48 (fun H locs hw => ?_)
        refine lv_aload_n hx hb dX11_seen_49 rfl (lv_at hl 0 rfl) ?_
        refine g_get hx hb hG hown hK hw inlX11 (ci := 9) rfl 0 12 (Nat.le_of_ble_eq_true rfl) rfl rfl wd_6_3 dX11_seen_50 ?_
        refine lv_aload_n hx hb dX11_seen_53 rfl (lv_at hl 0 rfl) ?_
        refine g_get hx hb hG hown hK hw inlX11 (ci := 9) rfl 0 13 (Nat.le_of_ble_eq_true rfl) rfl rfl wd_31_4 dX11_seen_54 ?_
        refine lv_iload_n hx hb dX11_seen_57 rfl (lv_at hl 2 rfl) ?_
        obtain ⟨hi6, hf⟩ := gA_s hf
        refine g_iast (ws' := (wX11_seen E o_t a_t v_t_there v_t_wind v_t_force v_t_rains v_t_lost v_t_hours v_t_sights v_t_padMany v_t_acts v_t_blownMany v_t_badAct v_t_badWhy v_t_ruinAct v_t_ruinWho v_t_keptAt v_t_isWriting (upd f_t_sightBreath (Int32.toNatClampNeg v_t_sights) x1) (upd f_t_sightFlew (Int32.toNatClampNeg v_t_sights) x2))) hx hb hK hw 2 rfl hi6 rfl dX11_seen_58 (fun H locs hw => ?_)
        refine lv_aload_n hx hb dX11_seen_59 rfl (lv_at hl 0 rfl) ?_
        refine lv_dup hx hb dX11_seen_60 rfl ?_
        refine g_get hx hb hG hown hK hw inlX11 (ci := 9) rfl 0 13 (Nat.le_of_ble_eq_true rfl) rfl rfl wd_31_4 dX11_seen_61 ?_
        refine lv_iconst (v := 1) hx hb dX11_seen_64 k_i1 ?_
        refine lv_iadd hx hb dX11_seen_65 ?_
        refine g_put (ws' := (wX11_seen E o_t a_t v_t_there v_t_wind v_t_force v_t_rains v_t_lost v_t_hours (v_t_sights + 1) v_t_padMany v_t_acts v_t_blownMany v_t_badAct v_t_badWhy v_t_ruinAct v_t_ruinWho v_t_keptAt v_t_isWriting (upd f_t_sightBreath (Int32.toNatClampNeg v_t_sights) x1) (upd f_t_sightFlew (Int32.toNatClampNeg v_t_sights) x2))) hx hb hG hown hK hw inlX11 tyX11_ok nmX11 (ci := 9) rfl 0 13 (Nat.le_of_ble_eq_true rfl) rfl wd_31_4 rfl rfl rfl (Nat.le_of_ble_eq_true rfl) rfl dX11_seen_66 (fun H locs hw => ?_)
        refine lv_aload_n hx hb dX11_seen_69 rfl (lv_at hl 0 rfl) ?_
        refine g_get hx hb hG hown hK hw inlX11 (ci := 9) rfl 0 13 (Nat.le_of_ble_eq_true rfl) rfl rfl wd_31_4 dX11_seen_70 ?_
        exact hret1 ((v_t_sights + 1), (v_t_sights + 1), (upd f_t_sightBreath (Int32.toNatClampNeg v_t_sights) x1), (upd f_t_sightFlew (Int32.toNatClampNeg v_t_sights) x2)) _ _ _ _ hf hw dX11_seen_73
      · have hf := g_t hc hf
        refine lv_bipush (v := -4) hx hb dX11_seen_36 k_bm4 ?_
        exact hret1 ((-4), v_t_sights, f_t_sightBreath, f_t_sightFlew) _ _ _ _ hf hw dX11_seen_38
    · have hf := g_t hc hf
      exact B24 v_t_sights f_t_sightBreath f_t_sightFlew _ _ _ hf hw (lv_sub hl [] rfl)
theorem hX11_forget : yX11_forget.cls = RX11 ∧ yX11_forget.cls ≠ "java/lang/invoke/MethodHandle" ∧ yX11_forget.cls ≠ "java/lang/invoke/VarHandle" ∧ (parseMethodDescriptor yX11_forget.desc).map (fun d => d.parameters.length) = some 0 := by decide +kernel
set_option maxHeartbeats 4000000 in
set_option maxRecDepth 100000 in
theorem mX11_forget (l : Launch) (E : gE) (o_t : Nat) (a_t : (Nat → Nat)) (v_t_there : Int32) (v_t_wind : Int32) (v_t_force : Int32) (v_t_rains : Int32) (v_t_lost : Int32) (v_t_hours : Int32) (v_t_sights : Int32) (v_t_padMany : Int32) (v_t_acts : Int32) (v_t_blownMany : Int32) (v_t_badAct : Int32) (v_t_badWhy : Int32) (v_t_ruinAct : Int32) (v_t_ruinWho : Int32) (v_t_keptAt : Int32) (v_t_isWriting : Int32) (rv : Int32) (z_t_sights : Int32) (hf : fX11_forget v_t_sights = some (rv, z_t_sights)) {sz : Nat} : gMi l yX11_forget (gW yX11_forget cX11_forget 2 (some .int)) ({ frames := 0, cells := 0, slots := 0, locals := 0 } : Room) E [.ref o_t] (wX11_forget E o_t a_t v_t_there v_t_wind v_t_force v_t_rains v_t_lost v_t_hours v_t_sights v_t_padMany v_t_acts v_t_blownMany v_t_badAct v_t_badWhy v_t_ruinAct v_t_ruinWho v_t_keptAt v_t_isWriting) sz rv (wX11_forget E o_t a_t v_t_there v_t_wind v_t_force v_t_rains v_t_lost v_t_hours z_t_sights v_t_padMany v_t_acts v_t_blownMany v_t_badAct v_t_badWhy v_t_ruinAct v_t_ruinWho v_t_keptAt v_t_isWriting) := by
  refine g_openI (own := RX11) (by decide) rfl (Nat.le_of_ble_eq_true rfl) (fun p e s m args below meth cd Q A hx hb hml hown hG hK hA hret hw ls hl => ?_)
  have hl : lv_has ls 2 [(0, .ref o_t)] := hl
  have hret1 : ∀ (t : Int32 × Int32) (H : Heap) (locs : List Loc) (pc : Nat) (ls : Array Slot), some t = some (rv, z_t_sights) → gS E A s.heap (wX11_forget E o_t a_t v_t_there v_t_wind v_t_force v_t_rains v_t_lost v_t_hours t.2 v_t_padMany v_t_acts v_t_blownMany v_t_badAct v_t_badWhy v_t_ruinAct v_t_ruinWho v_t_keptAt v_t_isWriting) H locs → decode cX11_forget pc = .ok (.ireturn, 1) → W p l e ({ frames := 0, cells := 0, slots := 0, locals := 0 } : Room) s m args below meth cd H locs 0 0 Q (F0 m pc ls [.int t.1]) := by
    intro t H locs pc ls h hw hd
    obtain rfl : t = (rv, z_t_sights) := Option.some.inj h
    exact hret H locs pc ls hw hd
  refine lv_aload_n hx hb dX11_forget_0 rfl (lv_at hl 0 rfl) ?_
  refine g_get hx hb hG hown hK hw inlX11 (ci := 9) rfl 0 13 (Nat.le_of_ble_eq_true rfl) rfl rfl wd_31_4 dX11_forget_1 ?_
  refine lv_istore_n (lv' := [(1, .int v_t_sights), (0, .ref o_t)]) hx hb dX11_forget_4 rfl hl (Nat.le_of_ble_eq_true rfl) rfl (fun ls hl => ?_)
  refine lv_aload_n hx hb dX11_forget_5 rfl (lv_at hl 1 rfl) ?_
  refine lv_iconst (v := 0) hx hb dX11_forget_6 k_i0 ?_
  refine g_put (ws' := (wX11_forget E o_t a_t v_t_there v_t_wind v_t_force v_t_rains v_t_lost v_t_hours 0 v_t_padMany v_t_acts v_t_blownMany v_t_badAct v_t_badWhy v_t_ruinAct v_t_ruinWho v_t_keptAt v_t_isWriting)) hx hb hG hown hK hw inlX11 tyX11_ok nmX11 (ci := 9) rfl 0 13 (Nat.le_of_ble_eq_true rfl) rfl wd_31_4 rfl rfl rfl (Nat.le_of_ble_eq_true rfl) rfl dX11_forget_7 (fun H locs hw => ?_)
  refine lv_iload_n hx hb dX11_forget_10 rfl (lv_at hl 0 rfl) ?_
  exact hret1 (v_t_sights, 0) _ _ _ _ hf hw dX11_forget_11
theorem hX11_fliesBy : yX11_fliesBy.cls ≠ "java/lang/invoke/MethodHandle" ∧ yX11_fliesBy.cls ≠ "java/lang/invoke/VarHandle" ∧ (parseMethodDescriptor yX11_fliesBy.desc).map (fun d => d.parameters.length) = some 2 := by decide +kernel
set_option maxHeartbeats 4000000 in
set_option maxRecDepth 100000 in
theorem mX11_fliesBy (l : Launch) (E : gE) (x0 : Int32) (x1 : Int32) (rv : Int32) (hf : fX11_fliesBy x0 x1 = some rv) {sz : Nat} : gMi l yX11_fliesBy (gW yX11_fliesBy cX11_fliesBy 3 (some .int)) ({ frames := 0, cells := 0, slots := 0, locals := 0 } : Room) E [.int x0, .int x1] (wX11_fliesBy E) sz rv (wX11_fliesBy E) := by
  refine g_openI (own := RX11) (by decide) rfl (Nat.le_of_ble_eq_true rfl) (fun p e s m args below meth cd Q A hx hb hml hown hG hK hA hret hw ls hl => ?_)
  have hl : lv_has ls 3 [(0, .int x0), (1, .int x1)] := hl
  have hret1 : ∀ (t : Int32) (H : Heap) (locs : List Loc) (pc : Nat) (ls : Array Slot), some t = some rv → gS E A s.heap (wX11_fliesBy E) H locs → decode cX11_fliesBy pc = .ok (.ireturn, 1) → W p l e ({ frames := 0, cells := 0, slots := 0, locals := 0 } : Room) s m args below meth cd H locs 0 0 Q (F0 m pc ls [.int t]) := by
    intro t H locs pc ls h hw hd
    obtain rfl : t = rv := Option.some.inj h
    exact hret H locs pc ls hw hd
  have B23 : ∀ (s0 : Int32) (H : Heap) (locs : List Loc) (ls : Array Slot), fX11_fliesBy_b23 s0 = some rv → gS E A s.heap (wX11_fliesBy E) H locs → lv_has ls 3 [] → W p l e ({ frames := 0, cells := 0, slots := 0, locals := 0 } : Room) s m args below meth cd H locs 0 0 Q (F0 m 23 ls [.int s0]) := by
    intro  s0 H locs ls hf hw hl
    exact hret1 s0 _ _ _ _ hf hw dX11_fliesBy_23
  refine lv_iload_n hx hb dX11_fliesBy_0 rfl (lv_at hl 0 rfl) ?_
  refine lv_bipush (v := 100) hx hb dX11_fliesBy_1 k_b100 ?_
  refine lv_idiv hx hb dX11_fliesBy_3 (by decide) ?_
  refine lv_iload_n hx hb dX11_fliesBy_4 rfl (lv_at hl 1 rfl) ?_
  refine lv_imul hx hb dX11_fliesBy_5 ?_
  refine lv_istore_n (lv' := [(2, .int ((x0 / 100) * x1)), (0, .int x0), (1, .int x1)]) hx hb dX11_fliesBy_6 rfl hl (Nat.le_of_ble_eq_true rfl) rfl (fun ls hl => ?_)
  refine lv_iload_n hx hb dX11_fliesBy_7 rfl (lv_at hl 0 rfl) ?_
  refine lv_iload_n hx hb dX11_fliesBy_8 rfl (lv_at hl 1 rfl) ?_
  refine lv_bipush (v := 100) hx hb dX11_fliesBy_9 k_b100 ?_
  refine g_irem hx hb dX11_fliesBy_11 (by decide) ?_
  refine lv_icmp_ge (tgt := 19) hx hb dX11_fliesBy_12 (by decide) (fun hc => ?_) (fun hc => ?_)
  · have hf := g_t hc hf
    refine lv_iload_n hx hb dX11_fliesBy_19 rfl (lv_at hl 1 rfl) ?_
    refine lv_bipush (v := 100) hx hb dX11_fliesBy_20 k_b100 ?_
    refine g_irem hx hb dX11_fliesBy_22 (by decide) ?_
    exact B23 (x0 % 100) _ _ _ hf hw (lv_sub hl [] rfl)
  · have hf := g_f hc hf
    refine lv_iload_n hx hb dX11_fliesBy_15 rfl (lv_at hl 0 rfl) ?_
    refine lv_goto (tgt := 23) hx hb dX11_fliesBy_16 (by decide) ?_
    exact B23 ((x0 / 100) * x1) _ _ _ hf hw (lv_sub hl [] rfl)
theorem hX11_isFit : yX11_isFit.cls = RX11 ∧ yX11_isFit.cls ≠ "java/lang/invoke/MethodHandle" ∧ yX11_isFit.cls ≠ "java/lang/invoke/VarHandle" ∧ (parseMethodDescriptor yX11_isFit.desc).map (fun d => d.parameters.length) = some 1 := by decide +kernel
set_option maxHeartbeats 4000000 in
set_option maxRecDepth 100000 in
theorem mX11_isFit (l : Launch) (E : gE) (o_t : Nat) (a_t : (Nat → Nat)) (v_t_there : Int32) (v_t_wind : Int32) (v_t_force : Int32) (v_t_rains : Int32) (v_t_lost : Int32) (v_t_hours : Int32) (v_t_sights : Int32) (v_t_padMany : Int32) (v_t_acts : Int32) (v_t_blownMany : Int32) (v_t_badAct : Int32) (v_t_badWhy : Int32) (v_t_ruinAct : Int32) (v_t_ruinWho : Int32) (v_t_keptAt : Int32) (v_t_isWriting : Int32) (f_t_sightBreath : (Nat → Int32)) (f_t_sightFlew : (Nat → Int32)) (x1 : Int32) (rv : Int32) (hf : fX11_isFit v_t_sights f_t_sightBreath f_t_sightFlew x1 = some rv) {sz : Nat} : gMi l yX11_isFit (gW yX11_isFit cX11_isFit 4 (some .boolean)) ({ frames := 1, cells := 0, slots := 0, locals := 25 } : Room) E [.ref o_t, .int x1] (wX11_isFit E o_t a_t v_t_there v_t_wind v_t_force v_t_rains v_t_lost v_t_hours v_t_sights v_t_padMany v_t_acts v_t_blownMany v_t_badAct v_t_badWhy v_t_ruinAct v_t_ruinWho v_t_keptAt v_t_isWriting f_t_sightBreath f_t_sightFlew) sz rv (wX11_isFit E o_t a_t v_t_there v_t_wind v_t_force v_t_rains v_t_lost v_t_hours v_t_sights v_t_padMany v_t_acts v_t_blownMany v_t_badAct v_t_badWhy v_t_ruinAct v_t_ruinWho v_t_keptAt v_t_isWriting f_t_sightBreath f_t_sightFlew) := by
  refine g_openZ (own := RX11) (by decide) rfl (Nat.le_of_ble_eq_true rfl) (fun p e s m args below meth cd Q A hx hb hml hown hG hK hA hret hw ls hl => ?_)
  have hl : lv_has ls 4 [(0, .ref o_t), (1, .int x1)] := hl
  have hret1 : ∀ (t : Int32) (H : Heap) (locs : List Loc) (pc : Nat) (ls : Array Slot), some t = some rv → t &&& 1 = t → gS E A s.heap (wX11_isFit E o_t a_t v_t_there v_t_wind v_t_force v_t_rains v_t_lost v_t_hours v_t_sights v_t_padMany v_t_acts v_t_blownMany v_t_badAct v_t_badWhy v_t_ruinAct v_t_ruinWho v_t_keptAt v_t_isWriting f_t_sightBreath f_t_sightFlew) H locs → decode cX11_isFit pc = .ok (.ireturn, 1) → W p l e ({ frames := 1, cells := 0, slots := 0, locals := 25 } : Room) s m args below meth cd H locs 0 0 Q (F0 m pc ls [.int t]) := by
    intro t H locs pc ls h hz hw hd
    obtain rfl : t = rv := Option.some.inj h
    exact hret H locs pc ls hz hw hd
  have B51 : ∀ (K15 : Int32 → Int32 → Int32 → Option (Int32)) (hK15 : ∀ (x1 : Int32) (x2 : Int32) (x3 : Int32) (H : Heap) (locs : List Loc) (ls : Array Slot), K15 x1 x2 x3 = some rv → gS E A s.heap (wX11_isFit E o_t a_t v_t_there v_t_wind v_t_force v_t_rains v_t_lost v_t_hours v_t_sights v_t_padMany v_t_acts v_t_blownMany v_t_badAct v_t_badWhy v_t_ruinAct v_t_ruinWho v_t_keptAt v_t_isWriting f_t_sightBreath f_t_sightFlew) H locs → lv_has ls 4 [(0, .ref o_t), (1, .int x1), (2, .int x2), (3, .int x3)] → W p l e ({ frames := 1, cells := 0, slots := 0, locals := 25 } : Room) s m args below meth cd H locs 0 0 Q (F0 m 15 ls [])), ∀ (x1 : Int32) (x3 : Int32) (s0 : Int32) (H : Heap) (locs : List Loc) (ls : Array Slot), fX11_isFit_b51 K15 v_t_sights f_t_sightBreath f_t_sightFlew x1 x3 s0 = some rv → gS E A s.heap (wX11_isFit E o_t a_t v_t_there v_t_wind v_t_force v_t_rains v_t_lost v_t_hours v_t_sights v_t_padMany v_t_acts v_t_blownMany v_t_badAct v_t_badWhy v_t_ruinAct v_t_ruinWho v_t_keptAt v_t_isWriting f_t_sightBreath f_t_sightFlew) H locs → lv_has ls 4 [(0, .ref o_t), (1, .int x1), (3, .int x3)] → W p l e ({ frames := 1, cells := 0, slots := 0, locals := 25 } : Room) s m args below meth cd H locs 0 0 Q (F0 m 51 ls [.int s0]) := by
    intro K15 hK15 x1 x3 s0 H locs ls hf hw hl
    refine lv_istore_n (lv' := [(2, .int s0), (0, .ref o_t), (1, .int x1), (3, .int x3)]) hx hb dX11_isFit_51 rfl hl (Nat.le_of_ble_eq_true rfl) rfl (fun ls hl => ?_)
    refine lv_iinc (lv' := [(3, .int (x3 + 1)), (2, .int s0), (0, .ref o_t), (1, .int x1)]) hx hb dX11_isFit_52 hl (k := 3) rfl (k_inc1 _) (Nat.le_of_ble_eq_true rfl) rfl (fun ls hl => ?_)
    refine lv_goto (tgt := 15) hx hb dX11_isFit_55 (by decide) ?_
    exact hK15 x1 s0 (x3 + 1) _ _ _ hf hw (lv_sub hl [2, 3, 1, 0] rfl)
  have B50 : ∀ (K15 : Int32 → Int32 → Int32 → Option (Int32)) (hK15 : ∀ (x1 : Int32) (x2 : Int32) (x3 : Int32) (H : Heap) (locs : List Loc) (ls : Array Slot), K15 x1 x2 x3 = some rv → gS E A s.heap (wX11_isFit E o_t a_t v_t_there v_t_wind v_t_force v_t_rains v_t_lost v_t_hours v_t_sights v_t_padMany v_t_acts v_t_blownMany v_t_badAct v_t_badWhy v_t_ruinAct v_t_ruinWho v_t_keptAt v_t_isWriting f_t_sightBreath f_t_sightFlew) H locs → lv_has ls 4 [(0, .ref o_t), (1, .int x1), (2, .int x2), (3, .int x3)] → W p l e ({ frames := 1, cells := 0, slots := 0, locals := 25 } : Room) s m args below meth cd H locs 0 0 Q (F0 m 15 ls [])), ∀ (x1 : Int32) (x3 : Int32) (H : Heap) (locs : List Loc) (ls : Array Slot), fX11_isFit_b50 K15 v_t_sights f_t_sightBreath f_t_sightFlew x1 x3 = some rv → gS E A s.heap (wX11_isFit E o_t a_t v_t_there v_t_wind v_t_force v_t_rains v_t_lost v_t_hours v_t_sights v_t_padMany v_t_acts v_t_blownMany v_t_badAct v_t_badWhy v_t_ruinAct v_t_ruinWho v_t_keptAt v_t_isWriting f_t_sightBreath f_t_sightFlew) H locs → lv_has ls 4 [(0, .ref o_t), (1, .int x1), (3, .int x3)] → W p l e ({ frames := 1, cells := 0, slots := 0, locals := 25 } : Room) s m args below meth cd H locs 0 0 Q (F0 m 50 ls []) := by
    intro K15 hK15 x1 x3 H locs ls hf hw hl
    refine lv_iconst (v := 0) hx hb dX11_isFit_50 k_i0 ?_
    exact B51 K15 hK15 x1 x3 0 _ _ _ hf hw (lv_sub hl [0, 1, 2] rfl)
  have B15 : ∀ n : Nat, ∀ (x1 : Int32) (x2 : Int32) (x3 : Int32) (H : Heap) (locs : List Loc) (ls : Array Slot), fX11_isFit_b15 v_t_sights f_t_sightBreath f_t_sightFlew n x1 x2 x3 = some rv → gS E A s.heap (wX11_isFit E o_t a_t v_t_there v_t_wind v_t_force v_t_rains v_t_lost v_t_hours v_t_sights v_t_padMany v_t_acts v_t_blownMany v_t_badAct v_t_badWhy v_t_ruinAct v_t_ruinWho v_t_keptAt v_t_isWriting f_t_sightBreath f_t_sightFlew) H locs → lv_has ls 4 [(0, .ref o_t), (1, .int x1), (2, .int x2), (3, .int x3)] → W p l e ({ frames := 1, cells := 0, slots := 0, locals := 25 } : Room) s m args below meth cd H locs 0 0 Q (F0 m 15 ls []) := by
    intro n
    induction n with
    | zero => intro x1 x2 x3 H locs ls hf hw hl; exact g_no hf
    | succ n ih =>
      intro x1 x2 x3 H locs ls hf hw hl
      refine lv_iload_n hx hb dX11_isFit_15 rfl (lv_at hl 3 rfl) ?_
      refine lv_aload_n hx hb dX11_isFit_16 rfl (lv_at hl 0 rfl) ?_
      refine g_get hx hb hG hown hK hw inlX11 (ci := 9) rfl 0 13 (Nat.le_of_ble_eq_true rfl) rfl rfl wd_31_4 dX11_isFit_17 ?_
      refine lv_icmp_ge (tgt := 58) hx hb dX11_isFit_20 (by decide) (fun hc => ?_) (fun hc => ?_)
      · have hf := g_t hc hf
        refine lv_iload_n hx hb dX11_isFit_58 rfl (lv_at hl 2 rfl) ?_
        obtain ⟨hz1, hf⟩ := gZ_s hf
        exact hret1 x2 _ _ _ _ hf hz1 hw dX11_isFit_59
      · have hf := g_f hc hf
        refine lv_iload_n hx hb dX11_isFit_23 rfl (lv_at hl 2 rfl) ?_
        refine lv_if_eq (tgt := 50) hx hb dX11_isFit_24 (by decide) (fun hc => ?_) (fun hc => ?_)
        · have hf := g_t hc hf
          exact B50 (fX11_isFit_b15 v_t_sights f_t_sightBreath f_t_sightFlew n) ih x1 x3 _ _ _ hf hw (lv_sub hl [0, 1, 3] rfl)
        · have hf := g_f hc hf
          refine lv_iload_n hx hb dX11_isFit_27 rfl (lv_at hl 1 rfl) ?_
          refine lv_aload_n hx hb dX11_isFit_28 rfl (lv_at hl 0 rfl) ?_
          refine g_get hx hb hG hown hK hw inlX11 (ci := 9) rfl 0 11 (Nat.le_of_ble_eq_true rfl) rfl rfl wd_6_2 dX11_isFit_29 ?_
          refine lv_iload_n hx hb dX11_isFit_32 rfl (lv_at hl 3 rfl) ?_
          obtain ⟨hi2, hf⟩ := gA_s hf
          refine g_iald hx hb hK hw 1 rfl hi2 dX11_isFit_33 ?_
          obtain ⟨r3, hc4, hf⟩ := gB_s hf
          refine g_ki0 (is := []) hw hA (g_rS hx hb hml hG hown hK hw (is := []) rfl (by decide) (mX11_fliesBy l E x1 (f_t_sightBreath (Int32.toNatClampNeg x3)) r3 hc4) wd_32_14 wd_32_15 wd_1_5 wd_32_16 hX11_fliesBy g_allgood ⟨rfl, rfl⟩ ⟨Nat.le_of_ble_eq_true rfl, Nat.le_of_ble_eq_true rfl⟩ ⟨Nat.zero_le _, Nat.zero_le _⟩ rfl hl.1 rfl (Nat.le_of_ble_eq_true rfl) dX11_isFit_34) rfl (fun H locs hw => ?_)
          refine lv_aload_n hx hb dX11_isFit_37 rfl (lv_at hl 0 rfl) ?_
          refine g_get hx hb hG hown hK hw inlX11 (ci := 9) rfl 0 12 (Nat.le_of_ble_eq_true rfl) rfl rfl wd_6_3 dX11_isFit_38 ?_
          refine lv_iload_n hx hb dX11_isFit_41 rfl (lv_at hl 3 rfl) ?_
          obtain ⟨hi5, hf⟩ := gA_s hf
          refine g_iald hx hb hK hw 2 rfl hi5 dX11_isFit_42 ?_
          refine lv_icmp_ne (tgt := 50) hx hb dX11_isFit_43 (by decide) (fun hc => ?_) (fun hc => ?_)
          · have hf := g_f hc hf
            exact B50 (fX11_isFit_b15 v_t_sights f_t_sightBreath f_t_sightFlew n) ih x1 x3 _ _ _ hf hw (lv_sub hl [0, 1, 3] rfl)
          · have hf := g_t hc hf
            refine lv_iconst (v := 1) hx hb dX11_isFit_46 k_i1 ?_
            refine lv_goto (tgt := 51) hx hb dX11_isFit_47 (by decide) ?_
            exact B51 (fX11_isFit_b15 v_t_sights f_t_sightBreath f_t_sightFlew n) ih x1 x3 1 _ _ _ hf hw (lv_sub hl [0, 1, 3] rfl)
  refine lv_iload_n hx hb dX11_isFit_0 rfl (lv_at hl 1 rfl) ?_
  refine lv_bipush (v := 100) hx hb dX11_isFit_1 k_b100 ?_
  refine g_irem hx hb dX11_isFit_3 (by decide) ?_
  refine lv_i2l hx hb dX11_isFit_4 rfl ?_
  refine lv_lconst (v := 1) hx hb dX11_isFit_5 k_l1 ?_
  refine lv_ldc2 hx hb hown (hG _ wd_32_13) dX11_isFit_6 ?_
  obtain ⟨r6, hc7, hf⟩ := gB_s hf
  refine g_ki0 (is := []) hw hA (g_rS hx hb hml hG hown hK hw (is := []) rfl (by decide) (mX11_in l E (Int32.toInt64 (x1 % 100)) 1 40 r6 hc7) wd_8_10 wd_8_11 wd_1_5 wd_8_12 hX11_in g_allgood ⟨rfl, rfl⟩ ⟨Nat.le_of_ble_eq_true rfl, Nat.le_of_ble_eq_true rfl⟩ ⟨Nat.zero_le _, Nat.zero_le _⟩ rfl hl.1 rfl (Nat.le_of_ble_eq_true rfl) dX11_isFit_9) rfl (fun H locs hw => ?_)
  refine lv_istore_n (lv' := [(2, .int r6), (0, .ref o_t), (1, .int x1)]) hx hb dX11_isFit_12 rfl hl (Nat.le_of_ble_eq_true rfl) rfl (fun ls hl => ?_)
  refine lv_iconst (v := 0) hx hb dX11_isFit_13 k_i0 ?_
  refine lv_istore_n (lv' := [(3, .int 0), (2, .int r6), (0, .ref o_t), (1, .int x1)]) hx hb dX11_isFit_14 rfl hl (Nat.le_of_ble_eq_true rfl) rfl (fun ls hl => ?_)
  exact B15 1000 x1 r6 0 _ _ _ hf hw (lv_sub hl [2, 3, 1, 0] rfl)
theorem hX11_fits : yX11_fits.cls = RX11 ∧ yX11_fits.cls ≠ "java/lang/invoke/MethodHandle" ∧ yX11_fits.cls ≠ "java/lang/invoke/VarHandle" ∧ (parseMethodDescriptor yX11_fits.desc).map (fun d => d.parameters.length) = some 1 := by decide +kernel
set_option maxHeartbeats 4000000 in
set_option maxRecDepth 100000 in
theorem mX11_fits (l : Launch) (E : gE) (o_t : Nat) (a_t : (Nat → Nat)) (v_t_there : Int32) (v_t_wind : Int32) (v_t_force : Int32) (v_t_rains : Int32) (v_t_lost : Int32) (v_t_hours : Int32) (v_t_sights : Int32) (v_t_padMany : Int32) (v_t_acts : Int32) (v_t_blownMany : Int32) (v_t_badAct : Int32) (v_t_badWhy : Int32) (v_t_ruinAct : Int32) (v_t_ruinWho : Int32) (v_t_keptAt : Int32) (v_t_isWriting : Int32) (f_t_sightBreath : (Nat → Int32)) (f_t_sightFlew : (Nat → Int32)) (x1 : Int32) (rv : Int32) (hf : fX11_fits v_t_sights f_t_sightBreath f_t_sightFlew x1 = some rv) {sz : Nat} : gMi l yX11_fits (gW yX11_fits cX11_fits 4 (some .int)) ({ frames := 2, cells := 0, slots := 0, locals := 48 } : Room) E [.ref o_t, .int x1] (wX11_fits E o_t a_t v_t_there v_t_wind v_t_force v_t_rains v_t_lost v_t_hours v_t_sights v_t_padMany v_t_acts v_t_blownMany v_t_badAct v_t_badWhy v_t_ruinAct v_t_ruinWho v_t_keptAt v_t_isWriting f_t_sightBreath f_t_sightFlew) sz rv (wX11_fits E o_t a_t v_t_there v_t_wind v_t_force v_t_rains v_t_lost v_t_hours v_t_sights v_t_padMany v_t_acts v_t_blownMany v_t_badAct v_t_badWhy v_t_ruinAct v_t_ruinWho v_t_keptAt v_t_isWriting f_t_sightBreath f_t_sightFlew) := by
  refine g_openI (own := RX11) (by decide) rfl (Nat.le_of_ble_eq_true rfl) (fun p e s m args below meth cd Q A hx hb hml hown hG hK hA hret hw ls hl => ?_)
  have hl : lv_has ls 4 [(0, .ref o_t), (1, .int x1)] := hl
  have hret1 : ∀ (t : Int32) (H : Heap) (locs : List Loc) (pc : Nat) (ls : Array Slot), some t = some rv → gS E A s.heap (wX11_fits E o_t a_t v_t_there v_t_wind v_t_force v_t_rains v_t_lost v_t_hours v_t_sights v_t_padMany v_t_acts v_t_blownMany v_t_badAct v_t_badWhy v_t_ruinAct v_t_ruinWho v_t_keptAt v_t_isWriting f_t_sightBreath f_t_sightFlew) H locs → decode cX11_fits pc = .ok (.ireturn, 1) → W p l e ({ frames := 2, cells := 0, slots := 0, locals := 48 } : Room) s m args below meth cd H locs 0 0 Q (F0 m pc ls [.int t]) := by
    intro t H locs pc ls h hw hd
    obtain rfl : t = rv := Option.some.inj h
    exact hret H locs pc ls hw hd
  have B30 : ∀ (K5 : Int32 → Int32 → Int32 → Option (Int32)) (hK5 : ∀ (x1 : Int32) (x2 : Int32) (x3 : Int32) (H : Heap) (locs : List Loc) (ls : Array Slot), K5 x1 x2 x3 = some rv → gS E A s.heap (wX11_fits E o_t a_t v_t_there v_t_wind v_t_force v_t_rains v_t_lost v_t_hours v_t_sights v_t_padMany v_t_acts v_t_blownMany v_t_badAct v_t_badWhy v_t_ruinAct v_t_ruinWho v_t_keptAt v_t_isWriting f_t_sightBreath f_t_sightFlew) H locs → lv_has ls 4 [(0, .ref o_t), (1, .int x1), (2, .int x2), (3, .int x3)] → W p l e ({ frames := 2, cells := 0, slots := 0, locals := 48 } : Room) s m args below meth cd H locs 0 0 Q (F0 m 5 ls [])), ∀ (x1 : Int32) (x2 : Int32) (x3 : Int32) (H : Heap) (locs : List Loc) (ls : Array Slot), fX11_fits_b30 K5 v_t_sights f_t_sightBreath f_t_sightFlew x1 x2 x3 = some rv → gS E A s.heap (wX11_fits E o_t a_t v_t_there v_t_wind v_t_force v_t_rains v_t_lost v_t_hours v_t_sights v_t_padMany v_t_acts v_t_blownMany v_t_badAct v_t_badWhy v_t_ruinAct v_t_ruinWho v_t_keptAt v_t_isWriting f_t_sightBreath f_t_sightFlew) H locs → lv_has ls 4 [(0, .ref o_t), (1, .int x1), (2, .int x2), (3, .int x3)] → W p l e ({ frames := 2, cells := 0, slots := 0, locals := 48 } : Room) s m args below meth cd H locs 0 0 Q (F0 m 30 ls []) := by
    intro K5 hK5 x1 x2 x3 H locs ls hf hw hl
    refine lv_iinc (lv' := [(3, .int (x3 + 1)), (0, .ref o_t), (1, .int x1), (2, .int x2)]) hx hb dX11_fits_30 hl (k := 3) rfl (k_inc1 _) (Nat.le_of_ble_eq_true rfl) rfl (fun ls hl => ?_)
    refine lv_goto (tgt := 5) hx hb dX11_fits_33 (by decide) ?_
    exact hK5 x1 x2 (x3 + 1) _ _ _ hf hw (lv_sub hl [1, 2, 3, 0] rfl)
  have B47 : ∀ (s0 : Int32) (H : Heap) (locs : List Loc) (ls : Array Slot), fX11_fits_b47 s0 = some rv → gS E A s.heap (wX11_fits E o_t a_t v_t_there v_t_wind v_t_force v_t_rains v_t_lost v_t_hours v_t_sights v_t_padMany v_t_acts v_t_blownMany v_t_badAct v_t_badWhy v_t_ruinAct v_t_ruinWho v_t_keptAt v_t_isWriting f_t_sightBreath f_t_sightFlew) H locs → lv_has ls 4 [] → W p l e ({ frames := 2, cells := 0, slots := 0, locals := 48 } : Room) s m args below meth cd H locs 0 0 Q (F0 m 47 ls [.int s0]) := by
    intro  s0 H locs ls hf hw hl
    exact hret1 s0 _ _ _ _ hf hw dX11_fits_47
  have B5 : ∀ n : Nat, ∀ (x1 : Int32) (x2 : Int32) (x3 : Int32) (H : Heap) (locs : List Loc) (ls : Array Slot), fX11_fits_b5 v_t_sights f_t_sightBreath f_t_sightFlew n x1 x2 x3 = some rv → gS E A s.heap (wX11_fits E o_t a_t v_t_there v_t_wind v_t_force v_t_rains v_t_lost v_t_hours v_t_sights v_t_padMany v_t_acts v_t_blownMany v_t_badAct v_t_badWhy v_t_ruinAct v_t_ruinWho v_t_keptAt v_t_isWriting f_t_sightBreath f_t_sightFlew) H locs → lv_has ls 4 [(0, .ref o_t), (1, .int x1), (2, .int x2), (3, .int x3)] → W p l e ({ frames := 2, cells := 0, slots := 0, locals := 48 } : Room) s m args below meth cd H locs 0 0 Q (F0 m 5 ls []) := by
    intro n
    induction n with
    | zero => intro x1 x2 x3 H locs ls hf hw hl; exact g_no hf
    | succ n ih =>
      intro x1 x2 x3 H locs ls hf hw hl
      refine lv_iload_n hx hb dX11_fits_5 rfl (lv_at hl 3 rfl) ?_
      refine lv_sipush (v := 1000) hx hb dX11_fits_6 k_s1000 ?_
      refine lv_icmp_ge (tgt := 36) hx hb dX11_fits_9 (by decide) (fun hc => ?_) (fun hc => ?_)
      · have hf := g_t hc hf
        refine lv_iload_n hx hb dX11_fits_36 rfl (lv_at hl 1 rfl) ?_
        refine lv_iconst (v := -1) hx hb dX11_fits_37 k_im1 ?_
        refine lv_icmp_ne (tgt := 45) hx hb dX11_fits_38 (by decide) (fun hc => ?_) (fun hc => ?_)
        · have hf := g_f hc hf
          refine lv_bipush (v := -6) hx hb dX11_fits_45 k_bm6 ?_
          exact B47 (-6) _ _ _ hf hw (lv_sub hl [] rfl)
        · have hf := g_t hc hf
          refine lv_iload_n hx hb dX11_fits_41 rfl (lv_at hl 2 rfl) ?_
          refine lv_goto (tgt := 47) hx hb dX11_fits_42 (by decide) ?_
          exact B47 x2 _ _ _ hf hw (lv_sub hl [] rfl)
      · have hf := g_f hc hf
        refine lv_aload_n hx hb dX11_fits_12 rfl (lv_at hl 0 rfl) ?_
        refine lv_iload_n hx hb dX11_fits_13 rfl (lv_at hl 3 rfl) ?_
        obtain ⟨r1, hc2, hf⟩ := gB_s hf
        refine g_ki0 (is := [0, 1, 2]) hw hA (g_rV hx hb hml hG hown hK hw (is := [0, 1, 2]) rfl (by decide) (mX11_isFit l E o_t a_t v_t_there v_t_wind v_t_force v_t_rains v_t_lost v_t_hours v_t_sights v_t_padMany v_t_acts v_t_blownMany v_t_badAct v_t_badWhy v_t_ruinAct v_t_ruinWho v_t_keptAt v_t_isWriting f_t_sightBreath f_t_sightFlew x3 r1 hc2) wd_32_9 wd_32_10 wd_32_11 wd_1_5 wd_32_12 hX11_isFit g_allgood ⟨rfl, rfl⟩ ⟨Nat.le_of_ble_eq_true rfl, Nat.le_of_ble_eq_true rfl⟩ ⟨Nat.zero_le _, Nat.zero_le _⟩ (ci := 9) (q0 := 0) rfl rfl rfl rfl hl.1 rfl (Nat.le_of_ble_eq_true rfl) dX11_fits_14) rfl (fun H locs hw => ?_)
        refine lv_if_eq (tgt := 30) hx hb dX11_fits_17 (by decide) (fun hc => ?_) (fun hc => ?_)
        · have hf := g_t hc hf
          exact B30 (fX11_fits_b5 v_t_sights f_t_sightBreath f_t_sightFlew n) ih x1 x2 x3 _ _ _ hf hw (lv_sub hl [0, 1, 2, 3] rfl)
        · have hf := g_f hc hf
          refine lv_iload_n hx hb dX11_fits_20 rfl (lv_at hl 2 rfl) ?_
          refine lv_iload_n hx hb dX11_fits_21 rfl (lv_at hl 1 rfl) ?_
          refine lv_icmp_ne (tgt := 27) hx hb dX11_fits_22 (by decide) (fun hc => ?_) (fun hc => ?_)
          · have hf := g_f hc hf
            refine lv_iinc (lv' := [(2, .int (x2 + 1)), (0, .ref o_t), (1, .int x1), (3, .int x3)]) hx hb dX11_fits_27 hl (k := 2) rfl (k_inc1 _) (Nat.le_of_ble_eq_true rfl) rfl (fun ls hl => ?_)
            exact B30 (fX11_fits_b5 v_t_sights f_t_sightBreath f_t_sightFlew n) ih x1 (x2 + 1) x3 _ _ _ hf hw (lv_sub hl [1, 2, 0, 3] rfl)
          · have hf := g_t hc hf
            refine lv_iload_n hx hb dX11_fits_25 rfl (lv_at hl 3 rfl) ?_
            exact hret1 x3 _ _ _ _ hf hw dX11_fits_26
  refine lv_iconst (v := 0) hx hb dX11_fits_0 k_i0 ?_
  refine lv_istore_n (lv' := [(2, .int 0), (0, .ref o_t), (1, .int x1)]) hx hb dX11_fits_1 rfl hl (Nat.le_of_ble_eq_true rfl) rfl (fun ls hl => ?_)
  refine lv_bipush (v := 100) hx hb dX11_fits_2 k_b100 ?_
  refine lv_istore_n (lv' := [(3, .int 100), (2, .int 0), (0, .ref o_t), (1, .int x1)]) hx hb dX11_fits_4 rfl hl (Nat.le_of_ble_eq_true rfl) rfl (fun ls hl => ?_)
  exact B5 1000 x1 0 100 _ _ _ hf hw (lv_sub hl [2, 3, 1, 0] rfl)
