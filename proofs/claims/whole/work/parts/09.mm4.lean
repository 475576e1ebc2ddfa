theorem hX11_passRow : yX11_passRow.cls = RX11 ∧ yX11_passRow.cls ≠ "java/lang/invoke/MethodHandle" ∧ yX11_passRow.cls ≠ "java/lang/invoke/VarHandle" ∧ (parseMethodDescriptor yX11_passRow.desc).map (fun d => d.parameters.length) = some 2 := by decide +kernel
set_option maxHeartbeats 4000000 in
set_option maxRecDepth 100000 in
theorem mX11_passRow (l : Launch) (E : gE) (o_t : Nat) (a_t : (Nat → Nat)) (o_p0 : Nat) (v_t_there : Int32) (v_t_wind : Int32) (v_t_force : Int32) (v_t_rains : Int32) (v_t_lost : Int32) (v_t_hours : Int32) (v_t_sights : Int32) (v_t_padMany : Int32) (v_t_acts : Int32) (v_t_blownMany : Int32) (v_t_badAct : Int32) (v_t_badWhy : Int32) (v_t_ruinAct : Int32) (v_t_ruinWho : Int32) (v_t_keptAt : Int32) (v_t_isWriting : Int32) (f_t_kept : (Nat → Int32)) (n_p0 : Nat) (f_p0 : (Nat → Int32)) (x2 : Int32) (z_t_keptAt : Int32) (z_t_kept : (Nat → Int32)) (z_p0 : (Nat → Int32)) (hf : fX11_passRow v_t_keptAt v_t_isWriting f_t_kept n_p0 f_p0 x2 = some (z_t_keptAt, z_t_kept, z_p0)) {sz : Nat} : gMv l yX11_passRow (gW yX11_passRow cX11_passRow 4 none) ({ frames := 1, cells := 0, slots := 0, locals := 22 } : Room) E [.ref o_t, .ref o_p0, .int x2] (wX11_passRow E o_t a_t o_p0 v_t_there v_t_wind v_t_force v_t_rains v_t_lost v_t_hours v_t_sights v_t_padMany v_t_acts v_t_blownMany v_t_badAct v_t_badWhy v_t_ruinAct v_t_ruinWho v_t_keptAt v_t_isWriting f_t_kept n_p0 f_p0) sz (wX11_passRow E o_t a_t o_p0 v_t_there v_t_wind v_t_force v_t_rains v_t_lost v_t_hours v_t_sights v_t_padMany v_t_acts v_t_blownMany v_t_badAct v_t_badWhy v_t_ruinAct v_t_ruinWho z_t_keptAt v_t_isWriting z_t_kept n_p0 z_p0) := by
  refine g_openV (own := RX11) (by decide) rfl (Nat.le_of_ble_eq_true rfl) (fun p e s m args below meth cd Q A hx hb hml hown hG hK hA hret hw ls hl => ?_)
  have hl : lv_has ls 4 [(0, .ref o_t), (1, .ref o_p0), (2, .int x2)] := hl
  have hret1 : ∀ (v_t_keptAt : Int32) (f_t_kept : (Nat → Int32)) (f_p0 : (Nat → Int32)) (H : Heap) (locs : List Loc) (pc : Nat) (ls : Array Slot), some (v_t_keptAt, f_t_kept, f_p0) = some (z_t_keptAt, z_t_kept, z_p0) → gS E A s.heap (wX11_passRow E o_t a_t o_p0 v_t_there v_t_wind v_t_force v_t_rains v_t_lost v_t_hours v_t_sights v_t_padMany v_t_acts v_t_blownMany v_t_badAct v_t_badWhy v_t_ruinAct v_t_ruinWho v_t_keptAt v_t_isWriting f_t_kept n_p0 f_p0) H locs → decode cX11_passRow pc = .ok (.return_, 1) → W p l e ({ frames := 1, cells := 0, slots := 0, locals := 22 } : Room) s m args below meth cd H locs 0 0 Q (F0 m pc ls []) := by
    intro v_t_keptAt f_t_kept f_p0 H locs pc ls h hw hd
    cases h
    exact hret H locs pc ls hw hd
  have B2 : ∀ n : Nat, ∀ (v_t_keptAt : Int32) (f_t_kept : (Nat → Int32)) (f_p0 : (Nat → Int32)) (x2 : Int32) (x3 : Int32) (H : Heap) (locs : List Loc) (ls : Array Slot), fX11_passRow_b2 v_t_isWriting n_p0 n v_t_keptAt f_t_kept f_p0 x2 x3 = some (z_t_keptAt, z_t_kept, z_p0) → gS E A s.heap (wX11_passRow E o_t a_t o_p0 v_t_there v_t_wind v_t_force v_t_rains v_t_lost v_t_hours v_t_sights v_t_padMany v_t_acts v_t_blownMany v_t_badAct v_t_badWhy v_t_ruinAct v_t_ruinWho v_t_keptAt v_t_isWriting f_t_kept n_p0 f_p0) H locs → lv_has ls 4 [(0, .ref o_t), (1, .ref o_p0), (2, .int x2), (3, .int x3)] → W p l e ({ frames := 1, cells := 0, slots := 0, locals := 22 } : Room) s m args below meth cd H locs 0 0 Q (F0 m 2 ls []) := by
    intro n
    induction n with
    | zero => intro v_t_keptAt f_t_kept f_p0 x2 x3 H locs ls hf hw hl; exact g_no hf
    | succ n ih =>
      intro v_t_keptAt f_t_kept f_p0 x2 x3 H locs ls hf hw hl
      refine lv_iload_n hx hb dX11_passRow_2 rfl (lv_at hl 3 rfl) ?_
      refine lv_iload_n hx hb dX11_passRow_3 rfl (lv_at hl 2 rfl) ?_
      refine lv_icmp_ge (tgt := 23) hx hb dX11_passRow_4 (by decide) (fun hc => ?_) (fun hc => ?_)
      · have hf := g_t hc hf
        exact hret1 v_t_keptAt f_t_kept f_p0 _ _ _ _ hf hw dX11_passRow_23
      · have hf := g_f hc hf
        refine lv_aload_n hx hb dX11_passRow_7 rfl (lv_at hl 1 rfl) ?_
        refine lv_iload_n hx hb dX11_passRow_8 rfl (lv_at hl 3 rfl) ?_
        refine lv_aload_n hx hb dX11_passRow_9 rfl (lv_at hl 0 rfl) ?_
        refine lv_aload_n hx hb dX11_passRow_10 rfl (lv_at hl 1 rfl) ?_
        refine lv_iload_n hx hb dX11_passRow_11 rfl (lv_at hl 3 rfl) ?_
        obtain ⟨hi1, hf⟩ := gA_s hf
        refine g_iald hx hb hK hw 2 rfl hi1 dX11_passRow_12 ?_
        obtain ⟨r2, hc3, hf⟩ := gB_s hf
        refine g_ki (is := [0, 1]) (w1 := (wX11_pass E o_t a_t v_t_there v_t_wind v_t_force v_t_rains v_t_lost v_t_hours v_t_sights v_t_padMany v_t_acts v_t_blownMany v_t_badAct v_t_badWhy v_t_ruinAct v_t_ruinWho r2.2.1 v_t_isWriting r2.2.2)) (ws' := (wX11_passRow E o_t a_t o_p0 v_t_there v_t_wind v_t_force v_t_rains v_t_lost v_t_hours v_t_sights v_t_padMany v_t_acts v_t_blownMany v_t_badAct v_t_badWhy v_t_ruinAct v_t_ruinWho r2.2.1 v_t_isWriting r2.2.2 n_p0 f_p0)) hw hA (g_rV hx hb hml hG hown hK hw (is := [0, 1]) rfl (by decide) (mX11_pass l E o_t a_t v_t_there v_t_wind v_t_force v_t_rains v_t_lost v_t_hours v_t_sights v_t_padMany v_t_acts v_t_blownMany v_t_badAct v_t_badWhy v_t_ruinAct v_t_ruinWho v_t_keptAt v_t_isWriting f_t_kept (f_p0 (Int32.toNatClampNeg x3)) r2.1 r2.2.1 r2.2.2 hc3) wd_37_19 wd_37_20 wd_37_21 wd_1_5 wd_37_22 hX11_pass g_allgood ⟨rfl, rfl⟩ ⟨Nat.le_of_ble_eq_true rfl, Nat.le_of_ble_eq_true rfl⟩ ⟨Nat.zero_le _, Nat.zero_le _⟩ (ci := 9) (q0 := 0) rfl rfl rfl rfl hl.1 rfl (Nat.le_of_ble_eq_true rfl) dX11_passRow_13) rfl rfl rfl (fun H locs hw => ?_)
        obtain ⟨hi4, hf⟩ := gA_s hf
        refine g_iast (ws' := (wX11_passRow E o_t a_t o_p0 v_t_there v_t_wind v_t_force v_t_rains v_t_lost v_t_hours v_t_sights v_t_padMany v_t_acts v_t_blownMany v_t_badAct v_t_badWhy v_t_ruinAct v_t_ruinWho r2.2.1 v_t_isWriting r2.2.2 n_p0 (upd f_p0 (Int32.toNatClampNeg x3) r2.1))) hx hb hK hw 2 rfl hi4 rfl dX11_passRow_16 (fun H locs hw => ?_)
        refine lv_iinc (lv' := [(3, .int (x3 + 1)), (0, .ref o_t), (1, .ref o_p0), (2, .int x2)]) hx hb dX11_passRow_17 hl (k := 3) rfl (k_inc1 _) (Nat.le_of_ble_eq_true rfl) rfl (fun ls hl => ?_)
        refine lv_goto (tgt := 2) hx hb dX11_passRow_20 (by decide) ?_
        exact ih r2.2.1 r2.2.2 (upd f_p0 (Int32.toNatClampNeg x3) r2.1) x2 (x3 + 1) _ _ _ hf hw (lv_sub hl [1, 2, 3, 0] rfl)
  refine lv_iconst (v := 0) hx hb dX11_passRow_0 k_i0 ?_
  refine lv_istore_n (lv' := [(3, .int 0), (0, .ref o_t), (1, .ref o_p0), (2, .int x2)]) hx hb dX11_passRow_1 rfl hl (Nat.le_of_ble_eq_true rfl) rfl (fun ls hl => ?_)
  exact B2 1000 v_t_keptAt f_t_kept f_p0 x2 0 _ _ _ hf hw (lv_sub hl [1, 2, 3, 0] rfl)
theorem hX11_passAll : yX11_passAll.cls = RX11 ∧ yX11_passAll.cls ≠ "java/lang/invoke/MethodHandle" ∧ yX11_passAll.cls ≠ "java/lang/invoke/VarHandle" ∧ (parseMethodDescriptor yX11_passAll.desc).map (fun d => d.parameters.length) = some 0 := by decide +kernel
set_option maxHeartbeats 4000000 in
set_option maxRecDepth 100000 in
theorem mX11_passAll (l : Launch) (E : gE) (o_t : Nat) (a_t : (Nat → Nat)) (v_t_there : Int32) (v_t_wind : Int32) (v_t_force : Int32) (v_t_rains : Int32) (v_t_lost : Int32) (v_t_hours : Int32) (v_t_sights : Int32) (v_t_padMany : Int32) (v_t_acts : Int32) (v_t_blownMany : Int32) (v_t_badAct : Int32) (v_t_badWhy : Int32) (v_t_ruinAct : Int32) (v_t_ruinWho : Int32) (v_t_keptAt : Int32) (v_t_isWriting : Int32) (f_t_at : (Nat → Int32)) (f_t_stem : (Nat → Int32)) (f_t_lungs : (Nat → Int32)) (f_t_blown : (Nat → Int32)) (f_t_heap : (Nat → Int32)) (f_t_sightBreath : (Nat → Int32)) (f_t_sightFlew : (Nat → Int32)) (f_t_kept : (Nat → Int32)) (z_t_there : Int32) (z_t_wind : Int32) (z_t_force : Int32) (z_t_rains : Int32) (z_t_lost : Int32) (z_t_hours : Int32) (z_t_sights : Int32) (z_t_keptAt : Int32) (z_t_at : (Nat → Int32)) (z_t_stem : (Nat → Int32)) (z_t_lungs : (Nat → Int32)) (z_t_blown : (Nat → Int32)) (z_t_heap : (Nat → Int32)) (z_t_sightBreath : (Nat → Int32)) (z_t_sightFlew : (Nat → Int32)) (z_t_kept : (Nat → Int32)) (hf : fX11_passAll v_t_there v_t_wind v_t_force v_t_rains v_t_lost v_t_hours v_t_sights v_t_keptAt v_t_isWriting f_t_at f_t_stem f_t_lungs f_t_blown f_t_heap f_t_sightBreath f_t_sightFlew f_t_kept = some (z_t_there, z_t_wind, z_t_force, z_t_rains, z_t_lost, z_t_hours, z_t_sights, z_t_keptAt, z_t_at, z_t_stem, z_t_lungs, z_t_blown, z_t_heap, z_t_sightBreath, z_t_sightFlew, z_t_kept)) {sz : Nat} : gMv l yX11_passAll (gW yX11_passAll cX11_passAll 1 none) ({ frames := 2, cells := 0, slots := 0, locals := 45 } : Room) E [.ref o_t] (wX11_passAll E o_t a_t v_t_there v_t_wind v_t_force v_t_rains v_t_lost v_t_hours v_t_sights v_t_padMany v_t_acts v_t_blownMany v_t_badAct v_t_badWhy v_t_ruinAct v_t_ruinWho v_t_keptAt v_t_isWriting f_t_at f_t_stem f_t_lungs f_t_blown f_t_heap f_t_sightBreath f_t_sightFlew f_t_kept) sz (wX11_passAll E o_t a_t z_t_there z_t_wind z_t_force z_t_rains z_t_lost z_t_hours z_t_sights v_t_padMany v_t_acts v_t_blownMany v_t_badAct v_t_badWhy v_t_ruinAct v_t_ruinWho z_t_keptAt v_t_isWriting z_t_at z_t_stem z_t_lungs z_t_blown z_t_heap z_t_sightBreath z_t_sightFlew z_t_kept) := by
  refine g_openV (own := RX11) (by decide) rfl (Nat.le_of_ble_eq_true rfl) (fun p e s m args below meth cd Q A hx hb hml hown hG hK hA hret hw ls hl => ?_)
  have hl : lv_has ls 1 [(0, .ref o_t)] := hl
  have hret1 : ∀ (v_t_there : Int32) (v_t_wind : Int32) (v_t_force : Int32) (v_t_rains : Int32) (v_t_lost : Int32) (v_t_hours : Int32) (v_t_sights : Int32) (v_t_keptAt : Int32) (f_t_at : (Nat → Int32)) (f_t_stem : (Nat → Int32)) (f_t_lungs : (Nat → Int32)) (f_t_blown : (Nat → Int32)) (f_t_heap : (Nat → Int32)) (f_t_sightBreath : (Nat → Int32)) (f_t_sightFlew : (Nat → Int32)) (f_t_kept : (Nat → Int32)) (H : Heap) (locs : List Loc) (pc : Nat) (ls : Array Slot), some (v_t_there, v_t_wind, v_t_force, v_t_rains, v_t_lost, v_t_hours, v_t_sights, v_t_keptAt, f_t_at, f_t_stem, f_t_lungs, f_t_blown, f_t_heap, f_t_sightBreath, f_t_sightFlew, f_t_kept) = some (z_t_there, z_t_wind, z_t_force, z_t_rains, z_t_lost, z_t_hours, z_t_sights, z_t_keptAt, z_t_at, z_t_stem, z_t_lungs, z_t_blown, z_t_heap, z_t_sightBreath, z_t_sightFlew, z_t_kept) → gS E A s.heap (wX11_passAll E o_t a_t v_t_there v_t_wind v_t_force v_t_rains v_t_lost v_t_hours v_t_sights v_t_padMany v_t_acts v_t_blownMany v_t_badAct v_t_badWhy v_t_ruinAct v_t_ruinWho v_t_keptAt v_t_isWriting f_t_at f_t_stem f_t_lungs f_t_blown f_t_heap f_t_sightBreath f_t_sightFlew f_t_kept) H locs → decode cX11_passAll pc = .ok (.return_, 1) → W p l e ({ frames := 2, cells := 0, slots := 0, locals := 45 } : Room) s m args below meth cd H locs 0 0 Q (F0 m pc ls []) := by
    intro v_t_there v_t_wind v_t_force v_t_rains v_t_lost v_t_hours v_t_sights v_t_keptAt f_t_at f_t_stem f_t_lungs f_t_blown f_t_heap f_t_sightBreath f_t_sightFlew f_t_kept H locs pc ls h hw hd
    cases h
    exact hret H locs pc ls hw hd
  refine lv_aload_n hx hb dX11_passAll_0 rfl (lv_at hl 0 rfl) ?_
  refine lv_aload_n hx hb dX11_passAll_1 rfl (lv_at hl 0 rfl) ?_
  refine lv_aload_n hx hb dX11_passAll_2 rfl (lv_at hl 0 rfl) ?_
  refine g_get hx hb hG hown hK hw inlX11 (ci := 9) rfl 0 0 (Nat.le_of_ble_eq_true rfl) rfl rfl wd_8_9 dX11_passAll_3 ?_
  obtain ⟨r1, hc2, hf⟩ := gB_s hf
  refine g_ki (is := [0, 8]) (w1 := (wX11_pass E o_t a_t v_t_there v_t_wind v_t_force v_t_rains v_t_lost v_t_hours v_t_sights v_t_padMany v_t_acts v_t_blownMany v_t_badAct v_t_badWhy v_t_ruinAct v_t_ruinWho r1.2.1 v_t_isWriting r1.2.2)) (ws' := (wX11_passAll E o_t a_t v_t_there v_t_wind v_t_force v_t_rains v_t_lost v_t_hours v_t_sights v_t_padMany v_t_acts v_t_blownMany v_t_badAct v_t_badWhy v_t_ruinAct v_t_ruinWho r1.2.1 v_t_isWriting f_t_at f_t_stem f_t_lungs f_t_blown f_t_heap f_t_sightBreath f_t_sightFlew r1.2.2)) hw hA (g_rV hx hb hml hG hown hK hw (is := [0, 8]) rfl (by decide) (mX11_pass l E o_t a_t v_t_there v_t_wind v_t_force v_t_rains v_t_lost v_t_hours v_t_sights v_t_padMany v_t_acts v_t_blownMany v_t_badAct v_t_badWhy v_t_ruinAct v_t_ruinWho v_t_keptAt v_t_isWriting f_t_kept v_t_there r1.1 r1.2.1 r1.2.2 hc2) wd_37_19 wd_37_20 wd_37_21 wd_1_5 wd_37_22 hX11_pass g_allgood ⟨rfl, rfl⟩ ⟨Nat.le_of_ble_eq_true rfl, Nat.le_of_ble_eq_true rfl⟩ ⟨Nat.zero_le _, Nat.zero_le _⟩ (ci := 9) (q0 := 0) rfl rfl rfl rfl hl.1 rfl (Nat.le_of_ble_eq_true rfl) dX11_passAll_6) rfl rfl rfl (fun H locs hw => ?_)
  refine g_put (ws' := (wX11_passAll E o_t a_t r1.1 v_t_wind v_t_force v_t_rains v_t_lost v_t_hours v_t_sights v_t_padMany v_t_acts v_t_blownMany v_t_badAct v_t_badWhy v_t_ruinAct v_t_ruinWho r1.2.1 v_t_isWriting f_t_at f_t_stem f_t_lungs f_t_blown f_t_heap f_t_sightBreath f_t_sightFlew r1.2.2)) hx hb hG hown hK hw inlX11 tyX11_ok nmX11 (ci := 9) rfl 0 0 (Nat.le_of_ble_eq_true rfl) rfl wd_8_9 rfl rfl rfl (Nat.le_of_ble_eq_true rfl) rfl dX11_passAll_9 (fun H locs hw => ?_)
  refine lv_aload_n hx hb dX11_passAll_12 rfl (lv_at hl 0 rfl) ?_
  refine lv_aload_n hx hb dX11_passAll_13 rfl (lv_at hl 0 rfl) ?_
  refine lv_aload_n hx hb dX11_passAll_14 rfl (lv_at hl 0 rfl) ?_
  refine g_get hx hb hG hown hK hw inlX11 (ci := 9) rfl 0 6 (Nat.le_of_ble_eq_true rfl) rfl rfl wd_11_17 dX11_passAll_15 ?_
  obtain ⟨r3, hc4, hf⟩ := gB_s hf
  refine g_ki (is := [0, 8]) (w1 := (wX11_pass E o_t a_t r1.1 v_t_wind v_t_force v_t_rains v_t_lost v_t_hours v_t_sights v_t_padMany v_t_acts v_t_blownMany v_t_badAct v_t_badWhy v_t_ruinAct v_t_ruinWho r3.2.1 v_t_isWriting r3.2.2)) (ws' := (wX11_passAll E o_t a_t r1.1 v_t_wind v_t_force v_t_rains v_t_lost v_t_hours v_t_sights v_t_padMany v_t_acts v_t_blownMany v_t_badAct v_t_badWhy v_t_ruinAct v_t_ruinWho r3.2.1 v_t_isWriting f_t_at f_t_stem f_t_lungs f_t_blown f_t_heap f_t_sightBreath f_t_sightFlew r3.2.2)) hw hA (g_rV hx hb hml hG hown hK hw (is := [0, 8]) rfl (by decide) (mX11_pass l E o_t a_t r1.1 v_t_wind v_t_force v_t_rains v_t_lost v_t_hours v_t_sights v_t_padMany v_t_acts v_t_blownMany v_t_badAct v_t_badWhy v_t_ruinAct v_t_ruinWho r1.2.1 v_t_isWriting r1.2.2 v_t_wind r3.1 r3.2.1 r3.2.2 hc4) wd_37_19 wd_37_20 wd_37_21 wd_1_5 wd_37_22 hX11_pass g_allgood ⟨rfl, rfl⟩ ⟨Nat.le_of_ble_eq_true rfl, Nat.le_of_ble_eq_true rfl⟩ ⟨Nat.zero_le _, Nat.zero_le _⟩ (ci := 9) (q0 := 0) rfl rfl rfl rfl hl.1 rfl (Nat.le_of_ble_eq_true rfl) dX11_passAll_18) rfl rfl rfl (fun H locs hw => ?_)
  refine g_put (ws' := (wX11_passAll E o_t a_t r1.1 r3.1 v_t_force v_t_rains v_t_lost v_t_hours v_t_sights v_t_padMany v_t_acts v_t_blownMany v_t_badAct v_t_badWhy v_t_ruinAct v_t_ruinWho r3.2.1 v_t_isWriting f_t_at f_t_stem f_t_lungs f_t_blown f_t_heap f_t_sightBreath f_t_sightFlew r3.2.2)) hx hb hG hown hK hw inlX11 tyX11_ok nmX11 (ci := 9) rfl 0 6 (Nat.le_of_ble_eq_true rfl) rfl wd_11_17 rfl rfl rfl (Nat.le_of_ble_eq_true rfl) rfl dX11_passAll_21 (fun H locs hw => ?_)
  refine lv_aload_n hx hb dX11_passAll_24 rfl (lv_at hl 0 rfl) ?_
  refine lv_aload_n hx hb dX11_passAll_25 rfl (lv_at hl 0 rfl) ?_
  refine lv_aload_n hx hb dX11_passAll_26 rfl (lv_at hl 0 rfl) ?_
  refine g_get hx hb hG hown hK hw inlX11 (ci := 9) rfl 0 7 (Nat.le_of_ble_eq_true rfl) rfl rfl wd_6_19 dX11_passAll_27 ?_
  obtain ⟨r5, hc6, hf⟩ := gB_s hf
  refine g_ki (is := [0, 8]) (w1 := (wX11_pass E o_t a_t r1.1 r3.1 v_t_force v_t_rains v_t_lost v_t_hours v_t_sights v_t_padMany v_t_acts v_t_blownMany v_t_badAct v_t_badWhy v_t_ruinAct v_t_ruinWho r5.2.1 v_t_isWriting r5.2.2)) (ws' := (wX11_passAll E o_t a_t r1.1 r3.1 v_t_force v_t_rains v_t_lost v_t_hours v_t_sights v_t_padMany v_t_acts v_t_blownMany v_t_badAct v_t_badWhy v_t_ruinAct v_t_ruinWho r5.2.1 v_t_isWriting f_t_at f_t_stem f_t_lungs f_t_blown f_t_heap f_t_sightBreath f_t_sightFlew r5.2.2)) hw hA (g_rV hx hb hml hG hown hK hw (is := [0, 8]) rfl (by decide) (mX11_pass l E o_t a_t r1.1 r3.1 v_t_force v_t_rains v_t_lost v_t_hours v_t_sights v_t_padMany v_t_acts v_t_blownMany v_t_badAct v_t_badWhy v_t_ruinAct v_t_ruinWho r3.2.1 v_t_isWriting r3.2.2 v_t_force r5.1 r5.2.1 r5.2.2 hc6) wd_37_19 wd_37_20 wd_37_21 wd_1_5 wd_37_22 hX11_pass g_allgood ⟨rfl, rfl⟩ ⟨Nat.le_of_ble_eq_true rfl, Nat.le_of_ble_eq_true rfl⟩ ⟨Nat.zero_le _, Nat.zero_le _⟩ (ci := 9) (q0 := 0) rfl rfl rfl rfl hl.1 rfl (Nat.le_of_ble_eq_true rfl) dX11_passAll_30) rfl rfl rfl (fun H locs hw => ?_)
  refine g_put (ws' := (wX11_passAll E o_t a_t r1.1 r3.1 r5.1 v_t_rains v_t_lost v_t_hours v_t_sights v_t_padMany v_t_acts v_t_blownMany v_t_badAct v_t_badWhy v_t_ruinAct v_t_ruinWho r5.2.1 v_t_isWriting f_t_at f_t_stem f_t_lungs f_t_blown f_t_heap f_t_sightBreath f_t_sightFlew r5.2.2)) hx hb hG hown hK hw inlX11 tyX11_ok nmX11 (ci := 9) rfl 0 7 (Nat.le_of_ble_eq_true rfl) rfl wd_6_19 rfl rfl rfl (Nat.le_of_ble_eq_true rfl) rfl dX11_passAll_33 (fun H locs hw => ?_)
  refine lv_aload_n hx hb dX11_passAll_36 rfl (lv_at hl 0 rfl) ?_
  refine lv_aload_n hx hb dX11_passAll_37 rfl (lv_at hl 0 rfl) ?_
  refine lv_aload_n hx hb dX11_passAll_38 rfl (lv_at hl 0 rfl) ?_
  refine g_get hx hb hG hown hK hw inlX11 (ci := 9) rfl 0 8 (Nat.le_of_ble_eq_true rfl) rfl rfl wd_11_18 dX11_passAll_39 ?_
  obtain ⟨r7, hc8, hf⟩ := gB_s hf
  refine g_ki (is := [0, 8]) (w1 := (wX11_pass E o_t a_t r1.1 r3.1 r5.1 v_t_rains v_t_lost v_t_hours v_t_sights v_t_padMany v_t_acts v_t_blownMany v_t_badAct v_t_badWhy v_t_ruinAct v_t_ruinWho r7.2.1 v_t_isWriting r7.2.2)) (ws' := (wX11_passAll E o_t a_t r1.1 r3.1 r5.1 v_t_rains v_t_lost v_t_hours v_t_sights v_t_padMany v_t_acts v_t_blownMany v_t_badAct v_t_badWhy v_t_ruinAct v_t_ruinWho r7.2.1 v_t_isWriting f_t_at f_t_stem f_t_lungs f_t_blown f_t_heap f_t_sightBreath f_t_sightFlew r7.2.2)) hw hA (g_rV hx hb hml hG hown hK hw (is := [0, 8]) rfl (by decide) (mX11_pass l E o_t a_t r1.1 r3.1 r5.1 v_t_rains v_t_lost v_t_hours v_t_sights v_t_padMany v_t_acts v_t_blownMany v_t_badAct v_t_badWhy v_t_ruinAct v_t_ruinWho r5.2.1 v_t_isWriting r5.2.2 v_t_rains r7.1 r7.2.1 r7.2.2 hc8) wd_37_19 wd_37_20 wd_37_21 wd_1_5 wd_37_22 hX11_pass g_allgood ⟨rfl, rfl⟩ ⟨Nat.le_of_ble_eq_true rfl, Nat.le_of_ble_eq_true rfl⟩ ⟨Nat.zero_le _, Nat.zero_le _⟩ (ci := 9) (q0 := 0) rfl rfl rfl rfl hl.1 rfl (Nat.le_of_ble_eq_true rfl) dX11_passAll_42) rfl rfl rfl (fun H locs hw => ?_)
  refine g_put (ws' := (wX11_passAll E o_t a_t r1.1 r3.1 r5.1 r7.1 v_t_lost v_t_hours v_t_sights v_t_padMany v_t_acts v_t_blownMany v_t_badAct v_t_badWhy v_t_ruinAct v_t_ruinWho r7.2.1 v_t_isWriting f_t_at f_t_stem f_t_lungs f_t_blown f_t_heap f_t_sightBreath f_t_sightFlew r7.2.2)) hx hb hG hown hK hw inlX11 tyX11_ok nmX11 (ci := 9) rfl 0 8 (Nat.le_of_ble_eq_true rfl) rfl wd_11_18 rfl rfl rfl (Nat.le_of_ble_eq_true rfl) rfl dX11_passAll_45 (fun H locs hw => ?_)
  refine lv_aload_n hx hb dX11_passAll_48 rfl (lv_at hl 0 rfl) ?_
  refine lv_aload_n hx hb dX11_passAll_49 rfl (lv_at hl 0 rfl) ?_
  refine lv_aload_n hx hb dX11_passAll_50 rfl (lv_at hl 0 rfl) ?_
  refine g_get hx hb hG hown hK hw inlX11 (ci := 9) rfl 0 9 (Nat.le_of_ble_eq_true rfl) rfl rfl wd_10_5 dX11_passAll_51 ?_
  obtain ⟨r9, hc10, hf⟩ := gB_s hf
  refine g_ki (is := [0, 8]) (w1 := (wX11_pass E o_t a_t r1.1 r3.1 r5.1 r7.1 v_t_lost v_t_hours v_t_sights v_t_padMany v_t_acts v_t_blownMany v_t_badAct v_t_badWhy v_t_ruinAct v_t_ruinWho r9.2.1 v_t_isWriting r9.2.2)) (ws' := (wX11_passAll E o_t a_t r1.1 r3.1 r5.1 r7.1 v_t_lost v_t_hours v_t_sights v_t_padMany v_t_acts v_t_blownMany v_t_badAct v_t_badWhy v_t_ruinAct v_t_ruinWho r9.2.1 v_t_isWriting f_t_at f_t_stem f_t_lungs f_t_blown f_t_heap f_t_sightBreath f_t_sightFlew r9.2.2)) hw hA (g_rV hx hb hml hG hown hK hw (is := [0, 8]) rfl (by decide) (mX11_pass l E o_t a_t r1.1 r3.1 r5.1 r7.1 v_t_lost v_t_hours v_t_sights v_t_padMany v_t_acts v_t_blownMany v_t_badAct v_t_badWhy v_t_ruinAct v_t_ruinWho r7.2.1 v_t_isWriting r7.2.2 v_t_lost r9.1 r9.2.1 r9.2.2 hc10) wd_37_19 wd_37_20 wd_37_21 wd_1_5 wd_37_22 hX11_pass g_allgood ⟨rfl, rfl⟩ ⟨Nat.le_of_ble_eq_true rfl, Nat.le_of_ble_eq_true rfl⟩ ⟨Nat.zero_le _, Nat.zero_le _⟩ (ci := 9) (q0 := 0) rfl rfl rfl rfl hl.1 rfl (Nat.le_of_ble_eq_true rfl) dX11_passAll_54) rfl rfl rfl (fun H locs hw => ?_)
  refine g_put (ws' := (wX11_passAll E o_t a_t r1.1 r3.1 r5.1 r7.1 r9.1 v_t_hours v_t_sights v_t_padMany v_t_acts v_t_blownMany v_t_badAct v_t_badWhy v_t_ruinAct v_t_ruinWho r9.2.1 v_t_isWriting f_t_at f_t_stem f_t_lungs f_t_blown f_t_heap f_t_sightBreath f_t_sightFlew r9.2.2)) hx hb hG hown hK hw inlX11 tyX11_ok nmX11 (ci := 9) rfl 0 9 (Nat.le_of_ble_eq_true rfl) rfl wd_10_5 rfl rfl rfl (Nat.le_of_ble_eq_true rfl) rfl dX11_passAll_57 (fun H locs hw => ?_)
  refine lv_aload_n hx hb dX11_passAll_60 rfl (lv_at hl 0 rfl) ?_
  refine lv_aload_n hx hb dX11_passAll_61 rfl (lv_at hl 0 rfl) ?_
  refine lv_aload_n hx hb dX11_passAll_62 rfl (lv_at hl 0 rfl) ?_
  refine g_get hx hb hG hown hK hw inlX11 (ci := 9) rfl 0 10 (Nat.le_of_ble_eq_true rfl) rfl rfl wd_19_12 dX11_passAll_63 ?_
  obtain ⟨r11, hc12, hf⟩ := gB_s hf
  refine g_ki (is := [0, 8]) (w1 := (wX11_pass E o_t a_t r1.1 r3.1 r5.1 r7.1 r9.1 v_t_hours v_t_sights v_t_padMany v_t_acts v_t_blownMany v_t_badAct v_t_badWhy v_t_ruinAct v_t_ruinWho r11.2.1 v_t_isWriting r11.2.2)) (ws' := (wX11_passAll E o_t a_t r1.1 r3.1 r5.1 r7.1 r9.1 v_t_hours v_t_sights v_t_padMany v_t_acts v_t_blownMany v_t_badAct v_t_badWhy v_t_ruinAct v_t_ruinWho r11.2.1 v_t_isWriting f_t_at f_t_stem f_t_lungs f_t_blown f_t_heap f_t_sightBreath f_t_sightFlew r11.2.2)) hw hA (g_rV hx hb hml hG hown hK hw (is := [0, 8]) rfl (by decide) (mX11_pass l E o_t a_t r1.1 r3.1 r5.1 r7.1 r9.1 v_t_hours v_t_sights v_t_padMany v_t_acts v_t_blownMany v_t_badAct v_t_badWhy v_t_ruinAct v_t_ruinWho r9.2.1 v_t_isWriting r9.2.2 v_t_hours r11.1 r11.2.1 r11.2.2 hc12) wd_37_19 wd_37_20 wd_37_21 wd_1_5 wd_37_22 hX11_pass g_allgood ⟨rfl, rfl⟩ ⟨Nat.le_of_ble_eq_true rfl, Nat.le_of_ble_eq_true rfl⟩ ⟨Nat.zero_le _, Nat.zero_le _⟩ (ci := 9) (q0 := 0) rfl rfl rfl rfl hl.1 rfl (Nat.le_of_ble_eq_true rfl) dX11_passAll_66) rfl rfl rfl (fun H locs hw => ?_)
  refine g_put (ws' := (wX11_passAll E o_t a_t r1.1 r3.1 r5.1 r7.1 r9.1 r11.1 v_t_sights v_t_padMany v_t_acts v_t_blownMany v_t_badAct v_t_badWhy v_t_ruinAct v_t_ruinWho r11.2.1 v_t_isWriting f_t_at f_t_stem f_t_lungs f_t_blown f_t_heap f_t_sightBreath f_t_sightFlew r11.2.2)) hx hb hG hown hK hw inlX11 tyX11_ok nmX11 (ci := 9) rfl 0 10 (Nat.le_of_ble_eq_true rfl) rfl wd_19_12 rfl rfl rfl (Nat.le_of_ble_eq_true rfl) rfl dX11_passAll_69 (fun H locs hw => ?_)
  refine lv_aload_n hx hb dX11_passAll_72 rfl (lv_at hl 0 rfl) ?_
  refine lv_aload_n hx hb dX11_passAll_73 rfl (lv_at hl 0 rfl) ?_
  refine lv_aload_n hx hb dX11_passAll_74 rfl (lv_at hl 0 rfl) ?_
  refine g_get hx hb hG hown hK hw inlX11 (ci := 9) rfl 0 13 (Nat.le_of_ble_eq_true rfl) rfl rfl wd_31_4 dX11_passAll_75 ?_
  obtain ⟨r13, hc14, hf⟩ := gB_s hf
  refine g_ki (is := [0, 8]) (w1 := (wX11_pass E o_t a_t r1.1 r3.1 r5.1 r7.1 r9.1 r11.1 v_t_sights v_t_padMany v_t_acts v_t_blownMany v_t_badAct v_t_badWhy v_t_ruinAct v_t_ruinWho r13.2.1 v_t_isWriting r13.2.2)) (ws' := (wX11_passAll E o_t a_t r1.1 r3.1 r5.1 r7.1 r9.1 r11.1 v_t_sights v_t_padMany v_t_acts v_t_blownMany v_t_badAct v_t_badWhy v_t_ruinAct v_t_ruinWho r13.2.1 v_t_isWriting f_t_at f_t_stem f_t_lungs f_t_blown f_t_heap f_t_sightBreath f_t_sightFlew r13.2.2)) hw hA (g_rV hx hb hml hG hown hK hw (is := [0, 8]) rfl (by decide) (mX11_pass l E o_t a_t r1.1 r3.1 r5.1 r7.1 r9.1 r11.1 v_t_sights v_t_padMany v_t_acts v_t_blownMany v_t_badAct v_t_badWhy v_t_ruinAct v_t_ruinWho r11.2.1 v_t_isWriting r11.2.2 v_t_sights r13.1 r13.2.1 r13.2.2 hc14) wd_37_19 wd_37_20 wd_37_21 wd_1_5 wd_37_22 hX11_pass g_allgood ⟨rfl, rfl⟩ ⟨Nat.le_of_ble_eq_true rfl, Nat.le_of_ble_eq_true rfl⟩ ⟨Nat.zero_le _, Nat.zero_le _⟩ (ci := 9) (q0 := 0) rfl rfl rfl rfl hl.1 rfl (Nat.le_of_ble_eq_true rfl) dX11_passAll_78) rfl rfl rfl (fun H locs hw => ?_)
  refine g_put (ws' := (wX11_passAll E o_t a_t r1.1 r3.1 r5.1 r7.1 r9.1 r11.1 r13.1 v_t_padMany v_t_acts v_t_blownMany v_t_badAct v_t_badWhy v_t_ruinAct v_t_ruinWho r13.2.1 v_t_isWriting f_t_at f_t_stem f_t_lungs f_t_blown f_t_heap f_t_sightBreath f_t_sightFlew r13.2.2)) hx hb hG hown hK hw inlX11 tyX11_ok nmX11 (ci := 9) rfl 0 13 (Nat.le_of_ble_eq_true rfl) rfl wd_31_4 rfl rfl rfl (Nat.le_of_ble_eq_true rfl) rfl dX11_passAll_81 (fun H locs hw => ?_)
  refine lv_aload_n hx hb dX11_passAll_84 rfl (lv_at hl 0 rfl) ?_
  refine lv_aload_n hx hb dX11_passAll_85 rfl (lv_at hl 0 rfl) ?_
  refine g_get hx hb hG hown hK hw inlX11 (ci := 9) rfl 0 1 (Nat.le_of_ble_eq_true rfl) rfl rfl wd_5_21 dX11_passAll_86 ?_
  refine lv_bipush (v := 6) hx hb dX11_passAll_89 k_b6 ?_
  obtain ⟨r15, hc16, hf⟩ := gB_s hf
  refine g_kv (is := [0, 8, 1]) (w1 := (wX11_passRow E o_t a_t (a_t 1) r1.1 r3.1 r5.1 r7.1 r9.1 r11.1 r13.1 v_t_padMany v_t_acts v_t_blownMany v_t_badAct v_t_badWhy v_t_ruinAct v_t_ruinWho r15.1 v_t_isWriting r15.2.1 6 r15.2.2)) (ws' := (wX11_passAll E o_t a_t r1.1 r3.1 r5.1 r7.1 r9.1 r11.1 r13.1 v_t_padMany v_t_acts v_t_blownMany v_t_badAct v_t_badWhy v_t_ruinAct v_t_ruinWho r15.1 v_t_isWriting r15.2.2 f_t_stem f_t_lungs f_t_blown f_t_heap f_t_sightBreath f_t_sightFlew r15.2.1)) hw hA (g_rV hx hb hml hG hown hK hw (is := [0, 8, 1]) rfl (by decide) (mX11_passRow l E o_t a_t (a_t 1) r1.1 r3.1 r5.1 r7.1 r9.1 r11.1 r13.1 v_t_padMany v_t_acts v_t_blownMany v_t_badAct v_t_badWhy v_t_ruinAct v_t_ruinWho r13.2.1 v_t_isWriting r13.2.2 6 f_t_at 6 r15.1 r15.2.1 r15.2.2 hc16) wd_37_23 wd_38_0 wd_38_1 wd_1_5 wd_38_2 hX11_passRow g_allgood ⟨rfl, rfl⟩ ⟨Nat.le_of_ble_eq_true rfl, Nat.le_of_ble_eq_true rfl⟩ ⟨Nat.zero_le _, Nat.zero_le _⟩ (ci := 9) (q0 := 0) rfl rfl rfl rfl hl.1 rfl (Nat.le_of_ble_eq_true rfl) dX11_passAll_91) rfl rfl rfl (fun H locs hw => ?_)
  refine lv_aload_n hx hb dX11_passAll_94 rfl (lv_at hl 0 rfl) ?_
  refine lv_aload_n hx hb dX11_passAll_95 rfl (lv_at hl 0 rfl) ?_
  refine g_get hx hb hG hown hK hw inlX11 (ci := 9) rfl 0 2 (Nat.le_of_ble_eq_true rfl) rfl rfl wd_5_22 dX11_passAll_96 ?_
  refine lv_bipush (v := 6) hx hb dX11_passAll_99 k_b6 ?_
  obtain ⟨r17, hc18, hf⟩ := gB_s hf
  refine g_kv (is := [0, 8, 2]) (w1 := (wX11_passRow E o_t a_t (a_t 2) r1.1 r3.1 r5.1 r7.1 r9.1 r11.1 r13.1 v_t_padMany v_t_acts v_t_blownMany v_t_badAct v_t_badWhy v_t_ruinAct v_t_ruinWho r17.1 v_t_isWriting r17.2.1 6 r17.2.2)) (ws' := (wX11_passAll E o_t a_t r1.1 r3.1 r5.1 r7.1 r9.1 r11.1 r13.1 v_t_padMany v_t_acts v_t_blownMany v_t_badAct v_t_badWhy v_t_ruinAct v_t_ruinWho r17.1 v_t_isWriting r15.2.2 r17.2.2 f_t_lungs f_t_blown f_t_heap f_t_sightBreath f_t_sightFlew r17.2.1)) hw hA (g_rV hx hb hml hG hown hK hw (is := [0, 8, 2]) rfl (by decide) (mX11_passRow l E o_t a_t (a_t 2) r1.1 r3.1 r5.1 r7.1 r9.1 r11.1 r13.1 v_t_padMany v_t_acts v_t_blownMany v_t_badAct v_t_badWhy v_t_ruinAct v_t_ruinWho r15.1 v_t_isWriting r15.2.1 6 f_t_stem 6 r17.1 r17.2.1 r17.2.2 hc18) wd_37_23 wd_38_0 wd_38_1 wd_1_5 wd_38_2 hX11_passRow g_allgood ⟨rfl, rfl⟩ ⟨Nat.le_of_ble_eq_true rfl, Nat.le_of_ble_eq_true rfl⟩ ⟨Nat.zero_le _, Nat.zero_le _⟩ (ci := 9) (q0 := 0) rfl rfl rfl rfl hl.1 rfl (Nat.le_of_ble_eq_true rfl) dX11_passAll_101) rfl rfl rfl (fun H locs hw => ?_)
  refine lv_aload_n hx hb dX11_passAll_104 rfl (lv_at hl 0 rfl) ?_
  refine lv_aload_n hx hb dX11_passAll_105 rfl (lv_at hl 0 rfl) ?_
  refine g_get hx hb hG hown hK hw inlX11 (ci := 9) rfl 0 3 (Nat.le_of_ble_eq_true rfl) rfl rfl wd_5_23 dX11_passAll_106 ?_
  refine lv_bipush (v := 6) hx hb dX11_passAll_109 k_b6 ?_
  obtain ⟨r19, hc20, hf⟩ := gB_s hf
  refine g_kv (is := [0, 8, 3]) (w1 := (wX11_passRow E o_t a_t (a_t 3) r1.1 r3.1 r5.1 r7.1 r9.1 r11.1 r13.1 v_t_padMany v_t_acts v_t_blownMany v_t_badAct v_t_badWhy v_t_ruinAct v_t_ruinWho r19.1 v_t_isWriting r19.2.1 6 r19.2.2)) (ws' := (wX11_passAll E o_t a_t r1.1 r3.1 r5.1 r7.1 r9.1 r11.1 r13.1 v_t_padMany v_t_acts v_t_blownMany v_t_badAct v_t_badWhy v_t_ruinAct v_t_ruinWho r19.1 v_t_isWriting r15.2.2 r17.2.2 r19.2.2 f_t_blown f_t_heap f_t_sightBreath f_t_sightFlew r19.2.1)) hw hA (g_rV hx hb hml hG hown hK hw (is := [0, 8, 3]) rfl (by decide) (mX11_passRow l E o_t a_t (a_t 3) r1.1 r3.1 r5.1 r7.1 r9.1 r11.1 r13.1 v_t_padMany v_t_acts v_t_blownMany v_t_badAct v_t_badWhy v_t_ruinAct v_t_ruinWho r17.1 v_t_isWriting r17.2.1 6 f_t_lungs 6 r19.1 r19.2.1 r19.2.2 hc20) wd_37_23 wd_38_0 wd_38_1 wd_1_5 wd_38_2 hX11_passRow g_allgood ⟨rfl, rfl⟩ ⟨Nat.le_of_ble_eq_true rfl, Nat.le_of_ble_eq_true rfl⟩ ⟨Nat.zero_le _, Nat.zero_le _⟩ (ci := 9) (q0 := 0) rfl rfl rfl rfl hl.1 rfl (Nat.le_of_ble_eq_true rfl) dX11_passAll_111) rfl rfl rfl (fun H locs hw => ?_)
  refine lv_aload_n hx hb dX11_passAll_114 rfl (lv_at hl 0 rfl) ?_
  refine lv_aload_n hx hb dX11_passAll_115 rfl (lv_at hl 0 rfl) ?_
  refine g_get hx hb hG hown hK hw inlX11 (ci := 9) rfl 0 4 (Nat.le_of_ble_eq_true rfl) rfl rfl wd_6_0 dX11_passAll_116 ?_
  refine lv_bipush (v := 6) hx hb dX11_passAll_119 k_b6 ?_
  obtain ⟨r21, hc22, hf⟩ := gB_s hf
  refine g_kv (is := [0, 8, 4]) (w1 := (wX11_passRow E o_t a_t (a_t 4) r1.1 r3.1 r5.1 r7.1 r9.1 r11.1 r13.1 v_t_padMany v_t_acts v_t_blownMany v_t_badAct v_t_badWhy v_t_ruinAct v_t_ruinWho r21.1 v_t_isWriting r21.2.1 6 r21.2.2)) (ws' := (wX11_passAll E o_t a_t r1.1 r3.1 r5.1 r7.1 r9.1 r11.1 r13.1 v_t_padMany v_t_acts v_t_blownMany v_t_badAct v_t_badWhy v_t_ruinAct v_t_ruinWho r21.1 v_t_isWriting r15.2.2 r17.2.2 r19.2.2 r21.2.2 f_t_heap f_t_sightBreath f_t_sightFlew r21.2.1)) hw hA (g_rV hx hb hml hG hown hK hw (is := [0, 8, 4]) rfl (by decide) (mX11_passRow l E o_t a_t (a_t 4) r1.1 r3.1 r5.1 r7.1 r9.1 r11.1 r13.1 v_t_padMany v_t_acts v_t_blownMany v_t_badAct v_t_badWhy v_t_ruinAct v_t_ruinWho r19.1 v_t_isWriting r19.2.1 6 f_t_blown 6 r21.1 r21.2.1 r21.2.2 hc22) wd_37_23 wd_38_0 wd_38_1 wd_1_5 wd_38_2 hX11_passRow g_allgood ⟨rfl, rfl⟩ ⟨Nat.le_of_ble_eq_true rfl, Nat.le_of_ble_eq_true rfl⟩ ⟨Nat.zero_le _, Nat.zero_le _⟩ (ci := 9) (q0 := 0) rfl rfl rfl rfl hl.1 rfl (Nat.le_of_ble_eq_true rfl) dX11_passAll_121) rfl rfl rfl (fun H locs hw => ?_)
  refine lv_aload_n hx hb dX11_passAll_124 rfl (lv_at hl 0 rfl) ?_
  refine lv_aload_n hx hb dX11_passAll_125 rfl (lv_at hl 0 rfl) ?_
  refine g_get hx hb hG hown hK hw inlX11 (ci := 9) rfl 0 5 (Nat.le_of_ble_eq_true rfl) rfl rfl wd_6_1 dX11_passAll_126 ?_
  refine lv_bipush (v := 36) hx hb dX11_passAll_129 k_b36 ?_
  obtain ⟨r23, hc24, hf⟩ := gB_s hf
  refine g_kv (is := [0, 8, 5]) (w1 := (wX11_passRow E o_t a_t (a_t 5) r1.1 r3.1 r5.1 r7.1 r9.1 r11.1 r13.1 v_t_padMany v_t_acts v_t_blownMany v_t_badAct v_t_badWhy v_t_ruinAct v_t_ruinWho r23.1 v_t_isWriting r23.2.1 36 r23.2.2)) (ws' := (wX11_passAll E o_t a_t r1.1 r3.1 r5.1 r7.1 r9.1 r11.1 r13.1 v_t_padMany v_t_acts v_t_blownMany v_t_badAct v_t_badWhy v_t_ruinAct v_t_ruinWho r23.1 v_t_isWriting r15.2.2 r17.2.2 r19.2.2 r21.2.2 r23.2.2 f_t_sightBreath f_t_sightFlew r23.2.1)) hw hA (g_rV hx hb hml hG hown hK hw (is := [0, 8, 5]) rfl (by decide) (mX11_passRow l E o_t a_t (a_t 5) r1.1 r3.1 r5.1 r7.1 r9.1 r11.1 r13.1 v_t_padMany v_t_acts v_t_blownMany v_t_badAct v_t_badWhy v_t_ruinAct v_t_ruinWho r21.1 v_t_isWriting r21.2.1 36 f_t_heap 36 r23.1 r23.2.1 r23.2.2 hc24) wd_37_23 wd_38_0 wd_38_1 wd_1_5 wd_38_2 hX11_passRow g_allgood ⟨rfl, rfl⟩ ⟨Nat.le_of_ble_eq_true rfl, Nat.le_of_ble_eq_true rfl⟩ ⟨Nat.zero_le _, Nat.zero_le _⟩ (ci := 9) (q0 := 0) rfl rfl rfl rfl hl.1 rfl (Nat.le_of_ble_eq_true rfl) dX11_passAll_131) rfl rfl rfl (fun H locs hw => ?_)
  refine lv_aload_n hx hb dX11_passAll_134 rfl (lv_at hl 0 rfl) ?_
  refine lv_aload_n hx hb dX11_passAll_135 rfl (lv_at hl 0 rfl) ?_
  refine g_get hx hb hG hown hK hw inlX11 (ci := 9) rfl 0 11 (Nat.le_of_ble_eq_true rfl) rfl rfl wd_6_2 dX11_passAll_136 ?_
  refine lv_bipush (v := 8) hx hb dX11_passAll_139 k_b8 ?_
  obtain ⟨r25, hc26, hf⟩ := gB_s hf
  refine g_kv (is := [0, 8, 6]) (w1 := (wX11_passRow E o_t a_t (a_t 11) r1.1 r3.1 r5.1 r7.1 r9.1 r11.1 r13.1 v_t_padMany v_t_acts v_t_blownMany v_t_badAct v_t_badWhy v_t_ruinAct v_t_ruinWho r25.1 v_t_isWriting r25.2.1 8 r25.2.2)) (ws' := (wX11_passAll E o_t a_t r1.1 r3.1 r5.1 r7.1 r9.1 r11.1 r13.1 v_t_padMany v_t_acts v_t_blownMany v_t_badAct v_t_badWhy v_t_ruinAct v_t_ruinWho r25.1 v_t_isWriting r15.2.2 r17.2.2 r19.2.2 r21.2.2 r23.2.2 r25.2.2 f_t_sightFlew r25.2.1)) hw hA (g_rV hx hb hml hG hown hK hw (is := [0, 8, 6]) rfl (by decide) (mX11_passRow l E o_t a_t (a_t 11) r1.1 r3.1 r5.1 r7.1 r9.1 r11.1 r13.1 v_t_padMany v_t_acts v_t_blownMany v_t_badAct v_t_badWhy v_t_ruinAct v_t_ruinWho r23.1 v_t_isWriting r23.2.1 8 f_t_sightBreath 8 r25.1 r25.2.1 r25.2.2 hc26) wd_37_23 wd_38_0 wd_38_1 wd_1_5 wd_38_2 hX11_passRow g_allgood ⟨rfl, rfl⟩ ⟨Nat.le_of_ble_eq_true rfl, Nat.le_of_ble_eq_true rfl⟩ ⟨Nat.zero_le _, Nat.zero_le _⟩ (ci := 9) (q0 := 0) rfl rfl rfl rfl hl.1 rfl (Nat.le_of_ble_eq_true rfl) dX11_passAll_141) rfl rfl rfl (fun H locs hw => ?_)
  refine lv_aload_n hx hb dX11_passAll_144 rfl (lv_at hl 0 rfl) ?_
  refine lv_aload_n hx hb dX11_passAll_145 rfl (lv_at hl 0 rfl) ?_
  refine g_get hx hb hG hown hK hw inlX11 (ci := 9) rfl 0 12 (Nat.le_of_ble_eq_true rfl) rfl rfl wd_6_3 dX11_passAll_146 ?_
  refine lv_bipush (v := 8) hx hb dX11_passAll_149 k_b8 ?_
  obtain ⟨r27, hc28, hf⟩ := gB_s hf
  refine g_kv (is := [0, 8, 7]) (w1 := (wX11_passRow E o_t a_t (a_t 12) r1.1 r3.1 r5.1 r7.1 r9.1 r11.1 r13.1 v_t_padMany v_t_acts v_t_blownMany v_t_badAct v_t_badWhy v_t_ruinAct v_t_ruinWho r27.1 v_t_isWriting r27.2.1 8 r27.2.2)) (ws' := (wX11_passAll E o_t a_t r1.1 r3.1 r5.1 r7.1 r9.1 r11.1 r13.1 v_t_padMany v_t_acts v_t_blownMany v_t_badAct v_t_badWhy v_t_ruinAct v_t_ruinWho r27.1 v_t_isWriting r15.2.2 r17.2.2 r19.2.2 r21.2.2 r23.2.2 r25.2.2 r27.2.2 r27.2.1)) hw hA (g_rV hx hb hml hG hown hK hw (is := [0, 8, 7]) rfl (by decide) (mX11_passRow l E o_t a_t (a_t 12) r1.1 r3.1 r5.1 r7.1 r9.1 r11.1 r13.1 v_t_padMany v_t_acts v_t_blownMany v_t_badAct v_t_badWhy v_t_ruinAct v_t_ruinWho r25.1 v_t_isWriting r25.2.1 8 f_t_sightFlew 8 r27.1 r27.2.1 r27.2.2 hc28) wd_37_23 wd_38_0 wd_38_1 wd_1_5 wd_38_2 hX11_passRow g_allgood ⟨rfl, rfl⟩ ⟨Nat.le_of_ble_eq_true rfl, Nat.le_of_ble_eq_true rfl⟩ ⟨Nat.zero_le _, Nat.zero_le _⟩ (ci := 9) (q0 := 0) rfl rfl rfl rfl hl.1 rfl (Nat.le_of_ble_eq_true rfl) dX11_passAll_151) rfl rfl rfl (fun H locs hw => ?_)
  exact hret1 r1.1 r3.1 r5.1 r7.1 r9.1 r11.1 r13.1 r27.1 r15.2.2 r17.2.2 r19.2.2 r21.2.2 r23.2.2 r25.2.2 r27.2.2 r27.2.1 _ _ _ _ hf hw dX11_passAll_154
theorem hX11_image : yX11_image.cls = RX11 ∧ yX11_image.cls ≠ "java/lang/invoke/MethodHandle" ∧ yX11_image.cls ≠ "java/lang/invoke/VarHandle" ∧ (parseMethodDescriptor yX11_image.desc).map (fun d => d.parameters.length) = some 1 := by decide +kernel
set_option maxHeartbeats 4000000 in
set_option maxRecDepth 100000 in
theorem mX11_image (l : Launch) (E : gE) (o_t : Nat) (a_t : (Nat → Nat)) (v_t_there : Int32) (v_t_wind : Int32) (v_t_force : Int32) (v_t_rains : Int32) (v_t_lost : Int32) (v_t_hours : Int32) (v_t_sights : Int32) (v_t_padMany : Int32) (v_t_acts : Int32) (v_t_blownMany : Int32) (v_t_badAct : Int32) (v_t_badWhy : Int32) (v_t_ruinAct : Int32) (v_t_ruinWho : Int32) (v_t_keptAt : Int32) (v_t_isWriting : Int32) (f_t_at : (Nat → Int32)) (f_t_stem : (Nat → Int32)) (f_t_lungs : (Nat → Int32)) (f_t_blown : (Nat → Int32)) (f_t_heap : (Nat → Int32)) (f_t_sightBreath : (Nat → Int32)) (f_t_sightFlew : (Nat → Int32)) (f_t_kept : (Nat → Int32)) (f_t_isKept : (Nat → Int32)) (x1 : Int32) (rv : Int32) (z_t_there : Int32) (z_t_wind : Int32) (z_t_force : Int32) (z_t_rains : Int32) (z_t_lost : Int32) (z_t_hours : Int32) (z_t_sights : Int32) (z_t_keptAt : Int32) (z_t_isWriting : Int32) (z_t_at : (Nat → Int32)) (z_t_stem : (Nat → Int32)) (z_t_lungs : (Nat → Int32)) (z_t_blown : (Nat → Int32)) (z_t_heap : (Nat → Int32)) (z_t_sightBreath : (Nat → Int32)) (z_t_sightFlew : (Nat → Int32)) (z_t_kept : (Nat → Int32)) (z_t_isKept : (Nat → Int32)) (hf : fX11_image v_t_there v_t_wind v_t_force v_t_rains v_t_lost v_t_hours v_t_sights v_t_keptAt v_t_isWriting f_t_at f_t_stem f_t_lungs f_t_blown f_t_heap f_t_sightBreath f_t_sightFlew f_t_kept f_t_isKept x1 = some (rv, z_t_there, z_t_wind, z_t_force, z_t_rains, z_t_lost, z_t_hours, z_t_sights, z_t_keptAt, z_t_isWriting, z_t_at, z_t_stem, z_t_lungs, z_t_blown, z_t_heap, z_t_sightBreath, z_t_sightFlew, z_t_kept, z_t_isKept)) {sz : Nat} : gMi l yX11_image (gW yX11_image cX11_image 2 (some .int)) ({ frames := 3, cells := 0, slots := 0, locals := 65 } : Room) E [.ref o_t, .int x1] (wX11_image E o_t a_t v_t_there v_t_wind v_t_force v_t_rains v_t_lost v_t_hours v_t_sights v_t_padMany v_t_acts v_t_blownMany v_t_badAct v_t_badWhy v_t_ruinAct v_t_ruinWho v_t_keptAt v_t_isWriting f_t_at f_t_stem f_t_lungs f_t_blown f_t_heap f_t_sightBreath f_t_sightFlew f_t_kept f_t_isKept) sz rv (wX11_image E o_t a_t z_t_there z_t_wind z_t_force z_t_rains z_t_lost z_t_hours z_t_sights v_t_padMany v_t_acts v_t_blownMany v_t_badAct v_t_badWhy v_t_ruinAct v_t_ruinWho z_t_keptAt z_t_isWriting z_t_at z_t_stem z_t_lungs z_t_blown z_t_heap z_t_sightBreath z_t_sightFlew z_t_kept z_t_isKept) := by
  refine g_openI (own := RX11) (by decide) rfl (Nat.le_of_ble_eq_true rfl) (fun p e s m args below meth cd Q A hx hb hml hown hG hK hA hret hw ls hl => ?_)
  have hl : lv_has ls 2 [(0, .ref o_t), (1, .int x1)] := hl
  have hret1 : ∀ (v : Int32) (v_t_there : Int32) (v_t_wind : Int32) (v_t_force : Int32) (v_t_rains : Int32) (v_t_lost : Int32) (v_t_hours : Int32) (v_t_sights : Int32) (v_t_keptAt : Int32) (v_t_isWriting : Int32) (f_t_at : (Nat → Int32)) (f_t_stem : (Nat → Int32)) (f_t_lungs : (Nat → Int32)) (f_t_blown : (Nat → Int32)) (f_t_heap : (Nat → Int32)) (f_t_sightBreath : (Nat → Int32)) (f_t_sightFlew : (Nat → Int32)) (f_t_kept : (Nat → Int32)) (f_t_isKept : (Nat → Int32)) (H : Heap) (locs : List Loc) (pc : Nat) (ls : Array Slot), some (v, v_t_there, v_t_wind, v_t_force, v_t_rains, v_t_lost, v_t_hours, v_t_sights, v_t_keptAt, v_t_isWriting, f_t_at, f_t_stem, f_t_lungs, f_t_blown, f_t_heap, f_t_sightBreath, f_t_sightFlew, f_t_kept, f_t_isKept) = some (rv, z_t_there, z_t_wind, z_t_force, z_t_rains, z_t_lost, z_t_hours, z_t_sights, z_t_keptAt, z_t_isWriting, z_t_at, z_t_stem, z_t_lungs, z_t_blown, z_t_heap, z_t_sightBreath, z_t_sightFlew, z_t_kept, z_t_isKept) → gS E A s.heap (wX11_image E o_t a_t v_t_there v_t_wind v_t_force v_t_rains v_t_lost v_t_hours v_t_sights v_t_padMany v_t_acts v_t_blownMany v_t_badAct v_t_badWhy v_t_ruinAct v_t_ruinWho v_t_keptAt v_t_isWriting f_t_at f_t_stem f_t_lungs f_t_blown f_t_heap f_t_sightBreath f_t_sightFlew f_t_kept f_t_isKept) H locs → decode cX11_image pc = .ok (.ireturn, 1) → W p l e ({ frames := 3, cells := 0, slots := 0, locals := 65 } : Room) s m args below meth cd H locs 0 0 Q (F0 m pc ls [.int v]) := by
    intro v v_t_there v_t_wind v_t_force v_t_rains v_t_lost v_t_hours v_t_sights v_t_keptAt v_t_isWriting f_t_at f_t_stem f_t_lungs f_t_blown f_t_heap f_t_sightBreath f_t_sightFlew f_t_kept f_t_isKept H locs pc ls h hw hd
    cases h
    exact hret H locs pc ls hw hd
  refine lv_iload_n hx hb dX11_image_0 rfl (lv_at hl 1 rfl) ?_
  refine lv_i2l hx hb dX11_image_1 rfl ?_
  refine lv_lconst (v := 0) hx hb dX11_image_2 k_l0 ?_
  refine lv_lconst (v := 1) hx hb dX11_image_3 k_l1 ?_
  obtain ⟨r1, hc2, hf⟩ := gB_s hf
  refine g_ki (is := []) (w1 := (wX11_in E)) (ws' := (wX11_image E o_t a_t v_t_there v_t_wind v_t_force v_t_rains v_t_lost v_t_hours v_t_sights v_t_padMany v_t_acts v_t_blownMany v_t_badAct v_t_badWhy v_t_ruinAct v_t_ruinWho v_t_keptAt v_t_isWriting f_t_at f_t_stem f_t_lungs f_t_blown f_t_heap f_t_sightBreath f_t_sightFlew f_t_kept f_t_isKept)) hw hA (g_rS hx hb hml hG hown hK hw (is := []) rfl (by decide) (mX11_in l E (Int32.toInt64 x1) 0 1 r1 hc2) wd_8_10 wd_8_11 wd_1_5 wd_8_12 hX11_in g_allgood ⟨rfl, rfl⟩ ⟨Nat.le_of_ble_eq_true rfl, Nat.le_of_ble_eq_true rfl⟩ ⟨Nat.zero_le _, Nat.zero_le _⟩ rfl hl.1 rfl (Nat.le_of_ble_eq_true rfl) dX11_image_4) rfl rfl rfl (fun H locs hw => ?_)
  refine lv_if_ne (tgt := 13) hx hb dX11_image_7 (by decide) (fun hc => ?_) (fun hc => ?_)
  · have hf := g_f hc hf
    refine lv_aload_n hx hb dX11_image_13 rfl (lv_at hl 0 rfl) ?_
    refine lv_bipush (v := 90) hx hb dX11_image_14 k_b90 ?_
    refine lv_iload_n hx hb dX11_image_16 rfl (lv_at hl 1 rfl) ?_
    refine lv_imul hx hb dX11_image_17 ?_
    refine g_put (ws' := (wX11_image E o_t a_t v_t_there v_t_wind v_t_force v_t_rains v_t_lost v_t_hours v_t_sights v_t_padMany v_t_acts v_t_blownMany v_t_badAct v_t_badWhy v_t_ruinAct v_t_ruinWho (90 * x1) v_t_isWriting f_t_at f_t_stem f_t_lungs f_t_blown f_t_heap f_t_sightBreath f_t_sightFlew f_t_kept f_t_isKept)) hx hb hG hown hK hw inlX11 tyX11_ok nmX11 (ci := 9) rfl 0 34 (Nat.le_of_ble_eq_true rfl) rfl wd_37_13 rfl rfl rfl (Nat.le_of_ble_eq_true rfl) rfl dX11_image_18 (fun H locs hw => ?_)
    refine lv_aload_n hx hb dX11_image_21 rfl (lv_at hl 0 rfl) ?_
    refine lv_iconst (v := 1) hx hb dX11_image_22 k_i1 ?_
    refine g_put (ws' := (wX11_image E o_t a_t v_t_there v_t_wind v_t_force v_t_rains v_t_lost v_t_hours v_t_sights v_t_padMany v_t_acts v_t_blownMany v_t_badAct v_t_badWhy v_t_ruinAct v_t_ruinWho (90 * x1) 1 f_t_at f_t_stem f_t_lungs f_t_blown f_t_heap f_t_sightBreath f_t_sightFlew f_t_kept f_t_isKept)) hx hb hG hown hK hw inlX11 tyX11_ok nmX11 (ci := 9) rfl 0 35 (Nat.le_of_ble_eq_true rfl) rfl wd_37_14 rfl (by decide) (by decide) (Nat.le_of_ble_eq_true rfl) rfl dX11_image_23 (fun H locs hw => ?_)
    refine lv_aload_n hx hb dX11_image_26 rfl (lv_at hl 0 rfl) ?_
    obtain ⟨r3, hc4, hf⟩ := gB_s hf
    refine g_kv (is := [0, 1, 2, 3, 4, 5, 6, 7, 8]) (w1 := (wX11_passAll E o_t a_t r3.1 r3.2.1 r3.2.2.1 r3.2.2.2.1 r3.2.2.2.2.1 r3.2.2.2.2.2.1 r3.2.2.2.2.2.2.1 v_t_padMany v_t_acts v_t_blownMany v_t_badAct v_t_badWhy v_t_ruinAct v_t_ruinWho r3.2.2.2.2.2.2.2.1 1 r3.2.2.2.2.2.2.2.2.1 r3.2.2.2.2.2.2.2.2.2.1 r3.2.2.2.2.2.2.2.2.2.2.1 r3.2.2.2.2.2.2.2.2.2.2.2.1 r3.2.2.2.2.2.2.2.2.2.2.2.2.1 r3.2.2.2.2.2.2.2.2.2.2.2.2.2.1 r3.2.2.2.2.2.2.2.2.2.2.2.2.2.2.1 r3.2.2.2.2.2.2.2.2.2.2.2.2.2.2.2)) (ws' := (wX11_image E o_t a_t r3.1 r3.2.1 r3.2.2.1 r3.2.2.2.1 r3.2.2.2.2.1 r3.2.2.2.2.2.1 r3.2.2.2.2.2.2.1 v_t_padMany v_t_acts v_t_blownMany v_t_badAct v_t_badWhy v_t_ruinAct v_t_ruinWho r3.2.2.2.2.2.2.2.1 1 r3.2.2.2.2.2.2.2.2.1 r3.2.2.2.2.2.2.2.2.2.1 r3.2.2.2.2.2.2.2.2.2.2.1 r3.2.2.2.2.2.2.2.2.2.2.2.1 r3.2.2.2.2.2.2.2.2.2.2.2.2.1 r3.2.2.2.2.2.2.2.2.2.2.2.2.2.1 r3.2.2.2.2.2.2.2.2.2.2.2.2.2.2.1 r3.2.2.2.2.2.2.2.2.2.2.2.2.2.2.2 f_t_isKept)) hw hA (g_rV hx hb hml hG hown hK hw (is := [0, 1, 2, 3, 4, 5, 6, 7, 8]) rfl (by decide) (mX11_passAll l E o_t a_t v_t_there v_t_wind v_t_force v_t_rains v_t_lost v_t_hours v_t_sights v_t_padMany v_t_acts v_t_blownMany v_t_badAct v_t_badWhy v_t_ruinAct v_t_ruinWho (90 * x1) 1 f_t_at f_t_stem f_t_lungs f_t_blown f_t_heap f_t_sightBreath f_t_sightFlew f_t_kept r3.1 r3.2.1 r3.2.2.1 r3.2.2.2.1 r3.2.2.2.2.1 r3.2.2.2.2.2.1 r3.2.2.2.2.2.2.1 r3.2.2.2.2.2.2.2.1 r3.2.2.2.2.2.2.2.2.1 r3.2.2.2.2.2.2.2.2.2.1 r3.2.2.2.2.2.2.2.2.2.2.1 r3.2.2.2.2.2.2.2.2.2.2.2.1 r3.2.2.2.2.2.2.2.2.2.2.2.2.1 r3.2.2.2.2.2.2.2.2.2.2.2.2.2.1 r3.2.2.2.2.2.2.2.2.2.2.2.2.2.2.1 r3.2.2.2.2.2.2.2.2.2.2.2.2.2.2.2 hc4) wd_37_15 wd_37_16 wd_37_17 wd_1_5 wd_37_18 hX11_passAll g_allgood ⟨rfl, rfl⟩ ⟨Nat.le_of_ble_eq_true rfl, Nat.le_of_ble_eq_true rfl⟩ ⟨Nat.zero_le _, Nat.zero_le _⟩ (ci := 9) (q0 := 0) rfl rfl rfl rfl hl.1 rfl (Nat.le_of_ble_eq_true rfl) dX11_image_27) rfl rfl rfl (fun H locs hw => ?_)
    refine lv_aload_n hx hb dX11_image_30 rfl (lv_at hl 0 rfl) ?_
    refine g_get hx hb hG hown hK hw inlX11 (ci := 9) rfl 0 33 (Nat.le_of_ble_eq_true rfl) rfl rfl wd_6_18 dX11_image_31 ?_
    refine lv_iload_n hx hb dX11_image_34 rfl (lv_at hl 1 rfl) ?_
    refine lv_iconst (v := 1) hx hb dX11_image_35 k_i1 ?_
    obtain ⟨hi5, hf⟩ := gA_s hf
    refine g_zast (ws' := (wX11_image E o_t a_t r3.1 r3.2.1 r3.2.2.1 r3.2.2.2.1 r3.2.2.2.2.1 r3.2.2.2.2.2.1 r3.2.2.2.2.2.2.1 v_t_padMany v_t_acts v_t_blownMany v_t_badAct v_t_badWhy v_t_ruinAct v_t_ruinWho r3.2.2.2.2.2.2.2.1 1 r3.2.2.2.2.2.2.2.2.1 r3.2.2.2.2.2.2.2.2.2.1 r3.2.2.2.2.2.2.2.2.2.2.1 r3.2.2.2.2.2.2.2.2.2.2.2.1 r3.2.2.2.2.2.2.2.2.2.2.2.2.1 r3.2.2.2.2.2.2.2.2.2.2.2.2.2.1 r3.2.2.2.2.2.2.2.2.2.2.2.2.2.2.1 r3.2.2.2.2.2.2.2.2.2.2.2.2.2.2.2 (upd f_t_isKept (Int32.toNatClampNeg x1) 1))) hx hb hK hw 9 rfl hi5 rfl rfl dX11_image_36 (fun H locs hw => ?_)
    refine lv_iconst (v := 1) hx hb dX11_image_37 k_i1 ?_
    exact hret1 1 r3.1 r3.2.1 r3.2.2.1 r3.2.2.2.1 r3.2.2.2.2.1 r3.2.2.2.2.2.1 r3.2.2.2.2.2.2.1 r3.2.2.2.2.2.2.2.1 1 r3.2.2.2.2.2.2.2.2.1 r3.2.2.2.2.2.2.2.2.2.1 r3.2.2.2.2.2.2.2.2.2.2.1 r3.2.2.2.2.2.2.2.2.2.2.2.1 r3.2.2.2.2.2.2.2.2.2.2.2.2.1 r3.2.2.2.2.2.2.2.2.2.2.2.2.2.1 r3.2.2.2.2.2.2.2.2.2.2.2.2.2.2.1 r3.2.2.2.2.2.2.2.2.2.2.2.2.2.2.2 (upd f_t_isKept (Int32.toNatClampNeg x1) 1) _ _ _ _ hf hw dX11_image_38
  · have hf := g_t hc hf
    refine lv_bipush (v := -2) hx hb dX11_image_10 k_bm2 ?_
    exact hret1 (-2) v_t_there v_t_wind v_t_force v_t_rains v_t_lost v_t_hours v_t_sights v_t_keptAt v_t_isWriting f_t_at f_t_stem f_t_lungs f_t_blown f_t_heap f_t_sightBreath f_t_sightFlew f_t_kept f_t_isKept _ _ _ _ hf hw dX11_image_12
theorem hX11_restore : yX11_restore.cls = RX11 ∧ yX11_restore.cls ≠ "java/lang/invoke/MethodHandle" ∧ yX11_restore.cls ≠ "java/lang/invoke/VarHandle" ∧ (parseMethodDescriptor yX11_restore.desc).map (fun d => d.parameters.length) = some 1 := by decide +kernel
set_option maxHeartbeats 4000000 in
set_option maxRecDepth 100000 in
theorem mX11_restore (l : Launch) (E : gE) (o_t : Nat) (a_t : (Nat → Nat)) (v_t_there : Int32) (v_t_wind : Int32) (v_t_force : Int32) (v_t_rains : Int32) (v_t_lost : Int32) (v_t_hours : Int32) (v_t_sights : Int32) (v_t_padMany : Int32) (v_t_acts : Int32) (v_t_blownMany : Int32) (v_t_badAct : Int32) (v_t_badWhy : Int32) (v_t_ruinAct : Int32) (v_t_ruinWho : Int32) (v_t_keptAt : Int32) (v_t_isWriting : Int32) (f_t_at : (Nat → Int32)) (f_t_stem : (Nat → Int32)) (f_t_lungs : (Nat → Int32)) (f_t_blown : (Nat → Int32)) (f_t_heap : (Nat → Int32)) (f_t_sightBreath : (Nat → Int32)) (f_t_sightFlew : (Nat → Int32)) (f_t_kept : (Nat → Int32)) (f_t_isKept : (Nat → Int32)) (x1 : Int32) (rv : Int32) (z_t_there : Int32) (z_t_wind : Int32) (z_t_force : Int32) (z_t_rains : Int32) (z_t_lost : Int32) (z_t_hours : Int32) (z_t_sights : Int32) (z_t_keptAt : Int32) (z_t_isWriting : Int32) (z_t_at : (Nat → Int32)) (z_t_stem : (Nat → Int32)) (z_t_lungs : (Nat → Int32)) (z_t_blown : (Nat → Int32)) (z_t_heap : (Nat → Int32)) (z_t_sightBreath : (Nat → Int32)) (z_t_sightFlew : (Nat → Int32)) (z_t_kept : (Nat → Int32)) (hf : fX11_restore v_t_there v_t_wind v_t_force v_t_rains v_t_lost v_t_hours v_t_sights v_t_keptAt v_t_isWriting f_t_at f_t_stem f_t_lungs f_t_blown f_t_heap f_t_sightBreath f_t_sightFlew f_t_kept f_t_isKept x1 = some (rv, z_t_there, z_t_wind, z_t_force, z_t_rains, z_t_lost, z_t_hours, z_t_sights, z_t_keptAt, z_t_isWriting, z_t_at, z_t_stem, z_t_lungs, z_t_blown, z_t_heap, z_t_sightBreath, z_t_sightFlew, z_t_kept)) {sz : Nat} : gMi l yX11_restore (gW yX11_restore cX11_restore 2 (some .int)) ({ frames := 3, cells := 0, slots := 0, locals := 65 } : Room) E [.ref o_t, .int x1] (wX11_restore E o_t a_t v_t_there v_t_wind v_t_force v_t_rains v_t_lost v_t_hours v_t_sights v_t_padMany v_t_acts v_t_blownMany v_t_badAct v_t_badWhy v_t_ruinAct v_t_ruinWho v_t_keptAt v_t_isWriting f_t_at f_t_stem f_t_lungs f_t_blown f_t_heap f_t_sightBreath f_t_sightFlew f_t_kept f_t_isKept) sz rv (wX11_restore E o_t a_t z_t_there z_t_wind z_t_force z_t_rains z_t_lost z_t_hours z_t_sights v_t_padMany v_t_acts v_t_blownMany v_t_badAct v_t_badWhy v_t_ruinAct v_t_ruinWho z_t_keptAt z_t_isWriting z_t_at z_t_stem z_t_lungs z_t_blown z_t_heap z_t_sightBreath z_t_sightFlew z_t_kept f_t_isKept) := by
  refine g_openI (own := RX11) (by decide) rfl (Nat.le_of_ble_eq_true rfl) (fun p e s m args below meth cd Q A hx hb hml hown hG hK hA hret hw ls hl => ?_)
  have hl : lv_has ls 2 [(0, .ref o_t), (1, .int x1)] := hl
  have hret1 : ∀ (v : Int32) (v_t_there : Int32) (v_t_wind : Int32) (v_t_force : Int32) (v_t_rains : Int32) (v_t_lost : Int32) (v_t_hours : Int32) (v_t_sights : Int32) (v_t_keptAt : Int32) (v_t_isWriting : Int32) (f_t_at : (Nat → Int32)) (f_t_stem : (Nat → Int32)) (f_t_lungs : (Nat → Int32)) (f_t_blown : (Nat → Int32)) (f_t_heap : (Nat → Int32)) (f_t_sightBreath : (Nat → Int32)) (f_t_sightFlew : (Nat → Int32)) (f_t_kept : (Nat → Int32)) (H : Heap) (locs : List Loc) (pc : Nat) (ls : Array Slot), some (v, v_t_there, v_t_wind, v_t_force, v_t_rains, v_t_lost, v_t_hours, v_t_sights, v_t_keptAt, v_t_isWriting, f_t_at, f_t_stem, f_t_lungs, f_t_blown, f_t_heap, f_t_sightBreath, f_t_sightFlew, f_t_kept) = some (rv, z_t_there, z_t_wind, z_t_force, z_t_rains, z_t_lost, z_t_hours, z_t_sights, z_t_keptAt, z_t_isWriting, z_t_at, z_t_stem, z_t_lungs, z_t_blown, z_t_heap, z_t_sightBreath, z_t_sightFlew, z_t_kept) → gS E A s.heap (wX11_restore E o_t a_t v_t_there v_t_wind v_t_force v_t_rains v_t_lost v_t_hours v_t_sights v_t_padMany v_t_acts v_t_blownMany v_t_badAct v_t_badWhy v_t_ruinAct v_t_ruinWho v_t_keptAt v_t_isWriting f_t_at f_t_stem f_t_lungs f_t_blown f_t_heap f_t_sightBreath f_t_sightFlew f_t_kept f_t_isKept) H locs → decode cX11_restore pc = .ok (.ireturn, 1) → W p l e ({ frames := 3, cells := 0, slots := 0, locals := 65 } : Room) s m args below meth cd H locs 0 0 Q (F0 m pc ls [.int v]) := by
    intro v v_t_there v_t_wind v_t_force v_t_rains v_t_lost v_t_hours v_t_sights v_t_keptAt v_t_isWriting f_t_at f_t_stem f_t_lungs f_t_blown f_t_heap f_t_sightBreath f_t_sightFlew f_t_kept H locs pc ls h hw hd
    cases h
    exact hret H locs pc ls hw hd
  refine lv_iload_n hx hb dX11_restore_0 rfl (lv_at hl 1 rfl) ?_
  refine lv_i2l hx hb dX11_restore_1 rfl ?_
  refine lv_lconst (v := 0) hx hb dX11_restore_2 k_l0 ?_
  refine lv_lconst (v := 1) hx hb dX11_restore_3 k_l1 ?_
  obtain ⟨r1, hc2, hf⟩ := gB_s hf
  refine g_ki (is := []) (w1 := (wX11_in E)) (ws' := (wX11_restore E o_t a_t v_t_there v_t_wind v_t_force v_t_rains v_t_lost v_t_hours v_t_sights v_t_padMany v_t_acts v_t_blownMany v_t_badAct v_t_badWhy v_t_ruinAct v_t_ruinWho v_t_keptAt v_t_isWriting f_t_at f_t_stem f_t_lungs f_t_blown f_t_heap f_t_sightBreath f_t_sightFlew f_t_kept f_t_isKept)) hw hA (g_rS hx hb hml hG hown hK hw (is := []) rfl (by decide) (mX11_in l E (Int32.toInt64 x1) 0 1 r1 hc2) wd_8_10 wd_8_11 wd_1_5 wd_8_12 hX11_in g_allgood ⟨rfl, rfl⟩ ⟨Nat.le_of_ble_eq_true rfl, Nat.le_of_ble_eq_true rfl⟩ ⟨Nat.zero_le _, Nat.zero_le _⟩ rfl hl.1 rfl (Nat.le_of_ble_eq_true rfl) dX11_restore_4) rfl rfl rfl (fun H locs hw => ?_)
  refine lv_if_ne (tgt := 13) hx hb dX11_restore_7 (by decide) (fun hc => ?_) (fun hc => ?_)
  · have hf := g_f hc hf
    refine lv_aload_n hx hb dX11_restore_13 rfl (lv_at hl 0 rfl) ?_
    refine g_get hx hb hG hown hK hw inlX11 (ci := 9) rfl 0 33 (Nat.le_of_ble_eq_true rfl) rfl rfl wd_6_18 dX11_restore_14 ?_
    refine lv_iload_n hx hb dX11_restore_17 rfl (lv_at hl 1 rfl) ?_
    obtain ⟨hi3, hf⟩ := gA_s hf
    refine g_zald hx hb hK hw 9 rfl hi3 dX11_restore_18 ?_
    refine lv_if_ne (tgt := 25) hx hb dX11_restore_19 (by decide) (fun hc => ?_) (fun hc => ?_)
    · have hf := g_f hc hf
      refine lv_aload_n hx hb dX11_restore_25 rfl (lv_at hl 0 rfl) ?_
      refine lv_bipush (v := 90) hx hb dX11_restore_26 k_b90 ?_
      refine lv_iload_n hx hb dX11_restore_28 rfl (lv_at hl 1 rfl) ?_
      refine lv_imul hx hb dX11_restore_29 ?_
      refine g_put (ws' := (wX11_restore E o_t a_t v_t_there v_t_wind v_t_force v_t_rains v_t_lost v_t_hours v_t_sights v_t_padMany v_t_acts v_t_blownMany v_t_badAct v_t_badWhy v_t_ruinAct v_t_ruinWho (90 * x1) v_t_isWriting f_t_at f_t_stem f_t_lungs f_t_blown f_t_heap f_t_sightBreath f_t_sightFlew f_t_kept f_t_isKept)) hx hb hG hown hK hw inlX11 tyX11_ok nmX11 (ci := 9) rfl 0 34 (Nat.le_of_ble_eq_true rfl) rfl wd_37_13 rfl rfl rfl (Nat.le_of_ble_eq_true rfl) rfl dX11_restore_30 (fun H locs hw => ?_)
      refine lv_aload_n hx hb dX11_restore_33 rfl (lv_at hl 0 rfl) ?_
      refine lv_iconst (v := 0) hx hb dX11_restore_34 k_i0 ?_
      refine g_put (ws' := (wX11_restore E o_t a_t v_t_there v_t_wind v_t_force v_t_rains v_t_lost v_t_hours v_t_sights v_t_padMany v_t_acts v_t_blownMany v_t_badAct v_t_badWhy v_t_ruinAct v_t_ruinWho (90 * x1) 0 f_t_at f_t_stem f_t_lungs f_t_blown f_t_heap f_t_sightBreath f_t_sightFlew f_t_kept f_t_isKept)) hx hb hG hown hK hw inlX11 tyX11_ok nmX11 (ci := 9) rfl 0 35 (Nat.le_of_ble_eq_true rfl) rfl wd_37_14 rfl (by decide) (by decide) (Nat.le_of_ble_eq_true rfl) rfl dX11_restore_35 (fun H locs hw => ?_)
      refine lv_aload_n hx hb dX11_restore_38 rfl (lv_at hl 0 rfl) ?_
      obtain ⟨r4, hc5, hf⟩ := gB_s hf
      refine g_kv (is := [0, 1, 2, 3, 4, 5, 6, 7, 8]) (w1 := (wX11_passAll E o_t a_t r4.1 r4.2.1 r4.2.2.1 r4.2.2.2.1 r4.2.2.2.2.1 r4.2.2.2.2.2.1 r4.2.2.2.2.2.2.1 v_t_padMany v_t_acts v_t_blownMany v_t_badAct v_t_badWhy v_t_ruinAct v_t_ruinWho r4.2.2.2.2.2.2.2.1 0 r4.2.2.2.2.2.2.2.2.1 r4.2.2.2.2.2.2.2.2.2.1 r4.2.2.2.2.2.2.2.2.2.2.1 r4.2.2.2.2.2.2.2.2.2.2.2.1 r4.2.2.2.2.2.2.2.2.2.2.2.2.1 r4.2.2.2.2.2.2.2.2.2.2.2.2.2.1 r4.2.2.2.2.2.2.2.2.2.2.2.2.2.2.1 r4.2.2.2.2.2.2.2.2.2.2.2.2.2.2.2)) (ws' := (wX11_restore E o_t a_t r4.1 r4.2.1 r4.2.2.1 r4.2.2.2.1 r4.2.2.2.2.1 r4.2.2.2.2.2.1 r4.2.2.2.2.2.2.1 v_t_padMany v_t_acts v_t_blownMany v_t_badAct v_t_badWhy v_t_ruinAct v_t_ruinWho r4.2.2.2.2.2.2.2.1 0 r4.2.2.2.2.2.2.2.2.1 r4.2.2.2.2.2.2.2.2.2.1 r4.2.2.2.2.2.2.2.2.2.2.1 r4.2.2.2.2.2.2.2.2.2.2.2.1 r4.2.2.2.2.2.2.2.2.2.2.2.2.1 r4.2.2.2.2.2.2.2.2.2.2.2.2.2.1 r4.2.2.2.2.2.2.2.2.2.2.2.2.2.2.1 r4.2.2.2.2.2.2.2.2.2.2.2.2.2.2.2 f_t_isKept)) hw hA (g_rV hx hb hml hG hown hK hw (is := [0, 1, 2, 3, 4, 5, 6, 7, 8]) rfl (by decide) (mX11_passAll l E o_t a_t v_t_there v_t_wind v_t_force v_t_rains v_t_lost v_t_hours v_t_sights v_t_padMany v_t_acts v_t_blownMany v_t_badAct v_t_badWhy v_t_ruinAct v_t_ruinWho (90 * x1) 0 f_t_at f_t_stem f_t_lungs f_t_blown f_t_heap f_t_sightBreath f_t_sightFlew f_t_kept r4.1 r4.2.1 r4.2.2.1 r4.2.2.2.1 r4.2.2.2.2.1 r4.2.2.2.2.2.1 r4.2.2.2.2.2.2.1 r4.2.2.2.2.2.2.2.1 r4.2.2.2.2.2.2.2.2.1 r4.2.2.2.2.2.2.2.2.2.1 r4.2.2.2.2.2.2.2.2.2.2.1 r4.2.2.2.2.2.2.2.2.2.2.2.1 r4.2.2.2.2.2.2.2.2.2.2.2.2.1 r4.2.2.2.2.2.2.2.2.2.2.2.2.2.1 r4.2.2.2.2.2.2.2.2.2.2.2.2.2.2.1 r4.2.2.2.2.2.2.2.2.2.2.2.2.2.2.2 hc5) wd_37_15 wd_37_16 wd_37_17 wd_1_5 wd_37_18 hX11_passAll g_allgood ⟨rfl, rfl⟩ ⟨Nat.le_of_ble_eq_true rfl, Nat.le_of_ble_eq_true rfl⟩ ⟨Nat.zero_le _, Nat.zero_le _⟩ (ci := 9) (q0 := 0) rfl rfl rfl rfl hl.1 rfl (Nat.le_of_ble_eq_true rfl) dX11_restore_39) rfl rfl rfl (fun H locs hw => ?_)
      refine lv_iconst (v := 1) hx hb dX11_restore_42 k_i1 ?_
      exact hret1 1 r4.1 r4.2.1 r4.2.2.1 r4.2.2.2.1 r4.2.2.2.2.1 r4.2.2.2.2.2.1 r4.2.2.2.2.2.2.1 r4.2.2.2.2.2.2.2.1 0 r4.2.2.2.2.2.2.2.2.1 r4.2.2.2.2.2.2.2.2.2.1 r4.2.2.2.2.2.2.2.2.2.2.1 r4.2.2.2.2.2.2.2.2.2.2.2.1 r4.2.2.2.2.2.2.2.2.2.2.2.2.1 r4.2.2.2.2.2.2.2.2.2.2.2.2.2.1 r4.2.2.2.2.2.2.2.2.2.2.2.2.2.2.1 r4.2.2.2.2.2.2.2.2.2.2.2.2.2.2.2 _ _ _ _ hf hw dX11_restore_43
    · have hf := g_t hc hf
      refine lv_bipush (v := -3) hx hb dX11_restore_22 k_bm3 ?_
      exact hret1 (-3) v_t_there v_t_wind v_t_force v_t_rains v_t_lost v_t_hours v_t_sights v_t_keptAt v_t_isWriting f_t_at f_t_stem f_t_lungs f_t_blown f_t_heap f_t_sightBreath f_t_sightFlew f_t_kept _ _ _ _ hf hw dX11_restore_24
  · have hf := g_t hc hf
    refine lv_bipush (v := -2) hx hb dX11_restore_10 k_bm2 ?_
    exact hret1 (-2) v_t_there v_t_wind v_t_force v_t_rains v_t_lost v_t_hours v_t_sights v_t_keptAt v_t_isWriting f_t_at f_t_stem f_t_lungs f_t_blown f_t_heap f_t_sightBreath f_t_sightFlew f_t_kept _ _ _ _ hf hw dX11_restore_12
theorem hX11_toldOf : yX11_toldOf.cls = RX11 ∧ yX11_toldOf.cls ≠ "java/lang/invoke/MethodHandle" ∧ yX11_toldOf.cls ≠ "java/lang/invoke/VarHandle" ∧ (parseMethodDescriptor yX11_toldOf.desc).map (fun d => d.parameters.length) = some 2 := by decide +kernel
set_option maxHeartbeats 4000000 in
set_option maxRecDepth 100000 in
theorem mX11_toldOf (l : Launch) (E : gE) (o_t : Nat) (a_t : (Nat → Nat)) (v_t_there : Int32) (v_t_wind : Int32) (v_t_force : Int32) (v_t_rains : Int32) (v_t_lost : Int32) (v_t_hours : Int32) (v_t_sights : Int32) (v_t_padMany : Int32) (v_t_acts : Int32) (v_t_blownMany : Int32) (v_t_badAct : Int32) (v_t_badWhy : Int32) (v_t_ruinAct : Int32) (v_t_ruinWho : Int32) (v_t_keptAt : Int32) (v_t_isWriting : Int32) (f_t_at : (Nat → Int32)) (f_t_stem : (Nat → Int32)) (f_t_lungs : (Nat → Int32)) (f_t_blown : (Nat → Int32)) (x1 : Int32) (x2 : Int32) (rv : Int32) (hf : fX11_toldOf v_t_there f_t_at f_t_stem f_t_lungs f_t_blown x1 x2 = some rv) {sz : Nat} : gMi l yX11_toldOf (gW yX11_toldOf cX11_toldOf 3 (some .int)) ({ frames := 2, cells := 0, slots := 0, locals := 46 } : Room) E [.ref o_t, .int x1, .int x2] (wX11_toldOf E o_t a_t v_t_there v_t_wind v_t_force v_t_rains v_t_lost v_t_hours v_t_sights v_t_padMany v_t_acts v_t_blownMany v_t_badAct v_t_badWhy v_t_ruinAct v_t_ruinWho v_t_keptAt v_t_isWriting f_t_at f_t_stem f_t_lungs f_t_blown) sz rv (wX11_toldOf E o_t a_t v_t_there v_t_wind v_t_force v_t_rains v_t_lost v_t_hours v_t_sights v_t_padMany v_t_acts v_t_blownMany v_t_badAct v_t_badWhy v_t_ruinAct v_t_ruinWho v_t_keptAt v_t_isWriting f_t_at f_t_stem f_t_lungs f_t_blown) := by
  refine g_openI (own := RX11) (by decide) rfl (Nat.le_of_ble_eq_true rfl) (fun p e s m args below meth cd Q A hx hb hml hown hG hK hA hret hw ls hl => ?_)
  have hl : lv_has ls 3 [(0, .ref o_t), (1, .int x1), (2, .int x2)] := hl
  have hret1 : ∀ (v : Int32)  (H : Heap) (locs : List Loc) (pc : Nat) (ls : Array Slot), some v = some rv → gS E A s.heap (wX11_toldOf E o_t a_t v_t_there v_t_wind v_t_force v_t_rains v_t_lost v_t_hours v_t_sights v_t_padMany v_t_acts v_t_blownMany v_t_badAct v_t_badWhy v_t_ruinAct v_t_ruinWho v_t_keptAt v_t_isWriting f_t_at f_t_stem f_t_lungs f_t_blown) H locs → decode cX11_toldOf pc = .ok (.ireturn, 1) → W p l e ({ frames := 2, cells := 0, slots := 0, locals := 46 } : Room) s m args below meth cd H locs 0 0 Q (F0 m pc ls [.int v]) := by
    intro v  H locs pc ls h hw hd
    cases h
    exact hret H locs pc ls hw hd
  have B68 : ∀ (s0 : Int32) (H : Heap) (locs : List Loc) (ls : Array Slot), fX11_toldOf_b68 s0 = some rv → gS E A s.heap (wX11_toldOf E o_t a_t v_t_there v_t_wind v_t_force v_t_rains v_t_lost v_t_hours v_t_sights v_t_padMany v_t_acts v_t_blownMany v_t_badAct v_t_badWhy v_t_ruinAct v_t_ruinWho v_t_keptAt v_t_isWriting f_t_at f_t_stem f_t_lungs f_t_blown) H locs → lv_has ls 3 [] → W p l e ({ frames := 2, cells := 0, slots := 0, locals := 46 } : Room) s m args below meth cd H locs 0 0 Q (F0 m 68 ls [.int s0]) := by
    intro  s0 H locs ls hf hw hl
    exact hret1 s0 _ _ _ _ hf hw dX11_toldOf_68
  refine lv_aload_n hx hb dX11_toldOf_0 rfl (lv_at hl 0 rfl) ?_
  refine lv_iload_n hx hb dX11_toldOf_1 rfl (lv_at hl 1 rfl) ?_
  obtain ⟨r1, hc2, hf⟩ := gB_s hf
  refine g_ki (is := [0]) (w1 := (wX11_isFamily E o_t a_t v_t_there v_t_wind v_t_force v_t_rains v_t_lost v_t_hours v_t_sights v_t_padMany v_t_acts v_t_blownMany v_t_badAct v_t_badWhy v_t_ruinAct v_t_ruinWho v_t_keptAt v_t_isWriting)) (ws' := (wX11_toldOf E o_t a_t v_t_there v_t_wind v_t_force v_t_rains v_t_lost v_t_hours v_t_sights v_t_padMany v_t_acts v_t_blownMany v_t_badAct v_t_badWhy v_t_ruinAct v_t_ruinWho v_t_keptAt v_t_isWriting f_t_at f_t_stem f_t_lungs f_t_blown)) hw hA (g_rV hx hb hml hG hown hK hw (is := [0]) rfl (by decide) (mX11_isFamily l E o_t a_t v_t_there v_t_wind v_t_force v_t_rains v_t_lost v_t_hours v_t_sights v_t_padMany v_t_acts v_t_blownMany v_t_badAct v_t_badWhy v_t_ruinAct v_t_ruinWho v_t_keptAt v_t_isWriting x1 r1 hc2) wd_8_21 wd_8_22 wd_8_23 wd_1_5 wd_9_0 hX11_isFamily g_allgood ⟨rfl, rfl⟩ ⟨Nat.le_of_ble_eq_true rfl, Nat.le_of_ble_eq_true rfl⟩ ⟨Nat.zero_le _, Nat.zero_le _⟩ (ci := 9) (q0 := 0) rfl rfl rfl rfl hl.1 rfl (Nat.le_of_ble_eq_true rfl) dX11_toldOf_2) rfl rfl rfl (fun H locs hw => ?_)
  refine lv_if_ne (tgt := 11) hx hb dX11_toldOf_5 (by decide) (fun hc => ?_) (fun hc => ?_)
  · have hf := g_f hc hf
    refine lv_iload_n hx hb dX11_toldOf_11 rfl (lv_at hl 2 rfl) ?_
    refine lv_if_ne (tgt := 24) hx hb dX11_toldOf_12 (by decide) (fun hc => ?_) (fun hc => ?_)
    · have hf := g_f hc hf
      refine lv_iload_n hx hb dX11_toldOf_24 rfl (lv_at hl 2 rfl) ?_
      refine lv_iconst (v := 1) hx hb dX11_toldOf_25 k_i1 ?_
      refine lv_icmp_ne (tgt := 38) hx hb dX11_toldOf_26 (by decide) (fun hc => ?_) (fun hc => ?_)
      · have hf := g_f hc hf
        refine lv_iload_n hx hb dX11_toldOf_38 rfl (lv_at hl 2 rfl) ?_
        refine lv_iconst (v := 2) hx hb dX11_toldOf_39 k_i2 ?_
        refine lv_icmp_ne (tgt := 52) hx hb dX11_toldOf_40 (by decide) (fun hc => ?_) (fun hc => ?_)
        · have hf := g_f hc hf
          refine lv_iload_n hx hb dX11_toldOf_52 rfl (lv_at hl 2 rfl) ?_
          refine lv_iconst (v := 3) hx hb dX11_toldOf_53 k_i3 ?_
          refine lv_icmp_ne (tgt := 66) hx hb dX11_toldOf_54 (by decide) (fun hc => ?_) (fun hc => ?_)
          · have hf := g_f hc hf
            refine lv_bipush (v := -2) hx hb dX11_toldOf_66 k_bm2 ?_
            exact B68 (-2) _ _ _ hf hw (lv_sub hl [] rfl)
          · have hf := g_t hc hf
            refine lv_aload_n hx hb dX11_toldOf_57 rfl (lv_at hl 0 rfl) ?_
            refine g_get hx hb hG hown hK hw inlX11 (ci := 9) rfl 0 4 (Nat.le_of_ble_eq_true rfl) rfl rfl wd_6_0 dX11_toldOf_58 ?_
            refine lv_iload_n hx hb dX11_toldOf_61 rfl (lv_at hl 1 rfl) ?_
            obtain ⟨hi3, hf⟩ := gA_s hf
            refine g_iald hx hb hK hw 4 rfl hi3 dX11_toldOf_62 ?_
            refine lv_goto (tgt := 68) hx hb dX11_toldOf_63 (by decide) ?_
            exact B68 (f_t_blown (Int32.toNatClampNeg x1)) _ _ _ hf hw (lv_sub hl [] rfl)
        · have hf := g_t hc hf
          refine lv_aload_n hx hb dX11_toldOf_43 rfl (lv_at hl 0 rfl) ?_
          refine g_get hx hb hG hown hK hw inlX11 (ci := 9) rfl 0 3 (Nat.le_of_ble_eq_true rfl) rfl rfl wd_5_23 dX11_toldOf_44 ?_
          refine lv_iload_n hx hb dX11_toldOf_47 rfl (lv_at hl 1 rfl) ?_
          obtain ⟨hi4, hf⟩ := gA_s hf
          refine g_iald hx hb hK hw 3 rfl hi4 dX11_toldOf_48 ?_
          refine lv_goto (tgt := 68) hx hb dX11_toldOf_49 (by decide) ?_
          exact B68 (f_t_lungs (Int32.toNatClampNeg x1)) _ _ _ hf hw (lv_sub hl [] rfl)
      · have hf := g_t hc hf
        refine lv_aload_n hx hb dX11_toldOf_29 rfl (lv_at hl 0 rfl) ?_
        refine g_get hx hb hG hown hK hw inlX11 (ci := 9) rfl 0 2 (Nat.le_of_ble_eq_true rfl) rfl rfl wd_5_22 dX11_toldOf_30 ?_
        refine lv_iload_n hx hb dX11_toldOf_33 rfl (lv_at hl 1 rfl) ?_
        obtain ⟨hi5, hf⟩ := gA_s hf
        refine g_iald hx hb hK hw 2 rfl hi5 dX11_toldOf_34 ?_
        refine lv_goto (tgt := 68) hx hb dX11_toldOf_35 (by decide) ?_
        exact B68 (f_t_stem (Int32.toNatClampNeg x1)) _ _ _ hf hw (lv_sub hl [] rfl)
    · have hf := g_t hc hf
      refine lv_aload_n hx hb dX11_toldOf_15 rfl (lv_at hl 0 rfl) ?_
      refine g_get hx hb hG hown hK hw inlX11 (ci := 9) rfl 0 1 (Nat.le_of_ble_eq_true rfl) rfl rfl wd_5_21 dX11_toldOf_16 ?_
      refine lv_iload_n hx hb dX11_toldOf_19 rfl (lv_at hl 1 rfl) ?_
      obtain ⟨hi6, hf⟩ := gA_s hf
      refine g_iald hx hb hK hw 1 rfl hi6 dX11_toldOf_20 ?_
      refine lv_goto (tgt := 68) hx hb dX11_toldOf_21 (by decide) ?_
      exact B68 (f_t_at (Int32.toNatClampNeg x1)) _ _ _ hf hw (lv_sub hl [] rfl)
  · have hf := g_t hc hf
    refine lv_bipush (v := -2) hx hb dX11_toldOf_8 k_bm2 ?_
    exact hret1 (-2) _ _ _ _ hf hw dX11_toldOf_10
theorem hX11_told : yX11_told.cls = RX11 ∧ yX11_told.cls ≠ "java/lang/invoke/MethodHandle" ∧ yX11_told.cls ≠ "java/lang/invoke/VarHandle" ∧ (parseMethodDescriptor yX11_told.desc).map (fun d => d.parameters.length) = some 1 := by decide +kernel
set_option maxHeartbeats 4000000 in
set_option maxRecDepth 100000 in
theorem mX11_told (l : Launch) (E : gE) (o_t : Nat) (a_t : (Nat → Nat)) (v_t_there : Int32) (v_t_wind : Int32) (v_t_force : Int32) (v_t_rains : Int32) (v_t_lost : Int32) (v_t_hours : Int32) (v_t_sights : Int32) (v_t_padMany : Int32) (v_t_acts : Int32) (v_t_blownMany : Int32) (v_t_badAct : Int32) (v_t_badWhy : Int32) (v_t_ruinAct : Int32) (v_t_ruinWho : Int32) (v_t_keptAt : Int32) (v_t_isWriting : Int32) (f_t_at : (Nat → Int32)) (f_t_stem : (Nat → Int32)) (f_t_lungs : (Nat → Int32)) (f_t_blown : (Nat → Int32)) (f_t_heap : (Nat → Int32)) (x1 : Int32) (rv : Int32) (hf : fX11_told v_t_there v_t_wind v_t_force v_t_rains v_t_lost v_t_hours v_t_sights v_t_padMany f_t_at f_t_stem f_t_lungs f_t_blown f_t_heap x1 = some rv) {sz : Nat} : gMi l yX11_told (gW yX11_told cX11_told 2 (some .int)) ({ frames := 3, cells := 0, slots := 0, locals := 68 } : Room) E [.ref o_t, .int x1] (wX11_told E o_t a_t v_t_there v_t_wind v_t_force v_t_rains v_t_lost v_t_hours v_t_sights v_t_padMany v_t_acts v_t_blownMany v_t_badAct v_t_badWhy v_t_ruinAct v_t_ruinWho v_t_keptAt v_t_isWriting f_t_at f_t_stem f_t_lungs f_t_blown f_t_heap) sz rv (wX11_told E o_t a_t v_t_there v_t_wind v_t_force v_t_rains v_t_lost v_t_hours v_t_sights v_t_padMany v_t_acts v_t_blownMany v_t_badAct v_t_badWhy v_t_ruinAct v_t_ruinWho v_t_keptAt v_t_isWriting f_t_at f_t_stem f_t_lungs f_t_blown f_t_heap) := by
  refine g_openI (own := RX11) (by decide) rfl (Nat.le_of_ble_eq_true rfl) (fun p e s m args below meth cd Q A hx hb hml hown hG hK hA hret hw ls hl => ?_)
  have hl : lv_has ls 2 [(0, .ref o_t), (1, .int x1)] := hl
  have hret1 : ∀ (v : Int32)  (H : Heap) (locs : List Loc) (pc : Nat) (ls : Array Slot), some v = some rv → gS E A s.heap (wX11_told E o_t a_t v_t_there v_t_wind v_t_force v_t_rains v_t_lost v_t_hours v_t_sights v_t_padMany v_t_acts v_t_blownMany v_t_badAct v_t_badWhy v_t_ruinAct v_t_ruinWho v_t_keptAt v_t_isWriting f_t_at f_t_stem f_t_lungs f_t_blown f_t_heap) H locs → decode cX11_told pc = .ok (.ireturn, 1) → W p l e ({ frames := 3, cells := 0, slots := 0, locals := 68 } : Room) s m args below meth cd H locs 0 0 Q (F0 m pc ls [.int v]) := by
    intro v  H locs pc ls h hw hd
    cases h
    exact hret H locs pc ls hw hd
  refine lv_iload_n hx hb dX11_told_0 rfl (lv_at hl 1 rfl) ?_
  refine lv_i2l hx hb dX11_told_1 rfl ?_
  refine lv_ldc2 hx hb hown (hG _ wd_39_6) dX11_told_2 ?_
  refine lv_ldc2 hx hb hown (hG _ wd_39_7) dX11_told_5 ?_
  obtain ⟨r1, hc2, hf⟩ := gB_s hf
  refine g_ki (is := []) (w1 := (wX11_in E)) (ws' := (wX11_told E o_t a_t v_t_there v_t_wind v_t_force v_t_rains v_t_lost v_t_hours v_t_sights v_t_padMany v_t_acts v_t_blownMany v_t_badAct v_t_badWhy v_t_ruinAct v_t_ruinWho v_t_keptAt v_t_isWriting f_t_at f_t_stem f_t_lungs f_t_blown f_t_heap)) hw hA (g_rS hx hb hml hG hown hK hw (is := []) rfl (by decide) (mX11_in l E (Int32.toInt64 x1) 100 135 r1 hc2) wd_8_10 wd_8_11 wd_1_5 wd_8_12 hX11_in g_allgood ⟨rfl, rfl⟩ ⟨Nat.le_of_ble_eq_true rfl, Nat.le_of_ble_eq_true rfl⟩ ⟨Nat.zero_le _, Nat.zero_le _⟩ rfl hl.1 rfl (Nat.le_of_ble_eq_true rfl) dX11_told_8) rfl rfl rfl (fun H locs hw => ?_)
  refine lv_if_eq (tgt := 24) hx hb dX11_told_11 (by decide) (fun hc => ?_) (fun hc => ?_)
  · have hf := g_t hc hf
    refine lv_iload_n hx hb dX11_told_24 rfl (lv_at hl 1 rfl) ?_
    refine lv_i2l hx hb dX11_told_25 rfl ?_
    refine lv_ldc2 hx hb hown (hG _ wd_39_8) dX11_told_26 ?_
    refine lv_ldc2 hx hb hown (hG _ wd_39_9) dX11_told_29 ?_
    obtain ⟨r3, hc4, hf⟩ := gB_s hf
    refine g_ki (is := []) (w1 := (wX11_in E)) (ws' := (wX11_told E o_t a_t v_t_there v_t_wind v_t_force v_t_rains v_t_lost v_t_hours v_t_sights v_t_padMany v_t_acts v_t_blownMany v_t_badAct v_t_badWhy v_t_ruinAct v_t_ruinWho v_t_keptAt v_t_isWriting f_t_at f_t_stem f_t_lungs f_t_blown f_t_heap)) hw hA (g_rS hx hb hml hG hown hK hw (is := []) rfl (by decide) (mX11_in l E (Int32.toInt64 x1) 10 69 r3 hc4) wd_8_10 wd_8_11 wd_1_5 wd_8_12 hX11_in g_allgood ⟨rfl, rfl⟩ ⟨Nat.le_of_ble_eq_true rfl, Nat.le_of_ble_eq_true rfl⟩ ⟨Nat.zero_le _, Nat.zero_le _⟩ rfl hl.1 rfl (Nat.le_of_ble_eq_true rfl) dX11_told_32) rfl rfl rfl (fun H locs hw => ?_)
    refine lv_if_eq (tgt := 53) hx hb dX11_told_35 (by decide) (fun hc => ?_) (fun hc => ?_)
    · have hf := g_t hc hf
      refine lv_iload_n hx hb dX11_told_53 rfl (lv_at hl 1 rfl) ?_
      by_cases hs5 : x1 = 0
      · have hf := g_t hs5 hf
        refine lv_tableIn (off := 46) (tgt := 100) hx hb dX11_told_54 (by rw [hs5]; decide) (by rw [hs5]; decide) (by rw [hs5] <;> rfl) (by decide) ?_
        refine lv_aload_n hx hb dX11_told_100 rfl (lv_at hl 0 rfl) ?_
        refine g_get hx hb hG hown hK hw inlX11 (ci := 9) rfl 0 15 (Nat.le_of_ble_eq_true rfl) rfl rfl wd_13_2 dX11_told_101 ?_
        exact hret1 v_t_padMany _ _ _ _ hf hw dX11_told_104
      have hf := g_f hs5 hf
      by_cases hs6 : x1 = 1
      · have hf := g_t hs6 hf
        refine lv_tableIn (off := 51) (tgt := 105) hx hb dX11_told_54 (by rw [hs6]; decide) (by rw [hs6]; decide) (by rw [hs6] <;> rfl) (by decide) ?_
        refine lv_aload_n hx hb dX11_told_105 rfl (lv_at hl 0 rfl) ?_
        refine g_get hx hb hG hown hK hw inlX11 (ci := 9) rfl 0 0 (Nat.le_of_ble_eq_true rfl) rfl rfl wd_8_9 dX11_told_106 ?_
        exact hret1 v_t_there _ _ _ _ hf hw dX11_told_109
      have hf := g_f hs6 hf
      by_cases hs7 : x1 = 2
      · have hf := g_t hs7 hf
        refine lv_tableIn (off := 56) (tgt := 110) hx hb dX11_told_54 (by rw [hs7]; decide) (by rw [hs7]; decide) (by rw [hs7] <;> rfl) (by decide) ?_
        refine lv_aload_n hx hb dX11_told_110 rfl (lv_at hl 0 rfl) ?_
        refine g_get hx hb hG hown hK hw inlX11 (ci := 9) rfl 0 6 (Nat.le_of_ble_eq_true rfl) rfl rfl wd_11_17 dX11_told_111 ?_
        exact hret1 v_t_wind _ _ _ _ hf hw dX11_told_114
      have hf := g_f hs7 hf
      by_cases hs8 : x1 = 3
      · have hf := g_t hs8 hf
        refine lv_tableIn (off := 61) (tgt := 115) hx hb dX11_told_54 (by rw [hs8]; decide) (by rw [hs8]; decide) (by rw [hs8] <;> rfl) (by decide) ?_
        refine lv_aload_n hx hb dX11_told_115 rfl (lv_at hl 0 rfl) ?_
        refine g_get hx hb hG hown hK hw inlX11 (ci := 9) rfl 0 7 (Nat.le_of_ble_eq_true rfl) rfl rfl wd_6_19 dX11_told_116 ?_
        exact hret1 v_t_force _ _ _ _ hf hw dX11_told_119
      have hf := g_f hs8 hf
      by_cases hs9 : x1 = 4
      · have hf := g_t hs9 hf
        refine lv_tableIn (off := 66) (tgt := 120) hx hb dX11_told_54 (by rw [hs9]; decide) (by rw [hs9]; decide) (by rw [hs9] <;> rfl) (by decide) ?_
        refine lv_aload_n hx hb dX11_told_120 rfl (lv_at hl 0 rfl) ?_
        refine g_get hx hb hG hown hK hw inlX11 (ci := 9) rfl 0 8 (Nat.le_of_ble_eq_true rfl) rfl rfl wd_11_18 dX11_told_121 ?_
        exact hret1 v_t_rains _ _ _ _ hf hw dX11_told_124
      have hf := g_f hs9 hf
      by_cases hs10 : x1 = 5
      · have hf := g_t hs10 hf
        refine lv_tableIn (off := 71) (tgt := 125) hx hb dX11_told_54 (by rw [hs10]; decide) (by rw [hs10]; decide) (by rw [hs10] <;> rfl) (by decide) ?_
        refine lv_aload_n hx hb dX11_told_125 rfl (lv_at hl 0 rfl) ?_
        refine g_get hx hb hG hown hK hw inlX11 (ci := 9) rfl 0 10 (Nat.le_of_ble_eq_true rfl) rfl rfl wd_19_12 dX11_told_126 ?_
        exact hret1 v_t_hours _ _ _ _ hf hw dX11_told_129
      have hf := g_f hs10 hf
      by_cases hs11 : x1 = 6
      · have hf := g_t hs11 hf
        refine lv_tableIn (off := 76) (tgt := 130) hx hb dX11_told_54 (by rw [hs11]; decide) (by rw [hs11]; decide) (by rw [hs11] <;> rfl) (by decide) ?_
        refine lv_aload_n hx hb dX11_told_130 rfl (lv_at hl 0 rfl) ?_
        refine g_get hx hb hG hown hK hw inlX11 (ci := 9) rfl 0 13 (Nat.le_of_ble_eq_true rfl) rfl rfl wd_31_4 dX11_told_131 ?_
        exact hret1 v_t_sights _ _ _ _ hf hw dX11_told_134
      have hf := g_f hs11 hf
      by_cases hs12 : x1 = 7
      · have hf := g_t hs12 hf
        refine lv_tableIn (off := 81) (tgt := 135) hx hb dX11_told_54 (by rw [hs12]; decide) (by rw [hs12]; decide) (by rw [hs12] <;> rfl) (by decide) ?_
        refine lv_aload_n hx hb dX11_told_135 rfl (lv_at hl 0 rfl) ?_
        refine g_get hx hb hG hown hK hw inlX11 (ci := 9) rfl 0 9 (Nat.le_of_ble_eq_true rfl) rfl rfl wd_10_5 dX11_told_136 ?_
        exact hret1 v_t_lost _ _ _ _ hf hw dX11_told_139
      have hf := g_f hs12 hf
      have nhs5 := lv_neT hs5 (show (0 : Int32).toInt = 0 from by decide)
      have nhs6 := lv_neT hs6 (show (1 : Int32).toInt = 1 from by decide)
      have nhs7 := lv_neT hs7 (show (2 : Int32).toInt = 2 from by decide)
      have nhs8 := lv_neT hs8 (show (3 : Int32).toInt = 3 from by decide)
      have nhs9 := lv_neT hs9 (show (4 : Int32).toInt = 4 from by decide)
      have nhs10 := lv_neT hs10 (show (5 : Int32).toInt = 5 from by decide)
      have nhs11 := lv_neT hs11 (show (6 : Int32).toInt = 6 from by decide)
      have nhs12 := lv_neT hs12 (show (7 : Int32).toInt = 7 from by decide)
      refine lv_tableOut (tgt := 140) hx hb dX11_told_54 (by omega) (by decide) ?_
      refine lv_bipush (v := -2) hx hb dX11_told_140 k_bm2 ?_
      exact hret1 (-2) _ _ _ _ hf hw dX11_told_142
    · have hf := g_f hc hf
      refine lv_aload_n hx hb dX11_told_38 rfl (lv_at hl 0 rfl) ?_
      refine lv_iload_n hx hb dX11_told_39 rfl (lv_at hl 1 rfl) ?_
      refine lv_bipush (v := 10) hx hb dX11_told_40 k_b10 ?_
      refine lv_idiv hx hb dX11_told_42 (by decide) ?_
      refine lv_iconst (v := 1) hx hb dX11_told_43 k_i1 ?_
      refine lv_isub hx hb dX11_told_44 ?_
      refine lv_iload_n hx hb dX11_told_45 rfl (lv_at hl 1 rfl) ?_
      refine lv_bipush (v := 10) hx hb dX11_told_46 k_b10 ?_
      refine g_irem hx hb dX11_told_48 (by decide) ?_
      obtain ⟨r13, hc14, hf⟩ := gB_s hf
      refine g_ki (is := [0, 1, 2, 3, 4]) (w1 := (wX11_toldOf E o_t a_t v_t_there v_t_wind v_t_force v_t_rains v_t_lost v_t_hours v_t_sights v_t_padMany v_t_acts v_t_blownMany v_t_badAct v_t_badWhy v_t_ruinAct v_t_ruinWho v_t_keptAt v_t_isWriting f_t_at f_t_stem f_t_lungs f_t_blown)) (ws' := (wX11_told E o_t a_t v_t_there v_t_wind v_t_force v_t_rains v_t_lost v_t_hours v_t_sights v_t_padMany v_t_acts v_t_blownMany v_t_badAct v_t_badWhy v_t_ruinAct v_t_ruinWho v_t_keptAt v_t_isWriting f_t_at f_t_stem f_t_lungs f_t_blown f_t_heap)) hw hA (g_rV hx hb hml hG hown hK hw (is := [0, 1, 2, 3, 4]) rfl (by decide) (mX11_toldOf l E o_t a_t v_t_there v_t_wind v_t_force v_t_rains v_t_lost v_t_hours v_t_sights v_t_padMany v_t_acts v_t_blownMany v_t_badAct v_t_badWhy v_t_ruinAct v_t_ruinWho v_t_keptAt v_t_isWriting f_t_at f_t_stem f_t_lungs f_t_blown ((x1 / 10) - 1) (x1 % 10) r13 hc14) wd_39_10 wd_39_11 wd_39_12 wd_1_5 wd_39_13 hX11_toldOf g_allgood ⟨rfl, rfl⟩ ⟨Nat.le_of_ble_eq_true rfl, Nat.le_of_ble_eq_true rfl⟩ ⟨Nat.zero_le _, Nat.zero_le _⟩ (ci := 9) (q0 := 0) rfl rfl rfl rfl hl.1 rfl (Nat.le_of_ble_eq_true rfl) dX11_told_49) rfl rfl rfl (fun H locs hw => ?_)
      exact hret1 r13 _ _ _ _ hf hw dX11_told_52
  · have hf := g_f hc hf
    refine lv_aload_n hx hb dX11_told_14 rfl (lv_at hl 0 rfl) ?_
    refine g_get hx hb hG hown hK hw inlX11 (ci := 9) rfl 0 5 (Nat.le_of_ble_eq_true rfl) rfl rfl wd_6_1 dX11_told_15 ?_
    refine lv_iload_n hx hb dX11_told_18 rfl (lv_at hl 1 rfl) ?_
    refine lv_bipush (v := 100) hx hb dX11_told_19 k_b100 ?_
    refine lv_isub hx hb dX11_told_21 ?_
    obtain ⟨hi15, hf⟩ := gA_s hf
    refine g_iald hx hb hK hw 5 rfl hi15 dX11_told_22 ?_
    exact hret1 (f_t_heap (Int32.toNatClampNeg (x1 - 100))) _ _ _ _ hf hw dX11_told_23
