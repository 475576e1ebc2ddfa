theorem hX11_mostLeft : yX11_mostLeft.cls = RX11 ∧ yX11_mostLeft.cls ≠ "java/lang/invoke/MethodHandle" ∧ yX11_mostLeft.cls ≠ "java/lang/invoke/VarHandle" ∧ (parseMethodDescriptor yX11_mostLeft.desc).map (fun d => d.parameters.length) = some 1 := by decide +kernel
set_option maxHeartbeats 4000000 in
set_option maxRecDepth 100000 in
theorem mX11_mostLeft (l : Launch) (E : gE) (o_t : Nat) (a_t : (Nat → Nat)) (v_t_there : Int32) (v_t_wind : Int32) (v_t_force : Int32) (v_t_rains : Int32) (v_t_lost : Int32) (v_t_hours : Int32) (v_t_sights : Int32) (v_t_padMany : Int32) (v_t_acts : Int32) (v_t_blownMany : Int32) (v_t_badAct : Int32) (v_t_badWhy : Int32) (v_t_ruinAct : Int32) (v_t_ruinWho : Int32) (v_t_keptAt : Int32) (v_t_isWriting : Int32) (f_t_sightBreath : (Nat → Int32)) (f_t_sightFlew : (Nat → Int32)) (f_t_byFlew : (Nat → Int32)) (x1 : Int32) (rv : Int32) (z_t_byFlew : (Nat → Int32)) (hf : fX11_mostLeft v_t_sights f_t_sightBreath f_t_sightFlew f_t_byFlew x1 = some (rv, z_t_byFlew)) {sz : Nat} : gMi l yX11_mostLeft (gW yX11_mostLeft cX11_mostLeft 5 (some .int)) ({ frames := 2, cells := 0, slots := 0, locals := 48 } : Room) E [.ref o_t, .int x1] (wX11_mostLeft E o_t a_t v_t_there v_t_wind v_t_force v_t_rains v_t_lost v_t_hours v_t_sights v_t_padMany v_t_acts v_t_blownMany v_t_badAct v_t_badWhy v_t_ruinAct v_t_ruinWho v_t_keptAt v_t_isWriting f_t_sightBreath f_t_sightFlew f_t_byFlew) sz rv (wX11_mostLeft E o_t a_t v_t_there v_t_wind v_t_force v_t_rains v_t_lost v_t_hours v_t_sights v_t_padMany v_t_acts v_t_blownMany v_t_badAct v_t_badWhy v_t_ruinAct v_t_ruinWho v_t_keptAt v_t_isWriting f_t_sightBreath f_t_sightFlew z_t_byFlew) := by
  refine g_openI (own := RX11) (by decide) rfl (Nat.le_of_ble_eq_true rfl) (fun p e s m args below meth cd Q A hx hb hml hown hG hK hA hret hw ls hl => ?_)
  have hl : lv_has ls 5 [(0, .ref o_t), (1, .int x1)] := hl
  have hret1 : ∀ (t : Int32 × (Nat → Int32)) (H : Heap) (locs : List Loc) (pc : Nat) (ls : Array Slot), some t = some (rv, z_t_byFlew) → gS E A s.heap (wX11_mostLeft E o_t a_t v_t_there v_t_wind v_t_force v_t_rains v_t_lost v_t_hours v_t_sights v_t_padMany v_t_acts v_t_blownMany v_t_badAct v_t_badWhy v_t_ruinAct v_t_ruinWho v_t_keptAt v_t_isWriting f_t_sightBreath f_t_sightFlew t.2) H locs → decode cX11_mostLeft pc = .ok (.ireturn, 1) → W p l e ({ frames := 2, cells := 0, slots := 0, locals := 48 } : Room) s m args below meth cd H locs 0 0 Q (F0 m pc ls [.int t.1]) := by
    intro t H locs pc ls h hw hd
    obtain rfl : t = (rv, z_t_byFlew) := Option.some.inj h
    exact hret H locs pc ls hw hd
  have B82 : ∀ (K26 : (Nat → Int32) → Int32 → Int32 → Int32 → Option (Int32 × (Nat → Int32))) (hK26 : ∀ (f_t_byFlew : (Nat → Int32)) (x1 : Int32) (x2 : Int32) (x3 : Int32) (H : Heap) (locs : List Loc) (ls : Array Slot), K26 f_t_byFlew x1 x2 x3 = some (rv, z_t_byFlew) → gS E A s.heap (wX11_mostLeft E o_t a_t v_t_there v_t_wind v_t_force v_t_rains v_t_lost v_t_hours v_t_sights v_t_padMany v_t_acts v_t_blownMany v_t_badAct v_t_badWhy v_t_ruinAct v_t_ruinWho v_t_keptAt v_t_isWriting f_t_sightBreath f_t_sightFlew f_t_byFlew) H locs → lv_has ls 5 [(0, .ref o_t), (1, .int x1), (2, .int x2), (3, .int x3)] → W p l e ({ frames := 2, cells := 0, slots := 0, locals := 48 } : Room) s m args below meth cd H locs 0 0 Q (F0 m 26 ls [])), ∀ (f_t_byFlew : (Nat → Int32)) (x1 : Int32) (x2 : Int32) (x3 : Int32) (H : Heap) (locs : List Loc) (ls : Array Slot), fX11_mostLeft_b82 K26 v_t_sights f_t_sightBreath f_t_sightFlew f_t_byFlew x1 x2 x3 = some (rv, z_t_byFlew) → gS E A s.heap (wX11_mostLeft E o_t a_t v_t_there v_t_wind v_t_force v_t_rains v_t_lost v_t_hours v_t_sights v_t_padMany v_t_acts v_t_blownMany v_t_badAct v_t_badWhy v_t_ruinAct v_t_ruinWho v_t_keptAt v_t_isWriting f_t_sightBreath f_t_sightFlew f_t_byFlew) H locs → lv_has ls 5 [(0, .ref o_t), (1, .int x1), (2, .int x2), (3, .int x3)] → W p l e ({ frames := 2, cells := 0, slots := 0, locals := 48 } : Room) s m args below meth cd H locs 0 0 Q (F0 m 82 ls []) := by
    intro K26 hK26 f_t_byFlew x1 x2 x3 H locs ls hf hw hl
    refine lv_iinc (lv' := [(3, .int (x3 + 1)), (0, .ref o_t), (1, .int x1), (2, .int x2)]) hx hb dX11_mostLeft_82 hl (k := 3) rfl (k_inc1 _) (Nat.le_of_ble_eq_true rfl) rfl (fun ls hl => ?_)
    refine lv_goto (tgt := 26) hx hb dX11_mostLeft_85 (by decide) ?_
    exact hK26 f_t_byFlew x1 x2 (x3 + 1) _ _ _ hf hw (lv_sub hl [1, 2, 3, 0] rfl)
  have B81 : ∀ (K26 : (Nat → Int32) → Int32 → Int32 → Int32 → Option (Int32 × (Nat → Int32))) (hK26 : ∀ (f_t_byFlew : (Nat → Int32)) (x1 : Int32) (x2 : Int32) (x3 : Int32) (H : Heap) (locs : List Loc) (ls : Array Slot), K26 f_t_byFlew x1 x2 x3 = some (rv, z_t_byFlew) → gS E A s.heap (wX11_mostLeft E o_t a_t v_t_there v_t_wind v_t_force v_t_rains v_t_lost v_t_hours v_t_sights v_t_padMany v_t_acts v_t_blownMany v_t_badAct v_t_badWhy v_t_ruinAct v_t_ruinWho v_t_keptAt v_t_isWriting f_t_sightBreath f_t_sightFlew f_t_byFlew) H locs → lv_has ls 5 [(0, .ref o_t), (1, .int x1), (2, .int x2), (3, .int x3)] → W p l e ({ frames := 2, cells := 0, slots := 0, locals := 48 } : Room) s m args below meth cd H locs 0 0 Q (F0 m 26 ls [])), ∀ (f_t_byFlew : (Nat → Int32)) (x1 : Int32) (x3 : Int32) (s0 : Int32) (H : Heap) (locs : List Loc) (ls : Array Slot), fX11_mostLeft_b81 K26 v_t_sights f_t_sightBreath f_t_sightFlew f_t_byFlew x1 x3 s0 = some (rv, z_t_byFlew) → gS E A s.heap (wX11_mostLeft E o_t a_t v_t_there v_t_wind v_t_force v_t_rains v_t_lost v_t_hours v_t_sights v_t_padMany v_t_acts v_t_blownMany v_t_badAct v_t_badWhy v_t_ruinAct v_t_ruinWho v_t_keptAt v_t_isWriting f_t_sightBreath f_t_sightFlew f_t_byFlew) H locs → lv_has ls 5 [(0, .ref o_t), (1, .int x1), (3, .int x3)] → W p l e ({ frames := 2, cells := 0, slots := 0, locals := 48 } : Room) s m args below meth cd H locs 0 0 Q (F0 m 81 ls [.int s0]) := by
    intro K26 hK26 f_t_byFlew x1 x3 s0 H locs ls hf hw hl
    refine lv_istore_n (lv' := [(2, .int s0), (0, .ref o_t), (1, .int x1), (3, .int x3)]) hx hb dX11_mostLeft_81 rfl hl (Nat.le_of_ble_eq_true rfl) rfl (fun ls hl => ?_)
    exact B82 K26 hK26 f_t_byFlew x1 s0 x3 _ _ _ hf hw (lv_sub hl [1, 2, 0, 3] rfl)
  have B26 : ∀ n : Nat, ∀ (f_t_byFlew : (Nat → Int32)) (x1 : Int32) (x2 : Int32) (x3 : Int32) (H : Heap) (locs : List Loc) (ls : Array Slot), fX11_mostLeft_b26 v_t_sights f_t_sightBreath f_t_sightFlew n f_t_byFlew x1 x2 x3 = some (rv, z_t_byFlew) → gS E A s.heap (wX11_mostLeft E o_t a_t v_t_there v_t_wind v_t_force v_t_rains v_t_lost v_t_hours v_t_sights v_t_padMany v_t_acts v_t_blownMany v_t_badAct v_t_badWhy v_t_ruinAct v_t_ruinWho v_t_keptAt v_t_isWriting f_t_sightBreath f_t_sightFlew f_t_byFlew) H locs → lv_has ls 5 [(0, .ref o_t), (1, .int x1), (2, .int x2), (3, .int x3)] → W p l e ({ frames := 2, cells := 0, slots := 0, locals := 48 } : Room) s m args below meth cd H locs 0 0 Q (F0 m 26 ls []) := by
    intro n
    induction n with
    | zero => intro f_t_byFlew x1 x2 x3 H locs ls hf hw hl; exact g_no hf
    | succ n ih =>
      intro f_t_byFlew x1 x2 x3 H locs ls hf hw hl
      refine lv_iload_n hx hb dX11_mostLeft_26 rfl (lv_at hl 3 rfl) ?_
      refine lv_sipush (v := 1000) hx hb dX11_mostLeft_27 k_s1000 ?_
      refine lv_icmp_ge (tgt := 88) hx hb dX11_mostLeft_30 (by decide) (fun hc => ?_) (fun hc => ?_)
      · have hf := g_t hc hf
        refine lv_iload_n hx hb dX11_mostLeft_88 rfl (lv_at hl 2 rfl) ?_
        exact hret1 (x2, f_t_byFlew) _ _ _ _ hf hw dX11_mostLeft_89
      · have hf := g_f hc hf
        refine lv_aload_n hx hb dX11_mostLeft_33 rfl (lv_at hl 0 rfl) ?_
        refine lv_iload_n hx hb dX11_mostLeft_34 rfl (lv_at hl 3 rfl) ?_
        obtain ⟨r1, hc2, hf⟩ := gB_s hf
        refine g_ki0 (is := [0, 1, 2]) hw hA (g_rV hx hb hml hG hown hK hw (is := [0, 1, 2]) rfl (by decide) (mX11_isFit l E o_t a_t v_t_there v_t_wind v_t_force v_t_rains v_t_lost v_t_hours v_t_sights v_t_padMany v_t_acts v_t_blownMany v_t_badAct v_t_badWhy v_t_ruinAct v_t_ruinWho v_t_keptAt v_t_isWriting f_t_sightBreath f_t_sightFlew x3 r1 hc2) wd_32_9 wd_32_10 wd_32_11 wd_1_5 wd_32_12 hX11_isFit g_allgood ⟨rfl, rfl⟩ ⟨Nat.le_of_ble_eq_true rfl, Nat.le_of_ble_eq_true rfl⟩ ⟨Nat.zero_le _, Nat.zero_le _⟩ (ci := 9) (q0 := 0) rfl rfl rfl rfl hl.1 rfl (Nat.le_of_ble_eq_true rfl) dX11_mostLeft_35) rfl (fun H locs hw => ?_)
        refine lv_if_eq (tgt := 82) hx hb dX11_mostLeft_38 (by decide) (fun hc => ?_) (fun hc => ?_)
        · have hf := g_t hc hf
          exact B82 (fX11_mostLeft_b26 v_t_sights f_t_sightBreath f_t_sightFlew n) ih f_t_byFlew x1 x2 x3 _ _ _ hf hw (lv_sub hl [0, 1, 2, 3] rfl)
        · have hf := g_f hc hf
          refine lv_iload_n hx hb dX11_mostLeft_41 rfl (lv_at hl 3 rfl) ?_
          refine lv_iload_n hx hb dX11_mostLeft_42 rfl (lv_at hl 1 rfl) ?_
          obtain ⟨r3, hc4, hf⟩ := gB_s hf
          refine g_ki0 (is := []) hw hA (g_rS hx hb hml hG hown hK hw (is := []) rfl (by decide) (mX11_fliesBy l E x3 x1 r3 hc4) wd_32_14 wd_32_15 wd_1_5 wd_32_16 hX11_fliesBy g_allgood ⟨rfl, rfl⟩ ⟨Nat.le_of_ble_eq_true rfl, Nat.le_of_ble_eq_true rfl⟩ ⟨Nat.zero_le _, Nat.zero_le _⟩ rfl hl.1 rfl (Nat.le_of_ble_eq_true rfl) dX11_mostLeft_43) rfl (fun H locs hw => ?_)
          refine lv_istore (lv' := [(4, .int r3), (0, .ref o_t), (1, .int x1), (2, .int x2), (3, .int x3)]) hx hb dX11_mostLeft_46 hl (Nat.le_of_ble_eq_true rfl) rfl (fun ls hl => ?_)
          refine lv_aload_n hx hb dX11_mostLeft_48 rfl (lv_at hl 1 rfl) ?_
          refine g_get hx hb hG hown hK hw inlX11 (ci := 9) rfl 0 29 (Nat.le_of_ble_eq_true rfl) rfl rfl wd_6_12 dX11_mostLeft_49 ?_
          refine lv_iload hx hb dX11_mostLeft_52 (lv_at hl 0 rfl) ?_
          refine lv_dup2_11 hx hb dX11_mostLeft_54 rfl rfl ?_
          obtain ⟨hi5, hf⟩ := gA_s hf
          refine g_iald hx hb hK hw 3 rfl hi5 dX11_mostLeft_55 ?_
          refine lv_iconst (v := 1) hx hb dX11_mostLeft_56 k_i1 ?_
          refine lv_iadd hx hb dX11_mostLeft_57 ?_
          obtain ⟨hi6, hf⟩ := gA_s hf
          refine g_iast (ws' := (wX11_mostLeft E o_t a_t v_t_there v_t_wind v_t_force v_t_rains v_t_lost v_t_hours v_t_sights v_t_padMany v_t_acts v_t_blownMany v_t_badAct v_t_badWhy v_t_ruinAct v_t_ruinWho v_t_keptAt v_t_isWriting f_t_sightBreath f_t_sightFlew (upd f_t_byFlew (Int32.toNatClampNeg r3) ((f_t_byFlew (Int32.toNatClampNeg r3)) + 1)))) hx hb hK hw 3 rfl hi6 rfl dX11_mostLeft_58 (fun H locs hw => ?_)
          refine lv_aload_n hx hb dX11_mostLeft_59 rfl (lv_at hl 1 rfl) ?_
          refine g_get hx hb hG hown hK hw inlX11 (ci := 9) rfl 0 29 (Nat.le_of_ble_eq_true rfl) rfl rfl wd_6_12 dX11_mostLeft_60 ?_
          refine lv_iload hx hb dX11_mostLeft_63 (lv_at hl 0 rfl) ?_
          obtain ⟨hi7, hf⟩ := gA_s hf
          refine g_iald hx hb hK hw 3 rfl hi7 dX11_mostLeft_65 ?_
          refine lv_iload_n hx hb dX11_mostLeft_66 rfl (lv_at hl 3 rfl) ?_
          refine lv_icmp_le (tgt := 80) hx hb dX11_mostLeft_67 (by decide) (fun hc => ?_) (fun hc => ?_)
          · have hf := g_t hc hf
            refine lv_iload_n hx hb dX11_mostLeft_80 rfl (lv_at hl 3 rfl) ?_
            exact B81 (fX11_mostLeft_b26 v_t_sights f_t_sightBreath f_t_sightFlew n) ih (upd f_t_byFlew (Int32.toNatClampNeg r3) ((f_t_byFlew (Int32.toNatClampNeg r3)) + 1)) x1 x3 x2 _ _ _ hf hw (lv_sub hl [1, 2, 4] rfl)
          · have hf := g_f hc hf
            refine lv_aload_n hx hb dX11_mostLeft_70 rfl (lv_at hl 1 rfl) ?_
            refine g_get hx hb hG hown hK hw inlX11 (ci := 9) rfl 0 29 (Nat.le_of_ble_eq_true rfl) rfl rfl wd_6_12 dX11_mostLeft_71 ?_
            refine lv_iload hx hb dX11_mostLeft_74 (lv_at hl 0 rfl) ?_
            obtain ⟨hi8, hf⟩ := gA_s hf
            refine g_iald hx hb hK hw 3 rfl hi8 dX11_mostLeft_76 ?_
            refine lv_goto (tgt := 81) hx hb dX11_mostLeft_77 (by decide) ?_
            exact B81 (fX11_mostLeft_b26 v_t_sights f_t_sightBreath f_t_sightFlew n) ih (upd f_t_byFlew (Int32.toNatClampNeg r3) ((f_t_byFlew (Int32.toNatClampNeg r3)) + 1)) x1 x3 ((upd f_t_byFlew (Int32.toNatClampNeg r3) ((f_t_byFlew (Int32.toNatClampNeg r3)) + 1)) (Int32.toNatClampNeg r3)) _ _ _ hf hw (lv_sub hl [1, 2, 4] rfl)
  have B4 : ∀ n : Nat, ∀ (f_t_byFlew : (Nat → Int32)) (x1 : Int32) (x2 : Int32) (x3 : Int32) (H : Heap) (locs : List Loc) (ls : Array Slot), fX11_mostLeft_b4 v_t_sights f_t_sightBreath f_t_sightFlew n f_t_byFlew x1 x2 x3 = some (rv, z_t_byFlew) → gS E A s.heap (wX11_mostLeft E o_t a_t v_t_there v_t_wind v_t_force v_t_rains v_t_lost v_t_hours v_t_sights v_t_padMany v_t_acts v_t_blownMany v_t_badAct v_t_badWhy v_t_ruinAct v_t_ruinWho v_t_keptAt v_t_isWriting f_t_sightBreath f_t_sightFlew f_t_byFlew) H locs → lv_has ls 5 [(0, .ref o_t), (1, .int x1), (2, .int x2), (3, .int x3)] → W p l e ({ frames := 2, cells := 0, slots := 0, locals := 48 } : Room) s m args below meth cd H locs 0 0 Q (F0 m 4 ls []) := by
    intro n
    induction n with
    | zero => intro f_t_byFlew x1 x2 x3 H locs ls hf hw hl; exact g_no hf
    | succ n ih =>
      intro f_t_byFlew x1 x2 x3 H locs ls hf hw hl
      refine lv_iload_n hx hb dX11_mostLeft_4 rfl (lv_at hl 3 rfl) ?_
      refine lv_bipush (v := 82) hx hb dX11_mostLeft_5 k_b82 ?_
      refine lv_icmp_ge (tgt := 23) hx hb dX11_mostLeft_7 (by decide) (fun hc => ?_) (fun hc => ?_)
      · have hf := g_t hc hf
        refine lv_bipush (v := 100) hx hb dX11_mostLeft_23 k_b100 ?_
        refine lv_istore_n (lv' := [(3, .int 100), (0, .ref o_t), (1, .int x1), (2, .int x2)]) hx hb dX11_mostLeft_25 rfl hl (Nat.le_of_ble_eq_true rfl) rfl (fun ls hl => ?_)
        exact B26 1000 f_t_byFlew x1 x2 100 _ _ _ hf hw (lv_sub hl [1, 2, 3, 0] rfl)
      · have hf := g_f hc hf
        refine lv_aload_n hx hb dX11_mostLeft_10 rfl (lv_at hl 0 rfl) ?_
        refine g_get hx hb hG hown hK hw inlX11 (ci := 9) rfl 0 29 (Nat.le_of_ble_eq_true rfl) rfl rfl wd_6_12 dX11_mostLeft_11 ?_
        refine lv_iload_n hx hb dX11_mostLeft_14 rfl (lv_at hl 3 rfl) ?_
        refine lv_iconst (v := 0) hx hb dX11_mostLeft_15 k_i0 ?_
        obtain ⟨hi9, hf⟩ := gA_s hf
        refine g_iast (ws' := (wX11_mostLeft E o_t a_t v_t_there v_t_wind v_t_force v_t_rains v_t_lost v_t_hours v_t_sights v_t_padMany v_t_acts v_t_blownMany v_t_badAct v_t_badWhy v_t_ruinAct v_t_ruinWho v_t_keptAt v_t_isWriting f_t_sightBreath f_t_sightFlew (upd f_t_byFlew (Int32.toNatClampNeg x3) 0))) hx hb hK hw 3 rfl hi9 rfl dX11_mostLeft_16 (fun H locs hw => ?_)
        refine lv_iinc (lv' := [(3, .int (x3 + 1)), (0, .ref o_t), (1, .int x1), (2, .int x2)]) hx hb dX11_mostLeft_17 hl (k := 3) rfl (k_inc1 _) (Nat.le_of_ble_eq_true rfl) rfl (fun ls hl => ?_)
        refine lv_goto (tgt := 4) hx hb dX11_mostLeft_20 (by decide) ?_
        exact ih (upd f_t_byFlew (Int32.toNatClampNeg x3) 0) x1 x2 (x3 + 1) _ _ _ hf hw (lv_sub hl [1, 2, 3, 0] rfl)
  refine lv_iconst (v := 0) hx hb dX11_mostLeft_0 k_i0 ?_
  refine lv_istore_n (lv' := [(2, .int 0), (0, .ref o_t), (1, .int x1)]) hx hb dX11_mostLeft_1 rfl hl (Nat.le_of_ble_eq_true rfl) rfl (fun ls hl => ?_)
  refine lv_iconst (v := 0) hx hb dX11_mostLeft_2 k_i0 ?_
  refine lv_istore_n (lv' := [(3, .int 0), (2, .int 0), (0, .ref o_t), (1, .int x1)]) hx hb dX11_mostLeft_3 rfl hl (Nat.le_of_ble_eq_true rfl) rfl (fun ls hl => ?_)
  exact B4 1000 f_t_byFlew x1 0 0 _ _ _ hf hw (lv_sub hl [2, 3, 1, 0] rfl)
theorem hX11_tries : yX11_tries.cls = RX11 ∧ yX11_tries.cls ≠ "java/lang/invoke/MethodHandle" ∧ yX11_tries.cls ≠ "java/lang/invoke/VarHandle" ∧ (parseMethodDescriptor yX11_tries.desc).map (fun d => d.parameters.length) = some 1 := by decide +kernel
set_option maxHeartbeats 4000000 in
set_option maxRecDepth 100000 in
theorem mX11_tries (l : Launch) (E : gE) (o_t : Nat) (a_t : (Nat → Nat)) (v_t_there : Int32) (v_t_wind : Int32) (v_t_force : Int32) (v_t_rains : Int32) (v_t_lost : Int32) (v_t_hours : Int32) (v_t_sights : Int32) (v_t_padMany : Int32) (v_t_acts : Int32) (v_t_blownMany : Int32) (v_t_badAct : Int32) (v_t_badWhy : Int32) (v_t_ruinAct : Int32) (v_t_ruinWho : Int32) (v_t_keptAt : Int32) (v_t_isWriting : Int32) (f_t_sightBreath : (Nat → Int32)) (f_t_sightFlew : (Nat → Int32)) (f_t_byFlew : (Nat → Int32)) (x1 : Int32) (rv : Int32) (z_t_byFlew : (Nat → Int32)) (hf : fX11_tries v_t_sights f_t_sightBreath f_t_sightFlew f_t_byFlew x1 = some (rv, z_t_byFlew)) {sz : Nat} : gMi l yX11_tries (gW yX11_tries cX11_tries 6 (some .int)) ({ frames := 3, cells := 0, slots := 0, locals := 72 } : Room) E [.ref o_t, .int x1] (wX11_tries E o_t a_t v_t_there v_t_wind v_t_force v_t_rains v_t_lost v_t_hours v_t_sights v_t_padMany v_t_acts v_t_blownMany v_t_badAct v_t_badWhy v_t_ruinAct v_t_ruinWho v_t_keptAt v_t_isWriting f_t_sightBreath f_t_sightFlew f_t_byFlew) sz rv (wX11_tries E o_t a_t v_t_there v_t_wind v_t_force v_t_rains v_t_lost v_t_hours v_t_sights v_t_padMany v_t_acts v_t_blownMany v_t_badAct v_t_badWhy v_t_ruinAct v_t_ruinWho v_t_keptAt v_t_isWriting f_t_sightBreath f_t_sightFlew z_t_byFlew) := by
  refine g_openI (own := RX11) (by decide) rfl (Nat.le_of_ble_eq_true rfl) (fun p e s m args below meth cd Q A hx hb hml hown hG hK hA hret hw ls hl => ?_)
  have hl : lv_has ls 6 [(0, .ref o_t), (1, .int x1)] := hl
  have hret1 : ∀ (t : Int32 × (Nat → Int32)) (H : Heap) (locs : List Loc) (pc : Nat) (ls : Array Slot), some t = some (rv, z_t_byFlew) → gS E A s.heap (wX11_tries E o_t a_t v_t_there v_t_wind v_t_force v_t_rains v_t_lost v_t_hours v_t_sights v_t_padMany v_t_acts v_t_blownMany v_t_badAct v_t_badWhy v_t_ruinAct v_t_ruinWho v_t_keptAt v_t_isWriting f_t_sightBreath f_t_sightFlew t.2) H locs → decode cX11_tries pc = .ok (.ireturn, 1) → W p l e ({ frames := 3, cells := 0, slots := 0, locals := 72 } : Room) s m args below meth cd H locs 0 0 Q (F0 m pc ls [.int t.1]) := by
    intro t H locs pc ls h hw hd
    obtain rfl : t = (rv, z_t_byFlew) := Option.some.inj h
    exact hret H locs pc ls hw hd
  have B64 : ∀ (K24 : (Nat → Int32) → Int32 → Int32 → Int32 → Int32 → Option (Int32 × (Nat → Int32))) (hK24 : ∀ (f_t_byFlew : (Nat → Int32)) (x1 : Int32) (x2 : Int32) (x3 : Int32) (x4 : Int32) (H : Heap) (locs : List Loc) (ls : Array Slot), K24 f_t_byFlew x1 x2 x3 x4 = some (rv, z_t_byFlew) → gS E A s.heap (wX11_tries E o_t a_t v_t_there v_t_wind v_t_force v_t_rains v_t_lost v_t_hours v_t_sights v_t_padMany v_t_acts v_t_blownMany v_t_badAct v_t_badWhy v_t_ruinAct v_t_ruinWho v_t_keptAt v_t_isWriting f_t_sightBreath f_t_sightFlew f_t_byFlew) H locs → lv_has ls 6 [(0, .ref o_t), (1, .int x1), (2, .int x2), (3, .int x3), (4, .int x4)] → W p l e ({ frames := 3, cells := 0, slots := 0, locals := 72 } : Room) s m args below meth cd H locs 0 0 Q (F0 m 24 ls [])), ∀ (f_t_byFlew : (Nat → Int32)) (x1 : Int32) (x2 : Int32) (x4 : Int32) (s0 : Int32) (H : Heap) (locs : List Loc) (ls : Array Slot), fX11_tries_b64 K24 v_t_sights f_t_sightBreath f_t_sightFlew f_t_byFlew x1 x2 x4 s0 = some (rv, z_t_byFlew) → gS E A s.heap (wX11_tries E o_t a_t v_t_there v_t_wind v_t_force v_t_rains v_t_lost v_t_hours v_t_sights v_t_padMany v_t_acts v_t_blownMany v_t_badAct v_t_badWhy v_t_ruinAct v_t_ruinWho v_t_keptAt v_t_isWriting f_t_sightBreath f_t_sightFlew f_t_byFlew) H locs → lv_has ls 6 [(0, .ref o_t), (1, .int x1), (2, .int x2), (4, .int x4)] → W p l e ({ frames := 3, cells := 0, slots := 0, locals := 72 } : Room) s m args below meth cd H locs 0 0 Q (F0 m 64 ls [.int s0]) := by
    intro K24 hK24 f_t_byFlew x1 x2 x4 s0 H locs ls hf hw hl
    refine lv_istore_n (lv' := [(3, .int s0), (0, .ref o_t), (1, .int x1), (2, .int x2), (4, .int x4)]) hx hb dX11_tries_64 rfl hl (Nat.le_of_ble_eq_true rfl) rfl (fun ls hl => ?_)
    refine lv_iinc (lv' := [(4, .int (x4 + 1)), (3, .int s0), (0, .ref o_t), (1, .int x1), (2, .int x2)]) hx hb dX11_tries_65 hl (k := 4) rfl (k_inc1 _) (Nat.le_of_ble_eq_true rfl) rfl (fun ls hl => ?_)
    refine lv_goto (tgt := 24) hx hb dX11_tries_68 (by decide) ?_
    exact hK24 f_t_byFlew x1 x2 s0 (x4 + 1) _ _ _ hf hw (lv_sub hl [2, 3, 4, 1, 0] rfl)
  have B51 : ∀ (K24 : (Nat → Int32) → Int32 → Int32 → Int32 → Int32 → Option (Int32 × (Nat → Int32))) (hK24 : ∀ (f_t_byFlew : (Nat → Int32)) (x1 : Int32) (x2 : Int32) (x3 : Int32) (x4 : Int32) (H : Heap) (locs : List Loc) (ls : Array Slot), K24 f_t_byFlew x1 x2 x3 x4 = some (rv, z_t_byFlew) → gS E A s.heap (wX11_tries E o_t a_t v_t_there v_t_wind v_t_force v_t_rains v_t_lost v_t_hours v_t_sights v_t_padMany v_t_acts v_t_blownMany v_t_badAct v_t_badWhy v_t_ruinAct v_t_ruinWho v_t_keptAt v_t_isWriting f_t_sightBreath f_t_sightFlew f_t_byFlew) H locs → lv_has ls 6 [(0, .ref o_t), (1, .int x1), (2, .int x2), (3, .int x3), (4, .int x4)] → W p l e ({ frames := 3, cells := 0, slots := 0, locals := 72 } : Room) s m args below meth cd H locs 0 0 Q (F0 m 24 ls [])), ∀ (f_t_byFlew : (Nat → Int32)) (x1 : Int32) (x3 : Int32) (x4 : Int32) (x5 : Int32) (s0 : Int32) (H : Heap) (locs : List Loc) (ls : Array Slot), fX11_tries_b51 K24 v_t_sights f_t_sightBreath f_t_sightFlew f_t_byFlew x1 x3 x4 x5 s0 = some (rv, z_t_byFlew) → gS E A s.heap (wX11_tries E o_t a_t v_t_there v_t_wind v_t_force v_t_rains v_t_lost v_t_hours v_t_sights v_t_padMany v_t_acts v_t_blownMany v_t_badAct v_t_badWhy v_t_ruinAct v_t_ruinWho v_t_keptAt v_t_isWriting f_t_sightBreath f_t_sightFlew f_t_byFlew) H locs → lv_has ls 6 [(0, .ref o_t), (1, .int x1), (3, .int x3), (4, .int x4), (5, .int x5)] → W p l e ({ frames := 3, cells := 0, slots := 0, locals := 72 } : Room) s m args below meth cd H locs 0 0 Q (F0 m 51 ls [.int s0]) := by
    intro K24 hK24 f_t_byFlew x1 x3 x4 x5 s0 H locs ls hf hw hl
    refine lv_istore_n (lv' := [(2, .int s0), (0, .ref o_t), (1, .int x1), (3, .int x3), (4, .int x4), (5, .int x5)]) hx hb dX11_tries_51 rfl hl (Nat.le_of_ble_eq_true rfl) rfl (fun ls hl => ?_)
    refine lv_iload hx hb dX11_tries_52 (lv_at hl 5 rfl) ?_
    refine lv_iload_n hx hb dX11_tries_54 rfl (lv_at hl 3 rfl) ?_
    refine lv_icmp_ge (tgt := 63) hx hb dX11_tries_55 (by decide) (fun hc => ?_) (fun hc => ?_)
    · have hf := g_t hc hf
      refine lv_iload_n hx hb dX11_tries_63 rfl (lv_at hl 3 rfl) ?_
      exact B64 K24 hK24 f_t_byFlew x1 s0 x4 x3 _ _ _ hf hw (lv_sub hl [1, 2, 0, 4] rfl)
    · have hf := g_f hc hf
      refine lv_iload hx hb dX11_tries_58 (lv_at hl 5 rfl) ?_
      refine lv_goto (tgt := 64) hx hb dX11_tries_60 (by decide) ?_
      exact B64 K24 hK24 f_t_byFlew x1 s0 x4 x5 _ _ _ hf hw (lv_sub hl [1, 2, 0, 4] rfl)
  have B89 : ∀ (f_t_byFlew : (Nat → Int32)) (s0 : Int32) (H : Heap) (locs : List Loc) (ls : Array Slot), fX11_tries_b89 f_t_byFlew s0 = some (rv, z_t_byFlew) → gS E A s.heap (wX11_tries E o_t a_t v_t_there v_t_wind v_t_force v_t_rains v_t_lost v_t_hours v_t_sights v_t_padMany v_t_acts v_t_blownMany v_t_badAct v_t_badWhy v_t_ruinAct v_t_ruinWho v_t_keptAt v_t_isWriting f_t_sightBreath f_t_sightFlew f_t_byFlew) H locs → lv_has ls 6 [] → W p l e ({ frames := 3, cells := 0, slots := 0, locals := 72 } : Room) s m args below meth cd H locs 0 0 Q (F0 m 89 ls [.int s0]) := by
    intro  f_t_byFlew s0 H locs ls hf hw hl
    exact hret1 (s0, f_t_byFlew) _ _ _ _ hf hw dX11_tries_89
  have B24 : ∀ n : Nat, ∀ (f_t_byFlew : (Nat → Int32)) (x1 : Int32) (x2 : Int32) (x3 : Int32) (x4 : Int32) (H : Heap) (locs : List Loc) (ls : Array Slot), fX11_tries_b24 v_t_sights f_t_sightBreath f_t_sightFlew n f_t_byFlew x1 x2 x3 x4 = some (rv, z_t_byFlew) → gS E A s.heap (wX11_tries E o_t a_t v_t_there v_t_wind v_t_force v_t_rains v_t_lost v_t_hours v_t_sights v_t_padMany v_t_acts v_t_blownMany v_t_badAct v_t_badWhy v_t_ruinAct v_t_ruinWho v_t_keptAt v_t_isWriting f_t_sightBreath f_t_sightFlew f_t_byFlew) H locs → lv_has ls 6 [(0, .ref o_t), (1, .int x1), (2, .int x2), (3, .int x3), (4, .int x4)] → W p l e ({ frames := 3, cells := 0, slots := 0, locals := 72 } : Room) s m args below meth cd H locs 0 0 Q (F0 m 24 ls []) := by
    intro n
    induction n with
    | zero => intro f_t_byFlew x1 x2 x3 x4 H locs ls hf hw hl; exact g_no hf
    | succ n ih =>
      intro f_t_byFlew x1 x2 x3 x4 H locs ls hf hw hl
      refine lv_iload hx hb dX11_tries_24 (lv_at hl 4 rfl) ?_
      refine lv_bipush (v := 9) hx hb dX11_tries_26 k_b9 ?_
      refine lv_icmp_gt (tgt := 71) hx hb dX11_tries_28 (by decide) (fun hc => ?_) (fun hc => ?_)
      · have hf := g_t hc hf
        refine lv_iload_n hx hb dX11_tries_71 rfl (lv_at hl 3 rfl) ?_
        refine lv_if_ne (tgt := 80) hx hb dX11_tries_72 (by decide) (fun hc => ?_) (fun hc => ?_)
        · have hf := g_f hc hf
          refine lv_iload_n hx hb dX11_tries_80 rfl (lv_at hl 1 rfl) ?_
          refine lv_if_ne (tgt := 88) hx hb dX11_tries_81 (by decide) (fun hc => ?_) (fun hc => ?_)
          · have hf := g_f hc hf
            refine lv_iload_n hx hb dX11_tries_88 rfl (lv_at hl 3 rfl) ?_
            exact B89 f_t_byFlew x3 _ _ _ hf hw (lv_sub hl [] rfl)
          · have hf := g_t hc hf
            refine lv_iload_n hx hb dX11_tries_84 rfl (lv_at hl 2 rfl) ?_
            refine lv_goto (tgt := 89) hx hb dX11_tries_85 (by decide) ?_
            exact B89 f_t_byFlew x2 _ _ _ hf hw (lv_sub hl [] rfl)
        · have hf := g_t hc hf
          refine lv_bipush (v := -6) hx hb dX11_tries_75 k_bm6 ?_
          refine lv_goto (tgt := 89) hx hb dX11_tries_77 (by decide) ?_
          exact B89 f_t_byFlew (-6) _ _ _ hf hw (lv_sub hl [] rfl)
      · have hf := g_f hc hf
        refine lv_aload_n hx hb dX11_tries_31 rfl (lv_at hl 0 rfl) ?_
        refine lv_iload hx hb dX11_tries_32 (lv_at hl 4 rfl) ?_
        obtain ⟨⟨r1_0, r1_1⟩, hc2, hf⟩ := gB_s hf
        refine g_ki (is := [0, 1, 2, 3]) (isR := []) (nW := 4) (w1 := (wX11_mostLeft E o_t a_t v_t_there v_t_wind v_t_force v_t_rains v_t_lost v_t_hours v_t_sights v_t_padMany v_t_acts v_t_blownMany v_t_badAct v_t_badWhy v_t_ruinAct v_t_ruinWho v_t_keptAt v_t_isWriting f_t_sightBreath f_t_sightFlew r1_1)) (ws' := (wX11_tries E o_t a_t v_t_there v_t_wind v_t_force v_t_rains v_t_lost v_t_hours v_t_sights v_t_padMany v_t_acts v_t_blownMany v_t_badAct v_t_badWhy v_t_ruinAct v_t_ruinWho v_t_keptAt v_t_isWriting f_t_sightBreath f_t_sightFlew r1_1)) hw hA (g_rV hx hb hml hG hown hK hw (is := [0, 1, 2, 3]) rfl (by decide) (mX11_mostLeft l E o_t a_t v_t_there v_t_wind v_t_force v_t_rains v_t_lost v_t_hours v_t_sights v_t_padMany v_t_acts v_t_blownMany v_t_badAct v_t_badWhy v_t_ruinAct v_t_ruinWho v_t_keptAt v_t_isWriting f_t_sightBreath f_t_sightFlew f_t_byFlew x4 r1_0 r1_1 hc2) wd_33_14 wd_33_15 wd_33_16 wd_1_5 wd_33_17 hX11_mostLeft g_allgood ⟨rfl, rfl⟩ ⟨Nat.le_of_ble_eq_true rfl, Nat.le_of_ble_eq_true rfl⟩ ⟨Nat.zero_le _, Nat.zero_le _⟩ (ci := 9) (q0 := 0) rfl rfl rfl rfl hl.1 rfl (Nat.le_of_ble_eq_true rfl) dX11_tries_34) rfl (g_had [o_t, (a_t 11), (a_t 12), (a_t 29)] rfl rfl) rfl (trivial) rfl rfl (by decide) (fun H locs hw => ?_)
        refine lv_istore (lv' := [(5, .int r1_0), (0, .ref o_t), (1, .int x1), (2, .int x2), (3, .int x3), (4, .int x4)]) hx hb dX11_tries_37 hl (Nat.le_of_ble_eq_true rfl) rfl (fun ls hl => ?_)
        refine lv_iload hx hb dX11_tries_39 (lv_at hl 0 rfl) ?_
        refine lv_iload_n hx hb dX11_tries_41 rfl (lv_at hl 4 rfl) ?_
        refine lv_icmp_ge (tgt := 50) hx hb dX11_tries_42 (by decide) (fun hc => ?_) (fun hc => ?_)
        · have hf := g_t hc hf
          refine lv_iload_n hx hb dX11_tries_50 rfl (lv_at hl 3 rfl) ?_
          exact B51 (fX11_tries_b24 v_t_sights f_t_sightBreath f_t_sightFlew n) ih r1_1 x1 x3 x4 r1_0 x2 _ _ _ hf hw (lv_sub hl [1, 2, 4, 5, 0] rfl)
        · have hf := g_f hc hf
          refine lv_iload hx hb dX11_tries_45 (lv_at hl 5 rfl) ?_
          refine lv_goto (tgt := 51) hx hb dX11_tries_47 (by decide) ?_
          exact B51 (fX11_tries_b24 v_t_sights f_t_sightBreath f_t_sightFlew n) ih r1_1 x1 x3 x4 r1_0 x4 _ _ _ hf hw (lv_sub hl [1, 2, 4, 5, 0] rfl)
  refine lv_iload_n hx hb dX11_tries_0 rfl (lv_at hl 1 rfl) ?_
  refine lv_i2l hx hb dX11_tries_1 rfl ?_
  refine lv_lconst (v := 0) hx hb dX11_tries_2 k_l0 ?_
  refine lv_lconst (v := 1) hx hb dX11_tries_3 k_l1 ?_
  obtain ⟨r3, hc4, hf⟩ := gB_s hf
  refine g_ki0 (is := []) hw hA (g_rS hx hb hml hG hown hK hw (is := []) rfl (by decide) (mX11_in l E (Int32.toInt64 x1) 0 1 r3 hc4) wd_8_10 wd_8_11 wd_1_5 wd_8_12 hX11_in g_allgood ⟨rfl, rfl⟩ ⟨Nat.le_of_ble_eq_true rfl, Nat.le_of_ble_eq_true rfl⟩ ⟨Nat.zero_le _, Nat.zero_le _⟩ rfl hl.1 rfl (Nat.le_of_ble_eq_true rfl) dX11_tries_4) rfl (fun H locs hw => ?_)
  refine lv_if_ne (tgt := 13) hx hb dX11_tries_7 (by decide) (fun hc => ?_) (fun hc => ?_)
  · have hf := g_f hc hf
    refine lv_iconst (v := 1) hx hb dX11_tries_13 k_i1 ?_
    refine lv_istore_n (lv' := [(2, .int 1), (0, .ref o_t), (1, .int x1)]) hx hb dX11_tries_14 rfl hl (Nat.le_of_ble_eq_true rfl) rfl (fun ls hl => ?_)
    refine lv_aload_n hx hb dX11_tries_15 rfl (lv_at hl 1 rfl) ?_
    refine lv_iconst (v := 1) hx hb dX11_tries_16 k_i1 ?_
    obtain ⟨⟨r5_0, r5_1⟩, hc6, hf⟩ := gB_s hf
    refine g_ki (is := [0, 1, 2, 3]) (isR := []) (nW := 4) (w1 := (wX11_mostLeft E o_t a_t v_t_there v_t_wind v_t_force v_t_rains v_t_lost v_t_hours v_t_sights v_t_padMany v_t_acts v_t_blownMany v_t_badAct v_t_badWhy v_t_ruinAct v_t_ruinWho v_t_keptAt v_t_isWriting f_t_sightBreath f_t_sightFlew r5_1)) (ws' := (wX11_tries E o_t a_t v_t_there v_t_wind v_t_force v_t_rains v_t_lost v_t_hours v_t_sights v_t_padMany v_t_acts v_t_blownMany v_t_badAct v_t_badWhy v_t_ruinAct v_t_ruinWho v_t_keptAt v_t_isWriting f_t_sightBreath f_t_sightFlew r5_1)) hw hA (g_rV hx hb hml hG hown hK hw (is := [0, 1, 2, 3]) rfl (by decide) (mX11_mostLeft l E o_t a_t v_t_there v_t_wind v_t_force v_t_rains v_t_lost v_t_hours v_t_sights v_t_padMany v_t_acts v_t_blownMany v_t_badAct v_t_badWhy v_t_ruinAct v_t_ruinWho v_t_keptAt v_t_isWriting f_t_sightBreath f_t_sightFlew f_t_byFlew 1 r5_0 r5_1 hc6) wd_33_14 wd_33_15 wd_33_16 wd_1_5 wd_33_17 hX11_mostLeft g_allgood ⟨rfl, rfl⟩ ⟨Nat.le_of_ble_eq_true rfl, Nat.le_of_ble_eq_true rfl⟩ ⟨Nat.zero_le _, Nat.zero_le _⟩ (ci := 9) (q0 := 0) rfl rfl rfl rfl hl.1 rfl (Nat.le_of_ble_eq_true rfl) dX11_tries_17) rfl (g_had [o_t, (a_t 11), (a_t 12), (a_t 29)] rfl rfl) rfl (trivial) rfl rfl (by decide) (fun H locs hw => ?_)
    refine lv_istore_n (lv' := [(3, .int r5_0), (2, .int 1), (0, .ref o_t), (1, .int x1)]) hx hb dX11_tries_20 rfl hl (Nat.le_of_ble_eq_true rfl) rfl (fun ls hl => ?_)
    refine lv_iconst (v := 2) hx hb dX11_tries_21 k_i2 ?_
    refine lv_istore (lv' := [(4, .int 2), (3, .int r5_0), (2, .int 1), (0, .ref o_t), (1, .int x1)]) hx hb dX11_tries_22 hl (Nat.le_of_ble_eq_true rfl) rfl (fun ls hl => ?_)
    exact B24 1000 r5_1 x1 1 r5_0 2 _ _ _ hf hw (lv_sub hl [3, 4, 2, 1, 0] rfl)
  · have hf := g_t hc hf
    refine lv_bipush (v := -2) hx hb dX11_tries_10 k_bm2 ?_
    exact hret1 ((-2), f_t_byFlew) _ _ _ _ hf hw dX11_tries_12
theorem hX11_gust : yX11_gust.cls = RX11 ∧ yX11_gust.cls ≠ "java/lang/invoke/MethodHandle" ∧ yX11_gust.cls ≠ "java/lang/invoke/VarHandle" ∧ (parseMethodDescriptor yX11_gust.desc).map (fun d => d.parameters.length) = some 0 := by decide +kernel
set_option maxHeartbeats 4000000 in
set_option maxRecDepth 100000 in
theorem mX11_gust (l : Launch) (E : gE) (o_t : Nat) (a_t : (Nat → Nat)) (v_t_there : Int32) (v_t_wind : Int32) (v_t_force : Int32) (v_t_rains : Int32) (v_t_lost : Int32) (v_t_hours : Int32) (v_t_sights : Int32) (v_t_padMany : Int32) (v_t_acts : Int32) (v_t_blownMany : Int32) (v_t_badAct : Int32) (v_t_badWhy : Int32) (v_t_ruinAct : Int32) (v_t_ruinWho : Int32) (v_t_keptAt : Int32) (v_t_isWriting : Int32) (f_t_ways : (Nat → Int64)) (f_t_waysThen : (Nat → Int64)) (z_t_ways : (Nat → Int64)) (z_t_waysThen : (Nat → Int64)) (hf : fX11_gust f_t_ways f_t_waysThen = some (z_t_ways, z_t_waysThen)) {sz : Nat} : gMv l yX11_gust (gW yX11_gust cX11_gust 4 none) ({ frames := 2, cells := 0, slots := 0, locals := 49 } : Room) E [.ref o_t] (wX11_gust E o_t a_t v_t_there v_t_wind v_t_force v_t_rains v_t_lost v_t_hours v_t_sights v_t_padMany v_t_acts v_t_blownMany v_t_badAct v_t_badWhy v_t_ruinAct v_t_ruinWho v_t_keptAt v_t_isWriting f_t_ways f_t_waysThen) sz (wX11_gust E o_t a_t v_t_there v_t_wind v_t_force v_t_rains v_t_lost v_t_hours v_t_sights v_t_padMany v_t_acts v_t_blownMany v_t_badAct v_t_badWhy v_t_ruinAct v_t_ruinWho v_t_keptAt v_t_isWriting z_t_ways z_t_waysThen) := by
  refine g_openV (own := RX11) (by decide) rfl (Nat.le_of_ble_eq_true rfl) (fun p e s m args below meth cd Q A hx hb hml hown hG hK hA hret hw ls hl => ?_)
  have hl : lv_has ls 4 [(0, .ref o_t)] := hl
  have hret1 : ∀ (t : (Nat → Int64) × (Nat → Int64)) (H : Heap) (locs : List Loc) (pc : Nat) (ls : Array Slot), some t = some (z_t_ways, z_t_waysThen) → gS E A s.heap (wX11_gust E o_t a_t v_t_there v_t_wind v_t_force v_t_rains v_t_lost v_t_hours v_t_sights v_t_padMany v_t_acts v_t_blownMany v_t_badAct v_t_badWhy v_t_ruinAct v_t_ruinWho v_t_keptAt v_t_isWriting t.1 t.2) H locs → decode cX11_gust pc = .ok (.return_, 1) → W p l e ({ frames := 2, cells := 0, slots := 0, locals := 49 } : Room) s m args below meth cd H locs 0 0 Q (F0 m pc ls []) := by
    intro t H locs pc ls h hw hd
    obtain rfl : t = (z_t_ways, z_t_waysThen) := Option.some.inj h
    exact hret H locs pc ls hw hd
  have B33 : ∀ (K2 : (Nat → Int64) → (Nat → Int64) → Int32 → Option ((Nat → Int64) × (Nat → Int64))) (hK2 : ∀ (f_t_ways : (Nat → Int64)) (f_t_waysThen : (Nat → Int64)) (x1 : Int32) (H : Heap) (locs : List Loc) (ls : Array Slot), K2 f_t_ways f_t_waysThen x1 = some (z_t_ways, z_t_waysThen) → gS E A s.heap (wX11_gust E o_t a_t v_t_there v_t_wind v_t_force v_t_rains v_t_lost v_t_hours v_t_sights v_t_padMany v_t_acts v_t_blownMany v_t_badAct v_t_badWhy v_t_ruinAct v_t_ruinWho v_t_keptAt v_t_isWriting f_t_ways f_t_waysThen) H locs → lv_has ls 4 [(0, .ref o_t), (1, .int x1)] → W p l e ({ frames := 2, cells := 0, slots := 0, locals := 49 } : Room) s m args below meth cd H locs 0 0 Q (F0 m 2 ls [])), ∀ (f_t_ways : (Nat → Int64)) (f_t_waysThen : (Nat → Int64)) (x1 : Int32) (s1 : Int32) (s2 : Int64) (H : Heap) (locs : List Loc) (ls : Array Slot), fX11_gust_b33 K2 f_t_ways f_t_waysThen x1 s1 s2 = some (z_t_ways, z_t_waysThen) → gS E A s.heap (wX11_gust E o_t a_t v_t_there v_t_wind v_t_force v_t_rains v_t_lost v_t_hours v_t_sights v_t_padMany v_t_acts v_t_blownMany v_t_badAct v_t_badWhy v_t_ruinAct v_t_ruinWho v_t_keptAt v_t_isWriting f_t_ways f_t_waysThen) H locs → lv_has ls 4 [(0, .ref o_t), (1, .int x1)] → W p l e ({ frames := 2, cells := 0, slots := 0, locals := 49 } : Room) s m args below meth cd H locs 0 0 Q (F0 m 33 ls [.long s2, .int s1, .ref (a_t 31)]) := by
    intro K2 hK2 f_t_ways f_t_waysThen x1 s1 s2 H locs ls hf hw hl
    obtain ⟨hi1, hf⟩ := gA_s hf
    refine g_last (ws' := (wX11_gust E o_t a_t v_t_there v_t_wind v_t_force v_t_rains v_t_lost v_t_hours v_t_sights v_t_padMany v_t_acts v_t_blownMany v_t_badAct v_t_badWhy v_t_ruinAct v_t_ruinWho v_t_keptAt v_t_isWriting f_t_ways (vp_updL f_t_waysThen (Int32.toNatClampNeg s1) s2))) hx hb hK hw 2 rfl hi1 rfl dX11_gust_33 (fun H locs hw => ?_)
    refine lv_iinc (lv' := [(1, .int (x1 + 1)), (0, .ref o_t)]) hx hb dX11_gust_34 hl (k := 1) rfl (k_inc1 _) (Nat.le_of_ble_eq_true rfl) rfl (fun ls hl => ?_)
    refine lv_goto (tgt := 2) hx hb dX11_gust_37 (by decide) ?_
    exact hK2 f_t_ways (vp_updL f_t_waysThen (Int32.toNatClampNeg s1) s2) (x1 + 1) _ _ _ hf hw (lv_sub hl [1, 0] rfl)
  have B76 : ∀ (K50 : (Nat → Int64) → (Nat → Int64) → Int32 → Int32 → Option ((Nat → Int64) × (Nat → Int64))) (hK50 : ∀ (f_t_ways : (Nat → Int64)) (f_t_waysThen : (Nat → Int64)) (x1 : Int32) (x2 : Int32) (H : Heap) (locs : List Loc) (ls : Array Slot), K50 f_t_ways f_t_waysThen x1 x2 = some (z_t_ways, z_t_waysThen) → gS E A s.heap (wX11_gust E o_t a_t v_t_there v_t_wind v_t_force v_t_rains v_t_lost v_t_hours v_t_sights v_t_padMany v_t_acts v_t_blownMany v_t_badAct v_t_badWhy v_t_ruinAct v_t_ruinWho v_t_keptAt v_t_isWriting f_t_ways f_t_waysThen) H locs → lv_has ls 4 [(0, .ref o_t), (1, .int x1), (2, .int x2)] → W p l e ({ frames := 2, cells := 0, slots := 0, locals := 49 } : Room) s m args below meth cd H locs 0 0 Q (F0 m 50 ls [])), ∀ (f_t_ways : (Nat → Int64)) (f_t_waysThen : (Nat → Int64)) (x1 : Int32) (x2 : Int32) (s1 : Int32) (H : Heap) (locs : List Loc) (ls : Array Slot), fX11_gust_b76 K50 f_t_ways f_t_waysThen x1 x2 s1 = some (z_t_ways, z_t_waysThen) → gS E A s.heap (wX11_gust E o_t a_t v_t_there v_t_wind v_t_force v_t_rains v_t_lost v_t_hours v_t_sights v_t_padMany v_t_acts v_t_blownMany v_t_badAct v_t_badWhy v_t_ruinAct v_t_ruinWho v_t_keptAt v_t_isWriting f_t_ways f_t_waysThen) H locs → lv_has ls 4 [(0, .ref o_t), (1, .int x1), (2, .int x2)] → W p l e ({ frames := 2, cells := 0, slots := 0, locals := 49 } : Room) s m args below meth cd H locs 0 0 Q (F0 m 76 ls [.int s1, .ref (a_t 31)]) := by
    intro K50 hK50 f_t_ways f_t_waysThen x1 x2 s1 H locs ls hf hw hl
    refine lv_dup2_11 hx hb dX11_gust_76 rfl rfl ?_
    obtain ⟨hi2, hf⟩ := gA_s hf
    refine g_lald hx hb hK hw 2 rfl hi2 dX11_gust_77 ?_
    refine lv_aload_n hx hb dX11_gust_78 rfl (lv_at hl 0 rfl) ?_
    refine g_get hx hb hG hown hK hw inlX11 (ci := 9) rfl 0 30 (Nat.le_of_ble_eq_true rfl) rfl rfl wd_6_14 dX11_gust_79 ?_
    refine lv_iload_n hx hb dX11_gust_82 rfl (lv_at hl 1 rfl) ?_
    obtain ⟨hi3, hf⟩ := gA_s hf
    refine g_lald hx hb hK hw 1 rfl hi3 dX11_gust_83 ?_
    refine lv_ladd hx hb dX11_gust_84 ?_
    obtain ⟨hi4, hf⟩ := gA_s hf
    refine g_last (ws' := (wX11_gust E o_t a_t v_t_there v_t_wind v_t_force v_t_rains v_t_lost v_t_hours v_t_sights v_t_padMany v_t_acts v_t_blownMany v_t_badAct v_t_badWhy v_t_ruinAct v_t_ruinWho v_t_keptAt v_t_isWriting f_t_ways (vp_updL f_t_waysThen (Int32.toNatClampNeg s1) ((f_t_waysThen (Int32.toNatClampNeg s1)) + (f_t_ways (Int32.toNatClampNeg x1)))))) hx hb hK hw 2 rfl hi4 rfl dX11_gust_85 (fun H locs hw => ?_)
    refine lv_iinc (lv' := [(2, .int (x2 + 1)), (0, .ref o_t), (1, .int x1)]) hx hb dX11_gust_86 hl (k := 2) rfl (k_inc1 _) (Nat.le_of_ble_eq_true rfl) rfl (fun ls hl => ?_)
    refine lv_goto (tgt := 50) hx hb dX11_gust_89 (by decide) ?_
    exact hK50 f_t_ways (vp_updL f_t_waysThen (Int32.toNatClampNeg s1) ((f_t_waysThen (Int32.toNatClampNeg s1)) + (f_t_ways (Int32.toNatClampNeg x1)))) x1 (x2 + 1) _ _ _ hf hw (lv_sub hl [1, 2, 0] rfl)
  have B50 : ∀ (K42 : (Nat → Int64) → (Nat → Int64) → Int32 → Option ((Nat → Int64) × (Nat → Int64))) (hK42 : ∀ (f_t_ways : (Nat → Int64)) (f_t_waysThen : (Nat → Int64)) (x1 : Int32) (H : Heap) (locs : List Loc) (ls : Array Slot), K42 f_t_ways f_t_waysThen x1 = some (z_t_ways, z_t_waysThen) → gS E A s.heap (wX11_gust E o_t a_t v_t_there v_t_wind v_t_force v_t_rains v_t_lost v_t_hours v_t_sights v_t_padMany v_t_acts v_t_blownMany v_t_badAct v_t_badWhy v_t_ruinAct v_t_ruinWho v_t_keptAt v_t_isWriting f_t_ways f_t_waysThen) H locs → lv_has ls 4 [(0, .ref o_t), (1, .int x1)] → W p l e ({ frames := 2, cells := 0, slots := 0, locals := 49 } : Room) s m args below meth cd H locs 0 0 Q (F0 m 42 ls [])), ∀ n : Nat, ∀ (f_t_ways : (Nat → Int64)) (f_t_waysThen : (Nat → Int64)) (x1 : Int32) (x2 : Int32) (H : Heap) (locs : List Loc) (ls : Array Slot), fX11_gust_b50 K42 n f_t_ways f_t_waysThen x1 x2 = some (z_t_ways, z_t_waysThen) → gS E A s.heap (wX11_gust E o_t a_t v_t_there v_t_wind v_t_force v_t_rains v_t_lost v_t_hours v_t_sights v_t_padMany v_t_acts v_t_blownMany v_t_badAct v_t_badWhy v_t_ruinAct v_t_ruinWho v_t_keptAt v_t_isWriting f_t_ways f_t_waysThen) H locs → lv_has ls 4 [(0, .ref o_t), (1, .int x1), (2, .int x2)] → W p l e ({ frames := 2, cells := 0, slots := 0, locals := 49 } : Room) s m args below meth cd H locs 0 0 Q (F0 m 50 ls []) := by
    intro K42 hK42
    intro n
    induction n with
    | zero => intro f_t_ways f_t_waysThen x1 x2 H locs ls hf hw hl; exact g_no hf
    | succ n ih =>
      intro f_t_ways f_t_waysThen x1 x2 H locs ls hf hw hl
      refine lv_iload_n hx hb dX11_gust_50 rfl (lv_at hl 2 rfl) ?_
      refine lv_iconst (v := 4) hx hb dX11_gust_51 k_i4 ?_
      refine lv_icmp_ge (tgt := 92) hx hb dX11_gust_52 (by decide) (fun hc => ?_) (fun hc => ?_)
      · have hf := g_t hc hf
        refine lv_iinc (lv' := [(1, .int (x1 + 1)), (0, .ref o_t), (2, .int x2)]) hx hb dX11_gust_92 hl (k := 1) rfl (k_inc1 _) (Nat.le_of_ble_eq_true rfl) rfl (fun ls hl => ?_)
        refine lv_goto (tgt := 42) hx hb dX11_gust_95 (by decide) ?_
        exact hK42 f_t_ways f_t_waysThen (x1 + 1) _ _ _ hf hw (lv_sub hl [1, 0] rfl)
      · have hf := g_f hc hf
        refine lv_iload_n hx hb dX11_gust_55 rfl (lv_at hl 1 rfl) ?_
        refine lv_iload_n hx hb dX11_gust_56 rfl (lv_at hl 2 rfl) ?_
        refine lv_iconst (v := 1) hx hb dX11_gust_57 k_i1 ?_
        obtain ⟨r5, hc6, hf⟩ := gB_s hf
        refine g_ki0 (is := []) hw hA (g_rS hx hb hml hG hown hK hw (is := []) rfl (by decide) (mX11_onBy l E x1 x2 1 r5 hc6) wd_20_20 wd_20_21 wd_1_5 wd_20_22 hX11_onBy g_allgood ⟨rfl, rfl⟩ ⟨Nat.le_of_ble_eq_true rfl, Nat.le_of_ble_eq_true rfl⟩ ⟨Nat.zero_le _, Nat.zero_le _⟩ rfl hl.1 rfl (Nat.le_of_ble_eq_true rfl) dX11_gust_58) rfl (fun H locs hw => ?_)
        refine lv_istore_n (lv' := [(3, .int r5), (0, .ref o_t), (1, .int x1), (2, .int x2)]) hx hb dX11_gust_61 rfl hl (Nat.le_of_ble_eq_true rfl) rfl (fun ls hl => ?_)
        refine lv_aload_n hx hb dX11_gust_62 rfl (lv_at hl 1 rfl) ?_
        refine g_get hx hb hG hown hK hw inlX11 (ci := 9) rfl 0 31 (Nat.le_of_ble_eq_true rfl) rfl rfl wd_6_15 dX11_gust_63 ?_
        refine lv_iload_n hx hb dX11_gust_66 rfl (lv_at hl 0 rfl) ?_
        refine lv_if_ge (tgt := 75) hx hb dX11_gust_67 (by decide) (fun hc => ?_) (fun hc => ?_)
        · have hf := g_t hc hf
          refine lv_iload_n hx hb dX11_gust_75 rfl (lv_at hl 0 rfl) ?_
          exact B76 (fX11_gust_b50 K42 n) ih f_t_ways f_t_waysThen x1 x2 r5 _ _ _ hf hw (lv_sub hl [1, 2, 3] rfl)
        · have hf := g_f hc hf
          refine lv_bipush (v := 36) hx hb dX11_gust_70 k_b36 ?_
          refine lv_goto (tgt := 76) hx hb dX11_gust_72 (by decide) ?_
          exact B76 (fX11_gust_b50 K42 n) ih f_t_ways f_t_waysThen x1 x2 36 _ _ _ hf hw (lv_sub hl [1, 2, 3] rfl)
  have B100 : ∀ n : Nat, ∀ (f_t_ways : (Nat → Int64)) (f_t_waysThen : (Nat → Int64)) (x1 : Int32) (H : Heap) (locs : List Loc) (ls : Array Slot), fX11_gust_b100 n f_t_ways f_t_waysThen x1 = some (z_t_ways, z_t_waysThen) → gS E A s.heap (wX11_gust E o_t a_t v_t_there v_t_wind v_t_force v_t_rains v_t_lost v_t_hours v_t_sights v_t_padMany v_t_acts v_t_blownMany v_t_badAct v_t_badWhy v_t_ruinAct v_t_ruinWho v_t_keptAt v_t_isWriting f_t_ways f_t_waysThen) H locs → lv_has ls 4 [(0, .ref o_t), (1, .int x1)] → W p l e ({ frames := 2, cells := 0, slots := 0, locals := 49 } : Room) s m args below meth cd H locs 0 0 Q (F0 m 100 ls []) := by
    intro n
    induction n with
    | zero => intro f_t_ways f_t_waysThen x1 H locs ls hf hw hl; exact g_no hf
    | succ n ih =>
      intro f_t_ways f_t_waysThen x1 H locs ls hf hw hl
      refine lv_iload_n hx hb dX11_gust_100 rfl (lv_at hl 1 rfl) ?_
      refine lv_bipush (v := 36) hx hb dX11_gust_101 k_b36 ?_
      refine lv_icmp_gt (tgt := 124) hx hb dX11_gust_103 (by decide) (fun hc => ?_) (fun hc => ?_)
      · have hf := g_t hc hf
        exact hret1 (f_t_ways, f_t_waysThen) _ _ _ _ hf hw dX11_gust_124
      · have hf := g_f hc hf
        refine lv_aload_n hx hb dX11_gust_106 rfl (lv_at hl 0 rfl) ?_
        refine g_get hx hb hG hown hK hw inlX11 (ci := 9) rfl 0 30 (Nat.le_of_ble_eq_true rfl) rfl rfl wd_6_14 dX11_gust_107 ?_
        refine lv_iload_n hx hb dX11_gust_110 rfl (lv_at hl 1 rfl) ?_
        refine lv_aload_n hx hb dX11_gust_111 rfl (lv_at hl 0 rfl) ?_
        refine g_get hx hb hG hown hK hw inlX11 (ci := 9) rfl 0 31 (Nat.le_of_ble_eq_true rfl) rfl rfl wd_6_15 dX11_gust_112 ?_
        refine lv_iload_n hx hb dX11_gust_115 rfl (lv_at hl 1 rfl) ?_
        obtain ⟨hi7, hf⟩ := gA_s hf
        refine g_lald hx hb hK hw 2 rfl hi7 dX11_gust_116 ?_
        obtain ⟨hi8, hf⟩ := gA_s hf
        refine g_last (ws' := (wX11_gust E o_t a_t v_t_there v_t_wind v_t_force v_t_rains v_t_lost v_t_hours v_t_sights v_t_padMany v_t_acts v_t_blownMany v_t_badAct v_t_badWhy v_t_ruinAct v_t_ruinWho v_t_keptAt v_t_isWriting (vp_updL f_t_ways (Int32.toNatClampNeg x1) (f_t_waysThen (Int32.toNatClampNeg x1))) f_t_waysThen)) hx hb hK hw 1 rfl hi8 rfl dX11_gust_117 (fun H locs hw => ?_)
        refine lv_iinc (lv' := [(1, .int (x1 + 1)), (0, .ref o_t)]) hx hb dX11_gust_118 hl (k := 1) rfl (k_inc1 _) (Nat.le_of_ble_eq_true rfl) rfl (fun ls hl => ?_)
        refine lv_goto (tgt := 100) hx hb dX11_gust_121 (by decide) ?_
        exact ih (vp_updL f_t_ways (Int32.toNatClampNeg x1) (f_t_waysThen (Int32.toNatClampNeg x1))) f_t_waysThen (x1 + 1) _ _ _ hf hw (lv_sub hl [1, 0] rfl)
  have B42 : ∀ n : Nat, ∀ (f_t_ways : (Nat → Int64)) (f_t_waysThen : (Nat → Int64)) (x1 : Int32) (H : Heap) (locs : List Loc) (ls : Array Slot), fX11_gust_b42 n f_t_ways f_t_waysThen x1 = some (z_t_ways, z_t_waysThen) → gS E A s.heap (wX11_gust E o_t a_t v_t_there v_t_wind v_t_force v_t_rains v_t_lost v_t_hours v_t_sights v_t_padMany v_t_acts v_t_blownMany v_t_badAct v_t_badWhy v_t_ruinAct v_t_ruinWho v_t_keptAt v_t_isWriting f_t_ways f_t_waysThen) H locs → lv_has ls 4 [(0, .ref o_t), (1, .int x1)] → W p l e ({ frames := 2, cells := 0, slots := 0, locals := 49 } : Room) s m args below meth cd H locs 0 0 Q (F0 m 42 ls []) := by
    intro n
    induction n with
    | zero => intro f_t_ways f_t_waysThen x1 H locs ls hf hw hl; exact g_no hf
    | succ n ih =>
      intro f_t_ways f_t_waysThen x1 H locs ls hf hw hl
      refine lv_iload_n hx hb dX11_gust_42 rfl (lv_at hl 1 rfl) ?_
      refine lv_bipush (v := 36) hx hb dX11_gust_43 k_b36 ?_
      refine lv_icmp_ge (tgt := 98) hx hb dX11_gust_45 (by decide) (fun hc => ?_) (fun hc => ?_)
      · have hf := g_t hc hf
        refine lv_iconst (v := 0) hx hb dX11_gust_98 k_i0 ?_
        refine lv_istore_n (lv' := [(1, .int 0), (0, .ref o_t)]) hx hb dX11_gust_99 rfl hl (Nat.le_of_ble_eq_true rfl) rfl (fun ls hl => ?_)
        exact B100 1000 f_t_ways f_t_waysThen 0 _ _ _ hf hw (lv_sub hl [1, 0] rfl)
      · have hf := g_f hc hf
        refine lv_iconst (v := 0) hx hb dX11_gust_48 k_i0 ?_
        refine lv_istore_n (lv' := [(2, .int 0), (0, .ref o_t), (1, .int x1)]) hx hb dX11_gust_49 rfl hl (Nat.le_of_ble_eq_true rfl) rfl (fun ls hl => ?_)
        exact B50 (fX11_gust_b42 n) ih 1000 f_t_ways f_t_waysThen x1 0 _ _ _ hf hw (lv_sub hl [1, 2, 0] rfl)
  have B2 : ∀ n : Nat, ∀ (f_t_ways : (Nat → Int64)) (f_t_waysThen : (Nat → Int64)) (x1 : Int32) (H : Heap) (locs : List Loc) (ls : Array Slot), fX11_gust_b2 n f_t_ways f_t_waysThen x1 = some (z_t_ways, z_t_waysThen) → gS E A s.heap (wX11_gust E o_t a_t v_t_there v_t_wind v_t_force v_t_rains v_t_lost v_t_hours v_t_sights v_t_padMany v_t_acts v_t_blownMany v_t_badAct v_t_badWhy v_t_ruinAct v_t_ruinWho v_t_keptAt v_t_isWriting f_t_ways f_t_waysThen) H locs → lv_has ls 4 [(0, .ref o_t), (1, .int x1)] → W p l e ({ frames := 2, cells := 0, slots := 0, locals := 49 } : Room) s m args below meth cd H locs 0 0 Q (F0 m 2 ls []) := by
    intro n
    induction n with
    | zero => intro f_t_ways f_t_waysThen x1 H locs ls hf hw hl; exact g_no hf
    | succ n ih =>
      intro f_t_ways f_t_waysThen x1 H locs ls hf hw hl
      refine lv_iload_n hx hb dX11_gust_2 rfl (lv_at hl 1 rfl) ?_
      refine lv_bipush (v := 36) hx hb dX11_gust_3 k_b36 ?_
      refine lv_icmp_gt (tgt := 40) hx hb dX11_gust_5 (by decide) (fun hc => ?_) (fun hc => ?_)
      · have hf := g_t hc hf
        refine lv_iconst (v := 0) hx hb dX11_gust_40 k_i0 ?_
        refine lv_istore_n (lv' := [(1, .int 0), (0, .ref o_t)]) hx hb dX11_gust_41 rfl hl (Nat.le_of_ble_eq_true rfl) rfl (fun ls hl => ?_)
        exact B42 1000 f_t_ways f_t_waysThen 0 _ _ _ hf hw (lv_sub hl [1, 0] rfl)
      · have hf := g_f hc hf
        refine lv_aload_n hx hb dX11_gust_8 rfl (lv_at hl 0 rfl) ?_
        refine g_get hx hb hG hown hK hw inlX11 (ci := 9) rfl 0 31 (Nat.le_of_ble_eq_true rfl) rfl rfl wd_6_15 dX11_gust_9 ?_
        refine lv_iload_n hx hb dX11_gust_12 rfl (lv_at hl 1 rfl) ?_
        refine lv_iload_n hx hb dX11_gust_13 rfl (lv_at hl 1 rfl) ?_
        refine lv_bipush (v := 36) hx hb dX11_gust_14 k_b36 ?_
        refine lv_icmp_ne (tgt := 32) hx hb dX11_gust_16 (by decide) (fun hc => ?_) (fun hc => ?_)
        · have hf := g_f hc hf
          refine lv_lconst (v := 0) hx hb dX11_gust_32 k_l0 ?_
          exact B33 (fX11_gust_b2 n) ih f_t_ways f_t_waysThen x1 x1 0 _ _ _ hf hw (lv_sub hl [0, 1] rfl)
        · have hf := g_t hc hf
          refine lv_ldc2 hx hb hown (hG _ wd_34_18) dX11_gust_19 ?_
          refine lv_aload_n hx hb dX11_gust_22 rfl (lv_at hl 0 rfl) ?_
          refine g_get hx hb hG hown hK hw inlX11 (ci := 9) rfl 0 30 (Nat.le_of_ble_eq_true rfl) rfl rfl wd_6_14 dX11_gust_23 ?_
          refine lv_iload_n hx hb dX11_gust_26 rfl (lv_at hl 1 rfl) ?_
          obtain ⟨hi9, hf⟩ := gA_s hf
          refine g_lald hx hb hK hw 1 rfl hi9 dX11_gust_27 ?_
          refine lv_lmul hx hb dX11_gust_28 ?_
          refine lv_goto (tgt := 33) hx hb dX11_gust_29 (by decide) ?_
          exact B33 (fX11_gust_b2 n) ih f_t_ways f_t_waysThen x1 x1 (4 * (f_t_ways (Int32.toNatClampNeg x1))) _ _ _ hf hw (lv_sub hl [0, 1] rfl)
  refine lv_iconst (v := 0) hx hb dX11_gust_0 k_i0 ?_
  refine lv_istore_n (lv' := [(1, .int 0), (0, .ref o_t)]) hx hb dX11_gust_1 rfl hl (Nat.le_of_ble_eq_true rfl) rfl (fun ls hl => ?_)
  exact B2 1000 f_t_ways f_t_waysThen 0 _ _ _ hf hw (lv_sub hl [1, 0] rfl)
theorem hX11_lowest : yX11_lowest.cls ≠ "java/lang/invoke/MethodHandle" ∧ yX11_lowest.cls ≠ "java/lang/invoke/VarHandle" ∧ (parseMethodDescriptor yX11_lowest.desc).map (fun d => d.parameters.length) = some 3 := by decide +kernel
set_option maxHeartbeats 4000000 in
set_option maxRecDepth 100000 in
theorem mX11_lowest (l : Launch) (E : gE) (x0 : Int64) (x2 : Int64) (x4 : Int32) (rv : Int64) (hf : fX11_lowest x0 x2 x4 = some rv) {sz : Nat} : gMl l yX11_lowest (gW yX11_lowest cX11_lowest 11 (some .long)) ({ frames := 0, cells := 0, slots := 0, locals := 0 } : Room) E [.long x0, .long x2, .int x4] (wX11_lowest E) sz rv (wX11_lowest E) := by
  refine g_openL (own := RX11) (by decide) rfl (Nat.le_of_ble_eq_true rfl) (fun p e s m args below meth cd Q A hx hb hml hown hG hK hA hret hw ls hl => ?_)
  have hl : lv_has ls 11 [(0, .long x0), (2, .long x2), (4, .int x4)] := hl
  have hret1 : ∀ (t : Int64) (H : Heap) (locs : List Loc) (pc : Nat) (ls : Array Slot), some t = some rv → gS E A s.heap (wX11_lowest E) H locs → decode cX11_lowest pc = .ok (.lreturn, 1) → W p l e ({ frames := 0, cells := 0, slots := 0, locals := 0 } : Room) s m args below meth cd H locs 0 0 Q (F0 m pc ls [.long t]) := by
    intro t H locs pc ls h hw hd
    obtain rfl : t = rv := Option.some.inj h
    exact hret H locs pc ls hw hd
  have B47 : ∀ (s0 : Int64) (H : Heap) (locs : List Loc) (ls : Array Slot), fX11_lowest_b47 s0 = some rv → gS E A s.heap (wX11_lowest E) H locs → lv_has ls 11 [] → W p l e ({ frames := 0, cells := 0, slots := 0, locals := 0 } : Room) s m args below meth cd H locs 0 0 Q (F0 m 47 ls [.long s0]) := by
    intro  s0 H locs ls hf hw hl
    exact hret1 s0 _ _ _ _ hf hw dX11_lowest_47
  have B6 : ∀ n : Nat, ∀ (x0 : Int64) (x2 : Int64) (x4 : Int32) (x5 : Int64) (x7 : Int64) (H : Heap) (locs : List Loc) (ls : Array Slot), fX11_lowest_b6 n x0 x2 x4 x5 x7 = some rv → gS E A s.heap (wX11_lowest E) H locs → lv_has ls 11 [(0, .long x0), (2, .long x2), (4, .int x4), (5, .long x5), (7, .long x7)] → W p l e ({ frames := 0, cells := 0, slots := 0, locals := 0 } : Room) s m args below meth cd H locs 0 0 Q (F0 m 6 ls []) := by
    intro n
    induction n with
    | zero => intro x0 x2 x4 x5 x7 H locs ls hf hw hl; exact g_no hf
    | succ n ih =>
      intro x0 x2 x4 x5 x7 H locs ls hf hw hl
      refine lv_lload hx hb dX11_lowest_6 (lv_at hl 4 rfl) ?_
      refine lv_lconst (v := 0) hx hb dX11_lowest_8 k_l0 ?_
      refine W.lcmp hx hb dX11_lowest_9 ?_
      refine lv_if_eq (tgt := 31) hx hb dX11_lowest_10 (by decide) (fun hc => ?_) (fun hc => ?_)
      · have hf := g_t hc hf
        refine lv_iload hx hb dX11_lowest_31 (lv_at hl 2 rfl) ?_
        refine lv_if_ne (tgt := 43) hx hb dX11_lowest_33 (by decide) (fun hc => ?_) (fun hc => ?_)
        · have hf := g_f hc hf
          refine lv_lload_n hx hb dX11_lowest_43 rfl (lv_at hl 1 rfl) ?_
          refine lv_lload hx hb dX11_lowest_44 (lv_at hl 3 rfl) ?_
          obtain ⟨hd1, hf⟩ := gDl_s hf
          refine lv_ldiv hx hb dX11_lowest_46 hd1 ?_
          exact B47 (x2 / x5) _ _ _ hf hw (lv_sub hl [] rfl)
        · have hf := g_t hc hf
          refine lv_lload_n hx hb dX11_lowest_36 rfl (lv_at hl 0 rfl) ?_
          refine lv_lload hx hb dX11_lowest_37 (lv_at hl 3 rfl) ?_
          obtain ⟨hd2, hf⟩ := gDl_s hf
          refine lv_ldiv hx hb dX11_lowest_39 hd2 ?_
          refine lv_goto (tgt := 47) hx hb dX11_lowest_40 (by decide) ?_
          exact B47 (x0 / x5) _ _ _ hf hw (lv_sub hl [] rfl)
      · have hf := g_f hc hf
        refine lv_lload hx hb dX11_lowest_13 (lv_at hl 3 rfl) ?_
        refine lv_lload hx hb dX11_lowest_15 (lv_at hl 4 rfl) ?_
        obtain ⟨hd3, hf⟩ := gDl_s hf
        refine lv_lrem hx hb dX11_lowest_17 hd3 ?_
        refine lv_lstore (lv' := [(9, .long (x5 - x5 / x7 * x7)), (0, .long x0), (2, .long x2), (4, .int x4), (5, .long x5), (7, .long x7)]) hx hb dX11_lowest_18 hl (Nat.le_of_ble_eq_true rfl) rfl (fun ls hl => ?_)
        refine lv_lload hx hb dX11_lowest_20 (lv_at hl 5 rfl) ?_
        refine lv_lstore (lv' := [(5, .long x7), (9, .long (x5 - x5 / x7 * x7)), (0, .long x0), (2, .long x2), (4, .int x4), (7, .long x7)]) hx hb dX11_lowest_22 hl (Nat.le_of_ble_eq_true rfl) rfl (fun ls hl => ?_)
        refine lv_lload hx hb dX11_lowest_24 (lv_at hl 1 rfl) ?_
        refine lv_lstore (lv' := [(7, .long (x5 - x5 / x7 * x7)), (5, .long x7), (9, .long (x5 - x5 / x7 * x7)), (0, .long x0), (2, .long x2), (4, .int x4)]) hx hb dX11_lowest_26 hl (Nat.le_of_ble_eq_true rfl) rfl (fun ls hl => ?_)
        refine lv_goto (tgt := 6) hx hb dX11_lowest_28 (by decide) ?_
        exact ih x0 x2 x4 x7 (x5 - x5 / x7 * x7) _ _ _ hf hw (lv_sub hl [3, 4, 5, 1, 0] rfl)
  refine lv_lload_n hx hb dX11_lowest_0 rfl (lv_at hl 1 rfl) ?_
  refine lv_lstore (lv' := [(5, .long x2), (0, .long x0), (2, .long x2), (4, .int x4)]) hx hb dX11_lowest_1 hl (Nat.le_of_ble_eq_true rfl) rfl (fun ls hl => ?_)
  refine lv_lload_n hx hb dX11_lowest_3 rfl (lv_at hl 1 rfl) ?_
  refine lv_lstore (lv' := [(7, .long x0), (5, .long x2), (0, .long x0), (2, .long x2), (4, .int x4)]) hx hb dX11_lowest_4 hl (Nat.le_of_ble_eq_true rfl) rfl (fun ls hl => ?_)
  exact B6 1000 x0 x2 x4 x2 x0 _ _ _ hf hw (lv_sub hl [2, 3, 4, 1, 0] rfl)
theorem hX11_gusts : yX11_gusts.cls = RX11 ∧ yX11_gusts.cls ≠ "java/lang/invoke/MethodHandle" ∧ yX11_gusts.cls ≠ "java/lang/invoke/VarHandle" ∧ (parseMethodDescriptor yX11_gusts.desc).map (fun d => d.parameters.length) = some 4 := by decide +kernel
set_option maxHeartbeats 4000000 in
set_option maxRecDepth 100000 in
theorem mX11_gusts (l : Launch) (E : gE) (o_t : Nat) (a_t : (Nat → Nat)) (v_t_there : Int32) (v_t_wind : Int32) (v_t_force : Int32) (v_t_rains : Int32) (v_t_lost : Int32) (v_t_hours : Int32) (v_t_sights : Int32) (v_t_padMany : Int32) (v_t_acts : Int32) (v_t_blownMany : Int32) (v_t_badAct : Int32) (v_t_badWhy : Int32) (v_t_ruinAct : Int32) (v_t_ruinWho : Int32) (v_t_keptAt : Int32) (v_t_isWriting : Int32) (f_t_ways : (Nat → Int64)) (f_t_waysThen : (Nat → Int64)) (x1 : Int32) (x2 : Int32) (x3 : Int32) (x4 : Int32) (rv : Int64) (z_t_ways : (Nat → Int64)) (z_t_waysThen : (Nat → Int64)) (hf : fX11_gusts f_t_ways f_t_waysThen x1 x2 x3 x4 = some (rv, z_t_ways, z_t_waysThen)) {sz : Nat} : gMl l yX11_gusts (gW yX11_gusts cX11_gusts 8 (some .long)) ({ frames := 3, cells := 0, slots := 0, locals := 72 } : Room) E [.ref o_t, .int x1, .int x2, .int x3, .int x4] (wX11_gusts E o_t a_t v_t_there v_t_wind v_t_force v_t_rains v_t_lost v_t_hours v_t_sights v_t_padMany v_t_acts v_t_blownMany v_t_badAct v_t_badWhy v_t_ruinAct v_t_ruinWho v_t_keptAt v_t_isWriting f_t_ways f_t_waysThen) sz rv (wX11_gusts E o_t a_t v_t_there v_t_wind v_t_force v_t_rains v_t_lost v_t_hours v_t_sights v_t_padMany v_t_acts v_t_blownMany v_t_badAct v_t_badWhy v_t_ruinAct v_t_ruinWho v_t_keptAt v_t_isWriting z_t_ways z_t_waysThen) := by
  refine g_openL (own := RX11) (by decide) rfl (Nat.le_of_ble_eq_true rfl) (fun p e s m args below meth cd Q A hx hb hml hown hG hK hA hret hw ls hl => ?_)
  have hl : lv_has ls 8 [(0, .ref o_t), (1, .int x1), (2, .int x2), (3, .int x3), (4, .int x4)] := hl
  have hret1 : ∀ (t : Int64 × (Nat → Int64) × (Nat → Int64)) (H : Heap) (locs : List Loc) (pc : Nat) (ls : Array Slot), some t = some (rv, z_t_ways, z_t_waysThen) → gS E A s.heap (wX11_gusts E o_t a_t v_t_there v_t_wind v_t_force v_t_rains v_t_lost v_t_hours v_t_sights v_t_padMany v_t_acts v_t_blownMany v_t_badAct v_t_badWhy v_t_ruinAct v_t_ruinWho v_t_keptAt v_t_isWriting t.2.1 t.2.2) H locs → decode cX11_gusts pc = .ok (.lreturn, 1) → W p l e ({ frames := 3, cells := 0, slots := 0, locals := 72 } : Room) s m args below meth cd H locs 0 0 Q (F0 m pc ls [.long t.1]) := by
    intro t H locs pc ls h hw hd
    obtain rfl : t = (rv, z_t_ways, z_t_waysThen) := Option.some.inj h
    exact hret H locs pc ls hw hd
  have B44 : ∀ (f_t_ways : (Nat → Int64)) (f_t_waysThen : (Nat → Int64)) (H : Heap) (locs : List Loc) (ls : Array Slot), fX11_gusts_b44 f_t_ways f_t_waysThen = some (rv, z_t_ways, z_t_waysThen) → gS E A s.heap (wX11_gusts E o_t a_t v_t_there v_t_wind v_t_force v_t_rains v_t_lost v_t_hours v_t_sights v_t_padMany v_t_acts v_t_blownMany v_t_badAct v_t_badWhy v_t_ruinAct v_t_ruinWho v_t_keptAt v_t_isWriting f_t_ways f_t_waysThen) H locs → lv_has ls 8 [] → W p l e ({ frames := 3, cells := 0, slots := 0, locals := 72 } : Room) s m args below meth cd H locs 0 0 Q (F0 m 44 ls []) := by
    intro  f_t_ways f_t_waysThen H locs ls hf hw hl
    refine lv_ldc2 hx hb hown (hG _ wd_34_17) dX11_gusts_44 ?_
    exact hret1 ((-1000000000000000002), f_t_ways, f_t_waysThen) _ _ _ _ hf hw dX11_gusts_47
  have B75 : ∀ (K51 : (Nat → Int64) → (Nat → Int64) → Int32 → Int32 → Int32 → Int32 → Int32 → Option (Int64 × (Nat → Int64) × (Nat → Int64))) (hK51 : ∀ (f_t_ways : (Nat → Int64)) (f_t_waysThen : (Nat → Int64)) (x1 : Int32) (x2 : Int32) (x3 : Int32) (x4 : Int32) (x5 : Int32) (H : Heap) (locs : List Loc) (ls : Array Slot), K51 f_t_ways f_t_waysThen x1 x2 x3 x4 x5 = some (rv, z_t_ways, z_t_waysThen) → gS E A s.heap (wX11_gusts E o_t a_t v_t_there v_t_wind v_t_force v_t_rains v_t_lost v_t_hours v_t_sights v_t_padMany v_t_acts v_t_blownMany v_t_badAct v_t_badWhy v_t_ruinAct v_t_ruinWho v_t_keptAt v_t_isWriting f_t_ways f_t_waysThen) H locs → lv_has ls 8 [(0, .ref o_t), (1, .int x1), (2, .int x2), (3, .int x3), (4, .int x4), (5, .int x5)] → W p l e ({ frames := 3, cells := 0, slots := 0, locals := 72 } : Room) s m args below meth cd H locs 0 0 Q (F0 m 51 ls [])), ∀ (f_t_ways : (Nat → Int64)) (f_t_waysThen : (Nat → Int64)) (x1 : Int32) (x2 : Int32) (x3 : Int32) (x4 : Int32) (x5 : Int32) (s1 : Int32) (s2 : Int64) (H : Heap) (locs : List Loc) (ls : Array Slot), fX11_gusts_b75 K51 f_t_ways f_t_waysThen x1 x2 x3 x4 x5 s1 s2 = some (rv, z_t_ways, z_t_waysThen) → gS E A s.heap (wX11_gusts E o_t a_t v_t_there v_t_wind v_t_force v_t_rains v_t_lost v_t_hours v_t_sights v_t_padMany v_t_acts v_t_blownMany v_t_badAct v_t_badWhy v_t_ruinAct v_t_ruinWho v_t_keptAt v_t_isWriting f_t_ways f_t_waysThen) H locs → lv_has ls 8 [(0, .ref o_t), (1, .int x1), (2, .int x2), (3, .int x3), (4, .int x4), (5, .int x5)] → W p l e ({ frames := 3, cells := 0, slots := 0, locals := 72 } : Room) s m args below meth cd H locs 0 0 Q (F0 m 75 ls [.long s2, .int s1, .ref (a_t 30)]) := by
    intro K51 hK51 f_t_ways f_t_waysThen x1 x2 x3 x4 x5 s1 s2 H locs ls hf hw hl
    obtain ⟨hi1, hf⟩ := gA_s hf
    refine g_last (ws' := (wX11_gusts E o_t a_t v_t_there v_t_wind v_t_force v_t_rains v_t_lost v_t_hours v_t_sights v_t_padMany v_t_acts v_t_blownMany v_t_badAct v_t_badWhy v_t_ruinAct v_t_ruinWho v_t_keptAt v_t_isWriting (vp_updL f_t_ways (Int32.toNatClampNeg s1) s2) f_t_waysThen)) hx hb hK hw 1 rfl hi1 rfl dX11_gusts_75 (fun H locs hw => ?_)
    refine lv_iinc (lv' := [(5, .int (x5 + 1)), (0, .ref o_t), (1, .int x1), (2, .int x2), (3, .int x3), (4, .int x4)]) hx hb dX11_gusts_76 hl (k := 5) rfl (k_inc1 _) (Nat.le_of_ble_eq_true rfl) rfl (fun ls hl => ?_)
    refine lv_goto (tgt := 51) hx hb dX11_gusts_79 (by decide) ?_
    exact hK51 (vp_updL f_t_ways (Int32.toNatClampNeg s1) s2) f_t_waysThen x1 x2 x3 x4 (x5 + 1) _ _ _ hf hw (lv_sub hl [1, 2, 3, 4, 5, 0] rfl)
  have B126 : ∀ (f_t_ways : (Nat → Int64)) (f_t_waysThen : (Nat → Int64)) (x4 : Int32) (x5 : Int64) (s1 : Int32) (H : Heap) (locs : List Loc) (ls : Array Slot), fX11_gusts_b126 f_t_ways f_t_waysThen x4 x5 s1 = some (rv, z_t_ways, z_t_waysThen) → gS E A s.heap (wX11_gusts E o_t a_t v_t_there v_t_wind v_t_force v_t_rains v_t_lost v_t_hours v_t_sights v_t_padMany v_t_acts v_t_blownMany v_t_badAct v_t_badWhy v_t_ruinAct v_t_ruinWho v_t_keptAt v_t_isWriting f_t_ways f_t_waysThen) H locs → lv_has ls 8 [(4, .int x4), (5, .long x5)] → W p l e ({ frames := 3, cells := 0, slots := 0, locals := 72 } : Room) s m args below meth cd H locs 0 0 Q (F0 m 126 ls [.int s1, .ref (a_t 30)]) := by
    intro  f_t_ways f_t_waysThen x4 x5 s1 H locs ls hf hw hl
    obtain ⟨hi2, hf⟩ := gA_s hf
    refine g_lald hx hb hK hw 1 rfl hi2 dX11_gusts_126 ?_
    refine lv_lload hx hb dX11_gusts_127 (lv_at hl 1 rfl) ?_
    refine lv_iload hx hb dX11_gusts_129 (lv_at hl 0 rfl) ?_
    obtain ⟨r3, hc4, hf⟩ := gB_s hf
    refine g_kl0 (is := []) hw hA (g_rS hx hb hml hG hown hK hw (is := []) rfl (by decide) (mX11_lowest l E (f_t_ways (Int32.toNatClampNeg s1)) x5 x4 r3 hc4) wd_34_23 wd_35_0 wd_1_5 wd_35_1 hX11_lowest g_allgood ⟨rfl, rfl⟩ ⟨Nat.le_of_ble_eq_true rfl, Nat.le_of_ble_eq_true rfl⟩ ⟨Nat.zero_le _, Nat.zero_le _⟩ rfl hl.1 rfl (Nat.le_of_ble_eq_true rfl) dX11_gusts_131) rfl (fun H locs hw => ?_)
    exact hret1 (r3, f_t_ways, f_t_waysThen) _ _ _ _ hf hw dX11_gusts_134
  have B88 : ∀ n : Nat, ∀ (f_t_ways : (Nat → Int64)) (f_t_waysThen : (Nat → Int64)) (x2 : Int32) (x3 : Int32) (x4 : Int32) (x5 : Int64) (x7 : Int32) (H : Heap) (locs : List Loc) (ls : Array Slot), fX11_gusts_b88 n f_t_ways f_t_waysThen x2 x3 x4 x5 x7 = some (rv, z_t_ways, z_t_waysThen) → gS E A s.heap (wX11_gusts E o_t a_t v_t_there v_t_wind v_t_force v_t_rains v_t_lost v_t_hours v_t_sights v_t_padMany v_t_acts v_t_blownMany v_t_badAct v_t_badWhy v_t_ruinAct v_t_ruinWho v_t_keptAt v_t_isWriting f_t_ways f_t_waysThen) H locs → lv_has ls 8 [(0, .ref o_t), (2, .int x2), (3, .int x3), (4, .int x4), (5, .long x5), (7, .int x7)] → W p l e ({ frames := 3, cells := 0, slots := 0, locals := 72 } : Room) s m args below meth cd H locs 0 0 Q (F0 m 88 ls []) := by
    intro n
    induction n with
    | zero => intro f_t_ways f_t_waysThen x2 x3 x4 x5 x7 H locs ls hf hw hl; exact g_no hf
    | succ n ih =>
      intro f_t_ways f_t_waysThen x2 x3 x4 x5 x7 H locs ls hf hw hl
      refine lv_iload hx hb dX11_gusts_88 (lv_at hl 5 rfl) ?_
      refine lv_iload_n hx hb dX11_gusts_90 rfl (lv_at hl 2 rfl) ?_
      refine lv_icmp_ge (tgt := 112) hx hb dX11_gusts_91 (by decide) (fun hc => ?_) (fun hc => ?_)
      · have hf := g_t hc hf
        refine lv_aload_n hx hb dX11_gusts_112 rfl (lv_at hl 0 rfl) ?_
        refine g_get hx hb hG hown hK hw inlX11 (ci := 9) rfl 0 30 (Nat.le_of_ble_eq_true rfl) rfl rfl wd_6_14 dX11_gusts_113 ?_
        refine lv_iload_n hx hb dX11_gusts_116 rfl (lv_at hl 1 rfl) ?_
        refine lv_if_ge (tgt := 125) hx hb dX11_gusts_117 (by decide) (fun hc => ?_) (fun hc => ?_)
        · have hf := g_t hc hf
          refine lv_iload_n hx hb dX11_gusts_125 rfl (lv_at hl 1 rfl) ?_
          exact B126 f_t_ways f_t_waysThen x4 x5 x2 _ _ _ hf hw (lv_sub hl [3, 4] rfl)
        · have hf := g_f hc hf
          refine lv_bipush (v := 36) hx hb dX11_gusts_120 k_b36 ?_
          refine lv_goto (tgt := 126) hx hb dX11_gusts_122 (by decide) ?_
          exact B126 f_t_ways f_t_waysThen x4 x5 36 _ _ _ hf hw (lv_sub hl [3, 4] rfl)
      · have hf := g_f hc hf
        refine lv_aload_n hx hb dX11_gusts_94 rfl (lv_at hl 0 rfl) ?_
        obtain ⟨⟨r5_0, r5_1⟩, hc6, hf⟩ := gB_s hf
        refine g_kv (is := [0, 1, 2]) (isR := []) (nW := 3) (w1 := (wX11_gust E o_t a_t v_t_there v_t_wind v_t_force v_t_rains v_t_lost v_t_hours v_t_sights v_t_padMany v_t_acts v_t_blownMany v_t_badAct v_t_badWhy v_t_ruinAct v_t_ruinWho v_t_keptAt v_t_isWriting r5_0 r5_1)) (ws' := (wX11_gusts E o_t a_t v_t_there v_t_wind v_t_force v_t_rains v_t_lost v_t_hours v_t_sights v_t_padMany v_t_acts v_t_blownMany v_t_badAct v_t_badWhy v_t_ruinAct v_t_ruinWho v_t_keptAt v_t_isWriting r5_0 r5_1)) hw hA (g_rV hx hb hml hG hown hK hw (is := [0, 1, 2]) rfl (by decide) (mX11_gust l E o_t a_t v_t_there v_t_wind v_t_force v_t_rains v_t_lost v_t_hours v_t_sights v_t_padMany v_t_acts v_t_blownMany v_t_badAct v_t_badWhy v_t_ruinAct v_t_ruinWho v_t_keptAt v_t_isWriting f_t_ways f_t_waysThen r5_0 r5_1 hc6) wd_34_19 wd_34_20 wd_34_21 wd_1_5 wd_34_22 hX11_gust g_allgood ⟨rfl, rfl⟩ ⟨Nat.le_of_ble_eq_true rfl, Nat.le_of_ble_eq_true rfl⟩ ⟨Nat.zero_le _, Nat.zero_le _⟩ (ci := 9) (q0 := 0) rfl rfl rfl rfl hl.1 rfl (Nat.le_of_ble_eq_true rfl) dX11_gusts_95) rfl (g_had [o_t, (a_t 30), (a_t 31)] rfl rfl) rfl (trivial) rfl rfl (by decide) (fun H locs hw => ?_)
        refine lv_lload hx hb dX11_gusts_98 (lv_at hl 4 rfl) ?_
        refine lv_ldc2 hx hb hown (hG _ wd_34_18) dX11_gusts_100 ?_
        refine lv_lmul hx hb dX11_gusts_103 ?_
        refine lv_lstore (lv' := [(5, .long (x5 * 4)), (0, .ref o_t), (2, .int x2), (3, .int x3), (4, .int x4), (7, .int x7)]) hx hb dX11_gusts_104 hl (Nat.le_of_ble_eq_true rfl) rfl (fun ls hl => ?_)
        refine lv_iinc (lv' := [(7, .int (x7 + 1)), (5, .long (x5 * 4)), (0, .ref o_t), (2, .int x2), (3, .int x3), (4, .int x4)]) hx hb dX11_gusts_106 hl (k := 5) rfl (k_inc1 _) (Nat.le_of_ble_eq_true rfl) rfl (fun ls hl => ?_)
        refine lv_goto (tgt := 88) hx hb dX11_gusts_109 (by decide) ?_
        exact ih r5_0 r5_1 x2 x3 x4 (x5 * 4) (x7 + 1) _ _ _ hf hw (lv_sub hl [2, 3, 4, 5, 1, 0] rfl)
  have B51 : ∀ n : Nat, ∀ (f_t_ways : (Nat → Int64)) (f_t_waysThen : (Nat → Int64)) (x1 : Int32) (x2 : Int32) (x3 : Int32) (x4 : Int32) (x5 : Int32) (H : Heap) (locs : List Loc) (ls : Array Slot), fX11_gusts_b51 n f_t_ways f_t_waysThen x1 x2 x3 x4 x5 = some (rv, z_t_ways, z_t_waysThen) → gS E A s.heap (wX11_gusts E o_t a_t v_t_there v_t_wind v_t_force v_t_rains v_t_lost v_t_hours v_t_sights v_t_padMany v_t_acts v_t_blownMany v_t_badAct v_t_badWhy v_t_ruinAct v_t_ruinWho v_t_keptAt v_t_isWriting f_t_ways f_t_waysThen) H locs → lv_has ls 8 [(0, .ref o_t), (1, .int x1), (2, .int x2), (3, .int x3), (4, .int x4), (5, .int x5)] → W p l e ({ frames := 3, cells := 0, slots := 0, locals := 72 } : Room) s m args below meth cd H locs 0 0 Q (F0 m 51 ls []) := by
    intro n
    induction n with
    | zero => intro f_t_ways f_t_waysThen x1 x2 x3 x4 x5 H locs ls hf hw hl; exact g_no hf
    | succ n ih =>
      intro f_t_ways f_t_waysThen x1 x2 x3 x4 x5 H locs ls hf hw hl
      refine lv_iload hx hb dX11_gusts_51 (lv_at hl 5 rfl) ?_
      refine lv_bipush (v := 36) hx hb dX11_gusts_53 k_b36 ?_
      refine lv_icmp_gt (tgt := 82) hx hb dX11_gusts_55 (by decide) (fun hc => ?_) (fun hc => ?_)
      · have hf := g_t hc hf
        refine lv_lconst (v := 1) hx hb dX11_gusts_82 k_l1 ?_
        refine lv_lstore (lv' := [(5, .long 1), (0, .ref o_t), (1, .int x1), (2, .int x2), (3, .int x3), (4, .int x4)]) hx hb dX11_gusts_83 hl (Nat.le_of_ble_eq_true rfl) rfl (fun ls hl => ?_)
        refine lv_iconst (v := 0) hx hb dX11_gusts_85 k_i0 ?_
        refine lv_istore (lv' := [(7, .int 0), (5, .long 1), (0, .ref o_t), (1, .int x1), (2, .int x2), (3, .int x3), (4, .int x4)]) hx hb dX11_gusts_86 hl (Nat.le_of_ble_eq_true rfl) rfl (fun ls hl => ?_)
        exact B88 1000 f_t_ways f_t_waysThen x2 x3 x4 1 0 _ _ _ hf hw (lv_sub hl [2, 4, 5, 6, 1, 0] rfl)
      · have hf := g_f hc hf
        refine lv_aload_n hx hb dX11_gusts_58 rfl (lv_at hl 0 rfl) ?_
        refine g_get hx hb hG hown hK hw inlX11 (ci := 9) rfl 0 30 (Nat.le_of_ble_eq_true rfl) rfl rfl wd_6_14 dX11_gusts_59 ?_
        refine lv_iload hx hb dX11_gusts_62 (lv_at hl 5 rfl) ?_
        refine lv_iload hx hb dX11_gusts_64 (lv_at hl 5 rfl) ?_
        refine lv_iload_n hx hb dX11_gusts_66 rfl (lv_at hl 1 rfl) ?_
        refine lv_icmp_ne (tgt := 74) hx hb dX11_gusts_67 (by decide) (fun hc => ?_) (fun hc => ?_)
        · have hf := g_f hc hf
          refine lv_lconst (v := 0) hx hb dX11_gusts_74 k_l0 ?_
          exact B75 (fX11_gusts_b51 n) ih f_t_ways f_t_waysThen x1 x2 x3 x4 x5 x5 0 _ _ _ hf hw (lv_sub hl [0, 1, 2, 3, 4, 5] rfl)
        · have hf := g_t hc hf
          refine lv_lconst (v := 1) hx hb dX11_gusts_70 k_l1 ?_
          refine lv_goto (tgt := 75) hx hb dX11_gusts_71 (by decide) ?_
          exact B75 (fX11_gusts_b51 n) ih f_t_ways f_t_waysThen x1 x2 x3 x4 x5 x5 1 _ _ _ hf hw (lv_sub hl [0, 1, 2, 3, 4, 5] rfl)
  refine lv_iload_n hx hb dX11_gusts_0 rfl (lv_at hl 1 rfl) ?_
  obtain ⟨r7, hc8, hf⟩ := gB_s hf
  refine g_ki0 (is := []) hw hA (g_rS hx hb hml hG hown hK hw (is := []) rfl (by decide) (mX11_isField l E x1 r7 hc8) wd_8_13 wd_8_14 wd_1_5 wd_8_15 hX11_isField g_allgood ⟨rfl, rfl⟩ ⟨Nat.le_of_ble_eq_true rfl, Nat.le_of_ble_eq_true rfl⟩ ⟨Nat.zero_le _, Nat.zero_le _⟩ rfl hl.1 rfl (Nat.le_of_ble_eq_true rfl) dX11_gusts_1) rfl (fun H locs hw => ?_)
  refine lv_if_eq (tgt := 44) hx hb dX11_gusts_4 (by decide) (fun hc => ?_) (fun hc => ?_)
  · have hf := g_t hc hf
    exact B44 f_t_ways f_t_waysThen _ _ _ hf hw (lv_sub hl [] rfl)
  · have hf := g_f hc hf
    refine lv_iload_n hx hb dX11_gusts_7 rfl (lv_at hl 2 rfl) ?_
    refine lv_i2l hx hb dX11_gusts_8 rfl ?_
    refine lv_ldc2 hx hb hown (hG _ wd_34_16) dX11_gusts_9 ?_
    refine lv_ldc2 hx hb hown (hG _ wd_8_16) dX11_gusts_12 ?_
    obtain ⟨r9, hc10, hf⟩ := gB_s hf
    refine g_ki0 (is := []) hw hA (g_rS hx hb hml hG hown hK hw (is := []) rfl (by decide) (mX11_in l E (Int32.toInt64 x2) (-1) 35 r9 hc10) wd_8_10 wd_8_11 wd_1_5 wd_8_12 hX11_in g_allgood ⟨rfl, rfl⟩ ⟨Nat.le_of_ble_eq_true rfl, Nat.le_of_ble_eq_true rfl⟩ ⟨Nat.zero_le _, Nat.zero_le _⟩ rfl hl.1 rfl (Nat.le_of_ble_eq_true rfl) dX11_gusts_15) rfl (fun H locs hw => ?_)
    refine lv_if_eq (tgt := 44) hx hb dX11_gusts_18 (by decide) (fun hc => ?_) (fun hc => ?_)
    · have hf := g_t hc hf
      exact B44 f_t_ways f_t_waysThen _ _ _ hf hw (lv_sub hl [] rfl)
    · have hf := g_f hc hf
      refine lv_iload_n hx hb dX11_gusts_21 rfl (lv_at hl 3 rfl) ?_
      refine lv_i2l hx hb dX11_gusts_22 rfl ?_
      refine lv_lconst (v := 0) hx hb dX11_gusts_23 k_l0 ?_
      refine lv_ldc2 hx hb hown (hG _ wd_8_6) dX11_gusts_24 ?_
      obtain ⟨r11, hc12, hf⟩ := gB_s hf
      refine g_ki0 (is := []) hw hA (g_rS hx hb hml hG hown hK hw (is := []) rfl (by decide) (mX11_in l E (Int32.toInt64 x3) 0 5 r11 hc12) wd_8_10 wd_8_11 wd_1_5 wd_8_12 hX11_in g_allgood ⟨rfl, rfl⟩ ⟨Nat.le_of_ble_eq_true rfl, Nat.le_of_ble_eq_true rfl⟩ ⟨Nat.zero_le _, Nat.zero_le _⟩ rfl hl.1 rfl (Nat.le_of_ble_eq_true rfl) dX11_gusts_27) rfl (fun H locs hw => ?_)
      refine lv_if_eq (tgt := 44) hx hb dX11_gusts_30 (by decide) (fun hc => ?_) (fun hc => ?_)
      · have hf := g_t hc hf
        exact B44 f_t_ways f_t_waysThen _ _ _ hf hw (lv_sub hl [] rfl)
      · have hf := g_f hc hf
        refine lv_iload hx hb dX11_gusts_33 (lv_at hl 4 rfl) ?_
        refine lv_i2l hx hb dX11_gusts_35 rfl ?_
        refine lv_lconst (v := 0) hx hb dX11_gusts_36 k_l0 ?_
        refine lv_lconst (v := 1) hx hb dX11_gusts_37 k_l1 ?_
        obtain ⟨r13, hc14, hf⟩ := gB_s hf
        refine g_ki0 (is := []) hw hA (g_rS hx hb hml hG hown hK hw (is := []) rfl (by decide) (mX11_in l E (Int32.toInt64 x4) 0 1 r13 hc14) wd_8_10 wd_8_11 wd_1_5 wd_8_12 hX11_in g_allgood ⟨rfl, rfl⟩ ⟨Nat.le_of_ble_eq_true rfl, Nat.le_of_ble_eq_true rfl⟩ ⟨Nat.zero_le _, Nat.zero_le _⟩ rfl hl.1 rfl (Nat.le_of_ble_eq_true rfl) dX11_gusts_38) rfl (fun H locs hw => ?_)
        refine lv_if_ne (tgt := 48) hx hb dX11_gusts_41 (by decide) (fun hc => ?_) (fun hc => ?_)
        · have hf := g_f hc hf
          refine lv_iconst (v := 0) hx hb dX11_gusts_48 k_i0 ?_
          refine lv_istore (lv' := [(5, .int 0), (0, .ref o_t), (1, .int x1), (2, .int x2), (3, .int x3), (4, .int x4)]) hx hb dX11_gusts_49 hl (Nat.le_of_ble_eq_true rfl) rfl (fun ls hl => ?_)
          exact B51 1000 f_t_ways f_t_waysThen x1 x2 x3 x4 0 _ _ _ hf hw (lv_sub hl [1, 2, 3, 4, 5, 0] rfl)
        · have hf := g_t hc hf
          exact B44 f_t_ways f_t_waysThen _ _ _ hf hw (lv_sub hl [] rfl)
theorem hX11_lovers : yX11_lovers.cls = RX11 ∧ yX11_lovers.cls ≠ "java/lang/invoke/MethodHandle" ∧ yX11_lovers.cls ≠ "java/lang/invoke/VarHandle" ∧ (parseMethodDescriptor yX11_lovers.desc).map (fun d => d.parameters.length) = some 3 := by decide +kernel
set_option maxHeartbeats 4000000 in
set_option maxRecDepth 100000 in
theorem mX11_lovers (l : Launch) (E : gE) (o_t : Nat) (a_t : (Nat → Nat)) (v_t_there : Int32) (v_t_wind : Int32) (v_t_force : Int32) (v_t_rains : Int32) (v_t_lost : Int32) (v_t_hours : Int32) (v_t_sights : Int32) (v_t_padMany : Int32) (v_t_acts : Int32) (v_t_blownMany : Int32) (v_t_badAct : Int32) (v_t_badWhy : Int32) (v_t_ruinAct : Int32) (v_t_ruinWho : Int32) (v_t_keptAt : Int32) (v_t_isWriting : Int32) (x1 : Int32) (x2 : Int32) (x3 : Int32) (rv : Int32) (hf : fX11_lovers x1 x2 x3 = some rv) {sz : Nat} : gMi l yX11_lovers (gW yX11_lovers cX11_lovers 5 (some .int)) ({ frames := 1, cells := 0, slots := 0, locals := 25 } : Room) E [.ref o_t, .int x1, .int x2, .int x3] (wX11_lovers E o_t a_t v_t_there v_t_wind v_t_force v_t_rains v_t_lost v_t_hours v_t_sights v_t_padMany v_t_acts v_t_blownMany v_t_badAct v_t_badWhy v_t_ruinAct v_t_ruinWho v_t_keptAt v_t_isWriting) sz rv (wX11_lovers E o_t a_t v_t_there v_t_wind v_t_force v_t_rains v_t_lost v_t_hours v_t_sights v_t_padMany v_t_acts v_t_blownMany v_t_badAct v_t_badWhy v_t_ruinAct v_t_ruinWho v_t_keptAt v_t_isWriting) := by
  refine g_openI (own := RX11) (by decide) rfl (Nat.le_of_ble_eq_true rfl) (fun p e s m args below meth cd Q A hx hb hml hown hG hK hA hret hw ls hl => ?_)
  have hl : lv_has ls 5 [(0, .ref o_t), (1, .int x1), (2, .int x2), (3, .int x3)] := hl
  have hret1 : ∀ (t : Int32) (H : Heap) (locs : List Loc) (pc : Nat) (ls : Array Slot), some t = some rv → gS E A s.heap (wX11_lovers E o_t a_t v_t_there v_t_wind v_t_force v_t_rains v_t_lost v_t_hours v_t_sights v_t_padMany v_t_acts v_t_blownMany v_t_badAct v_t_badWhy v_t_ruinAct v_t_ruinWho v_t_keptAt v_t_isWriting) H locs → decode cX11_lovers pc = .ok (.ireturn, 1) → W p l e ({ frames := 1, cells := 0, slots := 0, locals := 25 } : Room) s m args below meth cd H locs 0 0 Q (F0 m pc ls [.int t]) := by
    intro t H locs pc ls h hw hd
    obtain rfl : t = rv := Option.some.inj h
    exact hret H locs pc ls hw hd
  have B34 : ∀ (H : Heap) (locs : List Loc) (ls : Array Slot), fX11_lovers_b34 = some rv → gS E A s.heap (wX11_lovers E o_t a_t v_t_there v_t_wind v_t_force v_t_rains v_t_lost v_t_hours v_t_sights v_t_padMany v_t_acts v_t_blownMany v_t_badAct v_t_badWhy v_t_ruinAct v_t_ruinWho v_t_keptAt v_t_isWriting) H locs → lv_has ls 5 [] → W p l e ({ frames := 1, cells := 0, slots := 0, locals := 25 } : Room) s m args below meth cd H locs 0 0 Q (F0 m 34 ls []) := by
    intro   H locs ls hf hw hl
    refine lv_bipush (v := -2) hx hb dX11_lovers_34 k_bm2 ?_
    exact hret1 (-2) _ _ _ _ hf hw dX11_lovers_36
  have B73 : ∀ (s0 : Int32) (H : Heap) (locs : List Loc) (ls : Array Slot), fX11_lovers_b73 s0 = some rv → gS E A s.heap (wX11_lovers E o_t a_t v_t_there v_t_wind v_t_force v_t_rains v_t_lost v_t_hours v_t_sights v_t_padMany v_t_acts v_t_blownMany v_t_badAct v_t_badWhy v_t_ruinAct v_t_ruinWho v_t_keptAt v_t_isWriting) H locs → lv_has ls 5 [] → W p l e ({ frames := 1, cells := 0, slots := 0, locals := 25 } : Room) s m args below meth cd H locs 0 0 Q (F0 m 73 ls [.int s0]) := by
    intro  s0 H locs ls hf hw hl
    exact hret1 s0 _ _ _ _ hf hw dX11_lovers_73
  refine lv_iload_n hx hb dX11_lovers_0 rfl (lv_at hl 1 rfl) ?_
  refine lv_i2l hx hb dX11_lovers_1 rfl ?_
  refine lv_lconst (v := 0) hx hb dX11_lovers_2 k_l0 ?_
  refine lv_ldc2 hx hb hown (hG _ wd_35_10) dX11_lovers_3 ?_
  obtain ⟨r1, hc2, hf⟩ := gB_s hf
  refine g_ki0 (is := []) hw hA (g_rS hx hb hml hG hown hK hw (is := []) rfl (by decide) (mX11_in l E (Int32.toInt64 x1) 0 99 r1 hc2) wd_8_10 wd_8_11 wd_1_5 wd_8_12 hX11_in g_allgood ⟨rfl, rfl⟩ ⟨Nat.le_of_ble_eq_true rfl, Nat.le_of_ble_eq_true rfl⟩ ⟨Nat.zero_le _, Nat.zero_le _⟩ rfl hl.1 rfl (Nat.le_of_ble_eq_true rfl) dX11_lovers_6) rfl (fun H locs hw => ?_)
  refine lv_if_eq (tgt := 34) hx hb dX11_lovers_9 (by decide) (fun hc => ?_) (fun hc => ?_)
  · have hf := g_t hc hf
    exact B34 _ _ _ hf hw (lv_sub hl [] rfl)
  · have hf := g_f hc hf
    refine lv_iload_n hx hb dX11_lovers_12 rfl (lv_at hl 2 rfl) ?_
    refine lv_i2l hx hb dX11_lovers_13 rfl ?_
    refine lv_lconst (v := 1) hx hb dX11_lovers_14 k_l1 ?_
    refine lv_ldc2 hx hb hown (hG _ wd_8_8) dX11_lovers_15 ?_
    obtain ⟨r3, hc4, hf⟩ := gB_s hf
    refine g_ki0 (is := []) hw hA (g_rS hx hb hml hG hown hK hw (is := []) rfl (by decide) (mX11_in l E (Int32.toInt64 x2) 1 9 r3 hc4) wd_8_10 wd_8_11 wd_1_5 wd_8_12 hX11_in g_allgood ⟨rfl, rfl⟩ ⟨Nat.le_of_ble_eq_true rfl, Nat.le_of_ble_eq_true rfl⟩ ⟨Nat.zero_le _, Nat.zero_le _⟩ rfl hl.1 rfl (Nat.le_of_ble_eq_true rfl) dX11_lovers_18) rfl (fun H locs hw => ?_)
    refine lv_if_eq (tgt := 34) hx hb dX11_lovers_21 (by decide) (fun hc => ?_) (fun hc => ?_)
    · have hf := g_t hc hf
      exact B34 _ _ _ hf hw (lv_sub hl [] rfl)
    · have hf := g_f hc hf
      refine lv_iload_n hx hb dX11_lovers_24 rfl (lv_at hl 3 rfl) ?_
      refine lv_i2l hx hb dX11_lovers_25 rfl ?_
      refine lv_lconst (v := 0) hx hb dX11_lovers_26 k_l0 ?_
      refine lv_lconst (v := 1) hx hb dX11_lovers_27 k_l1 ?_
      obtain ⟨r5, hc6, hf⟩ := gB_s hf
      refine g_ki0 (is := []) hw hA (g_rS hx hb hml hG hown hK hw (is := []) rfl (by decide) (mX11_in l E (Int32.toInt64 x3) 0 1 r5 hc6) wd_8_10 wd_8_11 wd_1_5 wd_8_12 hX11_in g_allgood ⟨rfl, rfl⟩ ⟨Nat.le_of_ble_eq_true rfl, Nat.le_of_ble_eq_true rfl⟩ ⟨Nat.zero_le _, Nat.zero_le _⟩ rfl hl.1 rfl (Nat.le_of_ble_eq_true rfl) dX11_lovers_28) rfl (fun H locs hw => ?_)
      refine lv_if_ne (tgt := 37) hx hb dX11_lovers_31 (by decide) (fun hc => ?_) (fun hc => ?_)
      · have hf := g_f hc hf
        refine lv_iload_n hx hb dX11_lovers_37 rfl (lv_at hl 1 rfl) ?_
        refine lv_iload_n hx hb dX11_lovers_38 rfl (lv_at hl 2 rfl) ?_
        refine lv_iconst (v := 1) hx hb dX11_lovers_39 k_i1 ?_
        refine lv_iadd hx hb dX11_lovers_40 ?_
        obtain ⟨hd7, hf⟩ := gD_s hf
        refine g_irem hx hb dX11_lovers_41 hd7 ?_
        refine lv_istore (lv' := [(4, .int (x1 % (x2 + 1))), (0, .ref o_t), (1, .int x1), (2, .int x2), (3, .int x3)]) hx hb dX11_lovers_42 hl (Nat.le_of_ble_eq_true rfl) rfl (fun ls hl => ?_)
        refine lv_iload_n hx hb dX11_lovers_44 rfl (lv_at hl 4 rfl) ?_
        refine lv_if_ne (tgt := 61) hx hb dX11_lovers_45 (by decide) (fun hc => ?_) (fun hc => ?_)
        · have hf := g_f hc hf
          refine lv_iload hx hb dX11_lovers_61 (lv_at hl 0 rfl) ?_
          refine lv_if_le (tgt := 71) hx hb dX11_lovers_63 (by decide) (fun hc => ?_) (fun hc => ?_)
          · have hf := g_t hc hf
            refine lv_bipush (v := -6) hx hb dX11_lovers_71 k_bm6 ?_
            exact B73 (-6) _ _ _ hf hw (lv_sub hl [] rfl)
          · have hf := g_f hc hf
            refine lv_iload hx hb dX11_lovers_66 (lv_at hl 0 rfl) ?_
            refine lv_goto (tgt := 73) hx hb dX11_lovers_68 (by decide) ?_
            exact B73 (x1 % (x2 + 1)) _ _ _ hf hw (lv_sub hl [] rfl)
        · have hf := g_t hc hf
          refine lv_iload hx hb dX11_lovers_48 (lv_at hl 0 rfl) ?_
          refine lv_if_le (tgt := 57) hx hb dX11_lovers_50 (by decide) (fun hc => ?_) (fun hc => ?_)
          · have hf := g_t hc hf
            refine lv_iconst (v := 0) hx hb dX11_lovers_57 k_i0 ?_
            refine lv_goto (tgt := 73) hx hb dX11_lovers_58 (by decide) ?_
            exact B73 0 _ _ _ hf hw (lv_sub hl [] rfl)
          · have hf := g_f hc hf
            refine lv_iconst (v := 1) hx hb dX11_lovers_53 k_i1 ?_
            refine lv_goto (tgt := 73) hx hb dX11_lovers_54 (by decide) ?_
            exact B73 1 _ _ _ hf hw (lv_sub hl [] rfl)
      · have hf := g_t hc hf
        exact B34 _ _ _ hf hw (lv_sub hl [] rfl)
theorem hX11_actBy : yX11_actBy.cls ≠ "java/lang/invoke/MethodHandle" ∧ yX11_actBy.cls ≠ "java/lang/invoke/VarHandle" ∧ (parseMethodDescriptor yX11_actBy.desc).map (fun d => d.parameters.length) = some 1 := by decide +kernel
set_option maxHeartbeats 4000000 in
set_option maxRecDepth 100000 in
theorem mX11_actBy (l : Launch) (E : gE) (x0 : Int32) (rv : Int32) (hf : fX11_actBy x0 = some rv) {sz : Nat} : gMi l yX11_actBy (gW yX11_actBy cX11_actBy 1 (some .int)) ({ frames := 0, cells := 0, slots := 0, locals := 0 } : Room) E [.int x0] (wX11_actBy E) sz rv (wX11_actBy E) := by
  refine g_openI (own := RX11) (by decide) rfl (Nat.le_of_ble_eq_true rfl) (fun p e s m args below meth cd Q A hx hb hml hown hG hK hA hret hw ls hl => ?_)
  have hl : lv_has ls 1 [(0, .int x0)] := hl
  have hret1 : ∀ (t : Int32) (H : Heap) (locs : List Loc) (pc : Nat) (ls : Array Slot), some t = some rv → gS E A s.heap (wX11_actBy E) H locs → decode cX11_actBy pc = .ok (.ireturn, 1) → W p l e ({ frames := 0, cells := 0, slots := 0, locals := 0 } : Room) s m args below meth cd H locs 0 0 Q (F0 m pc ls [.int t]) := by
    intro t H locs pc ls h hw hd
    obtain rfl : t = rv := Option.some.inj h
    exact hret H locs pc ls hw hd
  have B48 : ∀ (s0 : Int32) (H : Heap) (locs : List Loc) (ls : Array Slot), fX11_actBy_b48 s0 = some rv → gS E A s.heap (wX11_actBy E) H locs → lv_has ls 1 [] → W p l e ({ frames := 0, cells := 0, slots := 0, locals := 0 } : Room) s m args below meth cd H locs 0 0 Q (F0 m 48 ls [.int s0]) := by
    intro  s0 H locs ls hf hw hl
    exact hret1 s0 _ _ _ _ hf hw dX11_actBy_48
  refine lv_iload_n hx hb dX11_actBy_0 rfl (lv_at hl 0 rfl) ?_
  refine lv_iconst (v := 3) hx hb dX11_actBy_1 k_i3 ?_
  refine lv_icmp_ge (tgt := 9) hx hb dX11_actBy_2 (by decide) (fun hc => ?_) (fun hc => ?_)
  · have hf := g_t hc hf
    refine lv_iload_n hx hb dX11_actBy_9 rfl (lv_at hl 0 rfl) ?_
    refine lv_iconst (v := 3) hx hb dX11_actBy_10 k_i3 ?_
    refine lv_icmp_ne (tgt := 18) hx hb dX11_actBy_11 (by decide) (fun hc => ?_) (fun hc => ?_)
    · have hf := g_f hc hf
      refine lv_iload_n hx hb dX11_actBy_18 rfl (lv_at hl 0 rfl) ?_
      refine lv_iconst (v := 4) hx hb dX11_actBy_19 k_i4 ?_
      refine lv_icmp_ne (tgt := 27) hx hb dX11_actBy_20 (by decide) (fun hc => ?_) (fun hc => ?_)
      · have hf := g_f hc hf
        refine lv_iload_n hx hb dX11_actBy_27 rfl (lv_at hl 0 rfl) ?_
        refine lv_iconst (v := 5) hx hb dX11_actBy_28 k_i5 ?_
        refine lv_icmp_ne (tgt := 36) hx hb dX11_actBy_29 (by decide) (fun hc => ?_) (fun hc => ?_)
        · have hf := g_f hc hf
          refine lv_iload_n hx hb dX11_actBy_36 rfl (lv_at hl 0 rfl) ?_
          refine lv_bipush (v := 6) hx hb dX11_actBy_37 k_b6 ?_
          refine lv_icmp_ne (tgt := 46) hx hb dX11_actBy_39 (by decide) (fun hc => ?_) (fun hc => ?_)
          · have hf := g_f hc hf
            refine lv_bipush (v := 6) hx hb dX11_actBy_46 k_b6 ?_
            exact B48 6 _ _ _ hf hw (lv_sub hl [] rfl)
          · have hf := g_t hc hf
            refine lv_iconst (v := 5) hx hb dX11_actBy_42 k_i5 ?_
            refine lv_goto (tgt := 48) hx hb dX11_actBy_43 (by decide) ?_
            exact B48 5 _ _ _ hf hw (lv_sub hl [] rfl)
        · have hf := g_t hc hf
          refine lv_iconst (v := 3) hx hb dX11_actBy_32 k_i3 ?_
          refine lv_goto (tgt := 48) hx hb dX11_actBy_33 (by decide) ?_
          exact B48 3 _ _ _ hf hw (lv_sub hl [] rfl)
      · have hf := g_t hc hf
        refine lv_iconst (v := 1) hx hb dX11_actBy_23 k_i1 ?_
        refine lv_goto (tgt := 48) hx hb dX11_actBy_24 (by decide) ?_
        exact B48 1 _ _ _ hf hw (lv_sub hl [] rfl)
    · have hf := g_t hc hf
      refine lv_iconst (v := 2) hx hb dX11_actBy_14 k_i2 ?_
      refine lv_goto (tgt := 48) hx hb dX11_actBy_15 (by decide) ?_
      exact B48 2 _ _ _ hf hw (lv_sub hl [] rfl)
  · have hf := g_f hc hf
    refine lv_iconst (v := 0) hx hb dX11_actBy_5 k_i0 ?_
    refine lv_goto (tgt := 48) hx hb dX11_actBy_6 (by decide) ?_
    exact B48 0 _ _ _ hf hw (lv_sub hl [] rfl)
theorem hX11_year : yX11_year.cls = RX11 ∧ yX11_year.cls ≠ "java/lang/invoke/MethodHandle" ∧ yX11_year.cls ≠ "java/lang/invoke/VarHandle" ∧ (parseMethodDescriptor yX11_year.desc).map (fun d => d.parameters.length) = some 3 := by decide +kernel
set_option maxHeartbeats 4000000 in
set_option maxRecDepth 100000 in
theorem mX11_year (l : Launch) (E : gE) (o_t : Nat) (a_t : (Nat → Nat)) (v_t_there : Int32) (v_t_wind : Int32) (v_t_force : Int32) (v_t_rains : Int32) (v_t_lost : Int32) (v_t_hours : Int32) (v_t_sights : Int32) (v_t_padMany : Int32) (v_t_acts : Int32) (v_t_blownMany : Int32) (v_t_badAct : Int32) (v_t_badWhy : Int32) (v_t_ruinAct : Int32) (v_t_ruinWho : Int32) (v_t_keptAt : Int32) (v_t_isWriting : Int32) (f_t_at : (Nat → Int32)) (f_t_stem : (Nat → Int32)) (f_t_lungs : (Nat → Int32)) (f_t_blown : (Nat → Int32)) (f_t_heap : (Nat → Int32)) (f_t_had : (Nat → Int32)) (x1 : Int32) (x2 : Int32) (x3 : Int32) (rv : Int32) (z_t_wind : Int32) (z_t_force : Int32) (z_t_rains : Int32) (z_t_lost : Int32) (z_t_hours : Int32) (z_t_blownMany : Int32) (z_t_stem : (Nat → Int32)) (z_t_blown : (Nat → Int32)) (z_t_heap : (Nat → Int32)) (z_t_had : (Nat → Int32)) (hf : fX11_year v_t_there v_t_wind v_t_force v_t_rains v_t_lost v_t_hours v_t_blownMany f_t_at f_t_stem f_t_lungs f_t_blown f_t_heap f_t_had x1 x2 x3 = some (rv, z_t_wind, z_t_force, z_t_rains, z_t_lost, z_t_hours, z_t_blownMany, z_t_stem, z_t_blown, z_t_heap, z_t_had)) {sz : Nat} : gMi l yX11_year (gW yX11_year cX11_year 9 (some .int)) ({ frames := 6, cells := 0, slots := 0, locals := 139 } : Room) E [.ref o_t, .int x1, .int x2, .int x3] (wX11_year E o_t a_t v_t_there v_t_wind v_t_force v_t_rains v_t_lost v_t_hours v_t_sights v_t_padMany v_t_acts v_t_blownMany v_t_badAct v_t_badWhy v_t_ruinAct v_t_ruinWho v_t_keptAt v_t_isWriting f_t_at f_t_stem f_t_lungs f_t_blown f_t_heap f_t_had) sz rv (wX11_year E o_t a_t v_t_there z_t_wind z_t_force z_t_rains z_t_lost z_t_hours v_t_sights v_t_padMany v_t_acts z_t_blownMany v_t_badAct v_t_badWhy v_t_ruinAct v_t_ruinWho v_t_keptAt v_t_isWriting f_t_at z_t_stem f_t_lungs z_t_blown z_t_heap z_t_had) := by
  refine g_openI (own := RX11) (by decide) rfl (Nat.le_of_ble_eq_true rfl) (fun p e s m args below meth cd Q A hx hb hml hown hG hK hA hret hw ls hl => ?_)
  have hl : lv_has ls 9 [(0, .ref o_t), (1, .int x1), (2, .int x2), (3, .int x3)] := hl
  have hret1 : ∀ (t : Int32 × Int32 × Int32 × Int32 × Int32 × Int32 × Int32 × (Nat → Int32) × (Nat → Int32) × (Nat → Int32) × (Nat → Int32)) (H : Heap) (locs : List Loc) (pc : Nat) (ls : Array Slot), some t = some (rv, z_t_wind, z_t_force, z_t_rains, z_t_lost, z_t_hours, z_t_blownMany, z_t_stem, z_t_blown, z_t_heap, z_t_had) → gS E A s.heap (wX11_year E o_t a_t v_t_there t.2.1 t.2.2.1 t.2.2.2.1 t.2.2.2.2.1 t.2.2.2.2.2.1 v_t_sights v_t_padMany v_t_acts t.2.2.2.2.2.2.1 v_t_badAct v_t_badWhy v_t_ruinAct v_t_ruinWho v_t_keptAt v_t_isWriting f_t_at t.2.2.2.2.2.2.2.1 f_t_lungs t.2.2.2.2.2.2.2.2.1 t.2.2.2.2.2.2.2.2.2.1 t.2.2.2.2.2.2.2.2.2.2) H locs → decode cX11_year pc = .ok (.ireturn, 1) → W p l e ({ frames := 6, cells := 0, slots := 0, locals := 139 } : Room) s m args below meth cd H locs 0 0 Q (F0 m pc ls [.int t.1]) := by
    intro t H locs pc ls h hw hd
    obtain rfl : t = (rv, z_t_wind, z_t_force, z_t_rains, z_t_lost, z_t_hours, z_t_blownMany, z_t_stem, z_t_blown, z_t_heap, z_t_had) := Option.some.inj h
    exact hret H locs pc ls hw hd
  have B36 : ∀ (v_t_wind : Int32) (v_t_force : Int32) (v_t_rains : Int32) (v_t_lost : Int32) (v_t_hours : Int32) (v_t_blownMany : Int32) (f_t_stem : (Nat → Int32)) (f_t_blown : (Nat → Int32)) (f_t_heap : (Nat → Int32)) (f_t_had : (Nat → Int32)) (H : Heap) (locs : List Loc) (ls : Array Slot), fX11_year_b36 v_t_wind v_t_force v_t_rains v_t_lost v_t_hours v_t_blownMany f_t_stem f_t_blown f_t_heap f_t_had = some (rv, z_t_wind, z_t_force, z_t_rains, z_t_lost, z_t_hours, z_t_blownMany, z_t_stem, z_t_blown, z_t_heap, z_t_had) → gS E A s.heap (wX11_year E o_t a_t v_t_there v_t_wind v_t_force v_t_rains v_t_lost v_t_hours v_t_sights v_t_padMany v_t_acts v_t_blownMany v_t_badAct v_t_badWhy v_t_ruinAct v_t_ruinWho v_t_keptAt v_t_isWriting f_t_at f_t_stem f_t_lungs f_t_blown f_t_heap f_t_had) H locs → lv_has ls 9 [] → W p l e ({ frames := 6, cells := 0, slots := 0, locals := 139 } : Room) s m args below meth cd H locs 0 0 Q (F0 m 36 ls []) := by
    intro  v_t_wind v_t_force v_t_rains v_t_lost v_t_hours v_t_blownMany f_t_stem f_t_blown f_t_heap f_t_had H locs ls hf hw hl
    refine lv_bipush (v := -2) hx hb dX11_year_36 k_bm2 ?_
    exact hret1 ((-2), v_t_wind, v_t_force, v_t_rains, v_t_lost, v_t_hours, v_t_blownMany, f_t_stem, f_t_blown, f_t_heap, f_t_had) _ _ _ _ hf hw dX11_year_38
  have B167 : ∀ (K54 : Int32 → Int32 → Int32 → Int32 → Int32 → Int32 → (Nat → Int32) → (Nat → Int32) → (Nat → Int32) → (Nat → Int32) → Int32 → Int32 → Int32 → Int32 → Option (Int32 × Int32 × Int32 × Int32 × Int32 × Int32 × Int32 × (Nat → Int32) × (Nat → Int32) × (Nat → Int32) × (Nat → Int32))) (hK54 : ∀ (v_t_wind : Int32) (v_t_force : Int32) (v_t_rains : Int32) (v_t_lost : Int32) (v_t_hours : Int32) (v_t_blownMany : Int32) (f_t_stem : (Nat → Int32)) (f_t_blown : (Nat → Int32)) (f_t_heap : (Nat → Int32)) (f_t_had : (Nat → Int32)) (x2 : Int32) (x3 : Int32) (x4 : Int32) (x5 : Int32) (H : Heap) (locs : List Loc) (ls : Array Slot), K54 v_t_wind v_t_force v_t_rains v_t_lost v_t_hours v_t_blownMany f_t_stem f_t_blown f_t_heap f_t_had x2 x3 x4 x5 = some (rv, z_t_wind, z_t_force, z_t_rains, z_t_lost, z_t_hours, z_t_blownMany, z_t_stem, z_t_blown, z_t_heap, z_t_had) → gS E A s.heap (wX11_year E o_t a_t v_t_there v_t_wind v_t_force v_t_rains v_t_lost v_t_hours v_t_sights v_t_padMany v_t_acts v_t_blownMany v_t_badAct v_t_badWhy v_t_ruinAct v_t_ruinWho v_t_keptAt v_t_isWriting f_t_at f_t_stem f_t_lungs f_t_blown f_t_heap f_t_had) H locs → lv_has ls 9 [(0, .ref o_t), (2, .int x2), (3, .int x3), (4, .int x4), (5, .int x5)] → W p l e ({ frames := 6, cells := 0, slots := 0, locals := 139 } : Room) s m args below meth cd H locs 0 0 Q (F0 m 54 ls [])), ∀ (v_t_wind : Int32) (v_t_force : Int32) (v_t_rains : Int32) (v_t_lost : Int32) (v_t_hours : Int32) (v_t_blownMany : Int32) (f_t_stem : (Nat → Int32)) (f_t_blown : (Nat → Int32)) (f_t_heap : (Nat → Int32)) (f_t_had : (Nat → Int32)) (x2 : Int32) (x3 : Int32) (x4 : Int32) (x5 : Int32) (H : Heap) (locs : List Loc) (ls : Array Slot), fX11_year_b167 K54 v_t_there f_t_at f_t_lungs v_t_wind v_t_force v_t_rains v_t_lost v_t_hours v_t_blownMany f_t_stem f_t_blown f_t_heap f_t_had x2 x3 x4 x5 = some (rv, z_t_wind, z_t_force, z_t_rains, z_t_lost, z_t_hours, z_t_blownMany, z_t_stem, z_t_blown, z_t_heap, z_t_had) → gS E A s.heap (wX11_year E o_t a_t v_t_there v_t_wind v_t_force v_t_rains v_t_lost v_t_hours v_t_sights v_t_padMany v_t_acts v_t_blownMany v_t_badAct v_t_badWhy v_t_ruinAct v_t_ruinWho v_t_keptAt v_t_isWriting f_t_at f_t_stem f_t_lungs f_t_blown f_t_heap f_t_had) H locs → lv_has ls 9 [(0, .ref o_t), (2, .int x2), (3, .int x3), (4, .int x4), (5, .int x5)] → W p l e ({ frames := 6, cells := 0, slots := 0, locals := 139 } : Room) s m args below meth cd H locs 0 0 Q (F0 m 167 ls []) := by
    intro K54 hK54 v_t_wind v_t_force v_t_rains v_t_lost v_t_hours v_t_blownMany f_t_stem f_t_blown f_t_heap f_t_had x2 x3 x4 x5 H locs ls hf hw hl
    refine lv_iinc (lv' := [(5, .int (x5 + 1)), (0, .ref o_t), (2, .int x2), (3, .int x3), (4, .int x4)]) hx hb dX11_year_167 hl (k := 4) rfl (k_inc1 _) (Nat.le_of_ble_eq_true rfl) rfl (fun ls hl => ?_)
    refine lv_goto (tgt := 54) hx hb dX11_year_170 (by decide) ?_
    exact hK54 v_t_wind v_t_force v_t_rains v_t_lost v_t_hours v_t_blownMany f_t_stem f_t_blown f_t_heap f_t_had x2 x3 x4 (x5 + 1) _ _ _ hf hw (lv_sub hl [1, 2, 3, 4, 0] rfl)
  have B142 : ∀ (K54 : Int32 → Int32 → Int32 → Int32 → Int32 → Int32 → (Nat → Int32) → (Nat → Int32) → (Nat → Int32) → (Nat → Int32) → Int32 → Int32 → Int32 → Int32 → Option (Int32 × Int32 × Int32 × Int32 × Int32 × Int32 × Int32 × (Nat → Int32) × (Nat → Int32) × (Nat → Int32) × (Nat → Int32))) (hK54 : ∀ (v_t_wind : Int32) (v_t_force : Int32) (v_t_rains : Int32) (v_t_lost : Int32) (v_t_hours : Int32) (v_t_blownMany : Int32) (f_t_stem : (Nat → Int32)) (f_t_blown : (Nat → Int32)) (f_t_heap : (Nat → Int32)) (f_t_had : (Nat → Int32)) (x2 : Int32) (x3 : Int32) (x4 : Int32) (x5 : Int32) (H : Heap) (locs : List Loc) (ls : Array Slot), K54 v_t_wind v_t_force v_t_rains v_t_lost v_t_hours v_t_blownMany f_t_stem f_t_blown f_t_heap f_t_had x2 x3 x4 x5 = some (rv, z_t_wind, z_t_force, z_t_rains, z_t_lost, z_t_hours, z_t_blownMany, z_t_stem, z_t_blown, z_t_heap, z_t_had) → gS E A s.heap (wX11_year E o_t a_t v_t_there v_t_wind v_t_force v_t_rains v_t_lost v_t_hours v_t_sights v_t_padMany v_t_acts v_t_blownMany v_t_badAct v_t_badWhy v_t_ruinAct v_t_ruinWho v_t_keptAt v_t_isWriting f_t_at f_t_stem f_t_lungs f_t_blown f_t_heap f_t_had) H locs → lv_has ls 9 [(0, .ref o_t), (2, .int x2), (3, .int x3), (4, .int x4), (5, .int x5)] → W p l e ({ frames := 6, cells := 0, slots := 0, locals := 139 } : Room) s m args below meth cd H locs 0 0 Q (F0 m 54 ls [])), ∀ (v_t_wind : Int32) (v_t_force : Int32) (v_t_rains : Int32) (v_t_lost : Int32) (v_t_hours : Int32) (v_t_blownMany : Int32) (f_t_stem : (Nat → Int32)) (f_t_blown : (Nat → Int32)) (f_t_heap : (Nat → Int32)) (f_t_had : (Nat → Int32)) (x2 : Int32) (x3 : Int32) (x4 : Int32) (x5 : Int32) (x6 : Int32) (x7 : Int32) (s0 : Int32) (H : Heap) (locs : List Loc) (ls : Array Slot), fX11_year_b142 K54 v_t_there f_t_at f_t_lungs v_t_wind v_t_force v_t_rains v_t_lost v_t_hours v_t_blownMany f_t_stem f_t_blown f_t_heap f_t_had x2 x3 x4 x5 x6 x7 s0 = some (rv, z_t_wind, z_t_force, z_t_rains, z_t_lost, z_t_hours, z_t_blownMany, z_t_stem, z_t_blown, z_t_heap, z_t_had) → gS E A s.heap (wX11_year E o_t a_t v_t_there v_t_wind v_t_force v_t_rains v_t_lost v_t_hours v_t_sights v_t_padMany v_t_acts v_t_blownMany v_t_badAct v_t_badWhy v_t_ruinAct v_t_ruinWho v_t_keptAt v_t_isWriting f_t_at f_t_stem f_t_lungs f_t_blown f_t_heap f_t_had) H locs → lv_has ls 9 [(0, .ref o_t), (2, .int x2), (3, .int x3), (4, .int x4), (5, .int x5), (6, .int x6), (7, .int x7)] → W p l e ({ frames := 6, cells := 0, slots := 0, locals := 139 } : Room) s m args below meth cd H locs 0 0 Q (F0 m 142 ls [.int s0]) := by
    intro K54 hK54 v_t_wind v_t_force v_t_rains v_t_lost v_t_hours v_t_blownMany f_t_stem f_t_blown f_t_heap f_t_had x2 x3 x4 x5 x6 x7 s0 H locs ls hf hw hl
    refine lv_istore (lv' := [(8, .int s0), (0, .ref o_t), (2, .int x2), (3, .int x3), (4, .int x4), (5, .int x5), (6, .int x6), (7, .int x7)]) hx hb dX11_year_142 hl (Nat.le_of_ble_eq_true rfl) rfl (fun ls hl => ?_)
    refine lv_aload_n hx hb dX11_year_144 rfl (lv_at hl 1 rfl) ?_
    refine lv_iload hx hb dX11_year_145 (lv_at hl 6 rfl) ?_
    refine lv_iload hx hb dX11_year_147 (lv_at hl 7 rfl) ?_
    refine lv_iload hx hb dX11_year_149 (lv_at hl 0 rfl) ?_
    obtain ⟨r1, hc2, hf⟩ := gB_s hf
    refine g_ki0 (is := [0, 1, 2, 3, 4, 5]) hw hA (g_rV hx hb hml hG hown hK hw (is := [0, 1, 2, 3, 4, 5]) rfl (by decide) (mX11_whyNot l E o_t a_t v_t_there v_t_wind v_t_force v_t_rains v_t_lost v_t_hours v_t_sights v_t_padMany v_t_acts v_t_blownMany v_t_badAct v_t_badWhy v_t_ruinAct v_t_ruinWho v_t_keptAt v_t_isWriting f_t_at f_t_stem f_t_lungs f_t_blown f_t_heap x6 x7 s0 r1 hc2) wd_19_20 wd_19_21 wd_19_22 wd_1_5 wd_19_23 hX11_whyNot g_allgood ⟨rfl, rfl⟩ ⟨Nat.le_of_ble_eq_true rfl, Nat.le_of_ble_eq_true rfl⟩ ⟨Nat.zero_le _, Nat.zero_le _⟩ (ci := 9) (q0 := 0) rfl rfl rfl rfl hl.1 rfl (Nat.le_of_ble_eq_true rfl) dX11_year_151) rfl (fun H locs hw => ?_)
    refine lv_if_ne (tgt := 167) hx hb dX11_year_154 (by decide) (fun hc => ?_) (fun hc => ?_)
    · have hf := g_f hc hf
      exact B167 K54 hK54 v_t_wind v_t_force v_t_rains v_t_lost v_t_hours v_t_blownMany f_t_stem f_t_blown f_t_heap f_t_had x2 x3 x4 x5 _ _ _ hf hw (lv_sub hl [1, 2, 3, 4, 5] rfl)
    · have hf := g_t hc hf
      refine lv_aload_n hx hb dX11_year_157 rfl (lv_at hl 1 rfl) ?_
      refine lv_iload hx hb dX11_year_158 (lv_at hl 6 rfl) ?_
      refine lv_iload hx hb dX11_year_160 (lv_at hl 7 rfl) ?_
      refine lv_iload hx hb dX11_year_162 (lv_at hl 0 rfl) ?_
      obtain ⟨⟨r3_0, r3_1, r3_2, r3_3, r3_4, r3_5, r3_6, r3_7, r3_8⟩, hc4, hf⟩ := gB_s hf
      refine g_kv (is := [0, 1, 2, 4, 5]) (isR := [3, 6]) (nW := 7) (w1 := (wX11_happen E o_t a_t v_t_there r3_0 r3_1 r3_2 r3_3 r3_4 v_t_sights v_t_padMany v_t_acts r3_5 v_t_badAct v_t_badWhy v_t_ruinAct v_t_ruinWho v_t_keptAt v_t_isWriting f_t_at r3_6 r3_7 r3_8)) (ws' := (wX11_year E o_t a_t v_t_there r3_0 r3_1 r3_2 r3_3 r3_4 v_t_sights v_t_padMany v_t_acts r3_5 v_t_badAct v_t_badWhy v_t_ruinAct v_t_ruinWho v_t_keptAt v_t_isWriting f_t_at r3_6 f_t_lungs r3_7 r3_8 f_t_had)) hw hA (g_rV hx hb hml hG hown hK hw (is := [0, 1, 2, 4, 5]) rfl (by decide) (mX11_happen l E o_t a_t v_t_there v_t_wind v_t_force v_t_rains v_t_lost v_t_hours v_t_sights v_t_padMany v_t_acts v_t_blownMany v_t_badAct v_t_badWhy v_t_ruinAct v_t_ruinWho v_t_keptAt v_t_isWriting f_t_at f_t_stem f_t_blown f_t_heap x6 x7 s0 r3_0 r3_1 r3_2 r3_3 r3_4 r3_5 r3_6 r3_7 r3_8 hc4) wd_20_12 wd_20_13 wd_20_14 wd_1_5 wd_20_15 hX11_happen g_allgood ⟨rfl, rfl⟩ ⟨Nat.le_of_ble_eq_true rfl, Nat.le_of_ble_eq_true rfl⟩ ⟨Nat.zero_le _, Nat.zero_le _⟩ (ci := 9) (q0 := 0) rfl rfl rfl rfl hl.1 rfl (Nat.le_of_ble_eq_true rfl) dX11_year_164) rfl (g_had [o_t, (a_t 1), (a_t 2), (a_t 4), (a_t 5)] rfl rfl) rfl (⟨⟨_, rfl, rfl⟩, ⟨⟨_, rfl, rfl⟩, trivial⟩⟩) rfl rfl (by decide) (fun H locs hw => ?_)
      exact B167 K54 hK54 r3_0 r3_1 r3_2 r3_3 r3_4 r3_5 r3_6 r3_7 r3_8 f_t_had x2 x3 x4 x5 _ _ _ hf hw (lv_sub hl [1, 2, 3, 4, 5] rfl)
  have B112 : ∀ (K54 : Int32 → Int32 → Int32 → Int32 → Int32 → Int32 → (Nat → Int32) → (Nat → Int32) → (Nat → Int32) → (Nat → Int32) → Int32 → Int32 → Int32 → Int32 → Option (Int32 × Int32 × Int32 × Int32 × Int32 × Int32 × Int32 × (Nat → Int32) × (Nat → Int32) × (Nat → Int32) × (Nat → Int32))) (hK54 : ∀ (v_t_wind : Int32) (v_t_force : Int32) (v_t_rains : Int32) (v_t_lost : Int32) (v_t_hours : Int32) (v_t_blownMany : Int32) (f_t_stem : (Nat → Int32)) (f_t_blown : (Nat → Int32)) (f_t_heap : (Nat → Int32)) (f_t_had : (Nat → Int32)) (x2 : Int32) (x3 : Int32) (x4 : Int32) (x5 : Int32) (H : Heap) (locs : List Loc) (ls : Array Slot), K54 v_t_wind v_t_force v_t_rains v_t_lost v_t_hours v_t_blownMany f_t_stem f_t_blown f_t_heap f_t_had x2 x3 x4 x5 = some (rv, z_t_wind, z_t_force, z_t_rains, z_t_lost, z_t_hours, z_t_blownMany, z_t_stem, z_t_blown, z_t_heap, z_t_had) → gS E A s.heap (wX11_year E o_t a_t v_t_there v_t_wind v_t_force v_t_rains v_t_lost v_t_hours v_t_sights v_t_padMany v_t_acts v_t_blownMany v_t_badAct v_t_badWhy v_t_ruinAct v_t_ruinWho v_t_keptAt v_t_isWriting f_t_at f_t_stem f_t_lungs f_t_blown f_t_heap f_t_had) H locs → lv_has ls 9 [(0, .ref o_t), (2, .int x2), (3, .int x3), (4, .int x4), (5, .int x5)] → W p l e ({ frames := 6, cells := 0, slots := 0, locals := 139 } : Room) s m args below meth cd H locs 0 0 Q (F0 m 54 ls [])), ∀ (v_t_wind : Int32) (v_t_force : Int32) (v_t_rains : Int32) (v_t_lost : Int32) (v_t_hours : Int32) (v_t_blownMany : Int32) (f_t_stem : (Nat → Int32)) (f_t_blown : (Nat → Int32)) (f_t_heap : (Nat → Int32)) (f_t_had : (Nat → Int32)) (x2 : Int32) (x3 : Int32) (x4 : Int32) (x5 : Int32) (x6 : Int32) (s0 : Int32) (H : Heap) (locs : List Loc) (ls : Array Slot), fX11_year_b112 K54 v_t_there f_t_at f_t_lungs v_t_wind v_t_force v_t_rains v_t_lost v_t_hours v_t_blownMany f_t_stem f_t_blown f_t_heap f_t_had x2 x3 x4 x5 x6 s0 = some (rv, z_t_wind, z_t_force, z_t_rains, z_t_lost, z_t_hours, z_t_blownMany, z_t_stem, z_t_blown, z_t_heap, z_t_had) → gS E A s.heap (wX11_year E o_t a_t v_t_there v_t_wind v_t_force v_t_rains v_t_lost v_t_hours v_t_sights v_t_padMany v_t_acts v_t_blownMany v_t_badAct v_t_badWhy v_t_ruinAct v_t_ruinWho v_t_keptAt v_t_isWriting f_t_at f_t_stem f_t_lungs f_t_blown f_t_heap f_t_had) H locs → lv_has ls 9 [(0, .ref o_t), (2, .int x2), (3, .int x3), (4, .int x4), (5, .int x5), (6, .int x6)] → W p l e ({ frames := 6, cells := 0, slots := 0, locals := 139 } : Room) s m args below meth cd H locs 0 0 Q (F0 m 112 ls [.int s0]) := by
    intro K54 hK54 v_t_wind v_t_force v_t_rains v_t_lost v_t_hours v_t_blownMany f_t_stem f_t_blown f_t_heap f_t_had x2 x3 x4 x5 x6 s0 H locs ls hf hw hl
    refine lv_istore (lv' := [(7, .int s0), (0, .ref o_t), (2, .int x2), (3, .int x3), (4, .int x4), (5, .int x5), (6, .int x6)]) hx hb dX11_year_112 hl (Nat.le_of_ble_eq_true rfl) rfl (fun ls hl => ?_)
    refine lv_iload hx hb dX11_year_114 (lv_at hl 6 rfl) ?_
    refine lv_iconst (v := 3) hx hb dX11_year_116 k_i3 ?_
    refine lv_icmp_ne (tgt := 132) hx hb dX11_year_117 (by decide) (fun hc => ?_) (fun hc => ?_)
    · have hf := g_f hc hf
      refine lv_iconst (v := 1) hx hb dX11_year_132 k_i1 ?_
      refine lv_iload hx hb dX11_year_133 (lv_at hl 4 rfl) ?_
      refine lv_bipush (v := 48) hx hb dX11_year_135 k_b48 ?_
      refine lv_idiv hx hb dX11_year_137 (by decide) ?_
      refine lv_bipush (v := 9) hx hb dX11_year_138 k_b9 ?_
      refine g_irem hx hb dX11_year_140 (by decide) ?_
      refine lv_iadd hx hb dX11_year_141 ?_
      exact B142 K54 hK54 v_t_wind v_t_force v_t_rains v_t_lost v_t_hours v_t_blownMany f_t_stem f_t_blown f_t_heap f_t_had x2 x3 x4 x5 x6 s0 (1 + ((x4 / 48) % 9)) _ _ _ hf hw (lv_sub hl [1, 2, 3, 4, 5, 6, 0] rfl)
    · have hf := g_t hc hf
      refine lv_iload hx hb dX11_year_120 (lv_at hl 4 rfl) ?_
      refine lv_sipush (v := 192) hx hb dX11_year_122 k_s192 ?_
      refine lv_idiv hx hb dX11_year_125 (by decide) ?_
      refine lv_bipush (v := 6) hx hb dX11_year_126 k_b6 ?_
      refine g_irem hx hb dX11_year_128 (by decide) ?_
      refine lv_goto (tgt := 142) hx hb dX11_year_129 (by decide) ?_
      exact B142 K54 hK54 v_t_wind v_t_force v_t_rains v_t_lost v_t_hours v_t_blownMany f_t_stem f_t_blown f_t_heap f_t_had x2 x3 x4 x5 x6 s0 ((x4 / 192) % 6) _ _ _ hf hw (lv_sub hl [1, 2, 3, 4, 5, 6, 0] rfl)
  have B200 : ∀ (v_t_wind : Int32) (v_t_force : Int32) (v_t_rains : Int32) (v_t_lost : Int32) (v_t_hours : Int32) (v_t_blownMany : Int32) (f_t_stem : (Nat → Int32)) (f_t_blown : (Nat → Int32)) (f_t_heap : (Nat → Int32)) (f_t_had : (Nat → Int32)) (s0 : Int32) (H : Heap) (locs : List Loc) (ls : Array Slot), fX11_year_b200 v_t_wind v_t_force v_t_rains v_t_lost v_t_hours v_t_blownMany f_t_stem f_t_blown f_t_heap f_t_had s0 = some (rv, z_t_wind, z_t_force, z_t_rains, z_t_lost, z_t_hours, z_t_blownMany, z_t_stem, z_t_blown, z_t_heap, z_t_had) → gS E A s.heap (wX11_year E o_t a_t v_t_there v_t_wind v_t_force v_t_rains v_t_lost v_t_hours v_t_sights v_t_padMany v_t_acts v_t_blownMany v_t_badAct v_t_badWhy v_t_ruinAct v_t_ruinWho v_t_keptAt v_t_isWriting f_t_at f_t_stem f_t_lungs f_t_blown f_t_heap f_t_had) H locs → lv_has ls 9 [(0, .ref o_t)] → W p l e ({ frames := 6, cells := 0, slots := 0, locals := 139 } : Room) s m args below meth cd H locs 0 0 Q (F0 m 200 ls [.int s0]) := by
    intro  v_t_wind v_t_force v_t_rains v_t_lost v_t_hours v_t_blownMany f_t_stem f_t_blown f_t_heap f_t_had s0 H locs ls hf hw hl
    refine lv_istore (lv' := [(5, .int s0), (0, .ref o_t)]) hx hb dX11_year_200 hl (Nat.le_of_ble_eq_true rfl) rfl (fun ls hl => ?_)
    refine lv_aload_n hx hb dX11_year_202 rfl (lv_at hl 1 rfl) ?_
    refine lv_iload hx hb dX11_year_203 (lv_at hl 0 rfl) ?_
    obtain ⟨⟨r5_0, r5_1, r5_2, r5_3, r5_4, r5_5, r5_6, r5_7, r5_8⟩, hc6, hf⟩ := gB_s hf
    refine g_ki (is := [0, 2, 4, 5, 6]) (isR := [1, 3]) (nW := 7) (w1 := (wX11_back E o_t a_t v_t_there r5_1 r5_2 r5_3 r5_4 r5_5 v_t_sights v_t_padMany v_t_acts v_t_blownMany v_t_badAct v_t_badWhy v_t_ruinAct v_t_ruinWho v_t_keptAt v_t_isWriting r5_6 r5_7 r5_8 f_t_had)) (ws' := (wX11_year E o_t a_t v_t_there r5_1 r5_2 r5_3 r5_4 r5_5 v_t_sights v_t_padMany v_t_acts v_t_blownMany v_t_badAct v_t_badWhy v_t_ruinAct v_t_ruinWho v_t_keptAt v_t_isWriting f_t_at r5_6 f_t_lungs r5_7 r5_8 f_t_had)) hw hA (g_rV hx hb hml hG hown hK hw (is := [0, 2, 4, 5, 6]) rfl (by decide) (mX11_back l E o_t a_t v_t_there v_t_wind v_t_force v_t_rains v_t_lost v_t_hours v_t_sights v_t_padMany v_t_acts v_t_blownMany v_t_badAct v_t_badWhy v_t_ruinAct v_t_ruinWho v_t_keptAt v_t_isWriting f_t_stem f_t_blown f_t_heap f_t_had s0 r5_0 r5_1 r5_2 r5_3 r5_4 r5_5 r5_6 r5_7 r5_8 hc6) wd_22_0 wd_22_1 wd_22_2 wd_1_5 wd_22_3 hX11_back g_allgood ⟨rfl, rfl⟩ ⟨Nat.le_of_ble_eq_true rfl, Nat.le_of_ble_eq_true rfl⟩ ⟨Nat.zero_le _, Nat.zero_le _⟩ (ci := 9) (q0 := 0) rfl rfl rfl rfl hl.1 rfl (Nat.le_of_ble_eq_true rfl) dX11_year_205) rfl (g_had [o_t, (a_t 2), (a_t 4), (a_t 5), (a_t 21)] rfl rfl) rfl (⟨⟨_, rfl, rfl⟩, ⟨⟨_, rfl, rfl⟩, trivial⟩⟩) rfl rfl (by decide) (fun H locs hw => ?_)
    exact hret1 (r5_0, r5_1, r5_2, r5_3, r5_4, r5_5, v_t_blownMany, r5_6, r5_7, r5_8, f_t_had) _ _ _ _ hf hw dX11_year_208
  have B54 : ∀ n : Nat, ∀ (v_t_wind : Int32) (v_t_force : Int32) (v_t_rains : Int32) (v_t_lost : Int32) (v_t_hours : Int32) (v_t_blownMany : Int32) (f_t_stem : (Nat → Int32)) (f_t_blown : (Nat → Int32)) (f_t_heap : (Nat → Int32)) (f_t_had : (Nat → Int32)) (x2 : Int32) (x3 : Int32) (x4 : Int32) (x5 : Int32) (H : Heap) (locs : List Loc) (ls : Array Slot), fX11_year_b54 v_t_there f_t_at f_t_lungs n v_t_wind v_t_force v_t_rains v_t_lost v_t_hours v_t_blownMany f_t_stem f_t_blown f_t_heap f_t_had x2 x3 x4 x5 = some (rv, z_t_wind, z_t_force, z_t_rains, z_t_lost, z_t_hours, z_t_blownMany, z_t_stem, z_t_blown, z_t_heap, z_t_had) → gS E A s.heap (wX11_year E o_t a_t v_t_there v_t_wind v_t_force v_t_rains v_t_lost v_t_hours v_t_sights v_t_padMany v_t_acts v_t_blownMany v_t_badAct v_t_badWhy v_t_ruinAct v_t_ruinWho v_t_keptAt v_t_isWriting f_t_at f_t_stem f_t_lungs f_t_blown f_t_heap f_t_had) H locs → lv_has ls 9 [(0, .ref o_t), (2, .int x2), (3, .int x3), (4, .int x4), (5, .int x5)] → W p l e ({ frames := 6, cells := 0, slots := 0, locals := 139 } : Room) s m args below meth cd H locs 0 0 Q (F0 m 54 ls []) := by
    intro n
    induction n with
    | zero => intro v_t_wind v_t_force v_t_rains v_t_lost v_t_hours v_t_blownMany f_t_stem f_t_blown f_t_heap f_t_had x2 x3 x4 x5 H locs ls hf hw hl; exact g_no hf
    | succ n ih =>
      intro v_t_wind v_t_force v_t_rains v_t_lost v_t_hours v_t_blownMany f_t_stem f_t_blown f_t_heap f_t_had x2 x3 x4 x5 H locs ls hf hw hl
      refine lv_iload hx hb dX11_year_54 (lv_at hl 4 rfl) ?_
      refine lv_iload_n hx hb dX11_year_56 rfl (lv_at hl 1 rfl) ?_
      refine lv_icmp_ge (tgt := 173) hx hb dX11_year_57 (by decide) (fun hc => ?_) (fun hc => ?_)
      · have hf := g_t hc hf
        refine lv_iload_n hx hb dX11_year_173 rfl (lv_at hl 2 rfl) ?_
        refine lv_if_ne (tgt := 184) hx hb dX11_year_174 (by decide) (fun hc => ?_) (fun hc => ?_)
        · have hf := g_f hc hf
          refine lv_iload_n hx hb dX11_year_184 rfl (lv_at hl 2 rfl) ?_
          refine lv_iconst (v := 1) hx hb dX11_year_185 k_i1 ?_
          refine lv_icmp_ne (tgt := 196) hx hb dX11_year_186 (by decide) (fun hc => ?_) (fun hc => ?_)
          · have hf := g_f hc hf
            refine lv_aload_n hx hb dX11_year_196 rfl (lv_at hl 0 rfl) ?_
            refine g_get hx hb hG hown hK hw inlX11 (ci := 9) rfl 0 9 (Nat.le_of_ble_eq_true rfl) rfl rfl wd_10_5 dX11_year_197 ?_
            exact B200 v_t_wind v_t_force v_t_rains v_t_lost v_t_hours v_t_blownMany f_t_stem f_t_blown f_t_heap f_t_had v_t_lost _ _ _ hf hw (lv_sub hl [0] rfl)
          · have hf := g_t hc hf
            refine lv_aload_n hx hb dX11_year_189 rfl (lv_at hl 0 rfl) ?_
            obtain ⟨r7, hc8, hf⟩ := gB_s hf
            refine g_ki0 (is := [0, 5]) hw hA (g_rV hx hb hml hG hown hK hw (is := [0, 5]) rfl (by decide) (mX11_allLies l E o_t a_t v_t_there v_t_wind v_t_force v_t_rains v_t_lost v_t_hours v_t_sights v_t_padMany v_t_acts v_t_blownMany v_t_badAct v_t_badWhy v_t_ruinAct v_t_ruinWho v_t_keptAt v_t_isWriting f_t_heap r7 hc8) wd_24_2 wd_24_3 wd_24_4 wd_1_5 wd_24_5 hX11_allLies g_allgood ⟨rfl, rfl⟩ ⟨Nat.le_of_ble_eq_true rfl, Nat.le_of_ble_eq_true rfl⟩ ⟨Nat.zero_le _, Nat.zero_le _⟩ (ci := 9) (q0 := 0) rfl rfl rfl rfl hl.1 rfl (Nat.le_of_ble_eq_true rfl) dX11_year_190) rfl (fun H locs hw => ?_)
            refine lv_goto (tgt := 200) hx hb dX11_year_193 (by decide) ?_
            exact B200 v_t_wind v_t_force v_t_rains v_t_lost v_t_hours v_t_blownMany f_t_stem f_t_blown f_t_heap f_t_had r7 _ _ _ hf hw (lv_sub hl [0] rfl)
        · have hf := g_t hc hf
          refine lv_aload_n hx hb dX11_year_177 rfl (lv_at hl 0 rfl) ?_
          obtain ⟨r9, hc10, hf⟩ := gB_s hf
          refine g_ki0 (is := [0, 2]) hw hA (g_rV hx hb hml hG hown hK hw (is := [0, 2]) rfl (by decide) (mX11_allSeeds l E o_t a_t v_t_there v_t_wind v_t_force v_t_rains v_t_lost v_t_hours v_t_sights v_t_padMany v_t_acts v_t_blownMany v_t_badAct v_t_badWhy v_t_ruinAct v_t_ruinWho v_t_keptAt v_t_isWriting f_t_stem r9 hc10) wd_23_22 wd_23_23 wd_24_0 wd_1_5 wd_24_1 hX11_allSeeds g_allgood ⟨rfl, rfl⟩ ⟨Nat.le_of_ble_eq_true rfl, Nat.le_of_ble_eq_true rfl⟩ ⟨Nat.zero_le _, Nat.zero_le _⟩ (ci := 9) (q0 := 0) rfl rfl rfl rfl hl.1 rfl (Nat.le_of_ble_eq_true rfl) dX11_year_178) rfl (fun H locs hw => ?_)
          refine lv_goto (tgt := 200) hx hb dX11_year_181 (by decide) ?_
          exact B200 v_t_wind v_t_force v_t_rains v_t_lost v_t_hours v_t_blownMany f_t_stem f_t_blown f_t_heap f_t_had r9 _ _ _ hf hw (lv_sub hl [0] rfl)
      · have hf := g_f hc hf
        refine lv_ldc2 hx hb hown (hG _ wd_36_9) dX11_year_60 ?_
        refine lv_iload hx hb dX11_year_63 (lv_at hl 3 rfl) ?_
        refine lv_i2l hx hb dX11_year_65 rfl ?_
        refine lv_lmul hx hb dX11_year_66 ?_
        refine lv_ldc2 hx hb hown (hG _ wd_36_10) dX11_year_67 ?_
        refine lv_ladd hx hb dX11_year_70 ?_
        refine lv_ldc2 hx hb hown (hG _ wd_36_11) dX11_year_71 ?_
        refine lv_lrem hx hb dX11_year_74 (by decide) ?_
        refine lv_l2i hx hb dX11_year_75 rfl ?_
        refine lv_istore (lv' := [(4, .int (Int64.toInt32 (((75 * (Int32.toInt64 x4)) + 74) - ((75 * (Int32.toInt64 x4)) + 74) / 65537 * 65537))), (0, .ref o_t), (2, .int x2), (3, .int x3), (5, .int x5)]) hx hb dX11_year_76 hl (Nat.le_of_ble_eq_true rfl) rfl (fun ls hl => ?_)
        refine lv_iload hx hb dX11_year_78 (lv_at hl 0 rfl) ?_
        refine lv_bipush (v := 6) hx hb dX11_year_80 k_b6 ?_
        refine lv_idiv hx hb dX11_year_82 (by decide) ?_
        refine lv_bipush (v := 8) hx hb dX11_year_83 k_b8 ?_
        refine g_irem hx hb dX11_year_85 (by decide) ?_
        obtain ⟨r11, hc12, hf⟩ := gB_s hf
        refine g_ki0 (is := []) hw hA (g_rS hx hb hml hG hown hK hw (is := []) rfl (by decide) (mX11_actBy l E (((Int64.toInt32 (((75 * (Int32.toInt64 x4)) + 74) - ((75 * (Int32.toInt64 x4)) + 74) / 65537 * 65537)) / 6) % 8) r11 hc12) wd_36_12 wd_36_13 wd_1_5 wd_36_14 hX11_actBy g_allgood ⟨rfl, rfl⟩ ⟨Nat.le_of_ble_eq_true rfl, Nat.le_of_ble_eq_true rfl⟩ ⟨Nat.zero_le _, Nat.zero_le _⟩ rfl hl.1 rfl (Nat.le_of_ble_eq_true rfl) dX11_year_86) rfl (fun H locs hw => ?_)
        refine lv_istore (lv' := [(6, .int r11), (4, .int (Int64.toInt32 (((75 * (Int32.toInt64 x4)) + 74) - ((75 * (Int32.toInt64 x4)) + 74) / 65537 * 65537))), (0, .ref o_t), (2, .int x2), (3, .int x3), (5, .int x5)]) hx hb dX11_year_89 hl (Nat.le_of_ble_eq_true rfl) rfl (fun ls hl => ?_)
        refine lv_iload hx hb dX11_year_91 (lv_at hl 0 rfl) ?_
        refine lv_iconst (v := 3) hx hb dX11_year_93 k_i3 ?_
        refine lv_icmp_ne (tgt := 107) hx hb dX11_year_94 (by decide) (fun hc => ?_) (fun hc => ?_)
        · have hf := g_f hc hf
          refine lv_iload hx hb dX11_year_107 (lv_at hl 1 rfl) ?_
          refine lv_bipush (v := 6) hx hb dX11_year_109 k_b6 ?_
          refine g_irem hx hb dX11_year_111 (by decide) ?_
          exact B112 (fX11_year_b54 v_t_there f_t_at f_t_lungs n) ih v_t_wind v_t_force v_t_rains v_t_lost v_t_hours v_t_blownMany f_t_stem f_t_blown f_t_heap f_t_had x2 x3 (Int64.toInt32 (((75 * (Int32.toInt64 x4)) + 74) - ((75 * (Int32.toInt64 x4)) + 74) / 65537 * 65537)) x5 r11 ((Int64.toInt32 (((75 * (Int32.toInt64 x4)) + 74) - ((75 * (Int32.toInt64 x4)) + 74) / 65537 * 65537)) % 6) _ _ _ hf hw (lv_sub hl [2, 3, 4, 1, 5, 0] rfl)
        · have hf := g_t hc hf
          refine lv_iload hx hb dX11_year_97 (lv_at hl 1 rfl) ?_
          refine lv_bipush (v := 48) hx hb dX11_year_99 k_b48 ?_
          refine lv_idiv hx hb dX11_year_101 (by decide) ?_
          refine lv_iconst (v := 4) hx hb dX11_year_102 k_i4 ?_
          refine g_irem hx hb dX11_year_103 (by decide) ?_
          refine lv_goto (tgt := 112) hx hb dX11_year_104 (by decide) ?_
          exact B112 (fX11_year_b54 v_t_there f_t_at f_t_lungs n) ih v_t_wind v_t_force v_t_rains v_t_lost v_t_hours v_t_blownMany f_t_stem f_t_blown f_t_heap f_t_had x2 x3 (Int64.toInt32 (((75 * (Int32.toInt64 x4)) + 74) - ((75 * (Int32.toInt64 x4)) + 74) / 65537 * 65537)) x5 r11 (((Int64.toInt32 (((75 * (Int32.toInt64 x4)) + 74) - ((75 * (Int32.toInt64 x4)) + 74) / 65537 * 65537)) / 48) % 4) _ _ _ hf hw (lv_sub hl [2, 3, 4, 1, 5, 0] rfl)
  refine lv_iload_n hx hb dX11_year_0 rfl (lv_at hl 1 rfl) ?_
  refine lv_i2l hx hb dX11_year_1 rfl ?_
  refine lv_lconst (v := 0) hx hb dX11_year_2 k_l0 ?_
  refine lv_ldc2 hx hb hown (hG _ wd_36_8) dX11_year_3 ?_
  obtain ⟨r13, hc14, hf⟩ := gB_s hf
  refine g_ki0 (is := []) hw hA (g_rS hx hb hml hG hown hK hw (is := []) rfl (by decide) (mX11_in l E (Int32.toInt64 x1) 0 9999 r13 hc14) wd_8_10 wd_8_11 wd_1_5 wd_8_12 hX11_in g_allgood ⟨rfl, rfl⟩ ⟨Nat.le_of_ble_eq_true rfl, Nat.le_of_ble_eq_true rfl⟩ ⟨Nat.zero_le _, Nat.zero_le _⟩ rfl hl.1 rfl (Nat.le_of_ble_eq_true rfl) dX11_year_6) rfl (fun H locs hw => ?_)
  refine lv_if_eq (tgt := 36) hx hb dX11_year_9 (by decide) (fun hc => ?_) (fun hc => ?_)
  · have hf := g_t hc hf
    exact B36 v_t_wind v_t_force v_t_rains v_t_lost v_t_hours v_t_blownMany f_t_stem f_t_blown f_t_heap f_t_had _ _ _ hf hw (lv_sub hl [] rfl)
  · have hf := g_f hc hf
    refine lv_iload_n hx hb dX11_year_12 rfl (lv_at hl 2 rfl) ?_
    refine lv_i2l hx hb dX11_year_13 rfl ?_
    refine lv_lconst (v := 1) hx hb dX11_year_14 k_l1 ?_
    refine lv_ldc2 hx hb hown (hG _ wd_35_10) dX11_year_15 ?_
    obtain ⟨r15, hc16, hf⟩ := gB_s hf
    refine g_ki0 (is := []) hw hA (g_rS hx hb hml hG hown hK hw (is := []) rfl (by decide) (mX11_in l E (Int32.toInt64 x2) 1 99 r15 hc16) wd_8_10 wd_8_11 wd_1_5 wd_8_12 hX11_in g_allgood ⟨rfl, rfl⟩ ⟨Nat.le_of_ble_eq_true rfl, Nat.le_of_ble_eq_true rfl⟩ ⟨Nat.zero_le _, Nat.zero_le _⟩ rfl hl.1 rfl (Nat.le_of_ble_eq_true rfl) dX11_year_18) rfl (fun H locs hw => ?_)
    refine lv_if_eq (tgt := 36) hx hb dX11_year_21 (by decide) (fun hc => ?_) (fun hc => ?_)
    · have hf := g_t hc hf
      exact B36 v_t_wind v_t_force v_t_rains v_t_lost v_t_hours v_t_blownMany f_t_stem f_t_blown f_t_heap f_t_had _ _ _ hf hw (lv_sub hl [] rfl)
    · have hf := g_f hc hf
      refine lv_iload_n hx hb dX11_year_24 rfl (lv_at hl 3 rfl) ?_
      refine lv_i2l hx hb dX11_year_25 rfl ?_
      refine lv_lconst (v := 0) hx hb dX11_year_26 k_l0 ?_
      refine lv_ldc2 hx hb hown (hG _ wd_11_15) dX11_year_27 ?_
      obtain ⟨r17, hc18, hf⟩ := gB_s hf
      refine g_ki0 (is := []) hw hA (g_rS hx hb hml hG hown hK hw (is := []) rfl (by decide) (mX11_in l E (Int32.toInt64 x3) 0 2 r17 hc18) wd_8_10 wd_8_11 wd_1_5 wd_8_12 hX11_in g_allgood ⟨rfl, rfl⟩ ⟨Nat.le_of_ble_eq_true rfl, Nat.le_of_ble_eq_true rfl⟩ ⟨Nat.zero_le _, Nat.zero_le _⟩ rfl hl.1 rfl (Nat.le_of_ble_eq_true rfl) dX11_year_30) rfl (fun H locs hw => ?_)
      refine lv_if_ne (tgt := 39) hx hb dX11_year_33 (by decide) (fun hc => ?_) (fun hc => ?_)
      · have hf := g_f hc hf
        refine lv_aload_n hx hb dX11_year_39 rfl (lv_at hl 0 rfl) ?_
        obtain ⟨r19, hc20, hf⟩ := gB_s hf
        refine g_kv (is := [0, 2, 4, 5, 6]) (isR := [1, 3]) (nW := 7) (w1 := (wX11_keepNow E o_t a_t v_t_there v_t_wind v_t_force v_t_rains v_t_lost v_t_hours v_t_sights v_t_padMany v_t_acts v_t_blownMany v_t_badAct v_t_badWhy v_t_ruinAct v_t_ruinWho v_t_keptAt v_t_isWriting f_t_stem f_t_blown f_t_heap r19)) (ws' := (wX11_year E o_t a_t v_t_there v_t_wind v_t_force v_t_rains v_t_lost v_t_hours v_t_sights v_t_padMany v_t_acts v_t_blownMany v_t_badAct v_t_badWhy v_t_ruinAct v_t_ruinWho v_t_keptAt v_t_isWriting f_t_at f_t_stem f_t_lungs f_t_blown f_t_heap r19)) hw hA (g_rV hx hb hml hG hown hK hw (is := [0, 2, 4, 5, 6]) rfl (by decide) (mX11_keepNow l E o_t a_t v_t_there v_t_wind v_t_force v_t_rains v_t_lost v_t_hours v_t_sights v_t_padMany v_t_acts v_t_blownMany v_t_badAct v_t_badWhy v_t_ruinAct v_t_ruinWho v_t_keptAt v_t_isWriting f_t_stem f_t_blown f_t_heap f_t_had r19 hc20) wd_19_8 wd_19_9 wd_19_10 wd_1_5 wd_19_11 hX11_keepNow g_allgood ⟨rfl, rfl⟩ ⟨Nat.le_of_ble_eq_true rfl, Nat.le_of_ble_eq_true rfl⟩ ⟨Nat.zero_le _, Nat.zero_le _⟩ (ci := 9) (q0 := 0) rfl rfl rfl rfl hl.1 rfl (Nat.le_of_ble_eq_true rfl) dX11_year_40) rfl (g_had [o_t, (a_t 2), (a_t 4), (a_t 5), (a_t 21)] rfl rfl) rfl (⟨⟨_, rfl, rfl⟩, ⟨⟨_, rfl, rfl⟩, trivial⟩⟩) rfl rfl (by decide) (fun H locs hw => ?_)
        refine lv_aload_n hx hb dX11_year_43 rfl (lv_at hl 0 rfl) ?_
        refine lv_iconst (v := 0) hx hb dX11_year_44 k_i0 ?_
        refine g_put (ws' := (wX11_year E o_t a_t v_t_there v_t_wind v_t_force v_t_rains v_t_lost v_t_hours v_t_sights v_t_padMany v_t_acts 0 v_t_badAct v_t_badWhy v_t_ruinAct v_t_ruinWho v_t_keptAt v_t_isWriting f_t_at f_t_stem f_t_lungs f_t_blown f_t_heap r19)) hx hb hG hown hK hw inlX11 tyX11_ok nmX11 (ci := 9) rfl 0 20 (Nat.le_of_ble_eq_true rfl) rfl wd_19_3 rfl rfl rfl (Nat.le_of_ble_eq_true rfl) rfl dX11_year_45 (fun H locs hw => ?_)
        refine lv_iload_n hx hb dX11_year_48 rfl (lv_at hl 1 rfl) ?_
        refine lv_istore (lv' := [(4, .int x1), (0, .ref o_t), (1, .int x1), (2, .int x2), (3, .int x3)]) hx hb dX11_year_49 hl (Nat.le_of_ble_eq_true rfl) rfl (fun ls hl => ?_)
        refine lv_iconst (v := 0) hx hb dX11_year_51 k_i0 ?_
        refine lv_istore (lv' := [(5, .int 0), (4, .int x1), (0, .ref o_t), (1, .int x1), (2, .int x2), (3, .int x3)]) hx hb dX11_year_52 hl (Nat.le_of_ble_eq_true rfl) rfl (fun ls hl => ?_)
        exact B54 1000 v_t_wind v_t_force v_t_rains v_t_lost v_t_hours 0 f_t_stem f_t_blown f_t_heap r19 x2 x3 x1 0 _ _ _ hf hw (lv_sub hl [2, 4, 5, 1, 0] rfl)
      · have hf := g_t hc hf
        exact B36 v_t_wind v_t_force v_t_rains v_t_lost v_t_hours v_t_blownMany f_t_stem f_t_blown f_t_heap f_t_had _ _ _ hf hw (lv_sub hl [] rfl)
theorem hX11_pass : yX11_pass.cls = RX11 ∧ yX11_pass.cls ≠ "java/lang/invoke/MethodHandle" ∧ yX11_pass.cls ≠ "java/lang/invoke/VarHandle" ∧ (parseMethodDescriptor yX11_pass.desc).map (fun d => d.parameters.length) = some 1 := by decide +kernel
set_option maxHeartbeats 4000000 in
set_option maxRecDepth 100000 in
theorem mX11_pass (l : Launch) (E : gE) (o_t : Nat) (a_t : (Nat → Nat)) (v_t_there : Int32) (v_t_wind : Int32) (v_t_force : Int32) (v_t_rains : Int32) (v_t_lost : Int32) (v_t_hours : Int32) (v_t_sights : Int32) (v_t_padMany : Int32) (v_t_acts : Int32) (v_t_blownMany : Int32) (v_t_badAct : Int32) (v_t_badWhy : Int32) (v_t_ruinAct : Int32) (v_t_ruinWho : Int32) (v_t_keptAt : Int32) (v_t_isWriting : Int32) (f_t_kept : (Nat → Int32)) (x1 : Int32) (rv : Int32) (z_t_keptAt : Int32) (z_t_kept : (Nat → Int32)) (hf : fX11_pass v_t_keptAt v_t_isWriting f_t_kept x1 = some (rv, z_t_keptAt, z_t_kept)) {sz : Nat} : gMi l yX11_pass (gW yX11_pass cX11_pass 3 (some .int)) ({ frames := 0, cells := 0, slots := 0, locals := 0 } : Room) E [.ref o_t, .int x1] (wX11_pass E o_t a_t v_t_there v_t_wind v_t_force v_t_rains v_t_lost v_t_hours v_t_sights v_t_padMany v_t_acts v_t_blownMany v_t_badAct v_t_badWhy v_t_ruinAct v_t_ruinWho v_t_keptAt v_t_isWriting f_t_kept) sz rv (wX11_pass E o_t a_t v_t_there v_t_wind v_t_force v_t_rains v_t_lost v_t_hours v_t_sights v_t_padMany v_t_acts v_t_blownMany v_t_badAct v_t_badWhy v_t_ruinAct v_t_ruinWho z_t_keptAt v_t_isWriting z_t_kept) := by
  refine g_openI (own := RX11) (by decide) rfl (Nat.le_of_ble_eq_true rfl) (fun p e s m args below meth cd Q A hx hb hml hown hG hK hA hret hw ls hl => ?_)
  have hl : lv_has ls 3 [(0, .ref o_t), (1, .int x1)] := hl
  have hret1 : ∀ (t : Int32 × Int32 × (Nat → Int32)) (H : Heap) (locs : List Loc) (pc : Nat) (ls : Array Slot), some t = some (rv, z_t_keptAt, z_t_kept) → gS E A s.heap (wX11_pass E o_t a_t v_t_there v_t_wind v_t_force v_t_rains v_t_lost v_t_hours v_t_sights v_t_padMany v_t_acts v_t_blownMany v_t_badAct v_t_badWhy v_t_ruinAct v_t_ruinWho t.2.1 v_t_isWriting t.2.2) H locs → decode cX11_pass pc = .ok (.ireturn, 1) → W p l e ({ frames := 0, cells := 0, slots := 0, locals := 0 } : Room) s m args below meth cd H locs 0 0 Q (F0 m pc ls [.int t.1]) := by
    intro t H locs pc ls h hw hd
    obtain rfl : t = (rv, z_t_keptAt, z_t_kept) := Option.some.inj h
    exact hret H locs pc ls hw hd
  have B20 : ∀ (v_t_keptAt : Int32) (f_t_kept : (Nat → Int32)) (s0 : Int32) (H : Heap) (locs : List Loc) (ls : Array Slot), fX11_pass_b20 v_t_keptAt f_t_kept s0 = some (rv, z_t_keptAt, z_t_kept) → gS E A s.heap (wX11_pass E o_t a_t v_t_there v_t_wind v_t_force v_t_rains v_t_lost v_t_hours v_t_sights v_t_padMany v_t_acts v_t_blownMany v_t_badAct v_t_badWhy v_t_ruinAct v_t_ruinWho v_t_keptAt v_t_isWriting f_t_kept) H locs → lv_has ls 3 [(0, .ref o_t)] → W p l e ({ frames := 0, cells := 0, slots := 0, locals := 0 } : Room) s m args below meth cd H locs 0 0 Q (F0 m 20 ls [.int s0]) := by
    intro  v_t_keptAt f_t_kept s0 H locs ls hf hw hl
    refine lv_istore_n (lv' := [(2, .int s0), (0, .ref o_t)]) hx hb dX11_pass_20 rfl hl (Nat.le_of_ble_eq_true rfl) rfl (fun ls hl => ?_)
    refine lv_aload_n hx hb dX11_pass_21 rfl (lv_at hl 1 rfl) ?_
    refine g_get hx hb hG hown hK hw inlX11 (ci := 9) rfl 0 32 (Nat.le_of_ble_eq_true rfl) rfl rfl wd_6_16 dX11_pass_22 ?_
    refine lv_aload_n hx hb dX11_pass_25 rfl (lv_at hl 1 rfl) ?_
    refine g_get hx hb hG hown hK hw inlX11 (ci := 9) rfl 0 34 (Nat.le_of_ble_eq_true rfl) rfl rfl wd_37_13 dX11_pass_26 ?_
    refine lv_iload_n hx hb dX11_pass_29 rfl (lv_at hl 0 rfl) ?_
    obtain ⟨hi1, hf⟩ := gA_s hf
    refine g_iast (ws' := (wX11_pass E o_t a_t v_t_there v_t_wind v_t_force v_t_rains v_t_lost v_t_hours v_t_sights v_t_padMany v_t_acts v_t_blownMany v_t_badAct v_t_badWhy v_t_ruinAct v_t_ruinWho v_t_keptAt v_t_isWriting (upd f_t_kept (Int32.toNatClampNeg v_t_keptAt) s0))) hx hb hK hw 1 rfl hi1 rfl dX11_pass_30 (fun H locs hw => ?_)
    refine lv_aload_n hx hb dX11_pass_31 rfl (lv_at hl 1 rfl) ?_
    refine lv_dup hx hb dX11_pass_32 rfl ?_
    refine g_get hx hb hG hown hK hw inlX11 (ci := 9) rfl 0 34 (Nat.le_of_ble_eq_true rfl) rfl rfl wd_37_13 dX11_pass_33 ?_
    refine lv_iconst (v := 1) hx hb dX11_pass_36 k_i1 ?_
    refine lv_iadd hx hb dX11_pass_37 ?_
    refine g_put (ws' := (wX11_pass E o_t a_t v_t_there v_t_wind v_t_force v_t_rains v_t_lost v_t_hours v_t_sights v_t_padMany v_t_acts v_t_blownMany v_t_badAct v_t_badWhy v_t_ruinAct v_t_ruinWho (v_t_keptAt + 1) v_t_isWriting (upd f_t_kept (Int32.toNatClampNeg v_t_keptAt) s0))) hx hb hG hown hK hw inlX11 tyX11_ok nmX11 (ci := 9) rfl 0 34 (Nat.le_of_ble_eq_true rfl) rfl wd_37_13 rfl rfl rfl (Nat.le_of_ble_eq_true rfl) rfl dX11_pass_38 (fun H locs hw => ?_)
    refine lv_iload_n hx hb dX11_pass_41 rfl (lv_at hl 0 rfl) ?_
    exact hret1 (s0, (v_t_keptAt + 1), (upd f_t_kept (Int32.toNatClampNeg v_t_keptAt) s0)) _ _ _ _ hf hw dX11_pass_42
  refine lv_aload_n hx hb dX11_pass_0 rfl (lv_at hl 0 rfl) ?_
  refine g_get hx hb hG hown hK hw inlX11 (ci := 9) rfl 0 35 (Nat.le_of_ble_eq_true rfl) rfl rfl wd_37_14 dX11_pass_1 ?_
  refine lv_if_eq (tgt := 11) hx hb dX11_pass_4 (by decide) (fun hc => ?_) (fun hc => ?_)
  · have hf := g_t hc hf
    refine lv_aload_n hx hb dX11_pass_11 rfl (lv_at hl 0 rfl) ?_
    refine g_get hx hb hG hown hK hw inlX11 (ci := 9) rfl 0 32 (Nat.le_of_ble_eq_true rfl) rfl rfl wd_6_16 dX11_pass_12 ?_
    refine lv_aload_n hx hb dX11_pass_15 rfl (lv_at hl 0 rfl) ?_
    refine g_get hx hb hG hown hK hw inlX11 (ci := 9) rfl 0 34 (Nat.le_of_ble_eq_true rfl) rfl rfl wd_37_13 dX11_pass_16 ?_
    obtain ⟨hi2, hf⟩ := gA_s hf
    refine g_iald hx hb hK hw 1 rfl hi2 dX11_pass_19 ?_
    exact B20 v_t_keptAt f_t_kept (f_t_kept (Int32.toNatClampNeg v_t_keptAt)) _ _ _ hf hw (lv_sub hl [0] rfl)
  · have hf := g_f hc hf
    refine lv_iload_n hx hb dX11_pass_7 rfl (lv_at hl 1 rfl) ?_
    refine lv_goto (tgt := 20) hx hb dX11_pass_8 (by decide) ?_
    exact B20 v_t_keptAt f_t_kept x1 _ _ _ hf hw (lv_sub hl [0] rfl)
theorem hX11_passRow : yX11_passRow.cls = RX11 ∧ yX11_passRow.cls ≠ "java/lang/invoke/MethodHandle" ∧ yX11_passRow.cls ≠ "java/lang/invoke/VarHandle" ∧ (parseMethodDescriptor yX11_passRow.desc).map (fun d => d.parameters.length) = some 2 := by decide +kernel
set_option maxHeartbeats 4000000 in
set_option maxRecDepth 100000 in
theorem mX11_passRow (l : Launch) (E : gE) (o_t : Nat) (a_t : (Nat → Nat)) (o_p0 : Nat) (v_t_there : Int32) (v_t_wind : Int32) (v_t_force : Int32) (v_t_rains : Int32) (v_t_lost : Int32) (v_t_hours : Int32) (v_t_sights : Int32) (v_t_padMany : Int32) (v_t_acts : Int32) (v_t_blownMany : Int32) (v_t_badAct : Int32) (v_t_badWhy : Int32) (v_t_ruinAct : Int32) (v_t_ruinWho : Int32) (v_t_keptAt : Int32) (v_t_isWriting : Int32) (f_t_kept : (Nat → Int32)) (n_p0 : Nat) (f_p0 : (Nat → Int32)) (x2 : Int32) (z_t_keptAt : Int32) (z_t_kept : (Nat → Int32)) (z_p0 : (Nat → Int32)) (hf : fX11_passRow v_t_keptAt v_t_isWriting f_t_kept n_p0 f_p0 x2 = some (z_t_keptAt, z_t_kept, z_p0)) {sz : Nat} : gMv l yX11_passRow (gW yX11_passRow cX11_passRow 4 none) ({ frames := 1, cells := 0, slots := 0, locals := 22 } : Room) E [.ref o_t, .ref o_p0, .int x2] (wX11_passRow E o_t a_t o_p0 v_t_there v_t_wind v_t_force v_t_rains v_t_lost v_t_hours v_t_sights v_t_padMany v_t_acts v_t_blownMany v_t_badAct v_t_badWhy v_t_ruinAct v_t_ruinWho v_t_keptAt v_t_isWriting f_t_kept n_p0 f_p0) sz (wX11_passRow E o_t a_t o_p0 v_t_there v_t_wind v_t_force v_t_rains v_t_lost v_t_hours v_t_sights v_t_padMany v_t_acts v_t_blownMany v_t_badAct v_t_badWhy v_t_ruinAct v_t_ruinWho z_t_keptAt v_t_isWriting z_t_kept n_p0 z_p0) := by
  refine g_openV (own := RX11) (by decide) rfl (Nat.le_of_ble_eq_true rfl) (fun p e s m args below meth cd Q A hx hb hml hown hG hK hA hret hw ls hl => ?_)
  have hl : lv_has ls 4 [(0, .ref o_t), (1, .ref o_p0), (2, .int x2)] := hl
  have hret1 : ∀ (t : Int32 × (Nat → Int32) × (Nat → Int32)) (H : Heap) (locs : List Loc) (pc : Nat) (ls : Array Slot), some t = some (z_t_keptAt, z_t_kept, z_p0) → gS E A s.heap (wX11_passRow E o_t a_t o_p0 v_t_there v_t_wind v_t_force v_t_rains v_t_lost v_t_hours v_t_sights v_t_padMany v_t_acts v_t_blownMany v_t_badAct v_t_badWhy v_t_ruinAct v_t_ruinWho t.1 v_t_isWriting t.2.1 n_p0 t.2.2) H locs → decode cX11_passRow pc = .ok (.return_, 1) → W p l e ({ frames := 1, cells := 0, slots := 0, locals := 22 } : Room) s m args below meth cd H locs 0 0 Q (F0 m pc ls []) := by
    intro t H locs pc ls h hw hd
    obtain rfl : t = (z_t_keptAt, z_t_kept, z_p0) := Option.some.inj h
    exact hret H locs pc ls hw hd
  have B2 : ∀ n : Nat, ∀ (v_t_keptAt : Int32) (f_t_kept : (Nat → Int32)) (f_p0 : (Nat → Int32)) (x2 : Int32) (x3 : Int32) (H : Heap) (locs : List Loc) (ls : Array Slot), fX11_passRow_b2 v_t_isWriting n_p0 n v_t_keptAt f_t_kept f_p0 x2 x3 = some (z_t_keptAt, z_t_kept, z_p0) → gS E A s.heap (wX11_passRow E o_t a_t o_p0 v_t_there v_t_wind v_t_force v_t_rains v_t_lost v_t_hours v_t_sights v_t_padMany v_t_acts v_t_blownMany v_t_badAct v_t_badWhy v_t_ruinAct v_t_ruinWho v_t_keptAt v_t_isWriting f_t_kept n_p0 f_p0) H locs → lv_has ls 4 [(0, .ref o_t), (1, .ref o_p0), (2, .int x2), (3, .int x3)] → W p l e ({ frames := 1, cells := 0, slots := 0, locals := 22 } : Room) s m args below meth cd H locs 0 0 Q (F0 m 2 ls []) := by
    intro n
    induction n with
    | zero => intro v_t_keptAt f_t_kept f_p0 x2 x3 H locs ls hf hw hl; exact g_no hf
    | succ n ih =>
      intro v_t_keptAt f_t_kept f_p0 x2 x3 H locs ls hf hw hl
      refine lv_iload_n hx hb dX11_passRow_2 rfl (lv_at hl 3 rfl) ?_
      refine lv_iload_n hx hb dX11_passRow_3 rfl (lv_at hl 2 rfl) ?_
      refine lv_icmp_ge (tgt := 23) hx hb dX11_passRow_4 (by decide) (fun hc => ?_) (fun hc => ?_)
      · have hf := g_t hc hf
        exact hret1 (v_t_keptAt, f_t_kept, f_p0) _ _ _ _ hf hw dX11_passRow_23
      · have hf := g_f hc hf
        refine lv_aload_n hx hb dX11_passRow_7 rfl (lv_at hl 1 rfl) ?_
        refine lv_iload_n hx hb dX11_passRow_8 rfl (lv_at hl 3 rfl) ?_
        refine lv_aload_n hx hb dX11_passRow_9 rfl (lv_at hl 0 rfl) ?_
        refine lv_aload_n hx hb dX11_passRow_10 rfl (lv_at hl 1 rfl) ?_
        refine lv_iload_n hx hb dX11_passRow_11 rfl (lv_at hl 3 rfl) ?_
        obtain ⟨hi1, hf⟩ := gA_s hf
        refine g_iald hx hb hK hw 2 rfl hi1 dX11_passRow_12 ?_
        obtain ⟨⟨r2_0, r2_1, r2_2⟩, hc3, hf⟩ := gB_s hf
        refine g_ki (is := [0, 1]) (isR := [2]) (nW := 3) (w1 := (wX11_pass E o_t a_t v_t_there v_t_wind v_t_force v_t_rains v_t_lost v_t_hours v_t_sights v_t_padMany v_t_acts v_t_blownMany v_t_badAct v_t_badWhy v_t_ruinAct v_t_ruinWho r2_1 v_t_isWriting r2_2)) (ws' := (wX11_passRow E o_t a_t o_p0 v_t_there v_t_wind v_t_force v_t_rains v_t_lost v_t_hours v_t_sights v_t_padMany v_t_acts v_t_blownMany v_t_badAct v_t_badWhy v_t_ruinAct v_t_ruinWho r2_1 v_t_isWriting r2_2 n_p0 f_p0)) hw hA (g_rV hx hb hml hG hown hK hw (is := [0, 1]) rfl (by decide) (mX11_pass l E o_t a_t v_t_there v_t_wind v_t_force v_t_rains v_t_lost v_t_hours v_t_sights v_t_padMany v_t_acts v_t_blownMany v_t_badAct v_t_badWhy v_t_ruinAct v_t_ruinWho v_t_keptAt v_t_isWriting f_t_kept (f_p0 (Int32.toNatClampNeg x3)) r2_0 r2_1 r2_2 hc3) wd_37_19 wd_37_20 wd_37_21 wd_1_5 wd_37_22 hX11_pass g_allgood ⟨rfl, rfl⟩ ⟨Nat.le_of_ble_eq_true rfl, Nat.le_of_ble_eq_true rfl⟩ ⟨Nat.zero_le _, Nat.zero_le _⟩ (ci := 9) (q0 := 0) rfl rfl rfl rfl hl.1 rfl (Nat.le_of_ble_eq_true rfl) dX11_passRow_13) rfl (g_had [o_t, (a_t 32)] rfl rfl) rfl (⟨⟨_, rfl, rfl⟩, trivial⟩) rfl rfl (by decide) (fun H locs hw => ?_)
        obtain ⟨hi4, hf⟩ := gA_s hf
        refine g_iast (ws' := (wX11_passRow E o_t a_t o_p0 v_t_there v_t_wind v_t_force v_t_rains v_t_lost v_t_hours v_t_sights v_t_padMany v_t_acts v_t_blownMany v_t_badAct v_t_badWhy v_t_ruinAct v_t_ruinWho r2_1 v_t_isWriting r2_2 n_p0 (upd f_p0 (Int32.toNatClampNeg x3) r2_0))) hx hb hK hw 2 rfl hi4 rfl dX11_passRow_16 (fun H locs hw => ?_)
        refine lv_iinc (lv' := [(3, .int (x3 + 1)), (0, .ref o_t), (1, .ref o_p0), (2, .int x2)]) hx hb dX11_passRow_17 hl (k := 3) rfl (k_inc1 _) (Nat.le_of_ble_eq_true rfl) rfl (fun ls hl => ?_)
        refine lv_goto (tgt := 2) hx hb dX11_passRow_20 (by decide) ?_
        exact ih r2_1 r2_2 (upd f_p0 (Int32.toNatClampNeg x3) r2_0) x2 (x3 + 1) _ _ _ hf hw (lv_sub hl [1, 2, 3, 0] rfl)
  refine lv_iconst (v := 0) hx hb dX11_passRow_0 k_i0 ?_
  refine lv_istore_n (lv' := [(3, .int 0), (0, .ref o_t), (1, .ref o_p0), (2, .int x2)]) hx hb dX11_passRow_1 rfl hl (Nat.le_of_ble_eq_true rfl) rfl (fun ls hl => ?_)
  exact B2 1000 v_t_keptAt f_t_kept f_p0 x2 0 _ _ _ hf hw (lv_sub hl [1, 2, 3, 0] rfl)
theorem hX11_passAll : yX11_passAll.cls = RX11 ∧ yX11_passAll.cls ≠ "java/lang/invoke/MethodHandle" ∧ yX11_passAll.cls ≠ "java/lang/invoke/VarHandle" ∧ (parseMethodDescriptor yX11_passAll.desc).map (fun d => d.parameters.length) = some 0 := by decide +kernel
set_option maxHeartbeats 4000000 in
set_option maxRecDepth 100000 in
theorem mX11_passAll (l : Launch) (E : gE) (o_t : Nat) (a_t : (Nat → Nat)) (v_t_there : Int32) (v_t_wind : Int32) (v_t_force : Int32) (v_t_rains : Int32) (v_t_lost : Int32) (v_t_hours : Int32) (v_t_sights : Int32) (v_t_padMany : Int32) (v_t_acts : Int32) (v_t_blownMany : Int32) (v_t_badAct : Int32) (v_t_badWhy : Int32) (v_t_ruinAct : Int32) (v_t_ruinWho : Int32) (v_t_keptAt : Int32) (v_t_isWriting : Int32) (f_t_at : (Nat → Int32)) (f_t_stem : (Nat → Int32)) (f_t_lungs : (Nat → Int32)) (f_t_blown : (Nat → Int32)) (f_t_heap : (Nat → Int32)) (f_t_sightBreath : (Nat → Int32)) (f_t_sightFlew : (Nat → Int32)) (f_t_kept : (Nat → Int32)) (z_t_there : Int32) (z_t_wind : Int32) (z_t_force : Int32) (z_t_rains : Int32) (z_t_lost : Int32) (z_t_hours : Int32) (z_t_sights : Int32) (z_t_keptAt : Int32) (z_t_at : (Nat → Int32)) (z_t_stem : (Nat → Int32)) (z_t_lungs : (Nat → Int32)) (z_t_blown : (Nat → Int32)) (z_t_heap : (Nat → Int32)) (z_t_sightBreath : (Nat → Int32)) (z_t_sightFlew : (Nat → Int32)) (z_t_kept : (Nat → Int32)) (hf : fX11_passAll v_t_there v_t_wind v_t_force v_t_rains v_t_lost v_t_hours v_t_sights v_t_keptAt v_t_isWriting f_t_at f_t_stem f_t_lungs f_t_blown f_t_heap f_t_sightBreath f_t_sightFlew f_t_kept = some (z_t_there, z_t_wind, z_t_force, z_t_rains, z_t_lost, z_t_hours, z_t_sights, z_t_keptAt, z_t_at, z_t_stem, z_t_lungs, z_t_blown, z_t_heap, z_t_sightBreath, z_t_sightFlew, z_t_kept)) {sz : Nat} : gMv l yX11_passAll (gW yX11_passAll cX11_passAll 1 none) ({ frames := 2, cells := 0, slots := 0, locals := 45 } : Room) E [.ref o_t] (wX11_passAll E o_t a_t v_t_there v_t_wind v_t_force v_t_rains v_t_lost v_t_hours v_t_sights v_t_padMany v_t_acts v_t_blownMany v_t_badAct v_t_badWhy v_t_ruinAct v_t_ruinWho v_t_keptAt v_t_isWriting f_t_at f_t_stem f_t_lungs f_t_blown f_t_heap f_t_sightBreath f_t_sightFlew f_t_kept) sz (wX11_passAll E o_t a_t z_t_there z_t_wind z_t_force z_t_rains z_t_lost z_t_hours z_t_sights v_t_padMany v_t_acts v_t_blownMany v_t_badAct v_t_badWhy v_t_ruinAct v_t_ruinWho z_t_keptAt v_t_isWriting z_t_at z_t_stem z_t_lungs z_t_blown z_t_heap z_t_sightBreath z_t_sightFlew z_t_kept) := by
  refine g_openV (own := RX11) (by decide) rfl (Nat.le_of_ble_eq_true rfl) (fun p e s m args below meth cd Q A hx hb hml hown hG hK hA hret hw ls hl => ?_)
  have hl : lv_has ls 1 [(0, .ref o_t)] := hl
  have hret1 : ∀ (t : Int32 × Int32 × Int32 × Int32 × Int32 × Int32 × Int32 × Int32 × (Nat → Int32) × (Nat → Int32) × (Nat → Int32) × (Nat → Int32) × (Nat → Int32) × (Nat → Int32) × (Nat → Int32) × (Nat → Int32)) (H : Heap) (locs : List Loc) (pc : Nat) (ls : Array Slot), some t = some (z_t_there, z_t_wind, z_t_force, z_t_rains, z_t_lost, z_t_hours, z_t_sights, z_t_keptAt, z_t_at, z_t_stem, z_t_lungs, z_t_blown, z_t_heap, z_t_sightBreath, z_t_sightFlew, z_t_kept) → gS E A s.heap (wX11_passAll E o_t a_t t.1 t.2.1 t.2.2.1 t.2.2.2.1 t.2.2.2.2.1 t.2.2.2.2.2.1 t.2.2.2.2.2.2.1 v_t_padMany v_t_acts v_t_blownMany v_t_badAct v_t_badWhy v_t_ruinAct v_t_ruinWho t.2.2.2.2.2.2.2.1 v_t_isWriting t.2.2.2.2.2.2.2.2.1 t.2.2.2.2.2.2.2.2.2.1 t.2.2.2.2.2.2.2.2.2.2.1 t.2.2.2.2.2.2.2.2.2.2.2.1 t.2.2.2.2.2.2.2.2.2.2.2.2.1 t.2.2.2.2.2.2.2.2.2.2.2.2.2.1 t.2.2.2.2.2.2.2.2.2.2.2.2.2.2.1 t.2.2.2.2.2.2.2.2.2.2.2.2.2.2.2) H locs → decode cX11_passAll pc = .ok (.return_, 1) → W p l e ({ frames := 2, cells := 0, slots := 0, locals := 45 } : Room) s m args below meth cd H locs 0 0 Q (F0 m pc ls []) := by
    intro t H locs pc ls h hw hd
    obtain rfl : t = (z_t_there, z_t_wind, z_t_force, z_t_rains, z_t_lost, z_t_hours, z_t_sights, z_t_keptAt, z_t_at, z_t_stem, z_t_lungs, z_t_blown, z_t_heap, z_t_sightBreath, z_t_sightFlew, z_t_kept) := Option.some.inj h
    exact hret H locs pc ls hw hd
  refine lv_aload_n hx hb dX11_passAll_0 rfl (lv_at hl 0 rfl) ?_
  refine lv_aload_n hx hb dX11_passAll_1 rfl (lv_at hl 0 rfl) ?_
  refine lv_aload_n hx hb dX11_passAll_2 rfl (lv_at hl 0 rfl) ?_
  refine g_get hx hb hG hown hK hw inlX11 (ci := 9) rfl 0 0 (Nat.le_of_ble_eq_true rfl) rfl rfl wd_8_9 dX11_passAll_3 ?_
  obtain ⟨⟨r1_0, r1_1, r1_2⟩, hc2, hf⟩ := gB_s hf
  refine g_ki (is := [0, 8]) (isR := [1, 2, 3, 4, 5, 6, 7]) (nW := 9) (w1 := (wX11_pass E o_t a_t v_t_there v_t_wind v_t_force v_t_rains v_t_lost v_t_hours v_t_sights v_t_padMany v_t_acts v_t_blownMany v_t_badAct v_t_badWhy v_t_ruinAct v_t_ruinWho r1_1 v_t_isWriting r1_2)) (ws' := (wX11_passAll E o_t a_t v_t_there v_t_wind v_t_force v_t_rains v_t_lost v_t_hours v_t_sights v_t_padMany v_t_acts v_t_blownMany v_t_badAct v_t_badWhy v_t_ruinAct v_t_ruinWho r1_1 v_t_isWriting f_t_at f_t_stem f_t_lungs f_t_blown f_t_heap f_t_sightBreath f_t_sightFlew r1_2)) hw hA (g_rV hx hb hml hG hown hK hw (is := [0, 8]) rfl (by decide) (mX11_pass l E o_t a_t v_t_there v_t_wind v_t_force v_t_rains v_t_lost v_t_hours v_t_sights v_t_padMany v_t_acts v_t_blownMany v_t_badAct v_t_badWhy v_t_ruinAct v_t_ruinWho v_t_keptAt v_t_isWriting f_t_kept v_t_there r1_0 r1_1 r1_2 hc2) wd_37_19 wd_37_20 wd_37_21 wd_1_5 wd_37_22 hX11_pass g_allgood ⟨rfl, rfl⟩ ⟨Nat.le_of_ble_eq_true rfl, Nat.le_of_ble_eq_true rfl⟩ ⟨Nat.zero_le _, Nat.zero_le _⟩ (ci := 9) (q0 := 0) rfl rfl rfl rfl hl.1 rfl (Nat.le_of_ble_eq_true rfl) dX11_passAll_6) rfl (g_had [o_t, (a_t 32)] rfl rfl) rfl (⟨⟨_, rfl, rfl⟩, ⟨⟨_, rfl, rfl⟩, ⟨⟨_, rfl, rfl⟩, ⟨⟨_, rfl, rfl⟩, ⟨⟨_, rfl, rfl⟩, ⟨⟨_, rfl, rfl⟩, ⟨⟨_, rfl, rfl⟩, trivial⟩⟩⟩⟩⟩⟩⟩) rfl rfl (by decide) (fun H locs hw => ?_)
  refine g_put (ws' := (wX11_passAll E o_t a_t r1_0 v_t_wind v_t_force v_t_rains v_t_lost v_t_hours v_t_sights v_t_padMany v_t_acts v_t_blownMany v_t_badAct v_t_badWhy v_t_ruinAct v_t_ruinWho r1_1 v_t_isWriting f_t_at f_t_stem f_t_lungs f_t_blown f_t_heap f_t_sightBreath f_t_sightFlew r1_2)) hx hb hG hown hK hw inlX11 tyX11_ok nmX11 (ci := 9) rfl 0 0 (Nat.le_of_ble_eq_true rfl) rfl wd_8_9 rfl rfl rfl (Nat.le_of_ble_eq_true rfl) rfl dX11_passAll_9 (fun H locs hw => ?_)
  refine lv_aload_n hx hb dX11_passAll_12 rfl (lv_at hl 0 rfl) ?_
  refine lv_aload_n hx hb dX11_passAll_13 rfl (lv_at hl 0 rfl) ?_
  refine lv_aload_n hx hb dX11_passAll_14 rfl (lv_at hl 0 rfl) ?_
  refine g_get hx hb hG hown hK hw inlX11 (ci := 9) rfl 0 6 (Nat.le_of_ble_eq_true rfl) rfl rfl wd_11_17 dX11_passAll_15 ?_
  obtain ⟨⟨r3_0, r3_1, r3_2⟩, hc4, hf⟩ := gB_s hf
  refine g_ki (is := [0, 8]) (isR := [1, 2, 3, 4, 5, 6, 7]) (nW := 9) (w1 := (wX11_pass E o_t a_t r1_0 v_t_wind v_t_force v_t_rains v_t_lost v_t_hours v_t_sights v_t_padMany v_t_acts v_t_blownMany v_t_badAct v_t_badWhy v_t_ruinAct v_t_ruinWho r3_1 v_t_isWriting r3_2)) (ws' := (wX11_passAll E o_t a_t r1_0 v_t_wind v_t_force v_t_rains v_t_lost v_t_hours v_t_sights v_t_padMany v_t_acts v_t_blownMany v_t_badAct v_t_badWhy v_t_ruinAct v_t_ruinWho r3_1 v_t_isWriting f_t_at f_t_stem f_t_lungs f_t_blown f_t_heap f_t_sightBreath f_t_sightFlew r3_2)) hw hA (g_rV hx hb hml hG hown hK hw (is := [0, 8]) rfl (by decide) (mX11_pass l E o_t a_t r1_0 v_t_wind v_t_force v_t_rains v_t_lost v_t_hours v_t_sights v_t_padMany v_t_acts v_t_blownMany v_t_badAct v_t_badWhy v_t_ruinAct v_t_ruinWho r1_1 v_t_isWriting r1_2 v_t_wind r3_0 r3_1 r3_2 hc4) wd_37_19 wd_37_20 wd_37_21 wd_1_5 wd_37_22 hX11_pass g_allgood ⟨rfl, rfl⟩ ⟨Nat.le_of_ble_eq_true rfl, Nat.le_of_ble_eq_true rfl⟩ ⟨Nat.zero_le _, Nat.zero_le _⟩ (ci := 9) (q0 := 0) rfl rfl rfl rfl hl.1 rfl (Nat.le_of_ble_eq_true rfl) dX11_passAll_18) rfl (g_had [o_t, (a_t 32)] rfl rfl) rfl (⟨⟨_, rfl, rfl⟩, ⟨⟨_, rfl, rfl⟩, ⟨⟨_, rfl, rfl⟩, ⟨⟨_, rfl, rfl⟩, ⟨⟨_, rfl, rfl⟩, ⟨⟨_, rfl, rfl⟩, ⟨⟨_, rfl, rfl⟩, trivial⟩⟩⟩⟩⟩⟩⟩) rfl rfl (by decide) (fun H locs hw => ?_)
  refine g_put (ws' := (wX11_passAll E o_t a_t r1_0 r3_0 v_t_force v_t_rains v_t_lost v_t_hours v_t_sights v_t_padMany v_t_acts v_t_blownMany v_t_badAct v_t_badWhy v_t_ruinAct v_t_ruinWho r3_1 v_t_isWriting f_t_at f_t_stem f_t_lungs f_t_blown f_t_heap f_t_sightBreath f_t_sightFlew r3_2)) hx hb hG hown hK hw inlX11 tyX11_ok nmX11 (ci := 9) rfl 0 6 (Nat.le_of_ble_eq_true rfl) rfl wd_11_17 rfl rfl rfl (Nat.le_of_ble_eq_true rfl) rfl dX11_passAll_21 (fun H locs hw => ?_)
  refine lv_aload_n hx hb dX11_passAll_24 rfl (lv_at hl 0 rfl) ?_
  refine lv_aload_n hx hb dX11_passAll_25 rfl (lv_at hl 0 rfl) ?_
  refine lv_aload_n hx hb dX11_passAll_26 rfl (lv_at hl 0 rfl) ?_
  refine g_get hx hb hG hown hK hw inlX11 (ci := 9) rfl 0 7 (Nat.le_of_ble_eq_true rfl) rfl rfl wd_6_19 dX11_passAll_27 ?_
  obtain ⟨⟨r5_0, r5_1, r5_2⟩, hc6, hf⟩ := gB_s hf
  refine g_ki (is := [0, 8]) (isR := [1, 2, 3, 4, 5, 6, 7]) (nW := 9) (w1 := (wX11_pass E o_t a_t r1_0 r3_0 v_t_force v_t_rains v_t_lost v_t_hours v_t_sights v_t_padMany v_t_acts v_t_blownMany v_t_badAct v_t_badWhy v_t_ruinAct v_t_ruinWho r5_1 v_t_isWriting r5_2)) (ws' := (wX11_passAll E o_t a_t r1_0 r3_0 v_t_force v_t_rains v_t_lost v_t_hours v_t_sights v_t_padMany v_t_acts v_t_blownMany v_t_badAct v_t_badWhy v_t_ruinAct v_t_ruinWho r5_1 v_t_isWriting f_t_at f_t_stem f_t_lungs f_t_blown f_t_heap f_t_sightBreath f_t_sightFlew r5_2)) hw hA (g_rV hx hb hml hG hown hK hw (is := [0, 8]) rfl (by decide) (mX11_pass l E o_t a_t r1_0 r3_0 v_t_force v_t_rains v_t_lost v_t_hours v_t_sights v_t_padMany v_t_acts v_t_blownMany v_t_badAct v_t_badWhy v_t_ruinAct v_t_ruinWho r3_1 v_t_isWriting r3_2 v_t_force r5_0 r5_1 r5_2 hc6) wd_37_19 wd_37_20 wd_37_21 wd_1_5 wd_37_22 hX11_pass g_allgood ⟨rfl, rfl⟩ ⟨Nat.le_of_ble_eq_true rfl, Nat.le_of_ble_eq_true rfl⟩ ⟨Nat.zero_le _, Nat.zero_le _⟩ (ci := 9) (q0 := 0) rfl rfl rfl rfl hl.1 rfl (Nat.le_of_ble_eq_true rfl) dX11_passAll_30) rfl (g_had [o_t, (a_t 32)] rfl rfl) rfl (⟨⟨_, rfl, rfl⟩, ⟨⟨_, rfl, rfl⟩, ⟨⟨_, rfl, rfl⟩, ⟨⟨_, rfl, rfl⟩, ⟨⟨_, rfl, rfl⟩, ⟨⟨_, rfl, rfl⟩, ⟨⟨_, rfl, rfl⟩, trivial⟩⟩⟩⟩⟩⟩⟩) rfl rfl (by decide) (fun H locs hw => ?_)
  refine g_put (ws' := (wX11_passAll E o_t a_t r1_0 r3_0 r5_0 v_t_rains v_t_lost v_t_hours v_t_sights v_t_padMany v_t_acts v_t_blownMany v_t_badAct v_t_badWhy v_t_ruinAct v_t_ruinWho r5_1 v_t_isWriting f_t_at f_t_stem f_t_lungs f_t_blown f_t_heap f_t_sightBreath f_t_sightFlew r5_2)) hx hb hG hown hK hw inlX11 tyX11_ok nmX11 (ci := 9) rfl 0 7 (Nat.le_of_ble_eq_true rfl) rfl wd_6_19 rfl rfl rfl (Nat.le_of_ble_eq_true rfl) rfl dX11_passAll_33 (fun H locs hw => ?_)
  refine lv_aload_n hx hb dX11_passAll_36 rfl (lv_at hl 0 rfl) ?_
  refine lv_aload_n hx hb dX11_passAll_37 rfl (lv_at hl 0 rfl) ?_
  refine lv_aload_n hx hb dX11_passAll_38 rfl (lv_at hl 0 rfl) ?_
  refine g_get hx hb hG hown hK hw inlX11 (ci := 9) rfl 0 8 (Nat.le_of_ble_eq_true rfl) rfl rfl wd_11_18 dX11_passAll_39 ?_
  obtain ⟨⟨r7_0, r7_1, r7_2⟩, hc8, hf⟩ := gB_s hf
  refine g_ki (is := [0, 8]) (isR := [1, 2, 3, 4, 5, 6, 7]) (nW := 9) (w1 := (wX11_pass E o_t a_t r1_0 r3_0 r5_0 v_t_rains v_t_lost v_t_hours v_t_sights v_t_padMany v_t_acts v_t_blownMany v_t_badAct v_t_badWhy v_t_ruinAct v_t_ruinWho r7_1 v_t_isWriting r7_2)) (ws' := (wX11_passAll E o_t a_t r1_0 r3_0 r5_0 v_t_rains v_t_lost v_t_hours v_t_sights v_t_padMany v_t_acts v_t_blownMany v_t_badAct v_t_badWhy v_t_ruinAct v_t_ruinWho r7_1 v_t_isWriting f_t_at f_t_stem f_t_lungs f_t_blown f_t_heap f_t_sightBreath f_t_sightFlew r7_2)) hw hA (g_rV hx hb hml hG hown hK hw (is := [0, 8]) rfl (by decide) (mX11_pass l E o_t a_t r1_0 r3_0 r5_0 v_t_rains v_t_lost v_t_hours v_t_sights v_t_padMany v_t_acts v_t_blownMany v_t_badAct v_t_badWhy v_t_ruinAct v_t_ruinWho r5_1 v_t_isWriting r5_2 v_t_rains r7_0 r7_1 r7_2 hc8) wd_37_19 wd_37_20 wd_37_21 wd_1_5 wd_37_22 hX11_pass g_allgood ⟨rfl, rfl⟩ ⟨Nat.le_of_ble_eq_true rfl, Nat.le_of_ble_eq_true rfl⟩ ⟨Nat.zero_le _, Nat.zero_le _⟩ (ci := 9) (q0 := 0) rfl rfl rfl rfl hl.1 rfl (Nat.le_of_ble_eq_true rfl) dX11_passAll_42) rfl (g_had [o_t, (a_t 32)] rfl rfl) rfl (⟨⟨_, rfl, rfl⟩, ⟨⟨_, rfl, rfl⟩, ⟨⟨_, rfl, rfl⟩, ⟨⟨_, rfl, rfl⟩, ⟨⟨_, rfl, rfl⟩, ⟨⟨_, rfl, rfl⟩, ⟨⟨_, rfl, rfl⟩, trivial⟩⟩⟩⟩⟩⟩⟩) rfl rfl (by decide) (fun H locs hw => ?_)
  refine g_put (ws' := (wX11_passAll E o_t a_t r1_0 r3_0 r5_0 r7_0 v_t_lost v_t_hours v_t_sights v_t_padMany v_t_acts v_t_blownMany v_t_badAct v_t_badWhy v_t_ruinAct v_t_ruinWho r7_1 v_t_isWriting f_t_at f_t_stem f_t_lungs f_t_blown f_t_heap f_t_sightBreath f_t_sightFlew r7_2)) hx hb hG hown hK hw inlX11 tyX11_ok nmX11 (ci := 9) rfl 0 8 (Nat.le_of_ble_eq_true rfl) rfl wd_11_18 rfl rfl rfl (Nat.le_of_ble_eq_true rfl) rfl dX11_passAll_45 (fun H locs hw => ?_)
  refine lv_aload_n hx hb dX11_passAll_48 rfl (lv_at hl 0 rfl) ?_
  refine lv_aload_n hx hb dX11_passAll_49 rfl (lv_at hl 0 rfl) ?_
  refine lv_aload_n hx hb dX11_passAll_50 rfl (lv_at hl 0 rfl) ?_
  refine g_get hx hb hG hown hK hw inlX11 (ci := 9) rfl 0 9 (Nat.le_of_ble_eq_true rfl) rfl rfl wd_10_5 dX11_passAll_51 ?_
  obtain ⟨⟨r9_0, r9_1, r9_2⟩, hc10, hf⟩ := gB_s hf
  refine g_ki (is := [0, 8]) (isR := [1, 2, 3, 4, 5, 6, 7]) (nW := 9) (w1 := (wX11_pass E o_t a_t r1_0 r3_0 r5_0 r7_0 v_t_lost v_t_hours v_t_sights v_t_padMany v_t_acts v_t_blownMany v_t_badAct v_t_badWhy v_t_ruinAct v_t_ruinWho r9_1 v_t_isWriting r9_2)) (ws' := (wX11_passAll E o_t a_t r1_0 r3_0 r5_0 r7_0 v_t_lost v_t_hours v_t_sights v_t_padMany v_t_acts v_t_blownMany v_t_badAct v_t_badWhy v_t_ruinAct v_t_ruinWho r9_1 v_t_isWriting f_t_at f_t_stem f_t_lungs f_t_blown f_t_heap f_t_sightBreath f_t_sightFlew r9_2)) hw hA (g_rV hx hb hml hG hown hK hw (is := [0, 8]) rfl (by decide) (mX11_pass l E o_t a_t r1_0 r3_0 r5_0 r7_0 v_t_lost v_t_hours v_t_sights v_t_padMany v_t_acts v_t_blownMany v_t_badAct v_t_badWhy v_t_ruinAct v_t_ruinWho r7_1 v_t_isWriting r7_2 v_t_lost r9_0 r9_1 r9_2 hc10) wd_37_19 wd_37_20 wd_37_21 wd_1_5 wd_37_22 hX11_pass g_allgood ⟨rfl, rfl⟩ ⟨Nat.le_of_ble_eq_true rfl, Nat.le_of_ble_eq_true rfl⟩ ⟨Nat.zero_le _, Nat.zero_le _⟩ (ci := 9) (q0 := 0) rfl rfl rfl rfl hl.1 rfl (Nat.le_of_ble_eq_true rfl) dX11_passAll_54) rfl (g_had [o_t, (a_t 32)] rfl rfl) rfl (⟨⟨_, rfl, rfl⟩, ⟨⟨_, rfl, rfl⟩, ⟨⟨_, rfl, rfl⟩, ⟨⟨_, rfl, rfl⟩, ⟨⟨_, rfl, rfl⟩, ⟨⟨_, rfl, rfl⟩, ⟨⟨_, rfl, rfl⟩, trivial⟩⟩⟩⟩⟩⟩⟩) rfl rfl (by decide) (fun H locs hw => ?_)
  refine g_put (ws' := (wX11_passAll E o_t a_t r1_0 r3_0 r5_0 r7_0 r9_0 v_t_hours v_t_sights v_t_padMany v_t_acts v_t_blownMany v_t_badAct v_t_badWhy v_t_ruinAct v_t_ruinWho r9_1 v_t_isWriting f_t_at f_t_stem f_t_lungs f_t_blown f_t_heap f_t_sightBreath f_t_sightFlew r9_2)) hx hb hG hown hK hw inlX11 tyX11_ok nmX11 (ci := 9) rfl 0 9 (Nat.le_of_ble_eq_true rfl) rfl wd_10_5 rfl rfl rfl (Nat.le_of_ble_eq_true rfl) rfl dX11_passAll_57 (fun H locs hw => ?_)
  refine lv_aload_n hx hb dX11_passAll_60 rfl (lv_at hl 0 rfl) ?_
  refine lv_aload_n hx hb dX11_passAll_61 rfl (lv_at hl 0 rfl) ?_
  refine lv_aload_n hx hb dX11_passAll_62 rfl (lv_at hl 0 rfl) ?_
  refine g_get hx hb hG hown hK hw inlX11 (ci := 9) rfl 0 10 (Nat.le_of_ble_eq_true rfl) rfl rfl wd_19_12 dX11_passAll_63 ?_
  obtain ⟨⟨r11_0, r11_1, r11_2⟩, hc12, hf⟩ := gB_s hf
  refine g_ki (is := [0, 8]) (isR := [1, 2, 3, 4, 5, 6, 7]) (nW := 9) (w1 := (wX11_pass E o_t a_t r1_0 r3_0 r5_0 r7_0 r9_0 v_t_hours v_t_sights v_t_padMany v_t_acts v_t_blownMany v_t_badAct v_t_badWhy v_t_ruinAct v_t_ruinWho r11_1 v_t_isWriting r11_2)) (ws' := (wX11_passAll E o_t a_t r1_0 r3_0 r5_0 r7_0 r9_0 v_t_hours v_t_sights v_t_padMany v_t_acts v_t_blownMany v_t_badAct v_t_badWhy v_t_ruinAct v_t_ruinWho r11_1 v_t_isWriting f_t_at f_t_stem f_t_lungs f_t_blown f_t_heap f_t_sightBreath f_t_sightFlew r11_2)) hw hA (g_rV hx hb hml hG hown hK hw (is := [0, 8]) rfl (by decide) (mX11_pass l E o_t a_t r1_0 r3_0 r5_0 r7_0 r9_0 v_t_hours v_t_sights v_t_padMany v_t_acts v_t_blownMany v_t_badAct v_t_badWhy v_t_ruinAct v_t_ruinWho r9_1 v_t_isWriting r9_2 v_t_hours r11_0 r11_1 r11_2 hc12) wd_37_19 wd_37_20 wd_37_21 wd_1_5 wd_37_22 hX11_pass g_allgood ⟨rfl, rfl⟩ ⟨Nat.le_of_ble_eq_true rfl, Nat.le_of_ble_eq_true rfl⟩ ⟨Nat.zero_le _, Nat.zero_le _⟩ (ci := 9) (q0 := 0) rfl rfl rfl rfl hl.1 rfl (Nat.le_of_ble_eq_true rfl) dX11_passAll_66) rfl (g_had [o_t, (a_t 32)] rfl rfl) rfl (⟨⟨_, rfl, rfl⟩, ⟨⟨_, rfl, rfl⟩, ⟨⟨_, rfl, rfl⟩, ⟨⟨_, rfl, rfl⟩, ⟨⟨_, rfl, rfl⟩, ⟨⟨_, rfl, rfl⟩, ⟨⟨_, rfl, rfl⟩, trivial⟩⟩⟩⟩⟩⟩⟩) rfl rfl (by decide) (fun H locs hw => ?_)
  refine g_put (ws' := (wX11_passAll E o_t a_t r1_0 r3_0 r5_0 r7_0 r9_0 r11_0 v_t_sights v_t_padMany v_t_acts v_t_blownMany v_t_badAct v_t_badWhy v_t_ruinAct v_t_ruinWho r11_1 v_t_isWriting f_t_at f_t_stem f_t_lungs f_t_blown f_t_heap f_t_sightBreath f_t_sightFlew r11_2)) hx hb hG hown hK hw inlX11 tyX11_ok nmX11 (ci := 9) rfl 0 10 (Nat.le_of_ble_eq_true rfl) rfl wd_19_12 rfl rfl rfl (Nat.le_of_ble_eq_true rfl) rfl dX11_passAll_69 (fun H locs hw => ?_)
  refine lv_aload_n hx hb dX11_passAll_72 rfl (lv_at hl 0 rfl) ?_
  refine lv_aload_n hx hb dX11_passAll_73 rfl (lv_at hl 0 rfl) ?_
  refine lv_aload_n hx hb dX11_passAll_74 rfl (lv_at hl 0 rfl) ?_
  refine g_get hx hb hG hown hK hw inlX11 (ci := 9) rfl 0 13 (Nat.le_of_ble_eq_true rfl) rfl rfl wd_31_4 dX11_passAll_75 ?_
  obtain ⟨⟨r13_0, r13_1, r13_2⟩, hc14, hf⟩ := gB_s hf
  refine g_ki (is := [0, 8]) (isR := [1, 2, 3, 4, 5, 6, 7]) (nW := 9) (w1 := (wX11_pass E o_t a_t r1_0 r3_0 r5_0 r7_0 r9_0 r11_0 v_t_sights v_t_padMany v_t_acts v_t_blownMany v_t_badAct v_t_badWhy v_t_ruinAct v_t_ruinWho r13_1 v_t_isWriting r13_2)) (ws' := (wX11_passAll E o_t a_t r1_0 r3_0 r5_0 r7_0 r9_0 r11_0 v_t_sights v_t_padMany v_t_acts v_t_blownMany v_t_badAct v_t_badWhy v_t_ruinAct v_t_ruinWho r13_1 v_t_isWriting f_t_at f_t_stem f_t_lungs f_t_blown f_t_heap f_t_sightBreath f_t_sightFlew r13_2)) hw hA (g_rV hx hb hml hG hown hK hw (is := [0, 8]) rfl (by decide) (mX11_pass l E o_t a_t r1_0 r3_0 r5_0 r7_0 r9_0 r11_0 v_t_sights v_t_padMany v_t_acts v_t_blownMany v_t_badAct v_t_badWhy v_t_ruinAct v_t_ruinWho r11_1 v_t_isWriting r11_2 v_t_sights r13_0 r13_1 r13_2 hc14) wd_37_19 wd_37_20 wd_37_21 wd_1_5 wd_37_22 hX11_pass g_allgood ⟨rfl, rfl⟩ ⟨Nat.le_of_ble_eq_true rfl, Nat.le_of_ble_eq_true rfl⟩ ⟨Nat.zero_le _, Nat.zero_le _⟩ (ci := 9) (q0 := 0) rfl rfl rfl rfl hl.1 rfl (Nat.le_of_ble_eq_true rfl) dX11_passAll_78) rfl (g_had [o_t, (a_t 32)] rfl rfl) rfl (⟨⟨_, rfl, rfl⟩, ⟨⟨_, rfl, rfl⟩, ⟨⟨_, rfl, rfl⟩, ⟨⟨_, rfl, rfl⟩, ⟨⟨_, rfl, rfl⟩, ⟨⟨_, rfl, rfl⟩, ⟨⟨_, rfl, rfl⟩, trivial⟩⟩⟩⟩⟩⟩⟩) rfl rfl (by decide) (fun H locs hw => ?_)
  refine g_put (ws' := (wX11_passAll E o_t a_t r1_0 r3_0 r5_0 r7_0 r9_0 r11_0 r13_0 v_t_padMany v_t_acts v_t_blownMany v_t_badAct v_t_badWhy v_t_ruinAct v_t_ruinWho r13_1 v_t_isWriting f_t_at f_t_stem f_t_lungs f_t_blown f_t_heap f_t_sightBreath f_t_sightFlew r13_2)) hx hb hG hown hK hw inlX11 tyX11_ok nmX11 (ci := 9) rfl 0 13 (Nat.le_of_ble_eq_true rfl) rfl wd_31_4 rfl rfl rfl (Nat.le_of_ble_eq_true rfl) rfl dX11_passAll_81 (fun H locs hw => ?_)
  refine lv_aload_n hx hb dX11_passAll_84 rfl (lv_at hl 0 rfl) ?_
  refine lv_aload_n hx hb dX11_passAll_85 rfl (lv_at hl 0 rfl) ?_
  refine g_get hx hb hG hown hK hw inlX11 (ci := 9) rfl 0 1 (Nat.le_of_ble_eq_true rfl) rfl rfl wd_5_21 dX11_passAll_86 ?_
  refine lv_bipush (v := 6) hx hb dX11_passAll_89 k_b6 ?_
  obtain ⟨⟨r15_0, r15_1, r15_2⟩, hc16, hf⟩ := gB_s hf
  refine g_kv (is := [0, 8, 1]) (isR := [2, 3, 4, 5, 6, 7]) (nW := 9) (w1 := (wX11_passRow E o_t a_t (a_t 1) r1_0 r3_0 r5_0 r7_0 r9_0 r11_0 r13_0 v_t_padMany v_t_acts v_t_blownMany v_t_badAct v_t_badWhy v_t_ruinAct v_t_ruinWho r15_0 v_t_isWriting r15_1 6 r15_2)) (ws' := (wX11_passAll E o_t a_t r1_0 r3_0 r5_0 r7_0 r9_0 r11_0 r13_0 v_t_padMany v_t_acts v_t_blownMany v_t_badAct v_t_badWhy v_t_ruinAct v_t_ruinWho r15_0 v_t_isWriting r15_2 f_t_stem f_t_lungs f_t_blown f_t_heap f_t_sightBreath f_t_sightFlew r15_1)) hw hA (g_rV hx hb hml hG hown hK hw (is := [0, 8, 1]) rfl (by decide) (mX11_passRow l E o_t a_t (a_t 1) r1_0 r3_0 r5_0 r7_0 r9_0 r11_0 r13_0 v_t_padMany v_t_acts v_t_blownMany v_t_badAct v_t_badWhy v_t_ruinAct v_t_ruinWho r13_1 v_t_isWriting r13_2 6 f_t_at 6 r15_0 r15_1 r15_2 hc16) wd_37_23 wd_38_0 wd_38_1 wd_1_5 wd_38_2 hX11_passRow g_allgood ⟨rfl, rfl⟩ ⟨Nat.le_of_ble_eq_true rfl, Nat.le_of_ble_eq_true rfl⟩ ⟨Nat.zero_le _, Nat.zero_le _⟩ (ci := 9) (q0 := 0) rfl rfl rfl rfl hl.1 rfl (Nat.le_of_ble_eq_true rfl) dX11_passAll_91) rfl (g_had [o_t, (a_t 32), (a_t 1)] rfl rfl) rfl (⟨⟨_, rfl, rfl⟩, ⟨⟨_, rfl, rfl⟩, ⟨⟨_, rfl, rfl⟩, ⟨⟨_, rfl, rfl⟩, ⟨⟨_, rfl, rfl⟩, ⟨⟨_, rfl, rfl⟩, trivial⟩⟩⟩⟩⟩⟩) rfl rfl (by decide) (fun H locs hw => ?_)
  refine lv_aload_n hx hb dX11_passAll_94 rfl (lv_at hl 0 rfl) ?_
  refine lv_aload_n hx hb dX11_passAll_95 rfl (lv_at hl 0 rfl) ?_
  refine g_get hx hb hG hown hK hw inlX11 (ci := 9) rfl 0 2 (Nat.le_of_ble_eq_true rfl) rfl rfl wd_5_22 dX11_passAll_96 ?_
  refine lv_bipush (v := 6) hx hb dX11_passAll_99 k_b6 ?_
  obtain ⟨⟨r17_0, r17_1, r17_2⟩, hc18, hf⟩ := gB_s hf
  refine g_kv (is := [0, 8, 2]) (isR := [1, 3, 4, 5, 6, 7]) (nW := 9) (w1 := (wX11_passRow E o_t a_t (a_t 2) r1_0 r3_0 r5_0 r7_0 r9_0 r11_0 r13_0 v_t_padMany v_t_acts v_t_blownMany v_t_badAct v_t_badWhy v_t_ruinAct v_t_ruinWho r17_0 v_t_isWriting r17_1 6 r17_2)) (ws' := (wX11_passAll E o_t a_t r1_0 r3_0 r5_0 r7_0 r9_0 r11_0 r13_0 v_t_padMany v_t_acts v_t_blownMany v_t_badAct v_t_badWhy v_t_ruinAct v_t_ruinWho r17_0 v_t_isWriting r15_2 r17_2 f_t_lungs f_t_blown f_t_heap f_t_sightBreath f_t_sightFlew r17_1)) hw hA (g_rV hx hb hml hG hown hK hw (is := [0, 8, 2]) rfl (by decide) (mX11_passRow l E o_t a_t (a_t 2) r1_0 r3_0 r5_0 r7_0 r9_0 r11_0 r13_0 v_t_padMany v_t_acts v_t_blownMany v_t_badAct v_t_badWhy v_t_ruinAct v_t_ruinWho r15_0 v_t_isWriting r15_1 6 f_t_stem 6 r17_0 r17_1 r17_2 hc18) wd_37_23 wd_38_0 wd_38_1 wd_1_5 wd_38_2 hX11_passRow g_allgood ⟨rfl, rfl⟩ ⟨Nat.le_of_ble_eq_true rfl, Nat.le_of_ble_eq_true rfl⟩ ⟨Nat.zero_le _, Nat.zero_le _⟩ (ci := 9) (q0 := 0) rfl rfl rfl rfl hl.1 rfl (Nat.le_of_ble_eq_true rfl) dX11_passAll_101) rfl (g_had [o_t, (a_t 32), (a_t 2)] rfl rfl) rfl (⟨⟨_, rfl, rfl⟩, ⟨⟨_, rfl, rfl⟩, ⟨⟨_, rfl, rfl⟩, ⟨⟨_, rfl, rfl⟩, ⟨⟨_, rfl, rfl⟩, ⟨⟨_, rfl, rfl⟩, trivial⟩⟩⟩⟩⟩⟩) rfl rfl (by decide) (fun H locs hw => ?_)
  refine lv_aload_n hx hb dX11_passAll_104 rfl (lv_at hl 0 rfl) ?_
  refine lv_aload_n hx hb dX11_passAll_105 rfl (lv_at hl 0 rfl) ?_
  refine g_get hx hb hG hown hK hw inlX11 (ci := 9) rfl 0 3 (Nat.le_of_ble_eq_true rfl) rfl rfl wd_5_23 dX11_passAll_106 ?_
  refine lv_bipush (v := 6) hx hb dX11_passAll_109 k_b6 ?_
  obtain ⟨⟨r19_0, r19_1, r19_2⟩, hc20, hf⟩ := gB_s hf
  refine g_kv (is := [0, 8, 3]) (isR := [1, 2, 4, 5, 6, 7]) (nW := 9) (w1 := (wX11_passRow E o_t a_t (a_t 3) r1_0 r3_0 r5_0 r7_0 r9_0 r11_0 r13_0 v_t_padMany v_t_acts v_t_blownMany v_t_badAct v_t_badWhy v_t_ruinAct v_t_ruinWho r19_0 v_t_isWriting r19_1 6 r19_2)) (ws' := (wX11_passAll E o_t a_t r1_0 r3_0 r5_0 r7_0 r9_0 r11_0 r13_0 v_t_padMany v_t_acts v_t_blownMany v_t_badAct v_t_badWhy v_t_ruinAct v_t_ruinWho r19_0 v_t_isWriting r15_2 r17_2 r19_2 f_t_blown f_t_heap f_t_sightBreath f_t_sightFlew r19_1)) hw hA (g_rV hx hb hml hG hown hK hw (is := [0, 8, 3]) rfl (by decide) (mX11_passRow l E o_t a_t (a_t 3) r1_0 r3_0 r5_0 r7_0 r9_0 r11_0 r13_0 v_t_padMany v_t_acts v_t_blownMany v_t_badAct v_t_badWhy v_t_ruinAct v_t_ruinWho r17_0 v_t_isWriting r17_1 6 f_t_lungs 6 r19_0 r19_1 r19_2 hc20) wd_37_23 wd_38_0 wd_38_1 wd_1_5 wd_38_2 hX11_passRow g_allgood ⟨rfl, rfl⟩ ⟨Nat.le_of_ble_eq_true rfl, Nat.le_of_ble_eq_true rfl⟩ ⟨Nat.zero_le _, Nat.zero_le _⟩ (ci := 9) (q0 := 0) rfl rfl rfl rfl hl.1 rfl (Nat.le_of_ble_eq_true rfl) dX11_passAll_111) rfl (g_had [o_t, (a_t 32), (a_t 3)] rfl rfl) rfl (⟨⟨_, rfl, rfl⟩, ⟨⟨_, rfl, rfl⟩, ⟨⟨_, rfl, rfl⟩, ⟨⟨_, rfl, rfl⟩, ⟨⟨_, rfl, rfl⟩, ⟨⟨_, rfl, rfl⟩, trivial⟩⟩⟩⟩⟩⟩) rfl rfl (by decide) (fun H locs hw => ?_)
  refine lv_aload_n hx hb dX11_passAll_114 rfl (lv_at hl 0 rfl) ?_
  refine lv_aload_n hx hb dX11_passAll_115 rfl (lv_at hl 0 rfl) ?_
  refine g_get hx hb hG hown hK hw inlX11 (ci := 9) rfl 0 4 (Nat.le_of_ble_eq_true rfl) rfl rfl wd_6_0 dX11_passAll_116 ?_
  refine lv_bipush (v := 6) hx hb dX11_passAll_119 k_b6 ?_
  obtain ⟨⟨r21_0, r21_1, r21_2⟩, hc22, hf⟩ := gB_s hf
  refine g_kv (is := [0, 8, 4]) (isR := [1, 2, 3, 5, 6, 7]) (nW := 9) (w1 := (wX11_passRow E o_t a_t (a_t 4) r1_0 r3_0 r5_0 r7_0 r9_0 r11_0 r13_0 v_t_padMany v_t_acts v_t_blownMany v_t_badAct v_t_badWhy v_t_ruinAct v_t_ruinWho r21_0 v_t_isWriting r21_1 6 r21_2)) (ws' := (wX11_passAll E o_t a_t r1_0 r3_0 r5_0 r7_0 r9_0 r11_0 r13_0 v_t_padMany v_t_acts v_t_blownMany v_t_badAct v_t_badWhy v_t_ruinAct v_t_ruinWho r21_0 v_t_isWriting r15_2 r17_2 r19_2 r21_2 f_t_heap f_t_sightBreath f_t_sightFlew r21_1)) hw hA (g_rV hx hb hml hG hown hK hw (is := [0, 8, 4]) rfl (by decide) (mX11_passRow l E o_t a_t (a_t 4) r1_0 r3_0 r5_0 r7_0 r9_0 r11_0 r13_0 v_t_padMany v_t_acts v_t_blownMany v_t_badAct v_t_badWhy v_t_ruinAct v_t_ruinWho r19_0 v_t_isWriting r19_1 6 f_t_blown 6 r21_0 r21_1 r21_2 hc22) wd_37_23 wd_38_0 wd_38_1 wd_1_5 wd_38_2 hX11_passRow g_allgood ⟨rfl, rfl⟩ ⟨Nat.le_of_ble_eq_true rfl, Nat.le_of_ble_eq_true rfl⟩ ⟨Nat.zero_le _, Nat.zero_le _⟩ (ci := 9) (q0 := 0) rfl rfl rfl rfl hl.1 rfl (Nat.le_of_ble_eq_true rfl) dX11_passAll_121) rfl (g_had [o_t, (a_t 32), (a_t 4)] rfl rfl) rfl (⟨⟨_, rfl, rfl⟩, ⟨⟨_, rfl, rfl⟩, ⟨⟨_, rfl, rfl⟩, ⟨⟨_, rfl, rfl⟩, ⟨⟨_, rfl, rfl⟩, ⟨⟨_, rfl, rfl⟩, trivial⟩⟩⟩⟩⟩⟩) rfl rfl (by decide) (fun H locs hw => ?_)
  refine lv_aload_n hx hb dX11_passAll_124 rfl (lv_at hl 0 rfl) ?_
  refine lv_aload_n hx hb dX11_passAll_125 rfl (lv_at hl 0 rfl) ?_
  refine g_get hx hb hG hown hK hw inlX11 (ci := 9) rfl 0 5 (Nat.le_of_ble_eq_true rfl) rfl rfl wd_6_1 dX11_passAll_126 ?_
  refine lv_bipush (v := 36) hx hb dX11_passAll_129 k_b36 ?_
  obtain ⟨⟨r23_0, r23_1, r23_2⟩, hc24, hf⟩ := gB_s hf
  refine g_kv (is := [0, 8, 5]) (isR := [1, 2, 3, 4, 6, 7]) (nW := 9) (w1 := (wX11_passRow E o_t a_t (a_t 5) r1_0 r3_0 r5_0 r7_0 r9_0 r11_0 r13_0 v_t_padMany v_t_acts v_t_blownMany v_t_badAct v_t_badWhy v_t_ruinAct v_t_ruinWho r23_0 v_t_isWriting r23_1 36 r23_2)) (ws' := (wX11_passAll E o_t a_t r1_0 r3_0 r5_0 r7_0 r9_0 r11_0 r13_0 v_t_padMany v_t_acts v_t_blownMany v_t_badAct v_t_badWhy v_t_ruinAct v_t_ruinWho r23_0 v_t_isWriting r15_2 r17_2 r19_2 r21_2 r23_2 f_t_sightBreath f_t_sightFlew r23_1)) hw hA (g_rV hx hb hml hG hown hK hw (is := [0, 8, 5]) rfl (by decide) (mX11_passRow l E o_t a_t (a_t 5) r1_0 r3_0 r5_0 r7_0 r9_0 r11_0 r13_0 v_t_padMany v_t_acts v_t_blownMany v_t_badAct v_t_badWhy v_t_ruinAct v_t_ruinWho r21_0 v_t_isWriting r21_1 36 f_t_heap 36 r23_0 r23_1 r23_2 hc24) wd_37_23 wd_38_0 wd_38_1 wd_1_5 wd_38_2 hX11_passRow g_allgood ⟨rfl, rfl⟩ ⟨Nat.le_of_ble_eq_true rfl, Nat.le_of_ble_eq_true rfl⟩ ⟨Nat.zero_le _, Nat.zero_le _⟩ (ci := 9) (q0 := 0) rfl rfl rfl rfl hl.1 rfl (Nat.le_of_ble_eq_true rfl) dX11_passAll_131) rfl (g_had [o_t, (a_t 32), (a_t 5)] rfl rfl) rfl (⟨⟨_, rfl, rfl⟩, ⟨⟨_, rfl, rfl⟩, ⟨⟨_, rfl, rfl⟩, ⟨⟨_, rfl, rfl⟩, ⟨⟨_, rfl, rfl⟩, ⟨⟨_, rfl, rfl⟩, trivial⟩⟩⟩⟩⟩⟩) rfl rfl (by decide) (fun H locs hw => ?_)
  refine lv_aload_n hx hb dX11_passAll_134 rfl (lv_at hl 0 rfl) ?_
  refine lv_aload_n hx hb dX11_passAll_135 rfl (lv_at hl 0 rfl) ?_
  refine g_get hx hb hG hown hK hw inlX11 (ci := 9) rfl 0 11 (Nat.le_of_ble_eq_true rfl) rfl rfl wd_6_2 dX11_passAll_136 ?_
  refine lv_bipush (v := 8) hx hb dX11_passAll_139 k_b8 ?_
  obtain ⟨⟨r25_0, r25_1, r25_2⟩, hc26, hf⟩ := gB_s hf
  refine g_kv (is := [0, 8, 6]) (isR := [1, 2, 3, 4, 5, 7]) (nW := 9) (w1 := (wX11_passRow E o_t a_t (a_t 11) r1_0 r3_0 r5_0 r7_0 r9_0 r11_0 r13_0 v_t_padMany v_t_acts v_t_blownMany v_t_badAct v_t_badWhy v_t_ruinAct v_t_ruinWho r25_0 v_t_isWriting r25_1 8 r25_2)) (ws' := (wX11_passAll E o_t a_t r1_0 r3_0 r5_0 r7_0 r9_0 r11_0 r13_0 v_t_padMany v_t_acts v_t_blownMany v_t_badAct v_t_badWhy v_t_ruinAct v_t_ruinWho r25_0 v_t_isWriting r15_2 r17_2 r19_2 r21_2 r23_2 r25_2 f_t_sightFlew r25_1)) hw hA (g_rV hx hb hml hG hown hK hw (is := [0, 8, 6]) rfl (by decide) (mX11_passRow l E o_t a_t (a_t 11) r1_0 r3_0 r5_0 r7_0 r9_0 r11_0 r13_0 v_t_padMany v_t_acts v_t_blownMany v_t_badAct v_t_badWhy v_t_ruinAct v_t_ruinWho r23_0 v_t_isWriting r23_1 8 f_t_sightBreath 8 r25_0 r25_1 r25_2 hc26) wd_37_23 wd_38_0 wd_38_1 wd_1_5 wd_38_2 hX11_passRow g_allgood ⟨rfl, rfl⟩ ⟨Nat.le_of_ble_eq_true rfl, Nat.le_of_ble_eq_true rfl⟩ ⟨Nat.zero_le _, Nat.zero_le _⟩ (ci := 9) (q0 := 0) rfl rfl rfl rfl hl.1 rfl (Nat.le_of_ble_eq_true rfl) dX11_passAll_141) rfl (g_had [o_t, (a_t 32), (a_t 11)] rfl rfl) rfl (⟨⟨_, rfl, rfl⟩, ⟨⟨_, rfl, rfl⟩, ⟨⟨_, rfl, rfl⟩, ⟨⟨_, rfl, rfl⟩, ⟨⟨_, rfl, rfl⟩, ⟨⟨_, rfl, rfl⟩, trivial⟩⟩⟩⟩⟩⟩) rfl rfl (by decide) (fun H locs hw => ?_)
  refine lv_aload_n hx hb dX11_passAll_144 rfl (lv_at hl 0 rfl) ?_
  refine lv_aload_n hx hb dX11_passAll_145 rfl (lv_at hl 0 rfl) ?_
  refine g_get hx hb hG hown hK hw inlX11 (ci := 9) rfl 0 12 (Nat.le_of_ble_eq_true rfl) rfl rfl wd_6_3 dX11_passAll_146 ?_
  refine lv_bipush (v := 8) hx hb dX11_passAll_149 k_b8 ?_
  obtain ⟨⟨r27_0, r27_1, r27_2⟩, hc28, hf⟩ := gB_s hf
  refine g_kv (is := [0, 8, 7]) (isR := [1, 2, 3, 4, 5, 6]) (nW := 9) (w1 := (wX11_passRow E o_t a_t (a_t 12) r1_0 r3_0 r5_0 r7_0 r9_0 r11_0 r13_0 v_t_padMany v_t_acts v_t_blownMany v_t_badAct v_t_badWhy v_t_ruinAct v_t_ruinWho r27_0 v_t_isWriting r27_1 8 r27_2)) (ws' := (wX11_passAll E o_t a_t r1_0 r3_0 r5_0 r7_0 r9_0 r11_0 r13_0 v_t_padMany v_t_acts v_t_blownMany v_t_badAct v_t_badWhy v_t_ruinAct v_t_ruinWho r27_0 v_t_isWriting r15_2 r17_2 r19_2 r21_2 r23_2 r25_2 r27_2 r27_1)) hw hA (g_rV hx hb hml hG hown hK hw (is := [0, 8, 7]) rfl (by decide) (mX11_passRow l E o_t a_t (a_t 12) r1_0 r3_0 r5_0 r7_0 r9_0 r11_0 r13_0 v_t_padMany v_t_acts v_t_blownMany v_t_badAct v_t_badWhy v_t_ruinAct v_t_ruinWho r25_0 v_t_isWriting r25_1 8 f_t_sightFlew 8 r27_0 r27_1 r27_2 hc28) wd_37_23 wd_38_0 wd_38_1 wd_1_5 wd_38_2 hX11_passRow g_allgood ⟨rfl, rfl⟩ ⟨Nat.le_of_ble_eq_true rfl, Nat.le_of_ble_eq_true rfl⟩ ⟨Nat.zero_le _, Nat.zero_le _⟩ (ci := 9) (q0 := 0) rfl rfl rfl rfl hl.1 rfl (Nat.le_of_ble_eq_true rfl) dX11_passAll_151) rfl (g_had [o_t, (a_t 32), (a_t 12)] rfl rfl) rfl (⟨⟨_, rfl, rfl⟩, ⟨⟨_, rfl, rfl⟩, ⟨⟨_, rfl, rfl⟩, ⟨⟨_, rfl, rfl⟩, ⟨⟨_, rfl, rfl⟩, ⟨⟨_, rfl, rfl⟩, trivial⟩⟩⟩⟩⟩⟩) rfl rfl (by decide) (fun H locs hw => ?_)
  exact hret1 (r1_0, r3_0, r5_0, r7_0, r9_0, r11_0, r13_0, r27_0, r15_2, r17_2, r19_2, r21_2, r23_2, r25_2, r27_2, r27_1) _ _ _ _ hf hw dX11_passAll_154
theorem hX11_image : yX11_image.cls = RX11 ∧ yX11_image.cls ≠ "java/lang/invoke/MethodHandle" ∧ yX11_image.cls ≠ "java/lang/invoke/VarHandle" ∧ (parseMethodDescriptor yX11_image.desc).map (fun d => d.parameters.length) = some 1 := by decide +kernel
set_option maxHeartbeats 4000000 in
set_option maxRecDepth 100000 in
theorem mX11_image (l : Launch) (E : gE) (o_t : Nat) (a_t : (Nat → Nat)) (v_t_there : Int32) (v_t_wind : Int32) (v_t_force : Int32) (v_t_rains : Int32) (v_t_lost : Int32) (v_t_hours : Int32) (v_t_sights : Int32) (v_t_padMany : Int32) (v_t_acts : Int32) (v_t_blownMany : Int32) (v_t_badAct : Int32) (v_t_badWhy : Int32) (v_t_ruinAct : Int32) (v_t_ruinWho : Int32) (v_t_keptAt : Int32) (v_t_isWriting : Int32) (f_t_at : (Nat → Int32)) (f_t_stem : (Nat → Int32)) (f_t_lungs : (Nat → Int32)) (f_t_blown : (Nat → Int32)) (f_t_heap : (Nat → Int32)) (f_t_sightBreath : (Nat → Int32)) (f_t_sightFlew : (Nat → Int32)) (f_t_kept : (Nat → Int32)) (f_t_isKept : (Nat → Int32)) (x1 : Int32) (rv : Int32) (z_t_there : Int32) (z_t_wind : Int32) (z_t_force : Int32) (z_t_rains : Int32) (z_t_lost : Int32) (z_t_hours : Int32) (z_t_sights : Int32) (z_t_keptAt : Int32) (z_t_isWriting : Int32) (z_t_at : (Nat → Int32)) (z_t_stem : (Nat → Int32)) (z_t_lungs : (Nat → Int32)) (z_t_blown : (Nat → Int32)) (z_t_heap : (Nat → Int32)) (z_t_sightBreath : (Nat → Int32)) (z_t_sightFlew : (Nat → Int32)) (z_t_kept : (Nat → Int32)) (z_t_isKept : (Nat → Int32)) (hf : fX11_image v_t_there v_t_wind v_t_force v_t_rains v_t_lost v_t_hours v_t_sights v_t_keptAt v_t_isWriting f_t_at f_t_stem f_t_lungs f_t_blown f_t_heap f_t_sightBreath f_t_sightFlew f_t_kept f_t_isKept x1 = some (rv, z_t_there, z_t_wind, z_t_force, z_t_rains, z_t_lost, z_t_hours, z_t_sights, z_t_keptAt, z_t_isWriting, z_t_at, z_t_stem, z_t_lungs, z_t_blown, z_t_heap, z_t_sightBreath, z_t_sightFlew, z_t_kept, z_t_isKept)) {sz : Nat} : gMi l yX11_image (gW yX11_image cX11_image 2 (some .int)) ({ frames := 3, cells := 0, slots := 0, locals := 65 } : Room) E [.ref o_t, .int x1] (wX11_image E o_t a_t v_t_there v_t_wind v_t_force v_t_rains v_t_lost v_t_hours v_t_sights v_t_padMany v_t_acts v_t_blownMany v_t_badAct v_t_badWhy v_t_ruinAct v_t_ruinWho v_t_keptAt v_t_isWriting f_t_at f_t_stem f_t_lungs f_t_blown f_t_heap f_t_sightBreath f_t_sightFlew f_t_kept f_t_isKept) sz rv (wX11_image E o_t a_t z_t_there z_t_wind z_t_force z_t_rains z_t_lost z_t_hours z_t_sights v_t_padMany v_t_acts v_t_blownMany v_t_badAct v_t_badWhy v_t_ruinAct v_t_ruinWho z_t_keptAt z_t_isWriting z_t_at z_t_stem z_t_lungs z_t_blown z_t_heap z_t_sightBreath z_t_sightFlew z_t_kept z_t_isKept) := by
  refine g_openI (own := RX11) (by decide) rfl (Nat.le_of_ble_eq_true rfl) (fun p e s m args below meth cd Q A hx hb hml hown hG hK hA hret hw ls hl => ?_)
  have hl : lv_has ls 2 [(0, .ref o_t), (1, .int x1)] := hl
  have hret1 : ∀ (t : Int32 × Int32 × Int32 × Int32 × Int32 × Int32 × Int32 × Int32 × Int32 × Int32 × (Nat → Int32) × (Nat → Int32) × (Nat → Int32) × (Nat → Int32) × (Nat → Int32) × (Nat → Int32) × (Nat → Int32) × (Nat → Int32) × (Nat → Int32)) (H : Heap) (locs : List Loc) (pc : Nat) (ls : Array Slot), some t = some (rv, z_t_there, z_t_wind, z_t_force, z_t_rains, z_t_lost, z_t_hours, z_t_sights, z_t_keptAt, z_t_isWriting, z_t_at, z_t_stem, z_t_lungs, z_t_blown, z_t_heap, z_t_sightBreath, z_t_sightFlew, z_t_kept, z_t_isKept) → gS E A s.heap (wX11_image E o_t a_t t.2.1 t.2.2.1 t.2.2.2.1 t.2.2.2.2.1 t.2.2.2.2.2.1 t.2.2.2.2.2.2.1 t.2.2.2.2.2.2.2.1 v_t_padMany v_t_acts v_t_blownMany v_t_badAct v_t_badWhy v_t_ruinAct v_t_ruinWho t.2.2.2.2.2.2.2.2.1 t.2.2.2.2.2.2.2.2.2.1 t.2.2.2.2.2.2.2.2.2.2.1 t.2.2.2.2.2.2.2.2.2.2.2.1 t.2.2.2.2.2.2.2.2.2.2.2.2.1 t.2.2.2.2.2.2.2.2.2.2.2.2.2.1 t.2.2.2.2.2.2.2.2.2.2.2.2.2.2.1 t.2.2.2.2.2.2.2.2.2.2.2.2.2.2.2.1 t.2.2.2.2.2.2.2.2.2.2.2.2.2.2.2.2.1 t.2.2.2.2.2.2.2.2.2.2.2.2.2.2.2.2.2.1 t.2.2.2.2.2.2.2.2.2.2.2.2.2.2.2.2.2.2) H locs → decode cX11_image pc = .ok (.ireturn, 1) → W p l e ({ frames := 3, cells := 0, slots := 0, locals := 65 } : Room) s m args below meth cd H locs 0 0 Q (F0 m pc ls [.int t.1]) := by
    intro t H locs pc ls h hw hd
    obtain rfl : t = (rv, z_t_there, z_t_wind, z_t_force, z_t_rains, z_t_lost, z_t_hours, z_t_sights, z_t_keptAt, z_t_isWriting, z_t_at, z_t_stem, z_t_lungs, z_t_blown, z_t_heap, z_t_sightBreath, z_t_sightFlew, z_t_kept, z_t_isKept) := Option.some.inj h
    exact hret H locs pc ls hw hd
  refine lv_iload_n hx hb dX11_image_0 rfl (lv_at hl 1 rfl) ?_
  refine lv_i2l hx hb dX11_image_1 rfl ?_
  refine lv_lconst (v := 0) hx hb dX11_image_2 k_l0 ?_
  refine lv_lconst (v := 1) hx hb dX11_image_3 k_l1 ?_
  obtain ⟨r1, hc2, hf⟩ := gB_s hf
  refine g_ki0 (is := []) hw hA (g_rS hx hb hml hG hown hK hw (is := []) rfl (by decide) (mX11_in l E (Int32.toInt64 x1) 0 1 r1 hc2) wd_8_10 wd_8_11 wd_1_5 wd_8_12 hX11_in g_allgood ⟨rfl, rfl⟩ ⟨Nat.le_of_ble_eq_true rfl, Nat.le_of_ble_eq_true rfl⟩ ⟨Nat.zero_le _, Nat.zero_le _⟩ rfl hl.1 rfl (Nat.le_of_ble_eq_true rfl) dX11_image_4) rfl (fun H locs hw => ?_)
  refine lv_if_ne (tgt := 13) hx hb dX11_image_7 (by decide) (fun hc => ?_) (fun hc => ?_)
  · have hf := g_f hc hf
    refine lv_aload_n hx hb dX11_image_13 rfl (lv_at hl 0 rfl) ?_
    refine lv_bipush (v := 90) hx hb dX11_image_14 k_b90 ?_
    refine lv_iload_n hx hb dX11_image_16 rfl (lv_at hl 1 rfl) ?_
    refine lv_imul hx hb dX11_image_17 ?_
    refine g_put (ws' := (wX11_image E o_t a_t v_t_there v_t_wind v_t_force v_t_rains v_t_lost v_t_hours v_t_sights v_t_padMany v_t_acts v_t_blownMany v_t_badAct v_t_badWhy v_t_ruinAct v_t_ruinWho (90 * x1) v_t_isWriting f_t_at f_t_stem f_t_lungs f_t_blown f_t_heap f_t_sightBreath f_t_sightFlew f_t_kept f_t_isKept)) hx hb hG hown hK hw inlX11 tyX11_ok nmX11 (ci := 9) rfl 0 34 (Nat.le_of_ble_eq_true rfl) rfl wd_37_13 rfl rfl rfl (Nat.le_of_ble_eq_true rfl) rfl dX11_image_18 (fun H locs hw => ?_)
    refine lv_aload_n hx hb dX11_image_21 rfl (lv_at hl 0 rfl) ?_
    refine lv_iconst (v := 1) hx hb dX11_image_22 k_i1 ?_
    refine g_put (ws' := (wX11_image E o_t a_t v_t_there v_t_wind v_t_force v_t_rains v_t_lost v_t_hours v_t_sights v_t_padMany v_t_acts v_t_blownMany v_t_badAct v_t_badWhy v_t_ruinAct v_t_ruinWho (90 * x1) 1 f_t_at f_t_stem f_t_lungs f_t_blown f_t_heap f_t_sightBreath f_t_sightFlew f_t_kept f_t_isKept)) hx hb hG hown hK hw inlX11 tyX11_ok nmX11 (ci := 9) rfl 0 35 (Nat.le_of_ble_eq_true rfl) rfl wd_37_14 rfl (by decide) (by decide) (Nat.le_of_ble_eq_true rfl) rfl dX11_image_23 (fun H locs hw => ?_)
    refine lv_aload_n hx hb dX11_image_26 rfl (lv_at hl 0 rfl) ?_
    obtain ⟨⟨r3_0, r3_1, r3_2, r3_3, r3_4, r3_5, r3_6, r3_7, r3_8, r3_9, r3_10, r3_11, r3_12, r3_13, r3_14, r3_15⟩, hc4, hf⟩ := gB_s hf
    refine g_kv (is := [0, 1, 2, 3, 4, 5, 6, 7, 8]) (isR := [9]) (nW := 10) (w1 := (wX11_passAll E o_t a_t r3_0 r3_1 r3_2 r3_3 r3_4 r3_5 r3_6 v_t_padMany v_t_acts v_t_blownMany v_t_badAct v_t_badWhy v_t_ruinAct v_t_ruinWho r3_7 1 r3_8 r3_9 r3_10 r3_11 r3_12 r3_13 r3_14 r3_15)) (ws' := (wX11_image E o_t a_t r3_0 r3_1 r3_2 r3_3 r3_4 r3_5 r3_6 v_t_padMany v_t_acts v_t_blownMany v_t_badAct v_t_badWhy v_t_ruinAct v_t_ruinWho r3_7 1 r3_8 r3_9 r3_10 r3_11 r3_12 r3_13 r3_14 r3_15 f_t_isKept)) hw hA (g_rV hx hb hml hG hown hK hw (is := [0, 1, 2, 3, 4, 5, 6, 7, 8]) rfl (by decide) (mX11_passAll l E o_t a_t v_t_there v_t_wind v_t_force v_t_rains v_t_lost v_t_hours v_t_sights v_t_padMany v_t_acts v_t_blownMany v_t_badAct v_t_badWhy v_t_ruinAct v_t_ruinWho (90 * x1) 1 f_t_at f_t_stem f_t_lungs f_t_blown f_t_heap f_t_sightBreath f_t_sightFlew f_t_kept r3_0 r3_1 r3_2 r3_3 r3_4 r3_5 r3_6 r3_7 r3_8 r3_9 r3_10 r3_11 r3_12 r3_13 r3_14 r3_15 hc4) wd_37_15 wd_37_16 wd_37_17 wd_1_5 wd_37_18 hX11_passAll g_allgood ⟨rfl, rfl⟩ ⟨Nat.le_of_ble_eq_true rfl, Nat.le_of_ble_eq_true rfl⟩ ⟨Nat.zero_le _, Nat.zero_le _⟩ (ci := 9) (q0 := 0) rfl rfl rfl rfl hl.1 rfl (Nat.le_of_ble_eq_true rfl) dX11_image_27) rfl (g_had [o_t, (a_t 1), (a_t 2), (a_t 3), (a_t 4), (a_t 5), (a_t 11), (a_t 12), (a_t 32)] rfl rfl) rfl (⟨⟨_, rfl, rfl⟩, trivial⟩) rfl rfl (by decide) (fun H locs hw => ?_)
    refine lv_aload_n hx hb dX11_image_30 rfl (lv_at hl 0 rfl) ?_
    refine g_get hx hb hG hown hK hw inlX11 (ci := 9) rfl 0 33 (Nat.le_of_ble_eq_true rfl) rfl rfl wd_6_18 dX11_image_31 ?_
    refine lv_iload_n hx hb dX11_image_34 rfl (lv_at hl 1 rfl) ?_
    refine lv_iconst (v := 1) hx hb dX11_image_35 k_i1 ?_
    obtain ⟨hi5, hf⟩ := gA_s hf
    refine g_zast (ws' := (wX11_image E o_t a_t r3_0 r3_1 r3_2 r3_3 r3_4 r3_5 r3_6 v_t_padMany v_t_acts v_t_blownMany v_t_badAct v_t_badWhy v_t_ruinAct v_t_ruinWho r3_7 1 r3_8 r3_9 r3_10 r3_11 r3_12 r3_13 r3_14 r3_15 (upd f_t_isKept (Int32.toNatClampNeg x1) 1))) hx hb hK hw 9 rfl hi5 rfl rfl dX11_image_36 (fun H locs hw => ?_)
    refine lv_iconst (v := 1) hx hb dX11_image_37 k_i1 ?_
    exact hret1 (1, r3_0, r3_1, r3_2, r3_3, r3_4, r3_5, r3_6, r3_7, 1, r3_8, r3_9, r3_10, r3_11, r3_12, r3_13, r3_14, r3_15, (upd f_t_isKept (Int32.toNatClampNeg x1) 1)) _ _ _ _ hf hw dX11_image_38
  · have hf := g_t hc hf
    refine lv_bipush (v := -2) hx hb dX11_image_10 k_bm2 ?_
    exact hret1 ((-2), v_t_there, v_t_wind, v_t_force, v_t_rains, v_t_lost, v_t_hours, v_t_sights, v_t_keptAt, v_t_isWriting, f_t_at, f_t_stem, f_t_lungs, f_t_blown, f_t_heap, f_t_sightBreath, f_t_sightFlew, f_t_kept, f_t_isKept) _ _ _ _ hf hw dX11_image_12
theorem hX11_restore : yX11_restore.cls = RX11 ∧ yX11_restore.cls ≠ "java/lang/invoke/MethodHandle" ∧ yX11_restore.cls ≠ "java/lang/invoke/VarHandle" ∧ (parseMethodDescriptor yX11_restore.desc).map (fun d => d.parameters.length) = some 1 := by decide +kernel
set_option maxHeartbeats 4000000 in
set_option maxRecDepth 100000 in
theorem mX11_restore (l : Launch) (E : gE) (o_t : Nat) (a_t : (Nat → Nat)) (v_t_there : Int32) (v_t_wind : Int32) (v_t_force : Int32) (v_t_rains : Int32) (v_t_lost : Int32) (v_t_hours : Int32) (v_t_sights : Int32) (v_t_padMany : Int32) (v_t_acts : Int32) (v_t_blownMany : Int32) (v_t_badAct : Int32) (v_t_badWhy : Int32) (v_t_ruinAct : Int32) (v_t_ruinWho : Int32) (v_t_keptAt : Int32) (v_t_isWriting : Int32) (f_t_at : (Nat → Int32)) (f_t_stem : (Nat → Int32)) (f_t_lungs : (Nat → Int32)) (f_t_blown : (Nat → Int32)) (f_t_heap : (Nat → Int32)) (f_t_sightBreath : (Nat → Int32)) (f_t_sightFlew : (Nat → Int32)) (f_t_kept : (Nat → Int32)) (f_t_isKept : (Nat → Int32)) (x1 : Int32) (rv : Int32) (z_t_there : Int32) (z_t_wind : Int32) (z_t_force : Int32) (z_t_rains : Int32) (z_t_lost : Int32) (z_t_hours : Int32) (z_t_sights : Int32) (z_t_keptAt : Int32) (z_t_isWriting : Int32) (z_t_at : (Nat → Int32)) (z_t_stem : (Nat → Int32)) (z_t_lungs : (Nat → Int32)) (z_t_blown : (Nat → Int32)) (z_t_heap : (Nat → Int32)) (z_t_sightBreath : (Nat → Int32)) (z_t_sightFlew : (Nat → Int32)) (z_t_kept : (Nat → Int32)) (hf : fX11_restore v_t_there v_t_wind v_t_force v_t_rains v_t_lost v_t_hours v_t_sights v_t_keptAt v_t_isWriting f_t_at f_t_stem f_t_lungs f_t_blown f_t_heap f_t_sightBreath f_t_sightFlew f_t_kept f_t_isKept x1 = some (rv, z_t_there, z_t_wind, z_t_force, z_t_rains, z_t_lost, z_t_hours, z_t_sights, z_t_keptAt, z_t_isWriting, z_t_at, z_t_stem, z_t_lungs, z_t_blown, z_t_heap, z_t_sightBreath, z_t_sightFlew, z_t_kept)) {sz : Nat} : gMi l yX11_restore (gW yX11_restore cX11_restore 2 (some .int)) ({ frames := 3, cells := 0, slots := 0, locals := 65 } : Room) E [.ref o_t, .int x1] (wX11_restore E o_t a_t v_t_there v_t_wind v_t_force v_t_rains v_t_lost v_t_hours v_t_sights v_t_padMany v_t_acts v_t_blownMany v_t_badAct v_t_badWhy v_t_ruinAct v_t_ruinWho v_t_keptAt v_t_isWriting f_t_at f_t_stem f_t_lungs f_t_blown f_t_heap f_t_sightBreath f_t_sightFlew f_t_kept f_t_isKept) sz rv (wX11_restore E o_t a_t z_t_there z_t_wind z_t_force z_t_rains z_t_lost z_t_hours z_t_sights v_t_padMany v_t_acts v_t_blownMany v_t_badAct v_t_badWhy v_t_ruinAct v_t_ruinWho z_t_keptAt z_t_isWriting z_t_at z_t_stem z_t_lungs z_t_blown z_t_heap z_t_sightBreath z_t_sightFlew z_t_kept f_t_isKept) := by
  refine g_openI (own := RX11) (by decide) rfl (Nat.le_of_ble_eq_true rfl) (fun p e s m args below meth cd Q A hx hb hml hown hG hK hA hret hw ls hl => ?_)
  have hl : lv_has ls 2 [(0, .ref o_t), (1, .int x1)] := hl
  have hret1 : ∀ (t : Int32 × Int32 × Int32 × Int32 × Int32 × Int32 × Int32 × Int32 × Int32 × Int32 × (Nat → Int32) × (Nat → Int32) × (Nat → Int32) × (Nat → Int32) × (Nat → Int32) × (Nat → Int32) × (Nat → Int32) × (Nat → Int32)) (H : Heap) (locs : List Loc) (pc : Nat) (ls : Array Slot), some t = some (rv, z_t_there, z_t_wind, z_t_force, z_t_rains, z_t_lost, z_t_hours, z_t_sights, z_t_keptAt, z_t_isWriting, z_t_at, z_t_stem, z_t_lungs, z_t_blown, z_t_heap, z_t_sightBreath, z_t_sightFlew, z_t_kept) → gS E A s.heap (wX11_restore E o_t a_t t.2.1 t.2.2.1 t.2.2.2.1 t.2.2.2.2.1 t.2.2.2.2.2.1 t.2.2.2.2.2.2.1 t.2.2.2.2.2.2.2.1 v_t_padMany v_t_acts v_t_blownMany v_t_badAct v_t_badWhy v_t_ruinAct v_t_ruinWho t.2.2.2.2.2.2.2.2.1 t.2.2.2.2.2.2.2.2.2.1 t.2.2.2.2.2.2.2.2.2.2.1 t.2.2.2.2.2.2.2.2.2.2.2.1 t.2.2.2.2.2.2.2.2.2.2.2.2.1 t.2.2.2.2.2.2.2.2.2.2.2.2.2.1 t.2.2.2.2.2.2.2.2.2.2.2.2.2.2.1 t.2.2.2.2.2.2.2.2.2.2.2.2.2.2.2.1 t.2.2.2.2.2.2.2.2.2.2.2.2.2.2.2.2.1 t.2.2.2.2.2.2.2.2.2.2.2.2.2.2.2.2.2 f_t_isKept) H locs → decode cX11_restore pc = .ok (.ireturn, 1) → W p l e ({ frames := 3, cells := 0, slots := 0, locals := 65 } : Room) s m args below meth cd H locs 0 0 Q (F0 m pc ls [.int t.1]) := by
    intro t H locs pc ls h hw hd
    obtain rfl : t = (rv, z_t_there, z_t_wind, z_t_force, z_t_rains, z_t_lost, z_t_hours, z_t_sights, z_t_keptAt, z_t_isWriting, z_t_at, z_t_stem, z_t_lungs, z_t_blown, z_t_heap, z_t_sightBreath, z_t_sightFlew, z_t_kept) := Option.some.inj h
    exact hret H locs pc ls hw hd
  refine lv_iload_n hx hb dX11_restore_0 rfl (lv_at hl 1 rfl) ?_
  refine lv_i2l hx hb dX11_restore_1 rfl ?_
  refine lv_lconst (v := 0) hx hb dX11_restore_2 k_l0 ?_
  refine lv_lconst (v := 1) hx hb dX11_restore_3 k_l1 ?_
  obtain ⟨r1, hc2, hf⟩ := gB_s hf
  refine g_ki0 (is := []) hw hA (g_rS hx hb hml hG hown hK hw (is := []) rfl (by decide) (mX11_in l E (Int32.toInt64 x1) 0 1 r1 hc2) wd_8_10 wd_8_11 wd_1_5 wd_8_12 hX11_in g_allgood ⟨rfl, rfl⟩ ⟨Nat.le_of_ble_eq_true rfl, Nat.le_of_ble_eq_true rfl⟩ ⟨Nat.zero_le _, Nat.zero_le _⟩ rfl hl.1 rfl (Nat.le_of_ble_eq_true rfl) dX11_restore_4) rfl (fun H locs hw => ?_)
  refine lv_if_ne (tgt := 13) hx hb dX11_restore_7 (by decide) (fun hc => ?_) (fun hc => ?_)
  · have hf := g_f hc hf
    refine lv_aload_n hx hb dX11_restore_13 rfl (lv_at hl 0 rfl) ?_
    refine g_get hx hb hG hown hK hw inlX11 (ci := 9) rfl 0 33 (Nat.le_of_ble_eq_true rfl) rfl rfl wd_6_18 dX11_restore_14 ?_
    refine lv_iload_n hx hb dX11_restore_17 rfl (lv_at hl 1 rfl) ?_
    obtain ⟨hi3, hf⟩ := gA_s hf
    refine g_zald hx hb hK hw 9 rfl hi3 dX11_restore_18 ?_
    refine lv_if_ne (tgt := 25) hx hb dX11_restore_19 (by decide) (fun hc => ?_) (fun hc => ?_)
    · have hf := g_f hc hf
      refine lv_aload_n hx hb dX11_restore_25 rfl (lv_at hl 0 rfl) ?_
      refine lv_bipush (v := 90) hx hb dX11_restore_26 k_b90 ?_
      refine lv_iload_n hx hb dX11_restore_28 rfl (lv_at hl 1 rfl) ?_
      refine lv_imul hx hb dX11_restore_29 ?_
      refine g_put (ws' := (wX11_restore E o_t a_t v_t_there v_t_wind v_t_force v_t_rains v_t_lost v_t_hours v_t_sights v_t_padMany v_t_acts v_t_blownMany v_t_badAct v_t_badWhy v_t_ruinAct v_t_ruinWho (90 * x1) v_t_isWriting f_t_at f_t_stem f_t_lungs f_t_blown f_t_heap f_t_sightBreath f_t_sightFlew f_t_kept f_t_isKept)) hx hb hG hown hK hw inlX11 tyX11_ok nmX11 (ci := 9) rfl 0 34 (Nat.le_of_ble_eq_true rfl) rfl wd_37_13 rfl rfl rfl (Nat.le_of_ble_eq_true rfl) rfl dX11_restore_30 (fun H locs hw => ?_)
      refine lv_aload_n hx hb dX11_restore_33 rfl (lv_at hl 0 rfl) ?_
      refine lv_iconst (v := 0) hx hb dX11_restore_34 k_i0 ?_
      refine g_put (ws' := (wX11_restore E o_t a_t v_t_there v_t_wind v_t_force v_t_rains v_t_lost v_t_hours v_t_sights v_t_padMany v_t_acts v_t_blownMany v_t_badAct v_t_badWhy v_t_ruinAct v_t_ruinWho (90 * x1) 0 f_t_at f_t_stem f_t_lungs f_t_blown f_t_heap f_t_sightBreath f_t_sightFlew f_t_kept f_t_isKept)) hx hb hG hown hK hw inlX11 tyX11_ok nmX11 (ci := 9) rfl 0 35 (Nat.le_of_ble_eq_true rfl) rfl wd_37_14 rfl (by decide) (by decide) (Nat.le_of_ble_eq_true rfl) rfl dX11_restore_35 (fun H locs hw => ?_)
      refine lv_aload_n hx hb dX11_restore_38 rfl (lv_at hl 0 rfl) ?_
      obtain ⟨⟨r4_0, r4_1, r4_2, r4_3, r4_4, r4_5, r4_6, r4_7, r4_8, r4_9, r4_10, r4_11, r4_12, r4_13, r4_14, r4_15⟩, hc5, hf⟩ := gB_s hf
      refine g_kv (is := [0, 1, 2, 3, 4, 5, 6, 7, 8]) (isR := [9]) (nW := 10) (w1 := (wX11_passAll E o_t a_t r4_0 r4_1 r4_2 r4_3 r4_4 r4_5 r4_6 v_t_padMany v_t_acts v_t_blownMany v_t_badAct v_t_badWhy v_t_ruinAct v_t_ruinWho r4_7 0 r4_8 r4_9 r4_10 r4_11 r4_12 r4_13 r4_14 r4_15)) (ws' := (wX11_restore E o_t a_t r4_0 r4_1 r4_2 r4_3 r4_4 r4_5 r4_6 v_t_padMany v_t_acts v_t_blownMany v_t_badAct v_t_badWhy v_t_ruinAct v_t_ruinWho r4_7 0 r4_8 r4_9 r4_10 r4_11 r4_12 r4_13 r4_14 r4_15 f_t_isKept)) hw hA (g_rV hx hb hml hG hown hK hw (is := [0, 1, 2, 3, 4, 5, 6, 7, 8]) rfl (by decide) (mX11_passAll l E o_t a_t v_t_there v_t_wind v_t_force v_t_rains v_t_lost v_t_hours v_t_sights v_t_padMany v_t_acts v_t_blownMany v_t_badAct v_t_badWhy v_t_ruinAct v_t_ruinWho (90 * x1) 0 f_t_at f_t_stem f_t_lungs f_t_blown f_t_heap f_t_sightBreath f_t_sightFlew f_t_kept r4_0 r4_1 r4_2 r4_3 r4_4 r4_5 r4_6 r4_7 r4_8 r4_9 r4_10 r4_11 r4_12 r4_13 r4_14 r4_15 hc5) wd_37_15 wd_37_16 wd_37_17 wd_1_5 wd_37_18 hX11_passAll g_allgood ⟨rfl, rfl⟩ ⟨Nat.le_of_ble_eq_true rfl, Nat.le_of_ble_eq_true rfl⟩ ⟨Nat.zero_le _, Nat.zero_le _⟩ (ci := 9) (q0 := 0) rfl rfl rfl rfl hl.1 rfl (Nat.le_of_ble_eq_true rfl) dX11_restore_39) rfl (g_had [o_t, (a_t 1), (a_t 2), (a_t 3), (a_t 4), (a_t 5), (a_t 11), (a_t 12), (a_t 32)] rfl rfl) rfl (⟨⟨_, rfl, rfl⟩, trivial⟩) rfl rfl (by decide) (fun H locs hw => ?_)
      refine lv_iconst (v := 1) hx hb dX11_restore_42 k_i1 ?_
      exact hret1 (1, r4_0, r4_1, r4_2, r4_3, r4_4, r4_5, r4_6, r4_7, 0, r4_8, r4_9, r4_10, r4_11, r4_12, r4_13, r4_14, r4_15) _ _ _ _ hf hw dX11_restore_43
    · have hf := g_t hc hf
      refine lv_bipush (v := -3) hx hb dX11_restore_22 k_bm3 ?_
      exact hret1 ((-3), v_t_there, v_t_wind, v_t_force, v_t_rains, v_t_lost, v_t_hours, v_t_sights, v_t_keptAt, v_t_isWriting, f_t_at, f_t_stem, f_t_lungs, f_t_blown, f_t_heap, f_t_sightBreath, f_t_sightFlew, f_t_kept) _ _ _ _ hf hw dX11_restore_24
  · have hf := g_t hc hf
    refine lv_bipush (v := -2) hx hb dX11_restore_10 k_bm2 ?_
    exact hret1 ((-2), v_t_there, v_t_wind, v_t_force, v_t_rains, v_t_lost, v_t_hours, v_t_sights, v_t_keptAt, v_t_isWriting, f_t_at, f_t_stem, f_t_lungs, f_t_blown, f_t_heap, f_t_sightBreath, f_t_sightFlew, f_t_kept) _ _ _ _ hf hw dX11_restore_12
theorem hX11_toldOf : yX11_toldOf.cls = RX11 ∧ yX11_toldOf.cls ≠ "java/lang/invoke/MethodHandle" ∧ yX11_toldOf.cls ≠ "java/lang/invoke/VarHandle" ∧ (parseMethodDescriptor yX11_toldOf.desc).map (fun d => d.parameters.length) = some 2 := by decide +kernel
set_option maxHeartbeats 4000000 in
set_option maxRecDepth 100000 in
theorem mX11_toldOf (l : Launch) (E : gE) (o_t : Nat) (a_t : (Nat → Nat)) (v_t_there : Int32) (v_t_wind : Int32) (v_t_force : Int32) (v_t_rains : Int32) (v_t_lost : Int32) (v_t_hours : Int32) (v_t_sights : Int32) (v_t_padMany : Int32) (v_t_acts : Int32) (v_t_blownMany : Int32) (v_t_badAct : Int32) (v_t_badWhy : Int32) (v_t_ruinAct : Int32) (v_t_ruinWho : Int32) (v_t_keptAt : Int32) (v_t_isWriting : Int32) (f_t_at : (Nat → Int32)) (f_t_stem : (Nat → Int32)) (f_t_lungs : (Nat → Int32)) (f_t_blown : (Nat → Int32)) (x1 : Int32) (x2 : Int32) (rv : Int32) (hf : fX11_toldOf v_t_there f_t_at f_t_stem f_t_lungs f_t_blown x1 x2 = some rv) {sz : Nat} : gMi l yX11_toldOf (gW yX11_toldOf cX11_toldOf 3 (some .int)) ({ frames := 2, cells := 0, slots := 0, locals := 46 } : Room) E [.ref o_t, .int x1, .int x2] (wX11_toldOf E o_t a_t v_t_there v_t_wind v_t_force v_t_rains v_t_lost v_t_hours v_t_sights v_t_padMany v_t_acts v_t_blownMany v_t_badAct v_t_badWhy v_t_ruinAct v_t_ruinWho v_t_keptAt v_t_isWriting f_t_at f_t_stem f_t_lungs f_t_blown) sz rv (wX11_toldOf E o_t a_t v_t_there v_t_wind v_t_force v_t_rains v_t_lost v_t_hours v_t_sights v_t_padMany v_t_acts v_t_blownMany v_t_badAct v_t_badWhy v_t_ruinAct v_t_ruinWho v_t_keptAt v_t_isWriting f_t_at f_t_stem f_t_lungs f_t_blown) := by
  refine g_openI (own := RX11) (by decide) rfl (Nat.le_of_ble_eq_true rfl) (fun p e s m args below meth cd Q A hx hb hml hown hG hK hA hret hw ls hl => ?_)
  have hl : lv_has ls 3 [(0, .ref o_t), (1, .int x1), (2, .int x2)] := hl
  have hret1 : ∀ (t : Int32) (H : Heap) (locs : List Loc) (pc : Nat) (ls : Array Slot), some t = some rv → gS E A s.heap (wX11_toldOf E o_t a_t v_t_there v_t_wind v_t_force v_t_rains v_t_lost v_t_hours v_t_sights v_t_padMany v_t_acts v_t_blownMany v_t_badAct v_t_badWhy v_t_ruinAct v_t_ruinWho v_t_keptAt v_t_isWriting f_t_at f_t_stem f_t_lungs f_t_blown) H locs → decode cX11_toldOf pc = .ok (.ireturn, 1) → W p l e ({ frames := 2, cells := 0, slots := 0, locals := 46 } : Room) s m args below meth cd H locs 0 0 Q (F0 m pc ls [.int t]) := by
    intro t H locs pc ls h hw hd
    obtain rfl : t = rv := Option.some.inj h
    exact hret H locs pc ls hw hd
  have B68 : ∀ (s0 : Int32) (H : Heap) (locs : List Loc) (ls : Array Slot), fX11_toldOf_b68 s0 = some rv → gS E A s.heap (wX11_toldOf E o_t a_t v_t_there v_t_wind v_t_force v_t_rains v_t_lost v_t_hours v_t_sights v_t_padMany v_t_acts v_t_blownMany v_t_badAct v_t_badWhy v_t_ruinAct v_t_ruinWho v_t_keptAt v_t_isWriting f_t_at f_t_stem f_t_lungs f_t_blown) H locs → lv_has ls 3 [] → W p l e ({ frames := 2, cells := 0, slots := 0, locals := 46 } : Room) s m args below meth cd H locs 0 0 Q (F0 m 68 ls [.int s0]) := by
    intro  s0 H locs ls hf hw hl
    exact hret1 s0 _ _ _ _ hf hw dX11_toldOf_68
  refine lv_aload_n hx hb dX11_toldOf_0 rfl (lv_at hl 0 rfl) ?_
  refine lv_iload_n hx hb dX11_toldOf_1 rfl (lv_at hl 1 rfl) ?_
  obtain ⟨r1, hc2, hf⟩ := gB_s hf
  refine g_ki0 (is := [0]) hw hA (g_rV hx hb hml hG hown hK hw (is := [0]) rfl (by decide) (mX11_isFamily l E o_t a_t v_t_there v_t_wind v_t_force v_t_rains v_t_lost v_t_hours v_t_sights v_t_padMany v_t_acts v_t_blownMany v_t_badAct v_t_badWhy v_t_ruinAct v_t_ruinWho v_t_keptAt v_t_isWriting x1 r1 hc2) wd_8_21 wd_8_22 wd_8_23 wd_1_5 wd_9_0 hX11_isFamily g_allgood ⟨rfl, rfl⟩ ⟨Nat.le_of_ble_eq_true rfl, Nat.le_of_ble_eq_true rfl⟩ ⟨Nat.zero_le _, Nat.zero_le _⟩ (ci := 9) (q0 := 0) rfl rfl rfl rfl hl.1 rfl (Nat.le_of_ble_eq_true rfl) dX11_toldOf_2) rfl (fun H locs hw => ?_)
  refine lv_if_ne (tgt := 11) hx hb dX11_toldOf_5 (by decide) (fun hc => ?_) (fun hc => ?_)
  · have hf := g_f hc hf
    refine lv_iload_n hx hb dX11_toldOf_11 rfl (lv_at hl 2 rfl) ?_
    refine lv_if_ne (tgt := 24) hx hb dX11_toldOf_12 (by decide) (fun hc => ?_) (fun hc => ?_)
    · have hf := g_f hc hf
      refine lv_iload_n hx hb dX11_toldOf_24 rfl (lv_at hl 2 rfl) ?_
      refine lv_iconst (v := 1) hx hb dX11_toldOf_25 k_i1 ?_
      refine lv_icmp_ne (tgt := 38) hx hb dX11_toldOf_26 (by decide) (fun hc => ?_) (fun hc => ?_)
      · have hf := g_f hc hf
        refine lv_iload_n hx hb dX11_toldOf_38 rfl (lv_at hl 2 rfl) ?_
        refine lv_iconst (v := 2) hx hb dX11_toldOf_39 k_i2 ?_
        refine lv_icmp_ne (tgt := 52) hx hb dX11_toldOf_40 (by decide) (fun hc => ?_) (fun hc => ?_)
        · have hf := g_f hc hf
          refine lv_iload_n hx hb dX11_toldOf_52 rfl (lv_at hl 2 rfl) ?_
          refine lv_iconst (v := 3) hx hb dX11_toldOf_53 k_i3 ?_
          refine lv_icmp_ne (tgt := 66) hx hb dX11_toldOf_54 (by decide) (fun hc => ?_) (fun hc => ?_)
          · have hf := g_f hc hf
            refine lv_bipush (v := -2) hx hb dX11_toldOf_66 k_bm2 ?_
            exact B68 (-2) _ _ _ hf hw (lv_sub hl [] rfl)
          · have hf := g_t hc hf
            refine lv_aload_n hx hb dX11_toldOf_57 rfl (lv_at hl 0 rfl) ?_
            refine g_get hx hb hG hown hK hw inlX11 (ci := 9) rfl 0 4 (Nat.le_of_ble_eq_true rfl) rfl rfl wd_6_0 dX11_toldOf_58 ?_
            refine lv_iload_n hx hb dX11_toldOf_61 rfl (lv_at hl 1 rfl) ?_
            obtain ⟨hi3, hf⟩ := gA_s hf
            refine g_iald hx hb hK hw 4 rfl hi3 dX11_toldOf_62 ?_
            refine lv_goto (tgt := 68) hx hb dX11_toldOf_63 (by decide) ?_
            exact B68 (f_t_blown (Int32.toNatClampNeg x1)) _ _ _ hf hw (lv_sub hl [] rfl)
        · have hf := g_t hc hf
          refine lv_aload_n hx hb dX11_toldOf_43 rfl (lv_at hl 0 rfl) ?_
          refine g_get hx hb hG hown hK hw inlX11 (ci := 9) rfl 0 3 (Nat.le_of_ble_eq_true rfl) rfl rfl wd_5_23 dX11_toldOf_44 ?_
          refine lv_iload_n hx hb dX11_toldOf_47 rfl (lv_at hl 1 rfl) ?_
          obtain ⟨hi4, hf⟩ := gA_s hf
          refine g_iald hx hb hK hw 3 rfl hi4 dX11_toldOf_48 ?_
          refine lv_goto (tgt := 68) hx hb dX11_toldOf_49 (by decide) ?_
          exact B68 (f_t_lungs (Int32.toNatClampNeg x1)) _ _ _ hf hw (lv_sub hl [] rfl)
      · have hf := g_t hc hf
        refine lv_aload_n hx hb dX11_toldOf_29 rfl (lv_at hl 0 rfl) ?_
        refine g_get hx hb hG hown hK hw inlX11 (ci := 9) rfl 0 2 (Nat.le_of_ble_eq_true rfl) rfl rfl wd_5_22 dX11_toldOf_30 ?_
        refine lv_iload_n hx hb dX11_toldOf_33 rfl (lv_at hl 1 rfl) ?_
        obtain ⟨hi5, hf⟩ := gA_s hf
        refine g_iald hx hb hK hw 2 rfl hi5 dX11_toldOf_34 ?_
        refine lv_goto (tgt := 68) hx hb dX11_toldOf_35 (by decide) ?_
        exact B68 (f_t_stem (Int32.toNatClampNeg x1)) _ _ _ hf hw (lv_sub hl [] rfl)
    · have hf := g_t hc hf
      refine lv_aload_n hx hb dX11_toldOf_15 rfl (lv_at hl 0 rfl) ?_
      refine g_get hx hb hG hown hK hw inlX11 (ci := 9) rfl 0 1 (Nat.le_of_ble_eq_true rfl) rfl rfl wd_5_21 dX11_toldOf_16 ?_
      refine lv_iload_n hx hb dX11_toldOf_19 rfl (lv_at hl 1 rfl) ?_
      obtain ⟨hi6, hf⟩ := gA_s hf
      refine g_iald hx hb hK hw 1 rfl hi6 dX11_toldOf_20 ?_
      refine lv_goto (tgt := 68) hx hb dX11_toldOf_21 (by decide) ?_
      exact B68 (f_t_at (Int32.toNatClampNeg x1)) _ _ _ hf hw (lv_sub hl [] rfl)
  · have hf := g_t hc hf
    refine lv_bipush (v := -2) hx hb dX11_toldOf_8 k_bm2 ?_
    exact hret1 (-2) _ _ _ _ hf hw dX11_toldOf_10
theorem hX11_told : yX11_told.cls = RX11 ∧ yX11_told.cls ≠ "java/lang/invoke/MethodHandle" ∧ yX11_told.cls ≠ "java/lang/invoke/VarHandle" ∧ (parseMethodDescriptor yX11_told.desc).map (fun d => d.parameters.length) = some 1 := by decide +kernel
set_option maxHeartbeats 4000000 in
set_option maxRecDepth 100000 in
theorem mX11_told (l : Launch) (E : gE) (o_t : Nat) (a_t : (Nat → Nat)) (v_t_there : Int32) (v_t_wind : Int32) (v_t_force : Int32) (v_t_rains : Int32) (v_t_lost : Int32) (v_t_hours : Int32) (v_t_sights : Int32) (v_t_padMany : Int32) (v_t_acts : Int32) (v_t_blownMany : Int32) (v_t_badAct : Int32) (v_t_badWhy : Int32) (v_t_ruinAct : Int32) (v_t_ruinWho : Int32) (v_t_keptAt : Int32) (v_t_isWriting : Int32) (f_t_at : (Nat → Int32)) (f_t_stem : (Nat → Int32)) (f_t_lungs : (Nat → Int32)) (f_t_blown : (Nat → Int32)) (f_t_heap : (Nat → Int32)) (x1 : Int32) (rv : Int32) (hf : fX11_told v_t_there v_t_wind v_t_force v_t_rains v_t_lost v_t_hours v_t_sights v_t_padMany f_t_at f_t_stem f_t_lungs f_t_blown f_t_heap x1 = some rv) {sz : Nat} : gMi l yX11_told (gW yX11_told cX11_told 2 (some .int)) ({ frames := 3, cells := 0, slots := 0, locals := 68 } : Room) E [.ref o_t, .int x1] (wX11_told E o_t a_t v_t_there v_t_wind v_t_force v_t_rains v_t_lost v_t_hours v_t_sights v_t_padMany v_t_acts v_t_blownMany v_t_badAct v_t_badWhy v_t_ruinAct v_t_ruinWho v_t_keptAt v_t_isWriting f_t_at f_t_stem f_t_lungs f_t_blown f_t_heap) sz rv (wX11_told E o_t a_t v_t_there v_t_wind v_t_force v_t_rains v_t_lost v_t_hours v_t_sights v_t_padMany v_t_acts v_t_blownMany v_t_badAct v_t_badWhy v_t_ruinAct v_t_ruinWho v_t_keptAt v_t_isWriting f_t_at f_t_stem f_t_lungs f_t_blown f_t_heap) := by
  refine g_openI (own := RX11) (by decide) rfl (Nat.le_of_ble_eq_true rfl) (fun p e s m args below meth cd Q A hx hb hml hown hG hK hA hret hw ls hl => ?_)
  have hl : lv_has ls 2 [(0, .ref o_t), (1, .int x1)] := hl
  have hret1 : ∀ (t : Int32) (H : Heap) (locs : List Loc) (pc : Nat) (ls : Array Slot), some t = some rv → gS E A s.heap (wX11_told E o_t a_t v_t_there v_t_wind v_t_force v_t_rains v_t_lost v_t_hours v_t_sights v_t_padMany v_t_acts v_t_blownMany v_t_badAct v_t_badWhy v_t_ruinAct v_t_ruinWho v_t_keptAt v_t_isWriting f_t_at f_t_stem f_t_lungs f_t_blown f_t_heap) H locs → decode cX11_told pc = .ok (.ireturn, 1) → W p l e ({ frames := 3, cells := 0, slots := 0, locals := 68 } : Room) s m args below meth cd H locs 0 0 Q (F0 m pc ls [.int t]) := by
    intro t H locs pc ls h hw hd
    obtain rfl : t = rv := Option.some.inj h
    exact hret H locs pc ls hw hd
  refine lv_iload_n hx hb dX11_told_0 rfl (lv_at hl 1 rfl) ?_
  refine lv_i2l hx hb dX11_told_1 rfl ?_
  refine lv_ldc2 hx hb hown (hG _ wd_39_6) dX11_told_2 ?_
  refine lv_ldc2 hx hb hown (hG _ wd_39_7) dX11_told_5 ?_
  obtain ⟨r1, hc2, hf⟩ := gB_s hf
  refine g_ki0 (is := []) hw hA (g_rS hx hb hml hG hown hK hw (is := []) rfl (by decide) (mX11_in l E (Int32.toInt64 x1) 100 135 r1 hc2) wd_8_10 wd_8_11 wd_1_5 wd_8_12 hX11_in g_allgood ⟨rfl, rfl⟩ ⟨Nat.le_of_ble_eq_true rfl, Nat.le_of_ble_eq_true rfl⟩ ⟨Nat.zero_le _, Nat.zero_le _⟩ rfl hl.1 rfl (Nat.le_of_ble_eq_true rfl) dX11_told_8) rfl (fun H locs hw => ?_)
  refine lv_if_eq (tgt := 24) hx hb dX11_told_11 (by decide) (fun hc => ?_) (fun hc => ?_)
  · have hf := g_t hc hf
    refine lv_iload_n hx hb dX11_told_24 rfl (lv_at hl 1 rfl) ?_
    refine lv_i2l hx hb dX11_told_25 rfl ?_
    refine lv_ldc2 hx hb hown (hG _ wd_39_8) dX11_told_26 ?_
    refine lv_ldc2 hx hb hown (hG _ wd_39_9) dX11_told_29 ?_
    obtain ⟨r3, hc4, hf⟩ := gB_s hf
    refine g_ki0 (is := []) hw hA (g_rS hx hb hml hG hown hK hw (is := []) rfl (by decide) (mX11_in l E (Int32.toInt64 x1) 10 69 r3 hc4) wd_8_10 wd_8_11 wd_1_5 wd_8_12 hX11_in g_allgood ⟨rfl, rfl⟩ ⟨Nat.le_of_ble_eq_true rfl, Nat.le_of_ble_eq_true rfl⟩ ⟨Nat.zero_le _, Nat.zero_le _⟩ rfl hl.1 rfl (Nat.le_of_ble_eq_true rfl) dX11_told_32) rfl (fun H locs hw => ?_)
    refine lv_if_eq (tgt := 53) hx hb dX11_told_35 (by decide) (fun hc => ?_) (fun hc => ?_)
    · have hf := g_t hc hf
      refine lv_iload_n hx hb dX11_told_53 rfl (lv_at hl 1 rfl) ?_
      by_cases hs5 : x1 = 0
      · have hf := g_t hs5 hf
        refine lv_tableIn (off := 46) (tgt := 100) hx hb dX11_told_54 (by rw [hs5]; decide) (by rw [hs5]; decide) (by rw [hs5] <;> rfl) (by decide) ?_
        refine lv_aload_n hx hb dX11_told_100 rfl (lv_at hl 0 rfl) ?_
        refine g_get hx hb hG hown hK hw inlX11 (ci := 9) rfl 0 15 (Nat.le_of_ble_eq_true rfl) rfl rfl wd_13_2 dX11_told_101 ?_
        exact hret1 v_t_padMany _ _ _ _ hf hw dX11_told_104
      have hf := g_f hs5 hf
      by_cases hs6 : x1 = 1
      · have hf := g_t hs6 hf
        refine lv_tableIn (off := 51) (tgt := 105) hx hb dX11_told_54 (by rw [hs6]; decide) (by rw [hs6]; decide) (by rw [hs6] <;> rfl) (by decide) ?_
        refine lv_aload_n hx hb dX11_told_105 rfl (lv_at hl 0 rfl) ?_
        refine g_get hx hb hG hown hK hw inlX11 (ci := 9) rfl 0 0 (Nat.le_of_ble_eq_true rfl) rfl rfl wd_8_9 dX11_told_106 ?_
        exact hret1 v_t_there _ _ _ _ hf hw dX11_told_109
      have hf := g_f hs6 hf
      by_cases hs7 : x1 = 2
      · have hf := g_t hs7 hf
        refine lv_tableIn (off := 56) (tgt := 110) hx hb dX11_told_54 (by rw [hs7]; decide) (by rw [hs7]; decide) (by rw [hs7] <;> rfl) (by decide) ?_
        refine lv_aload_n hx hb dX11_told_110 rfl (lv_at hl 0 rfl) ?_
        refine g_get hx hb hG hown hK hw inlX11 (ci := 9) rfl 0 6 (Nat.le_of_ble_eq_true rfl) rfl rfl wd_11_17 dX11_told_111 ?_
        exact hret1 v_t_wind _ _ _ _ hf hw dX11_told_114
      have hf := g_f hs7 hf
      by_cases hs8 : x1 = 3
      · have hf := g_t hs8 hf
        refine lv_tableIn (off := 61) (tgt := 115) hx hb dX11_told_54 (by rw [hs8]; decide) (by rw [hs8]; decide) (by rw [hs8] <;> rfl) (by decide) ?_
        refine lv_aload_n hx hb dX11_told_115 rfl (lv_at hl 0 rfl) ?_
        refine g_get hx hb hG hown hK hw inlX11 (ci := 9) rfl 0 7 (Nat.le_of_ble_eq_true rfl) rfl rfl wd_6_19 dX11_told_116 ?_
        exact hret1 v_t_force _ _ _ _ hf hw dX11_told_119
      have hf := g_f hs8 hf
      by_cases hs9 : x1 = 4
      · have hf := g_t hs9 hf
        refine lv_tableIn (off := 66) (tgt := 120) hx hb dX11_told_54 (by rw [hs9]; decide) (by rw [hs9]; decide) (by rw [hs9] <;> rfl) (by decide) ?_
        refine lv_aload_n hx hb dX11_told_120 rfl (lv_at hl 0 rfl) ?_
        refine g_get hx hb hG hown hK hw inlX11 (ci := 9) rfl 0 8 (Nat.le_of_ble_eq_true rfl) rfl rfl wd_11_18 dX11_told_121 ?_
        exact hret1 v_t_rains _ _ _ _ hf hw dX11_told_124
      have hf := g_f hs9 hf
      by_cases hs10 : x1 = 5
      · have hf := g_t hs10 hf
        refine lv_tableIn (off := 71) (tgt := 125) hx hb dX11_told_54 (by rw [hs10]; decide) (by rw [hs10]; decide) (by rw [hs10] <;> rfl) (by decide) ?_
        refine lv_aload_n hx hb dX11_told_125 rfl (lv_at hl 0 rfl) ?_
        refine g_get hx hb hG hown hK hw inlX11 (ci := 9) rfl 0 10 (Nat.le_of_ble_eq_true rfl) rfl rfl wd_19_12 dX11_told_126 ?_
        exact hret1 v_t_hours _ _ _ _ hf hw dX11_told_129
      have hf := g_f hs10 hf
      by_cases hs11 : x1 = 6
      · have hf := g_t hs11 hf
        refine lv_tableIn (off := 76) (tgt := 130) hx hb dX11_told_54 (by rw [hs11]; decide) (by rw [hs11]; decide) (by rw [hs11] <;> rfl) (by decide) ?_
        refine lv_aload_n hx hb dX11_told_130 rfl (lv_at hl 0 rfl) ?_
        refine g_get hx hb hG hown hK hw inlX11 (ci := 9) rfl 0 13 (Nat.le_of_ble_eq_true rfl) rfl rfl wd_31_4 dX11_told_131 ?_
        exact hret1 v_t_sights _ _ _ _ hf hw dX11_told_134
      have hf := g_f hs11 hf
      by_cases hs12 : x1 = 7
      · have hf := g_t hs12 hf
        refine lv_tableIn (off := 81) (tgt := 135) hx hb dX11_told_54 (by rw [hs12]; decide) (by rw [hs12]; decide) (by rw [hs12] <;> rfl) (by decide) ?_
        refine lv_aload_n hx hb dX11_told_135 rfl (lv_at hl 0 rfl) ?_
        refine g_get hx hb hG hown hK hw inlX11 (ci := 9) rfl 0 9 (Nat.le_of_ble_eq_true rfl) rfl rfl wd_10_5 dX11_told_136 ?_
        exact hret1 v_t_lost _ _ _ _ hf hw dX11_told_139
      have hf := g_f hs12 hf
      have nhs5 := lv_neT hs5 (show (0 : Int32).toInt = 0 from by decide)
      have nhs6 := lv_neT hs6 (show (1 : Int32).toInt = 1 from by decide)
      have nhs7 := lv_neT hs7 (show (2 : Int32).toInt = 2 from by decide)
      have nhs8 := lv_neT hs8 (show (3 : Int32).toInt = 3 from by decide)
      have nhs9 := lv_neT hs9 (show (4 : Int32).toInt = 4 from by decide)
      have nhs10 := lv_neT hs10 (show (5 : Int32).toInt = 5 from by decide)
      have nhs11 := lv_neT hs11 (show (6 : Int32).toInt = 6 from by decide)
      have nhs12 := lv_neT hs12 (show (7 : Int32).toInt = 7 from by decide)
      refine lv_tableOut (tgt := 140) hx hb dX11_told_54 (by omega) (by decide) ?_
      refine lv_bipush (v := -2) hx hb dX11_told_140 k_bm2 ?_
      exact hret1 (-2) _ _ _ _ hf hw dX11_told_142
    · have hf := g_f hc hf
      refine lv_aload_n hx hb dX11_told_38 rfl (lv_at hl 0 rfl) ?_
      refine lv_iload_n hx hb dX11_told_39 rfl (lv_at hl 1 rfl) ?_
      refine lv_bipush (v := 10) hx hb dX11_told_40 k_b10 ?_
      refine lv_idiv hx hb dX11_told_42 (by decide) ?_
      refine lv_iconst (v := 1) hx hb dX11_told_43 k_i1 ?_
      refine lv_isub hx hb dX11_told_44 ?_
      refine lv_iload_n hx hb dX11_told_45 rfl (lv_at hl 1 rfl) ?_
      refine lv_bipush (v := 10) hx hb dX11_told_46 k_b10 ?_
      refine g_irem hx hb dX11_told_48 (by decide) ?_
      obtain ⟨r13, hc14, hf⟩ := gB_s hf
      refine g_ki0 (is := [0, 1, 2, 3, 4]) hw hA (g_rV hx hb hml hG hown hK hw (is := [0, 1, 2, 3, 4]) rfl (by decide) (mX11_toldOf l E o_t a_t v_t_there v_t_wind v_t_force v_t_rains v_t_lost v_t_hours v_t_sights v_t_padMany v_t_acts v_t_blownMany v_t_badAct v_t_badWhy v_t_ruinAct v_t_ruinWho v_t_keptAt v_t_isWriting f_t_at f_t_stem f_t_lungs f_t_blown ((x1 / 10) - 1) (x1 % 10) r13 hc14) wd_39_10 wd_39_11 wd_39_12 wd_1_5 wd_39_13 hX11_toldOf g_allgood ⟨rfl, rfl⟩ ⟨Nat.le_of_ble_eq_true rfl, Nat.le_of_ble_eq_true rfl⟩ ⟨Nat.zero_le _, Nat.zero_le _⟩ (ci := 9) (q0 := 0) rfl rfl rfl rfl hl.1 rfl (Nat.le_of_ble_eq_true rfl) dX11_told_49) rfl (fun H locs hw => ?_)
      exact hret1 r13 _ _ _ _ hf hw dX11_told_52
  · have hf := g_f hc hf
    refine lv_aload_n hx hb dX11_told_14 rfl (lv_at hl 0 rfl) ?_
    refine g_get hx hb hG hown hK hw inlX11 (ci := 9) rfl 0 5 (Nat.le_of_ble_eq_true rfl) rfl rfl wd_6_1 dX11_told_15 ?_
    refine lv_iload_n hx hb dX11_told_18 rfl (lv_at hl 1 rfl) ?_
    refine lv_bipush (v := 100) hx hb dX11_told_19 k_b100 ?_
    refine lv_isub hx hb dX11_told_21 ?_
    obtain ⟨hi15, hf⟩ := gA_s hf
    refine g_iald hx hb hK hw 5 rfl hi15 dX11_told_22 ?_
    exact hret1 (f_t_heap (Int32.toNatClampNeg (x1 - 100))) _ _ _ _ hf hw dX11_told_23
