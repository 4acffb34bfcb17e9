set_option maxHeartbeats 4000000 in
set_option maxRecDepth 100000 in
theorem c_J6_bitCount_0f7a4 (l : Launch) (x0 : Int32) (post : Int32 → Prop) (hw : wp_J6_bitCount_0f7a4 x0 post) : Met l yJ6_bitCount_0f7a4 wsJ6_bitCount_0f7a4 rm_J6_bitCount_0f7a4 (va_Pc [.int x0] NW) (vp_Si post) 0 0 (fun _ => False) := by
  refine Met.ofW (cc := cJ6_bitCount_0f7a4) (maxL := 1) (ret := (some .int)) (by decide) rfl ?_
  intro p e s m args below meth c s₁ B hml hv
  obtain ⟨hargs, hN⟩ := hv
  have hx := B.exec
  have hb := B.bytes
  have hr := B.returns
  have hts := atoms_spec (ws := wsJ6_bitCount_0f7a4) B.pre
  have hown : s.vm.findClass RJ6 = some m.cls := findClass_of_methodNamed B.named
  have hlocks := B.notSynchronized
  have hc265 := hts (.constant RJ6 265 (1431655765)) (by decide +kernel)
  have hc266 := hts (.constant RJ6 266 (858993459)) (by decide +kernel)
  have hc267 := hts (.constant RJ6 267 (252645135)) (by decide +kernel)
  have hent := lg_entry_eq m ([.int x0]) 1
  rw [← hargs] at hent
  rw [hent]
  have hl := lv_entry ([.int x0]) (n := 1) (Nat.le_of_ble_eq_true rfl)
  generalize (lg_sl ([.int x0]) ++ List.replicate (1 - (lg_sl ([.int x0])).length) Slot.unset).toArray = ls at hl ⊢
  have hl : lv_has ls 1 [(0, .int x0)] := hl
  unfold wp_J6_bitCount_0f7a4 at hw
  refine lv_iload_n hx hb dJ6_bitCount_0f7a4_0 rfl (lv_at hl 0 rfl) ?_
  refine lv_iload_n hx hb dJ6_bitCount_0f7a4_1 rfl (lv_at hl 0 rfl) ?_
  refine lv_iconst (v := 1) hx hb dJ6_bitCount_0f7a4_2 (by decide) ?_
  refine lv_iushr (v := jiushr x0 1) hx hb dJ6_bitCount_0f7a4_3 rfl ?_
  refine lv_ldcw (v := 1431655765) hx hb hown hc265 dJ6_bitCount_0f7a4_4 ?_
  refine lv_iand hx hb dJ6_bitCount_0f7a4_7 ?_
  refine lv_isub hx hb dJ6_bitCount_0f7a4_8 ?_
  refine lv_topi (fun y1 ey1 => ?_)
  have hw := hw y1 ey1
  refine lv_istore_n (lv' := [(0, .int y1)]) hx hb dJ6_bitCount_0f7a4_9 rfl hl (by decide) rfl (fun ls hl => ?_)
  refine lv_iload_n hx hb dJ6_bitCount_0f7a4_10 rfl (lv_at hl 0 rfl) ?_
  refine lv_ldcw (v := 858993459) hx hb hown hc266 dJ6_bitCount_0f7a4_11 ?_
  refine lv_iand hx hb dJ6_bitCount_0f7a4_14 ?_
  refine lv_iload_n hx hb dJ6_bitCount_0f7a4_15 rfl (lv_at hl 0 rfl) ?_
  refine lv_iconst (v := 2) hx hb dJ6_bitCount_0f7a4_16 (by decide) ?_
  refine lv_iushr (v := jiushr y1 2) hx hb dJ6_bitCount_0f7a4_17 rfl ?_
  refine lv_ldcw (v := 858993459) hx hb hown hc266 dJ6_bitCount_0f7a4_18 ?_
  refine lv_iand hx hb dJ6_bitCount_0f7a4_21 ?_
  refine lv_iadd hx hb dJ6_bitCount_0f7a4_22 ?_
  refine lv_topi (fun y2 ey2 => ?_)
  have hw := hw y2 ey2
  refine lv_istore_n (lv' := [(0, .int y2)]) hx hb dJ6_bitCount_0f7a4_23 rfl hl (by decide) rfl (fun ls hl => ?_)
  refine lv_iload_n hx hb dJ6_bitCount_0f7a4_24 rfl (lv_at hl 0 rfl) ?_
  refine lv_iload_n hx hb dJ6_bitCount_0f7a4_25 rfl (lv_at hl 0 rfl) ?_
  refine lv_iconst (v := 4) hx hb dJ6_bitCount_0f7a4_26 (by decide) ?_
  refine lv_iushr (v := jiushr y2 4) hx hb dJ6_bitCount_0f7a4_27 rfl ?_
  refine lv_iadd hx hb dJ6_bitCount_0f7a4_28 ?_
  refine lv_ldcw (v := 252645135) hx hb hown hc267 dJ6_bitCount_0f7a4_29 ?_
  refine lv_iand hx hb dJ6_bitCount_0f7a4_32 ?_
  refine lv_topi (fun y3 ey3 => ?_)
  have hw := hw y3 ey3
  refine lv_istore_n (lv' := [(0, .int y3)]) hx hb dJ6_bitCount_0f7a4_33 rfl hl (by decide) rfl (fun ls hl => ?_)
  refine lv_iload_n hx hb dJ6_bitCount_0f7a4_34 rfl (lv_at hl 0 rfl) ?_
  refine lv_iload_n hx hb dJ6_bitCount_0f7a4_35 rfl (lv_at hl 0 rfl) ?_
  refine lv_bipush (v := 8) hx hb dJ6_bitCount_0f7a4_36 (by decide) ?_
  refine lv_iushr (v := jiushr y3 8) hx hb dJ6_bitCount_0f7a4_38 rfl ?_
  refine lv_iadd hx hb dJ6_bitCount_0f7a4_39 ?_
  refine lv_topi (fun y4 ey4 => ?_)
  have hw := hw y4 ey4
  refine lv_istore_n (lv' := [(0, .int y4)]) hx hb dJ6_bitCount_0f7a4_40 rfl hl (by decide) rfl (fun ls hl => ?_)
  refine lv_iload_n hx hb dJ6_bitCount_0f7a4_41 rfl (lv_at hl 0 rfl) ?_
  refine lv_iload_n hx hb dJ6_bitCount_0f7a4_42 rfl (lv_at hl 0 rfl) ?_
  refine lv_bipush (v := 16) hx hb dJ6_bitCount_0f7a4_43 (by decide) ?_
  refine lv_iushr (v := jiushr y4 16) hx hb dJ6_bitCount_0f7a4_45 rfl ?_
  refine lv_iadd hx hb dJ6_bitCount_0f7a4_46 ?_
  refine lv_topi (fun y5 ey5 => ?_)
  have hw := hw y5 ey5
  refine lv_istore_n (lv' := [(0, .int y5)]) hx hb dJ6_bitCount_0f7a4_47 rfl hl (by decide) rfl (fun ls hl => ?_)
  refine lv_iload_n hx hb dJ6_bitCount_0f7a4_48 rfl (lv_at hl 0 rfl) ?_
  refine lv_bipush (v := 63) hx hb dJ6_bitCount_0f7a4_49 (by decide) ?_
  refine lv_iand hx hb dJ6_bitCount_0f7a4_51 ?_
  exact W.iret (v := y5 &&& 63) hx hb hr (fun t ht hW => ⟨y5 &&& 63, rfl, hw, ht⟩) (fun _ h => by cases h) dJ6_bitCount_0f7a4_52
set_option maxHeartbeats 4000000 in
set_option maxRecDepth 100000 in
theorem c_J6_lowestOneBit_0f7a4 (l : Launch) (x0 : Int32) (post : Int32 → Prop) (hw : wp_J6_lowestOneBit_0f7a4 x0 post) : Met l yJ6_lowestOneBit_0f7a4 wsJ6_lowestOneBit_0f7a4 rm_J6_lowestOneBit_0f7a4 (va_Pc [.int x0] NW) (vp_Si post) 0 0 (fun _ => False) := by
  refine Met.ofW (cc := cJ6_lowestOneBit_0f7a4) (maxL := 1) (ret := (some .int)) (by decide) rfl ?_
  intro p e s m args below meth c s₁ B hml hv
  obtain ⟨hargs, hN⟩ := hv
  have hx := B.exec
  have hb := B.bytes
  have hr := B.returns
  have hts := atoms_spec (ws := wsJ6_lowestOneBit_0f7a4) B.pre
  have hown : s.vm.findClass RJ6 = some m.cls := findClass_of_methodNamed B.named
  have hlocks := B.notSynchronized
  have hent := lg_entry_eq m ([.int x0]) 1
  rw [← hargs] at hent
  rw [hent]
  have hl := lv_entry ([.int x0]) (n := 1) (Nat.le_of_ble_eq_true rfl)
  generalize (lg_sl ([.int x0]) ++ List.replicate (1 - (lg_sl ([.int x0])).length) Slot.unset).toArray = ls at hl ⊢
  have hl : lv_has ls 1 [(0, .int x0)] := hl
  unfold wp_J6_lowestOneBit_0f7a4 at hw
  refine lv_iload_n hx hb dJ6_lowestOneBit_0f7a4_0 rfl (lv_at hl 0 rfl) ?_
  refine lv_iload_n hx hb dJ6_lowestOneBit_0f7a4_1 rfl (lv_at hl 0 rfl) ?_
  refine lv_ineg hx hb dJ6_lowestOneBit_0f7a4_2 ?_
  refine lv_iand hx hb dJ6_lowestOneBit_0f7a4_3 ?_
  exact W.iret (v := x0 &&& (-x0)) hx hb hr (fun t ht hW => ⟨x0 &&& (-x0), rfl, hw, ht⟩) (fun _ h => by cases h) dJ6_lowestOneBit_0f7a4_4
set_option maxHeartbeats 4000000 in
set_option maxRecDepth 100000 in
theorem c_X0_isBetter (l : Launch) (D : va_G) (q : Nat → Nat) (cI cJ cZ : ClassId) (u : WU) (x1 : Int32) (x2 : Int32) (post : Int32 → Prop) (hw : wp_X0_isBetter x1 x2 u post) : Met l yX0_isBetter wsX0_isBetter rm_X0_isBetter (va_Pc [.ref (q 4), .int x1, .int x2] (RW D (ty3 cI cJ cZ) (wX q cI cJ cZ u))) (vp_Si post) 0 0 (fun _ => False) := by
  refine Met.ofW (cc := cX0_isBetter) (maxL := 5) (ret := (some .boolean)) (by decide) rfl ?_
  intro p e s m args below meth c s₁ B hml hv
  obtain ⟨hargs, hP, hK, hN⟩ := hv
  have hx := B.exec
  have hb := B.bytes
  have hr := B.returns
  have hts := atoms_spec (ws := wsX0_isBetter) B.pre
  have hown : s.vm.findClass RX0 = some m.cls := findClass_of_methodNamed B.named
  have hlocks := B.notSynchronized
  have hent := lg_entry_eq m ([.ref (q 4), .int x1, .int x2]) 5
  rw [← hargs] at hent
  rw [hent]
  have hl := lv_entry ([.ref (q 4), .int x1, .int x2]) (n := 5) (Nat.le_of_ble_eq_true rfl)
  generalize (lg_sl ([.ref (q 4), .int x1, .int x2]) ++ List.replicate (5 - (lg_sl ([.ref (q 4), .int x1, .int x2])).length) Slot.unset).toArray = ls at hl ⊢
  have hl : lv_has ls 5 [(0, .ref (q 4)), (1, .int x1), (2, .int x2)] := hl
  unfold wp_X0_isBetter at hw
  refine lv_aload_n hx hb dX0_isBetter_0 rfl (lv_at hl 0 rfl) ?_
  refine lv_iload_n hx hb dX0_isBetter_1 rfl (lv_at hl 1 rfl) ?_
  refine vp_callSi (va_Run.run (va_runV (As := [.int x1]) (rest := []) ⟨hx, hb, hml, hown, hts⟩ (c_X0_priceOf l D q cI cJ cZ u x1 _ hw) (cwV 1 hts gX0_isBetter_X0_priceOf rfl rfl rfl (by decide +kernel) ⟨Nat.le_of_ble_eq_true rfl, Nat.le_of_ble_eq_true rfl⟩) (pvR (va_recv hK hP (ci := 0) (q0 := 4) (q := (RX0, TX0, 5)) rfl rfl) hK hP hN) rfl rfl hl.1 rfl (lv_room (Nat.le_of_ble_eq_true rfl)) dX0_isBetter_2 ⟨Nat.zero_le _, Nat.zero_le _⟩)) (fun r1 hw => ?_)
  refine lv_aload_n hx hb dX0_isBetter_5 rfl (lv_at hl 0 rfl) ?_
  refine lv_iload_n hx hb dX0_isBetter_6 rfl (lv_at hl 2 rfl) ?_
  refine vp_callSi (va_Run.run (va_runV (As := [.int x2]) (rest := [.int r1]) ⟨hx, hb, hml, hown, hts⟩ (c_X0_priceOf l D q cI cJ cZ u x2 _ hw) (cwV 1 hts gX0_isBetter_X0_priceOf rfl rfl rfl (by decide +kernel) ⟨Nat.le_of_ble_eq_true rfl, Nat.le_of_ble_eq_true rfl⟩) (pvR (va_recv hK hP (ci := 0) (q0 := 4) (q := (RX0, TX0, 5)) rfl rfl) hK hP hN) rfl rfl hl.1 rfl (lv_room (Nat.le_of_ble_eq_true rfl)) dX0_isBetter_7 ⟨Nat.zero_le _, Nat.zero_le _⟩)) (fun r2 hw => ?_)
  refine vp_callSi (va_Run.run (va_runS (As := [.int r1, .int r2]) (rest := []) ⟨hx, hb, hml, hown, hts⟩ (c_J6_compare_7cf53 l r1 r2 _ hw) (va_cwS 2 hts gX0_isBetter_J6_compare_7cf53 rfl rfl rfl (by decide +kernel) ⟨Nat.le_of_ble_eq_true rfl, Nat.le_of_ble_eq_true rfl⟩) (psS hN) rfl rfl hl.1 rfl (lv_room (Nat.le_of_ble_eq_true rfl)) dX0_isBetter_10 ⟨Nat.zero_le _, Nat.zero_le _⟩)) (fun r3 hw => ?_)
  refine lv_istore_n (lv' := [(3, .int r3), (0, .ref (q 4)), (1, .int x1), (2, .int x2)]) hx hb dX0_isBetter_13 rfl hl (by decide) rfl (fun ls hl => ?_)
  refine lv_iload_n hx hb dX0_isBetter_14 rfl (lv_at hl 0 rfl) ?_
  refine lv_if_eq (tgt := 28) hx hb dX0_isBetter_15 (by decide) (fun hc => ?_) (fun hc => ?_)
  · have hw := hw.1 hc
    refine lv_iload_n hx hb dX0_isBetter_28 rfl (lv_at hl 2 rfl) ?_
    refine vp_callSi (va_Run.run (va_runS (As := [.int x1]) (rest := []) ⟨hx, hb, hml, hown, hts⟩ (c_J6_bitCount_0f7a4 l x1 _ hw) (va_cwS 1 hts gX0_isBetter_J6_bitCount_0f7a4 rfl rfl rfl (by decide +kernel) ⟨Nat.le_of_ble_eq_true rfl, Nat.le_of_ble_eq_true rfl⟩) (psS hN) rfl rfl hl.1 rfl (lv_room (Nat.le_of_ble_eq_true rfl)) dX0_isBetter_29 ⟨Nat.zero_le _, Nat.zero_le _⟩)) (fun r4 hw => ?_)
    refine lv_iload_n hx hb dX0_isBetter_32 rfl (lv_at hl 3 rfl) ?_
    refine vp_callSi (va_Run.run (va_runS (As := [.int x2]) (rest := [.int r4]) ⟨hx, hb, hml, hown, hts⟩ (c_J6_bitCount_0f7a4 l x2 _ hw) (va_cwS 1 hts gX0_isBetter_J6_bitCount_0f7a4 rfl rfl rfl (by decide +kernel) ⟨Nat.le_of_ble_eq_true rfl, Nat.le_of_ble_eq_true rfl⟩) (psS hN) rfl rfl hl.1 rfl (lv_room (Nat.le_of_ble_eq_true rfl)) dX0_isBetter_33 ⟨Nat.zero_le _, Nat.zero_le _⟩)) (fun r5 hw => ?_)
    refine vp_callSi (va_Run.run (va_runS (As := [.int r4, .int r5]) (rest := []) ⟨hx, hb, hml, hown, hts⟩ (c_J6_compare_7cf53 l r4 r5 _ hw) (va_cwS 2 hts gX0_isBetter_J6_compare_7cf53 rfl rfl rfl (by decide +kernel) ⟨Nat.le_of_ble_eq_true rfl, Nat.le_of_ble_eq_true rfl⟩) (psS hN) rfl rfl hl.1 rfl (lv_room (Nat.le_of_ble_eq_true rfl)) dX0_isBetter_36 ⟨Nat.zero_le _, Nat.zero_le _⟩)) (fun r6 hw => ?_)
    refine lv_istore (lv' := [(4, .int r6), (3, .int r3), (0, .ref (q 4)), (1, .int x1), (2, .int x2)]) hx hb dX0_isBetter_39 hl (by decide) rfl (fun ls hl => ?_)
    refine lv_iload hx hb dX0_isBetter_41 (lv_at hl 0 rfl) ?_
    refine lv_if_eq (tgt := 57) hx hb dX0_isBetter_43 (by decide) (fun hc => ?_) (fun hc => ?_)
    · have hw := hw.1 hc
      refine lv_iload_n hx hb dX0_isBetter_57 rfl (lv_at hl 3 rfl) ?_
      refine lv_iload_n hx hb dX0_isBetter_58 rfl (lv_at hl 4 rfl) ?_
      refine lv_ixor hx hb dX0_isBetter_59 ?_
      refine vp_callSi (va_Run.run (va_runS (As := [.int (x1 ^^^ x2)]) (rest := []) ⟨hx, hb, hml, hown, hts⟩ (c_J6_lowestOneBit_0f7a4 l (x1 ^^^ x2) _ hw) (va_cwS 1 hts gX0_isBetter_J6_lowestOneBit_0f7a4 rfl rfl rfl (by decide +kernel) ⟨Nat.le_of_ble_eq_true rfl, Nat.le_of_ble_eq_true rfl⟩) (psS hN) rfl rfl hl.1 rfl (lv_room (Nat.le_of_ble_eq_true rfl)) dX0_isBetter_60 ⟨Nat.zero_le _, Nat.zero_le _⟩)) (fun r7 hw => ?_)
      refine lv_iload_n hx hb dX0_isBetter_63 rfl (lv_at hl 3 rfl) ?_
      refine lv_iand hx hb dX0_isBetter_64 ?_
      refine lv_if_eq (tgt := 72) hx hb dX0_isBetter_65 (by decide) (fun hc => ?_) (fun hc => ?_)
      · have hw := hw.1 hc
        refine lv_iconst (v := 0) hx hb dX0_isBetter_72 (by decide) ?_
        exact W.zret (v := 0) hx hb hr rfl (fun t ht hW => ⟨0, rfl, hw, ht⟩) (fun _ h => by cases h) dX0_isBetter_73
      · have hw := hw.2 hc
        refine lv_iconst (v := 1) hx hb dX0_isBetter_68 (by decide) ?_
        refine lv_goto (tgt := 73) hx hb dX0_isBetter_69 (by decide) ?_
        exact W.zret (v := 1) hx hb hr rfl (fun t ht hW => ⟨1, rfl, hw, ht⟩) (fun _ h => by cases h) dX0_isBetter_73
    · have hw := hw.2 hc
      refine lv_iload hx hb dX0_isBetter_46 (lv_at hl 0 rfl) ?_
      refine lv_if_ge (tgt := 55) hx hb dX0_isBetter_48 (by decide) (fun hc => ?_) (fun hc => ?_)
      · have hw := hw.1 hc
        refine lv_iconst (v := 0) hx hb dX0_isBetter_55 (by decide) ?_
        exact W.zret (v := 0) hx hb hr rfl (fun t ht hW => ⟨0, rfl, hw, ht⟩) (fun _ h => by cases h) dX0_isBetter_56
      · have hw := hw.2 hc
        refine lv_iconst (v := 1) hx hb dX0_isBetter_51 (by decide) ?_
        refine lv_goto (tgt := 56) hx hb dX0_isBetter_52 (by decide) ?_
        exact W.zret (v := 1) hx hb hr rfl (fun t ht hW => ⟨1, rfl, hw, ht⟩) (fun _ h => by cases h) dX0_isBetter_56
  · have hw := hw.2 hc
    refine lv_iload_n hx hb dX0_isBetter_18 rfl (lv_at hl 0 rfl) ?_
    refine lv_if_ge (tgt := 26) hx hb dX0_isBetter_19 (by decide) (fun hc => ?_) (fun hc => ?_)
    · have hw := hw.1 hc
      refine lv_iconst (v := 0) hx hb dX0_isBetter_26 (by decide) ?_
      exact W.zret (v := 0) hx hb hr rfl (fun t ht hW => ⟨0, rfl, hw, ht⟩) (fun _ h => by cases h) dX0_isBetter_27
    · have hw := hw.2 hc
      refine lv_iconst (v := 1) hx hb dX0_isBetter_22 (by decide) ?_
      refine lv_goto (tgt := 27) hx hb dX0_isBetter_23 (by decide) ?_
      exact W.zret (v := 1) hx hb hr rfl (fun t ht hW => ⟨1, rfl, hw, ht⟩) (fun _ h => by cases h) dX0_isBetter_27
set_option maxHeartbeats 4000000 in
set_option maxRecDepth 100000 in
theorem c_X2_run_c33 (l : Launch) (D : va_G) (q : Nat → Nat) (cI cJ cZ : ClassId) (sz : Nat) (u : WU) (x1 : Int32) (x3 : Int64) (post : WU → Prop) (hw : wp_X2_run_c33 x1 x3 u post) : Met l yX2_run wsX2_run rm_X2_run (va_Pc [.ref (q 5), .int x1, .ref (q 33), .long x3] (MW D (ty3 cI cJ cZ) (wX q cI cJ cZ u) sz)) (va_Qv post (fun u' t => va_P D vwCl (wX q cI cJ cZ u') t.heap) (va_A (wX q cI cJ cZ u00) sz)) 0 0 (va_A (wX q cI cJ cZ u00) sz) := by
  refine Met.ofW (cc := cX2_run) (maxL := 7) (ret := none) (by decide) rfl ?_
  intro p e s m args below meth c s₁ B hml hv
  obtain ⟨hargs, hsz, hP, hK, hD0, hN⟩ := hv
  have hx := B.exec
  have hb := B.bytes
  have hr := B.returns
  have hts := atoms_spec (ws := wsX2_run) B.pre
  have hown : s.vm.findClass RX2 = some m.cls := findClass_of_methodNamed B.named
  have hlocks := B.notSynchronized
  subst hsz
  have hD := shw_self (sz := s.heap.size) (sh_wX q cI cJ cZ) hD0
  have hA : ∀ a : Nat, s.heap.size ≤ a → va_A (wX q cI cJ cZ u00) s.heap.size a := fun _ h => Or.inr h
  have hS : va_S (va_A (wX q cI cJ cZ u00) s.heap.size) s.heap s.heap [] := va_S.rf
  have hiX2 : ∀ w ∈ u_ws RX2 TX2 5, w ∈ wsX2_run := by decide +kernel
  have hiX3 : ∀ w ∈ u_ws RX3 TX3 9, w ∈ wsX2_run := by decide +kernel
  have hf26 := hts (.fieldLink RX2 26 "TermsDesk$Flow" "joins" "LTermsDesk$Joins;") (by decide +kernel)
  have L3 : ∀ (x1 : Int32) (x3 : Int64) (n : Nat) (x5 : Int32) (u : WU) (H : Heap) (locs : List Loc), wp_X2_run_c33_L3 x1 x3 post n x5 u → va_P D vwCl (wX q cI cJ cZ u) H → va_D (va_A (wX q cI cJ cZ u00) s.heap.size) (wX q cI cJ cZ u) → va_S (va_A (wX q cI cJ cZ u00) s.heap.size) s.heap H locs → ∀ ls : Array Slot, lv_has ls 7 [(0, .ref (q 5)), (1, .int x1), (2, .ref (q 33)), (3, .long x3), (5, .int x5)] → W p l e (headSpec wsX2_run rm_X2_run).room s m args below meth c H locs 0 0 (MQ below (va_Qv post (fun u' t => va_P D vwCl (wX q cI cJ cZ u') t.heap) (va_A (wX q cI cJ cZ u00) s.heap.size)) args s 0 0 (va_A (wX q cI cJ cZ u00) s.heap.size)) (F0 m 3 ls []) := by
    intro x1 x3 n
    induction n with
    | zero =>
      intro x5 u H locs hw
      exact hw.elim
    | succ n ih =>
      intro x5 u H locs hw hP hD hS ls hl 
      unfold wp_X2_run_c33_L3 at hw
      refine lv_iload hx hb dX2_run_3 (lv_at hl 4 rfl) ?_
      refine lv_bipush (v := 24) hx hb dX2_run_5 (by decide) ?_
      refine lv_icmp_ge (tgt := 46) hx hb dX2_run_7 (by decide) (fun hc => ?_) (fun hc => ?_)
      · have hw := hw.1 hc
        exact W.vret hx hb hr (fun t ht hW => ⟨⟨u, rfl, hw, by show va_P D vwCl _ t.heap; rw [ht]; exact hP⟩, hS.F ht⟩) hS.2.2 dX2_run_46
      · have hw := hw.2 hc
        refine lv_aload_n hx hb dX2_run_10 rfl (lv_at hl 0 rfl) ?_
        refine va_get (D := D) (ci := 2) (v := .ref (q 3)) (C := RX2) (T := TX2) (N := 5) hx hb hts hiX2 hown hK hP 5 rfl rfl 2 (by decide) hf26 (fun _ h9 => h9) rfl dX2_run_11 ?_
        refine va_getN (D := D) (ci := 3) (v := .ref (q 19)) (C := RX3) (T := TX3) (N := 9) hx hb hts hiX3 hown hK hP 3 rfl rfl 5 (by decide) (va_Nw.use rfl (nf_RX2_46 hN)) (fun _ h9 => h9) rfl dX2_run_14 ?_
        refine lv_iload hx hb dX2_run_17 (lv_at hl 4 rfl) ?_
        obtain ⟨hin, hw⟩ := hw
        refine va_iald hx hb hK hP 19 0 rfl rfl hin dX2_run_19 ?_
        refine lv_topi (fun y1 ey1 => ?_)
        have hw := hw y1 ey1
        refine lv_istore (lv' := [(6, .int y1), (0, .ref (q 5)), (1, .int x1), (2, .ref (q 33)), (3, .long x3), (5, .int x5)]) hx hb dX2_run_20 hl (by decide) rfl (fun ls hl => ?_)
        refine lv_aload_n hx hb dX2_run_22 rfl (lv_at hl 1 rfl) ?_
        refine lv_iload hx hb dX2_run_23 (lv_at hl 0 rfl) ?_
        refine lv_aload_n hx hb dX2_run_25 rfl (lv_at hl 1 rfl) ?_
        refine lv_iload_n hx hb dX2_run_26 rfl (lv_at hl 2 rfl) ?_
        refine lv_iload hx hb dX2_run_27 (lv_at hl 0 rfl) ?_
        refine lv_aload_n hx hb dX2_run_29 rfl (lv_at hl 3 rfl) ?_
        refine lv_iload hx hb dX2_run_30 (lv_at hl 0 rfl) ?_
        obtain ⟨hin, hw⟩ := hw
        refine va_iald hx hb hK hP 33 0 rfl rfl hin dX2_run_32 ?_
        refine vp_callSl (va_Run.run (va_runV (As := [.int x1, .int y1, .int (u.1 18 y1.toNatClampNeg)]) (rest := [.int y1, .ref (q 5)]) ⟨hx, hb, hml, hown, hts⟩ (c_X2_brought l D q cI cJ cZ u x1 y1 (u.1 18 y1.toNatClampNeg) _ hw) (cwV 3 hts gX2_run_X2_brought rfl rfl rfl (by decide +kernel) ⟨Nat.le_of_ble_eq_true rfl, Nat.le_of_ble_eq_true rfl⟩) (pvR (va_recv hK hP (ci := 2) (q0 := 5) (q := (RX2, TX2, 5)) rfl rfl) hK hP hN) rfl rfl hl.1 rfl (lv_room (Nat.le_of_ble_eq_true rfl)) dX2_run_33 ⟨Nat.zero_le _, Nat.zero_le _⟩)) (fun r2 hw => ?_)
        refine lv_lload_n hx hb dX2_run_36 rfl (lv_at hl 4 rfl) ?_
        refine cMv (sh_wX q cI cJ cZ) (u := u) (va_runV (As := [.int y1, .long r2, .long x3]) (rest := []) ⟨hx, hb, hml, hown, hts⟩ (c_X2_arrive l D q cI cJ cZ _ u y1 r2 x3 _ hw) (cwV 3 hts gX2_run_X2_arrive rfl rfl rfl (by decide +kernel) ⟨Nat.le_of_ble_eq_true rfl, Nat.le_of_ble_eq_true rfl⟩) (pvM (va_recv hK hP (ci := 2) (q0 := 5) (q := (RX2, TX2, 5)) rfl rfl) hK hP hD hN) rfl rfl hl.1 rfl (lv_room (Nat.le_of_ble_eq_true rfl)) dX2_run_37 ⟨Nat.zero_le _, Nat.zero_le _⟩) hA hD hS (fun u3 H locs hw hP hD hS => ?_)
        obtain ⟨y4, ey4⟩ : ∃ z : Int32, z = x5 + 1 := ⟨_, rfl⟩
        have hw := hw y4 ey4
        refine lv_iinc (v := y4) (lv' := [(5, .int y4), (6, .int y1), (0, .ref (q 5)), (1, .int x1), (2, .ref (q 33)), (3, .long x3)]) hx hb dX2_run_40 hl (k := 5) rfl (by rw [ey4]; rfl) (by decide) rfl (fun ls hl => ?_)
        refine lv_goto (tgt := 3) hx hb dX2_run_43 (by decide) ?_
        exact ih y4 u3 _ _ hw hP hD hS ls (lv_sub hl [2, 3, 4, 5, 0] rfl)
  have hent := lg_entry_eq m ([.ref (q 5), .int x1, .ref (q 33), .long x3]) 7
  rw [← hargs] at hent
  rw [hent]
  have hl := lv_entry ([.ref (q 5), .int x1, .ref (q 33), .long x3]) (n := 7) (Nat.le_of_ble_eq_true rfl)
  generalize (lg_sl ([.ref (q 5), .int x1, .ref (q 33), .long x3]) ++ List.replicate (7 - (lg_sl ([.ref (q 5), .int x1, .ref (q 33), .long x3])).length) Slot.unset).toArray = ls at hl ⊢
  have hl : lv_has ls 7 [(0, .ref (q 5)), (1, .int x1), (2, .ref (q 33)), (3, .long x3)] := hl
  unfold wp_X2_run_c33 at hw
  refine lv_iconst (v := 0) hx hb dX2_run_0 (by decide) ?_
  refine lv_istore (lv' := [(5, .int 0), (0, .ref (q 5)), (1, .int x1), (2, .ref (q 33)), (3, .long x3)]) hx hb dX2_run_1 hl (by decide) rfl (fun ls hl => ?_)
  obtain ⟨nn, hw⟩ := hw
  refine L3 x1 x3 nn 0 u _ _ hw hP hD hS ls (lv_sub hl [1, 2, 3, 4, 0] rfl)
set_option maxHeartbeats 4000000 in
set_option maxRecDepth 100000 in
theorem c_X2_quarrelCount_c33 (l : Launch) (D : va_G) (q : Nat → Nat) (cI cJ cZ : ClassId) (u : WU) (x2 : Int64) (post : Int32 → Prop) (hw : wp_X2_quarrelCount_c33 x2 u post) : Met l yX2_quarrelCount wsX2_quarrelCount rm_X2_quarrelCount (va_Pc [.ref (q 5), .ref (q 33), .long x2] (RW D (ty3 cI cJ cZ) (wX q cI cJ cZ u))) (vp_Si post) 0 0 (fun _ => False) := by
  refine Met.ofW (cc := cX2_quarrelCount) (maxL := 7) (ret := (some .int)) (by decide) rfl ?_
  intro p e s m args below meth c s₁ B hml hv
  obtain ⟨hargs, hP, hK, hN⟩ := hv
  have hx := B.exec
  have hb := B.bytes
  have hr := B.returns
  have hts := atoms_spec (ws := wsX2_quarrelCount) B.pre
  have hown : s.vm.findClass RX2 = some m.cls := findClass_of_methodNamed B.named
  have hlocks := B.notSynchronized
  have hiX2 : ∀ w ∈ u_ws RX2 TX2 5, w ∈ wsX2_quarrelCount := by decide +kernel
  have hiX5 : ∀ w ∈ u_ws RX5 TX5 6, w ∈ wsX2_quarrelCount := by decide +kernel
  have hf22 := hts (.fieldLink RX2 22 "TermsDesk$Flow" "parts" "LTermsDesk$Parts;") (by decide +kernel)
  have hi_RX8 := hts (.initialized RX8) (by decide +kernel)
  have hs_X8_holds := hts (.static yX8_holds) (by decide +kernel)
  have J54 : ∀ {K13 : Int32 → Int32 → Prop} (x4 : Int32) (x5 : Int32) (x6 : Int32) (_ : Unit), wp_X2_quarrelCount_c33_J54 x4 x5 x6 u post K13 → ∀ ls : Array Slot, lv_has ls 7 [(0, .ref (q 5)), (1, .ref (q 33)), (4, .int x4), (5, .int x5), (6, .int x6)] → (∀ (x5 : Int32) (x6 : Int32), K13 x5 x6 → ∀ ls : Array Slot, lv_has ls 7 [(0, .ref (q 5)), (1, .ref (q 33)), (4, .int x4), (5, .int x5), (6, .int x6)] → W p l e (headSpec wsX2_quarrelCount rm_X2_quarrelCount).room s m args below meth c s.heap [] 0 0 (MQ below (vp_Si post) args s 0 0 (fun _ => False)) (F0 m 13 ls [])) → W p l e (headSpec wsX2_quarrelCount rm_X2_quarrelCount).room s m args below meth c s.heap [] 0 0 (MQ below (vp_Si post) args s 0 0 (fun _ => False)) (F0 m 54 ls []) := by
    intro K13 x4 x5 x6 _ hw ls hl k13
    unfold wp_X2_quarrelCount_c33_J54 at hw
    obtain ⟨y9, ey9⟩ : ∃ z : Int32, z = x6 + 1 := ⟨_, rfl⟩
    have hw := hw y9 ey9
    refine lv_iinc (v := y9) (lv' := [(6, .int y9), (0, .ref (q 5)), (1, .ref (q 33)), (4, .int x4), (5, .int x5)]) hx hb dX2_quarrelCount_54 hl (k := 4) rfl (by rw [ey9]; rfl) (by decide) rfl (fun ls hl => ?_)
    refine lv_goto (tgt := 13) hx hb dX2_quarrelCount_57 (by decide) ?_
    exact k13 x5 y9 hw ls (lv_sub hl [1, 2, 3, 4, 0] rfl)
  have L13 : ∀ (x4 : Int32) (n : Nat) (x5 : Int32) (x6 : Int32) (_ : Unit), wp_X2_quarrelCount_c33_L13 x4 u post n x5 x6 → ∀ ls : Array Slot, lv_has ls 7 [(0, .ref (q 5)), (1, .ref (q 33)), (4, .int x4), (5, .int x5), (6, .int x6)] → W p l e (headSpec wsX2_quarrelCount rm_X2_quarrelCount).room s m args below meth c s.heap [] 0 0 (MQ below (vp_Si post) args s 0 0 (fun _ => False)) (F0 m 13 ls []) := by
    intro x4 n
    induction n with
    | zero =>
      intro x5 x6 _ hw
      exact hw.elim
    | succ n ih =>
      intro x5 x6 _ hw ls hl 
      unfold wp_X2_quarrelCount_c33_L13 at hw
      refine lv_iload hx hb dX2_quarrelCount_13 (lv_at hl 4 rfl) ?_
      refine lv_aload_n hx hb dX2_quarrelCount_15 rfl (lv_at hl 0 rfl) ?_
      refine va_get (D := D) (ci := 2) (v := .ref (q 2)) (C := RX2) (T := TX2) (N := 5) hx hb hts hiX2 hown hK hP 5 rfl rfl 1 (by decide) hf22 (fun _ h9 => h9) rfl dX2_quarrelCount_16 ?_
      refine va_getN (D := D) (ci := 5) (v := .int (u.1 20 0)) (C := RX5) (T := TX5) (N := 6) hx hb hts hiX5 hown hK hP 2 rfl rfl 4 (by decide) (va_Nw.use rfl (nf_RX2_85 hN)) (fun _ h9 => h9) rfl dX2_quarrelCount_19 ?_
      refine lv_icmp_ge (tgt := 60) hx hb dX2_quarrelCount_22 (by decide) (fun hc => ?_) (fun hc => ?_)
      · have hw := hw.1 hc
        refine lv_iload hx hb dX2_quarrelCount_60 (lv_at hl 3 rfl) ?_
        exact W.iret (v := x5) hx hb hr (fun t ht hW => ⟨x5, rfl, hw, ht⟩) (fun _ h => by cases h) dX2_quarrelCount_62
      · have hw := hw.2 hc
        refine lv_iload hx hb dX2_quarrelCount_25 (lv_at hl 2 rfl) ?_
        refine lv_i2l (v := x4.toInt64) hx hb dX2_quarrelCount_27 rfl ?_
        refine lv_iload hx hb dX2_quarrelCount_28 (lv_at hl 4 rfl) ?_
        refine vp_callSi (va_Run.run (va_runSN (As := [.long x4.toInt64, .int x6]) (rest := []) ⟨hx, hb, hml, hown, hts⟩ (c_X8_holds l x4.toInt64 x6 _ hw) ⟨va_cnB 2 hts ggX2_quarrelCount_X8_holds rfl rfl rfl (nm_RX2_69 hN) hi_RX8 (by decide +kernel) ⟨Nat.le_of_ble_eq_true rfl, Nat.le_of_ble_eq_true rfl⟩, hs_X8_holds, trivial⟩ (psS hN) rfl rfl hl.1 rfl (lv_room (Nat.le_of_ble_eq_true rfl)) dX2_quarrelCount_30 ⟨Nat.zero_le _, Nat.zero_le _⟩)) (fun r1 hw => ?_)
        refine lv_if_eq (tgt := 54) hx hb dX2_quarrelCount_33 (by decide) (fun hc => ?_) (fun hc => ?_)
        · have hw := hw.1 hc
          refine J54 x4 x5 x6 () hw ls (lv_sub hl [0, 1, 2, 3, 4] rfl) (fun y2 y3 hw ls hl => ?_)
          exact ih y2 y3 () hw ls (lv_sub hl [0, 1, 2, 3, 4] rfl)
        · have hw := hw.2 hc
          refine lv_iload hx hb dX2_quarrelCount_36 (lv_at hl 3 rfl) ?_
          refine lv_aload_n hx hb dX2_quarrelCount_38 rfl (lv_at hl 0 rfl) ?_
          refine lv_iload hx hb dX2_quarrelCount_39 (lv_at hl 4 rfl) ?_
          refine lv_aload_n hx hb dX2_quarrelCount_41 rfl (lv_at hl 1 rfl) ?_
          refine lv_iload hx hb dX2_quarrelCount_42 (lv_at hl 4 rfl) ?_
          obtain ⟨hin, hw⟩ := hw
          refine va_iald hx hb hK hP 33 0 rfl rfl hin dX2_quarrelCount_44 ?_
          refine vp_callSl (va_Run.run (va_runV (As := [.int x6, .int (u.1 18 x6.toNatClampNeg)]) (rest := [.int x5]) ⟨hx, hb, hml, hown, hts⟩ (c_X2_foughtAt l D q cI cJ cZ u x6 (u.1 18 x6.toNatClampNeg) _ hw) (cwV 2 hts gX2_quarrelCount_X2_foughtAt rfl rfl rfl (by decide +kernel) ⟨Nat.le_of_ble_eq_true rfl, Nat.le_of_ble_eq_true rfl⟩) (pvR (va_recv hK hP (ci := 2) (q0 := 5) (q := (RX2, TX2, 5)) rfl rfl) hK hP hN) rfl rfl hl.1 rfl (lv_room (Nat.le_of_ble_eq_true rfl)) dX2_quarrelCount_45 ⟨Nat.zero_le _, Nat.zero_le _⟩)) (fun r4 hw => ?_)
          refine vp_callSi (va_Run.run (va_runS (As := [.long r4]) (rest := [.int x5]) ⟨hx, hb, hml, hown, hts⟩ (c_J13_bitCount_95d88 l r4 _ hw) (va_cwS 1 hts gX2_quarrelCount_J13_bitCount_95d88 rfl rfl rfl (by decide +kernel) ⟨Nat.le_of_ble_eq_true rfl, Nat.le_of_ble_eq_true rfl⟩) (psS hN) rfl rfl hl.1 rfl (lv_room (Nat.le_of_ble_eq_true rfl)) dX2_quarrelCount_48 ⟨Nat.zero_le _, Nat.zero_le _⟩)) (fun r5 hw => ?_)
          refine lv_iadd hx hb dX2_quarrelCount_51 ?_
          refine lv_topi (fun y6 ey6 => ?_)
          have hw := hw y6 ey6
          refine lv_istore (lv' := [(5, .int y6), (0, .ref (q 5)), (1, .ref (q 33)), (4, .int x4), (6, .int x6)]) hx hb dX2_quarrelCount_52 hl (by decide) rfl (fun ls hl => ?_)
          refine J54 x4 y6 x6 () hw ls (lv_sub hl [1, 2, 3, 0, 4] rfl) (fun y7 y8 hw ls hl => ?_)
          exact ih y7 y8 () hw ls (lv_sub hl [0, 1, 2, 3, 4] rfl)
  have hent := lg_entry_eq m ([.ref (q 5), .ref (q 33), .long x2]) 7
  rw [← hargs] at hent
  rw [hent]
  have hl := lv_entry ([.ref (q 5), .ref (q 33), .long x2]) (n := 7) (Nat.le_of_ble_eq_true rfl)
  generalize (lg_sl ([.ref (q 5), .ref (q 33), .long x2]) ++ List.replicate (7 - (lg_sl ([.ref (q 5), .ref (q 33), .long x2])).length) Slot.unset).toArray = ls at hl ⊢
  have hl : lv_has ls 7 [(0, .ref (q 5)), (1, .ref (q 33)), (2, .long x2)] := hl
  unfold wp_X2_quarrelCount_c33 at hw
  refine lv_aload_n hx hb dX2_quarrelCount_0 rfl (lv_at hl 0 rfl) ?_
  refine lv_lload_n hx hb dX2_quarrelCount_1 rfl (lv_at hl 2 rfl) ?_
  refine vp_callSi (va_Run.run (va_runV (As := [.long x2]) (rest := []) ⟨hx, hb, hml, hown, hts⟩ (c_X2_ofProduct l D q cI cJ cZ u x2 _ hw) (cwV 1 hts gX2_quarrelCount_X2_ofProduct rfl rfl rfl (by decide +kernel) ⟨Nat.le_of_ble_eq_true rfl, Nat.le_of_ble_eq_true rfl⟩) (pvR (va_recv hK hP (ci := 2) (q0 := 5) (q := (RX2, TX2, 5)) rfl rfl) hK hP hN) rfl rfl hl.1 rfl (lv_room (Nat.le_of_ble_eq_true rfl)) dX2_quarrelCount_2 ⟨Nat.zero_le _, Nat.zero_le _⟩)) (fun r10 hw => ?_)
  refine lv_istore (lv' := [(4, .int r10), (0, .ref (q 5)), (1, .ref (q 33)), (2, .long x2)]) hx hb dX2_quarrelCount_5 hl (by decide) rfl (fun ls hl => ?_)
  refine lv_iconst (v := 0) hx hb dX2_quarrelCount_7 (by decide) ?_
  refine lv_istore (lv' := [(5, .int 0), (4, .int r10), (0, .ref (q 5)), (1, .ref (q 33)), (2, .long x2)]) hx hb dX2_quarrelCount_8 hl (by decide) rfl (fun ls hl => ?_)
  refine lv_iconst (v := 0) hx hb dX2_quarrelCount_10 (by decide) ?_
  refine lv_istore (lv' := [(6, .int 0), (5, .int 0), (4, .int r10), (0, .ref (q 5)), (1, .ref (q 33)), (2, .long x2)]) hx hb dX2_quarrelCount_11 hl (by decide) rfl (fun ls hl => ?_)
  obtain ⟨nn, hw⟩ := hw
  refine L13 r10 nn 0 0 () hw ls (lv_sub hl [3, 4, 2, 1, 0] rfl)
set_option maxHeartbeats 4000000 in
set_option maxRecDepth 100000 in
theorem c_X4_endsQuarrels (l : Launch) (D : va_G) (q : Nat → Nat) (cI cJ cZ : ClassId) (sz : Nat) (u : WU) (x1 : Int32) (x2 : Int32) (post : Int32 → WU → Prop) (hw : wp_X4_endsQuarrels x1 x2 u post) : Met l yX4_endsQuarrels wsX4_endsQuarrels rm_X4_endsQuarrels (va_Pc [.ref (q 7), .int x1, .int x2] (MW D (ty3 cI cJ cZ) (wX q cI cJ cZ u) sz)) (va_Qi post (fun u' t => va_P D vwCl (wX q cI cJ cZ u') t.heap) (va_A (wX q cI cJ cZ u00) sz)) 0 0 (va_A (wX q cI cJ cZ u00) sz) := by
  refine Met.ofW (cc := cX4_endsQuarrels) (maxL := 6) (ret := (some .boolean)) (by decide) rfl ?_
  intro p e s m args below meth c s₁ B hml hv
  obtain ⟨hargs, hsz, hP, hK, hD0, hN⟩ := hv
  have hx := B.exec
  have hb := B.bytes
  have hr := B.returns
  have hts := atoms_spec (ws := wsX4_endsQuarrels) B.pre
  have hown : s.vm.findClass RX4 = some m.cls := findClass_of_methodNamed B.named
  have hlocks := B.notSynchronized
  subst hsz
  have hD := shw_self (sz := s.heap.size) (sh_wX q cI cJ cZ) hD0
  have hA : ∀ a : Nat, s.heap.size ≤ a → va_A (wX q cI cJ cZ u00) s.heap.size a := fun _ h => Or.inr h
  have hS : va_S (va_A (wX q cI cJ cZ u00) s.heap.size) s.heap s.heap [] := va_S.rf
  have hiX0 : ∀ w ∈ u_ws RX0 TX0 5, w ∈ wsX4_endsQuarrels := by decide +kernel
  have hiX3 : ∀ w ∈ u_ws RX3 TX3 9, w ∈ wsX4_endsQuarrels := by decide +kernel
  have hiX4 : ∀ w ∈ u_ws RX4 TX4 5, w ∈ wsX4_endsQuarrels := by decide +kernel
  have hiX5 : ∀ w ∈ u_ws RX5 TX5 6, w ∈ wsX4_endsQuarrels := by decide +kernel
  have hc70 := hts (.constantLong RX4 70 (-1)) (by decide +kernel)
  have hf15 := hts (.fieldLink RX4 15 "TermsDesk$Mender" "parts" "LTermsDesk$Parts;") (by decide +kernel)
  have hf19 := hts (.fieldLink RX4 19 "TermsDesk$Mender" "joins" "LTermsDesk$Joins;") (by decide +kernel)
  have hf23 := hts (.fieldLink RX4 23 "TermsDesk$Mender" "changes" "LTermsDesk$Changes;") (by decide +kernel)
  have hf27 := hts (.fieldLink RX4 27 "TermsDesk$Mender" "flow" "LTermsDesk$Flow;") (by decide +kernel)
  have hf9 := hts (.fieldLink RX4 9 "TermsDesk$Mender" "licence" "[I") (by decide +kernel)
  have hi_RX8 := hts (.initialized RX8) (by decide +kernel)
  have hl47 := hts (.methodLink RX4 47 arraycopyName) (by decide +kernel)
  have hs_X8_holds := hts (.static yX8_holds) (by decide +kernel)
  have hyI := hts (.initialized "java/lang/System") (by decide +kernel)
  have hyN := hts (.native arraycopyName) (by decide +kernel)
  have hyS := hts (.static arraycopyName) (by decide +kernel)
  have J114 : ∀ {K29 : Int64 → Int32 → WU → Prop} (x1 : Int32) (x2 : Int32) (x3 : Int64) (x5 : Int32) (u : WU) (H : Heap) (locs : List Loc), wp_X4_endsQuarrels_J114 x1 x2 x3 x5 u post K29 → va_P D vwCl (wX q cI cJ cZ u) H → va_D (va_A (wX q cI cJ cZ u00) s.heap.size) (wX q cI cJ cZ u) → va_S (va_A (wX q cI cJ cZ u00) s.heap.size) s.heap H locs → ∀ ls : Array Slot, lv_has ls 6 [(0, .ref (q 7)), (1, .int x1), (2, .int x2), (3, .long x3), (5, .int x5)] → (∀ (x3 : Int64) (x5 : Int32) (u : WU) (H : Heap) (locs : List Loc), K29 x3 x5 u → va_P D vwCl (wX q cI cJ cZ u) H → va_D (va_A (wX q cI cJ cZ u00) s.heap.size) (wX q cI cJ cZ u) → va_S (va_A (wX q cI cJ cZ u00) s.heap.size) s.heap H locs → ∀ ls : Array Slot, lv_has ls 6 [(0, .ref (q 7)), (1, .int x1), (2, .int x2), (3, .long x3), (5, .int x5)] → W p l e (headSpec wsX4_endsQuarrels rm_X4_endsQuarrels).room s m args below meth c H locs 0 0 (MQ below (va_Qi post (fun u' t => va_P D vwCl (wX q cI cJ cZ u') t.heap) (va_A (wX q cI cJ cZ u00) s.heap.size)) args s 0 0 (va_A (wX q cI cJ cZ u00) s.heap.size)) (F0 m 29 ls [])) → W p l e (headSpec wsX4_endsQuarrels rm_X4_endsQuarrels).room s m args below meth c H locs 0 0 (MQ below (va_Qi post (fun u' t => va_P D vwCl (wX q cI cJ cZ u') t.heap) (va_A (wX q cI cJ cZ u00) s.heap.size)) args s 0 0 (va_A (wX q cI cJ cZ u00) s.heap.size)) (F0 m 114 ls []) := by
    intro K29 x1 x2 x3 x5 u H locs hw hP hD hS ls hl k29
    unfold wp_X4_endsQuarrels_J114 at hw
    obtain ⟨y13, ey13⟩ : ∃ z : Int32, z = x5 + 1 := ⟨_, rfl⟩
    have hw := hw y13 ey13
    refine lv_iinc (v := y13) (lv' := [(5, .int y13), (0, .ref (q 7)), (1, .int x1), (2, .int x2), (3, .long x3)]) hx hb dX4_endsQuarrels_114 hl (k := 4) rfl (by rw [ey13]; rfl) (by decide) rfl (fun ls hl => ?_)
    refine lv_goto (tgt := 29) hx hb dX4_endsQuarrels_117 (by decide) ?_
    exact k29 x3 y13 u _ _ hw hP hD hS ls (lv_sub hl [1, 2, 3, 4, 0] rfl)
  have L29 : ∀ {K120 : Int64 → WU → Prop} (x1 : Int32) (x2 : Int32) (n : Nat) (x3 : Int64) (x5 : Int32) (u : WU) (H : Heap) (locs : List Loc), wp_X4_endsQuarrels_L29 x1 x2 post K120 n x3 x5 u → va_P D vwCl (wX q cI cJ cZ u) H → va_D (va_A (wX q cI cJ cZ u00) s.heap.size) (wX q cI cJ cZ u) → va_S (va_A (wX q cI cJ cZ u00) s.heap.size) s.heap H locs → ∀ ls : Array Slot, lv_has ls 6 [(0, .ref (q 7)), (1, .int x1), (2, .int x2), (3, .long x3), (5, .int x5)] → (∀ (x3 : Int64) (u : WU) (H : Heap) (locs : List Loc), K120 x3 u → va_P D vwCl (wX q cI cJ cZ u) H → va_D (va_A (wX q cI cJ cZ u00) s.heap.size) (wX q cI cJ cZ u) → va_S (va_A (wX q cI cJ cZ u00) s.heap.size) s.heap H locs → ∀ ls : Array Slot, lv_has ls 6 [(0, .ref (q 7)), (1, .int x1), (3, .long x3)] → W p l e (headSpec wsX4_endsQuarrels rm_X4_endsQuarrels).room s m args below meth c H locs 0 0 (MQ below (va_Qi post (fun u' t => va_P D vwCl (wX q cI cJ cZ u') t.heap) (va_A (wX q cI cJ cZ u00) s.heap.size)) args s 0 0 (va_A (wX q cI cJ cZ u00) s.heap.size)) (F0 m 120 ls [])) → W p l e (headSpec wsX4_endsQuarrels rm_X4_endsQuarrels).room s m args below meth c H locs 0 0 (MQ below (va_Qi post (fun u' t => va_P D vwCl (wX q cI cJ cZ u') t.heap) (va_A (wX q cI cJ cZ u00) s.heap.size)) args s 0 0 (va_A (wX q cI cJ cZ u00) s.heap.size)) (F0 m 29 ls []) := by
    intro K120 x1 x2 n
    induction n with
    | zero =>
      intro x3 x5 u H locs hw
      exact hw.elim
    | succ n ih =>
      intro x3 x5 u H locs hw hP hD hS ls hl k120
      unfold wp_X4_endsQuarrels_L29 at hw
      refine lv_iload hx hb dX4_endsQuarrels_29 (lv_at hl 4 rfl) ?_
      refine lv_aload_n hx hb dX4_endsQuarrels_31 rfl (lv_at hl 0 rfl) ?_
      refine va_get (D := D) (ci := 4) (v := .ref (q 4)) (C := RX4) (T := TX4) (N := 5) hx hb hts hiX4 hown hK hP 7 rfl rfl 2 (by decide) hf23 (fun _ h9 => h9) rfl dX4_endsQuarrels_32 ?_
      refine va_getN (D := D) (ci := 0) (v := .int (u.1 23 0)) (C := RX0) (T := TX0) (N := 5) hx hb hts hiX0 hown hK hP 4 rfl rfl 4 (by decide) (va_Nw.use rfl (nf_RX4_31 hN)) (fun _ h9 => h9) rfl dX4_endsQuarrels_35 ?_
      refine lv_icmp_ge (tgt := 120) hx hb dX4_endsQuarrels_38 (by decide) (fun hc => ?_) (fun hc => ?_)
      · have hw := hw.1 hc
        exact k120 x3 u _ _ hw hP hD hS ls (lv_sub hl [0, 1, 3] rfl)
      · have hw := hw.2 hc
        refine lv_iload_n hx hb dX4_endsQuarrels_41 rfl (lv_at hl 2 rfl) ?_
        refine lv_i2l (v := x2.toInt64) hx hb dX4_endsQuarrels_42 rfl ?_
        refine lv_iload hx hb dX4_endsQuarrels_43 (lv_at hl 4 rfl) ?_
        refine vp_callSi (va_Run.run (va_runSN (As := [.long x2.toInt64, .int x5]) (rest := []) ⟨hx, hb, hml, hown, hts⟩ (c_X8_holds l x2.toInt64 x5 _ hw) ⟨va_cnB 2 hts ggX4_endsQuarrels_X8_holds rfl rfl rfl (nm_RX4_59 hN) hi_RX8 (by decide +kernel) ⟨Nat.le_of_ble_eq_true rfl, Nat.le_of_ble_eq_true rfl⟩, hs_X8_holds, trivial⟩ (psS hN) rfl rfl hl.1 rfl (lv_room (Nat.le_of_ble_eq_true rfl)) dX4_endsQuarrels_45 ⟨Nat.zero_le _, Nat.zero_le _⟩)) (fun r1 hw => ?_)
        refine lv_if_ne (tgt := 54) hx hb dX4_endsQuarrels_48 (by decide) (fun hc => ?_) (fun hc => ?_)
        · have hw := hw.1 hc
          refine lv_aload_n hx hb dX4_endsQuarrels_54 rfl (lv_at hl 0 rfl) ?_
          refine va_get (D := D) (ci := 4) (v := .ref (q 4)) (C := RX4) (T := TX4) (N := 5) hx hb hts hiX4 hown hK hP 7 rfl rfl 2 (by decide) hf23 (fun _ h9 => h9) rfl dX4_endsQuarrels_55 ?_
          refine va_getN (D := D) (ci := 0) (v := .ref (q 23)) (C := RX0) (T := TX0) (N := 5) hx hb hts hiX0 hown hK hP 4 rfl rfl 0 (by decide) (va_Nw.use rfl (nf_RX4_63 hN)) (fun _ h9 => h9) rfl dX4_endsQuarrels_58 ?_
          refine lv_iload hx hb dX4_endsQuarrels_61 (lv_at hl 4 rfl) ?_
          obtain ⟨hin, hw⟩ := hw
          refine va_iald hx hb hK hP 23 0 rfl rfl hin dX4_endsQuarrels_63 ?_
          refine lv_if_ne (tgt := 95) hx hb dX4_endsQuarrels_64 (by decide) (fun hc => ?_) (fun hc => ?_)
          · have hw := hw.1 hc
            refine lv_lload_n hx hb dX4_endsQuarrels_95 rfl (lv_at hl 3 rfl) ?_
            refine lv_lconst (v := 1) hx hb dX4_endsQuarrels_96 (by decide) ?_
            refine lv_aload_n hx hb dX4_endsQuarrels_97 rfl (lv_at hl 0 rfl) ?_
            refine va_get (D := D) (ci := 4) (v := .ref (q 4)) (C := RX4) (T := TX4) (N := 5) hx hb hts hiX4 hown hK hP 7 rfl rfl 2 (by decide) hf23 (fun _ h9 => h9) rfl dX4_endsQuarrels_98 ?_
            refine va_getN (D := D) (ci := 0) (v := .ref (q 24)) (C := RX0) (T := TX0) (N := 5) hx hb hts hiX0 hown hK hP 4 rfl rfl 1 (by decide) (va_Nw.use rfl (nf_RX4_66 hN)) (fun _ h9 => h9) rfl dX4_endsQuarrels_101 ?_
            refine lv_iload hx hb dX4_endsQuarrels_104 (lv_at hl 4 rfl) ?_
            obtain ⟨hin, hw⟩ := hw
            refine va_iald hx hb hK hP 24 0 rfl rfl hin dX4_endsQuarrels_106 ?_
            refine lv_lshl (v := jshl 1 (u.1 11 x5.toNatClampNeg)) hx hb dX4_endsQuarrels_107 rfl ?_
            refine lv_ldc2 (v := (-1)) hx hb hown hc70 dX4_endsQuarrels_108 ?_
            refine lv_lxor hx hb dX4_endsQuarrels_111 ?_
            refine lv_land hx hb dX4_endsQuarrels_112 ?_
            refine lv_topl (fun y2 ey2 => ?_)
            have hw := hw y2 ey2
            refine lv_lstore_n (lv' := [(3, .long y2), (0, .ref (q 7)), (1, .int x1), (2, .int x2), (5, .int x5)]) hx hb dX4_endsQuarrels_113 rfl hl (by decide) rfl (fun ls hl => ?_)
            refine J114 x1 x2 y2 x5 u _ _ hw hP hD hS ls (lv_sub hl [1, 2, 3, 0, 4] rfl) (fun y3 y4 u5 H locs hw hP hD hS ls hl => ?_)
            exact ih y3 y4 u5 _ _ hw hP hD hS ls (lv_sub hl [0, 1, 2, 3, 4] rfl) k120
          · have hw := hw.2 hc
            refine lv_aload_n hx hb dX4_endsQuarrels_67 rfl (lv_at hl 0 rfl) ?_
            refine va_get (D := D) (ci := 4) (v := .ref (q 33)) (C := RX4) (T := TX4) (N := 5) hx hb hts hiX4 hown hK hP 7 rfl rfl 4 (by decide) hf9 (fun _ h9 => h9) rfl dX4_endsQuarrels_68 ?_
            refine lv_aload_n hx hb dX4_endsQuarrels_71 rfl (lv_at hl 0 rfl) ?_
            refine va_get (D := D) (ci := 4) (v := .ref (q 4)) (C := RX4) (T := TX4) (N := 5) hx hb hts hiX4 hown hK hP 7 rfl rfl 2 (by decide) hf23 (fun _ h9 => h9) rfl dX4_endsQuarrels_72 ?_
            refine va_getN (D := D) (ci := 0) (v := .ref (q 24)) (C := RX0) (T := TX0) (N := 5) hx hb hts hiX0 hown hK hP 4 rfl rfl 1 (by decide) (va_Nw.use rfl (nf_RX4_66 hN)) (fun _ h9 => h9) rfl dX4_endsQuarrels_75 ?_
            refine lv_iload hx hb dX4_endsQuarrels_78 (lv_at hl 4 rfl) ?_
            obtain ⟨hin, hw⟩ := hw
            refine va_iald hx hb hK hP 24 0 rfl rfl hin dX4_endsQuarrels_80 ?_
            refine lv_aload_n hx hb dX4_endsQuarrels_81 rfl (lv_at hl 0 rfl) ?_
            refine va_get (D := D) (ci := 4) (v := .ref (q 4)) (C := RX4) (T := TX4) (N := 5) hx hb hts hiX4 hown hK hP 7 rfl rfl 2 (by decide) hf23 (fun _ h9 => h9) rfl dX4_endsQuarrels_82 ?_
            refine va_getN (D := D) (ci := 0) (v := .ref (q 25)) (C := RX0) (T := TX0) (N := 5) hx hb hts hiX0 hown hK hP 4 rfl rfl 2 (by decide) (va_Nw.use rfl (nf_RX4_69 hN)) (fun _ h9 => h9) rfl dX4_endsQuarrels_85 ?_
            refine lv_iload hx hb dX4_endsQuarrels_88 (lv_at hl 4 rfl) ?_
            obtain ⟨hin, hw⟩ := hw
            refine va_iald hx hb hK hP 25 0 rfl rfl hin dX4_endsQuarrels_90 ?_
            obtain ⟨hin, hw⟩ := hw
            refine sIast (w := wX q cI cJ cZ) hx hb hK hP hD hS 33 0 18 rfl rfl (wXa_33 q cI cJ cZ u) hin dX4_endsQuarrels_91 (fun u6 H locs eu6 hP hD hS => ?_)
            have hw := hw u6 eu6
            refine lv_goto (tgt := 114) hx hb dX4_endsQuarrels_92 (by decide) ?_
            refine J114 x1 x2 x3 x5 u6 _ _ hw hP hD hS ls (lv_sub hl [0, 1, 2, 3, 4] rfl) (fun y7 y8 u9 H locs hw hP hD hS ls hl => ?_)
            exact ih y7 y8 u9 _ _ hw hP hD hS ls (lv_sub hl [0, 1, 2, 3, 4] rfl) k120
        · have hw := hw.2 hc
          refine lv_goto (tgt := 114) hx hb dX4_endsQuarrels_51 (by decide) ?_
          refine J114 x1 x2 x3 x5 u _ _ hw hP hD hS ls (lv_sub hl [0, 1, 2, 3, 4] rfl) (fun y10 y11 u12 H locs hw hP hD hS ls hl => ?_)
          exact ih y10 y11 u12 _ _ hw hP hD hS ls (lv_sub hl [0, 1, 2, 3, 4] rfl) k120
  have hent := lg_entry_eq m ([.ref (q 7), .int x1, .int x2]) 6
  rw [← hargs] at hent
  rw [hent]
  have hl := lv_entry ([.ref (q 7), .int x1, .int x2]) (n := 6) (Nat.le_of_ble_eq_true rfl)
  generalize (lg_sl ([.ref (q 7), .int x1, .int x2]) ++ List.replicate (6 - (lg_sl ([.ref (q 7), .int x1, .int x2])).length) Slot.unset).toArray = ls at hl ⊢
  have hl : lv_has ls 6 [(0, .ref (q 7)), (1, .int x1), (2, .int x2)] := hl
  unfold wp_X4_endsQuarrels at hw
  refine lv_aload_n hx hb dX4_endsQuarrels_0 rfl (lv_at hl 0 rfl) ?_
  refine va_get (D := D) (ci := 4) (v := .ref (q 2)) (C := RX4) (T := TX4) (N := 5) hx hb hts hiX4 hown hK hP 7 rfl rfl 0 (by decide) hf15 (fun _ h9 => h9) rfl dX4_endsQuarrels_1 ?_
  refine va_getN (D := D) (ci := 5) (v := .ref (q 14)) (C := RX5) (T := TX5) (N := 6) hx hb hts hiX5 hown hK hP 2 rfl rfl 2 (by decide) (va_Nw.use rfl (nf_RX4_44 hN)) (fun _ h9 => h9) rfl dX4_endsQuarrels_4 ?_
  refine lv_iconst (v := 0) hx hb dX4_endsQuarrels_7 (by decide) ?_
  refine lv_aload_n hx hb dX4_endsQuarrels_8 rfl (lv_at hl 0 rfl) ?_
  refine va_get (D := D) (ci := 4) (v := .ref (q 33)) (C := RX4) (T := TX4) (N := 5) hx hb hts hiX4 hown hK hP 7 rfl rfl 4 (by decide) hf9 (fun _ h9 => h9) rfl dX4_endsQuarrels_9 ?_
  refine lv_iconst (v := 0) hx hb dX4_endsQuarrels_12 (by decide) ?_
  refine lv_bipush (v := 24) hx hb dX4_endsQuarrels_13 (by decide) ?_
  refine va_copyi hx hb (hml.trans hl.1.symm) hown hl47 hyN hyS hyI hK hP hD hS 14 33 0 0 rfl rfl rfl rfl rfl (by decide) (by decide) (by decide) (by decide) (by decide) (fun _ _ => rfl) (Nat.le_of_ble_eq_true rfl) (by decide +kernel) dX4_endsQuarrels_15 (sPut (w := wX q cI cJ cZ) (uu := uI u 18 (va_cpy (u.1 2) (u.1 18) (0 : Int32).toNatClampNeg (0 : Int32).toNatClampNeg (24 : Int32).toNatClampNeg)) (wXa_33 q cI cJ cZ u _) (fun u14 H locs eu14 hP hD hS => ?_))
  have hw := hw u14 eu14
  refine lv_aload_n hx hb dX4_endsQuarrels_18 rfl (lv_at hl 0 rfl) ?_
  refine va_get (D := D) (ci := 4) (v := .ref (q 3)) (C := RX4) (T := TX4) (N := 5) hx hb hts hiX4 hown hK hP 7 rfl rfl 1 (by decide) hf19 (fun _ h9 => h9) rfl dX4_endsQuarrels_19 ?_
  refine va_getN (D := D) (ci := 3) (v := .long (u14.2 6 0)) (C := RX3) (T := TX3) (N := 9) hx hb hts hiX3 hown hK hP 3 rfl rfl 4 (by decide) (va_Nw.use rfl (nf_RX4_53 hN)) (fun _ h9 => h9) rfl dX4_endsQuarrels_22 ?_
  refine lv_topl (fun y15 ey15 => ?_)
  have hw := hw y15 ey15
  refine lv_lstore_n (lv' := [(3, .long y15), (0, .ref (q 7)), (1, .int x1), (2, .int x2)]) hx hb dX4_endsQuarrels_25 rfl hl (by decide) rfl (fun ls hl => ?_)
  refine lv_iconst (v := 0) hx hb dX4_endsQuarrels_26 (by decide) ?_
  refine lv_istore (lv' := [(5, .int 0), (3, .long y15), (0, .ref (q 7)), (1, .int x1), (2, .int x2)]) hx hb dX4_endsQuarrels_27 hl (by decide) rfl (fun ls hl => ?_)
  obtain ⟨nn, hw⟩ := hw
  refine L29 x1 x2 nn y15 0 u14 _ _ hw hP hD hS ls (lv_sub hl [2, 3, 4, 1, 0] rfl) (fun y16 u17 H locs hw hP hD hS ls hl => ?_)
  refine lv_aload_n hx hb dX4_endsQuarrels_120 rfl (lv_at hl 0 rfl) ?_
  refine va_get (D := D) (ci := 4) (v := .ref (q 5)) (C := RX4) (T := TX4) (N := 5) hx hb hts hiX4 hown hK hP 7 rfl rfl 3 (by decide) hf27 (fun _ h9 => h9) rfl dX4_endsQuarrels_121 ?_
  refine lv_iload_n hx hb dX4_endsQuarrels_124 rfl (lv_at hl 1 rfl) ?_
  refine lv_aload_n hx hb dX4_endsQuarrels_125 rfl (lv_at hl 0 rfl) ?_
  refine va_get (D := D) (ci := 4) (v := .ref (q 33)) (C := RX4) (T := TX4) (N := 5) hx hb hts hiX4 hown hK hP 7 rfl rfl 4 (by decide) hf9 (fun _ h9 => h9) rfl dX4_endsQuarrels_126 ?_
  refine lv_lload_n hx hb dX4_endsQuarrels_129 rfl (lv_at hl 2 rfl) ?_
  refine cMv (sh_wX q cI cJ cZ) (u := u17) (va_runV (As := [.int x1, .ref (q 33), .long y16]) (rest := []) ⟨hx, hb, hml, hown, hts⟩ (c_X2_run_c33 l D q cI cJ cZ _ u17 x1 y16 _ hw) (cwV 3 hts gX4_endsQuarrels_X2_run rfl rfl rfl (by decide +kernel) ⟨Nat.le_of_ble_eq_true rfl, Nat.le_of_ble_eq_true rfl⟩) (pvM (va_recv hK hP (ci := 2) (q0 := 5) (q := (RX2, TX2, 5)) rfl rfl) hK hP hD hN) rfl rfl hl.1 rfl (lv_room (Nat.le_of_ble_eq_true rfl)) dX4_endsQuarrels_130 ⟨Nat.zero_le _, Nat.zero_le _⟩) hA hD hS (fun u18 H locs hw hP hD hS => ?_)
  refine lv_aload_n hx hb dX4_endsQuarrels_133 rfl (lv_at hl 0 rfl) ?_
  refine va_get (D := D) (ci := 4) (v := .ref (q 5)) (C := RX4) (T := TX4) (N := 5) hx hb hts hiX4 hown hK hP 7 rfl rfl 3 (by decide) hf27 (fun _ h9 => h9) rfl dX4_endsQuarrels_134 ?_
  refine lv_aload_n hx hb dX4_endsQuarrels_137 rfl (lv_at hl 0 rfl) ?_
  refine va_get (D := D) (ci := 4) (v := .ref (q 33)) (C := RX4) (T := TX4) (N := 5) hx hb hts hiX4 hown hK hP 7 rfl rfl 4 (by decide) hf9 (fun _ h9 => h9) rfl dX4_endsQuarrels_138 ?_
  refine lv_lload_n hx hb dX4_endsQuarrels_141 rfl (lv_at hl 2 rfl) ?_
  refine vp_callSi (va_Run.run (va_runV (As := [.ref (q 33), .long y16]) (rest := []) ⟨hx, hb, hml, hown, hts⟩ (c_X2_quarrelCount_c33 l D q cI cJ cZ u18 y16 _ hw) (cwV 2 hts gX4_endsQuarrels_X2_quarrelCount rfl rfl rfl (by decide +kernel) ⟨Nat.le_of_ble_eq_true rfl, Nat.le_of_ble_eq_true rfl⟩) (pvR (va_recv hK hP (ci := 2) (q0 := 5) (q := (RX2, TX2, 5)) rfl rfl) hK hP hN) rfl rfl hl.1 rfl (lv_room (Nat.le_of_ble_eq_true rfl)) dX4_endsQuarrels_142 ⟨Nat.zero_le _, Nat.zero_le _⟩)) (fun r19 hw => ?_)
  refine lv_if_ne (tgt := 152) hx hb dX4_endsQuarrels_145 (by decide) (fun hc => ?_) (fun hc => ?_)
  · have hw := hw.1 hc
    refine lv_iconst (v := 0) hx hb dX4_endsQuarrels_152 (by decide) ?_
    exact W.zret (v := 0) hx hb hr rfl (fun t ht hW => ⟨⟨0, u18, rfl, hw, by show va_P D vwCl _ t.heap; rw [ht]; exact hP⟩, hS.F ht⟩) hS.2.2 dX4_endsQuarrels_153
  · have hw := hw.2 hc
    refine lv_iconst (v := 1) hx hb dX4_endsQuarrels_148 (by decide) ?_
    refine lv_goto (tgt := 153) hx hb dX4_endsQuarrels_149 (by decide) ?_
    exact W.zret (v := 1) hx hb hr rfl (fun t ht hW => ⟨⟨1, u18, rfl, hw, by show va_P D vwCl _ t.heap; rw [ht]; exact hP⟩, hS.F ht⟩) hS.2.2 dX4_endsQuarrels_153
set_option maxHeartbeats 4000000 in
set_option maxRecDepth 100000 in
theorem c_X4_cheapestSet (l : Launch) (D : va_G) (q : Nat → Nat) (cI cJ cZ : ClassId) (sz : Nat) (u : WU) (x1 : Int32) (post : Int32 → WU → Prop) (hw : wp_X4_cheapestSet x1 u post) : Met l yX4_cheapestSet wsX4_cheapestSet rm_X4_cheapestSet (va_Pc [.ref (q 7), .int x1] (MW D (ty3 cI cJ cZ) (wX q cI cJ cZ u) sz)) (va_Qi post (fun u' t => va_P D vwCl (wX q cI cJ cZ u') t.heap) (va_A (wX q cI cJ cZ u00) sz)) 0 0 (va_A (wX q cI cJ cZ u00) sz) := by
  refine Met.ofW (cc := cX4_cheapestSet) (maxL := 5) (ret := (some .int)) (by decide) rfl ?_
  intro p e s m args below meth c s₁ B hml hv
  obtain ⟨hargs, hsz, hP, hK, hD0, hN⟩ := hv
  have hx := B.exec
  have hb := B.bytes
  have hr := B.returns
  have hts := atoms_spec (ws := wsX4_cheapestSet) B.pre
  have hown : s.vm.findClass RX4 = some m.cls := findClass_of_methodNamed B.named
  have hlocks := B.notSynchronized
  subst hsz
  have hD := shw_self (sz := s.heap.size) (sh_wX q cI cJ cZ) hD0
  have hA : ∀ a : Nat, s.heap.size ≤ a → va_A (wX q cI cJ cZ u00) s.heap.size a := fun _ h => Or.inr h
  have hS : va_S (va_A (wX q cI cJ cZ u00) s.heap.size) s.heap s.heap [] := va_S.rf
  have hiX0 : ∀ w ∈ u_ws RX0 TX0 5, w ∈ wsX4_cheapestSet := by decide +kernel
  have hiX4 : ∀ w ∈ u_ws RX4 TX4 5, w ∈ wsX4_cheapestSet := by decide +kernel
  have hf23 := hts (.fieldLink RX4 23 "TermsDesk$Mender" "changes" "LTermsDesk$Changes;") (by decide +kernel)
  have J52 : ∀ {K15 : Int32 → Int32 → WU → Prop} (x1 : Int32) (x2 : Int32) (x3 : Int32) (x4 : Int32) (u : WU) (H : Heap) (locs : List Loc), wp_X4_cheapestSet_J52 x1 x2 x3 x4 u post K15 → va_P D vwCl (wX q cI cJ cZ u) H → va_D (va_A (wX q cI cJ cZ u00) s.heap.size) (wX q cI cJ cZ u) → va_S (va_A (wX q cI cJ cZ u00) s.heap.size) s.heap H locs → ∀ ls : Array Slot, lv_has ls 5 [(0, .ref (q 7)), (1, .int x1), (2, .int x2), (3, .int x3), (4, .int x4)] → (∀ (x2 : Int32) (x4 : Int32) (u : WU) (H : Heap) (locs : List Loc), K15 x2 x4 u → va_P D vwCl (wX q cI cJ cZ u) H → va_D (va_A (wX q cI cJ cZ u00) s.heap.size) (wX q cI cJ cZ u) → va_S (va_A (wX q cI cJ cZ u00) s.heap.size) s.heap H locs → ∀ ls : Array Slot, lv_has ls 5 [(0, .ref (q 7)), (1, .int x1), (2, .int x2), (3, .int x3), (4, .int x4)] → W p l e (headSpec wsX4_cheapestSet rm_X4_cheapestSet).room s m args below meth c H locs 0 0 (MQ below (va_Qi post (fun u' t => va_P D vwCl (wX q cI cJ cZ u') t.heap) (va_A (wX q cI cJ cZ u00) s.heap.size)) args s 0 0 (va_A (wX q cI cJ cZ u00) s.heap.size)) (F0 m 15 ls [])) → W p l e (headSpec wsX4_cheapestSet rm_X4_cheapestSet).room s m args below meth c H locs 0 0 (MQ below (va_Qi post (fun u' t => va_P D vwCl (wX q cI cJ cZ u') t.heap) (va_A (wX q cI cJ cZ u00) s.heap.size)) args s 0 0 (va_A (wX q cI cJ cZ u00) s.heap.size)) (F0 m 52 ls []) := by
    intro K15 x1 x2 x3 x4 u H locs hw hP hD hS ls hl k15
    unfold wp_X4_cheapestSet_J52 at hw
    obtain ⟨y19, ey19⟩ : ∃ z : Int32, z = x4 + 1 := ⟨_, rfl⟩
    have hw := hw y19 ey19
    refine lv_iinc (v := y19) (lv' := [(4, .int y19), (0, .ref (q 7)), (1, .int x1), (2, .int x2), (3, .int x3)]) hx hb dX4_cheapestSet_52 hl (k := 4) rfl (by rw [ey19]; rfl) (by decide) rfl (fun ls hl => ?_)
    refine lv_goto (tgt := 15) hx hb dX4_cheapestSet_55 (by decide) ?_
    exact k15 x2 y19 u _ _ hw hP hD hS ls (lv_sub hl [1, 2, 3, 4, 0] rfl)
  have J39 : ∀ {K15 : Int32 → Int32 → WU → Prop} (x1 : Int32) (x2 : Int32) (x3 : Int32) (x4 : Int32) (u : WU) (H : Heap) (locs : List Loc), wp_X4_cheapestSet_J39 x1 x2 x3 x4 u post K15 → va_P D vwCl (wX q cI cJ cZ u) H → va_D (va_A (wX q cI cJ cZ u00) s.heap.size) (wX q cI cJ cZ u) → va_S (va_A (wX q cI cJ cZ u00) s.heap.size) s.heap H locs → ∀ ls : Array Slot, lv_has ls 5 [(0, .ref (q 7)), (1, .int x1), (2, .int x2), (3, .int x3), (4, .int x4)] → (∀ (x2 : Int32) (x4 : Int32) (u : WU) (H : Heap) (locs : List Loc), K15 x2 x4 u → va_P D vwCl (wX q cI cJ cZ u) H → va_D (va_A (wX q cI cJ cZ u00) s.heap.size) (wX q cI cJ cZ u) → va_S (va_A (wX q cI cJ cZ u00) s.heap.size) s.heap H locs → ∀ ls : Array Slot, lv_has ls 5 [(0, .ref (q 7)), (1, .int x1), (2, .int x2), (3, .int x3), (4, .int x4)] → W p l e (headSpec wsX4_cheapestSet rm_X4_cheapestSet).room s m args below meth c H locs 0 0 (MQ below (va_Qi post (fun u' t => va_P D vwCl (wX q cI cJ cZ u') t.heap) (va_A (wX q cI cJ cZ u00) s.heap.size)) args s 0 0 (va_A (wX q cI cJ cZ u00) s.heap.size)) (F0 m 15 ls [])) → W p l e (headSpec wsX4_cheapestSet rm_X4_cheapestSet).room s m args below meth c H locs 0 0 (MQ below (va_Qi post (fun u' t => va_P D vwCl (wX q cI cJ cZ u') t.heap) (va_A (wX q cI cJ cZ u00) s.heap.size)) args s 0 0 (va_A (wX q cI cJ cZ u00) s.heap.size)) (F0 m 39 ls []) := by
    intro K15 x1 x2 x3 x4 u H locs hw hP hD hS ls hl k15
    unfold wp_X4_cheapestSet_J39 at hw
    refine lv_aload_n hx hb dX4_cheapestSet_39 rfl (lv_at hl 0 rfl) ?_
    refine lv_iload_n hx hb dX4_cheapestSet_40 rfl (lv_at hl 1 rfl) ?_
    refine lv_iload hx hb dX4_cheapestSet_41 (lv_at hl 4 rfl) ?_
    refine cMi (sh_wX q cI cJ cZ) (u := u) (va_runV (As := [.int x1, .int x4]) (rest := []) ⟨hx, hb, hml, hown, hts⟩ (c_X4_endsQuarrels l D q cI cJ cZ _ u x1 x4 _ hw) (cwV 2 hts gX4_cheapestSet_X4_endsQuarrels rfl rfl rfl (by decide +kernel) ⟨Nat.le_of_ble_eq_true rfl, Nat.le_of_ble_eq_true rfl⟩) (pvM (va_recv hK hP (ci := 4) (q0 := 7) (q := (RX4, TX4, 5)) rfl rfl) hK hP hD hN) rfl rfl hl.1 rfl (lv_room (Nat.le_of_ble_eq_true rfl)) dX4_cheapestSet_43 ⟨Nat.zero_le _, Nat.zero_le _⟩) hA hD hS (fun r12 u11 H locs hw hP hD hS => ?_)
    refine lv_if_eq (tgt := 52) hx hb dX4_cheapestSet_46 (by decide) (fun hc => ?_) (fun hc => ?_)
    · have hw := hw.1 hc
      refine J52 x1 x2 x3 x4 u11 _ _ hw hP hD hS ls (lv_sub hl [0, 1, 2, 3, 4] rfl) (fun y13 y14 u15 H locs hw hP hD hS ls hl => ?_)
      exact k15 y13 y14 u15 _ _ hw hP hD hS ls (lv_sub hl [0, 1, 2, 3, 4] rfl)
    · have hw := hw.2 hc
      refine lv_iload hx hb dX4_cheapestSet_49 (lv_at hl 4 rfl) ?_
      refine lv_istore_n (lv' := [(2, .int x4), (0, .ref (q 7)), (1, .int x1), (3, .int x3), (4, .int x4)]) hx hb dX4_cheapestSet_51 rfl hl (by decide) rfl (fun ls hl => ?_)
      refine J52 x1 x4 x3 x4 u11 _ _ hw hP hD hS ls (lv_sub hl [1, 2, 0, 3, 4] rfl) (fun y16 y17 u18 H locs hw hP hD hS ls hl => ?_)
      exact k15 y16 y17 u18 _ _ hw hP hD hS ls (lv_sub hl [0, 1, 2, 3, 4] rfl)
  have L15 : ∀ (x1 : Int32) (x3 : Int32) (n : Nat) (x2 : Int32) (x4 : Int32) (u : WU) (H : Heap) (locs : List Loc), wp_X4_cheapestSet_L15 x1 x3 post n x2 x4 u → va_P D vwCl (wX q cI cJ cZ u) H → va_D (va_A (wX q cI cJ cZ u00) s.heap.size) (wX q cI cJ cZ u) → va_S (va_A (wX q cI cJ cZ u00) s.heap.size) s.heap H locs → ∀ ls : Array Slot, lv_has ls 5 [(0, .ref (q 7)), (1, .int x1), (2, .int x2), (3, .int x3), (4, .int x4)] → W p l e (headSpec wsX4_cheapestSet rm_X4_cheapestSet).room s m args below meth c H locs 0 0 (MQ below (va_Qi post (fun u' t => va_P D vwCl (wX q cI cJ cZ u') t.heap) (va_A (wX q cI cJ cZ u00) s.heap.size)) args s 0 0 (va_A (wX q cI cJ cZ u00) s.heap.size)) (F0 m 15 ls []) := by
    intro x1 x3 n
    induction n with
    | zero =>
      intro x2 x4 u H locs hw
      exact hw.elim
    | succ n ih =>
      intro x2 x4 u H locs hw hP hD hS ls hl 
      unfold wp_X4_cheapestSet_L15 at hw
      refine lv_iload hx hb dX4_cheapestSet_15 (lv_at hl 4 rfl) ?_
      refine lv_iload_n hx hb dX4_cheapestSet_17 rfl (lv_at hl 3 rfl) ?_
      refine lv_icmp_ge (tgt := 58) hx hb dX4_cheapestSet_18 (by decide) (fun hc => ?_) (fun hc => ?_)
      · have hw := hw.1 hc
        refine lv_iload_n hx hb dX4_cheapestSet_58 rfl (lv_at hl 2 rfl) ?_
        exact W.iret (v := x2) hx hb hr (fun t ht hW => ⟨⟨x2, u, rfl, hw, by show va_P D vwCl _ t.heap; rw [ht]; exact hP⟩, hS.F ht⟩) hS.2.2 dX4_cheapestSet_59
      · have hw := hw.2 hc
        refine lv_iload_n hx hb dX4_cheapestSet_21 rfl (lv_at hl 2 rfl) ?_
        refine lv_iconst (v := (-1)) hx hb dX4_cheapestSet_22 (by decide) ?_
        refine lv_icmp_eq (tgt := 39) hx hb dX4_cheapestSet_23 (by decide) (fun hc => ?_) (fun hc => ?_)
        · have hw := hw.1 hc
          refine J39 x1 x2 x3 x4 u _ _ hw hP hD hS ls (lv_sub hl [0, 1, 2, 3, 4] rfl) (fun y1 y2 u3 H locs hw hP hD hS ls hl => ?_)
          exact ih y1 y2 u3 _ _ hw hP hD hS ls (lv_sub hl [0, 1, 2, 3, 4] rfl)
        · have hw := hw.2 hc
          refine lv_aload_n hx hb dX4_cheapestSet_26 rfl (lv_at hl 0 rfl) ?_
          refine va_get (D := D) (ci := 4) (v := .ref (q 4)) (C := RX4) (T := TX4) (N := 5) hx hb hts hiX4 hown hK hP 7 rfl rfl 2 (by decide) hf23 (fun _ h9 => h9) rfl dX4_cheapestSet_27 ?_
          refine lv_iload hx hb dX4_cheapestSet_30 (lv_at hl 4 rfl) ?_
          refine lv_iload_n hx hb dX4_cheapestSet_32 rfl (lv_at hl 2 rfl) ?_
          refine vp_callSi (va_Run.run (va_runV (As := [.int x4, .int x2]) (rest := []) ⟨hx, hb, hml, hown, hts⟩ (c_X0_isBetter l D q cI cJ cZ u x4 x2 _ hw) (cwV 2 hts gX4_cheapestSet_X0_isBetter rfl rfl rfl (by decide +kernel) ⟨Nat.le_of_ble_eq_true rfl, Nat.le_of_ble_eq_true rfl⟩) (pvR (va_recv hK hP (ci := 0) (q0 := 4) (q := (RX0, TX0, 5)) rfl rfl) hK hP hN) rfl rfl hl.1 rfl (lv_room (Nat.le_of_ble_eq_true rfl)) dX4_cheapestSet_33 ⟨Nat.zero_le _, Nat.zero_le _⟩)) (fun r4 hw => ?_)
          refine lv_if_eq (tgt := 52) hx hb dX4_cheapestSet_36 (by decide) (fun hc => ?_) (fun hc => ?_)
          · have hw := hw.1 hc
            refine J52 x1 x2 x3 x4 u _ _ hw hP hD hS ls (lv_sub hl [0, 1, 2, 3, 4] rfl) (fun y5 y6 u7 H locs hw hP hD hS ls hl => ?_)
            exact ih y5 y6 u7 _ _ hw hP hD hS ls (lv_sub hl [0, 1, 2, 3, 4] rfl)
          · have hw := hw.2 hc
            refine J39 x1 x2 x3 x4 u _ _ hw hP hD hS ls (lv_sub hl [0, 1, 2, 3, 4] rfl) (fun y8 y9 u10 H locs hw hP hD hS ls hl => ?_)
            exact ih y8 y9 u10 _ _ hw hP hD hS ls (lv_sub hl [0, 1, 2, 3, 4] rfl)
  have hent := lg_entry_eq m ([.ref (q 7), .int x1]) 5
  rw [← hargs] at hent
  rw [hent]
  have hl := lv_entry ([.ref (q 7), .int x1]) (n := 5) (Nat.le_of_ble_eq_true rfl)
  generalize (lg_sl ([.ref (q 7), .int x1]) ++ List.replicate (5 - (lg_sl ([.ref (q 7), .int x1])).length) Slot.unset).toArray = ls at hl ⊢
  have hl : lv_has ls 5 [(0, .ref (q 7)), (1, .int x1)] := hl
  unfold wp_X4_cheapestSet at hw
  refine lv_iconst (v := (-1)) hx hb dX4_cheapestSet_0 (by decide) ?_
  refine lv_istore_n (lv' := [(2, .int (-1)), (0, .ref (q 7)), (1, .int x1)]) hx hb dX4_cheapestSet_1 rfl hl (by decide) rfl (fun ls hl => ?_)
  refine lv_iconst (v := 1) hx hb dX4_cheapestSet_2 (by decide) ?_
  refine lv_aload_n hx hb dX4_cheapestSet_3 rfl (lv_at hl 1 rfl) ?_
  refine va_get (D := D) (ci := 4) (v := .ref (q 4)) (C := RX4) (T := TX4) (N := 5) hx hb hts hiX4 hown hK hP 7 rfl rfl 2 (by decide) hf23 (fun _ h9 => h9) rfl dX4_cheapestSet_4 ?_
  refine va_getN (D := D) (ci := 0) (v := .int (u.1 23 0)) (C := RX0) (T := TX0) (N := 5) hx hb hts hiX0 hown hK hP 4 rfl rfl 4 (by decide) (va_Nw.use rfl (nf_RX4_31 hN)) (fun _ h9 => h9) rfl dX4_cheapestSet_7 ?_
  refine lv_ishl hx hb dX4_cheapestSet_10 ?_
  refine lv_topi (fun y20 ey20 => ?_)
  have hw := hw y20 ey20
  refine lv_istore_n (lv' := [(3, .int y20), (2, .int (-1)), (0, .ref (q 7)), (1, .int x1)]) hx hb dX4_cheapestSet_11 rfl hl (by decide) rfl (fun ls hl => ?_)
  refine lv_iconst (v := 0) hx hb dX4_cheapestSet_12 (by decide) ?_
  refine lv_istore (lv' := [(4, .int 0), (3, .int y20), (2, .int (-1)), (0, .ref (q 7)), (1, .int x1)]) hx hb dX4_cheapestSet_13 hl (by decide) rfl (fun ls hl => ?_)
  obtain ⟨nn, hw⟩ := hw
  refine L15 x1 y20 nn (-1) 0 u _ _ hw hP hD hS ls (lv_sub hl [3, 4, 2, 1, 0] rfl)
