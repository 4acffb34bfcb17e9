set_option maxHeartbeats 4000000 in
set_option maxRecDepth 100000 in
theorem c_J13_bitCount_95d88 (l : Launch) (x0 : Int64) (post : Int32 → Prop) (hw : wp_J13_bitCount_95d88 x0 post) : Met l yJ13_bitCount_95d88 wsJ13_bitCount_95d88 rm_J13_bitCount_95d88 (va_Pc [.long x0] NW) (vp_Si post) 0 0 (fun _ => False) := by
  refine Met.ofW (cc := cJ13_bitCount_95d88) (maxL := 2) (ret := (some .int)) (by decide) rfl ?_
  intro p e s m args below meth c s₁ B hml hv
  obtain ⟨hargs, hN⟩ := hv
  have hx := B.exec
  have hb := B.bytes
  have hr := B.returns
  have hts := atoms_spec (ws := wsJ13_bitCount_95d88) B.pre
  have hown : s.vm.findClass RJ13 = some m.cls := findClass_of_methodNamed B.named
  have hlocks := B.notSynchronized
  have hc314 := hts (.constantLong RJ13 314 (6148914691236517205)) (by decide +kernel)
  have hc316 := hts (.constantLong RJ13 316 (3689348814741910323)) (by decide +kernel)
  have hc318 := hts (.constantLong RJ13 318 (1085102592571150095)) (by decide +kernel)
  have hent := lg_entry_eq m ([.long x0]) 2
  rw [← hargs] at hent
  rw [hent]
  have hl := lv_entry ([.long x0]) (n := 2) (Nat.le_of_ble_eq_true rfl)
  generalize (lg_sl ([.long x0]) ++ List.replicate (2 - (lg_sl ([.long x0])).length) Slot.unset).toArray = ls at hl ⊢
  have hl : lv_has ls 2 [(0, .long x0)] := hl
  unfold wp_J13_bitCount_95d88 at hw
  refine lv_lload_n hx hb dJ13_bitCount_95d88_0 rfl (lv_at hl 0 rfl) ?_
  refine lv_lload_n hx hb dJ13_bitCount_95d88_1 rfl (lv_at hl 0 rfl) ?_
  refine lv_iconst (v := 1) hx hb dJ13_bitCount_95d88_2 (by decide) ?_
  refine lv_lushr (v := jushr x0 1) hx hb dJ13_bitCount_95d88_3 rfl ?_
  refine lv_ldc2 (v := 6148914691236517205) hx hb hown hc314 dJ13_bitCount_95d88_4 ?_
  refine lv_land hx hb dJ13_bitCount_95d88_7 ?_
  refine lv_lsub hx hb dJ13_bitCount_95d88_8 ?_
  refine lv_topl (fun y1 ey1 => ?_)
  have hw := hw y1 ey1
  refine lv_lstore_n (lv' := [(0, .long y1)]) hx hb dJ13_bitCount_95d88_9 rfl hl (by decide) rfl (fun ls hl => ?_)
  refine lv_lload_n hx hb dJ13_bitCount_95d88_10 rfl (lv_at hl 0 rfl) ?_
  refine lv_ldc2 (v := 3689348814741910323) hx hb hown hc316 dJ13_bitCount_95d88_11 ?_
  refine lv_land hx hb dJ13_bitCount_95d88_14 ?_
  refine lv_lload_n hx hb dJ13_bitCount_95d88_15 rfl (lv_at hl 0 rfl) ?_
  refine lv_iconst (v := 2) hx hb dJ13_bitCount_95d88_16 (by decide) ?_
  refine lv_lushr (v := jushr y1 2) hx hb dJ13_bitCount_95d88_17 rfl ?_
  refine lv_ldc2 (v := 3689348814741910323) hx hb hown hc316 dJ13_bitCount_95d88_18 ?_
  refine lv_land hx hb dJ13_bitCount_95d88_21 ?_
  refine lv_ladd hx hb dJ13_bitCount_95d88_22 ?_
  refine lv_topl (fun y2 ey2 => ?_)
  have hw := hw y2 ey2
  refine lv_lstore_n (lv' := [(0, .long y2)]) hx hb dJ13_bitCount_95d88_23 rfl hl (by decide) rfl (fun ls hl => ?_)
  refine lv_lload_n hx hb dJ13_bitCount_95d88_24 rfl (lv_at hl 0 rfl) ?_
  refine lv_lload_n hx hb dJ13_bitCount_95d88_25 rfl (lv_at hl 0 rfl) ?_
  refine lv_iconst (v := 4) hx hb dJ13_bitCount_95d88_26 (by decide) ?_
  refine lv_lushr (v := jushr y2 4) hx hb dJ13_bitCount_95d88_27 rfl ?_
  refine lv_ladd hx hb dJ13_bitCount_95d88_28 ?_
  refine lv_ldc2 (v := 1085102592571150095) hx hb hown hc318 dJ13_bitCount_95d88_29 ?_
  refine lv_land hx hb dJ13_bitCount_95d88_32 ?_
  refine lv_topl (fun y3 ey3 => ?_)
  have hw := hw y3 ey3
  refine lv_lstore_n (lv' := [(0, .long y3)]) hx hb dJ13_bitCount_95d88_33 rfl hl (by decide) rfl (fun ls hl => ?_)
  refine lv_lload_n hx hb dJ13_bitCount_95d88_34 rfl (lv_at hl 0 rfl) ?_
  refine lv_lload_n hx hb dJ13_bitCount_95d88_35 rfl (lv_at hl 0 rfl) ?_
  refine lv_bipush (v := 8) hx hb dJ13_bitCount_95d88_36 (by decide) ?_
  refine lv_lushr (v := jushr y3 8) hx hb dJ13_bitCount_95d88_38 rfl ?_
  refine lv_ladd hx hb dJ13_bitCount_95d88_39 ?_
  refine lv_topl (fun y4 ey4 => ?_)
  have hw := hw y4 ey4
  refine lv_lstore_n (lv' := [(0, .long y4)]) hx hb dJ13_bitCount_95d88_40 rfl hl (by decide) rfl (fun ls hl => ?_)
  refine lv_lload_n hx hb dJ13_bitCount_95d88_41 rfl (lv_at hl 0 rfl) ?_
  refine lv_lload_n hx hb dJ13_bitCount_95d88_42 rfl (lv_at hl 0 rfl) ?_
  refine lv_bipush (v := 16) hx hb dJ13_bitCount_95d88_43 (by decide) ?_
  refine lv_lushr (v := jushr y4 16) hx hb dJ13_bitCount_95d88_45 rfl ?_
  refine lv_ladd hx hb dJ13_bitCount_95d88_46 ?_
  refine lv_topl (fun y5 ey5 => ?_)
  have hw := hw y5 ey5
  refine lv_lstore_n (lv' := [(0, .long y5)]) hx hb dJ13_bitCount_95d88_47 rfl hl (by decide) rfl (fun ls hl => ?_)
  refine lv_lload_n hx hb dJ13_bitCount_95d88_48 rfl (lv_at hl 0 rfl) ?_
  refine lv_lload_n hx hb dJ13_bitCount_95d88_49 rfl (lv_at hl 0 rfl) ?_
  refine lv_bipush (v := 32) hx hb dJ13_bitCount_95d88_50 (by decide) ?_
  refine lv_lushr (v := jushr y5 32) hx hb dJ13_bitCount_95d88_52 rfl ?_
  refine lv_ladd hx hb dJ13_bitCount_95d88_53 ?_
  refine lv_topl (fun y6 ey6 => ?_)
  have hw := hw y6 ey6
  refine lv_lstore_n (lv' := [(0, .long y6)]) hx hb dJ13_bitCount_95d88_54 rfl hl (by decide) rfl (fun ls hl => ?_)
  refine lv_lload_n hx hb dJ13_bitCount_95d88_55 rfl (lv_at hl 0 rfl) ?_
  refine lv_l2i (v := y6.toInt32) hx hb dJ13_bitCount_95d88_56 rfl ?_
  refine lv_bipush (v := 127) hx hb dJ13_bitCount_95d88_57 (by decide) ?_
  refine lv_iand hx hb dJ13_bitCount_95d88_59 ?_
  exact W.iret (v := y6.toInt32 &&& 127) hx hb hr (fun t ht hW => ⟨y6.toInt32 &&& 127, rfl, hw, ht⟩) (fun _ h => by cases h) dJ13_bitCount_95d88_60
set_option maxHeartbeats 4000000 in
set_option maxRecDepth 100000 in
theorem c_X2_ofProduct (l : Launch) (D : va_G) (q : Nat → Nat) (cI cJ cZ : ClassId) (u : WU) (x1 : Int64) (post : Int32 → Prop) (hw : wp_X2_ofProduct x1 u post) : Met l yX2_ofProduct wsX2_ofProduct rm_X2_ofProduct (va_Pc [.ref (q 5), .long x1] (RW D (ty3 cI cJ cZ) (wX q cI cJ cZ u))) (vp_Si post) 0 0 (fun _ => False) := by
  refine Met.ofW (cc := cX2_ofProduct) (maxL := 3) (ret := (some .int)) (by decide) rfl ?_
  intro p e s m args below meth c s₁ B hml hv
  obtain ⟨hargs, hP, hK, hN⟩ := hv
  have hx := B.exec
  have hb := B.bytes
  have hr := B.returns
  have hts := atoms_spec (ws := wsX2_ofProduct) B.pre
  have hown : s.vm.findClass RX2 = some m.cls := findClass_of_methodNamed B.named
  have hlocks := B.notSynchronized
  have hiX2 : ∀ w ∈ u_ws RX2 TX2 5, w ∈ wsX2_ofProduct := by decide +kernel
  have hiX5 : ∀ w ∈ u_ws RX5 TX5 6, w ∈ wsX2_ofProduct := by decide +kernel
  have hf22 := hts (.fieldLink RX2 22 "TermsDesk$Flow" "parts" "LTermsDesk$Parts;") (by decide +kernel)
  have hf26 := hts (.fieldLink RX2 26 "TermsDesk$Flow" "joins" "LTermsDesk$Joins;") (by decide +kernel)
  have hent := lg_entry_eq m ([.ref (q 5), .long x1]) 3
  rw [← hargs] at hent
  rw [hent]
  have hl := lv_entry ([.ref (q 5), .long x1]) (n := 3) (Nat.le_of_ble_eq_true rfl)
  generalize (lg_sl ([.ref (q 5), .long x1]) ++ List.replicate (3 - (lg_sl ([.ref (q 5), .long x1])).length) Slot.unset).toArray = ls at hl ⊢
  have hl : lv_has ls 3 [(0, .ref (q 5)), (1, .long x1)] := hl
  unfold wp_X2_ofProduct at hw
  refine lv_aload_n hx hb dX2_ofProduct_0 rfl (lv_at hl 0 rfl) ?_
  refine va_get (D := D) (ci := 2) (v := .ref (q 2)) (C := RX2) (T := TX2) (N := 5) hx hb hts hiX2 hown hK hP 5 rfl rfl 1 (by decide) hf22 (fun _ h9 => h9) rfl dX2_ofProduct_1 ?_
  refine va_getN (D := D) (ci := 5) (v := .int (u.1 20 0)) (C := RX5) (T := TX5) (N := 6) hx hb hts hiX5 hown hK hP 2 rfl rfl 4 (by decide) (va_Nw.use rfl (nf_RX2_85 hN)) (fun _ h9 => h9) rfl dX2_ofProduct_4 ?_
  refine lv_if_ne (tgt := 14) hx hb dX2_ofProduct_7 (by decide) (fun hc => ?_) (fun hc => ?_)
  · have hw := hw.1 hc
    refine lv_aload_n hx hb dX2_ofProduct_14 rfl (lv_at hl 0 rfl) ?_
    refine va_get (D := D) (ci := 2) (v := .ref (q 3)) (C := RX2) (T := TX2) (N := 5) hx hb hts hiX2 hown hK hP 5 rfl rfl 2 (by decide) hf26 (fun _ h9 => h9) rfl dX2_ofProduct_15 ?_
    refine lv_aload_n hx hb dX2_ofProduct_18 rfl (lv_at hl 0 rfl) ?_
    refine va_get (D := D) (ci := 2) (v := .ref (q 2)) (C := RX2) (T := TX2) (N := 5) hx hb hts hiX2 hown hK hP 5 rfl rfl 1 (by decide) hf22 (fun _ h9 => h9) rfl dX2_ofProduct_19 ?_
    refine va_getN (D := D) (ci := 5) (v := .int (u.1 21 0)) (C := RX5) (T := TX5) (N := 6) hx hb hts hiX5 hown hK hP 2 rfl rfl 5 (by decide) (va_Nw.use rfl (nf_RX2_89 hN)) (fun _ h9 => h9) rfl dX2_ofProduct_22 ?_
    refine lv_lload_n hx hb dX2_ofProduct_25 rfl (lv_at hl 1 rfl) ?_
    refine vp_callSi (va_Run.run (va_runV (As := [.int (u.1 21 0), .long x1]) (rest := []) ⟨hx, hb, hml, hown, hts⟩ (c_X3_allIn l D q cI cJ cZ u (u.1 21 0) x1 _ hw) (cwV 2 hts gX2_ofProduct_X3_allIn rfl rfl rfl (by decide +kernel) ⟨Nat.le_of_ble_eq_true rfl, Nat.le_of_ble_eq_true rfl⟩) (pvR (va_recv hK hP (ci := 3) (q0 := 3) (q := (RX3, TX3, 9)) rfl rfl) hK hP hN) rfl rfl hl.1 rfl (lv_room (Nat.le_of_ble_eq_true rfl)) dX2_ofProduct_26 ⟨Nat.zero_le _, Nat.zero_le _⟩)) (fun r1 hw => ?_)
    exact W.iret (v := r1) hx hb hr (fun t ht hW => ⟨r1, rfl, hw, ht⟩) (fun _ h => by cases h) dX2_ofProduct_29
  · have hw := hw.2 hc
    refine lv_iconst (v := 0) hx hb dX2_ofProduct_10 (by decide) ?_
    refine lv_goto (tgt := 29) hx hb dX2_ofProduct_11 (by decide) ?_
    exact W.iret (v := 0) hx hb hr (fun t ht hW => ⟨0, rfl, hw, ht⟩) (fun _ h => by cases h) dX2_ofProduct_29
set_option maxHeartbeats 4000000 in
set_option maxRecDepth 100000 in
theorem c_X2_quarrelCount_c14 (l : Launch) (D : va_G) (q : Nat → Nat) (cI cJ cZ : ClassId) (u : WU) (x2 : Int64) (post : Int32 → Prop) (hw : wp_X2_quarrelCount_c14 x2 u post) : Met l yX2_quarrelCount wsX2_quarrelCount rm_X2_quarrelCount (va_Pc [.ref (q 5), .ref (q 14), .long x2] (RW D (ty3 cI cJ cZ) (wX q cI cJ cZ u))) (vp_Si post) 0 0 (fun _ => False) := by
  refine Met.ofW (cc := cX2_quarrelCount) (maxL := 7) (ret := (some .int)) (by decide) rfl ?_
  intro p e s m args below meth c s₁ B hml hv
  obtain ⟨hargs, hP, hK, hN⟩ := hv
  have hx := B.exec
  have hb := B.bytes
  have hr := B.returns
  have hts := atoms_spec (ws := wsX2_quarrelCount) B.pre
  have hown : s.vm.findClass RX2 = some m.cls := findClass_of_methodNamed B.named
  have hlocks := B.notSynchronized
  have hiX2 : ∀ w ∈ u_ws RX2 TX2 5, w ∈ wsX2_quarrelCount := by decide +kernel
  have hiX5 : ∀ w ∈ u_ws RX5 TX5 6, w ∈ wsX2_quarrelCount := by decide +kernel
  have hf22 := hts (.fieldLink RX2 22 "TermsDesk$Flow" "parts" "LTermsDesk$Parts;") (by decide +kernel)
  have hi_RX8 := hts (.initialized RX8) (by decide +kernel)
  have hs_X8_holds := hts (.static yX8_holds) (by decide +kernel)
  have J54 : ∀ {K13 : Int32 → Int32 → Prop} (x4 : Int32) (x5 : Int32) (x6 : Int32) (_ : Unit), wp_X2_quarrelCount_c14_J54 x4 x5 x6 u post K13 → ∀ ls : Array Slot, lv_has ls 7 [(0, .ref (q 5)), (1, .ref (q 14)), (4, .int x4), (5, .int x5), (6, .int x6)] → (∀ (x5 : Int32) (x6 : Int32), K13 x5 x6 → ∀ ls : Array Slot, lv_has ls 7 [(0, .ref (q 5)), (1, .ref (q 14)), (4, .int x4), (5, .int x5), (6, .int x6)] → W p l e (headSpec wsX2_quarrelCount rm_X2_quarrelCount).room s m args below meth c s.heap [] 0 0 (MQ below (vp_Si post) args s 0 0 (fun _ => False)) (F0 m 13 ls [])) → W p l e (headSpec wsX2_quarrelCount rm_X2_quarrelCount).room s m args below meth c s.heap [] 0 0 (MQ below (vp_Si post) args s 0 0 (fun _ => False)) (F0 m 54 ls []) := by
    intro K13 x4 x5 x6 _ hw ls hl k13
    unfold wp_X2_quarrelCount_c14_J54 at hw
    obtain ⟨y9, ey9⟩ : ∃ z : Int32, z = x6 + 1 := ⟨_, rfl⟩
    have hw := hw y9 ey9
    refine lv_iinc (v := y9) (lv' := [(6, .int y9), (0, .ref (q 5)), (1, .ref (q 14)), (4, .int x4), (5, .int x5)]) hx hb dX2_quarrelCount_54 hl (k := 4) rfl (by rw [ey9]; rfl) (by decide) rfl (fun ls hl => ?_)
    refine lv_goto (tgt := 13) hx hb dX2_quarrelCount_57 (by decide) ?_
    exact k13 x5 y9 hw ls (lv_sub hl [1, 2, 3, 4, 0] rfl)
  have L13 : ∀ (x4 : Int32) (n : Nat) (x5 : Int32) (x6 : Int32) (_ : Unit), wp_X2_quarrelCount_c14_L13 x4 u post n x5 x6 → ∀ ls : Array Slot, lv_has ls 7 [(0, .ref (q 5)), (1, .ref (q 14)), (4, .int x4), (5, .int x5), (6, .int x6)] → W p l e (headSpec wsX2_quarrelCount rm_X2_quarrelCount).room s m args below meth c s.heap [] 0 0 (MQ below (vp_Si post) args s 0 0 (fun _ => False)) (F0 m 13 ls []) := by
    intro x4 n
    induction n with
    | zero =>
      intro x5 x6 _ hw
      exact hw.elim
    | succ n ih =>
      intro x5 x6 _ hw ls hl 
      unfold wp_X2_quarrelCount_c14_L13 at hw
      refine lv_iload hx hb dX2_quarrelCount_13 (lv_at hl 4 rfl) ?_
      refine lv_aload_n hx hb dX2_quarrelCount_15 rfl (lv_at hl 0 rfl) ?_
      refine va_get (D := D) (ci := 2) (v := .ref (q 2)) (C := RX2) (T := TX2) (N := 5) hx hb hts hiX2 hown hK hP 5 rfl rfl 1 (by decide) hf22 (fun _ h9 => h9) rfl dX2_quarrelCount_16 ?_
      refine va_getN (D := D) (ci := 5) (v := .int (u.1 20 0)) (C := RX5) (T := TX5) (N := 6) hx hb hts hiX5 hown hK hP 2 rfl rfl 4 (by decide) (va_Nw.use rfl (nf_RX2_85 hN)) (fun _ h9 => h9) rfl dX2_quarrelCount_19 ?_
      refine lv_icmp_ge (tgt := 60) hx hb dX2_quarrelCount_22 (by decide) (fun hc => ?_) (fun hc => ?_)
      · have hw := hw.1 hc
        refine lv_iload hx hb dX2_quarrelCount_60 (lv_at hl 3 rfl) ?_
        exact W.iret (v := x5) hx hb hr (fun t ht hW => ⟨x5, rfl, hw, ht⟩) (fun _ h => by cases h) dX2_quarrelCount_62
      · have hw := hw.2 hc
        refine lv_iload hx hb dX2_quarrelCount_25 (lv_at hl 2 rfl) ?_
        refine lv_i2l (v := x4.toInt64) hx hb dX2_quarrelCount_27 rfl ?_
        refine lv_iload hx hb dX2_quarrelCount_28 (lv_at hl 4 rfl) ?_
        refine vp_callSi (va_Run.run (va_runSN (As := [.long x4.toInt64, .int x6]) (rest := []) ⟨hx, hb, hml, hown, hts⟩ (c_X8_holds l x4.toInt64 x6 _ hw) ⟨va_cnB 2 hts ggX2_quarrelCount_X8_holds rfl rfl rfl (nm_RX2_69 hN) hi_RX8 (by decide +kernel) ⟨Nat.le_of_ble_eq_true rfl, Nat.le_of_ble_eq_true rfl⟩, hs_X8_holds, trivial⟩ (psS hN) rfl rfl hl.1 rfl (lv_room (Nat.le_of_ble_eq_true rfl)) dX2_quarrelCount_30 ⟨Nat.zero_le _, Nat.zero_le _⟩)) (fun r1 hw => ?_)
        refine lv_if_eq (tgt := 54) hx hb dX2_quarrelCount_33 (by decide) (fun hc => ?_) (fun hc => ?_)
        · have hw := hw.1 hc
          refine J54 x4 x5 x6 () hw ls (lv_sub hl [0, 1, 2, 3, 4] rfl) (fun y2 y3 hw ls hl => ?_)
          exact ih y2 y3 () hw ls (lv_sub hl [0, 1, 2, 3, 4] rfl)
        · have hw := hw.2 hc
          refine lv_iload hx hb dX2_quarrelCount_36 (lv_at hl 3 rfl) ?_
          refine lv_aload_n hx hb dX2_quarrelCount_38 rfl (lv_at hl 0 rfl) ?_
          refine lv_iload hx hb dX2_quarrelCount_39 (lv_at hl 4 rfl) ?_
          refine lv_aload_n hx hb dX2_quarrelCount_41 rfl (lv_at hl 1 rfl) ?_
          refine lv_iload hx hb dX2_quarrelCount_42 (lv_at hl 4 rfl) ?_
          obtain ⟨hin, hw⟩ := hw
          refine va_iald hx hb hK hP 14 0 rfl rfl hin dX2_quarrelCount_44 ?_
          refine vp_callSl (va_Run.run (va_runV (As := [.int x6, .int (u.1 2 x6.toNatClampNeg)]) (rest := [.int x5]) ⟨hx, hb, hml, hown, hts⟩ (c_X2_foughtAt l D q cI cJ cZ u x6 (u.1 2 x6.toNatClampNeg) _ hw) (cwV 2 hts gX2_quarrelCount_X2_foughtAt rfl rfl rfl (by decide +kernel) ⟨Nat.le_of_ble_eq_true rfl, Nat.le_of_ble_eq_true rfl⟩) (pvR (va_recv hK hP (ci := 2) (q0 := 5) (q := (RX2, TX2, 5)) rfl rfl) hK hP hN) rfl rfl hl.1 rfl (lv_room (Nat.le_of_ble_eq_true rfl)) dX2_quarrelCount_45 ⟨Nat.zero_le _, Nat.zero_le _⟩)) (fun r4 hw => ?_)
          refine vp_callSi (va_Run.run (va_runS (As := [.long r4]) (rest := [.int x5]) ⟨hx, hb, hml, hown, hts⟩ (c_J13_bitCount_95d88 l r4 _ hw) (va_cwS 1 hts gX2_quarrelCount_J13_bitCount_95d88 rfl rfl rfl (by decide +kernel) ⟨Nat.le_of_ble_eq_true rfl, Nat.le_of_ble_eq_true rfl⟩) (psS hN) rfl rfl hl.1 rfl (lv_room (Nat.le_of_ble_eq_true rfl)) dX2_quarrelCount_48 ⟨Nat.zero_le _, Nat.zero_le _⟩)) (fun r5 hw => ?_)
          refine lv_iadd hx hb dX2_quarrelCount_51 ?_
          refine lv_topi (fun y6 ey6 => ?_)
          have hw := hw y6 ey6
          refine lv_istore (lv' := [(5, .int y6), (0, .ref (q 5)), (1, .ref (q 14)), (4, .int x4), (6, .int x6)]) hx hb dX2_quarrelCount_52 hl (by decide) rfl (fun ls hl => ?_)
          refine J54 x4 y6 x6 () hw ls (lv_sub hl [1, 2, 3, 0, 4] rfl) (fun y7 y8 hw ls hl => ?_)
          exact ih y7 y8 () hw ls (lv_sub hl [0, 1, 2, 3, 4] rfl)
  have hent := lg_entry_eq m ([.ref (q 5), .ref (q 14), .long x2]) 7
  rw [← hargs] at hent
  rw [hent]
  have hl := lv_entry ([.ref (q 5), .ref (q 14), .long x2]) (n := 7) (Nat.le_of_ble_eq_true rfl)
  generalize (lg_sl ([.ref (q 5), .ref (q 14), .long x2]) ++ List.replicate (7 - (lg_sl ([.ref (q 5), .ref (q 14), .long x2])).length) Slot.unset).toArray = ls at hl ⊢
  have hl : lv_has ls 7 [(0, .ref (q 5)), (1, .ref (q 14)), (2, .long x2)] := hl
  unfold wp_X2_quarrelCount_c14 at hw
  refine lv_aload_n hx hb dX2_quarrelCount_0 rfl (lv_at hl 0 rfl) ?_
  refine lv_lload_n hx hb dX2_quarrelCount_1 rfl (lv_at hl 2 rfl) ?_
  refine vp_callSi (va_Run.run (va_runV (As := [.long x2]) (rest := []) ⟨hx, hb, hml, hown, hts⟩ (c_X2_ofProduct l D q cI cJ cZ u x2 _ hw) (cwV 1 hts gX2_quarrelCount_X2_ofProduct rfl rfl rfl (by decide +kernel) ⟨Nat.le_of_ble_eq_true rfl, Nat.le_of_ble_eq_true rfl⟩) (pvR (va_recv hK hP (ci := 2) (q0 := 5) (q := (RX2, TX2, 5)) rfl rfl) hK hP hN) rfl rfl hl.1 rfl (lv_room (Nat.le_of_ble_eq_true rfl)) dX2_quarrelCount_2 ⟨Nat.zero_le _, Nat.zero_le _⟩)) (fun r10 hw => ?_)
  refine lv_istore (lv' := [(4, .int r10), (0, .ref (q 5)), (1, .ref (q 14)), (2, .long x2)]) hx hb dX2_quarrelCount_5 hl (by decide) rfl (fun ls hl => ?_)
  refine lv_iconst (v := 0) hx hb dX2_quarrelCount_7 (by decide) ?_
  refine lv_istore (lv' := [(5, .int 0), (4, .int r10), (0, .ref (q 5)), (1, .ref (q 14)), (2, .long x2)]) hx hb dX2_quarrelCount_8 hl (by decide) rfl (fun ls hl => ?_)
  refine lv_iconst (v := 0) hx hb dX2_quarrelCount_10 (by decide) ?_
  refine lv_istore (lv' := [(6, .int 0), (5, .int 0), (4, .int r10), (0, .ref (q 5)), (1, .ref (q 14)), (2, .long x2)]) hx hb dX2_quarrelCount_11 hl (by decide) rfl (fun ls hl => ?_)
  obtain ⟨nn, hw⟩ := hw
  refine L13 r10 nn 0 0 () hw ls (lv_sub hl [3, 4, 2, 1, 0] rfl)
set_option maxHeartbeats 4000000 in
set_option maxRecDepth 100000 in
theorem c_X8_quarrels (l : Launch) (D : va_G) (q : Nat → Nat) (cI cJ cZ : ClassId) (sz : Nat) (u : WU) (x1 : Int32) (post : Int32 → WU → Prop) (hw : wp_X8_quarrels x1 u post) : Met l yX8_quarrels wsX8_quarrels rm_X8_quarrels (va_Pc [.ref (q 0), .int x1] (MW D (ty3 cI cJ cZ) (wX q cI cJ cZ u) sz)) (va_Qi post (fun u' t => va_P D vwCl (wX q cI cJ cZ u') t.heap) (va_A (wX q cI cJ cZ u00) sz)) 0 0 (va_A (wX q cI cJ cZ u00) sz) := by
  refine Met.ofW (cc := cX8_quarrels) (maxL := 2) (ret := (some .int)) (by decide) rfl ?_
  intro p e s m args below meth c s₁ B hml hv
  obtain ⟨hargs, hsz, hP, hK, hD0, hN⟩ := hv
  have hx := B.exec
  have hb := B.bytes
  have hr := B.returns
  have hts := atoms_spec (ws := wsX8_quarrels) B.pre
  have hown : s.vm.findClass RX8 = some m.cls := findClass_of_methodNamed B.named
  have hlocks := B.notSynchronized
  subst hsz
  have hD := shw_self (sz := s.heap.size) (sh_wX q cI cJ cZ) hD0
  have hA : ∀ a : Nat, s.heap.size ≤ a → va_A (wX q cI cJ cZ u00) s.heap.size a := fun _ h => Or.inr h
  have hS : va_S (va_A (wX q cI cJ cZ u00) s.heap.size) s.heap s.heap [] := va_S.rf
  have hiX3 : ∀ w ∈ u_ws RX3 TX3 9, w ∈ wsX8_quarrels := by decide +kernel
  have hiX5 : ∀ w ∈ u_ws RX5 TX5 6, w ∈ wsX8_quarrels := by decide +kernel
  have hiX8 : ∀ w ∈ u_ws RX8 TX8 8, w ∈ wsX8_quarrels := by decide +kernel
  have hf19 := hts (.fieldLink RX8 19 "TermsDesk" "parts" "LTermsDesk$Parts;") (by decide +kernel)
  have hf26 := hts (.fieldLink RX8 26 "TermsDesk" "joins" "LTermsDesk$Joins;") (by decide +kernel)
  have hf42 := hts (.fieldLink RX8 42 "TermsDesk" "flow" "LTermsDesk$Flow;") (by decide +kernel)
  have hent := lg_entry_eq m ([.ref (q 0), .int x1]) 2
  rw [← hargs] at hent
  rw [hent]
  have hl := lv_entry ([.ref (q 0), .int x1]) (n := 2) (Nat.le_of_ble_eq_true rfl)
  generalize (lg_sl ([.ref (q 0), .int x1]) ++ List.replicate (2 - (lg_sl ([.ref (q 0), .int x1])).length) Slot.unset).toArray = ls at hl ⊢
  have hl : lv_has ls 2 [(0, .ref (q 0)), (1, .int x1)] := hl
  unfold wp_X8_quarrels at hw
  refine lv_iload_n hx hb dX8_quarrels_0 rfl (lv_at hl 1 rfl) ?_
  refine lv_iconst (v := 4) hx hb dX8_quarrels_1 (by decide) ?_
  refine vp_callSi (va_Run.run (va_runS (As := [.int x1, .int 4]) (rest := []) ⟨hx, hb, hml, hown, hts⟩ (c_X8_within l x1 4 _ hw) (va_cwS 2 hts gX8_quarrels_X8_within rfl rfl rfl (by decide +kernel) ⟨Nat.le_of_ble_eq_true rfl, Nat.le_of_ble_eq_true rfl⟩) (psS hN) rfl rfl hl.1 rfl (lv_room (Nat.le_of_ble_eq_true rfl)) dX8_quarrels_2 ⟨Nat.zero_le _, Nat.zero_le _⟩)) (fun r1 hw => ?_)
  refine lv_if_ne (tgt := 10) hx hb dX8_quarrels_5 (by decide) (fun hc => ?_) (fun hc => ?_)
  · have hw := hw.1 hc
    refine lv_aload_n hx hb dX8_quarrels_10 rfl (lv_at hl 0 rfl) ?_
    refine va_get (D := D) (ci := 8) (v := .ref (q 5)) (C := RX8) (T := TX8) (N := 8) hx hb hts hiX8 hown hK hP 0 rfl rfl 4 (by decide) hf42 (fun _ h9 => h9) rfl dX8_quarrels_11 ?_
    refine lv_iload_n hx hb dX8_quarrels_14 rfl (lv_at hl 1 rfl) ?_
    refine lv_aload_n hx hb dX8_quarrels_15 rfl (lv_at hl 0 rfl) ?_
    refine va_get (D := D) (ci := 8) (v := .ref (q 2)) (C := RX8) (T := TX8) (N := 8) hx hb hts hiX8 hown hK hP 0 rfl rfl 1 (by decide) hf19 (fun _ h9 => h9) rfl dX8_quarrels_16 ?_
    refine va_getN (D := D) (ci := 5) (v := .ref (q 14)) (C := RX5) (T := TX5) (N := 6) hx hb hts hiX5 hown hK hP 2 rfl rfl 2 (by decide) (va_Nw.use rfl (nf_RX8_115 hN)) (fun _ h9 => h9) rfl dX8_quarrels_19 ?_
    refine lv_aload_n hx hb dX8_quarrels_22 rfl (lv_at hl 0 rfl) ?_
    refine va_get (D := D) (ci := 8) (v := .ref (q 3)) (C := RX8) (T := TX8) (N := 8) hx hb hts hiX8 hown hK hP 0 rfl rfl 2 (by decide) hf26 (fun _ h9 => h9) rfl dX8_quarrels_23 ?_
    refine va_getN (D := D) (ci := 3) (v := .long (u.2 6 0)) (C := RX3) (T := TX3) (N := 9) hx hb hts hiX3 hown hK hP 3 rfl rfl 4 (by decide) (va_Nw.use rfl (nf_RX8_122 hN)) (fun _ h9 => h9) rfl dX8_quarrels_26 ?_
    refine cMv (sh_wX q cI cJ cZ) (u := u) (va_runV (As := [.int x1, .ref (q 14), .long (u.2 6 0)]) (rest := []) ⟨hx, hb, hml, hown, hts⟩ (c_X2_run_c14 l D q cI cJ cZ _ u x1 (u.2 6 0) _ hw) (cwV 3 hts gX8_quarrels_X2_run rfl rfl rfl (by decide +kernel) ⟨Nat.le_of_ble_eq_true rfl, Nat.le_of_ble_eq_true rfl⟩) (pvM (va_recv hK hP (ci := 2) (q0 := 5) (q := (RX2, TX2, 5)) rfl rfl) hK hP hD hN) rfl rfl hl.1 rfl (lv_room (Nat.le_of_ble_eq_true rfl)) dX8_quarrels_29 ⟨Nat.zero_le _, Nat.zero_le _⟩) hA hD hS (fun u2 H locs hw hP hD hS => ?_)
    refine lv_aload_n hx hb dX8_quarrels_32 rfl (lv_at hl 0 rfl) ?_
    refine va_get (D := D) (ci := 8) (v := .ref (q 5)) (C := RX8) (T := TX8) (N := 8) hx hb hts hiX8 hown hK hP 0 rfl rfl 4 (by decide) hf42 (fun _ h9 => h9) rfl dX8_quarrels_33 ?_
    refine lv_aload_n hx hb dX8_quarrels_36 rfl (lv_at hl 0 rfl) ?_
    refine va_get (D := D) (ci := 8) (v := .ref (q 2)) (C := RX8) (T := TX8) (N := 8) hx hb hts hiX8 hown hK hP 0 rfl rfl 1 (by decide) hf19 (fun _ h9 => h9) rfl dX8_quarrels_37 ?_
    refine va_getN (D := D) (ci := 5) (v := .ref (q 14)) (C := RX5) (T := TX5) (N := 6) hx hb hts hiX5 hown hK hP 2 rfl rfl 2 (by decide) (va_Nw.use rfl (nf_RX8_115 hN)) (fun _ h9 => h9) rfl dX8_quarrels_40 ?_
    refine lv_aload_n hx hb dX8_quarrels_43 rfl (lv_at hl 0 rfl) ?_
    refine va_get (D := D) (ci := 8) (v := .ref (q 3)) (C := RX8) (T := TX8) (N := 8) hx hb hts hiX8 hown hK hP 0 rfl rfl 2 (by decide) hf26 (fun _ h9 => h9) rfl dX8_quarrels_44 ?_
    refine va_getN (D := D) (ci := 3) (v := .long (u2.2 6 0)) (C := RX3) (T := TX3) (N := 9) hx hb hts hiX3 hown hK hP 3 rfl rfl 4 (by decide) (va_Nw.use rfl (nf_RX8_122 hN)) (fun _ h9 => h9) rfl dX8_quarrels_47 ?_
    refine vp_callSi (va_Run.run (va_runV (As := [.ref (q 14), .long (u2.2 6 0)]) (rest := []) ⟨hx, hb, hml, hown, hts⟩ (c_X2_quarrelCount_c14 l D q cI cJ cZ u2 (u2.2 6 0) _ hw) (cwV 2 hts gX8_quarrels_X2_quarrelCount rfl rfl rfl (by decide +kernel) ⟨Nat.le_of_ble_eq_true rfl, Nat.le_of_ble_eq_true rfl⟩) (pvR (va_recv hK hP (ci := 2) (q0 := 5) (q := (RX2, TX2, 5)) rfl rfl) hK hP hN) rfl rfl hl.1 rfl (lv_room (Nat.le_of_ble_eq_true rfl)) dX8_quarrels_50 ⟨Nat.zero_le _, Nat.zero_le _⟩)) (fun r3 hw => ?_)
    exact W.iret (v := r3) hx hb hr (fun t ht hW => ⟨⟨r3, u2, rfl, hw, by show va_P D vwCl _ t.heap; rw [ht]; exact hP⟩, hS.F ht⟩) hS.2.2 dX8_quarrels_53
  · have hw := hw.2 hc
    refine lv_iconst (v := (-1)) hx hb dX8_quarrels_8 (by decide) ?_
    exact W.iret (v := (-1)) hx hb hr (fun t ht hW => ⟨⟨(-1), u, rfl, hw, by show va_P D vwCl _ t.heap; rw [ht]; exact hP⟩, hS.F ht⟩) hS.2.2 dX8_quarrels_9
set_option maxHeartbeats 4000000 in
set_option maxRecDepth 100000 in
theorem c_X9_bars_ (l : Launch) (D : va_G) (q : Nat → Nat) (cI cJ cZ : ClassId) (u : WU) (x1 : Int32) (post : Int64 → Prop) (hw : wp_X9_bars_ x1 u post) : Met l yX9_bars_ wsX9_bars_ rm_X9_bars_ (va_Pc [.ref (q 0), .int x1] (RW D (ty3 cI cJ cZ) (wM q cI cJ cZ u))) (vp_Sl post) 0 0 (fun _ => False) := by
  refine Met.ofW (cc := cX9_bars_) (maxL := 5) (ret := (some .long)) (by decide) rfl ?_
  intro p e s m args below meth c s₁ B hml hv
  obtain ⟨hargs, hP, hK, hN⟩ := hv
  have hx := B.exec
  have hb := B.bytes
  have hr := B.returns
  have hts := atoms_spec (ws := wsX9_bars_) B.pre
  have hown : s.vm.findClass RX9 = some m.cls := findClass_of_methodNamed B.named
  have hlocks := B.notSynchronized
  have hiX9 : ∀ w ∈ u_ws RX9 TX9 30, w ∈ wsX9_bars_ := by decide +kernel
  have hf17 := hts (.fieldLink RX9 17 "TermsDeskModel" "barred" "[I") (by decide +kernel)
  have J34 : ∀ {K5 : Int64 → Int32 → Prop} (x1 : Int32) (x2 : Int64) (x4 : Int32) (_ : Unit), wp_X9_bars__J34 x1 x2 x4 u post K5 → ∀ ls : Array Slot, lv_has ls 5 [(0, .ref (q 0)), (1, .int x1), (2, .long x2), (4, .int x4)] → (∀ (x2 : Int64) (x4 : Int32), K5 x2 x4 → ∀ ls : Array Slot, lv_has ls 5 [(0, .ref (q 0)), (1, .int x1), (2, .long x2), (4, .int x4)] → W p l e (headSpec wsX9_bars_ rm_X9_bars_).room s m args below meth c s.heap [] 0 0 (MQ below (vp_Sl post) args s 0 0 (fun _ => False)) (F0 m 5 ls [])) → W p l e (headSpec wsX9_bars_ rm_X9_bars_).room s m args below meth c s.heap [] 0 0 (MQ below (vp_Sl post) args s 0 0 (fun _ => False)) (F0 m 34 ls []) := by
    intro K5 x1 x2 x4 _ hw ls hl k5
    unfold wp_X9_bars__J34 at hw
    obtain ⟨y6, ey6⟩ : ∃ z : Int32, z = x4 + 1 := ⟨_, rfl⟩
    have hw := hw y6 ey6
    refine lv_iinc (v := y6) (lv' := [(4, .int y6), (0, .ref (q 0)), (1, .int x1), (2, .long x2)]) hx hb dX9_bars__34 hl (k := 3) rfl (by rw [ey6]; rfl) (by decide) rfl (fun ls hl => ?_)
    refine lv_goto (tgt := 5) hx hb dX9_bars__37 (by decide) ?_
    exact k5 x2 y6 hw ls (lv_sub hl [1, 2, 3, 0] rfl)
  have L5 : ∀ (x1 : Int32) (n : Nat) (x2 : Int64) (x4 : Int32) (_ : Unit), wp_X9_bars__L5 x1 u post n x2 x4 → ∀ ls : Array Slot, lv_has ls 5 [(0, .ref (q 0)), (1, .int x1), (2, .long x2), (4, .int x4)] → W p l e (headSpec wsX9_bars_ rm_X9_bars_).room s m args below meth c s.heap [] 0 0 (MQ below (vp_Sl post) args s 0 0 (fun _ => False)) (F0 m 5 ls []) := by
    intro x1 n
    induction n with
    | zero =>
      intro x2 x4 _ hw
      exact hw.elim
    | succ n ih =>
      intro x2 x4 _ hw ls hl 
      unfold wp_X9_bars__L5 at hw
      refine lv_iload hx hb dX9_bars__5 (lv_at hl 3 rfl) ?_
      refine lv_bipush (v := 8) hx hb dX9_bars__7 (by decide) ?_
      refine lv_icmp_ge (tgt := 40) hx hb dX9_bars__9 (by decide) (fun hc => ?_) (fun hc => ?_)
      · have hw := hw.1 hc
        refine lv_lload_n hx hb dX9_bars__40 rfl (lv_at hl 2 rfl) ?_
        exact W.lret (v := x2) hx hb hr (fun t ht hW => ⟨x2, rfl, hw, ht⟩) (fun _ h => by cases h) dX9_bars__41
      · have hw := hw.2 hc
        refine lv_iload hx hb dX9_bars__12 (lv_at hl 3 rfl) ?_
        refine lv_iload_n hx hb dX9_bars__14 rfl (lv_at hl 1 rfl) ?_
        refine lv_icmp_eq (tgt := 34) hx hb dX9_bars__15 (by decide) (fun hc => ?_) (fun hc => ?_)
        · have hw := hw.1 hc
          refine J34 x1 x2 x4 () hw ls (lv_sub hl [0, 1, 2, 3] rfl) (fun y1 y2 hw ls hl => ?_)
          exact ih y1 y2 () hw ls (lv_sub hl [0, 1, 2, 3] rfl)
        · have hw := hw.2 hc
          refine lv_lload_n hx hb dX9_bars__18 rfl (lv_at hl 2 rfl) ?_
          refine lv_aload_n hx hb dX9_bars__19 rfl (lv_at hl 0 rfl) ?_
          refine va_get (D := D) (ci := 9) (v := .ref (q 3)) (C := RX9) (T := TX9) (N := 30) hx hb hts hiX9 hown hK hP 0 rfl rfl 2 (by decide) hf17 (fun _ h9 => h9) rfl dX9_bars__20 ?_
          refine lv_iload_n hx hb dX9_bars__23 rfl (lv_at hl 1 rfl) ?_
          obtain ⟨hin, hw⟩ := hw
          refine va_iald hx hb hK hP 3 0 rfl rfl hin dX9_bars__24 ?_
          refine lv_i2l (v := (u.1 1 x1.toNatClampNeg).toInt64) hx hb dX9_bars__25 rfl ?_
          refine lv_bipush (v := 8) hx hb dX9_bars__26 (by decide) ?_
          refine lv_iload hx hb dX9_bars__28 (lv_at hl 3 rfl) ?_
          refine lv_imul hx hb dX9_bars__30 ?_
          refine lv_lshl (v := jshl ((u.1 1 x1.toNatClampNeg).toInt64) (8 * x4)) hx hb dX9_bars__31 rfl ?_
          refine lv_lor hx hb dX9_bars__32 ?_
          refine lv_topl (fun y3 ey3 => ?_)
          have hw := hw y3 ey3
          refine lv_lstore_n (lv' := [(2, .long y3), (0, .ref (q 0)), (1, .int x1), (4, .int x4)]) hx hb dX9_bars__33 rfl hl (by decide) rfl (fun ls hl => ?_)
          refine J34 x1 y3 x4 () hw ls (lv_sub hl [1, 2, 0, 3] rfl) (fun y4 y5 hw ls hl => ?_)
          exact ih y4 y5 () hw ls (lv_sub hl [0, 1, 2, 3] rfl)
  have hent := lg_entry_eq m ([.ref (q 0), .int x1]) 5
  rw [← hargs] at hent
  rw [hent]
  have hl := lv_entry ([.ref (q 0), .int x1]) (n := 5) (Nat.le_of_ble_eq_true rfl)
  generalize (lg_sl ([.ref (q 0), .int x1]) ++ List.replicate (5 - (lg_sl ([.ref (q 0), .int x1])).length) Slot.unset).toArray = ls at hl ⊢
  have hl : lv_has ls 5 [(0, .ref (q 0)), (1, .int x1)] := hl
  unfold wp_X9_bars_ at hw
  refine lv_lconst (v := 0) hx hb dX9_bars__0 (by decide) ?_
  refine lv_lstore_n (lv' := [(2, .long 0), (0, .ref (q 0)), (1, .int x1)]) hx hb dX9_bars__1 rfl hl (by decide) rfl (fun ls hl => ?_)
  refine lv_iconst (v := 0) hx hb dX9_bars__2 (by decide) ?_
  refine lv_istore (lv' := [(4, .int 0), (2, .long 0), (0, .ref (q 0)), (1, .int x1)]) hx hb dX9_bars__3 hl (by decide) rfl (fun ls hl => ?_)
  obtain ⟨nn, hw⟩ := hw
  refine L5 x1 nn 0 0 () hw ls (lv_sub hl [2, 3, 1, 0] rfl)
set_option maxHeartbeats 4000000 in
set_option maxRecDepth 100000 in
theorem c_X9_bits (l : Launch) (x0 : Int64) (post : Int32 → Prop) (hw : wp_X9_bits x0 post) : Met l yX9_bits wsX9_bits rm_X9_bits (va_Pc [.long x0] NW) (vp_Si post) 0 0 (fun _ => False) := by
  refine Met.ofW (cc := cX9_bits) (maxL := 5) (ret := (some .int)) (by decide) rfl ?_
  intro p e s m args below meth c s₁ B hml hv
  obtain ⟨hargs, hN⟩ := hv
  have hx := B.exec
  have hb := B.bytes
  have hr := B.returns
  have hts := atoms_spec (ws := wsX9_bits) B.pre
  have hown : s.vm.findClass RX9 = some m.cls := findClass_of_methodNamed B.named
  have hlocks := B.notSynchronized
  have L4 : ∀ (n : Nat) (x2 : Int32) (x3 : Int64) (_ : Unit), wp_X9_bits_L4 post n x2 x3 → ∀ ls : Array Slot, lv_has ls 5 [(2, .int x2), (3, .long x3)] → W p l e (headSpec wsX9_bits rm_X9_bits).room s m args below meth c s.heap [] 0 0 (MQ below (vp_Si post) args s 0 0 (fun _ => False)) (F0 m 4 ls []) := by
    intro  n
    induction n with
    | zero =>
      intro x2 x3 _ hw
      exact hw.elim
    | succ n ih =>
      intro x2 x3 _ hw ls hl 
      unfold wp_X9_bits_L4 at hw
      refine lv_lload_n hx hb dX9_bits_4 rfl (lv_at hl 1 rfl) ?_
      refine lv_lconst (v := 0) hx hb dX9_bits_5 (by decide) ?_
      refine W.lcmp hx hb dX9_bits_6 ?_
      refine lv_if_eq (tgt := 22) hx hb dX9_bits_7 (by decide) (fun hc => ?_) (fun hc => ?_)
      · have hw := hw.1 hc
        refine lv_iload_n hx hb dX9_bits_22 rfl (lv_at hl 0 rfl) ?_
        exact W.iret (v := x2) hx hb hr (fun t ht hW => ⟨x2, rfl, hw, ht⟩) (fun _ h => by cases h) dX9_bits_23
      · have hw := hw.2 hc
        obtain ⟨y1, ey1⟩ : ∃ z : Int32, z = x2 + 1 := ⟨_, rfl⟩
        have hw := hw y1 ey1
        refine lv_iinc (v := y1) (lv' := [(2, .int y1), (3, .long x3)]) hx hb dX9_bits_10 hl (k := 0) rfl (by rw [ey1]; rfl) (by decide) rfl (fun ls hl => ?_)
        refine lv_lload_n hx hb dX9_bits_13 rfl (lv_at hl 1 rfl) ?_
        refine lv_lload_n hx hb dX9_bits_14 rfl (lv_at hl 1 rfl) ?_
        refine lv_lconst (v := 1) hx hb dX9_bits_15 (by decide) ?_
        refine lv_lsub hx hb dX9_bits_16 ?_
        refine lv_land hx hb dX9_bits_17 ?_
        refine lv_topl (fun y2 ey2 => ?_)
        have hw := hw y2 ey2
        refine lv_lstore_n (lv' := [(3, .long y2), (2, .int y1)]) hx hb dX9_bits_18 rfl hl (by decide) rfl (fun ls hl => ?_)
        refine lv_goto (tgt := 4) hx hb dX9_bits_19 (by decide) ?_
        exact ih y1 y2 () hw ls (lv_sub hl [1, 0] rfl)
  have hent := lg_entry_eq m ([.long x0]) 5
  rw [← hargs] at hent
  rw [hent]
  have hl := lv_entry ([.long x0]) (n := 5) (Nat.le_of_ble_eq_true rfl)
  generalize (lg_sl ([.long x0]) ++ List.replicate (5 - (lg_sl ([.long x0])).length) Slot.unset).toArray = ls at hl ⊢
  have hl : lv_has ls 5 [(0, .long x0)] := hl
  unfold wp_X9_bits at hw
  refine lv_iconst (v := 0) hx hb dX9_bits_0 (by decide) ?_
  refine lv_istore_n (lv' := [(2, .int 0), (0, .long x0)]) hx hb dX9_bits_1 rfl hl (by decide) rfl (fun ls hl => ?_)
  refine lv_lload_n hx hb dX9_bits_2 rfl (lv_at hl 1 rfl) ?_
  refine lv_lstore_n (lv' := [(3, .long x0), (2, .int 0), (0, .long x0)]) hx hb dX9_bits_3 rfl hl (by decide) rfl (fun ls hl => ?_)
  obtain ⟨nn, hw⟩ := hw
  refine L4 nn 0 x0 () hw ls (lv_sub hl [1, 0] rfl)
set_option maxHeartbeats 4000000 in
set_option maxRecDepth 100000 in
theorem c_X9_quarrelsNow (l : Launch) (D : va_G) (q : Nat → Nat) (cI cJ cZ : ClassId) (u : WU) (post : Int32 → Prop) (hw : wp_X9_quarrelsNow u post) : Met l yX9_quarrelsNow wsX9_quarrelsNow rm_X9_quarrelsNow (va_Pc [.ref (q 0)] (RW D (ty3 cI cJ cZ) (wM q cI cJ cZ u))) (vp_Si post) 0 0 (fun _ => False) := by
  refine Met.ofW (cc := cX9_quarrelsNow) (maxL := 3) (ret := (some .int)) (by decide) rfl ?_
  intro p e s m args below meth c s₁ B hml hv
  obtain ⟨hargs, hP, hK, hN⟩ := hv
  have hx := B.exec
  have hb := B.bytes
  have hr := B.returns
  have hts := atoms_spec (ws := wsX9_quarrelsNow) B.pre
  have hown : s.vm.findClass RX9 = some m.cls := findClass_of_methodNamed B.named
  have hlocks := B.notSynchronized
  have hiX9 : ∀ w ∈ u_ws RX9 TX9 30, w ∈ wsX9_quarrelsNow := by decide +kernel
  have hf57 := hts (.fieldLink RX9 57 "TermsDeskModel" "isReached" "[Z") (by decide +kernel)
  have hf63 := hts (.fieldLink RX9 63 "TermsDeskModel" "has" "[I") (by decide +kernel)
  have hf66 := hts (.fieldLink RX9 66 "TermsDeskModel" "come" "[J") (by decide +kernel)
  have hf87 := hts (.fieldLink RX9 87 "TermsDeskModel" "parts" "I") (by decide +kernel)
  have J44 : ∀ {K4 : Int32 → Int32 → Prop} (x1 : Int32) (x2 : Int32) (_ : Unit), wp_X9_quarrelsNow_J44 x1 x2 u post K4 → ∀ ls : Array Slot, lv_has ls 3 [(0, .ref (q 0)), (1, .int x1), (2, .int x2)] → (∀ (x1 : Int32) (x2 : Int32), K4 x1 x2 → ∀ ls : Array Slot, lv_has ls 3 [(0, .ref (q 0)), (1, .int x1), (2, .int x2)] → W p l e (headSpec wsX9_quarrelsNow rm_X9_quarrelsNow).room s m args below meth c s.heap [] 0 0 (MQ below (vp_Si post) args s 0 0 (fun _ => False)) (F0 m 4 ls [])) → W p l e (headSpec wsX9_quarrelsNow rm_X9_quarrelsNow).room s m args below meth c s.heap [] 0 0 (MQ below (vp_Si post) args s 0 0 (fun _ => False)) (F0 m 44 ls []) := by
    intro K4 x1 x2 _ hw ls hl k4
    unfold wp_X9_quarrelsNow_J44 at hw
    obtain ⟨y8, ey8⟩ : ∃ z : Int32, z = x2 + 1 := ⟨_, rfl⟩
    have hw := hw y8 ey8
    refine lv_iinc (v := y8) (lv' := [(2, .int y8), (0, .ref (q 0)), (1, .int x1)]) hx hb dX9_quarrelsNow_44 hl (k := 2) rfl (by rw [ey8]; rfl) (by decide) rfl (fun ls hl => ?_)
    refine lv_goto (tgt := 4) hx hb dX9_quarrelsNow_47 (by decide) ?_
    exact k4 x1 y8 hw ls (lv_sub hl [1, 2, 0] rfl)
  have L4 : ∀ (n : Nat) (x1 : Int32) (x2 : Int32) (_ : Unit), wp_X9_quarrelsNow_L4 u post n x1 x2 → ∀ ls : Array Slot, lv_has ls 3 [(0, .ref (q 0)), (1, .int x1), (2, .int x2)] → W p l e (headSpec wsX9_quarrelsNow rm_X9_quarrelsNow).room s m args below meth c s.heap [] 0 0 (MQ below (vp_Si post) args s 0 0 (fun _ => False)) (F0 m 4 ls []) := by
    intro  n
    induction n with
    | zero =>
      intro x1 x2 _ hw
      exact hw.elim
    | succ n ih =>
      intro x1 x2 _ hw ls hl 
      unfold wp_X9_quarrelsNow_L4 at hw
      refine lv_iload_n hx hb dX9_quarrelsNow_4 rfl (lv_at hl 2 rfl) ?_
      refine lv_aload_n hx hb dX9_quarrelsNow_5 rfl (lv_at hl 0 rfl) ?_
      refine va_get (D := D) (ci := 9) (v := .int (u.1 21 0)) (C := RX9) (T := TX9) (N := 30) hx hb hts hiX9 hown hK hP 0 rfl rfl 3 (by decide) hf87 (fun _ h9 => h9) rfl dX9_quarrelsNow_6 ?_
      refine lv_icmp_ge (tgt := 50) hx hb dX9_quarrelsNow_9 (by decide) (fun hc => ?_) (fun hc => ?_)
      · have hw := hw.1 hc
        refine lv_iload_n hx hb dX9_quarrelsNow_50 rfl (lv_at hl 1 rfl) ?_
        exact W.iret (v := x1) hx hb hr (fun t ht hW => ⟨x1, rfl, hw, ht⟩) (fun _ h => by cases h) dX9_quarrelsNow_51
      · have hw := hw.2 hc
        refine lv_aload_n hx hb dX9_quarrelsNow_12 rfl (lv_at hl 0 rfl) ?_
        refine va_get (D := D) (ci := 9) (v := .ref (q 16)) (C := RX9) (T := TX9) (N := 30) hx hb hts hiX9 hown hK hP 0 rfl rfl 19 (by decide) hf57 (fun _ h9 => h9) rfl dX9_quarrelsNow_13 ?_
        refine lv_iload_n hx hb dX9_quarrelsNow_16 rfl (lv_at hl 2 rfl) ?_
        obtain ⟨hin, hw⟩ := hw
        refine va_zald hx hb hK hP 16 2 rfl rfl hin dX9_quarrelsNow_17 ?_
        refine lv_if_eq (tgt := 44) hx hb dX9_quarrelsNow_18 (by decide) (fun hc => ?_) (fun hc => ?_)
        · have hw := hw.1 hc
          refine J44 x1 x2 () hw ls (lv_sub hl [0, 1, 2] rfl) (fun y1 y2 hw ls hl => ?_)
          exact ih y1 y2 () hw ls (lv_sub hl [0, 1, 2] rfl)
        · have hw := hw.2 hc
          refine lv_iload_n hx hb dX9_quarrelsNow_21 rfl (lv_at hl 1 rfl) ?_
          refine lv_aload_n hx hb dX9_quarrelsNow_22 rfl (lv_at hl 0 rfl) ?_
          refine va_get (D := D) (ci := 9) (v := .ref (q 19)) (C := RX9) (T := TX9) (N := 30) hx hb hts hiX9 hown hK hP 0 rfl rfl 22 (by decide) hf66 (fun _ h9 => h9) rfl dX9_quarrelsNow_23 ?_
          refine lv_iload_n hx hb dX9_quarrelsNow_26 rfl (lv_at hl 2 rfl) ?_
          obtain ⟨hin, hw⟩ := hw
          refine va_lald hx hb hK hP 19 1 rfl rfl hin dX9_quarrelsNow_27 ?_
          refine lv_aload_n hx hb dX9_quarrelsNow_28 rfl (lv_at hl 0 rfl) ?_
          refine lv_aload_n hx hb dX9_quarrelsNow_29 rfl (lv_at hl 0 rfl) ?_
          refine va_get (D := D) (ci := 9) (v := .ref (q 18)) (C := RX9) (T := TX9) (N := 30) hx hb hts hiX9 hown hK hP 0 rfl rfl 21 (by decide) hf63 (fun _ h9 => h9) rfl dX9_quarrelsNow_30 ?_
          refine lv_iload_n hx hb dX9_quarrelsNow_33 rfl (lv_at hl 2 rfl) ?_
          obtain ⟨hin, hw⟩ := hw
          refine va_iald hx hb hK hP 18 0 rfl rfl hin dX9_quarrelsNow_34 ?_
          refine vp_callSl (va_Run.run (va_runV (As := [.int (u.1 15 x2.toNatClampNeg)]) (rest := [.long (u.2 2 x2.toNatClampNeg), .int x1]) ⟨hx, hb, hml, hown, hts⟩ (c_X9_bars_ l D q cI cJ cZ u (u.1 15 x2.toNatClampNeg) _ hw) (cwV 1 hts gX9_quarrelsNow_X9_bars_ rfl rfl rfl (by decide +kernel) ⟨Nat.le_of_ble_eq_true rfl, Nat.le_of_ble_eq_true rfl⟩) (pvR (va_recv hK hP (ci := 9) (q0 := 0) (q := (RX9, TX9, 30)) rfl rfl) hK hP hN) rfl rfl hl.1 rfl (lv_room (Nat.le_of_ble_eq_true rfl)) dX9_quarrelsNow_35 ⟨Nat.zero_le _, Nat.zero_le _⟩)) (fun r3 hw => ?_)
          refine lv_land hx hb dX9_quarrelsNow_38 ?_
          refine vp_callSi (va_Run.run (va_runS (As := [.long ((u.2 2 x2.toNatClampNeg) &&& r3)]) (rest := [.int x1]) ⟨hx, hb, hml, hown, hts⟩ (c_X9_bits l ((u.2 2 x2.toNatClampNeg) &&& r3) _ hw) (va_cwS 1 hts gX9_quarrelsNow_X9_bits rfl rfl rfl (by decide +kernel) ⟨Nat.le_of_ble_eq_true rfl, Nat.le_of_ble_eq_true rfl⟩) (psS hN) rfl rfl hl.1 rfl (lv_room (Nat.le_of_ble_eq_true rfl)) dX9_quarrelsNow_39 ⟨Nat.zero_le _, Nat.zero_le _⟩)) (fun r4 hw => ?_)
          refine lv_iadd hx hb dX9_quarrelsNow_42 ?_
          refine lv_topi (fun y5 ey5 => ?_)
          have hw := hw y5 ey5
          refine lv_istore_n (lv' := [(1, .int y5), (0, .ref (q 0)), (2, .int x2)]) hx hb dX9_quarrelsNow_43 rfl hl (by decide) rfl (fun ls hl => ?_)
          refine J44 y5 x2 () hw ls (lv_sub hl [1, 0, 2] rfl) (fun y6 y7 hw ls hl => ?_)
          exact ih y6 y7 () hw ls (lv_sub hl [0, 1, 2] rfl)
  have hent := lg_entry_eq m ([.ref (q 0)]) 3
  rw [← hargs] at hent
  rw [hent]
  have hl := lv_entry ([.ref (q 0)]) (n := 3) (Nat.le_of_ble_eq_true rfl)
  generalize (lg_sl ([.ref (q 0)]) ++ List.replicate (3 - (lg_sl ([.ref (q 0)])).length) Slot.unset).toArray = ls at hl ⊢
  have hl : lv_has ls 3 [(0, .ref (q 0))] := hl
  unfold wp_X9_quarrelsNow at hw
  refine lv_iconst (v := 0) hx hb dX9_quarrelsNow_0 (by decide) ?_
  refine lv_istore_n (lv' := [(1, .int 0), (0, .ref (q 0))]) hx hb dX9_quarrelsNow_1 rfl hl (by decide) rfl (fun ls hl => ?_)
  refine lv_iconst (v := 0) hx hb dX9_quarrelsNow_2 (by decide) ?_
  refine lv_istore_n (lv' := [(2, .int 0), (1, .int 0), (0, .ref (q 0))]) hx hb dX9_quarrelsNow_3 rfl hl (by decide) rfl (fun ls hl => ?_)
  obtain ⟨nn, hw⟩ := hw
  refine L4 nn 0 0 () hw ls (lv_sub hl [2, 1, 0] rfl)
set_option maxHeartbeats 4000000 in
set_option maxRecDepth 100000 in
theorem c_X9_quarrels (l : Launch) (D : va_G) (q : Nat → Nat) (cI cJ cZ : ClassId) (sz : Nat) (u : WU) (x1 : Int32) (post : Int32 → WU → Prop) (hw : wp_X9_quarrels x1 u post) : Met l yX9_quarrels wsX9_quarrels rm_X9_quarrels (va_Pc [.ref (q 0), .int x1] (MW D (ty3 cI cJ cZ) (wM q cI cJ cZ u) sz)) (va_Qi post (fun u' t => va_P D vwCl (wM q cI cJ cZ u') t.heap) (va_A (wM q cI cJ cZ u00) sz)) 0 0 (va_A (wM q cI cJ cZ u00) sz) := by
  refine Met.ofW (cc := cX9_quarrels) (maxL := 2) (ret := (some .int)) (by decide) rfl ?_
  intro p e s m args below meth c s₁ B hml hv
  obtain ⟨hargs, hsz, hP, hK, hD0, hN⟩ := hv
  have hx := B.exec
  have hb := B.bytes
  have hr := B.returns
  have hts := atoms_spec (ws := wsX9_quarrels) B.pre
  have hown : s.vm.findClass RX9 = some m.cls := findClass_of_methodNamed B.named
  have hlocks := B.notSynchronized
  subst hsz
  have hD := shw_self (sz := s.heap.size) (sh_wM q cI cJ cZ) hD0
  have hA : ∀ a : Nat, s.heap.size ≤ a → va_A (wM q cI cJ cZ u00) s.heap.size a := fun _ h => Or.inr h
  have hS : va_S (va_A (wM q cI cJ cZ u00) s.heap.size) s.heap s.heap [] := va_S.rf
  have hent := lg_entry_eq m ([.ref (q 0), .int x1]) 2
  rw [← hargs] at hent
  rw [hent]
  have hl := lv_entry ([.ref (q 0), .int x1]) (n := 2) (Nat.le_of_ble_eq_true rfl)
  generalize (lg_sl ([.ref (q 0), .int x1]) ++ List.replicate (2 - (lg_sl ([.ref (q 0), .int x1])).length) Slot.unset).toArray = ls at hl ⊢
  have hl : lv_has ls 2 [(0, .ref (q 0)), (1, .int x1)] := hl
  unfold wp_X9_quarrels at hw
  refine lv_iload_n hx hb dX9_quarrels_0 rfl (lv_at hl 1 rfl) ?_
  refine vp_callSi (va_Run.run (va_runS (As := [.int x1]) (rest := []) ⟨hx, hb, hml, hown, hts⟩ (c_X9_isShipping l x1 _ hw) (va_cwS 1 hts gX9_quarrels_X9_isShipping rfl rfl rfl (by decide +kernel) ⟨Nat.le_of_ble_eq_true rfl, Nat.le_of_ble_eq_true rfl⟩) (psS hN) rfl rfl hl.1 rfl (lv_room (Nat.le_of_ble_eq_true rfl)) dX9_quarrels_1 ⟨Nat.zero_le _, Nat.zero_le _⟩)) (fun r1 hw => ?_)
  refine lv_if_ne (tgt := 9) hx hb dX9_quarrels_4 (by decide) (fun hc => ?_) (fun hc => ?_)
  · have hw := hw.1 hc
    refine lv_aload_n hx hb dX9_quarrels_9 rfl (lv_at hl 0 rfl) ?_
    refine lv_iload_n hx hb dX9_quarrels_10 rfl (lv_at hl 1 rfl) ?_
    refine cMv (sh_wM q cI cJ cZ) (u := u) (va_runV (As := [.int x1]) (rest := []) ⟨hx, hb, hml, hown, hts⟩ (c_X9_works l D q cI cJ cZ _ u x1 _ hw) (cwV 1 hts gX9_quarrels_X9_works rfl rfl rfl (by decide +kernel) ⟨Nat.le_of_ble_eq_true rfl, Nat.le_of_ble_eq_true rfl⟩) (pvM (va_recv hK hP (ci := 9) (q0 := 0) (q := (RX9, TX9, 30)) rfl rfl) hK hP hD hN) rfl rfl hl.1 rfl (lv_room (Nat.le_of_ble_eq_true rfl)) dX9_quarrels_11 ⟨Nat.zero_le _, Nat.zero_le _⟩) hA hD hS (fun u2 H locs hw hP hD hS => ?_)
    refine lv_aload_n hx hb dX9_quarrels_14 rfl (lv_at hl 0 rfl) ?_
    refine vp_callSi (va_Run.run (va_runV (As := []) (rest := []) ⟨hx, hb, hml, hown, hts⟩ (c_X9_quarrelsNow l D q cI cJ cZ u2 _ hw) (cwV 0 hts gX9_quarrels_X9_quarrelsNow rfl rfl rfl (by decide +kernel) ⟨Nat.le_of_ble_eq_true rfl, Nat.le_of_ble_eq_true rfl⟩) (pvR (va_recv hK hP (ci := 9) (q0 := 0) (q := (RX9, TX9, 30)) rfl rfl) hK hP hN) rfl rfl hl.1 rfl (lv_room (Nat.le_of_ble_eq_true rfl)) dX9_quarrels_15 ⟨Nat.zero_le _, Nat.zero_le _⟩)) (fun r3 hw => ?_)
    exact W.iret (v := r3) hx hb hr (fun t ht hW => ⟨⟨r3, u2, rfl, hw, by show va_P D vwCl _ t.heap; rw [ht]; exact hP⟩, hS.F ht⟩) hS.2.2 dX9_quarrels_18
  · have hw := hw.2 hc
    refine lv_iconst (v := (-1)) hx hb dX9_quarrels_7 (by decide) ?_
    exact W.iret (v := (-1)) hx hb hr (fun t ht hW => ⟨⟨(-1), u, rfl, hw, by show va_P D vwCl _ t.heap; rw [ht]; exact hP⟩, hS.F ht⟩) hS.2.2 dX9_quarrels_8
set_option maxHeartbeats 4000000 in
set_option maxRecDepth 100000 in
theorem c_X2_pairAt (l : Launch) (x0 : Int64) (x2 : Int32) (post : Int32 → Prop) (hw : wp_X2_pairAt x0 x2 post) : Met l yX2_pairAt wsX2_pairAt rm_X2_pairAt (va_Pc [.long x0, .int x2] NW) (vp_Si post) 0 0 (fun _ => False) := by
  refine Met.ofW (cc := cX2_pairAt) (maxL := 5) (ret := (some .int)) (by decide) rfl ?_
  intro p e s m args below meth c s₁ B hml hv
  obtain ⟨hargs, hN⟩ := hv
  have hx := B.exec
  have hb := B.bytes
  have hr := B.returns
  have hts := atoms_spec (ws := wsX2_pairAt) B.pre
  have hown : s.vm.findClass RX2 = some m.cls := findClass_of_methodNamed B.named
  have hlocks := B.notSynchronized
  have hi_RX8 := hts (.initialized RX8) (by decide +kernel)
  have hs_X8_holds := hts (.static yX8_holds) (by decide +kernel)
  have J32 : ∀ {K5 : Int32 → Int32 → Prop} (x0 : Int64) (x2 : Int32) (x3 : Int32) (x4 : Int32) (_ : Unit), wp_X2_pairAt_J32 x0 x2 x3 x4 post K5 → ∀ ls : Array Slot, lv_has ls 5 [(0, .long x0), (2, .int x2), (3, .int x3), (4, .int x4)] → (∀ (x3 : Int32) (x4 : Int32), K5 x3 x4 → ∀ ls : Array Slot, lv_has ls 5 [(0, .long x0), (2, .int x2), (3, .int x3), (4, .int x4)] → W p l e (headSpec wsX2_pairAt rm_X2_pairAt).room s m args below meth c s.heap [] 0 0 (MQ below (vp_Si post) args s 0 0 (fun _ => False)) (F0 m 5 ls [])) → W p l e (headSpec wsX2_pairAt rm_X2_pairAt).room s m args below meth c s.heap [] 0 0 (MQ below (vp_Si post) args s 0 0 (fun _ => False)) (F0 m 32 ls []) := by
    intro K5 x0 x2 x3 x4 _ hw ls hl k5
    unfold wp_X2_pairAt_J32 at hw
    obtain ⟨y7, ey7⟩ : ∃ z : Int32, z = x4 + 1 := ⟨_, rfl⟩
    have hw := hw y7 ey7
    refine lv_iinc (v := y7) (lv' := [(4, .int y7), (0, .long x0), (2, .int x2), (3, .int x3)]) hx hb dX2_pairAt_32 hl (k := 3) rfl (by rw [ey7]; rfl) (by decide) rfl (fun ls hl => ?_)
    refine lv_goto (tgt := 5) hx hb dX2_pairAt_35 (by decide) ?_
    exact k5 x3 y7 hw ls (lv_sub hl [1, 2, 3, 0] rfl)
  have L5 : ∀ (x0 : Int64) (x2 : Int32) (n : Nat) (x3 : Int32) (x4 : Int32) (_ : Unit), wp_X2_pairAt_L5 x0 x2 post n x3 x4 → ∀ ls : Array Slot, lv_has ls 5 [(0, .long x0), (2, .int x2), (3, .int x3), (4, .int x4)] → W p l e (headSpec wsX2_pairAt rm_X2_pairAt).room s m args below meth c s.heap [] 0 0 (MQ below (vp_Si post) args s 0 0 (fun _ => False)) (F0 m 5 ls []) := by
    intro x0 x2 n
    induction n with
    | zero =>
      intro x3 x4 _ hw
      exact hw.elim
    | succ n ih =>
      intro x3 x4 _ hw ls hl 
      unfold wp_X2_pairAt_L5 at hw
      refine lv_iload hx hb dX2_pairAt_5 (lv_at hl 3 rfl) ?_
      refine lv_bipush (v := 64) hx hb dX2_pairAt_7 (by decide) ?_
      refine lv_icmp_ge (tgt := 38) hx hb dX2_pairAt_9 (by decide) (fun hc => ?_) (fun hc => ?_)
      · have hw := hw.1 hc
        refine lv_iconst (v := (-1)) hx hb dX2_pairAt_38 (by decide) ?_
        exact W.iret (v := (-1)) hx hb hr (fun t ht hW => ⟨(-1), rfl, hw, ht⟩) (fun _ h => by cases h) dX2_pairAt_39
      · have hw := hw.2 hc
        refine lv_lload_n hx hb dX2_pairAt_12 rfl (lv_at hl 0 rfl) ?_
        refine lv_iload hx hb dX2_pairAt_13 (lv_at hl 3 rfl) ?_
        refine vp_callSi (va_Run.run (va_runSN (As := [.long x0, .int x4]) (rest := []) ⟨hx, hb, hml, hown, hts⟩ (c_X8_holds l x0 x4 _ hw) ⟨va_cnB 2 hts ggX2_pairAt_X8_holds rfl rfl rfl (nm_RX2_69 hN) hi_RX8 (by decide +kernel) ⟨Nat.le_of_ble_eq_true rfl, Nat.le_of_ble_eq_true rfl⟩, hs_X8_holds, trivial⟩ (psS hN) rfl rfl hl.1 rfl (lv_room (Nat.le_of_ble_eq_true rfl)) dX2_pairAt_15 ⟨Nat.zero_le _, Nat.zero_le _⟩)) (fun r1 hw => ?_)
        refine lv_if_eq (tgt := 32) hx hb dX2_pairAt_18 (by decide) (fun hc => ?_) (fun hc => ?_)
        · have hw := hw.1 hc
          refine J32 x0 x2 x3 x4 () hw ls (lv_sub hl [0, 1, 2, 3] rfl) (fun y2 y3 hw ls hl => ?_)
          exact ih y2 y3 () hw ls (lv_sub hl [0, 1, 2, 3] rfl)
        · have hw := hw.2 hc
          refine lv_iload_n hx hb dX2_pairAt_21 rfl (lv_at hl 2 rfl) ?_
          refine lv_iload_n hx hb dX2_pairAt_22 rfl (lv_at hl 1 rfl) ?_
          refine lv_icmp_ne (tgt := 29) hx hb dX2_pairAt_23 (by decide) (fun hc => ?_) (fun hc => ?_)
          · have hw := hw.1 hc
            obtain ⟨y4, ey4⟩ : ∃ z : Int32, z = x3 + 1 := ⟨_, rfl⟩
            have hw := hw y4 ey4
            refine lv_iinc (v := y4) (lv' := [(3, .int y4), (0, .long x0), (2, .int x2), (4, .int x4)]) hx hb dX2_pairAt_29 hl (k := 2) rfl (by rw [ey4]; rfl) (by decide) rfl (fun ls hl => ?_)
            refine J32 x0 x2 y4 x4 () hw ls (lv_sub hl [1, 2, 0, 3] rfl) (fun y5 y6 hw ls hl => ?_)
            exact ih y5 y6 () hw ls (lv_sub hl [0, 1, 2, 3] rfl)
          · have hw := hw.2 hc
            refine lv_iload hx hb dX2_pairAt_26 (lv_at hl 3 rfl) ?_
            exact W.iret (v := x4) hx hb hr (fun t ht hW => ⟨x4, rfl, hw, ht⟩) (fun _ h => by cases h) dX2_pairAt_28
  have hent := lg_entry_eq m ([.long x0, .int x2]) 5
  rw [← hargs] at hent
  rw [hent]
  have hl := lv_entry ([.long x0, .int x2]) (n := 5) (Nat.le_of_ble_eq_true rfl)
  generalize (lg_sl ([.long x0, .int x2]) ++ List.replicate (5 - (lg_sl ([.long x0, .int x2])).length) Slot.unset).toArray = ls at hl ⊢
  have hl : lv_has ls 5 [(0, .long x0), (2, .int x2)] := hl
  unfold wp_X2_pairAt at hw
  refine lv_iconst (v := 0) hx hb dX2_pairAt_0 (by decide) ?_
  refine lv_istore_n (lv' := [(3, .int 0), (0, .long x0), (2, .int x2)]) hx hb dX2_pairAt_1 rfl hl (by decide) rfl (fun ls hl => ?_)
  refine lv_iconst (v := 0) hx hb dX2_pairAt_2 (by decide) ?_
  refine lv_istore (lv' := [(4, .int 0), (3, .int 0), (0, .long x0), (2, .int x2)]) hx hb dX2_pairAt_3 hl (by decide) rfl (fun ls hl => ?_)
  obtain ⟨nn, hw⟩ := hw
  refine L5 x0 x2 nn 0 0 () hw ls (lv_sub hl [2, 3, 1, 0] rfl)
