set_option maxHeartbeats 4000000 in
set_option maxRecDepth 100000 in
theorem c_X2_quarrelAt (l : Launch) (D : va_G) (q : Nat → Nat) (cI cJ cZ : ClassId) (u : WU) (x1 : Int32) (post : Int32 → Prop) (hw : wp_X2_quarrelAt x1 u post) : Met l yX2_quarrelAt wsX2_quarrelAt rm_X2_quarrelAt (va_Pc [.ref (q 5), .int x1] (RW D (ty3 cI cJ cZ) (wX q cI cJ cZ u))) (vp_Si post) 0 0 (fun _ => False) := by
  refine Met.ofW (cc := cX2_quarrelAt) (maxL := 8) (ret := (some .int)) (by decide) rfl ?_
  intro p e s m args below meth c s₁ B hml hv
  obtain ⟨hargs, hP, hK, hN⟩ := hv
  have hx := B.exec
  have hb := B.bytes
  have hr := B.returns
  have hts := atoms_spec (ws := wsX2_quarrelAt) B.pre
  have hown : s.vm.findClass RX2 = some m.cls := findClass_of_methodNamed B.named
  have hlocks := B.notSynchronized
  have hiX2 : ∀ w ∈ u_ws RX2 TX2 5, w ∈ wsX2_quarrelAt := by decide +kernel
  have hiX3 : ∀ w ∈ u_ws RX3 TX3 9, w ∈ wsX2_quarrelAt := by decide +kernel
  have hiX5 : ∀ w ∈ u_ws RX5 TX5 6, w ∈ wsX2_quarrelAt := by decide +kernel
  have hf22 := hts (.fieldLink RX2 22 "TermsDesk$Flow" "parts" "LTermsDesk$Parts;") (by decide +kernel)
  have hf26 := hts (.fieldLink RX2 26 "TermsDesk$Flow" "joins" "LTermsDesk$Joins;") (by decide +kernel)
  have hi_RX8 := hts (.initialized RX8) (by decide +kernel)
  have hs_X8_holds := hts (.static yX8_holds) (by decide +kernel)
  have J59 : ∀ {K17 : Int32 → Int32 → Prop} (x1 : Int32) (x2 : Int32) (x3 : Int32) (x4 : Int32) (z0 : Int64) (_ : Unit), wp_X2_quarrelAt_J59 x1 x2 x3 x4 z0 u post K17 → ∀ ls : Array Slot, lv_has ls 8 [(0, .ref (q 5)), (1, .int x1), (2, .int x2), (3, .int x3), (4, .int x4)] → (∀ (x3 : Int32) (x4 : Int32), K17 x3 x4 → ∀ ls : Array Slot, lv_has ls 8 [(0, .ref (q 5)), (1, .int x1), (2, .int x2), (3, .int x3), (4, .int x4)] → W p l e (headSpec wsX2_quarrelAt rm_X2_quarrelAt).room s m args below meth c s.heap [] 0 0 (MQ below (vp_Si post) args s 0 0 (fun _ => False)) (F0 m 17 ls [])) → W p l e (headSpec wsX2_quarrelAt rm_X2_quarrelAt).room s m args below meth c s.heap [] 0 0 (MQ below (vp_Si post) args s 0 0 (fun _ => False)) (F0 m 59 ls [.long z0]) := by
    intro K17 x1 x2 x3 x4 z0 _ hw ls hl k17
    unfold wp_X2_quarrelAt_J59 at hw
    refine lv_lstore (lv' := [(5, .long z0), (0, .ref (q 5)), (1, .int x1), (2, .int x2), (3, .int x3), (4, .int x4)]) hx hb dX2_quarrelAt_59 hl (by decide) rfl (fun ls hl => ?_)
    refine lv_lload hx hb dX2_quarrelAt_61 (lv_at hl 0 rfl) ?_
    refine vp_callSi (va_Run.run (va_runS (As := [.long z0]) (rest := []) ⟨hx, hb, hml, hown, hts⟩ (c_J13_bitCount_95d88 l z0 _ hw) (va_cwS 1 hts gX2_quarrelAt_J13_bitCount_95d88 rfl rfl rfl (by decide +kernel) ⟨Nat.le_of_ble_eq_true rfl, Nat.le_of_ble_eq_true rfl⟩) (psS hN) rfl rfl hl.1 rfl (lv_room (Nat.le_of_ble_eq_true rfl)) dX2_quarrelAt_63 ⟨Nat.zero_le _, Nat.zero_le _⟩)) (fun r7 hw => ?_)
    refine lv_istore (lv' := [(7, .int r7), (5, .long z0), (0, .ref (q 5)), (1, .int x1), (2, .int x2), (3, .int x3), (4, .int x4)]) hx hb dX2_quarrelAt_66 hl (by decide) rfl (fun ls hl => ?_)
    refine lv_iload_n hx hb dX2_quarrelAt_68 rfl (lv_at hl 3 rfl) ?_
    refine lv_iload_n hx hb dX2_quarrelAt_69 rfl (lv_at hl 5 rfl) ?_
    refine lv_iload hx hb dX2_quarrelAt_70 (lv_at hl 0 rfl) ?_
    refine lv_iadd hx hb dX2_quarrelAt_72 ?_
    refine lv_icmp_ge (tgt := 91) hx hb dX2_quarrelAt_73 (by decide) (fun hc => ?_) (fun hc => ?_)
    · have hw := hw.1 hc
      refine lv_iload_n hx hb dX2_quarrelAt_91 rfl (lv_at hl 5 rfl) ?_
      refine lv_iload hx hb dX2_quarrelAt_92 (lv_at hl 0 rfl) ?_
      refine lv_iadd hx hb dX2_quarrelAt_94 ?_
      refine lv_topi (fun y8 ey8 => ?_)
      have hw := hw y8 ey8
      refine lv_istore_n (lv' := [(3, .int y8), (7, .int r7), (5, .long z0), (0, .ref (q 5)), (1, .int x1), (2, .int x2), (4, .int x4)]) hx hb dX2_quarrelAt_95 rfl hl (by decide) rfl (fun ls hl => ?_)
      obtain ⟨y9, ey9⟩ : ∃ z : Int32, z = x4 + 1 := ⟨_, rfl⟩
      have hw := hw y9 ey9
      refine lv_iinc (v := y9) (lv' := [(4, .int y9), (3, .int y8), (7, .int r7), (5, .long z0), (0, .ref (q 5)), (1, .int x1), (2, .int x2)]) hx hb dX2_quarrelAt_96 hl (k := 6) rfl (by rw [ey9]; rfl) (by decide) rfl (fun ls hl => ?_)
      refine lv_goto (tgt := 17) hx hb dX2_quarrelAt_99 (by decide) ?_
      exact k17 y8 y9 hw ls (lv_sub hl [4, 5, 6, 1, 0] rfl)
    · have hw := hw.2 hc
      refine lv_iload hx hb dX2_quarrelAt_76 (lv_at hl 6 rfl) ?_
      refine lv_bipush (v := 64) hx hb dX2_quarrelAt_78 (by decide) ?_
      refine lv_imul hx hb dX2_quarrelAt_80 ?_
      refine lv_lload hx hb dX2_quarrelAt_81 (lv_at hl 1 rfl) ?_
      refine lv_iload_n hx hb dX2_quarrelAt_83 rfl (lv_at hl 3 rfl) ?_
      refine lv_iload_n hx hb dX2_quarrelAt_84 rfl (lv_at hl 5 rfl) ?_
      refine lv_isub hx hb dX2_quarrelAt_85 ?_
      refine vp_callSi (va_Run.run (va_runS (As := [.long z0, .int (x1 - x3)]) (rest := [.int (x4 * 64)]) ⟨hx, hb, hml, hown, hts⟩ (c_X2_pairAt l z0 (x1 - x3) _ hw) (va_cwS 2 hts gX2_quarrelAt_X2_pairAt rfl rfl rfl (by decide +kernel) ⟨Nat.le_of_ble_eq_true rfl, Nat.le_of_ble_eq_true rfl⟩) (psS hN) rfl rfl hl.1 rfl (lv_room (Nat.le_of_ble_eq_true rfl)) dX2_quarrelAt_86 ⟨Nat.zero_le _, Nat.zero_le _⟩)) (fun r10 hw => ?_)
      refine lv_iadd hx hb dX2_quarrelAt_89 ?_
      exact W.iret (v := (x4 * 64) + r10) hx hb hr (fun t ht hW => ⟨(x4 * 64) + r10, rfl, hw, ht⟩) (fun _ h => by cases h) dX2_quarrelAt_90
  have L17 : ∀ (x1 : Int32) (x2 : Int32) (n : Nat) (x3 : Int32) (x4 : Int32) (_ : Unit), wp_X2_quarrelAt_L17 x1 x2 u post n x3 x4 → ∀ ls : Array Slot, lv_has ls 8 [(0, .ref (q 5)), (1, .int x1), (2, .int x2), (3, .int x3), (4, .int x4)] → W p l e (headSpec wsX2_quarrelAt rm_X2_quarrelAt).room s m args below meth c s.heap [] 0 0 (MQ below (vp_Si post) args s 0 0 (fun _ => False)) (F0 m 17 ls []) := by
    intro x1 x2 n
    induction n with
    | zero =>
      intro x3 x4 _ hw
      exact hw.elim
    | succ n ih =>
      intro x3 x4 _ hw ls hl 
      unfold wp_X2_quarrelAt_L17 at hw
      refine lv_iload hx hb dX2_quarrelAt_17 (lv_at hl 4 rfl) ?_
      refine lv_aload_n hx hb dX2_quarrelAt_19 rfl (lv_at hl 0 rfl) ?_
      refine va_get (D := D) (ci := 2) (v := .ref (q 2)) (C := RX2) (T := TX2) (N := 5) hx hb hts hiX2 hown hK hP 5 rfl rfl 1 (by decide) hf22 (fun _ h9 => h9) rfl dX2_quarrelAt_20 ?_
      refine va_getN (D := D) (ci := 5) (v := .int (u.1 20 0)) (C := RX5) (T := TX5) (N := 6) hx hb hts hiX5 hown hK hP 2 rfl rfl 4 (by decide) (va_Nw.use rfl (nf_RX2_85 hN)) (fun _ h9 => h9) rfl dX2_quarrelAt_23 ?_
      refine lv_icmp_ge (tgt := 102) hx hb dX2_quarrelAt_26 (by decide) (fun hc => ?_) (fun hc => ?_)
      · have hw := hw.1 hc
        refine lv_iconst (v := (-1)) hx hb dX2_quarrelAt_102 (by decide) ?_
        exact W.iret (v := (-1)) hx hb hr (fun t ht hW => ⟨(-1), rfl, hw, ht⟩) (fun _ h => by cases h) dX2_quarrelAt_103
      · have hw := hw.2 hc
        refine lv_iload_n hx hb dX2_quarrelAt_29 rfl (lv_at hl 2 rfl) ?_
        refine lv_i2l (v := x2.toInt64) hx hb dX2_quarrelAt_30 rfl ?_
        refine lv_iload hx hb dX2_quarrelAt_31 (lv_at hl 4 rfl) ?_
        refine vp_callSi (va_Run.run (va_runSN (As := [.long x2.toInt64, .int x4]) (rest := []) ⟨hx, hb, hml, hown, hts⟩ (c_X8_holds l x2.toInt64 x4 _ hw) ⟨va_cnB 2 hts ggX2_quarrelAt_X8_holds rfl rfl rfl (nm_RX2_69 hN) hi_RX8 (by decide +kernel) ⟨Nat.le_of_ble_eq_true rfl, Nat.le_of_ble_eq_true rfl⟩, hs_X8_holds, trivial⟩ (psS hN) rfl rfl hl.1 rfl (lv_room (Nat.le_of_ble_eq_true rfl)) dX2_quarrelAt_33 ⟨Nat.zero_le _, Nat.zero_le _⟩)) (fun r1 hw => ?_)
        refine lv_if_eq (tgt := 58) hx hb dX2_quarrelAt_36 (by decide) (fun hc => ?_) (fun hc => ?_)
        · have hw := hw.1 hc
          refine lv_lconst (v := 0) hx hb dX2_quarrelAt_58 (by decide) ?_
          refine J59 x1 x2 x3 x4 0 () hw ls (lv_sub hl [0, 1, 2, 3, 4] rfl) (fun y2 y3 hw ls hl => ?_)
          exact ih y2 y3 () hw ls (lv_sub hl [0, 1, 2, 3, 4] rfl)
        · have hw := hw.2 hc
          refine lv_aload_n hx hb dX2_quarrelAt_39 rfl (lv_at hl 0 rfl) ?_
          refine lv_iload hx hb dX2_quarrelAt_40 (lv_at hl 4 rfl) ?_
          refine lv_aload_n hx hb dX2_quarrelAt_42 rfl (lv_at hl 0 rfl) ?_
          refine va_get (D := D) (ci := 2) (v := .ref (q 2)) (C := RX2) (T := TX2) (N := 5) hx hb hts hiX2 hown hK hP 5 rfl rfl 1 (by decide) hf22 (fun _ h9 => h9) rfl dX2_quarrelAt_43 ?_
          refine va_getN (D := D) (ci := 5) (v := .ref (q 14)) (C := RX5) (T := TX5) (N := 6) hx hb hts hiX5 hown hK hP 2 rfl rfl 2 (by decide) (va_Nw.use rfl (nf_RX2_113 hN)) (fun _ h9 => h9) rfl dX2_quarrelAt_46 ?_
          refine lv_iload hx hb dX2_quarrelAt_49 (lv_at hl 4 rfl) ?_
          obtain ⟨hin, hw⟩ := hw
          refine va_iald hx hb hK hP 14 0 rfl rfl hin dX2_quarrelAt_51 ?_
          refine vp_callSl (va_Run.run (va_runV (As := [.int x4, .int (u.1 2 x4.toNatClampNeg)]) (rest := []) ⟨hx, hb, hml, hown, hts⟩ (c_X2_foughtAt l D q cI cJ cZ u x4 (u.1 2 x4.toNatClampNeg) _ hw) (cwV 2 hts gX2_quarrelAt_X2_foughtAt rfl rfl rfl (by decide +kernel) ⟨Nat.le_of_ble_eq_true rfl, Nat.le_of_ble_eq_true rfl⟩) (pvR (va_recv hK hP (ci := 2) (q0 := 5) (q := (RX2, TX2, 5)) rfl rfl) hK hP hN) rfl rfl hl.1 rfl (lv_room (Nat.le_of_ble_eq_true rfl)) dX2_quarrelAt_52 ⟨Nat.zero_le _, Nat.zero_le _⟩)) (fun r4 hw => ?_)
          refine lv_goto (tgt := 59) hx hb dX2_quarrelAt_55 (by decide) ?_
          refine J59 x1 x2 x3 x4 r4 () hw ls (lv_sub hl [0, 1, 2, 3, 4] rfl) (fun y5 y6 hw ls hl => ?_)
          exact ih y5 y6 () hw ls (lv_sub hl [0, 1, 2, 3, 4] rfl)
  have hent := lg_entry_eq m ([.ref (q 5), .int x1]) 8
  rw [← hargs] at hent
  rw [hent]
  have hl := lv_entry ([.ref (q 5), .int x1]) (n := 8) (Nat.le_of_ble_eq_true rfl)
  generalize (lg_sl ([.ref (q 5), .int x1]) ++ List.replicate (8 - (lg_sl ([.ref (q 5), .int x1])).length) Slot.unset).toArray = ls at hl ⊢
  have hl : lv_has ls 8 [(0, .ref (q 5)), (1, .int x1)] := hl
  unfold wp_X2_quarrelAt at hw
  refine lv_aload_n hx hb dX2_quarrelAt_0 rfl (lv_at hl 0 rfl) ?_
  refine lv_aload_n hx hb dX2_quarrelAt_1 rfl (lv_at hl 0 rfl) ?_
  refine va_get (D := D) (ci := 2) (v := .ref (q 3)) (C := RX2) (T := TX2) (N := 5) hx hb hts hiX2 hown hK hP 5 rfl rfl 2 (by decide) hf26 (fun _ h9 => h9) rfl dX2_quarrelAt_2 ?_
  refine va_getN (D := D) (ci := 3) (v := .long (u.2 6 0)) (C := RX3) (T := TX3) (N := 9) hx hb hts hiX3 hown hK hP 3 rfl rfl 4 (by decide) (va_Nw.use rfl (nf_RX2_109 hN)) (fun _ h9 => h9) rfl dX2_quarrelAt_5 ?_
  refine vp_callSi (va_Run.run (va_runV (As := [.long (u.2 6 0)]) (rest := []) ⟨hx, hb, hml, hown, hts⟩ (c_X2_ofProduct l D q cI cJ cZ u (u.2 6 0) _ hw) (cwV 1 hts gX2_quarrelAt_X2_ofProduct rfl rfl rfl (by decide +kernel) ⟨Nat.le_of_ble_eq_true rfl, Nat.le_of_ble_eq_true rfl⟩) (pvR (va_recv hK hP (ci := 2) (q0 := 5) (q := (RX2, TX2, 5)) rfl rfl) hK hP hN) rfl rfl hl.1 rfl (lv_room (Nat.le_of_ble_eq_true rfl)) dX2_quarrelAt_8 ⟨Nat.zero_le _, Nat.zero_le _⟩)) (fun r11 hw => ?_)
  refine lv_istore_n (lv' := [(2, .int r11), (0, .ref (q 5)), (1, .int x1)]) hx hb dX2_quarrelAt_11 rfl hl (by decide) rfl (fun ls hl => ?_)
  refine lv_iconst (v := 0) hx hb dX2_quarrelAt_12 (by decide) ?_
  refine lv_istore_n (lv' := [(3, .int 0), (2, .int r11), (0, .ref (q 5)), (1, .int x1)]) hx hb dX2_quarrelAt_13 rfl hl (by decide) rfl (fun ls hl => ?_)
  refine lv_iconst (v := 0) hx hb dX2_quarrelAt_14 (by decide) ?_
  refine lv_istore (lv' := [(4, .int 0), (3, .int 0), (2, .int r11), (0, .ref (q 5)), (1, .int x1)]) hx hb dX2_quarrelAt_15 hl (by decide) rfl (fun ls hl => ?_)
  obtain ⟨nn, hw⟩ := hw
  refine L17 x1 r11 nn 0 0 () hw ls (lv_sub hl [3, 4, 2, 1, 0] rfl)
set_option maxHeartbeats 4000000 in
set_option maxRecDepth 100000 in
theorem c_X8_quarrel (l : Launch) (D : va_G) (q : Nat → Nat) (cI cJ cZ : ClassId) (sz : Nat) (u : WU) (x1 : Int32) (x2 : Int32) (post : Int32 → WU → Prop) (hw : wp_X8_quarrel x1 x2 u post) : Met l yX8_quarrel wsX8_quarrel rm_X8_quarrel (va_Pc [.ref (q 0), .int x1, .int x2] (MW D (ty3 cI cJ cZ) (wX q cI cJ cZ u) sz)) (va_Qi post (fun u' t => va_P D vwCl (wX q cI cJ cZ u') t.heap) (va_A (wX q cI cJ cZ u00) sz)) 0 0 (va_A (wX q cI cJ cZ u00) sz) := by
  refine Met.ofW (cc := cX8_quarrel) (maxL := 3) (ret := (some .int)) (by decide) rfl ?_
  intro p e s m args below meth c s₁ B hml hv
  obtain ⟨hargs, hsz, hP, hK, hD0, hN⟩ := hv
  have hx := B.exec
  have hb := B.bytes
  have hr := B.returns
  have hts := atoms_spec (ws := wsX8_quarrel) B.pre
  have hown : s.vm.findClass RX8 = some m.cls := findClass_of_methodNamed B.named
  have hlocks := B.notSynchronized
  subst hsz
  have hD := shw_self (sz := s.heap.size) (sh_wX q cI cJ cZ) hD0
  have hA : ∀ a : Nat, s.heap.size ≤ a → va_A (wX q cI cJ cZ u00) s.heap.size a := fun _ h => Or.inr h
  have hS : va_S (va_A (wX q cI cJ cZ u00) s.heap.size) s.heap s.heap [] := va_S.rf
  have hiX3 : ∀ w ∈ u_ws RX3 TX3 9, w ∈ wsX8_quarrel := by decide +kernel
  have hiX5 : ∀ w ∈ u_ws RX5 TX5 6, w ∈ wsX8_quarrel := by decide +kernel
  have hiX8 : ∀ w ∈ u_ws RX8 TX8 8, w ∈ wsX8_quarrel := by decide +kernel
  have hf19 := hts (.fieldLink RX8 19 "TermsDesk" "parts" "LTermsDesk$Parts;") (by decide +kernel)
  have hf26 := hts (.fieldLink RX8 26 "TermsDesk" "joins" "LTermsDesk$Joins;") (by decide +kernel)
  have hf42 := hts (.fieldLink RX8 42 "TermsDesk" "flow" "LTermsDesk$Flow;") (by decide +kernel)
  have hent := lg_entry_eq m ([.ref (q 0), .int x1, .int x2]) 3
  rw [← hargs] at hent
  rw [hent]
  have hl := lv_entry ([.ref (q 0), .int x1, .int x2]) (n := 3) (Nat.le_of_ble_eq_true rfl)
  generalize (lg_sl ([.ref (q 0), .int x1, .int x2]) ++ List.replicate (3 - (lg_sl ([.ref (q 0), .int x1, .int x2])).length) Slot.unset).toArray = ls at hl ⊢
  have hl : lv_has ls 3 [(0, .ref (q 0)), (1, .int x1), (2, .int x2)] := hl
  unfold wp_X8_quarrel at hw
  refine lv_iload_n hx hb dX8_quarrel_0 rfl (lv_at hl 1 rfl) ?_
  refine lv_iconst (v := 4) hx hb dX8_quarrel_1 (by decide) ?_
  refine vp_callSi (va_Run.run (va_runS (As := [.int x1, .int 4]) (rest := []) ⟨hx, hb, hml, hown, hts⟩ (c_X8_within l x1 4 _ hw) (va_cwS 2 hts gX8_quarrel_X8_within rfl rfl rfl (by decide +kernel) ⟨Nat.le_of_ble_eq_true rfl, Nat.le_of_ble_eq_true rfl⟩) (psS hN) rfl rfl hl.1 rfl (lv_room (Nat.le_of_ble_eq_true rfl)) dX8_quarrel_2 ⟨Nat.zero_le _, Nat.zero_le _⟩)) (fun r1 hw => ?_)
  refine lv_if_eq (tgt := 12) hx hb dX8_quarrel_5 (by decide) (fun hc => ?_) (fun hc => ?_)
  · have hw := hw.1 hc
    refine lv_iconst (v := (-1)) hx hb dX8_quarrel_12 (by decide) ?_
    exact W.iret (v := (-1)) hx hb hr (fun t ht hW => ⟨⟨(-1), u, rfl, hw, by show va_P D vwCl _ t.heap; rw [ht]; exact hP⟩, hS.F ht⟩) hS.2.2 dX8_quarrel_13
  · have hw := hw.2 hc
    refine lv_iload_n hx hb dX8_quarrel_8 rfl (lv_at hl 2 rfl) ?_
    refine lv_if_ge (tgt := 14) hx hb dX8_quarrel_9 (by decide) (fun hc => ?_) (fun hc => ?_)
    · have hw := hw.1 hc
      refine lv_aload_n hx hb dX8_quarrel_14 rfl (lv_at hl 0 rfl) ?_
      refine va_get (D := D) (ci := 8) (v := .ref (q 5)) (C := RX8) (T := TX8) (N := 8) hx hb hts hiX8 hown hK hP 0 rfl rfl 4 (by decide) hf42 (fun _ h9 => h9) rfl dX8_quarrel_15 ?_
      refine lv_iload_n hx hb dX8_quarrel_18 rfl (lv_at hl 1 rfl) ?_
      refine lv_aload_n hx hb dX8_quarrel_19 rfl (lv_at hl 0 rfl) ?_
      refine va_get (D := D) (ci := 8) (v := .ref (q 2)) (C := RX8) (T := TX8) (N := 8) hx hb hts hiX8 hown hK hP 0 rfl rfl 1 (by decide) hf19 (fun _ h9 => h9) rfl dX8_quarrel_20 ?_
      refine va_getN (D := D) (ci := 5) (v := .ref (q 14)) (C := RX5) (T := TX5) (N := 6) hx hb hts hiX5 hown hK hP 2 rfl rfl 2 (by decide) (va_Nw.use rfl (nf_RX8_115 hN)) (fun _ h9 => h9) rfl dX8_quarrel_23 ?_
      refine lv_aload_n hx hb dX8_quarrel_26 rfl (lv_at hl 0 rfl) ?_
      refine va_get (D := D) (ci := 8) (v := .ref (q 3)) (C := RX8) (T := TX8) (N := 8) hx hb hts hiX8 hown hK hP 0 rfl rfl 2 (by decide) hf26 (fun _ h9 => h9) rfl dX8_quarrel_27 ?_
      refine va_getN (D := D) (ci := 3) (v := .long (u.2 6 0)) (C := RX3) (T := TX3) (N := 9) hx hb hts hiX3 hown hK hP 3 rfl rfl 4 (by decide) (va_Nw.use rfl (nf_RX8_122 hN)) (fun _ h9 => h9) rfl dX8_quarrel_30 ?_
      refine cMv (sh_wX q cI cJ cZ) (u := u) (va_runV (As := [.int x1, .ref (q 14), .long (u.2 6 0)]) (rest := []) ⟨hx, hb, hml, hown, hts⟩ (c_X2_run_c14 l D q cI cJ cZ _ u x1 (u.2 6 0) _ hw) (cwV 3 hts gX8_quarrel_X2_run rfl rfl rfl (by decide +kernel) ⟨Nat.le_of_ble_eq_true rfl, Nat.le_of_ble_eq_true rfl⟩) (pvM (va_recv hK hP (ci := 2) (q0 := 5) (q := (RX2, TX2, 5)) rfl rfl) hK hP hD hN) rfl rfl hl.1 rfl (lv_room (Nat.le_of_ble_eq_true rfl)) dX8_quarrel_33 ⟨Nat.zero_le _, Nat.zero_le _⟩) hA hD hS (fun u2 H locs hw hP hD hS => ?_)
      refine lv_aload_n hx hb dX8_quarrel_36 rfl (lv_at hl 0 rfl) ?_
      refine va_get (D := D) (ci := 8) (v := .ref (q 5)) (C := RX8) (T := TX8) (N := 8) hx hb hts hiX8 hown hK hP 0 rfl rfl 4 (by decide) hf42 (fun _ h9 => h9) rfl dX8_quarrel_37 ?_
      refine lv_iload_n hx hb dX8_quarrel_40 rfl (lv_at hl 2 rfl) ?_
      refine vp_callSi (va_Run.run (va_runV (As := [.int x2]) (rest := []) ⟨hx, hb, hml, hown, hts⟩ (c_X2_quarrelAt l D q cI cJ cZ u2 x2 _ hw) (cwV 1 hts gX8_quarrel_X2_quarrelAt rfl rfl rfl (by decide +kernel) ⟨Nat.le_of_ble_eq_true rfl, Nat.le_of_ble_eq_true rfl⟩) (pvR (va_recv hK hP (ci := 2) (q0 := 5) (q := (RX2, TX2, 5)) rfl rfl) hK hP hN) rfl rfl hl.1 rfl (lv_room (Nat.le_of_ble_eq_true rfl)) dX8_quarrel_41 ⟨Nat.zero_le _, Nat.zero_le _⟩)) (fun r3 hw => ?_)
      exact W.iret (v := r3) hx hb hr (fun t ht hW => ⟨⟨r3, u2, rfl, hw, by show va_P D vwCl _ t.heap; rw [ht]; exact hP⟩, hS.F ht⟩) hS.2.2 dX8_quarrel_44
    · have hw := hw.2 hc
      refine lv_iconst (v := (-1)) hx hb dX8_quarrel_12 (by decide) ?_
      exact W.iret (v := (-1)) hx hb hr (fun t ht hW => ⟨⟨(-1), u, rfl, hw, by show va_P D vwCl _ t.heap; rw [ht]; exact hP⟩, hS.F ht⟩) hS.2.2 dX8_quarrel_13
set_option maxHeartbeats 4000000 in
set_option maxRecDepth 100000 in
theorem c_X9_quarrel (l : Launch) (D : va_G) (q : Nat → Nat) (cI cJ cZ : ClassId) (sz : Nat) (u : WU) (x1 : Int32) (x2 : Int32) (post : Int32 → WU → Prop) (hw : wp_X9_quarrel x1 x2 u post) : Met l yX9_quarrel wsX9_quarrel rm_X9_quarrel (va_Pc [.ref (q 0), .int x1, .int x2] (MW D (ty3 cI cJ cZ) (wM q cI cJ cZ u) sz)) (va_Qi post (fun u' t => va_P D vwCl (wM q cI cJ cZ u') t.heap) (va_A (wM q cI cJ cZ u00) sz)) 0 0 (va_A (wM q cI cJ cZ u00) sz) := by
  refine Met.ofW (cc := cX9_quarrel) (maxL := 8) (ret := (some .int)) (by decide) rfl ?_
  intro p e s m args below meth c s₁ B hml hv
  obtain ⟨hargs, hsz, hP, hK, hD0, hN⟩ := hv
  have hx := B.exec
  have hb := B.bytes
  have hr := B.returns
  have hts := atoms_spec (ws := wsX9_quarrel) B.pre
  have hown : s.vm.findClass RX9 = some m.cls := findClass_of_methodNamed B.named
  have hlocks := B.notSynchronized
  subst hsz
  have hD := shw_self (sz := s.heap.size) (sh_wM q cI cJ cZ) hD0
  have hA : ∀ a : Nat, s.heap.size ≤ a → va_A (wM q cI cJ cZ u00) s.heap.size a := fun _ h => Or.inr h
  have hS : va_S (va_A (wM q cI cJ cZ u00) s.heap.size) s.heap s.heap [] := va_S.rf
  have hiX9 : ∀ w ∈ u_ws RX9 TX9 30, w ∈ wsX9_quarrel := by decide +kernel
  have hf57 := hts (.fieldLink RX9 57 "TermsDeskModel" "isReached" "[Z") (by decide +kernel)
  have hf63 := hts (.fieldLink RX9 63 "TermsDeskModel" "has" "[I") (by decide +kernel)
  have hf66 := hts (.fieldLink RX9 66 "TermsDeskModel" "come" "[J") (by decide +kernel)
  have hf87 := hts (.fieldLink RX9 87 "TermsDeskModel" "parts" "I") (by decide +kernel)
  have J109 : ∀ {K70 : Int32 → Int32 → WU → Prop} (x2 : Int32) (x3 : Int32) (x4 : Int32) (x5 : Int64) (x7 : Int32) (u : WU) (H : Heap) (locs : List Loc), wp_X9_quarrel_J109 x2 x3 x4 x5 x7 u post K70 → va_P D vwCl (wM q cI cJ cZ u) H → va_D (va_A (wM q cI cJ cZ u00) s.heap.size) (wM q cI cJ cZ u) → va_S (va_A (wM q cI cJ cZ u00) s.heap.size) s.heap H locs → ∀ ls : Array Slot, lv_has ls 8 [(0, .ref (q 0)), (2, .int x2), (3, .int x3), (4, .int x4), (5, .long x5), (7, .int x7)] → (∀ (x3 : Int32) (x7 : Int32) (u : WU) (H : Heap) (locs : List Loc), K70 x3 x7 u → va_P D vwCl (wM q cI cJ cZ u) H → va_D (va_A (wM q cI cJ cZ u00) s.heap.size) (wM q cI cJ cZ u) → va_S (va_A (wM q cI cJ cZ u00) s.heap.size) s.heap H locs → ∀ ls : Array Slot, lv_has ls 8 [(0, .ref (q 0)), (2, .int x2), (3, .int x3), (4, .int x4), (5, .long x5), (7, .int x7)] → W p l e (headSpec wsX9_quarrel rm_X9_quarrel).room s m args below meth c H locs 0 0 (MQ below (va_Qi post (fun u' t => va_P D vwCl (wM q cI cJ cZ u') t.heap) (va_A (wM q cI cJ cZ u00) s.heap.size)) args s 0 0 (va_A (wM q cI cJ cZ u00) s.heap.size)) (F0 m 70 ls [])) → W p l e (headSpec wsX9_quarrel rm_X9_quarrel).room s m args below meth c H locs 0 0 (MQ below (va_Qi post (fun u' t => va_P D vwCl (wM q cI cJ cZ u') t.heap) (va_A (wM q cI cJ cZ u00) s.heap.size)) args s 0 0 (va_A (wM q cI cJ cZ u00) s.heap.size)) (F0 m 109 ls []) := by
    intro K70 x2 x3 x4 x5 x7 u H locs hw hP hD hS ls hl k70
    unfold wp_X9_quarrel_J109 at hw
    obtain ⟨y18, ey18⟩ : ∃ z : Int32, z = x7 + 1 := ⟨_, rfl⟩
    have hw := hw y18 ey18
    refine lv_iinc (v := y18) (lv' := [(7, .int y18), (0, .ref (q 0)), (2, .int x2), (3, .int x3), (4, .int x4), (5, .long x5)]) hx hb dX9_quarrel_109 hl (k := 5) rfl (by rw [ey18]; rfl) (by decide) rfl (fun ls hl => ?_)
    refine lv_goto (tgt := 70) hx hb dX9_quarrel_112 (by decide) ?_
    exact k70 x3 y18 u _ _ hw hP hD hS ls (lv_sub hl [1, 2, 3, 4, 5, 0] rfl)
  have L70 : ∀ {K115 : Int32 → WU → Prop} (x2 : Int32) (x4 : Int32) (x5 : Int64) (n : Nat) (x3 : Int32) (x7 : Int32) (u : WU) (H : Heap) (locs : List Loc), wp_X9_quarrel_L70 x2 x4 x5 post K115 n x3 x7 u → va_P D vwCl (wM q cI cJ cZ u) H → va_D (va_A (wM q cI cJ cZ u00) s.heap.size) (wM q cI cJ cZ u) → va_S (va_A (wM q cI cJ cZ u00) s.heap.size) s.heap H locs → ∀ ls : Array Slot, lv_has ls 8 [(0, .ref (q 0)), (2, .int x2), (3, .int x3), (4, .int x4), (5, .long x5), (7, .int x7)] → (∀ (x3 : Int32) (u : WU) (H : Heap) (locs : List Loc), K115 x3 u → va_P D vwCl (wM q cI cJ cZ u) H → va_D (va_A (wM q cI cJ cZ u00) s.heap.size) (wM q cI cJ cZ u) → va_S (va_A (wM q cI cJ cZ u00) s.heap.size) s.heap H locs → ∀ ls : Array Slot, lv_has ls 8 [(0, .ref (q 0)), (2, .int x2), (3, .int x3), (4, .int x4)] → W p l e (headSpec wsX9_quarrel rm_X9_quarrel).room s m args below meth c H locs 0 0 (MQ below (va_Qi post (fun u' t => va_P D vwCl (wM q cI cJ cZ u') t.heap) (va_A (wM q cI cJ cZ u00) s.heap.size)) args s 0 0 (va_A (wM q cI cJ cZ u00) s.heap.size)) (F0 m 115 ls [])) → W p l e (headSpec wsX9_quarrel rm_X9_quarrel).room s m args below meth c H locs 0 0 (MQ below (va_Qi post (fun u' t => va_P D vwCl (wM q cI cJ cZ u') t.heap) (va_A (wM q cI cJ cZ u00) s.heap.size)) args s 0 0 (va_A (wM q cI cJ cZ u00) s.heap.size)) (F0 m 70 ls []) := by
    intro K115 x2 x4 x5 n
    induction n with
    | zero =>
      intro x3 x7 u H locs hw
      exact hw.elim
    | succ n ih =>
      intro x3 x7 u H locs hw hP hD hS ls hl k115
      unfold wp_X9_quarrel_L70 at hw
      refine lv_iload hx hb dX9_quarrel_70 (lv_at hl 5 rfl) ?_
      refine lv_bipush (v := 64) hx hb dX9_quarrel_72 (by decide) ?_
      refine lv_icmp_ge (tgt := 115) hx hb dX9_quarrel_74 (by decide) (fun hc => ?_) (fun hc => ?_)
      · have hw := hw.1 hc
        exact k115 x3 u _ _ hw hP hD hS ls (lv_sub hl [0, 1, 2, 3] rfl)
      · have hw := hw.2 hc
        refine lv_lload hx hb dX9_quarrel_77 (lv_at hl 4 rfl) ?_
        refine lv_iload hx hb dX9_quarrel_79 (lv_at hl 5 rfl) ?_
        refine lv_lshr (v := jshr x5 x7) hx hb dX9_quarrel_81 rfl ?_
        refine lv_lconst (v := 1) hx hb dX9_quarrel_82 (by decide) ?_
        refine lv_land hx hb dX9_quarrel_83 ?_
        refine lv_lconst (v := 0) hx hb dX9_quarrel_84 (by decide) ?_
        refine W.lcmp hx hb dX9_quarrel_85 ?_
        refine lv_if_ne (tgt := 92) hx hb dX9_quarrel_86 (by decide) (fun hc => ?_) (fun hc => ?_)
        · have hw := hw.1 hc
          refine lv_iload_n hx hb dX9_quarrel_92 rfl (lv_at hl 2 rfl) ?_
          refine lv_iload_n hx hb dX9_quarrel_93 rfl (lv_at hl 1 rfl) ?_
          refine lv_icmp_ne (tgt := 106) hx hb dX9_quarrel_94 (by decide) (fun hc => ?_) (fun hc => ?_)
          · have hw := hw.1 hc
            obtain ⟨y8, ey8⟩ : ∃ z : Int32, z = x3 + 1 := ⟨_, rfl⟩
            have hw := hw y8 ey8
            refine lv_iinc (v := y8) (lv' := [(3, .int y8), (0, .ref (q 0)), (2, .int x2), (4, .int x4), (5, .long x5), (7, .int x7)]) hx hb dX9_quarrel_106 hl (k := 2) rfl (by rw [ey8]; rfl) (by decide) rfl (fun ls hl => ?_)
            refine J109 x2 y8 x4 x5 x7 u _ _ hw hP hD hS ls (lv_sub hl [1, 2, 0, 3, 4, 5] rfl) (fun y9 y10 u11 H locs hw hP hD hS ls hl => ?_)
            exact ih y9 y10 u11 _ _ hw hP hD hS ls (lv_sub hl [0, 1, 2, 3, 4, 5] rfl) k115
          · have hw := hw.2 hc
            refine lv_bipush (v := 64) hx hb dX9_quarrel_97 (by decide) ?_
            refine lv_iload hx hb dX9_quarrel_99 (lv_at hl 3 rfl) ?_
            refine lv_imul hx hb dX9_quarrel_101 ?_
            refine lv_iload hx hb dX9_quarrel_102 (lv_at hl 5 rfl) ?_
            refine lv_iadd hx hb dX9_quarrel_104 ?_
            exact W.iret (v := (64 * x4) + x7) hx hb hr (fun t ht hW => ⟨⟨(64 * x4) + x7, u, rfl, hw, by show va_P D vwCl _ t.heap; rw [ht]; exact hP⟩, hS.F ht⟩) hS.2.2 dX9_quarrel_105
        · have hw := hw.2 hc
          refine lv_goto (tgt := 109) hx hb dX9_quarrel_89 (by decide) ?_
          refine J109 x2 x3 x4 x5 x7 u _ _ hw hP hD hS ls (lv_sub hl [0, 1, 2, 3, 4, 5] rfl) (fun y12 y13 u14 H locs hw hP hD hS ls hl => ?_)
          exact ih y12 y13 u14 _ _ hw hP hD hS ls (lv_sub hl [0, 1, 2, 3, 4, 5] rfl) k115
  have J65 : ∀ {K23 : Int32 → Int32 → WU → Prop} (x2 : Int32) (x3 : Int32) (x4 : Int32) (z0 : Int64) (u : WU) (H : Heap) (locs : List Loc), wp_X9_quarrel_J65 x2 x3 x4 z0 u post K23 → va_P D vwCl (wM q cI cJ cZ u) H → va_D (va_A (wM q cI cJ cZ u00) s.heap.size) (wM q cI cJ cZ u) → va_S (va_A (wM q cI cJ cZ u00) s.heap.size) s.heap H locs → ∀ ls : Array Slot, lv_has ls 8 [(0, .ref (q 0)), (2, .int x2), (3, .int x3), (4, .int x4)] → (∀ (x3 : Int32) (x4 : Int32) (u : WU) (H : Heap) (locs : List Loc), K23 x3 x4 u → va_P D vwCl (wM q cI cJ cZ u) H → va_D (va_A (wM q cI cJ cZ u00) s.heap.size) (wM q cI cJ cZ u) → va_S (va_A (wM q cI cJ cZ u00) s.heap.size) s.heap H locs → ∀ ls : Array Slot, lv_has ls 8 [(0, .ref (q 0)), (2, .int x2), (3, .int x3), (4, .int x4)] → W p l e (headSpec wsX9_quarrel rm_X9_quarrel).room s m args below meth c H locs 0 0 (MQ below (va_Qi post (fun u' t => va_P D vwCl (wM q cI cJ cZ u') t.heap) (va_A (wM q cI cJ cZ u00) s.heap.size)) args s 0 0 (va_A (wM q cI cJ cZ u00) s.heap.size)) (F0 m 23 ls [])) → W p l e (headSpec wsX9_quarrel rm_X9_quarrel).room s m args below meth c H locs 0 0 (MQ below (va_Qi post (fun u' t => va_P D vwCl (wM q cI cJ cZ u') t.heap) (va_A (wM q cI cJ cZ u00) s.heap.size)) args s 0 0 (va_A (wM q cI cJ cZ u00) s.heap.size)) (F0 m 65 ls [.long z0]) := by
    intro K23 x2 x3 x4 z0 u H locs hw hP hD hS ls hl k23
    unfold wp_X9_quarrel_J65 at hw
    refine lv_lstore (lv' := [(5, .long z0), (0, .ref (q 0)), (2, .int x2), (3, .int x3), (4, .int x4)]) hx hb dX9_quarrel_65 hl (by decide) rfl (fun ls hl => ?_)
    refine lv_iconst (v := 0) hx hb dX9_quarrel_67 (by decide) ?_
    refine lv_istore (lv' := [(7, .int 0), (5, .long z0), (0, .ref (q 0)), (2, .int x2), (3, .int x3), (4, .int x4)]) hx hb dX9_quarrel_68 hl (by decide) rfl (fun ls hl => ?_)
    obtain ⟨nn, hw⟩ := hw
    refine L70 x2 x4 z0 nn x3 0 u _ _ hw hP hD hS ls (lv_sub hl [2, 3, 4, 5, 1, 0] rfl) (fun y15 u16 H locs hw hP hD hS ls hl => ?_)
    obtain ⟨y17, ey17⟩ : ∃ z : Int32, z = x4 + 1 := ⟨_, rfl⟩
    have hw := hw y17 ey17
    refine lv_iinc (v := y17) (lv' := [(4, .int y17), (0, .ref (q 0)), (2, .int x2), (3, .int y15)]) hx hb dX9_quarrel_115 hl (k := 3) rfl (by rw [ey17]; rfl) (by decide) rfl (fun ls hl => ?_)
    refine lv_goto (tgt := 23) hx hb dX9_quarrel_118 (by decide) ?_
    exact k23 y15 y17 u16 _ _ hw hP hD hS ls (lv_sub hl [1, 2, 3, 0] rfl)
  have L23 : ∀ (x2 : Int32) (n : Nat) (x3 : Int32) (x4 : Int32) (u : WU) (H : Heap) (locs : List Loc), wp_X9_quarrel_L23 x2 post n x3 x4 u → va_P D vwCl (wM q cI cJ cZ u) H → va_D (va_A (wM q cI cJ cZ u00) s.heap.size) (wM q cI cJ cZ u) → va_S (va_A (wM q cI cJ cZ u00) s.heap.size) s.heap H locs → ∀ ls : Array Slot, lv_has ls 8 [(0, .ref (q 0)), (2, .int x2), (3, .int x3), (4, .int x4)] → W p l e (headSpec wsX9_quarrel rm_X9_quarrel).room s m args below meth c H locs 0 0 (MQ below (va_Qi post (fun u' t => va_P D vwCl (wM q cI cJ cZ u') t.heap) (va_A (wM q cI cJ cZ u00) s.heap.size)) args s 0 0 (va_A (wM q cI cJ cZ u00) s.heap.size)) (F0 m 23 ls []) := by
    intro x2 n
    induction n with
    | zero =>
      intro x3 x4 u H locs hw
      exact hw.elim
    | succ n ih =>
      intro x3 x4 u H locs hw hP hD hS ls hl 
      unfold wp_X9_quarrel_L23 at hw
      refine lv_iload hx hb dX9_quarrel_23 (lv_at hl 3 rfl) ?_
      refine lv_aload_n hx hb dX9_quarrel_25 rfl (lv_at hl 0 rfl) ?_
      refine va_get (D := D) (ci := 9) (v := .int (u.1 21 0)) (C := RX9) (T := TX9) (N := 30) hx hb hts hiX9 hown hK hP 0 rfl rfl 3 (by decide) hf87 (fun _ h9 => h9) rfl dX9_quarrel_26 ?_
      refine lv_icmp_ge (tgt := 121) hx hb dX9_quarrel_29 (by decide) (fun hc => ?_) (fun hc => ?_)
      · have hw := hw.1 hc
        refine lv_iconst (v := (-1)) hx hb dX9_quarrel_121 (by decide) ?_
        exact W.iret (v := (-1)) hx hb hr (fun t ht hW => ⟨⟨(-1), u, rfl, hw, by show va_P D vwCl _ t.heap; rw [ht]; exact hP⟩, hS.F ht⟩) hS.2.2 dX9_quarrel_122
      · have hw := hw.2 hc
        refine lv_aload_n hx hb dX9_quarrel_32 rfl (lv_at hl 0 rfl) ?_
        refine va_get (D := D) (ci := 9) (v := .ref (q 16)) (C := RX9) (T := TX9) (N := 30) hx hb hts hiX9 hown hK hP 0 rfl rfl 19 (by decide) hf57 (fun _ h9 => h9) rfl dX9_quarrel_33 ?_
        refine lv_iload hx hb dX9_quarrel_36 (lv_at hl 3 rfl) ?_
        obtain ⟨hin, hw⟩ := hw
        refine va_zald hx hb hK hP 16 2 rfl rfl hin dX9_quarrel_38 ?_
        refine lv_if_eq (tgt := 64) hx hb dX9_quarrel_39 (by decide) (fun hc => ?_) (fun hc => ?_)
        · have hw := hw.1 hc
          refine lv_lconst (v := 0) hx hb dX9_quarrel_64 (by decide) ?_
          refine J65 x2 x3 x4 0 u _ _ hw hP hD hS ls (lv_sub hl [0, 1, 2, 3] rfl) (fun y1 y2 u3 H locs hw hP hD hS ls hl => ?_)
          exact ih y1 y2 u3 _ _ hw hP hD hS ls (lv_sub hl [0, 1, 2, 3] rfl)
        · have hw := hw.2 hc
          refine lv_aload_n hx hb dX9_quarrel_42 rfl (lv_at hl 0 rfl) ?_
          refine va_get (D := D) (ci := 9) (v := .ref (q 19)) (C := RX9) (T := TX9) (N := 30) hx hb hts hiX9 hown hK hP 0 rfl rfl 22 (by decide) hf66 (fun _ h9 => h9) rfl dX9_quarrel_43 ?_
          refine lv_iload hx hb dX9_quarrel_46 (lv_at hl 3 rfl) ?_
          obtain ⟨hin, hw⟩ := hw
          refine va_lald hx hb hK hP 19 1 rfl rfl hin dX9_quarrel_48 ?_
          refine lv_aload_n hx hb dX9_quarrel_49 rfl (lv_at hl 0 rfl) ?_
          refine lv_aload_n hx hb dX9_quarrel_50 rfl (lv_at hl 0 rfl) ?_
          refine va_get (D := D) (ci := 9) (v := .ref (q 18)) (C := RX9) (T := TX9) (N := 30) hx hb hts hiX9 hown hK hP 0 rfl rfl 21 (by decide) hf63 (fun _ h9 => h9) rfl dX9_quarrel_51 ?_
          refine lv_iload hx hb dX9_quarrel_54 (lv_at hl 3 rfl) ?_
          obtain ⟨hin, hw⟩ := hw
          refine va_iald hx hb hK hP 18 0 rfl rfl hin dX9_quarrel_56 ?_
          refine vp_callSl (va_Run.run (va_runV (As := [.int (u.1 15 x4.toNatClampNeg)]) (rest := [.long (u.2 2 x4.toNatClampNeg)]) ⟨hx, hb, hml, hown, hts⟩ (c_X9_bars_ l D q cI cJ cZ u (u.1 15 x4.toNatClampNeg) _ hw) (cwV 1 hts gX9_quarrel_X9_bars_ rfl rfl rfl (by decide +kernel) ⟨Nat.le_of_ble_eq_true rfl, Nat.le_of_ble_eq_true rfl⟩) (pvR (va_recv hK hP (ci := 9) (q0 := 0) (q := (RX9, TX9, 30)) rfl rfl) hK hP hN) rfl rfl hl.1 rfl (lv_room (Nat.le_of_ble_eq_true rfl)) dX9_quarrel_57 ⟨Nat.zero_le _, Nat.zero_le _⟩)) (fun r4 hw => ?_)
          refine lv_land hx hb dX9_quarrel_60 ?_
          refine lv_goto (tgt := 65) hx hb dX9_quarrel_61 (by decide) ?_
          refine J65 x2 x3 x4 ((u.2 2 x4.toNatClampNeg) &&& r4) u _ _ hw hP hD hS ls (lv_sub hl [0, 1, 2, 3] rfl) (fun y5 y6 u7 H locs hw hP hD hS ls hl => ?_)
          exact ih y5 y6 u7 _ _ hw hP hD hS ls (lv_sub hl [0, 1, 2, 3] rfl)
  have hent := lg_entry_eq m ([.ref (q 0), .int x1, .int x2]) 8
  rw [← hargs] at hent
  rw [hent]
  have hl := lv_entry ([.ref (q 0), .int x1, .int x2]) (n := 8) (Nat.le_of_ble_eq_true rfl)
  generalize (lg_sl ([.ref (q 0), .int x1, .int x2]) ++ List.replicate (8 - (lg_sl ([.ref (q 0), .int x1, .int x2])).length) Slot.unset).toArray = ls at hl ⊢
  have hl : lv_has ls 8 [(0, .ref (q 0)), (1, .int x1), (2, .int x2)] := hl
  unfold wp_X9_quarrel at hw
  refine lv_iload_n hx hb dX9_quarrel_0 rfl (lv_at hl 1 rfl) ?_
  refine vp_callSi (va_Run.run (va_runS (As := [.int x1]) (rest := []) ⟨hx, hb, hml, hown, hts⟩ (c_X9_isShipping l x1 _ hw) (va_cwS 1 hts gX9_quarrel_X9_isShipping rfl rfl rfl (by decide +kernel) ⟨Nat.le_of_ble_eq_true rfl, Nat.le_of_ble_eq_true rfl⟩) (psS hN) rfl rfl hl.1 rfl (lv_room (Nat.le_of_ble_eq_true rfl)) dX9_quarrel_1 ⟨Nat.zero_le _, Nat.zero_le _⟩)) (fun r19 hw => ?_)
  refine lv_if_eq (tgt := 11) hx hb dX9_quarrel_4 (by decide) (fun hc => ?_) (fun hc => ?_)
  · have hw := hw.1 hc
    refine lv_iconst (v := (-1)) hx hb dX9_quarrel_11 (by decide) ?_
    exact W.iret (v := (-1)) hx hb hr (fun t ht hW => ⟨⟨(-1), u, rfl, hw, by show va_P D vwCl _ t.heap; rw [ht]; exact hP⟩, hS.F ht⟩) hS.2.2 dX9_quarrel_12
  · have hw := hw.2 hc
    refine lv_iload_n hx hb dX9_quarrel_7 rfl (lv_at hl 2 rfl) ?_
    refine lv_if_ge (tgt := 13) hx hb dX9_quarrel_8 (by decide) (fun hc => ?_) (fun hc => ?_)
    · have hw := hw.1 hc
      refine lv_aload_n hx hb dX9_quarrel_13 rfl (lv_at hl 0 rfl) ?_
      refine lv_iload_n hx hb dX9_quarrel_14 rfl (lv_at hl 1 rfl) ?_
      refine cMv (sh_wM q cI cJ cZ) (u := u) (va_runV (As := [.int x1]) (rest := []) ⟨hx, hb, hml, hown, hts⟩ (c_X9_works l D q cI cJ cZ _ u x1 _ hw) (cwV 1 hts gX9_quarrel_X9_works rfl rfl rfl (by decide +kernel) ⟨Nat.le_of_ble_eq_true rfl, Nat.le_of_ble_eq_true rfl⟩) (pvM (va_recv hK hP (ci := 9) (q0 := 0) (q := (RX9, TX9, 30)) rfl rfl) hK hP hD hN) rfl rfl hl.1 rfl (lv_room (Nat.le_of_ble_eq_true rfl)) dX9_quarrel_15 ⟨Nat.zero_le _, Nat.zero_le _⟩) hA hD hS (fun u20 H locs hw hP hD hS => ?_)
      refine lv_iconst (v := 0) hx hb dX9_quarrel_18 (by decide) ?_
      refine lv_istore_n (lv' := [(3, .int 0), (0, .ref (q 0)), (1, .int x1), (2, .int x2)]) hx hb dX9_quarrel_19 rfl hl (by decide) rfl (fun ls hl => ?_)
      refine lv_iconst (v := 0) hx hb dX9_quarrel_20 (by decide) ?_
      refine lv_istore (lv' := [(4, .int 0), (3, .int 0), (0, .ref (q 0)), (1, .int x1), (2, .int x2)]) hx hb dX9_quarrel_21 hl (by decide) rfl (fun ls hl => ?_)
      obtain ⟨nn, hw⟩ := hw
      refine L23 x2 nn 0 0 u20 _ _ hw hP hD hS ls (lv_sub hl [2, 4, 1, 0] rfl)
    · have hw := hw.2 hc
      refine lv_iconst (v := (-1)) hx hb dX9_quarrel_11 (by decide) ?_
      exact W.iret (v := (-1)) hx hb hr (fun t ht hW => ⟨⟨(-1), u, rfl, hw, by show va_P D vwCl _ t.heap; rw [ht]; exact hP⟩, hS.F ht⟩) hS.2.2 dX9_quarrel_12
set_option maxHeartbeats 4000000 in
set_option maxRecDepth 100000 in
theorem c_X2_wayCount (l : Launch) (D : va_G) (q : Nat → Nat) (cI cJ cZ : ClassId) (u : WU) (post : Int32 → Prop) (hw : wp_X2_wayCount u post) : Met l yX2_wayCount wsX2_wayCount rm_X2_wayCount (va_Pc [.ref (q 5)] (RW D (ty3 cI cJ cZ) (wX q cI cJ cZ u))) (vp_Si post) 0 0 (fun _ => False) := by
  refine Met.ofW (cc := cX2_wayCount) (maxL := 4) (ret := (some .int)) (by decide) rfl ?_
  intro p e s m args below meth c s₁ B hml hv
  obtain ⟨hargs, hP, hK, hN⟩ := hv
  have hx := B.exec
  have hb := B.bytes
  have hr := B.returns
  have hts := atoms_spec (ws := wsX2_wayCount) B.pre
  have hown : s.vm.findClass RX2 = some m.cls := findClass_of_methodNamed B.named
  have hlocks := B.notSynchronized
  have hiX2 : ∀ w ∈ u_ws RX2 TX2 5, w ∈ wsX2_wayCount := by decide +kernel
  have hiX3 : ∀ w ∈ u_ws RX3 TX3 9, w ∈ wsX2_wayCount := by decide +kernel
  have hiX5 : ∀ w ∈ u_ws RX5 TX5 6, w ∈ wsX2_wayCount := by decide +kernel
  have hf22 := hts (.fieldLink RX2 22 "TermsDesk$Flow" "parts" "LTermsDesk$Parts;") (by decide +kernel)
  have hf26 := hts (.fieldLink RX2 26 "TermsDesk$Flow" "joins" "LTermsDesk$Joins;") (by decide +kernel)
  have hi_RX8 := hts (.initialized RX8) (by decide +kernel)
  have hs_X8_holds := hts (.static yX8_holds) (by decide +kernel)
  have J48 : ∀ {K16 : Int32 → Int32 → Prop} (x1 : Int32) (x2 : Int32) (x3 : Int32) (_ : Unit), wp_X2_wayCount_J48 x1 x2 x3 u post K16 → ∀ ls : Array Slot, lv_has ls 4 [(0, .ref (q 5)), (1, .int x1), (2, .int x2), (3, .int x3)] → (∀ (x2 : Int32) (x3 : Int32), K16 x2 x3 → ∀ ls : Array Slot, lv_has ls 4 [(0, .ref (q 5)), (1, .int x1), (2, .int x2), (3, .int x3)] → W p l e (headSpec wsX2_wayCount rm_X2_wayCount).room s m args below meth c s.heap [] 0 0 (MQ below (vp_Si post) args s 0 0 (fun _ => False)) (F0 m 16 ls [])) → W p l e (headSpec wsX2_wayCount rm_X2_wayCount).room s m args below meth c s.heap [] 0 0 (MQ below (vp_Si post) args s 0 0 (fun _ => False)) (F0 m 48 ls []) := by
    intro K16 x1 x2 x3 _ hw ls hl k16
    unfold wp_X2_wayCount_J48 at hw
    refine lv_iload_n hx hb dX2_wayCount_48 rfl (lv_at hl 2 rfl) ?_
    refine lv_sipush (v := 6561) hx hb dX2_wayCount_49 (by decide) ?_
    refine lv_icmp_le (tgt := 57) hx hb dX2_wayCount_52 (by decide) (fun hc => ?_) (fun hc => ?_)
    · have hw := hw.1 hc
      obtain ⟨y7, ey7⟩ : ∃ z : Int32, z = x3 + 1 := ⟨_, rfl⟩
      have hw := hw y7 ey7
      refine lv_iinc (v := y7) (lv' := [(3, .int y7), (0, .ref (q 5)), (1, .int x1), (2, .int x2)]) hx hb dX2_wayCount_57 hl (k := 3) rfl (by rw [ey7]; rfl) (by decide) rfl (fun ls hl => ?_)
      refine lv_goto (tgt := 16) hx hb dX2_wayCount_60 (by decide) ?_
      exact k16 x2 y7 hw ls (lv_sub hl [1, 2, 3, 0] rfl)
    · have hw := hw.2 hc
      refine lv_iconst (v := (-1)) hx hb dX2_wayCount_55 (by decide) ?_
      exact W.iret (v := (-1)) hx hb hr (fun t ht hW => ⟨(-1), rfl, hw, ht⟩) (fun _ h => by cases h) dX2_wayCount_56
  have L16 : ∀ (x1 : Int32) (n : Nat) (x2 : Int32) (x3 : Int32) (_ : Unit), wp_X2_wayCount_L16 x1 u post n x2 x3 → ∀ ls : Array Slot, lv_has ls 4 [(0, .ref (q 5)), (1, .int x1), (2, .int x2), (3, .int x3)] → W p l e (headSpec wsX2_wayCount rm_X2_wayCount).room s m args below meth c s.heap [] 0 0 (MQ below (vp_Si post) args s 0 0 (fun _ => False)) (F0 m 16 ls []) := by
    intro x1 n
    induction n with
    | zero =>
      intro x2 x3 _ hw
      exact hw.elim
    | succ n ih =>
      intro x2 x3 _ hw ls hl 
      unfold wp_X2_wayCount_L16 at hw
      refine lv_iload_n hx hb dX2_wayCount_16 rfl (lv_at hl 3 rfl) ?_
      refine lv_aload_n hx hb dX2_wayCount_17 rfl (lv_at hl 0 rfl) ?_
      refine va_get (D := D) (ci := 2) (v := .ref (q 2)) (C := RX2) (T := TX2) (N := 5) hx hb hts hiX2 hown hK hP 5 rfl rfl 1 (by decide) hf22 (fun _ h9 => h9) rfl dX2_wayCount_18 ?_
      refine va_getN (D := D) (ci := 5) (v := .int (u.1 20 0)) (C := RX5) (T := TX5) (N := 6) hx hb hts hiX5 hown hK hP 2 rfl rfl 4 (by decide) (va_Nw.use rfl (nf_RX2_85 hN)) (fun _ h9 => h9) rfl dX2_wayCount_21 ?_
      refine lv_icmp_ge (tgt := 63) hx hb dX2_wayCount_24 (by decide) (fun hc => ?_) (fun hc => ?_)
      · have hw := hw.1 hc
        refine lv_iload_n hx hb dX2_wayCount_63 rfl (lv_at hl 2 rfl) ?_
        exact W.iret (v := x2) hx hb hr (fun t ht hW => ⟨x2, rfl, hw, ht⟩) (fun _ h => by cases h) dX2_wayCount_64
      · have hw := hw.2 hc
        refine lv_iload_n hx hb dX2_wayCount_27 rfl (lv_at hl 1 rfl) ?_
        refine lv_i2l (v := x1.toInt64) hx hb dX2_wayCount_28 rfl ?_
        refine lv_iload_n hx hb dX2_wayCount_29 rfl (lv_at hl 3 rfl) ?_
        refine vp_callSi (va_Run.run (va_runSN (As := [.long x1.toInt64, .int x3]) (rest := []) ⟨hx, hb, hml, hown, hts⟩ (c_X8_holds l x1.toInt64 x3 _ hw) ⟨va_cnB 2 hts ggX2_wayCount_X8_holds rfl rfl rfl (nm_RX2_69 hN) hi_RX8 (by decide +kernel) ⟨Nat.le_of_ble_eq_true rfl, Nat.le_of_ble_eq_true rfl⟩, hs_X8_holds, trivial⟩ (psS hN) rfl rfl hl.1 rfl (lv_room (Nat.le_of_ble_eq_true rfl)) dX2_wayCount_30 ⟨Nat.zero_le _, Nat.zero_le _⟩)) (fun r1 hw => ?_)
        refine lv_if_eq (tgt := 48) hx hb dX2_wayCount_33 (by decide) (fun hc => ?_) (fun hc => ?_)
        · have hw := hw.1 hc
          refine J48 x1 x2 x3 () hw ls (lv_sub hl [0, 1, 2, 3] rfl) (fun y2 y3 hw ls hl => ?_)
          exact ih y2 y3 () hw ls (lv_sub hl [0, 1, 2, 3] rfl)
        · have hw := hw.2 hc
          refine lv_iload_n hx hb dX2_wayCount_36 rfl (lv_at hl 2 rfl) ?_
          refine lv_aload_n hx hb dX2_wayCount_37 rfl (lv_at hl 0 rfl) ?_
          refine va_get (D := D) (ci := 2) (v := .ref (q 2)) (C := RX2) (T := TX2) (N := 5) hx hb hts hiX2 hown hK hP 5 rfl rfl 1 (by decide) hf22 (fun _ h9 => h9) rfl dX2_wayCount_38 ?_
          refine va_getN (D := D) (ci := 5) (v := .ref (q 13)) (C := RX5) (T := TX5) (N := 6) hx hb hts hiX5 hown hK hP 2 rfl rfl 1 (by decide) (va_Nw.use rfl (nf_RX2_130 hN)) (fun _ h9 => h9) rfl dX2_wayCount_41 ?_
          refine lv_iload_n hx hb dX2_wayCount_44 rfl (lv_at hl 3 rfl) ?_
          obtain ⟨hin, hw⟩ := hw
          refine va_iald hx hb hK hP 13 0 rfl rfl hin dX2_wayCount_45 ?_
          refine lv_imul hx hb dX2_wayCount_46 ?_
          refine lv_topi (fun y4 ey4 => ?_)
          have hw := hw y4 ey4
          refine lv_istore_n (lv' := [(2, .int y4), (0, .ref (q 5)), (1, .int x1), (3, .int x3)]) hx hb dX2_wayCount_47 rfl hl (by decide) rfl (fun ls hl => ?_)
          refine J48 x1 y4 x3 () hw ls (lv_sub hl [1, 2, 0, 3] rfl) (fun y5 y6 hw ls hl => ?_)
          exact ih y5 y6 () hw ls (lv_sub hl [0, 1, 2, 3] rfl)
  have hent := lg_entry_eq m ([.ref (q 5)]) 4
  rw [← hargs] at hent
  rw [hent]
  have hl := lv_entry ([.ref (q 5)]) (n := 4) (Nat.le_of_ble_eq_true rfl)
  generalize (lg_sl ([.ref (q 5)]) ++ List.replicate (4 - (lg_sl ([.ref (q 5)])).length) Slot.unset).toArray = ls at hl ⊢
  have hl : lv_has ls 4 [(0, .ref (q 5))] := hl
  unfold wp_X2_wayCount at hw
  refine lv_aload_n hx hb dX2_wayCount_0 rfl (lv_at hl 0 rfl) ?_
  refine lv_aload_n hx hb dX2_wayCount_1 rfl (lv_at hl 0 rfl) ?_
  refine va_get (D := D) (ci := 2) (v := .ref (q 3)) (C := RX2) (T := TX2) (N := 5) hx hb hts hiX2 hown hK hP 5 rfl rfl 2 (by decide) hf26 (fun _ h9 => h9) rfl dX2_wayCount_2 ?_
  refine va_getN (D := D) (ci := 3) (v := .long (u.2 6 0)) (C := RX3) (T := TX3) (N := 9) hx hb hts hiX3 hown hK hP 3 rfl rfl 4 (by decide) (va_Nw.use rfl (nf_RX2_109 hN)) (fun _ h9 => h9) rfl dX2_wayCount_5 ?_
  refine vp_callSi (va_Run.run (va_runV (As := [.long (u.2 6 0)]) (rest := []) ⟨hx, hb, hml, hown, hts⟩ (c_X2_ofProduct l D q cI cJ cZ u (u.2 6 0) _ hw) (cwV 1 hts gX2_wayCount_X2_ofProduct rfl rfl rfl (by decide +kernel) ⟨Nat.le_of_ble_eq_true rfl, Nat.le_of_ble_eq_true rfl⟩) (pvR (va_recv hK hP (ci := 2) (q0 := 5) (q := (RX2, TX2, 5)) rfl rfl) hK hP hN) rfl rfl hl.1 rfl (lv_room (Nat.le_of_ble_eq_true rfl)) dX2_wayCount_8 ⟨Nat.zero_le _, Nat.zero_le _⟩)) (fun r8 hw => ?_)
  refine lv_istore_n (lv' := [(1, .int r8), (0, .ref (q 5))]) hx hb dX2_wayCount_11 rfl hl (by decide) rfl (fun ls hl => ?_)
  refine lv_iconst (v := 1) hx hb dX2_wayCount_12 (by decide) ?_
  refine lv_istore_n (lv' := [(2, .int 1), (1, .int r8), (0, .ref (q 5))]) hx hb dX2_wayCount_13 rfl hl (by decide) rfl (fun ls hl => ?_)
  refine lv_iconst (v := 0) hx hb dX2_wayCount_14 (by decide) ?_
  refine lv_istore_n (lv' := [(3, .int 0), (2, .int 1), (1, .int r8), (0, .ref (q 5))]) hx hb dX2_wayCount_15 rfl hl (by decide) rfl (fun ls hl => ?_)
  obtain ⟨nn, hw⟩ := hw
  refine L16 r8 nn 1 0 () hw ls (lv_sub hl [3, 2, 1, 0] rfl)
set_option maxHeartbeats 4000000 in
set_option maxRecDepth 100000 in
theorem c_X1_settle (l : Launch) (D : va_G) (q : Nat → Nat) (cI cJ cZ : ClassId) (sz : Nat) (u : WU) (x1 : Int32) (x2 : Int32) (post : Int32 → WU → Prop) (hw : wp_X1_settle x1 x2 u post) : Met l yX1_settle wsX1_settle rm_X1_settle (va_Pc [.ref (q 6), .int x1, .int x2] (MW D (ty3 cI cJ cZ) (wX q cI cJ cZ u) sz)) (va_Qi post (fun u' t => va_P D vwCl (wX q cI cJ cZ u') t.heap) (va_A (wX q cI cJ cZ u00) sz)) 0 0 (va_A (wX q cI cJ cZ u00) sz) := by
  refine Met.ofW (cc := cX1_settle) (maxL := 6) (ret := (some .int)) (by decide) rfl ?_
  intro p e s m args below meth c s₁ B hml hv
  obtain ⟨hargs, hsz, hP, hK, hD0, hN⟩ := hv
  have hx := B.exec
  have hb := B.bytes
  have hr := B.returns
  have hts := atoms_spec (ws := wsX1_settle) B.pre
  have hown : s.vm.findClass RX1 = some m.cls := findClass_of_methodNamed B.named
  have hlocks := B.notSynchronized
  subst hsz
  have hD := shw_self (sz := s.heap.size) (sh_wX q cI cJ cZ) hD0
  have hA : ∀ a : Nat, s.heap.size ≤ a → va_A (wX q cI cJ cZ u00) s.heap.size a := fun _ h => Or.inr h
  have hS : va_S (va_A (wX q cI cJ cZ u00) s.heap.size) s.heap s.heap [] := va_S.rf
  have hiX1 : ∀ w ∈ u_ws RX1 TX1 10, w ∈ wsX1_settle := by decide +kernel
  have hiX3 : ∀ w ∈ u_ws RX3 TX3 9, w ∈ wsX1_settle := by decide +kernel
  have hf15 := hts (.fieldLink RX1 15 "TermsDesk$Chooser" "place" "[I") (by decide +kernel)
  have hf21 := hts (.fieldLink RX1 21 "TermsDesk$Chooser" "quarrelsBefore" "[I") (by decide +kernel)
  have hf24 := hts (.fieldLink RX1 24 "TermsDesk$Chooser" "parts" "LTermsDesk$Parts;") (by decide +kernel)
  have hf28 := hts (.fieldLink RX1 28 "TermsDesk$Chooser" "joins" "LTermsDesk$Joins;") (by decide +kernel)
  have hf32 := hts (.fieldLink RX1 32 "TermsDesk$Chooser" "flow" "LTermsDesk$Flow;") (by decide +kernel)
  have hf52 := hts (.fieldLink RX1 52 "TermsDesk$Chooser" "bestQuarrels" "I") (by decide +kernel)
  have hf63 := hts (.fieldLink RX1 63 "TermsDesk$Chooser" "length" "I") (by decide +kernel)
  have hf9 := hts (.fieldLink RX1 9 "TermsDesk$Chooser" "line" "[I") (by decide +kernel)
  have L2 : ∀ (x1 : Int32) (n : Nat) (x3 : Int32) (u : WU) (H : Heap) (locs : List Loc), wp_X1_settle_L2 x1 post n x3 u → va_P D vwCl (wX q cI cJ cZ u) H → va_D (va_A (wX q cI cJ cZ u00) s.heap.size) (wX q cI cJ cZ u) → va_S (va_A (wX q cI cJ cZ u00) s.heap.size) s.heap H locs → ∀ ls : Array Slot, lv_has ls 6 [(0, .ref (q 6)), (1, .int x1), (3, .int x3)] → W p l e (headSpec wsX1_settle rm_X1_settle).room s m args below meth c H locs 0 0 (MQ below (va_Qi post (fun u' t => va_P D vwCl (wX q cI cJ cZ u') t.heap) (va_A (wX q cI cJ cZ u00) s.heap.size)) args s 0 0 (va_A (wX q cI cJ cZ u00) s.heap.size)) (F0 m 2 ls []) := by
    intro x1 n
    induction n with
    | zero =>
      intro x3 u H locs hw
      exact hw.elim
    | succ n ih =>
      intro x3 u H locs hw hP hD hS ls hl 
      unfold wp_X1_settle_L2 at hw
      refine lv_iload_n hx hb dX1_settle_2 rfl (lv_at hl 2 rfl) ?_
      refine lv_aload_n hx hb dX1_settle_3 rfl (lv_at hl 0 rfl) ?_
      refine va_get (D := D) (ci := 1) (v := .int (u.1 24 0)) (C := RX1) (T := TX1) (N := 10) hx hb hts hiX1 hown hK hP 6 rfl rfl 4 (by decide) hf63 (fun _ h9 => h9) rfl dX1_settle_4 ?_
      refine lv_icmp_ge (tgt := 116) hx hb dX1_settle_7 (by decide) (fun hc => ?_) (fun hc => ?_)
      · have hw := hw.1 hc
        refine lv_aload_n hx hb dX1_settle_116 rfl (lv_at hl 0 rfl) ?_
        refine va_get (D := D) (ci := 1) (v := .int (u.1 24 0)) (C := RX1) (T := TX1) (N := 10) hx hb hts hiX1 hown hK hP 6 rfl rfl 4 (by decide) hf63 (fun _ h9 => h9) rfl dX1_settle_117 ?_
        exact W.iret (v := u.1 24 0) hx hb hr (fun t ht hW => ⟨⟨u.1 24 0, u, rfl, hw, by show va_P D vwCl _ t.heap; rw [ht]; exact hP⟩, hS.F ht⟩) hS.2.2 dX1_settle_120
      · have hw := hw.2 hc
        refine lv_aload_n hx hb dX1_settle_10 rfl (lv_at hl 0 rfl) ?_
        refine va_get (D := D) (ci := 1) (v := .ref (q 29)) (C := RX1) (T := TX1) (N := 10) hx hb hts hiX1 hown hK hP 6 rfl rfl 3 (by decide) hf9 (fun _ h9 => h9) rfl dX1_settle_11 ?_
        refine lv_iload_n hx hb dX1_settle_14 rfl (lv_at hl 2 rfl) ?_
        obtain ⟨hin, hw⟩ := hw
        refine va_iald hx hb hK hP 29 0 rfl rfl hin dX1_settle_15 ?_
        refine lv_topi (fun y1 ey1 => ?_)
        have hw := hw y1 ey1
        refine lv_istore (lv' := [(4, .int y1), (0, .ref (q 6)), (1, .int x1), (3, .int x3)]) hx hb dX1_settle_16 hl (by decide) rfl (fun ls hl => ?_)
        refine lv_aload_n hx hb dX1_settle_18 rfl (lv_at hl 1 rfl) ?_
        refine va_get (D := D) (ci := 1) (v := .ref (q 2)) (C := RX1) (T := TX1) (N := 10) hx hb hts hiX1 hown hK hP 6 rfl rfl 0 (by decide) hf24 (fun _ h9 => h9) rfl dX1_settle_19 ?_
        refine lv_iload hx hb dX1_settle_22 (lv_at hl 0 rfl) ?_
        refine lv_aload_n hx hb dX1_settle_24 rfl (lv_at hl 1 rfl) ?_
        refine va_get (D := D) (ci := 1) (v := .ref (q 30)) (C := RX1) (T := TX1) (N := 10) hx hb hts hiX1 hown hK hP 6 rfl rfl 5 (by decide) hf15 (fun _ h9 => h9) rfl dX1_settle_25 ?_
        refine lv_iload hx hb dX1_settle_28 (lv_at hl 0 rfl) ?_
        obtain ⟨hin, hw⟩ := hw
        refine va_iald hx hb hK hP 30 0 rfl rfl hin dX1_settle_30 ?_
        refine vp_callSi (va_Run.run (va_runV (As := [.int y1, .int (u.1 15 y1.toNatClampNeg)]) (rest := []) ⟨hx, hb, hml, hown, hts⟩ (c_X5_choiceOf l D q cI cJ cZ u y1 (u.1 15 y1.toNatClampNeg) _ hw) (cwV 2 hts gX1_settle_X5_choiceOf rfl rfl rfl (by decide +kernel) ⟨Nat.le_of_ble_eq_true rfl, Nat.le_of_ble_eq_true rfl⟩) (pvR (va_recv hK hP (ci := 5) (q0 := 2) (q := (RX5, TX5, 6)) rfl rfl) hK hP hN) rfl rfl hl.1 rfl (lv_room (Nat.le_of_ble_eq_true rfl)) dX1_settle_31 ⟨Nat.zero_le _, Nat.zero_le _⟩)) (fun r2 hw => ?_)
        refine lv_istore (lv' := [(5, .int r2), (4, .int y1), (0, .ref (q 6)), (1, .int x1), (3, .int x3)]) hx hb dX1_settle_34 hl (by decide) rfl (fun ls hl => ?_)
        refine lv_aload_n hx hb dX1_settle_36 rfl (lv_at hl 2 rfl) ?_
        refine va_get (D := D) (ci := 1) (v := .ref (q 5)) (C := RX1) (T := TX1) (N := 10) hx hb hts hiX1 hown hK hP 6 rfl rfl 2 (by decide) hf32 (fun _ h9 => h9) rfl dX1_settle_37 ?_
        refine lv_iload hx hb dX1_settle_40 (lv_at hl 1 rfl) ?_
        refine lv_aload_n hx hb dX1_settle_42 rfl (lv_at hl 2 rfl) ?_
        refine va_get (D := D) (ci := 1) (v := .ref (q 5)) (C := RX1) (T := TX1) (N := 10) hx hb hts hiX1 hown hK hP 6 rfl rfl 2 (by decide) hf32 (fun _ h9 => h9) rfl dX1_settle_43 ?_
        refine lv_iload_n hx hb dX1_settle_46 rfl (lv_at hl 3 rfl) ?_
        refine lv_iload hx hb dX1_settle_47 (lv_at hl 1 rfl) ?_
        refine lv_iload hx hb dX1_settle_49 (lv_at hl 0 rfl) ?_
        refine vp_callSl (va_Run.run (va_runV (As := [.int x1, .int y1, .int r2]) (rest := [.int y1, .ref (q 5)]) ⟨hx, hb, hml, hown, hts⟩ (c_X2_brought l D q cI cJ cZ u x1 y1 r2 _ hw) (cwV 3 hts gX1_settle_X2_brought rfl rfl rfl (by decide +kernel) ⟨Nat.le_of_ble_eq_true rfl, Nat.le_of_ble_eq_true rfl⟩) (pvR (va_recv hK hP (ci := 2) (q0 := 5) (q := (RX2, TX2, 5)) rfl rfl) hK hP hN) rfl rfl hl.1 rfl (lv_room (Nat.le_of_ble_eq_true rfl)) dX1_settle_51 ⟨Nat.zero_le _, Nat.zero_le _⟩)) (fun r3 hw => ?_)
        refine lv_aload_n hx hb dX1_settle_54 rfl (lv_at hl 2 rfl) ?_
        refine va_get (D := D) (ci := 1) (v := .ref (q 3)) (C := RX1) (T := TX1) (N := 10) hx hb hts hiX1 hown hK hP 6 rfl rfl 1 (by decide) hf28 (fun _ h9 => h9) rfl dX1_settle_55 ?_
        refine va_getN (D := D) (ci := 3) (v := .long (u.2 6 0)) (C := RX3) (T := TX3) (N := 9) hx hb hts hiX3 hown hK hP 3 rfl rfl 4 (by decide) (va_Nw.use rfl (nf_RX1_36 hN)) (fun _ h9 => h9) rfl dX1_settle_58 ?_
        refine cMv (sh_wX q cI cJ cZ) (u := u) (va_runV (As := [.int y1, .long r3, .long (u.2 6 0)]) (rest := []) ⟨hx, hb, hml, hown, hts⟩ (c_X2_arrive l D q cI cJ cZ _ u y1 r3 (u.2 6 0) _ hw) (cwV 3 hts gX1_settle_X2_arrive rfl rfl rfl (by decide +kernel) ⟨Nat.le_of_ble_eq_true rfl, Nat.le_of_ble_eq_true rfl⟩) (pvM (va_recv hK hP (ci := 2) (q0 := 5) (q := (RX2, TX2, 5)) rfl rfl) hK hP hD hN) rfl rfl hl.1 rfl (lv_room (Nat.le_of_ble_eq_true rfl)) dX1_settle_61 ⟨Nat.zero_le _, Nat.zero_le _⟩) hA hD hS (fun u4 H locs hw hP hD hS => ?_)
        refine lv_aload_n hx hb dX1_settle_64 rfl (lv_at hl 2 rfl) ?_
        refine va_get (D := D) (ci := 1) (v := .ref (q 32)) (C := RX1) (T := TX1) (N := 10) hx hb hts hiX1 hown hK hP 6 rfl rfl 7 (by decide) hf21 (fun _ h9 => h9) rfl dX1_settle_65 ?_
        refine lv_iload_n hx hb dX1_settle_68 rfl (lv_at hl 4 rfl) ?_
        refine lv_iconst (v := 1) hx hb dX1_settle_69 (by decide) ?_
        refine lv_iadd hx hb dX1_settle_70 ?_
        refine lv_aload_n hx hb dX1_settle_71 rfl (lv_at hl 2 rfl) ?_
        refine va_get (D := D) (ci := 1) (v := .ref (q 32)) (C := RX1) (T := TX1) (N := 10) hx hb hts hiX1 hown hK hP 6 rfl rfl 7 (by decide) hf21 (fun _ h9 => h9) rfl dX1_settle_72 ?_
        refine lv_iload_n hx hb dX1_settle_75 rfl (lv_at hl 4 rfl) ?_
        obtain ⟨hin, hw⟩ := hw
        refine va_iald hx hb hK hP 32 0 rfl rfl hin dX1_settle_76 ?_
        refine lv_aload_n hx hb dX1_settle_77 rfl (lv_at hl 2 rfl) ?_
        refine va_get (D := D) (ci := 1) (v := .ref (q 5)) (C := RX1) (T := TX1) (N := 10) hx hb hts hiX1 hown hK hP 6 rfl rfl 2 (by decide) hf32 (fun _ h9 => h9) rfl dX1_settle_78 ?_
        refine lv_iload hx hb dX1_settle_81 (lv_at hl 1 rfl) ?_
        refine lv_iload hx hb dX1_settle_83 (lv_at hl 0 rfl) ?_
        refine vp_callSl (va_Run.run (va_runV (As := [.int y1, .int r2]) (rest := [.int (u4.1 17 x3.toNatClampNeg), .int (x3 + 1), .ref (q 32)]) ⟨hx, hb, hml, hown, hts⟩ (c_X2_foughtAt l D q cI cJ cZ u4 y1 r2 _ hw) (cwV 2 hts gX1_settle_X2_foughtAt rfl rfl rfl (by decide +kernel) ⟨Nat.le_of_ble_eq_true rfl, Nat.le_of_ble_eq_true rfl⟩) (pvR (va_recv hK hP (ci := 2) (q0 := 5) (q := (RX2, TX2, 5)) rfl rfl) hK hP hN) rfl rfl hl.1 rfl (lv_room (Nat.le_of_ble_eq_true rfl)) dX1_settle_85 ⟨Nat.zero_le _, Nat.zero_le _⟩)) (fun r5 hw => ?_)
        refine vp_callSi (va_Run.run (va_runS (As := [.long r5]) (rest := [.int (u4.1 17 x3.toNatClampNeg), .int (x3 + 1), .ref (q 32)]) ⟨hx, hb, hml, hown, hts⟩ (c_J13_bitCount_95d88 l r5 _ hw) (va_cwS 1 hts gX1_settle_J13_bitCount_95d88 rfl rfl rfl (by decide +kernel) ⟨Nat.le_of_ble_eq_true rfl, Nat.le_of_ble_eq_true rfl⟩) (psS hN) rfl rfl hl.1 rfl (lv_room (Nat.le_of_ble_eq_true rfl)) dX1_settle_88 ⟨Nat.zero_le _, Nat.zero_le _⟩)) (fun r6 hw => ?_)
        refine lv_iadd hx hb dX1_settle_91 ?_
        obtain ⟨hin, hw⟩ := hw
        refine sIast (w := wX q cI cJ cZ) hx hb hK hP hD hS 32 0 17 rfl rfl (wXa_32 q cI cJ cZ u4) hin dX1_settle_92 (fun u7 H locs eu7 hP hD hS => ?_)
        have hw := hw u7 eu7
        refine lv_aload_n hx hb dX1_settle_93 rfl (lv_at hl 2 rfl) ?_
        refine va_get (D := D) (ci := 1) (v := .ref (q 32)) (C := RX1) (T := TX1) (N := 10) hx hb hts hiX1 hown hK hP 6 rfl rfl 7 (by decide) hf21 (fun _ h9 => h9) rfl dX1_settle_94 ?_
        refine lv_iload_n hx hb dX1_settle_97 rfl (lv_at hl 4 rfl) ?_
        refine lv_iconst (v := 1) hx hb dX1_settle_98 (by decide) ?_
        refine lv_iadd hx hb dX1_settle_99 ?_
        obtain ⟨hin, hw⟩ := hw
        refine va_iald hx hb hK hP 32 0 rfl rfl hin dX1_settle_100 ?_
        refine lv_aload_n hx hb dX1_settle_101 rfl (lv_at hl 2 rfl) ?_
        refine va_get (D := D) (ci := 1) (v := .int (u7.1 25 0)) (C := RX1) (T := TX1) (N := 10) hx hb hts hiX1 hown hK hP 6 rfl rfl 8 (by decide) hf52 (fun _ h9 => h9) rfl dX1_settle_102 ?_
        refine lv_icmp_le (tgt := 110) hx hb dX1_settle_105 (by decide) (fun hc => ?_) (fun hc => ?_)
        · have hw := hw.1 hc
          obtain ⟨y8, ey8⟩ : ∃ z : Int32, z = x3 + 1 := ⟨_, rfl⟩
          have hw := hw y8 ey8
          refine lv_iinc (v := y8) (lv' := [(3, .int y8), (5, .int r2), (4, .int y1), (0, .ref (q 6)), (1, .int x1)]) hx hb dX1_settle_110 hl (k := 4) rfl (by rw [ey8]; rfl) (by decide) rfl (fun ls hl => ?_)
          refine lv_goto (tgt := 2) hx hb dX1_settle_113 (by decide) ?_
          exact ih y8 u7 _ _ hw hP hD hS ls (lv_sub hl [3, 4, 0] rfl)
        · have hw := hw.2 hc
          refine lv_iload_n hx hb dX1_settle_108 rfl (lv_at hl 4 rfl) ?_
          exact W.iret (v := x3) hx hb hr (fun t ht hW => ⟨⟨x3, u7, rfl, hw, by show va_P D vwCl _ t.heap; rw [ht]; exact hP⟩, hS.F ht⟩) hS.2.2 dX1_settle_109
  have hent := lg_entry_eq m ([.ref (q 6), .int x1, .int x2]) 6
  rw [← hargs] at hent
  rw [hent]
  have hl := lv_entry ([.ref (q 6), .int x1, .int x2]) (n := 6) (Nat.le_of_ble_eq_true rfl)
  generalize (lg_sl ([.ref (q 6), .int x1, .int x2]) ++ List.replicate (6 - (lg_sl ([.ref (q 6), .int x1, .int x2])).length) Slot.unset).toArray = ls at hl ⊢
  have hl : lv_has ls 6 [(0, .ref (q 6)), (1, .int x1), (2, .int x2)] := hl
  unfold wp_X1_settle at hw
  refine lv_iload_n hx hb dX1_settle_0 rfl (lv_at hl 2 rfl) ?_
  refine lv_istore_n (lv' := [(3, .int x2), (0, .ref (q 6)), (1, .int x1), (2, .int x2)]) hx hb dX1_settle_1 rfl hl (by decide) rfl (fun ls hl => ?_)
  obtain ⟨nn, hw⟩ := hw
  refine L2 x1 nn x2 u _ _ hw hP hD hS ls (lv_sub hl [1, 2, 0] rfl)
