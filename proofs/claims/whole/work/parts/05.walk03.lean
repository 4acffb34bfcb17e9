set_option maxHeartbeats 4000000 in
set_option maxRecDepth 100000 in
theorem c_X3_allIn (l : Launch) (D : va_G) (q : Nat → Nat) (cI cJ cZ : ClassId) (u : WU) (x1 : Int32) (x2 : Int64) (post : Int32 → Prop) (hw : wp_X3_allIn x1 x2 u post) : Met l yX3_allIn wsX3_allIn rm_X3_allIn (va_Pc [.ref (q 3), .int x1, .long x2] (RW D (ty3 cI cJ cZ) (wX q cI cJ cZ u))) (vp_Si post) 0 0 (fun _ => False) := by
  refine Met.ofW (cc := cX3_allIn) (maxL := 9) (ret := (some .int)) (by decide) rfl ?_
  intro p e s m args below meth c s₁ B hml hv
  obtain ⟨hargs, hP, hK, hN⟩ := hv
  have hx := B.exec
  have hb := B.bytes
  have hr := B.returns
  have hts := atoms_spec (ws := wsX3_allIn) B.pre
  have hown : s.vm.findClass RX3 = some m.cls := findClass_of_methodNamed B.named
  have hlocks := B.notSynchronized
  have hiX3 : ∀ w ∈ u_ws RX3 TX3 9, w ∈ wsX3_allIn := by decide +kernel
  have hf21 := hts (.fieldLink RX3 21 "TermsDesk$Joins" "order" "[I") (by decide +kernel)
  have hf24 := hts (.fieldLink RX3 24 "TermsDesk$Joins" "sorted" "[I") (by decide +kernel)
  have hf27 := hts (.fieldLink RX3 27 "TermsDesk$Joins" "begin" "[I") (by decide +kernel)
  have hf30 := hts (.fieldLink RX3 30 "TermsDesk$Joins" "end" "[I") (by decide +kernel)
  have hf9 := hts (.fieldLink RX3 9 "TermsDesk$Joins" "from" "[I") (by decide +kernel)
  have hi_RX8 := hts (.initialized RX8) (by decide +kernel)
  have hs_X8_holds := hts (.static yX8_holds) (by decide +kernel)
  have J96 : ∀ {K9 : Int32 → Int32 → Prop} (x2 : Int64) (x4 : Int32) (x5 : Int32) (_ : Unit), wp_X3_allIn_J96 x2 x4 x5 u post K9 → ∀ ls : Array Slot, lv_has ls 9 [(0, .ref (q 3)), (2, .long x2), (4, .int x4), (5, .int x5)] → (∀ (x4 : Int32) (x5 : Int32), K9 x4 x5 → ∀ ls : Array Slot, lv_has ls 9 [(0, .ref (q 3)), (2, .long x2), (4, .int x4), (5, .int x5)] → W p l e (headSpec wsX3_allIn rm_X3_allIn).room s m args below meth c s.heap [] 0 0 (MQ below (vp_Si post) args s 0 0 (fun _ => False)) (F0 m 9 ls [])) → W p l e (headSpec wsX3_allIn rm_X3_allIn).room s m args below meth c s.heap [] 0 0 (MQ below (vp_Si post) args s 0 0 (fun _ => False)) (F0 m 96 ls []) := by
    intro K9 x2 x4 x5 _ hw ls hl k9
    unfold wp_X3_allIn_J96 at hw
    obtain ⟨y17, ey17⟩ : ∃ z : Int32, z = x5 + (-1) := ⟨_, rfl⟩
    have hw := hw y17 ey17
    refine lv_iinc (v := y17) (lv' := [(5, .int y17), (0, .ref (q 3)), (2, .long x2), (4, .int x4)]) hx hb dX3_allIn_96 hl (k := 3) rfl (by rw [ey17]; rfl) (by decide) rfl (fun ls hl => ?_)
    refine lv_goto (tgt := 9) hx hb dX3_allIn_99 (by decide) ?_
    exact k9 x4 y17 hw ls (lv_sub hl [1, 2, 3, 0] rfl)
  have J90 : ∀ {K46 : Int32 → Int32 → Prop} (x2 : Int64) (x4 : Int32) (x5 : Int32) (x6 : Int32) (x7 : Int32) (_ : Unit), wp_X3_allIn_J90 x2 x4 x5 x6 x7 u post K46 → ∀ ls : Array Slot, lv_has ls 9 [(0, .ref (q 3)), (2, .long x2), (4, .int x4), (5, .int x5), (6, .int x6), (7, .int x7)] → (∀ (x4 : Int32) (x7 : Int32), K46 x4 x7 → ∀ ls : Array Slot, lv_has ls 9 [(0, .ref (q 3)), (2, .long x2), (4, .int x4), (5, .int x5), (6, .int x6), (7, .int x7)] → W p l e (headSpec wsX3_allIn rm_X3_allIn).room s m args below meth c s.heap [] 0 0 (MQ below (vp_Si post) args s 0 0 (fun _ => False)) (F0 m 46 ls [])) → W p l e (headSpec wsX3_allIn rm_X3_allIn).room s m args below meth c s.heap [] 0 0 (MQ below (vp_Si post) args s 0 0 (fun _ => False)) (F0 m 90 ls []) := by
    intro K46 x2 x4 x5 x6 x7 _ hw ls hl k46
    unfold wp_X3_allIn_J90 at hw
    obtain ⟨y16, ey16⟩ : ∃ z : Int32, z = x7 + 1 := ⟨_, rfl⟩
    have hw := hw y16 ey16
    refine lv_iinc (v := y16) (lv' := [(7, .int y16), (0, .ref (q 3)), (2, .long x2), (4, .int x4), (5, .int x5), (6, .int x6)]) hx hb dX3_allIn_90 hl (k := 5) rfl (by rw [ey16]; rfl) (by decide) rfl (fun ls hl => ?_)
    refine lv_goto (tgt := 46) hx hb dX3_allIn_93 (by decide) ?_
    exact k46 x4 y16 hw ls (lv_sub hl [1, 2, 3, 4, 5, 0] rfl)
  have L46 : ∀ {K96 : Int32 → Prop} (x2 : Int64) (x5 : Int32) (x6 : Int32) (n : Nat) (x4 : Int32) (x7 : Int32) (_ : Unit), wp_X3_allIn_L46 x2 x5 x6 u post K96 n x4 x7 → ∀ ls : Array Slot, lv_has ls 9 [(0, .ref (q 3)), (2, .long x2), (4, .int x4), (5, .int x5), (6, .int x6), (7, .int x7)] → (∀ (x4 : Int32), K96 x4 → ∀ ls : Array Slot, lv_has ls 9 [(0, .ref (q 3)), (2, .long x2), (4, .int x4), (5, .int x5)] → W p l e (headSpec wsX3_allIn rm_X3_allIn).room s m args below meth c s.heap [] 0 0 (MQ below (vp_Si post) args s 0 0 (fun _ => False)) (F0 m 96 ls [])) → W p l e (headSpec wsX3_allIn rm_X3_allIn).room s m args below meth c s.heap [] 0 0 (MQ below (vp_Si post) args s 0 0 (fun _ => False)) (F0 m 46 ls []) := by
    intro K96 x2 x5 x6 n
    induction n with
    | zero =>
      intro x4 x7 _ hw
      exact hw.elim
    | succ n ih =>
      intro x4 x7 _ hw ls hl k96
      unfold wp_X3_allIn_L46 at hw
      refine lv_iload hx hb dX3_allIn_46 (lv_at hl 5 rfl) ?_
      refine lv_aload_n hx hb dX3_allIn_48 rfl (lv_at hl 0 rfl) ?_
      refine va_get (D := D) (ci := 3) (v := .ref (q 22)) (C := RX3) (T := TX3) (N := 9) hx hb hts hiX3 hown hK hP 3 rfl rfl 8 (by decide) hf30 (fun _ h9 => h9) rfl dX3_allIn_49 ?_
      refine lv_iload hx hb dX3_allIn_52 (lv_at hl 4 rfl) ?_
      obtain ⟨hin, hw⟩ := hw
      refine va_iald hx hb hK hP 22 0 rfl rfl hin dX3_allIn_54 ?_
      refine lv_icmp_ge (tgt := 96) hx hb dX3_allIn_55 (by decide) (fun hc => ?_) (fun hc => ?_)
      · have hw := hw.1 hc
        exact k96 x4 hw ls (lv_sub hl [0, 1, 2, 3] rfl)
      · have hw := hw.2 hc
        refine lv_aload_n hx hb dX3_allIn_58 rfl (lv_at hl 0 rfl) ?_
        refine va_get (D := D) (ci := 3) (v := .ref (q 20)) (C := RX3) (T := TX3) (N := 9) hx hb hts hiX3 hown hK hP 3 rfl rfl 6 (by decide) hf24 (fun _ h9 => h9) rfl dX3_allIn_59 ?_
        refine lv_iload hx hb dX3_allIn_62 (lv_at hl 5 rfl) ?_
        obtain ⟨hin, hw⟩ := hw
        refine va_iald hx hb hK hP 20 0 rfl rfl hin dX3_allIn_64 ?_
        refine lv_topi (fun y9 ey9 => ?_)
        have hw := hw y9 ey9
        refine lv_istore (lv' := [(8, .int y9), (0, .ref (q 3)), (2, .long x2), (4, .int x4), (5, .int x5), (6, .int x6), (7, .int x7)]) hx hb dX3_allIn_65 hl (by decide) rfl (fun ls hl => ?_)
        refine lv_lload_n hx hb dX3_allIn_67 rfl (lv_at hl 2 rfl) ?_
        refine lv_iload hx hb dX3_allIn_68 (lv_at hl 0 rfl) ?_
        refine vp_callSi (va_Run.run (va_runSN (As := [.long x2, .int y9]) (rest := []) ⟨hx, hb, hml, hown, hts⟩ (c_X8_holds l x2 y9 _ hw) ⟨va_cnB 2 hts ggX3_allIn_X8_holds rfl rfl rfl (nm_RX3_45 hN) hi_RX8 (by decide +kernel) ⟨Nat.le_of_ble_eq_true rfl, Nat.le_of_ble_eq_true rfl⟩, hs_X8_holds, trivial⟩ (psS hN) rfl rfl hl.1 rfl (lv_room (Nat.le_of_ble_eq_true rfl)) dX3_allIn_70 ⟨Nat.zero_le _, Nat.zero_le _⟩)) (fun r10 hw => ?_)
        refine lv_if_eq (tgt := 90) hx hb dX3_allIn_73 (by decide) (fun hc => ?_) (fun hc => ?_)
        · have hw := hw.1 hc
          refine J90 x2 x4 x5 x6 x7 () hw ls (lv_sub hl [1, 2, 3, 4, 5, 6] rfl) (fun y11 y12 hw ls hl => ?_)
          exact ih y11 y12 () hw ls (lv_sub hl [0, 1, 2, 3, 4, 5] rfl) k96
        · have hw := hw.2 hc
          refine lv_iload hx hb dX3_allIn_76 (lv_at hl 3 rfl) ?_
          refine lv_iconst (v := 1) hx hb dX3_allIn_78 (by decide) ?_
          refine lv_aload_n hx hb dX3_allIn_79 rfl (lv_at hl 1 rfl) ?_
          refine va_get (D := D) (ci := 3) (v := .ref (q 16)) (C := RX3) (T := TX3) (N := 9) hx hb hts hiX3 hown hK hP 3 rfl rfl 0 (by decide) hf9 (fun _ h9 => h9) rfl dX3_allIn_80 ?_
          refine lv_iload hx hb dX3_allIn_83 (lv_at hl 0 rfl) ?_
          obtain ⟨hin, hw⟩ := hw
          refine va_iald hx hb hK hP 16 0 rfl rfl hin dX3_allIn_85 ?_
          refine lv_ishl hx hb dX3_allIn_86 ?_
          refine lv_ior hx hb dX3_allIn_87 ?_
          refine lv_topi (fun y13 ey13 => ?_)
          have hw := hw y13 ey13
          refine lv_istore (lv' := [(4, .int y13), (8, .int y9), (0, .ref (q 3)), (2, .long x2), (5, .int x5), (6, .int x6), (7, .int x7)]) hx hb dX3_allIn_88 hl (by decide) rfl (fun ls hl => ?_)
          refine J90 x2 y13 x5 x6 x7 () hw ls (lv_sub hl [2, 3, 0, 4, 5, 6] rfl) (fun y14 y15 hw ls hl => ?_)
          exact ih y14 y15 () hw ls (lv_sub hl [0, 1, 2, 3, 4, 5] rfl) k96
  have L9 : ∀ (x2 : Int64) (n : Nat) (x4 : Int32) (x5 : Int32) (_ : Unit), wp_X3_allIn_L9 x2 u post n x4 x5 → ∀ ls : Array Slot, lv_has ls 9 [(0, .ref (q 3)), (2, .long x2), (4, .int x4), (5, .int x5)] → W p l e (headSpec wsX3_allIn rm_X3_allIn).room s m args below meth c s.heap [] 0 0 (MQ below (vp_Si post) args s 0 0 (fun _ => False)) (F0 m 9 ls []) := by
    intro x2 n
    induction n with
    | zero =>
      intro x4 x5 _ hw
      exact hw.elim
    | succ n ih =>
      intro x4 x5 _ hw ls hl 
      unfold wp_X3_allIn_L9 at hw
      refine lv_iload hx hb dX3_allIn_9 (lv_at hl 3 rfl) ?_
      refine lv_if_lt (tgt := 102) hx hb dX3_allIn_11 (by decide) (fun hc => ?_) (fun hc => ?_)
      · have hw := hw.1 hc
        refine lv_iload hx hb dX3_allIn_102 (lv_at hl 2 rfl) ?_
        exact W.iret (v := x4) hx hb hr (fun t ht hW => ⟨x4, rfl, hw, ht⟩) (fun _ h => by cases h) dX3_allIn_104
      · have hw := hw.2 hc
        refine lv_aload_n hx hb dX3_allIn_14 rfl (lv_at hl 0 rfl) ?_
        refine va_get (D := D) (ci := 3) (v := .ref (q 19)) (C := RX3) (T := TX3) (N := 9) hx hb hts hiX3 hown hK hP 3 rfl rfl 5 (by decide) hf21 (fun _ h9 => h9) rfl dX3_allIn_15 ?_
        refine lv_iload hx hb dX3_allIn_18 (lv_at hl 3 rfl) ?_
        obtain ⟨hin, hw⟩ := hw
        refine va_iald hx hb hK hP 19 0 rfl rfl hin dX3_allIn_20 ?_
        refine lv_topi (fun y1 ey1 => ?_)
        have hw := hw y1 ey1
        refine lv_istore (lv' := [(6, .int y1), (0, .ref (q 3)), (2, .long x2), (4, .int x4), (5, .int x5)]) hx hb dX3_allIn_21 hl (by decide) rfl (fun ls hl => ?_)
        refine lv_iload hx hb dX3_allIn_23 (lv_at hl 3 rfl) ?_
        refine lv_i2l (v := x4.toInt64) hx hb dX3_allIn_25 rfl ?_
        refine lv_iload hx hb dX3_allIn_26 (lv_at hl 0 rfl) ?_
        refine vp_callSi (va_Run.run (va_runSN (As := [.long x4.toInt64, .int y1]) (rest := []) ⟨hx, hb, hml, hown, hts⟩ (c_X8_holds l x4.toInt64 y1 _ hw) ⟨va_cnB 2 hts ggX3_allIn_X8_holds rfl rfl rfl (nm_RX3_45 hN) hi_RX8 (by decide +kernel) ⟨Nat.le_of_ble_eq_true rfl, Nat.le_of_ble_eq_true rfl⟩, hs_X8_holds, trivial⟩ (psS hN) rfl rfl hl.1 rfl (lv_room (Nat.le_of_ble_eq_true rfl)) dX3_allIn_28 ⟨Nat.zero_le _, Nat.zero_le _⟩)) (fun r2 hw => ?_)
        refine lv_if_ne (tgt := 37) hx hb dX3_allIn_31 (by decide) (fun hc => ?_) (fun hc => ?_)
        · have hw := hw.1 hc
          refine lv_aload_n hx hb dX3_allIn_37 rfl (lv_at hl 1 rfl) ?_
          refine va_get (D := D) (ci := 3) (v := .ref (q 21)) (C := RX3) (T := TX3) (N := 9) hx hb hts hiX3 hown hK hP 3 rfl rfl 7 (by decide) hf27 (fun _ h9 => h9) rfl dX3_allIn_38 ?_
          refine lv_iload hx hb dX3_allIn_41 (lv_at hl 0 rfl) ?_
          obtain ⟨hin, hw⟩ := hw
          refine va_iald hx hb hK hP 21 0 rfl rfl hin dX3_allIn_43 ?_
          refine lv_topi (fun y3 ey3 => ?_)
          have hw := hw y3 ey3
          refine lv_istore (lv' := [(7, .int y3), (6, .int y1), (0, .ref (q 3)), (2, .long x2), (4, .int x4), (5, .int x5)]) hx hb dX3_allIn_44 hl (by decide) rfl (fun ls hl => ?_)
          obtain ⟨nn, hw⟩ := hw
          refine L46 x2 x5 y1 nn x4 y3 () hw ls (lv_sub hl [2, 3, 4, 5, 1, 0] rfl) (fun y4 hw ls hl => ?_)
          refine J96 x2 y4 x5 () hw ls (lv_sub hl [0, 1, 2, 3] rfl) (fun y5 y6 hw ls hl => ?_)
          exact ih y5 y6 () hw ls (lv_sub hl [0, 1, 2, 3] rfl)
        · have hw := hw.2 hc
          refine lv_goto (tgt := 96) hx hb dX3_allIn_34 (by decide) ?_
          refine J96 x2 x4 x5 () hw ls (lv_sub hl [1, 2, 3, 4] rfl) (fun y7 y8 hw ls hl => ?_)
          exact ih y7 y8 () hw ls (lv_sub hl [0, 1, 2, 3] rfl)
  have hent := lg_entry_eq m ([.ref (q 3), .int x1, .long x2]) 9
  rw [← hargs] at hent
  rw [hent]
  have hl := lv_entry ([.ref (q 3), .int x1, .long x2]) (n := 9) (Nat.le_of_ble_eq_true rfl)
  generalize (lg_sl ([.ref (q 3), .int x1, .long x2]) ++ List.replicate (9 - (lg_sl ([.ref (q 3), .int x1, .long x2])).length) Slot.unset).toArray = ls at hl ⊢
  have hl : lv_has ls 9 [(0, .ref (q 3)), (1, .int x1), (2, .long x2)] := hl
  unfold wp_X3_allIn at hw
  refine lv_iconst (v := 1) hx hb dX3_allIn_0 (by decide) ?_
  refine lv_iload_n hx hb dX3_allIn_1 rfl (lv_at hl 1 rfl) ?_
  refine lv_ishl hx hb dX3_allIn_2 ?_
  refine lv_topi (fun y18 ey18 => ?_)
  have hw := hw y18 ey18
  refine lv_istore (lv' := [(4, .int y18), (0, .ref (q 3)), (1, .int x1), (2, .long x2)]) hx hb dX3_allIn_3 hl (by decide) rfl (fun ls hl => ?_)
  refine lv_bipush (v := 23) hx hb dX3_allIn_5 (by decide) ?_
  refine lv_istore (lv' := [(5, .int 23), (4, .int y18), (0, .ref (q 3)), (1, .int x1), (2, .long x2)]) hx hb dX3_allIn_7 hl (by decide) rfl (fun ls hl => ?_)
  obtain ⟨nn, hw⟩ := hw
  refine L9 x2 nn y18 23 () hw ls (lv_sub hl [2, 4, 1, 0] rfl)
set_option maxHeartbeats 4000000 in
set_option maxRecDepth 100000 in
theorem c_X3_sortJoins (l : Launch) (D : va_G) (q : Nat → Nat) (cI cJ cZ : ClassId) (sz : Nat) (u : WU) (post : WU → Prop) (hw : wp_X3_sortJoins u post) : Met l yX3_sortJoins wsX3_sortJoins rm_X3_sortJoins (va_Pc [.ref (q 3)] (MW D (ty3 cI cJ cZ) (wX q cI cJ cZ u) sz)) (va_Qv post (fun u' t => va_P D vwCl (wX q cI cJ cZ u') t.heap) (va_A (wX q cI cJ cZ u00) sz)) 0 0 (va_A (wX q cI cJ cZ u00) sz) := by
  refine Met.ofW (cc := cX3_sortJoins) (maxL := 4) (ret := none) (by decide) rfl ?_
  intro p e s m args below meth c s₁ B hml hv
  obtain ⟨hargs, hsz, hP, hK, hD0, hN⟩ := hv
  have hx := B.exec
  have hb := B.bytes
  have hr := B.returns
  have hts := atoms_spec (ws := wsX3_sortJoins) B.pre
  have hown : s.vm.findClass RX3 = some m.cls := findClass_of_methodNamed B.named
  have hlocks := B.notSynchronized
  subst hsz
  have hD := shw_self (sz := s.heap.size) (sh_wX q cI cJ cZ) hD0
  have hA : ∀ a : Nat, s.heap.size ≤ a → va_A (wX q cI cJ cZ u00) s.heap.size a := fun _ h => Or.inr h
  have hS : va_S (va_A (wX q cI cJ cZ u00) s.heap.size) s.heap s.heap [] := va_S.rf
  have hiX3 : ∀ w ∈ u_ws RX3 TX3 9, w ∈ wsX3_sortJoins := by decide +kernel
  have hf15 := hts (.fieldLink RX3 15 "TermsDesk$Joins" "to" "[I") (by decide +kernel)
  have hf24 := hts (.fieldLink RX3 24 "TermsDesk$Joins" "sorted" "[I") (by decide +kernel)
  have hf27 := hts (.fieldLink RX3 27 "TermsDesk$Joins" "begin" "[I") (by decide +kernel)
  have hf30 := hts (.fieldLink RX3 30 "TermsDesk$Joins" "end" "[I") (by decide +kernel)
  have hf33 := hts (.fieldLink RX3 33 "TermsDesk$Joins" "told" "I") (by decide +kernel)
  have hf41 := hts (.fieldLink RX3 41 "TermsDesk$Joins" "there" "J") (by decide +kernel)
  have hi_RX8 := hts (.initialized RX8) (by decide +kernel)
  have hs_X8_holds := hts (.static yX8_holds) (by decide +kernel)
  have J64 : ∀ {K19 : Int32 → Int32 → WU → Prop} (x1 : Int32) (x2 : Int32) (x3 : Int32) (u : WU) (H : Heap) (locs : List Loc), wp_X3_sortJoins_J64 x1 x2 x3 u post K19 → va_P D vwCl (wX q cI cJ cZ u) H → va_D (va_A (wX q cI cJ cZ u00) s.heap.size) (wX q cI cJ cZ u) → va_S (va_A (wX q cI cJ cZ u00) s.heap.size) s.heap H locs → ∀ ls : Array Slot, lv_has ls 4 [(0, .ref (q 3)), (1, .int x1), (2, .int x2), (3, .int x3)] → (∀ (x1 : Int32) (x3 : Int32) (u : WU) (H : Heap) (locs : List Loc), K19 x1 x3 u → va_P D vwCl (wX q cI cJ cZ u) H → va_D (va_A (wX q cI cJ cZ u00) s.heap.size) (wX q cI cJ cZ u) → va_S (va_A (wX q cI cJ cZ u00) s.heap.size) s.heap H locs → ∀ ls : Array Slot, lv_has ls 4 [(0, .ref (q 3)), (1, .int x1), (2, .int x2), (3, .int x3)] → W p l e (headSpec wsX3_sortJoins rm_X3_sortJoins).room s m args below meth c H locs 0 0 (MQ below (va_Qv post (fun u' t => va_P D vwCl (wX q cI cJ cZ u') t.heap) (va_A (wX q cI cJ cZ u00) s.heap.size)) args s 0 0 (va_A (wX q cI cJ cZ u00) s.heap.size)) (F0 m 19 ls [])) → W p l e (headSpec wsX3_sortJoins rm_X3_sortJoins).room s m args below meth c H locs 0 0 (MQ below (va_Qv post (fun u' t => va_P D vwCl (wX q cI cJ cZ u') t.heap) (va_A (wX q cI cJ cZ u00) s.heap.size)) args s 0 0 (va_A (wX q cI cJ cZ u00) s.heap.size)) (F0 m 64 ls []) := by
    intro K19 x1 x2 x3 u H locs hw hP hD hS ls hl k19
    unfold wp_X3_sortJoins_J64 at hw
    obtain ⟨y21, ey21⟩ : ∃ z : Int32, z = x3 + 1 := ⟨_, rfl⟩
    have hw := hw y21 ey21
    refine lv_iinc (v := y21) (lv' := [(3, .int y21), (0, .ref (q 3)), (1, .int x1), (2, .int x2)]) hx hb dX3_sortJoins_64 hl (k := 3) rfl (by rw [ey21]; rfl) (by decide) rfl (fun ls hl => ?_)
    refine lv_goto (tgt := 19) hx hb dX3_sortJoins_67 (by decide) ?_
    exact k19 x1 y21 u _ _ hw hP hD hS ls (lv_sub hl [1, 2, 3, 0] rfl)
  have L19 : ∀ {K70 : Int32 → WU → Prop} (x2 : Int32) (n : Nat) (x1 : Int32) (x3 : Int32) (u : WU) (H : Heap) (locs : List Loc), wp_X3_sortJoins_L19 x2 post K70 n x1 x3 u → va_P D vwCl (wX q cI cJ cZ u) H → va_D (va_A (wX q cI cJ cZ u00) s.heap.size) (wX q cI cJ cZ u) → va_S (va_A (wX q cI cJ cZ u00) s.heap.size) s.heap H locs → ∀ ls : Array Slot, lv_has ls 4 [(0, .ref (q 3)), (1, .int x1), (2, .int x2), (3, .int x3)] → (∀ (x1 : Int32) (u : WU) (H : Heap) (locs : List Loc), K70 x1 u → va_P D vwCl (wX q cI cJ cZ u) H → va_D (va_A (wX q cI cJ cZ u00) s.heap.size) (wX q cI cJ cZ u) → va_S (va_A (wX q cI cJ cZ u00) s.heap.size) s.heap H locs → ∀ ls : Array Slot, lv_has ls 4 [(0, .ref (q 3)), (1, .int x1), (2, .int x2)] → W p l e (headSpec wsX3_sortJoins rm_X3_sortJoins).room s m args below meth c H locs 0 0 (MQ below (va_Qv post (fun u' t => va_P D vwCl (wX q cI cJ cZ u') t.heap) (va_A (wX q cI cJ cZ u00) s.heap.size)) args s 0 0 (va_A (wX q cI cJ cZ u00) s.heap.size)) (F0 m 70 ls [])) → W p l e (headSpec wsX3_sortJoins rm_X3_sortJoins).room s m args below meth c H locs 0 0 (MQ below (va_Qv post (fun u' t => va_P D vwCl (wX q cI cJ cZ u') t.heap) (va_A (wX q cI cJ cZ u00) s.heap.size)) args s 0 0 (va_A (wX q cI cJ cZ u00) s.heap.size)) (F0 m 19 ls []) := by
    intro K70 x2 n
    induction n with
    | zero =>
      intro x1 x3 u H locs hw
      exact hw.elim
    | succ n ih =>
      intro x1 x3 u H locs hw hP hD hS ls hl k70
      unfold wp_X3_sortJoins_L19 at hw
      refine lv_iload_n hx hb dX3_sortJoins_19 rfl (lv_at hl 3 rfl) ?_
      refine lv_aload_n hx hb dX3_sortJoins_20 rfl (lv_at hl 0 rfl) ?_
      refine va_get (D := D) (ci := 3) (v := .int (u.1 22 0)) (C := RX3) (T := TX3) (N := 9) hx hb hts hiX3 hown hK hP 3 rfl rfl 3 (by decide) hf33 (fun _ h9 => h9) rfl dX3_sortJoins_21 ?_
      refine lv_icmp_ge (tgt := 70) hx hb dX3_sortJoins_24 (by decide) (fun hc => ?_) (fun hc => ?_)
      · have hw := hw.1 hc
        exact k70 x1 u _ _ hw hP hD hS ls (lv_sub hl [0, 1, 2] rfl)
      · have hw := hw.2 hc
        refine lv_aload_n hx hb dX3_sortJoins_27 rfl (lv_at hl 0 rfl) ?_
        refine va_get (D := D) (ci := 3) (v := .ref (q 17)) (C := RX3) (T := TX3) (N := 9) hx hb hts hiX3 hown hK hP 3 rfl rfl 1 (by decide) hf15 (fun _ h9 => h9) rfl dX3_sortJoins_28 ?_
        refine lv_iload_n hx hb dX3_sortJoins_31 rfl (lv_at hl 3 rfl) ?_
        obtain ⟨hin, hw⟩ := hw
        refine va_iald hx hb hK hP 17 0 rfl rfl hin dX3_sortJoins_32 ?_
        refine lv_iload_n hx hb dX3_sortJoins_33 rfl (lv_at hl 2 rfl) ?_
        refine lv_icmp_ne (tgt := 64) hx hb dX3_sortJoins_34 (by decide) (fun hc => ?_) (fun hc => ?_)
        · have hw := hw.1 hc
          refine J64 x1 x2 x3 u _ _ hw hP hD hS ls (lv_sub hl [0, 1, 2, 3] rfl) (fun y6 y7 u8 H locs hw hP hD hS ls hl => ?_)
          exact ih y6 y7 u8 _ _ hw hP hD hS ls (lv_sub hl [0, 1, 2, 3] rfl) k70
        · have hw := hw.2 hc
          refine lv_aload_n hx hb dX3_sortJoins_37 rfl (lv_at hl 0 rfl) ?_
          refine va_get (D := D) (ci := 3) (v := .long (u.2 6 0)) (C := RX3) (T := TX3) (N := 9) hx hb hts hiX3 hown hK hP 3 rfl rfl 4 (by decide) hf41 (fun _ h9 => h9) rfl dX3_sortJoins_38 ?_
          refine lv_iload_n hx hb dX3_sortJoins_41 rfl (lv_at hl 3 rfl) ?_
          refine vp_callSi (va_Run.run (va_runSN (As := [.long (u.2 6 0), .int x3]) (rest := []) ⟨hx, hb, hml, hown, hts⟩ (c_X8_holds l (u.2 6 0) x3 _ hw) ⟨va_cnB 2 hts ggX3_sortJoins_X8_holds rfl rfl rfl (nm_RX3_45 hN) hi_RX8 (by decide +kernel) ⟨Nat.le_of_ble_eq_true rfl, Nat.le_of_ble_eq_true rfl⟩, hs_X8_holds, trivial⟩ (psS hN) rfl rfl hl.1 rfl (lv_room (Nat.le_of_ble_eq_true rfl)) dX3_sortJoins_42 ⟨Nat.zero_le _, Nat.zero_le _⟩)) (fun r9 hw => ?_)
          refine lv_if_eq (tgt := 64) hx hb dX3_sortJoins_45 (by decide) (fun hc => ?_) (fun hc => ?_)
          · have hw := hw.1 hc
            refine J64 x1 x2 x3 u _ _ hw hP hD hS ls (lv_sub hl [0, 1, 2, 3] rfl) (fun y10 y11 u12 H locs hw hP hD hS ls hl => ?_)
            exact ih y10 y11 u12 _ _ hw hP hD hS ls (lv_sub hl [0, 1, 2, 3] rfl) k70
          · have hw := hw.2 hc
            refine lv_iload_n hx hb dX3_sortJoins_48 rfl (lv_at hl 1 rfl) ?_
            refine lv_bipush (v := 40) hx hb dX3_sortJoins_49 (by decide) ?_
            refine lv_icmp_ge (tgt := 64) hx hb dX3_sortJoins_51 (by decide) (fun hc => ?_) (fun hc => ?_)
            · have hw := hw.1 hc
              refine J64 x1 x2 x3 u _ _ hw hP hD hS ls (lv_sub hl [0, 1, 2, 3] rfl) (fun y13 y14 u15 H locs hw hP hD hS ls hl => ?_)
              exact ih y13 y14 u15 _ _ hw hP hD hS ls (lv_sub hl [0, 1, 2, 3] rfl) k70
            · have hw := hw.2 hc
              refine lv_aload_n hx hb dX3_sortJoins_54 rfl (lv_at hl 0 rfl) ?_
              refine va_get (D := D) (ci := 3) (v := .ref (q 20)) (C := RX3) (T := TX3) (N := 9) hx hb hts hiX3 hown hK hP 3 rfl rfl 6 (by decide) hf24 (fun _ h9 => h9) rfl dX3_sortJoins_55 ?_
              refine lv_iload_n hx hb dX3_sortJoins_58 rfl (lv_at hl 1 rfl) ?_
              refine lv_iload_n hx hb dX3_sortJoins_59 rfl (lv_at hl 3 rfl) ?_
              obtain ⟨hin, hw⟩ := hw
              refine sIast (w := wX q cI cJ cZ) hx hb hK hP hD hS 20 0 7 rfl rfl (wXa_20 q cI cJ cZ u) hin dX3_sortJoins_60 (fun u16 H locs eu16 hP hD hS => ?_)
              have hw := hw u16 eu16
              obtain ⟨y17, ey17⟩ : ∃ z : Int32, z = x1 + 1 := ⟨_, rfl⟩
              have hw := hw y17 ey17
              refine lv_iinc (v := y17) (lv' := [(1, .int y17), (0, .ref (q 3)), (2, .int x2), (3, .int x3)]) hx hb dX3_sortJoins_61 hl (k := 1) rfl (by rw [ey17]; rfl) (by decide) rfl (fun ls hl => ?_)
              refine J64 y17 x2 x3 u16 _ _ hw hP hD hS ls (lv_sub hl [1, 0, 2, 3] rfl) (fun y18 y19 u20 H locs hw hP hD hS ls hl => ?_)
              exact ih y18 y19 u20 _ _ hw hP hD hS ls (lv_sub hl [0, 1, 2, 3] rfl) k70
  have L4 : ∀ (n : Nat) (x1 : Int32) (x2 : Int32) (u : WU) (H : Heap) (locs : List Loc), wp_X3_sortJoins_L4 post n x1 x2 u → va_P D vwCl (wX q cI cJ cZ u) H → va_D (va_A (wX q cI cJ cZ u00) s.heap.size) (wX q cI cJ cZ u) → va_S (va_A (wX q cI cJ cZ u00) s.heap.size) s.heap H locs → ∀ ls : Array Slot, lv_has ls 4 [(0, .ref (q 3)), (1, .int x1), (2, .int x2)] → W p l e (headSpec wsX3_sortJoins rm_X3_sortJoins).room s m args below meth c H locs 0 0 (MQ below (va_Qv post (fun u' t => va_P D vwCl (wX q cI cJ cZ u') t.heap) (va_A (wX q cI cJ cZ u00) s.heap.size)) args s 0 0 (va_A (wX q cI cJ cZ u00) s.heap.size)) (F0 m 4 ls []) := by
    intro  n
    induction n with
    | zero =>
      intro x1 x2 u H locs hw
      exact hw.elim
    | succ n ih =>
      intro x1 x2 u H locs hw hP hD hS ls hl 
      unfold wp_X3_sortJoins_L4 at hw
      refine lv_iload_n hx hb dX3_sortJoins_4 rfl (lv_at hl 2 rfl) ?_
      refine lv_bipush (v := 24) hx hb dX3_sortJoins_5 (by decide) ?_
      refine lv_icmp_ge (tgt := 83) hx hb dX3_sortJoins_7 (by decide) (fun hc => ?_) (fun hc => ?_)
      · have hw := hw.1 hc
        exact W.vret hx hb hr (fun t ht hW => ⟨⟨u, rfl, hw, by show va_P D vwCl _ t.heap; rw [ht]; exact hP⟩, hS.F ht⟩) hS.2.2 dX3_sortJoins_83
      · have hw := hw.2 hc
        refine lv_aload_n hx hb dX3_sortJoins_10 rfl (lv_at hl 0 rfl) ?_
        refine va_get (D := D) (ci := 3) (v := .ref (q 21)) (C := RX3) (T := TX3) (N := 9) hx hb hts hiX3 hown hK hP 3 rfl rfl 7 (by decide) hf27 (fun _ h9 => h9) rfl dX3_sortJoins_11 ?_
        refine lv_iload_n hx hb dX3_sortJoins_14 rfl (lv_at hl 2 rfl) ?_
        refine lv_iload_n hx hb dX3_sortJoins_15 rfl (lv_at hl 1 rfl) ?_
        obtain ⟨hin, hw⟩ := hw
        refine sIast (w := wX q cI cJ cZ) hx hb hK hP hD hS 21 0 8 rfl rfl (wXa_21 q cI cJ cZ u) hin dX3_sortJoins_16 (fun u1 H locs eu1 hP hD hS => ?_)
        have hw := hw u1 eu1
        refine lv_iconst (v := 0) hx hb dX3_sortJoins_17 (by decide) ?_
        refine lv_istore_n (lv' := [(3, .int 0), (0, .ref (q 3)), (1, .int x1), (2, .int x2)]) hx hb dX3_sortJoins_18 rfl hl (by decide) rfl (fun ls hl => ?_)
        obtain ⟨nn, hw⟩ := hw
        refine L19 x2 nn x1 0 u1 _ _ hw hP hD hS ls (lv_sub hl [1, 2, 3, 0] rfl) (fun y2 u3 H locs hw hP hD hS ls hl => ?_)
        refine lv_aload_n hx hb dX3_sortJoins_70 rfl (lv_at hl 0 rfl) ?_
        refine va_get (D := D) (ci := 3) (v := .ref (q 22)) (C := RX3) (T := TX3) (N := 9) hx hb hts hiX3 hown hK hP 3 rfl rfl 8 (by decide) hf30 (fun _ h9 => h9) rfl dX3_sortJoins_71 ?_
        refine lv_iload_n hx hb dX3_sortJoins_74 rfl (lv_at hl 2 rfl) ?_
        refine lv_iload_n hx hb dX3_sortJoins_75 rfl (lv_at hl 1 rfl) ?_
        obtain ⟨hin, hw⟩ := hw
        refine sIast (w := wX q cI cJ cZ) hx hb hK hP hD hS 22 0 9 rfl rfl (wXa_22 q cI cJ cZ u3) hin dX3_sortJoins_76 (fun u4 H locs eu4 hP hD hS => ?_)
        have hw := hw u4 eu4
        obtain ⟨y5, ey5⟩ : ∃ z : Int32, z = x2 + 1 := ⟨_, rfl⟩
        have hw := hw y5 ey5
        refine lv_iinc (v := y5) (lv' := [(2, .int y5), (0, .ref (q 3)), (1, .int y2)]) hx hb dX3_sortJoins_77 hl (k := 2) rfl (by rw [ey5]; rfl) (by decide) rfl (fun ls hl => ?_)
        refine lv_goto (tgt := 4) hx hb dX3_sortJoins_80 (by decide) ?_
        exact ih y2 y5 u4 _ _ hw hP hD hS ls (lv_sub hl [1, 2, 0] rfl)
  have hent := lg_entry_eq m ([.ref (q 3)]) 4
  rw [← hargs] at hent
  rw [hent]
  have hl := lv_entry ([.ref (q 3)]) (n := 4) (Nat.le_of_ble_eq_true rfl)
  generalize (lg_sl ([.ref (q 3)]) ++ List.replicate (4 - (lg_sl ([.ref (q 3)])).length) Slot.unset).toArray = ls at hl ⊢
  have hl : lv_has ls 4 [(0, .ref (q 3))] := hl
  unfold wp_X3_sortJoins at hw
  refine lv_iconst (v := 0) hx hb dX3_sortJoins_0 (by decide) ?_
  refine lv_istore_n (lv' := [(1, .int 0), (0, .ref (q 3))]) hx hb dX3_sortJoins_1 rfl hl (by decide) rfl (fun ls hl => ?_)
  refine lv_iconst (v := 0) hx hb dX3_sortJoins_2 (by decide) ?_
  refine lv_istore_n (lv' := [(2, .int 0), (1, .int 0), (0, .ref (q 3))]) hx hb dX3_sortJoins_3 rfl hl (by decide) rfl (fun ls hl => ?_)
  obtain ⟨nn, hw⟩ := hw
  refine L4 nn 0 0 u _ _ hw hP hD hS ls (lv_sub hl [2, 1, 0] rfl)
set_option maxHeartbeats 4000000 in
set_option maxRecDepth 100000 in
theorem c_X3_directlyIn (l : Launch) (D : va_G) (q : Nat → Nat) (cI cJ cZ : ClassId) (u : WU) (x1 : Int32) (post : Int32 → Prop) (hw : wp_X3_directlyIn x1 u post) : Met l yX3_directlyIn wsX3_directlyIn rm_X3_directlyIn (va_Pc [.ref (q 3), .int x1] (RW D (ty3 cI cJ cZ) (wX q cI cJ cZ u))) (vp_Si post) 0 0 (fun _ => False) := by
  refine Met.ofW (cc := cX3_directlyIn) (maxL := 4) (ret := (some .int)) (by decide) rfl ?_
  intro p e s m args below meth c s₁ B hml hv
  obtain ⟨hargs, hP, hK, hN⟩ := hv
  have hx := B.exec
  have hb := B.bytes
  have hr := B.returns
  have hts := atoms_spec (ws := wsX3_directlyIn) B.pre
  have hown : s.vm.findClass RX3 = some m.cls := findClass_of_methodNamed B.named
  have hlocks := B.notSynchronized
  have hiX3 : ∀ w ∈ u_ws RX3 TX3 9, w ∈ wsX3_directlyIn := by decide +kernel
  have hf24 := hts (.fieldLink RX3 24 "TermsDesk$Joins" "sorted" "[I") (by decide +kernel)
  have hf27 := hts (.fieldLink RX3 27 "TermsDesk$Joins" "begin" "[I") (by decide +kernel)
  have hf30 := hts (.fieldLink RX3 30 "TermsDesk$Joins" "end" "[I") (by decide +kernel)
  have hf9 := hts (.fieldLink RX3 9 "TermsDesk$Joins" "from" "[I") (by decide +kernel)
  have L9 : ∀ (x1 : Int32) (n : Nat) (x2 : Int32) (x3 : Int32) (_ : Unit), wp_X3_directlyIn_L9 x1 u post n x2 x3 → ∀ ls : Array Slot, lv_has ls 4 [(0, .ref (q 3)), (1, .int x1), (2, .int x2), (3, .int x3)] → W p l e (headSpec wsX3_directlyIn rm_X3_directlyIn).room s m args below meth c s.heap [] 0 0 (MQ below (vp_Si post) args s 0 0 (fun _ => False)) (F0 m 9 ls []) := by
    intro x1 n
    induction n with
    | zero =>
      intro x2 x3 _ hw
      exact hw.elim
    | succ n ih =>
      intro x2 x3 _ hw ls hl 
      unfold wp_X3_directlyIn_L9 at hw
      refine lv_iload_n hx hb dX3_directlyIn_9 rfl (lv_at hl 3 rfl) ?_
      refine lv_aload_n hx hb dX3_directlyIn_10 rfl (lv_at hl 0 rfl) ?_
      refine va_get (D := D) (ci := 3) (v := .ref (q 22)) (C := RX3) (T := TX3) (N := 9) hx hb hts hiX3 hown hK hP 3 rfl rfl 8 (by decide) hf30 (fun _ h9 => h9) rfl dX3_directlyIn_11 ?_
      refine lv_iload_n hx hb dX3_directlyIn_14 rfl (lv_at hl 1 rfl) ?_
      obtain ⟨hin, hw⟩ := hw
      refine va_iald hx hb hK hP 22 0 rfl rfl hin dX3_directlyIn_15 ?_
      refine lv_icmp_ge (tgt := 41) hx hb dX3_directlyIn_16 (by decide) (fun hc => ?_) (fun hc => ?_)
      · have hw := hw.1 hc
        refine lv_iload_n hx hb dX3_directlyIn_41 rfl (lv_at hl 2 rfl) ?_
        exact W.iret (v := x2) hx hb hr (fun t ht hW => ⟨x2, rfl, hw, ht⟩) (fun _ h => by cases h) dX3_directlyIn_42
      · have hw := hw.2 hc
        refine lv_iload_n hx hb dX3_directlyIn_19 rfl (lv_at hl 2 rfl) ?_
        refine lv_iconst (v := 1) hx hb dX3_directlyIn_20 (by decide) ?_
        refine lv_aload_n hx hb dX3_directlyIn_21 rfl (lv_at hl 0 rfl) ?_
        refine va_get (D := D) (ci := 3) (v := .ref (q 16)) (C := RX3) (T := TX3) (N := 9) hx hb hts hiX3 hown hK hP 3 rfl rfl 0 (by decide) hf9 (fun _ h9 => h9) rfl dX3_directlyIn_22 ?_
        refine lv_aload_n hx hb dX3_directlyIn_25 rfl (lv_at hl 0 rfl) ?_
        refine va_get (D := D) (ci := 3) (v := .ref (q 20)) (C := RX3) (T := TX3) (N := 9) hx hb hts hiX3 hown hK hP 3 rfl rfl 6 (by decide) hf24 (fun _ h9 => h9) rfl dX3_directlyIn_26 ?_
        refine lv_iload_n hx hb dX3_directlyIn_29 rfl (lv_at hl 3 rfl) ?_
        obtain ⟨hin, hw⟩ := hw
        refine va_iald hx hb hK hP 20 0 rfl rfl hin dX3_directlyIn_30 ?_
        obtain ⟨hin, hw⟩ := hw
        refine va_iald hx hb hK hP 16 0 rfl rfl hin dX3_directlyIn_31 ?_
        refine lv_ishl hx hb dX3_directlyIn_32 ?_
        refine lv_ior hx hb dX3_directlyIn_33 ?_
        refine lv_topi (fun y1 ey1 => ?_)
        have hw := hw y1 ey1
        refine lv_istore_n (lv' := [(2, .int y1), (0, .ref (q 3)), (1, .int x1), (3, .int x3)]) hx hb dX3_directlyIn_34 rfl hl (by decide) rfl (fun ls hl => ?_)
        obtain ⟨y2, ey2⟩ : ∃ z : Int32, z = x3 + 1 := ⟨_, rfl⟩
        have hw := hw y2 ey2
        refine lv_iinc (v := y2) (lv' := [(3, .int y2), (2, .int y1), (0, .ref (q 3)), (1, .int x1)]) hx hb dX3_directlyIn_35 hl (k := 3) rfl (by rw [ey2]; rfl) (by decide) rfl (fun ls hl => ?_)
        refine lv_goto (tgt := 9) hx hb dX3_directlyIn_38 (by decide) ?_
        exact ih y1 y2 () hw ls (lv_sub hl [2, 3, 1, 0] rfl)
  have hent := lg_entry_eq m ([.ref (q 3), .int x1]) 4
  rw [← hargs] at hent
  rw [hent]
  have hl := lv_entry ([.ref (q 3), .int x1]) (n := 4) (Nat.le_of_ble_eq_true rfl)
  generalize (lg_sl ([.ref (q 3), .int x1]) ++ List.replicate (4 - (lg_sl ([.ref (q 3), .int x1])).length) Slot.unset).toArray = ls at hl ⊢
  have hl : lv_has ls 4 [(0, .ref (q 3)), (1, .int x1)] := hl
  unfold wp_X3_directlyIn at hw
  refine lv_iconst (v := 0) hx hb dX3_directlyIn_0 (by decide) ?_
  refine lv_istore_n (lv' := [(2, .int 0), (0, .ref (q 3)), (1, .int x1)]) hx hb dX3_directlyIn_1 rfl hl (by decide) rfl (fun ls hl => ?_)
  refine lv_aload_n hx hb dX3_directlyIn_2 rfl (lv_at hl 1 rfl) ?_
  refine va_get (D := D) (ci := 3) (v := .ref (q 21)) (C := RX3) (T := TX3) (N := 9) hx hb hts hiX3 hown hK hP 3 rfl rfl 7 (by decide) hf27 (fun _ h9 => h9) rfl dX3_directlyIn_3 ?_
  refine lv_iload_n hx hb dX3_directlyIn_6 rfl (lv_at hl 2 rfl) ?_
  obtain ⟨hin, hw⟩ := hw
  refine va_iald hx hb hK hP 21 0 rfl rfl hin dX3_directlyIn_7 ?_
  refine lv_topi (fun y3 ey3 => ?_)
  have hw := hw y3 ey3
  refine lv_istore_n (lv' := [(3, .int y3), (2, .int 0), (0, .ref (q 3)), (1, .int x1)]) hx hb dX3_directlyIn_8 rfl hl (by decide) rfl (fun ls hl => ?_)
  obtain ⟨nn, hw⟩ := hw
  refine L9 x1 nn 0 y3 () hw ls (lv_sub hl [2, 3, 1, 0] rfl)
set_option maxHeartbeats 4000000 in
set_option maxRecDepth 100000 in
theorem c_X3_orderParts (l : Launch) (D : va_G) (q : Nat → Nat) (cI cJ cZ : ClassId) (sz : Nat) (u : WU) (post : WU → Prop) (hw : wp_X3_orderParts u post) : Met l yX3_orderParts wsX3_orderParts rm_X3_orderParts (va_Pc [.ref (q 3)] (MW D (ty3 cI cJ cZ) (wX q cI cJ cZ u) sz)) (va_Qv post (fun u' t => va_P D vwCl (wX q cI cJ cZ u') t.heap) (va_A (wX q cI cJ cZ u00) sz)) 0 0 (va_A (wX q cI cJ cZ u00) sz) := by
  refine Met.ofW (cc := cX3_orderParts) (maxL := 5) (ret := none) (by decide) rfl ?_
  intro p e s m args below meth c s₁ B hml hv
  obtain ⟨hargs, hsz, hP, hK, hD0, hN⟩ := hv
  have hx := B.exec
  have hb := B.bytes
  have hr := B.returns
  have hts := atoms_spec (ws := wsX3_orderParts) B.pre
  have hown : s.vm.findClass RX3 = some m.cls := findClass_of_methodNamed B.named
  have hlocks := B.notSynchronized
  subst hsz
  have hD := shw_self (sz := s.heap.size) (sh_wX q cI cJ cZ) hD0
  have hA : ∀ a : Nat, s.heap.size ≤ a → va_A (wX q cI cJ cZ u00) s.heap.size a := fun _ h => Or.inr h
  have hS : va_S (va_A (wX q cI cJ cZ u00) s.heap.size) s.heap s.heap [] := va_S.rf
  have hiX3 : ∀ w ∈ u_ws RX3 TX3 9, w ∈ wsX3_orderParts := by decide +kernel
  have hf21 := hts (.fieldLink RX3 21 "TermsDesk$Joins" "order" "[I") (by decide +kernel)
  have hi_RX8 := hts (.initialized RX8) (by decide +kernel)
  have hs_X8_holds := hts (.static yX8_holds) (by decide +kernel)
  have J81 : ∀ {K6 : Int32 → Int32 → Int32 → WU → Prop} (x1 : Int32) (x2 : Int32) (x3 : Int32) (u : WU) (H : Heap) (locs : List Loc), wp_X3_orderParts_J81 x1 x2 x3 u post K6 → va_P D vwCl (wX q cI cJ cZ u) H → va_D (va_A (wX q cI cJ cZ u00) s.heap.size) (wX q cI cJ cZ u) → va_S (va_A (wX q cI cJ cZ u00) s.heap.size) s.heap H locs → ∀ ls : Array Slot, lv_has ls 5 [(0, .ref (q 3)), (1, .int x1), (2, .int x2), (3, .int x3)] → (∀ (x1 : Int32) (x2 : Int32) (x3 : Int32) (u : WU) (H : Heap) (locs : List Loc), K6 x1 x2 x3 u → va_P D vwCl (wX q cI cJ cZ u) H → va_D (va_A (wX q cI cJ cZ u00) s.heap.size) (wX q cI cJ cZ u) → va_S (va_A (wX q cI cJ cZ u00) s.heap.size) s.heap H locs → ∀ ls : Array Slot, lv_has ls 5 [(0, .ref (q 3)), (1, .int x1), (2, .int x2), (3, .int x3)] → W p l e (headSpec wsX3_orderParts rm_X3_orderParts).room s m args below meth c H locs 0 0 (MQ below (va_Qv post (fun u' t => va_P D vwCl (wX q cI cJ cZ u') t.heap) (va_A (wX q cI cJ cZ u00) s.heap.size)) args s 0 0 (va_A (wX q cI cJ cZ u00) s.heap.size)) (F0 m 6 ls [])) → W p l e (headSpec wsX3_orderParts rm_X3_orderParts).room s m args below meth c H locs 0 0 (MQ below (va_Qv post (fun u' t => va_P D vwCl (wX q cI cJ cZ u') t.heap) (va_A (wX q cI cJ cZ u00) s.heap.size)) args s 0 0 (va_A (wX q cI cJ cZ u00) s.heap.size)) (F0 m 81 ls []) := by
    intro K6 x1 x2 x3 u H locs hw hP hD hS ls hl k6
    unfold wp_X3_orderParts_J81 at hw
    obtain ⟨y26, ey26⟩ : ∃ z : Int32, z = x3 + 1 := ⟨_, rfl⟩
    have hw := hw y26 ey26
    refine lv_iinc (v := y26) (lv' := [(3, .int y26), (0, .ref (q 3)), (1, .int x1), (2, .int x2)]) hx hb dX3_orderParts_81 hl (k := 3) rfl (by rw [ey26]; rfl) (by decide) rfl (fun ls hl => ?_)
    refine lv_goto (tgt := 6) hx hb dX3_orderParts_84 (by decide) ?_
    exact k6 x1 x2 y26 u _ _ hw hP hD hS ls (lv_sub hl [1, 2, 3, 0] rfl)
  have J75 : ∀ {K21 : Int32 → Int32 → Int32 → WU → Prop} (x1 : Int32) (x2 : Int32) (x3 : Int32) (x4 : Int32) (u : WU) (H : Heap) (locs : List Loc), wp_X3_orderParts_J75 x1 x2 x3 x4 u post K21 → va_P D vwCl (wX q cI cJ cZ u) H → va_D (va_A (wX q cI cJ cZ u00) s.heap.size) (wX q cI cJ cZ u) → va_S (va_A (wX q cI cJ cZ u00) s.heap.size) s.heap H locs → ∀ ls : Array Slot, lv_has ls 5 [(0, .ref (q 3)), (1, .int x1), (2, .int x2), (3, .int x3), (4, .int x4)] → (∀ (x1 : Int32) (x2 : Int32) (x4 : Int32) (u : WU) (H : Heap) (locs : List Loc), K21 x1 x2 x4 u → va_P D vwCl (wX q cI cJ cZ u) H → va_D (va_A (wX q cI cJ cZ u00) s.heap.size) (wX q cI cJ cZ u) → va_S (va_A (wX q cI cJ cZ u00) s.heap.size) s.heap H locs → ∀ ls : Array Slot, lv_has ls 5 [(0, .ref (q 3)), (1, .int x1), (2, .int x2), (3, .int x3), (4, .int x4)] → W p l e (headSpec wsX3_orderParts rm_X3_orderParts).room s m args below meth c H locs 0 0 (MQ below (va_Qv post (fun u' t => va_P D vwCl (wX q cI cJ cZ u') t.heap) (va_A (wX q cI cJ cZ u00) s.heap.size)) args s 0 0 (va_A (wX q cI cJ cZ u00) s.heap.size)) (F0 m 21 ls [])) → W p l e (headSpec wsX3_orderParts rm_X3_orderParts).room s m args below meth c H locs 0 0 (MQ below (va_Qv post (fun u' t => va_P D vwCl (wX q cI cJ cZ u') t.heap) (va_A (wX q cI cJ cZ u00) s.heap.size)) args s 0 0 (va_A (wX q cI cJ cZ u00) s.heap.size)) (F0 m 75 ls []) := by
    intro K21 x1 x2 x3 x4 u H locs hw hP hD hS ls hl k21
    unfold wp_X3_orderParts_J75 at hw
    obtain ⟨y25, ey25⟩ : ∃ z : Int32, z = x4 + 1 := ⟨_, rfl⟩
    have hw := hw y25 ey25
    refine lv_iinc (v := y25) (lv' := [(4, .int y25), (0, .ref (q 3)), (1, .int x1), (2, .int x2), (3, .int x3)]) hx hb dX3_orderParts_75 hl (k := 4) rfl (by rw [ey25]; rfl) (by decide) rfl (fun ls hl => ?_)
    refine lv_goto (tgt := 21) hx hb dX3_orderParts_78 (by decide) ?_
    exact k21 x1 x2 y25 u _ _ hw hP hD hS ls (lv_sub hl [1, 2, 3, 4, 0] rfl)
  have L21 : ∀ {K81 : Int32 → Int32 → WU → Prop} (x3 : Int32) (n : Nat) (x1 : Int32) (x2 : Int32) (x4 : Int32) (u : WU) (H : Heap) (locs : List Loc), wp_X3_orderParts_L21 x3 post K81 n x1 x2 x4 u → va_P D vwCl (wX q cI cJ cZ u) H → va_D (va_A (wX q cI cJ cZ u00) s.heap.size) (wX q cI cJ cZ u) → va_S (va_A (wX q cI cJ cZ u00) s.heap.size) s.heap H locs → ∀ ls : Array Slot, lv_has ls 5 [(0, .ref (q 3)), (1, .int x1), (2, .int x2), (3, .int x3), (4, .int x4)] → (∀ (x1 : Int32) (x2 : Int32) (u : WU) (H : Heap) (locs : List Loc), K81 x1 x2 u → va_P D vwCl (wX q cI cJ cZ u) H → va_D (va_A (wX q cI cJ cZ u00) s.heap.size) (wX q cI cJ cZ u) → va_S (va_A (wX q cI cJ cZ u00) s.heap.size) s.heap H locs → ∀ ls : Array Slot, lv_has ls 5 [(0, .ref (q 3)), (1, .int x1), (2, .int x2), (3, .int x3)] → W p l e (headSpec wsX3_orderParts rm_X3_orderParts).room s m args below meth c H locs 0 0 (MQ below (va_Qv post (fun u' t => va_P D vwCl (wX q cI cJ cZ u') t.heap) (va_A (wX q cI cJ cZ u00) s.heap.size)) args s 0 0 (va_A (wX q cI cJ cZ u00) s.heap.size)) (F0 m 81 ls [])) → W p l e (headSpec wsX3_orderParts rm_X3_orderParts).room s m args below meth c H locs 0 0 (MQ below (va_Qv post (fun u' t => va_P D vwCl (wX q cI cJ cZ u') t.heap) (va_A (wX q cI cJ cZ u00) s.heap.size)) args s 0 0 (va_A (wX q cI cJ cZ u00) s.heap.size)) (F0 m 21 ls []) := by
    intro K81 x3 n
    induction n with
    | zero =>
      intro x1 x2 x4 u H locs hw
      exact hw.elim
    | succ n ih =>
      intro x1 x2 x4 u H locs hw hP hD hS ls hl k81
      unfold wp_X3_orderParts_L21 at hw
      refine lv_iload hx hb dX3_orderParts_21 (lv_at hl 4 rfl) ?_
      refine lv_bipush (v := 24) hx hb dX3_orderParts_23 (by decide) ?_
      refine lv_icmp_ge (tgt := 81) hx hb dX3_orderParts_25 (by decide) (fun hc => ?_) (fun hc => ?_)
      · have hw := hw.1 hc
        exact k81 x1 x2 u _ _ hw hP hD hS ls (lv_sub hl [0, 1, 2, 3] rfl)
      · have hw := hw.2 hc
        refine lv_iload_n hx hb dX3_orderParts_28 rfl (lv_at hl 2 rfl) ?_
        refine lv_bipush (v := 24) hx hb dX3_orderParts_29 (by decide) ?_
        refine lv_icmp_ge (tgt := 81) hx hb dX3_orderParts_31 (by decide) (fun hc => ?_) (fun hc => ?_)
        · have hw := hw.1 hc
          exact k81 x1 x2 u _ _ hw hP hD hS ls (lv_sub hl [0, 1, 2, 3] rfl)
        · have hw := hw.2 hc
          refine lv_iload_n hx hb dX3_orderParts_34 rfl (lv_at hl 1 rfl) ?_
          refine lv_i2l (v := x1.toInt64) hx hb dX3_orderParts_35 rfl ?_
          refine lv_iload hx hb dX3_orderParts_36 (lv_at hl 4 rfl) ?_
          refine vp_callSi (va_Run.run (va_runSN (As := [.long x1.toInt64, .int x4]) (rest := []) ⟨hx, hb, hml, hown, hts⟩ (c_X8_holds l x1.toInt64 x4 _ hw) ⟨va_cnB 2 hts ggX3_orderParts_X8_holds rfl rfl rfl (nm_RX3_45 hN) hi_RX8 (by decide +kernel) ⟨Nat.le_of_ble_eq_true rfl, Nat.le_of_ble_eq_true rfl⟩, hs_X8_holds, trivial⟩ (psS hN) rfl rfl hl.1 rfl (lv_room (Nat.le_of_ble_eq_true rfl)) dX3_orderParts_38 ⟨Nat.zero_le _, Nat.zero_le _⟩)) (fun r8 hw => ?_)
          refine lv_if_ne (tgt := 75) hx hb dX3_orderParts_41 (by decide) (fun hc => ?_) (fun hc => ?_)
          · have hw := hw.1 hc
            refine J75 x1 x2 x3 x4 u _ _ hw hP hD hS ls (lv_sub hl [0, 1, 2, 3, 4] rfl) (fun y9 y10 y11 u12 H locs hw hP hD hS ls hl => ?_)
            exact ih y9 y10 y11 u12 _ _ hw hP hD hS ls (lv_sub hl [0, 1, 2, 3, 4] rfl) k81
          · have hw := hw.2 hc
            refine lv_aload_n hx hb dX3_orderParts_44 rfl (lv_at hl 0 rfl) ?_
            refine lv_iload hx hb dX3_orderParts_45 (lv_at hl 4 rfl) ?_
            refine vp_callSi (va_Run.run (va_runV (As := [.int x4]) (rest := []) ⟨hx, hb, hml, hown, hts⟩ (c_X3_directlyIn l D q cI cJ cZ u x4 _ hw) (cwV 1 hts gX3_orderParts_X3_directlyIn rfl rfl rfl (by decide +kernel) ⟨Nat.le_of_ble_eq_true rfl, Nat.le_of_ble_eq_true rfl⟩) (pvR (va_recv hK hP (ci := 3) (q0 := 3) (q := (RX3, TX3, 9)) rfl rfl) hK hP hN) rfl rfl hl.1 rfl (lv_room (Nat.le_of_ble_eq_true rfl)) dX3_orderParts_47 ⟨Nat.zero_le _, Nat.zero_le _⟩)) (fun r13 hw => ?_)
            refine lv_iload_n hx hb dX3_orderParts_50 rfl (lv_at hl 1 rfl) ?_
            refine lv_iconst (v := (-1)) hx hb dX3_orderParts_51 (by decide) ?_
            refine lv_ixor hx hb dX3_orderParts_52 ?_
            refine lv_iand hx hb dX3_orderParts_53 ?_
            refine lv_if_ne (tgt := 75) hx hb dX3_orderParts_54 (by decide) (fun hc => ?_) (fun hc => ?_)
            · have hw := hw.1 hc
              refine J75 x1 x2 x3 x4 u _ _ hw hP hD hS ls (lv_sub hl [0, 1, 2, 3, 4] rfl) (fun y14 y15 y16 u17 H locs hw hP hD hS ls hl => ?_)
              exact ih y14 y15 y16 u17 _ _ hw hP hD hS ls (lv_sub hl [0, 1, 2, 3, 4] rfl) k81
            · have hw := hw.2 hc
              refine lv_aload_n hx hb dX3_orderParts_57 rfl (lv_at hl 0 rfl) ?_
              refine va_get (D := D) (ci := 3) (v := .ref (q 19)) (C := RX3) (T := TX3) (N := 9) hx hb hts hiX3 hown hK hP 3 rfl rfl 5 (by decide) hf21 (fun _ h9 => h9) rfl dX3_orderParts_58 ?_
              refine lv_iload_n hx hb dX3_orderParts_61 rfl (lv_at hl 2 rfl) ?_
              refine lv_iload hx hb dX3_orderParts_62 (lv_at hl 4 rfl) ?_
              obtain ⟨hin, hw⟩ := hw
              refine sIast (w := wX q cI cJ cZ) hx hb hK hP hD hS 19 0 6 rfl rfl (wXa_19 q cI cJ cZ u) hin dX3_orderParts_64 (fun u18 H locs eu18 hP hD hS => ?_)
              have hw := hw u18 eu18
              obtain ⟨y19, ey19⟩ : ∃ z : Int32, z = x2 + 1 := ⟨_, rfl⟩
              have hw := hw y19 ey19
              refine lv_iinc (v := y19) (lv' := [(2, .int y19), (0, .ref (q 3)), (1, .int x1), (3, .int x3), (4, .int x4)]) hx hb dX3_orderParts_65 hl (k := 2) rfl (by rw [ey19]; rfl) (by decide) rfl (fun ls hl => ?_)
              refine lv_iload_n hx hb dX3_orderParts_68 rfl (lv_at hl 2 rfl) ?_
              refine lv_iconst (v := 1) hx hb dX3_orderParts_69 (by decide) ?_
              refine lv_iload hx hb dX3_orderParts_70 (lv_at hl 4 rfl) ?_
              refine lv_ishl hx hb dX3_orderParts_72 ?_
              refine lv_ior hx hb dX3_orderParts_73 ?_
              refine lv_topi (fun y20 ey20 => ?_)
              have hw := hw y20 ey20
              refine lv_istore_n (lv' := [(1, .int y20), (2, .int y19), (0, .ref (q 3)), (3, .int x3), (4, .int x4)]) hx hb dX3_orderParts_74 rfl hl (by decide) rfl (fun ls hl => ?_)
              refine J75 y20 y19 x3 x4 u18 _ _ hw hP hD hS ls (lv_sub hl [2, 0, 1, 3, 4] rfl) (fun y21 y22 y23 u24 H locs hw hP hD hS ls hl => ?_)
              exact ih y21 y22 y23 u24 _ _ hw hP hD hS ls (lv_sub hl [0, 1, 2, 3, 4] rfl) k81
  have L6 : ∀ (n : Nat) (x1 : Int32) (x2 : Int32) (x3 : Int32) (u : WU) (H : Heap) (locs : List Loc), wp_X3_orderParts_L6 post n x1 x2 x3 u → va_P D vwCl (wX q cI cJ cZ u) H → va_D (va_A (wX q cI cJ cZ u00) s.heap.size) (wX q cI cJ cZ u) → va_S (va_A (wX q cI cJ cZ u00) s.heap.size) s.heap H locs → ∀ ls : Array Slot, lv_has ls 5 [(0, .ref (q 3)), (1, .int x1), (2, .int x2), (3, .int x3)] → W p l e (headSpec wsX3_orderParts rm_X3_orderParts).room s m args below meth c H locs 0 0 (MQ below (va_Qv post (fun u' t => va_P D vwCl (wX q cI cJ cZ u') t.heap) (va_A (wX q cI cJ cZ u00) s.heap.size)) args s 0 0 (va_A (wX q cI cJ cZ u00) s.heap.size)) (F0 m 6 ls []) := by
    intro  n
    induction n with
    | zero =>
      intro x1 x2 x3 u H locs hw
      exact hw.elim
    | succ n ih =>
      intro x1 x2 x3 u H locs hw hP hD hS ls hl 
      unfold wp_X3_orderParts_L6 at hw
      refine lv_iload_n hx hb dX3_orderParts_6 rfl (lv_at hl 3 rfl) ?_
      refine lv_bipush (v := 24) hx hb dX3_orderParts_7 (by decide) ?_
      refine lv_icmp_ge (tgt := 87) hx hb dX3_orderParts_9 (by decide) (fun hc => ?_) (fun hc => ?_)
      · have hw := hw.1 hc
        exact W.vret hx hb hr (fun t ht hW => ⟨⟨u, rfl, hw, by show va_P D vwCl _ t.heap; rw [ht]; exact hP⟩, hS.F ht⟩) hS.2.2 dX3_orderParts_87
      · have hw := hw.2 hc
        refine lv_iload_n hx hb dX3_orderParts_12 rfl (lv_at hl 2 rfl) ?_
        refine lv_bipush (v := 24) hx hb dX3_orderParts_13 (by decide) ?_
        refine lv_icmp_ge (tgt := 87) hx hb dX3_orderParts_15 (by decide) (fun hc => ?_) (fun hc => ?_)
        · have hw := hw.1 hc
          exact W.vret hx hb hr (fun t ht hW => ⟨⟨u, rfl, hw, by show va_P D vwCl _ t.heap; rw [ht]; exact hP⟩, hS.F ht⟩) hS.2.2 dX3_orderParts_87
        · have hw := hw.2 hc
          refine lv_iconst (v := 0) hx hb dX3_orderParts_18 (by decide) ?_
          refine lv_istore (lv' := [(4, .int 0), (0, .ref (q 3)), (1, .int x1), (2, .int x2), (3, .int x3)]) hx hb dX3_orderParts_19 hl (by decide) rfl (fun ls hl => ?_)
          obtain ⟨nn, hw⟩ := hw
          refine L21 x3 nn x1 x2 0 u _ _ hw hP hD hS ls (lv_sub hl [1, 2, 3, 4, 0] rfl) (fun y1 y2 u3 H locs hw hP hD hS ls hl => ?_)
          refine J81 y1 y2 x3 u3 _ _ hw hP hD hS ls (lv_sub hl [0, 1, 2, 3] rfl) (fun y4 y5 y6 u7 H locs hw hP hD hS ls hl => ?_)
          exact ih y4 y5 y6 u7 _ _ hw hP hD hS ls (lv_sub hl [0, 1, 2, 3] rfl)
  have hent := lg_entry_eq m ([.ref (q 3)]) 5
  rw [← hargs] at hent
  rw [hent]
  have hl := lv_entry ([.ref (q 3)]) (n := 5) (Nat.le_of_ble_eq_true rfl)
  generalize (lg_sl ([.ref (q 3)]) ++ List.replicate (5 - (lg_sl ([.ref (q 3)])).length) Slot.unset).toArray = ls at hl ⊢
  have hl : lv_has ls 5 [(0, .ref (q 3))] := hl
  unfold wp_X3_orderParts at hw
  refine lv_iconst (v := 0) hx hb dX3_orderParts_0 (by decide) ?_
  refine lv_istore_n (lv' := [(1, .int 0), (0, .ref (q 3))]) hx hb dX3_orderParts_1 rfl hl (by decide) rfl (fun ls hl => ?_)
  refine lv_iconst (v := 0) hx hb dX3_orderParts_2 (by decide) ?_
  refine lv_istore_n (lv' := [(2, .int 0), (1, .int 0), (0, .ref (q 3))]) hx hb dX3_orderParts_3 rfl hl (by decide) rfl (fun ls hl => ?_)
  refine lv_iconst (v := 0) hx hb dX3_orderParts_4 (by decide) ?_
  refine lv_istore_n (lv' := [(3, .int 0), (2, .int 0), (1, .int 0), (0, .ref (q 3))]) hx hb dX3_orderParts_5 rfl hl (by decide) rfl (fun ls hl => ?_)
  obtain ⟨nn, hw⟩ := hw
  refine L6 nn 0 0 0 u _ _ hw hP hD hS ls (lv_sub hl [3, 2, 1, 0] rfl)
set_option maxHeartbeats 4000000 in
set_option maxRecDepth 100000 in
theorem c_X3_add (l : Launch) (D : va_G) (q : Nat → Nat) (cI cJ cZ : ClassId) (sz : Nat) (u : WU) (x1 : Int32) (x2 : Int32) (x3 : Int32) (post : Int32 → WU → Prop) (hw : wp_X3_add x1 x2 x3 u post) : Met l yX3_add wsX3_add rm_X3_add (va_Pc [.ref (q 3), .int x1, .int x2, .int x3] (MW D (ty3 cI cJ cZ) (wX q cI cJ cZ u) sz)) (va_Qi post (fun u' t => va_P D vwCl (wX q cI cJ cZ u') t.heap) (va_A (wX q cI cJ cZ u00) sz)) 0 0 (va_A (wX q cI cJ cZ u00) sz) := by
  refine Met.ofW (cc := cX3_add) (maxL := 5) (ret := (some .int)) (by decide) rfl ?_
  intro p e s m args below meth c s₁ B hml hv
  obtain ⟨hargs, hsz, hP, hK, hD0, hN⟩ := hv
  have hx := B.exec
  have hb := B.bytes
  have hr := B.returns
  have hts := atoms_spec (ws := wsX3_add) B.pre
  have hown : s.vm.findClass RX3 = some m.cls := findClass_of_methodNamed B.named
  have hlocks := B.notSynchronized
  subst hsz
  have hD := shw_self (sz := s.heap.size) (sh_wX q cI cJ cZ) hD0
  have hA : ∀ a : Nat, s.heap.size ≤ a → va_A (wX q cI cJ cZ u00) s.heap.size a := fun _ h => Or.inr h
  have hS : va_S (va_A (wX q cI cJ cZ u00) s.heap.size) s.heap s.heap [] := va_S.rf
  have hiX3 : ∀ w ∈ u_ws RX3 TX3 9, w ∈ wsX3_add := by decide +kernel
  have hf15 := hts (.fieldLink RX3 15 "TermsDesk$Joins" "to" "[I") (by decide +kernel)
  have hf18 := hts (.fieldLink RX3 18 "TermsDesk$Joins" "kind" "[I") (by decide +kernel)
  have hf33 := hts (.fieldLink RX3 33 "TermsDesk$Joins" "told" "I") (by decide +kernel)
  have hf41 := hts (.fieldLink RX3 41 "TermsDesk$Joins" "there" "J") (by decide +kernel)
  have hf9 := hts (.fieldLink RX3 9 "TermsDesk$Joins" "from" "[I") (by decide +kernel)
  have hent := lg_entry_eq m ([.ref (q 3), .int x1, .int x2, .int x3]) 5
  rw [← hargs] at hent
  rw [hent]
  have hl := lv_entry ([.ref (q 3), .int x1, .int x2, .int x3]) (n := 5) (Nat.le_of_ble_eq_true rfl)
  generalize (lg_sl ([.ref (q 3), .int x1, .int x2, .int x3]) ++ List.replicate (5 - (lg_sl ([.ref (q 3), .int x1, .int x2, .int x3])).length) Slot.unset).toArray = ls at hl ⊢
  have hl : lv_has ls 5 [(0, .ref (q 3)), (1, .int x1), (2, .int x2), (3, .int x3)] := hl
  unfold wp_X3_add at hw
  refine lv_aload_n hx hb dX3_add_0 rfl (lv_at hl 0 rfl) ?_
  refine va_get (D := D) (ci := 3) (v := .int (u.1 22 0)) (C := RX3) (T := TX3) (N := 9) hx hb hts hiX3 hown hK hP 3 rfl rfl 3 (by decide) hf33 (fun _ h9 => h9) rfl dX3_add_1 ?_
  refine lv_topi (fun y1 ey1 => ?_)
  have hw := hw y1 ey1
  refine lv_istore (lv' := [(4, .int y1), (0, .ref (q 3)), (1, .int x1), (2, .int x2), (3, .int x3)]) hx hb dX3_add_4 hl (by decide) rfl (fun ls hl => ?_)
  refine lv_aload_n hx hb dX3_add_6 rfl (lv_at hl 1 rfl) ?_
  refine lv_dup hx hb dX3_add_7 rfl ?_
  refine va_get (D := D) (ci := 3) (v := .int (u.1 22 0)) (C := RX3) (T := TX3) (N := 9) hx hb hts hiX3 hown hK hP 3 rfl rfl 3 (by decide) hf33 (fun _ h9 => h9) rfl dX3_add_8 ?_
  refine lv_iconst (v := 1) hx hb dX3_add_11 (by decide) ?_
  refine lv_iadd hx hb dX3_add_12 ?_
  refine va_put (D := D) (ci := 3) (v := .int ((u.1 22 0) + 1)) (ty := .int) (C := RX3) (T := TX3) (N := 9) hx hb hts hiX3 tyX3 tyX3_ok nmX3 hown hK hP hD hS 3 rfl rfl 3 (by decide) hf33 (fun _ h9 => h9) rfl (by decide +kernel) rfl rfl (Nat.le_of_ble_eq_true rfl) dX3_add_13 (sPut (w := wX q cI cJ cZ) (uu := uI u 22 (fun _ => (u.1 22 0) + 1)) (wXs_X3_3 q cI cJ cZ u _) (fun u2 H locs eu2 hP hD hS => ?_))
  have hw := hw u2 eu2
  refine lv_aload_n hx hb dX3_add_16 rfl (lv_at hl 1 rfl) ?_
  refine va_get (D := D) (ci := 3) (v := .ref (q 16)) (C := RX3) (T := TX3) (N := 9) hx hb hts hiX3 hown hK hP 3 rfl rfl 0 (by decide) hf9 (fun _ h9 => h9) rfl dX3_add_17 ?_
  refine lv_iload hx hb dX3_add_20 (lv_at hl 0 rfl) ?_
  refine lv_iload_n hx hb dX3_add_22 rfl (lv_at hl 2 rfl) ?_
  obtain ⟨hin, hw⟩ := hw
  refine sIast (w := wX q cI cJ cZ) hx hb hK hP hD hS 16 0 3 rfl rfl (wXa_16 q cI cJ cZ u2) hin dX3_add_23 (fun u3 H locs eu3 hP hD hS => ?_)
  have hw := hw u3 eu3
  refine lv_aload_n hx hb dX3_add_24 rfl (lv_at hl 1 rfl) ?_
  refine va_get (D := D) (ci := 3) (v := .ref (q 17)) (C := RX3) (T := TX3) (N := 9) hx hb hts hiX3 hown hK hP 3 rfl rfl 1 (by decide) hf15 (fun _ h9 => h9) rfl dX3_add_25 ?_
  refine lv_iload hx hb dX3_add_28 (lv_at hl 0 rfl) ?_
  refine lv_iload_n hx hb dX3_add_30 rfl (lv_at hl 3 rfl) ?_
  obtain ⟨hin, hw⟩ := hw
  refine sIast (w := wX q cI cJ cZ) hx hb hK hP hD hS 17 0 4 rfl rfl (wXa_17 q cI cJ cZ u3) hin dX3_add_31 (fun u4 H locs eu4 hP hD hS => ?_)
  have hw := hw u4 eu4
  refine lv_aload_n hx hb dX3_add_32 rfl (lv_at hl 1 rfl) ?_
  refine va_get (D := D) (ci := 3) (v := .ref (q 18)) (C := RX3) (T := TX3) (N := 9) hx hb hts hiX3 hown hK hP 3 rfl rfl 2 (by decide) hf18 (fun _ h9 => h9) rfl dX3_add_33 ?_
  refine lv_iload hx hb dX3_add_36 (lv_at hl 0 rfl) ?_
  refine lv_iload_n hx hb dX3_add_38 rfl (lv_at hl 4 rfl) ?_
  obtain ⟨hin, hw⟩ := hw
  refine sIast (w := wX q cI cJ cZ) hx hb hK hP hD hS 18 0 5 rfl rfl (wXa_18 q cI cJ cZ u4) hin dX3_add_39 (fun u5 H locs eu5 hP hD hS => ?_)
  have hw := hw u5 eu5
  refine lv_aload_n hx hb dX3_add_40 rfl (lv_at hl 1 rfl) ?_
  refine lv_dup hx hb dX3_add_41 rfl ?_
  refine va_get (D := D) (ci := 3) (v := .long (u5.2 6 0)) (C := RX3) (T := TX3) (N := 9) hx hb hts hiX3 hown hK hP 3 rfl rfl 4 (by decide) hf41 (fun _ h9 => h9) rfl dX3_add_42 ?_
  refine lv_lconst (v := 1) hx hb dX3_add_45 (by decide) ?_
  refine lv_iload hx hb dX3_add_46 (lv_at hl 0 rfl) ?_
  refine lv_lshl (v := jshl 1 y1) hx hb dX3_add_48 rfl ?_
  refine lv_lor hx hb dX3_add_49 ?_
  refine va_put (D := D) (ci := 3) (v := .long ((u5.2 6 0) ||| (jshl 1 y1))) (ty := .long) (C := RX3) (T := TX3) (N := 9) hx hb hts hiX3 tyX3 tyX3_ok nmX3 hown hK hP hD hS 3 rfl rfl 4 (by decide) hf41 (fun _ h9 => h9) rfl (by decide +kernel) rfl rfl (Nat.le_of_ble_eq_true rfl) dX3_add_50 (sPut (w := wX q cI cJ cZ) (uu := uJ u5 6 (fun _ => (u5.2 6 0) ||| (jshl 1 y1))) (wXs_X3_4 q cI cJ cZ u5 _) (fun u6 H locs eu6 hP hD hS => ?_))
  have hw := hw u6 eu6
  refine lv_aload_n hx hb dX3_add_53 rfl (lv_at hl 1 rfl) ?_
  refine cMv (sh_wX q cI cJ cZ) (u := u6) (va_runV (As := []) (rest := []) ⟨hx, hb, hml, hown, hts⟩ (c_X3_sortJoins l D q cI cJ cZ _ u6 _ hw) (cwV 0 hts gX3_add_X3_sortJoins rfl rfl rfl (by decide +kernel) ⟨Nat.le_of_ble_eq_true rfl, Nat.le_of_ble_eq_true rfl⟩) (pvM (va_recv hK hP (ci := 3) (q0 := 3) (q := (RX3, TX3, 9)) rfl rfl) hK hP hD hN) rfl rfl hl.1 rfl (lv_room (Nat.le_of_ble_eq_true rfl)) dX3_add_54 ⟨Nat.zero_le _, Nat.zero_le _⟩) hA hD hS (fun u7 H locs hw hP hD hS => ?_)
  refine lv_aload_n hx hb dX3_add_57 rfl (lv_at hl 1 rfl) ?_
  refine cMv (sh_wX q cI cJ cZ) (u := u7) (va_runV (As := []) (rest := []) ⟨hx, hb, hml, hown, hts⟩ (c_X3_orderParts l D q cI cJ cZ _ u7 _ hw) (cwV 0 hts gX3_add_X3_orderParts rfl rfl rfl (by decide +kernel) ⟨Nat.le_of_ble_eq_true rfl, Nat.le_of_ble_eq_true rfl⟩) (pvM (va_recv hK hP (ci := 3) (q0 := 3) (q := (RX3, TX3, 9)) rfl rfl) hK hP hD hN) rfl rfl hl.1 rfl (lv_room (Nat.le_of_ble_eq_true rfl)) dX3_add_58 ⟨Nat.zero_le _, Nat.zero_le _⟩) hA hD hS (fun u8 H locs hw hP hD hS => ?_)
  refine lv_iload hx hb dX3_add_61 (lv_at hl 0 rfl) ?_
  exact W.iret (v := y1) hx hb hr (fun t ht hW => ⟨⟨y1, u8, rfl, hw, by show va_P D vwCl _ t.heap; rw [ht]; exact hP⟩, hS.F ht⟩) hS.2.2 dX3_add_63
