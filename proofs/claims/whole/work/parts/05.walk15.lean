set_option maxHeartbeats 4000000 in
set_option maxRecDepth 100000 in
theorem c_X8_way (l : Launch) (D : va_G) (q : Nat → Nat) (cI cJ cZ : ClassId) (sz : Nat) (u : WU) (x1 : Int32) (x2 : Int32) (x3 : Int32) (x4 : Int32) (x5 : Int32) (post : Int32 → WU → Prop) (hw : wp_X8_way x1 x2 x3 x4 x5 u post) : Met l yX8_way wsX8_way rm_X8_way (va_Pc [.ref (q 0), .int x1, .int x2, .int x3, .int x4, .int x5] (MW D (ty3 cI cJ cZ) (wX q cI cJ cZ u) sz)) (va_Qi post (fun u' t => va_P D vwCl (wX q cI cJ cZ u') t.heap) (va_A (wX q cI cJ cZ u00) sz)) 0 0 (va_A (wX q cI cJ cZ u00) sz) := by
  refine Met.ofW (cc := cX8_way) (maxL := 6) (ret := (some .int)) (by decide) rfl ?_
  intro p e s m args below meth c s₁ B hml hv
  obtain ⟨hargs, hsz, hP, hK, hD0, hN⟩ := hv
  have hx := B.exec
  have hb := B.bytes
  have hr := B.returns
  have hts := atoms_spec (ws := wsX8_way) B.pre
  have hown : s.vm.findClass RX8 = some m.cls := findClass_of_methodNamed B.named
  have hlocks := B.notSynchronized
  subst hsz
  have hD := shw_self (sz := s.heap.size) (sh_wX q cI cJ cZ) hD0
  have hA : ∀ a : Nat, s.heap.size ≤ a → va_A (wX q cI cJ cZ u00) s.heap.size a := fun _ h => Or.inr h
  have hS : va_S (va_A (wX q cI cJ cZ u00) s.heap.size) s.heap s.heap [] := va_S.rf
  have hiX8 : ∀ w ∈ u_ws RX8 TX8 8, w ∈ wsX8_way := by decide +kernel
  have hf19 := hts (.fieldLink RX8 19 "TermsDesk" "parts" "LTermsDesk$Parts;") (by decide +kernel)
  have hf69 := hts (.fieldLink RX8 69 "TermsDesk" "tracer" "LTermsDesk$Tracer;") (by decide +kernel)
  have hent := lg_entry_eq m ([.ref (q 0), .int x1, .int x2, .int x3, .int x4, .int x5]) 6
  rw [← hargs] at hent
  rw [hent]
  have hl := lv_entry ([.ref (q 0), .int x1, .int x2, .int x3, .int x4, .int x5]) (n := 6) (Nat.le_of_ble_eq_true rfl)
  generalize (lg_sl ([.ref (q 0), .int x1, .int x2, .int x3, .int x4, .int x5]) ++ List.replicate (6 - (lg_sl ([.ref (q 0), .int x1, .int x2, .int x3, .int x4, .int x5])).length) Slot.unset).toArray = ls at hl ⊢
  have hl : lv_has ls 6 [(0, .ref (q 0)), (1, .int x1), (2, .int x2), (3, .int x3), (4, .int x4), (5, .int x5)] := hl
  unfold wp_X8_way at hw
  refine lv_iload_n hx hb dX8_way_0 rfl (lv_at hl 1 rfl) ?_
  refine lv_iconst (v := 4) hx hb dX8_way_1 (by decide) ?_
  refine vp_callSi (va_Run.run (va_runS (As := [.int x1, .int 4]) (rest := []) ⟨hx, hb, hml, hown, hts⟩ (c_X8_within l x1 4 _ hw) (va_cwS 2 hts gX8_way_X8_within rfl rfl rfl (by decide +kernel) ⟨Nat.le_of_ble_eq_true rfl, Nat.le_of_ble_eq_true rfl⟩) (psS hN) rfl rfl hl.1 rfl (lv_room (Nat.le_of_ble_eq_true rfl)) dX8_way_2 ⟨Nat.zero_le _, Nat.zero_le _⟩)) (fun r1 hw => ?_)
  refine lv_if_eq (tgt := 28) hx hb dX8_way_5 (by decide) (fun hc => ?_) (fun hc => ?_)
  · have hw := hw.1 hc
    refine lv_iconst (v := (-1)) hx hb dX8_way_28 (by decide) ?_
    exact W.iret (v := (-1)) hx hb hr (fun t ht hW => ⟨⟨(-1), u, rfl, hw, by show va_P D vwCl _ t.heap; rw [ht]; exact hP⟩, hS.F ht⟩) hS.2.2 dX8_way_29
  · have hw := hw.2 hc
    refine lv_iload_n hx hb dX8_way_8 rfl (lv_at hl 2 rfl) ?_
    refine lv_iload_n hx hb dX8_way_9 rfl (lv_at hl 3 rfl) ?_
    refine vp_callSi (va_Run.run (va_runS (As := [.int x2, .int x3]) (rest := []) ⟨hx, hb, hml, hown, hts⟩ (c_X8_isPair l x2 x3 _ hw) (va_cwS 2 hts gX8_way_X8_isPair rfl rfl rfl (by decide +kernel) ⟨Nat.le_of_ble_eq_true rfl, Nat.le_of_ble_eq_true rfl⟩) (psS hN) rfl rfl hl.1 rfl (lv_room (Nat.le_of_ble_eq_true rfl)) dX8_way_10 ⟨Nat.zero_le _, Nat.zero_le _⟩)) (fun r2 hw => ?_)
    refine lv_if_eq (tgt := 28) hx hb dX8_way_13 (by decide) (fun hc => ?_) (fun hc => ?_)
    · have hw := hw.1 hc
      refine lv_iconst (v := (-1)) hx hb dX8_way_28 (by decide) ?_
      exact W.iret (v := (-1)) hx hb hr (fun t ht hW => ⟨⟨(-1), u, rfl, hw, by show va_P D vwCl _ t.heap; rw [ht]; exact hP⟩, hS.F ht⟩) hS.2.2 dX8_way_29
    · have hw := hw.2 hc
      refine lv_aload_n hx hb dX8_way_16 rfl (lv_at hl 0 rfl) ?_
      refine va_get (D := D) (ci := 8) (v := .ref (q 2)) (C := RX8) (T := TX8) (N := 8) hx hb hts hiX8 hown hK hP 0 rfl rfl 1 (by decide) hf19 (fun _ h9 => h9) rfl dX8_way_17 ?_
      refine lv_iload hx hb dX8_way_20 (lv_at hl 4 rfl) ?_
      refine vp_callSi (va_Run.run (va_runV (As := [.int x4]) (rest := []) ⟨hx, hb, hml, hown, hts⟩ (c_X5_has l D q cI cJ cZ u x4 _ hw) (cwV 1 hts gX8_way_X5_has rfl rfl rfl (by decide +kernel) ⟨Nat.le_of_ble_eq_true rfl, Nat.le_of_ble_eq_true rfl⟩) (pvR (va_recv hK hP (ci := 5) (q0 := 2) (q := (RX5, TX5, 6)) rfl rfl) hK hP hN) rfl rfl hl.1 rfl (lv_room (Nat.le_of_ble_eq_true rfl)) dX8_way_22 ⟨Nat.zero_le _, Nat.zero_le _⟩)) (fun r3 hw => ?_)
      refine lv_if_ne (tgt := 30) hx hb dX8_way_25 (by decide) (fun hc => ?_) (fun hc => ?_)
      · have hw := hw.1 hc
        refine lv_aload_n hx hb dX8_way_30 rfl (lv_at hl 0 rfl) ?_
        refine va_get (D := D) (ci := 8) (v := .ref (q 8)) (C := RX8) (T := TX8) (N := 8) hx hb hts hiX8 hown hK hP 0 rfl rfl 7 (by decide) hf69 (fun _ h9 => h9) rfl dX8_way_31 ?_
        refine lv_iload_n hx hb dX8_way_34 rfl (lv_at hl 1 rfl) ?_
        refine lv_iload_n hx hb dX8_way_35 rfl (lv_at hl 2 rfl) ?_
        refine lv_iload_n hx hb dX8_way_36 rfl (lv_at hl 3 rfl) ?_
        refine vp_callSi (va_Run.run (va_runS (As := [.int x2, .int x3]) (rest := [.int x1, .ref (q 8)]) ⟨hx, hb, hml, hown, hts⟩ (c_X8_pairOf l x2 x3 _ hw) (va_cwS 2 hts gX8_way_X8_pairOf rfl rfl rfl (by decide +kernel) ⟨Nat.le_of_ble_eq_true rfl, Nat.le_of_ble_eq_true rfl⟩) (psS hN) rfl rfl hl.1 rfl (lv_room (Nat.le_of_ble_eq_true rfl)) dX8_way_37 ⟨Nat.zero_le _, Nat.zero_le _⟩)) (fun r4 hw => ?_)
        refine lv_iload hx hb dX8_way_40 (lv_at hl 4 rfl) ?_
        refine lv_iload hx hb dX8_way_42 (lv_at hl 5 rfl) ?_
        refine cMi (sh_wX q cI cJ cZ) (u := u) (va_runV (As := [.int x1, .int r4, .int x4, .int x5]) (rest := []) ⟨hx, hb, hml, hown, hts⟩ (c_X7_partOnWay l D q cI cJ cZ _ u x1 r4 x4 x5 _ hw) (cwV 4 hts gX8_way_X7_partOnWay rfl rfl rfl (by decide +kernel) ⟨Nat.le_of_ble_eq_true rfl, Nat.le_of_ble_eq_true rfl⟩) (pvM (va_recv hK hP (ci := 7) (q0 := 8) (q := (RX7, TX7, 5)) rfl rfl) hK hP hD hN) rfl rfl hl.1 rfl (lv_room (Nat.le_of_ble_eq_true rfl)) dX8_way_44 ⟨Nat.zero_le _, Nat.zero_le _⟩) hA hD hS (fun r6 u5 H locs hw hP hD hS => ?_)
        exact W.iret (v := r6) hx hb hr (fun t ht hW => ⟨⟨r6, u5, rfl, hw, by show va_P D vwCl _ t.heap; rw [ht]; exact hP⟩, hS.F ht⟩) hS.2.2 dX8_way_47
      · have hw := hw.2 hc
        refine lv_iconst (v := (-1)) hx hb dX8_way_28 (by decide) ?_
        exact W.iret (v := (-1)) hx hb hr (fun t ht hW => ⟨⟨(-1), u, rfl, hw, by show va_P D vwCl _ t.heap; rw [ht]; exact hP⟩, hS.F ht⟩) hS.2.2 dX8_way_29
set_option maxHeartbeats 4000000 in
set_option maxRecDepth 100000 in
theorem c_X9_hasBrought (l : Launch) (D : va_G) (q : Nat → Nat) (cI cJ cZ : ClassId) (u : WU) (x1 : Int32) (x2 : Int32) (x3 : Int32) (x4 : Int32) (post : Int32 → Prop) (hw : wp_X9_hasBrought x1 x2 x3 x4 u post) : Met l yX9_hasBrought wsX9_hasBrought rm_X9_hasBrought (va_Pc [.ref (q 0), .int x1, .int x2, .int x3, .int x4] (RW D (ty3 cI cJ cZ) (wM q cI cJ cZ u))) (vp_Si post) 0 0 (fun _ => False) := by
  refine Met.ofW (cc := cX9_hasBrought) (maxL := 5) (ret := (some .boolean)) (by decide) rfl ?_
  intro p e s m args below meth c s₁ B hml hv
  obtain ⟨hargs, hP, hK, hN⟩ := hv
  have hx := B.exec
  have hb := B.bytes
  have hr := B.returns
  have hts := atoms_spec (ws := wsX9_hasBrought) B.pre
  have hown : s.vm.findClass RX9 = some m.cls := findClass_of_methodNamed B.named
  have hlocks := B.notSynchronized
  have hent := lg_entry_eq m ([.ref (q 0), .int x1, .int x2, .int x3, .int x4]) 5
  rw [← hargs] at hent
  rw [hent]
  have hl := lv_entry ([.ref (q 0), .int x1, .int x2, .int x3, .int x4]) (n := 5) (Nat.le_of_ble_eq_true rfl)
  generalize (lg_sl ([.ref (q 0), .int x1, .int x2, .int x3, .int x4]) ++ List.replicate (5 - (lg_sl ([.ref (q 0), .int x1, .int x2, .int x3, .int x4])).length) Slot.unset).toArray = ls at hl ⊢
  have hl : lv_has ls 5 [(0, .ref (q 0)), (1, .int x1), (2, .int x2), (3, .int x3), (4, .int x4)] := hl
  unfold wp_X9_hasBrought at hw
  refine lv_aload_n hx hb dX9_hasBrought_0 rfl (lv_at hl 0 rfl) ?_
  refine lv_iload_n hx hb dX9_hasBrought_1 rfl (lv_at hl 1 rfl) ?_
  refine lv_iload_n hx hb dX9_hasBrought_2 rfl (lv_at hl 2 rfl) ?_
  refine vp_callSl (va_Run.run (va_runV (As := [.int x1, .int x2]) (rest := []) ⟨hx, hb, hml, hown, hts⟩ (c_X9_brings l D q cI cJ cZ u x1 x2 _ hw) (cwV 2 hts gX9_hasBrought_X9_brings rfl rfl rfl (by decide +kernel) ⟨Nat.le_of_ble_eq_true rfl, Nat.le_of_ble_eq_true rfl⟩) (pvR (va_recv hK hP (ci := 9) (q0 := 0) (q := (RX9, TX9, 30)) rfl rfl) hK hP hN) rfl rfl hl.1 rfl (lv_room (Nat.le_of_ble_eq_true rfl)) dX9_hasBrought_3 ⟨Nat.zero_le _, Nat.zero_le _⟩)) (fun r1 hw => ?_)
  refine lv_iload_n hx hb dX9_hasBrought_6 rfl (lv_at hl 3 rfl) ?_
  refine lv_iload hx hb dX9_hasBrought_7 (lv_at hl 4 rfl) ?_
  refine vp_callSl (va_Run.run (va_runS (As := [.int x3, .int x4]) (rest := [.long r1]) ⟨hx, hb, hml, hown, hts⟩ (c_X9_bit l x3 x4 _ hw) (va_cwS 2 hts gX9_hasBrought_X9_bit rfl rfl rfl (by decide +kernel) ⟨Nat.le_of_ble_eq_true rfl, Nat.le_of_ble_eq_true rfl⟩) (psS hN) rfl rfl hl.1 rfl (lv_room (Nat.le_of_ble_eq_true rfl)) dX9_hasBrought_9 ⟨Nat.zero_le _, Nat.zero_le _⟩)) (fun r2 hw => ?_)
  refine lv_land hx hb dX9_hasBrought_12 ?_
  refine lv_lconst (v := 0) hx hb dX9_hasBrought_13 (by decide) ?_
  refine W.lcmp hx hb dX9_hasBrought_14 ?_
  refine lv_if_eq (tgt := 22) hx hb dX9_hasBrought_15 (by decide) (fun hc => ?_) (fun hc => ?_)
  · have hw := hw.1 hc
    refine lv_iconst (v := 0) hx hb dX9_hasBrought_22 (by decide) ?_
    exact W.zret (v := 0) hx hb hr rfl (fun t ht hW => ⟨0, rfl, hw, ht⟩) (fun _ h => by cases h) dX9_hasBrought_23
  · have hw := hw.2 hc
    refine lv_iconst (v := 1) hx hb dX9_hasBrought_18 (by decide) ?_
    refine lv_goto (tgt := 23) hx hb dX9_hasBrought_19 (by decide) ?_
    exact W.zret (v := 1) hx hb hr rfl (fun t ht hW => ⟨1, rfl, hw, ht⟩) (fun _ h => by cases h) dX9_hasBrought_23
set_option maxHeartbeats 4000000 in
set_option maxRecDepth 100000 in
theorem c_X9_measures (l : Launch) (D : va_G) (q : Nat → Nat) (cI cJ cZ : ClassId) (sz : Nat) (u : WU) (x1 : Int32) (x2 : Int32) (x3 : Int32) (post : WU → Prop) (hw : wp_X9_measures x1 x2 x3 u post) : Met l yX9_measures wsX9_measures rm_X9_measures (va_Pc [.ref (q 0), .int x1, .int x2, .int x3] (MW D (ty3 cI cJ cZ) (wM q cI cJ cZ u) sz)) (va_Qv post (fun u' t => va_P D vwCl (wM q cI cJ cZ u') t.heap) (va_A (wM q cI cJ cZ u00) sz)) 0 0 (va_A (wM q cI cJ cZ u00) sz) := by
  refine Met.ofW (cc := cX9_measures) (maxL := 6) (ret := none) (by decide) rfl ?_
  intro p e s m args below meth c s₁ B hml hv
  obtain ⟨hargs, hsz, hP, hK, hD0, hN⟩ := hv
  have hx := B.exec
  have hb := B.bytes
  have hr := B.returns
  have hts := atoms_spec (ws := wsX9_measures) B.pre
  have hown : s.vm.findClass RX9 = some m.cls := findClass_of_methodNamed B.named
  have hlocks := B.notSynchronized
  subst hsz
  have hD := shw_self (sz := s.heap.size) (sh_wM q cI cJ cZ) hD0
  have hA : ∀ a : Nat, s.heap.size ≤ a → va_A (wM q cI cJ cZ u00) s.heap.size a := fun _ h => Or.inr h
  have hS : va_S (va_A (wM q cI cJ cZ u00) s.heap.size) s.heap s.heap [] := va_S.rf
  have hiX9 : ∀ w ∈ u_ws RX9 TX9 30, w ∈ wsX9_measures := by decide +kernel
  have hf108 := hts (.fieldLink RX9 108 "TermsDeskModel" "joins" "I") (by decide +kernel)
  have hf13 := hts (.fieldLink RX9 13 "TermsDeskModel" "along" "[J") (by decide +kernel)
  have hf32 := hts (.fieldLink RX9 32 "TermsDeskModel" "from" "[I") (by decide +kernel)
  have hf35 := hts (.fieldLink RX9 35 "TermsDeskModel" "to" "[I") (by decide +kernel)
  have hf38 := hts (.fieldLink RX9 38 "TermsDeskModel" "kind" "[I") (by decide +kernel)
  have hf60 := hts (.fieldLink RX9 60 "TermsDeskModel" "isGone" "[Z") (by decide +kernel)
  have hf81 := hts (.fieldLink RX9 81 "TermsDeskModel" "far" "[I") (by decide +kernel)
  have hf87 := hts (.fieldLink RX9 87 "TermsDeskModel" "parts" "I") (by decide +kernel)
  have J28 : ∀ {K3 : Int32 → WU → Prop} (x1 : Int32) (x2 : Int32) (x3 : Int32) (x4 : Int32) (z1 : Int32) (z2 : Int32) (u : WU) (H : Heap) (locs : List Loc), wp_X9_measures_J28 x1 x2 x3 x4 z1 z2 u post K3 → va_P D vwCl (wM q cI cJ cZ u) H → va_D (va_A (wM q cI cJ cZ u00) s.heap.size) (wM q cI cJ cZ u) → va_S (va_A (wM q cI cJ cZ u00) s.heap.size) s.heap H locs → ∀ ls : Array Slot, lv_has ls 6 [(0, .ref (q 0)), (1, .int x1), (2, .int x2), (3, .int x3), (4, .int x4)] → (∀ (x4 : Int32) (u : WU) (H : Heap) (locs : List Loc), K3 x4 u → va_P D vwCl (wM q cI cJ cZ u) H → va_D (va_A (wM q cI cJ cZ u00) s.heap.size) (wM q cI cJ cZ u) → va_S (va_A (wM q cI cJ cZ u00) s.heap.size) s.heap H locs → ∀ ls : Array Slot, lv_has ls 6 [(0, .ref (q 0)), (1, .int x1), (2, .int x2), (3, .int x3), (4, .int x4)] → W p l e (headSpec wsX9_measures rm_X9_measures).room s m args below meth c H locs 0 0 (MQ below (va_Qv post (fun u' t => va_P D vwCl (wM q cI cJ cZ u') t.heap) (va_A (wM q cI cJ cZ u00) s.heap.size)) args s 0 0 (va_A (wM q cI cJ cZ u00) s.heap.size)) (F0 m 3 ls [])) → W p l e (headSpec wsX9_measures rm_X9_measures).room s m args below meth c H locs 0 0 (MQ below (va_Qv post (fun u' t => va_P D vwCl (wM q cI cJ cZ u') t.heap) (va_A (wM q cI cJ cZ u00) s.heap.size)) args s 0 0 (va_A (wM q cI cJ cZ u00) s.heap.size)) (F0 m 28 ls [.int z2, .int z1, .ref (q 24)]) := by
    intro K3 x1 x2 x3 x4 z1 z2 u H locs hw hP hD hS ls hl k3
    unfold wp_X9_measures_J28 at hw
    obtain ⟨hin, hw⟩ := hw
    refine sIast (w := wM q cI cJ cZ) hx hb hK hP hD hS 24 0 20 rfl rfl (wMa_24 q cI cJ cZ u) hin dX9_measures_28 (fun u19 H locs eu19 hP hD hS => ?_)
    have hw := hw u19 eu19
    obtain ⟨y20, ey20⟩ : ∃ z : Int32, z = x4 + 1 := ⟨_, rfl⟩
    have hw := hw y20 ey20
    refine lv_iinc (v := y20) (lv' := [(4, .int y20), (0, .ref (q 0)), (1, .int x1), (2, .int x2), (3, .int x3)]) hx hb dX9_measures_29 hl (k := 4) rfl (by rw [ey20]; rfl) (by decide) rfl (fun ls hl => ?_)
    refine lv_goto (tgt := 3) hx hb dX9_measures_32 (by decide) ?_
    exact k3 y20 u19 _ _ hw hP hD hS ls (lv_sub hl [1, 2, 3, 4, 0] rfl)
  have L3 : ∀ {K35 : WU → Prop} (x1 : Int32) (x2 : Int32) (x3 : Int32) (n : Nat) (x4 : Int32) (u : WU) (H : Heap) (locs : List Loc), wp_X9_measures_L3 x1 x2 x3 post K35 n x4 u → va_P D vwCl (wM q cI cJ cZ u) H → va_D (va_A (wM q cI cJ cZ u00) s.heap.size) (wM q cI cJ cZ u) → va_S (va_A (wM q cI cJ cZ u00) s.heap.size) s.heap H locs → ∀ ls : Array Slot, lv_has ls 6 [(0, .ref (q 0)), (1, .int x1), (2, .int x2), (3, .int x3), (4, .int x4)] → (∀ (u : WU) (H : Heap) (locs : List Loc), K35 u → va_P D vwCl (wM q cI cJ cZ u) H → va_D (va_A (wM q cI cJ cZ u00) s.heap.size) (wM q cI cJ cZ u) → va_S (va_A (wM q cI cJ cZ u00) s.heap.size) s.heap H locs → ∀ ls : Array Slot, lv_has ls 6 [(0, .ref (q 0)), (1, .int x1), (2, .int x2)] → W p l e (headSpec wsX9_measures rm_X9_measures).room s m args below meth c H locs 0 0 (MQ below (va_Qv post (fun u' t => va_P D vwCl (wM q cI cJ cZ u') t.heap) (va_A (wM q cI cJ cZ u00) s.heap.size)) args s 0 0 (va_A (wM q cI cJ cZ u00) s.heap.size)) (F0 m 35 ls [])) → W p l e (headSpec wsX9_measures rm_X9_measures).room s m args below meth c H locs 0 0 (MQ below (va_Qv post (fun u' t => va_P D vwCl (wM q cI cJ cZ u') t.heap) (va_A (wM q cI cJ cZ u00) s.heap.size)) args s 0 0 (va_A (wM q cI cJ cZ u00) s.heap.size)) (F0 m 3 ls []) := by
    intro K35 x1 x2 x3 n
    induction n with
    | zero =>
      intro x4 u H locs hw
      exact hw.elim
    | succ n ih =>
      intro x4 u H locs hw hP hD hS ls hl k35
      unfold wp_X9_measures_L3 at hw
      refine lv_iload hx hb dX9_measures_3 (lv_at hl 4 rfl) ?_
      refine lv_bipush (v := 24) hx hb dX9_measures_5 (by decide) ?_
      refine lv_icmp_ge (tgt := 35) hx hb dX9_measures_7 (by decide) (fun hc => ?_) (fun hc => ?_)
      · have hw := hw.1 hc
        exact k35 u _ _ hw hP hD hS ls (lv_sub hl [0, 1, 2] rfl)
      · have hw := hw.2 hc
        refine lv_aload_n hx hb dX9_measures_10 rfl (lv_at hl 0 rfl) ?_
        refine va_get (D := D) (ci := 9) (v := .ref (q 24)) (C := RX9) (T := TX9) (N := 30) hx hb hts hiX9 hown hK hP 0 rfl rfl 28 (by decide) hf81 (fun _ h9 => h9) rfl dX9_measures_11 ?_
        refine lv_iload hx hb dX9_measures_14 (lv_at hl 4 rfl) ?_
        refine lv_iload hx hb dX9_measures_16 (lv_at hl 4 rfl) ?_
        refine lv_iload_n hx hb dX9_measures_18 rfl (lv_at hl 3 rfl) ?_
        refine lv_icmp_ne (tgt := 26) hx hb dX9_measures_19 (by decide) (fun hc => ?_) (fun hc => ?_)
        · have hw := hw.1 hc
          refine lv_bipush (v := 100) hx hb dX9_measures_26 (by decide) ?_
          refine J28 x1 x2 x3 x4 x4 100 u _ _ hw hP hD hS ls (lv_sub hl [0, 1, 2, 3, 4] rfl) (fun y1 u2 H locs hw hP hD hS ls hl => ?_)
          exact ih y1 u2 _ _ hw hP hD hS ls (lv_sub hl [0, 1, 2, 3, 4] rfl) k35
        · have hw := hw.2 hc
          refine lv_iconst (v := 0) hx hb dX9_measures_22 (by decide) ?_
          refine lv_goto (tgt := 28) hx hb dX9_measures_23 (by decide) ?_
          refine J28 x1 x2 x3 x4 x4 0 u _ _ hw hP hD hS ls (lv_sub hl [0, 1, 2, 3, 4] rfl) (fun y3 u4 H locs hw hP hD hS ls hl => ?_)
          exact ih y3 u4 _ _ hw hP hD hS ls (lv_sub hl [0, 1, 2, 3, 4] rfl) k35
  have J142 : ∀ {K50 : Int32 → WU → Prop} (x1 : Int32) (x2 : Int32) (x4 : Int32) (x5 : Int32) (u : WU) (H : Heap) (locs : List Loc), wp_X9_measures_J142 x1 x2 x4 x5 u post K50 → va_P D vwCl (wM q cI cJ cZ u) H → va_D (va_A (wM q cI cJ cZ u00) s.heap.size) (wM q cI cJ cZ u) → va_S (va_A (wM q cI cJ cZ u00) s.heap.size) s.heap H locs → ∀ ls : Array Slot, lv_has ls 6 [(0, .ref (q 0)), (1, .int x1), (2, .int x2), (4, .int x4), (5, .int x5)] → (∀ (x5 : Int32) (u : WU) (H : Heap) (locs : List Loc), K50 x5 u → va_P D vwCl (wM q cI cJ cZ u) H → va_D (va_A (wM q cI cJ cZ u00) s.heap.size) (wM q cI cJ cZ u) → va_S (va_A (wM q cI cJ cZ u00) s.heap.size) s.heap H locs → ∀ ls : Array Slot, lv_has ls 6 [(0, .ref (q 0)), (1, .int x1), (2, .int x2), (4, .int x4), (5, .int x5)] → W p l e (headSpec wsX9_measures rm_X9_measures).room s m args below meth c H locs 0 0 (MQ below (va_Qv post (fun u' t => va_P D vwCl (wM q cI cJ cZ u') t.heap) (va_A (wM q cI cJ cZ u00) s.heap.size)) args s 0 0 (va_A (wM q cI cJ cZ u00) s.heap.size)) (F0 m 50 ls [])) → W p l e (headSpec wsX9_measures rm_X9_measures).room s m args below meth c H locs 0 0 (MQ below (va_Qv post (fun u' t => va_P D vwCl (wM q cI cJ cZ u') t.heap) (va_A (wM q cI cJ cZ u00) s.heap.size)) args s 0 0 (va_A (wM q cI cJ cZ u00) s.heap.size)) (F0 m 142 ls []) := by
    intro K50 x1 x2 x4 x5 u H locs hw hP hD hS ls hl k50
    unfold wp_X9_measures_J142 at hw
    obtain ⟨y21, ey21⟩ : ∃ z : Int32, z = x5 + 1 := ⟨_, rfl⟩
    have hw := hw y21 ey21
    refine lv_iinc (v := y21) (lv' := [(5, .int y21), (0, .ref (q 0)), (1, .int x1), (2, .int x2), (4, .int x4)]) hx hb dX9_measures_142 hl (k := 4) rfl (by rw [ey21]; rfl) (by decide) rfl (fun ls hl => ?_)
    refine lv_goto (tgt := 50) hx hb dX9_measures_145 (by decide) ?_
    exact k50 y21 u _ _ hw hP hD hS ls (lv_sub hl [1, 2, 3, 4, 0] rfl)
  have L50 : ∀ {K148 : WU → Prop} (x1 : Int32) (x2 : Int32) (x4 : Int32) (n : Nat) (x5 : Int32) (u : WU) (H : Heap) (locs : List Loc), wp_X9_measures_L50 x1 x2 x4 post K148 n x5 u → va_P D vwCl (wM q cI cJ cZ u) H → va_D (va_A (wM q cI cJ cZ u00) s.heap.size) (wM q cI cJ cZ u) → va_S (va_A (wM q cI cJ cZ u00) s.heap.size) s.heap H locs → ∀ ls : Array Slot, lv_has ls 6 [(0, .ref (q 0)), (1, .int x1), (2, .int x2), (4, .int x4), (5, .int x5)] → (∀ (u : WU) (H : Heap) (locs : List Loc), K148 u → va_P D vwCl (wM q cI cJ cZ u) H → va_D (va_A (wM q cI cJ cZ u00) s.heap.size) (wM q cI cJ cZ u) → va_S (va_A (wM q cI cJ cZ u00) s.heap.size) s.heap H locs → ∀ ls : Array Slot, lv_has ls 6 [(0, .ref (q 0)), (1, .int x1), (2, .int x2), (4, .int x4)] → W p l e (headSpec wsX9_measures rm_X9_measures).room s m args below meth c H locs 0 0 (MQ below (va_Qv post (fun u' t => va_P D vwCl (wM q cI cJ cZ u') t.heap) (va_A (wM q cI cJ cZ u00) s.heap.size)) args s 0 0 (va_A (wM q cI cJ cZ u00) s.heap.size)) (F0 m 148 ls [])) → W p l e (headSpec wsX9_measures rm_X9_measures).room s m args below meth c H locs 0 0 (MQ below (va_Qv post (fun u' t => va_P D vwCl (wM q cI cJ cZ u') t.heap) (va_A (wM q cI cJ cZ u00) s.heap.size)) args s 0 0 (va_A (wM q cI cJ cZ u00) s.heap.size)) (F0 m 50 ls []) := by
    intro K148 x1 x2 x4 n
    induction n with
    | zero =>
      intro x5 u H locs hw
      exact hw.elim
    | succ n ih =>
      intro x5 u H locs hw hP hD hS ls hl k148
      unfold wp_X9_measures_L50 at hw
      refine lv_iload hx hb dX9_measures_50 (lv_at hl 4 rfl) ?_
      refine lv_aload_n hx hb dX9_measures_52 rfl (lv_at hl 0 rfl) ?_
      refine va_get (D := D) (ci := 9) (v := .int (u.1 23 0)) (C := RX9) (T := TX9) (N := 30) hx hb hts hiX9 hown hK hP 0 rfl rfl 9 (by decide) hf108 (fun _ h9 => h9) rfl dX9_measures_53 ?_
      refine lv_icmp_ge (tgt := 148) hx hb dX9_measures_56 (by decide) (fun hc => ?_) (fun hc => ?_)
      · have hw := hw.1 hc
        exact k148 u _ _ hw hP hD hS ls (lv_sub hl [0, 1, 2, 3] rfl)
      · have hw := hw.2 hc
        refine lv_aload_n hx hb dX9_measures_59 rfl (lv_at hl 0 rfl) ?_
        refine va_get (D := D) (ci := 9) (v := .ref (q 17)) (C := RX9) (T := TX9) (N := 30) hx hb hts hiX9 hown hK hP 0 rfl rfl 20 (by decide) hf60 (fun _ h9 => h9) rfl dX9_measures_60 ?_
        refine lv_iload hx hb dX9_measures_63 (lv_at hl 4 rfl) ?_
        obtain ⟨hin, hw⟩ := hw
        refine va_zald hx hb hK hP 17 2 rfl rfl hin dX9_measures_65 ?_
        refine lv_if_ne (tgt := 142) hx hb dX9_measures_66 (by decide) (fun hc => ?_) (fun hc => ?_)
        · have hw := hw.1 hc
          refine J142 x1 x2 x4 x5 u _ _ hw hP hD hS ls (lv_sub hl [0, 1, 2, 3, 4] rfl) (fun y7 u8 H locs hw hP hD hS ls hl => ?_)
          exact ih y7 u8 _ _ hw hP hD hS ls (lv_sub hl [0, 1, 2, 3, 4] rfl) k148
        · have hw := hw.2 hc
          refine lv_aload_n hx hb dX9_measures_69 rfl (lv_at hl 0 rfl) ?_
          refine va_get (D := D) (ci := 9) (v := .ref (q 2)) (C := RX9) (T := TX9) (N := 30) hx hb hts hiX9 hown hK hP 0 rfl rfl 1 (by decide) hf13 (fun _ h9 => h9) rfl dX9_measures_70 ?_
          refine lv_aload_n hx hb dX9_measures_73 rfl (lv_at hl 0 rfl) ?_
          refine va_get (D := D) (ci := 9) (v := .ref (q 10)) (C := RX9) (T := TX9) (N := 30) hx hb hts hiX9 hown hK hP 0 rfl rfl 12 (by decide) hf38 (fun _ h9 => h9) rfl dX9_measures_74 ?_
          refine lv_iload hx hb dX9_measures_77 (lv_at hl 4 rfl) ?_
          obtain ⟨hin, hw⟩ := hw
          refine va_iald hx hb hK hP 10 0 rfl rfl hin dX9_measures_79 ?_
          obtain ⟨hin, hw⟩ := hw
          refine va_lald hx hb hK hP 2 1 rfl rfl hin dX9_measures_80 ?_
          refine lv_iload_n hx hb dX9_measures_81 rfl (lv_at hl 1 rfl) ?_
          refine lv_iload_n hx hb dX9_measures_82 rfl (lv_at hl 2 rfl) ?_
          refine vp_callSl (va_Run.run (va_runS (As := [.int x1, .int x2]) (rest := [.long (u.2 0 (u.1 7 x5.toNatClampNeg).toNatClampNeg)]) ⟨hx, hb, hml, hown, hts⟩ (c_X9_bit l x1 x2 _ hw) (va_cwS 2 hts gX9_measures_X9_bit rfl rfl rfl (by decide +kernel) ⟨Nat.le_of_ble_eq_true rfl, Nat.le_of_ble_eq_true rfl⟩) (psS hN) rfl rfl hl.1 rfl (lv_room (Nat.le_of_ble_eq_true rfl)) dX9_measures_83 ⟨Nat.zero_le _, Nat.zero_le _⟩)) (fun r9 hw => ?_)
          refine lv_land hx hb dX9_measures_86 ?_
          refine lv_lconst (v := 0) hx hb dX9_measures_87 (by decide) ?_
          refine W.lcmp hx hb dX9_measures_88 ?_
          refine lv_if_eq (tgt := 142) hx hb dX9_measures_89 (by decide) (fun hc => ?_) (fun hc => ?_)
          · have hw := hw.1 hc
            refine J142 x1 x2 x4 x5 u _ _ hw hP hD hS ls (lv_sub hl [0, 1, 2, 3, 4] rfl) (fun y10 u11 H locs hw hP hD hS ls hl => ?_)
            exact ih y10 u11 _ _ hw hP hD hS ls (lv_sub hl [0, 1, 2, 3, 4] rfl) k148
          · have hw := hw.2 hc
            refine lv_aload_n hx hb dX9_measures_92 rfl (lv_at hl 0 rfl) ?_
            refine va_get (D := D) (ci := 9) (v := .ref (q 24)) (C := RX9) (T := TX9) (N := 30) hx hb hts hiX9 hown hK hP 0 rfl rfl 28 (by decide) hf81 (fun _ h9 => h9) rfl dX9_measures_93 ?_
            refine lv_aload_n hx hb dX9_measures_96 rfl (lv_at hl 0 rfl) ?_
            refine va_get (D := D) (ci := 9) (v := .ref (q 9)) (C := RX9) (T := TX9) (N := 30) hx hb hts hiX9 hown hK hP 0 rfl rfl 11 (by decide) hf35 (fun _ h9 => h9) rfl dX9_measures_97 ?_
            refine lv_iload hx hb dX9_measures_100 (lv_at hl 4 rfl) ?_
            obtain ⟨hin, hw⟩ := hw
            refine va_iald hx hb hK hP 9 0 rfl rfl hin dX9_measures_102 ?_
            obtain ⟨hin, hw⟩ := hw
            refine va_iald hx hb hK hP 24 0 rfl rfl hin dX9_measures_103 ?_
            refine lv_iload hx hb dX9_measures_104 (lv_at hl 3 rfl) ?_
            refine lv_iconst (v := 1) hx hb dX9_measures_106 (by decide) ?_
            refine lv_isub hx hb dX9_measures_107 ?_
            refine lv_icmp_ne (tgt := 142) hx hb dX9_measures_108 (by decide) (fun hc => ?_) (fun hc => ?_)
            · have hw := hw.1 hc
              refine J142 x1 x2 x4 x5 u _ _ hw hP hD hS ls (lv_sub hl [0, 1, 2, 3, 4] rfl) (fun y12 u13 H locs hw hP hD hS ls hl => ?_)
              exact ih y12 u13 _ _ hw hP hD hS ls (lv_sub hl [0, 1, 2, 3, 4] rfl) k148
            · have hw := hw.2 hc
              refine lv_aload_n hx hb dX9_measures_111 rfl (lv_at hl 0 rfl) ?_
              refine va_get (D := D) (ci := 9) (v := .ref (q 24)) (C := RX9) (T := TX9) (N := 30) hx hb hts hiX9 hown hK hP 0 rfl rfl 28 (by decide) hf81 (fun _ h9 => h9) rfl dX9_measures_112 ?_
              refine lv_aload_n hx hb dX9_measures_115 rfl (lv_at hl 0 rfl) ?_
              refine va_get (D := D) (ci := 9) (v := .ref (q 8)) (C := RX9) (T := TX9) (N := 30) hx hb hts hiX9 hown hK hP 0 rfl rfl 10 (by decide) hf32 (fun _ h9 => h9) rfl dX9_measures_116 ?_
              refine lv_iload hx hb dX9_measures_119 (lv_at hl 4 rfl) ?_
              obtain ⟨hin, hw⟩ := hw
              refine va_iald hx hb hK hP 8 0 rfl rfl hin dX9_measures_121 ?_
              obtain ⟨hin, hw⟩ := hw
              refine va_iald hx hb hK hP 24 0 rfl rfl hin dX9_measures_122 ?_
              refine lv_iload hx hb dX9_measures_123 (lv_at hl 3 rfl) ?_
              refine lv_icmp_le (tgt := 142) hx hb dX9_measures_125 (by decide) (fun hc => ?_) (fun hc => ?_)
              · have hw := hw.1 hc
                refine J142 x1 x2 x4 x5 u _ _ hw hP hD hS ls (lv_sub hl [0, 1, 2, 3, 4] rfl) (fun y14 u15 H locs hw hP hD hS ls hl => ?_)
                exact ih y14 u15 _ _ hw hP hD hS ls (lv_sub hl [0, 1, 2, 3, 4] rfl) k148
              · have hw := hw.2 hc
                refine lv_aload_n hx hb dX9_measures_128 rfl (lv_at hl 0 rfl) ?_
                refine va_get (D := D) (ci := 9) (v := .ref (q 24)) (C := RX9) (T := TX9) (N := 30) hx hb hts hiX9 hown hK hP 0 rfl rfl 28 (by decide) hf81 (fun _ h9 => h9) rfl dX9_measures_129 ?_
                refine lv_aload_n hx hb dX9_measures_132 rfl (lv_at hl 0 rfl) ?_
                refine va_get (D := D) (ci := 9) (v := .ref (q 8)) (C := RX9) (T := TX9) (N := 30) hx hb hts hiX9 hown hK hP 0 rfl rfl 10 (by decide) hf32 (fun _ h9 => h9) rfl dX9_measures_133 ?_
                refine lv_iload hx hb dX9_measures_136 (lv_at hl 4 rfl) ?_
                obtain ⟨hin, hw⟩ := hw
                refine va_iald hx hb hK hP 8 0 rfl rfl hin dX9_measures_138 ?_
                refine lv_iload hx hb dX9_measures_139 (lv_at hl 3 rfl) ?_
                obtain ⟨hin, hw⟩ := hw
                refine sIast (w := wM q cI cJ cZ) hx hb hK hP hD hS 24 0 20 rfl rfl (wMa_24 q cI cJ cZ u) hin dX9_measures_141 (fun u16 H locs eu16 hP hD hS => ?_)
                have hw := hw u16 eu16
                refine J142 x1 x2 x4 x5 u16 _ _ hw hP hD hS ls (lv_sub hl [0, 1, 2, 3, 4] rfl) (fun y17 u18 H locs hw hP hD hS ls hl => ?_)
                exact ih y17 u18 _ _ hw hP hD hS ls (lv_sub hl [0, 1, 2, 3, 4] rfl) k148
  have L38 : ∀ (x1 : Int32) (x2 : Int32) (n : Nat) (x4 : Int32) (u : WU) (H : Heap) (locs : List Loc), wp_X9_measures_L38 x1 x2 post n x4 u → va_P D vwCl (wM q cI cJ cZ u) H → va_D (va_A (wM q cI cJ cZ u00) s.heap.size) (wM q cI cJ cZ u) → va_S (va_A (wM q cI cJ cZ u00) s.heap.size) s.heap H locs → ∀ ls : Array Slot, lv_has ls 6 [(0, .ref (q 0)), (1, .int x1), (2, .int x2), (4, .int x4)] → W p l e (headSpec wsX9_measures rm_X9_measures).room s m args below meth c H locs 0 0 (MQ below (va_Qv post (fun u' t => va_P D vwCl (wM q cI cJ cZ u') t.heap) (va_A (wM q cI cJ cZ u00) s.heap.size)) args s 0 0 (va_A (wM q cI cJ cZ u00) s.heap.size)) (F0 m 38 ls []) := by
    intro x1 x2 n
    induction n with
    | zero =>
      intro x4 u H locs hw
      exact hw.elim
    | succ n ih =>
      intro x4 u H locs hw hP hD hS ls hl 
      unfold wp_X9_measures_L38 at hw
      refine lv_iload hx hb dX9_measures_38 (lv_at hl 3 rfl) ?_
      refine lv_aload_n hx hb dX9_measures_40 rfl (lv_at hl 0 rfl) ?_
      refine va_get (D := D) (ci := 9) (v := .int (u.1 21 0)) (C := RX9) (T := TX9) (N := 30) hx hb hts hiX9 hown hK hP 0 rfl rfl 3 (by decide) hf87 (fun _ h9 => h9) rfl dX9_measures_41 ?_
      refine lv_icmp_gt (tgt := 154) hx hb dX9_measures_44 (by decide) (fun hc => ?_) (fun hc => ?_)
      · have hw := hw.1 hc
        exact W.vret hx hb hr (fun t ht hW => ⟨⟨u, rfl, hw, by show va_P D vwCl _ t.heap; rw [ht]; exact hP⟩, hS.F ht⟩) hS.2.2 dX9_measures_154
      · have hw := hw.2 hc
        refine lv_iconst (v := 0) hx hb dX9_measures_47 (by decide) ?_
        refine lv_istore (lv' := [(5, .int 0), (0, .ref (q 0)), (1, .int x1), (2, .int x2), (4, .int x4)]) hx hb dX9_measures_48 hl (by decide) rfl (fun ls hl => ?_)
        obtain ⟨nn, hw⟩ := hw
        refine L50 x1 x2 x4 nn 0 u _ _ hw hP hD hS ls (lv_sub hl [1, 2, 3, 4, 0] rfl) (fun  u5 H locs hw hP hD hS ls hl => ?_)
        obtain ⟨y6, ey6⟩ : ∃ z : Int32, z = x4 + 1 := ⟨_, rfl⟩
        have hw := hw y6 ey6
        refine lv_iinc (v := y6) (lv' := [(4, .int y6), (0, .ref (q 0)), (1, .int x1), (2, .int x2)]) hx hb dX9_measures_148 hl (k := 3) rfl (by rw [ey6]; rfl) (by decide) rfl (fun ls hl => ?_)
        refine lv_goto (tgt := 38) hx hb dX9_measures_151 (by decide) ?_
        exact ih y6 u5 _ _ hw hP hD hS ls (lv_sub hl [1, 2, 3, 0] rfl)
  have hent := lg_entry_eq m ([.ref (q 0), .int x1, .int x2, .int x3]) 6
  rw [← hargs] at hent
  rw [hent]
  have hl := lv_entry ([.ref (q 0), .int x1, .int x2, .int x3]) (n := 6) (Nat.le_of_ble_eq_true rfl)
  generalize (lg_sl ([.ref (q 0), .int x1, .int x2, .int x3]) ++ List.replicate (6 - (lg_sl ([.ref (q 0), .int x1, .int x2, .int x3])).length) Slot.unset).toArray = ls at hl ⊢
  have hl : lv_has ls 6 [(0, .ref (q 0)), (1, .int x1), (2, .int x2), (3, .int x3)] := hl
  unfold wp_X9_measures at hw
  refine lv_iconst (v := 0) hx hb dX9_measures_0 (by decide) ?_
  refine lv_istore (lv' := [(4, .int 0), (0, .ref (q 0)), (1, .int x1), (2, .int x2), (3, .int x3)]) hx hb dX9_measures_1 hl (by decide) rfl (fun ls hl => ?_)
  obtain ⟨nn, hw⟩ := hw
  refine L3 x1 x2 x3 nn 0 u _ _ hw hP hD hS ls (lv_sub hl [1, 2, 3, 4, 0] rfl) (fun  u22 H locs hw hP hD hS ls hl => ?_)
  refine lv_iconst (v := 1) hx hb dX9_measures_35 (by decide) ?_
  refine lv_istore (lv' := [(4, .int 1), (0, .ref (q 0)), (1, .int x1), (2, .int x2)]) hx hb dX9_measures_36 hl (by decide) rfl (fun ls hl => ?_)
  obtain ⟨nn, hw⟩ := hw
  refine L38 x1 x2 nn 1 u22 _ _ hw hP hD hS ls (lv_sub hl [1, 2, 3, 0] rfl)
