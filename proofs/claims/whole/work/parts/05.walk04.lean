set_option maxHeartbeats 4000000 in
set_option maxRecDepth 100000 in
theorem c_X8_join (l : Launch) (D : va_G) (q : Nat → Nat) (cI cJ cZ : ClassId) (sz : Nat) (u : WU) (x1 : Int32) (x2 : Int32) (x3 : Int32) (post : Int32 → WU → Prop) (hw : wp_X8_join x1 x2 x3 u post) : Met l yX8_join wsX8_join rm_X8_join (va_Pc [.ref (q 0), .int x1, .int x2, .int x3] (MW D (ty3 cI cJ cZ) (wX q cI cJ cZ u) sz)) (va_Qi post (fun u' t => va_P D vwCl (wX q cI cJ cZ u') t.heap) (va_A (wX q cI cJ cZ u00) sz)) 0 0 (va_A (wX q cI cJ cZ u00) sz) := by
  refine Met.ofW (cc := cX8_join) (maxL := 4) (ret := (some .int)) (by decide) rfl ?_
  intro p e s m args below meth c s₁ B hml hv
  obtain ⟨hargs, hsz, hP, hK, hD0, hN⟩ := hv
  have hx := B.exec
  have hb := B.bytes
  have hr := B.returns
  have hts := atoms_spec (ws := wsX8_join) B.pre
  have hown : s.vm.findClass RX8 = some m.cls := findClass_of_methodNamed B.named
  have hlocks := B.notSynchronized
  subst hsz
  have hD := shw_self (sz := s.heap.size) (sh_wX q cI cJ cZ) hD0
  have hA : ∀ a : Nat, s.heap.size ≤ a → va_A (wX q cI cJ cZ u00) s.heap.size a := fun _ h => Or.inr h
  have hS : va_S (va_A (wX q cI cJ cZ u00) s.heap.size) s.heap s.heap [] := va_S.rf
  have hiX3 : ∀ w ∈ u_ws RX3 TX3 9, w ∈ wsX8_join := by decide +kernel
  have hiX8 : ∀ w ∈ u_ws RX8 TX8 8, w ∈ wsX8_join := by decide +kernel
  have hf19 := hts (.fieldLink RX8 19 "TermsDesk" "parts" "LTermsDesk$Parts;") (by decide +kernel)
  have hf26 := hts (.fieldLink RX8 26 "TermsDesk" "joins" "LTermsDesk$Joins;") (by decide +kernel)
  have hent := lg_entry_eq m ([.ref (q 0), .int x1, .int x2, .int x3]) 4
  rw [← hargs] at hent
  rw [hent]
  have hl := lv_entry ([.ref (q 0), .int x1, .int x2, .int x3]) (n := 4) (Nat.le_of_ble_eq_true rfl)
  generalize (lg_sl ([.ref (q 0), .int x1, .int x2, .int x3]) ++ List.replicate (4 - (lg_sl ([.ref (q 0), .int x1, .int x2, .int x3])).length) Slot.unset).toArray = ls at hl ⊢
  have hl : lv_has ls 4 [(0, .ref (q 0)), (1, .int x1), (2, .int x2), (3, .int x3)] := hl
  unfold wp_X8_join at hw
  refine lv_aload_n hx hb dX8_join_0 rfl (lv_at hl 0 rfl) ?_
  refine va_get (D := D) (ci := 8) (v := .ref (q 2)) (C := RX8) (T := TX8) (N := 8) hx hb hts hiX8 hown hK hP 0 rfl rfl 1 (by decide) hf19 (fun _ h9 => h9) rfl dX8_join_1 ?_
  refine lv_iload_n hx hb dX8_join_4 rfl (lv_at hl 1 rfl) ?_
  refine vp_callSi (va_Run.run (va_runV (As := [.int x1]) (rest := []) ⟨hx, hb, hml, hown, hts⟩ (c_X5_has l D q cI cJ cZ u x1 _ hw) (cwV 1 hts gX8_join_X5_has rfl rfl rfl (by decide +kernel) ⟨Nat.le_of_ble_eq_true rfl, Nat.le_of_ble_eq_true rfl⟩) (pvR (va_recv hK hP (ci := 5) (q0 := 2) (q := (RX5, TX5, 6)) rfl rfl) hK hP hN) rfl rfl hl.1 rfl (lv_room (Nat.le_of_ble_eq_true rfl)) dX8_join_5 ⟨Nat.zero_le _, Nat.zero_le _⟩)) (fun r1 hw => ?_)
  refine lv_if_eq (tgt := 42) hx hb dX8_join_8 (by decide) (fun hc => ?_) (fun hc => ?_)
  · have hw := hw.1 hc
    refine lv_iconst (v := (-1)) hx hb dX8_join_42 (by decide) ?_
    exact W.iret (v := (-1)) hx hb hr (fun t ht hW => ⟨⟨(-1), u, rfl, hw, by show va_P D vwCl _ t.heap; rw [ht]; exact hP⟩, hS.F ht⟩) hS.2.2 dX8_join_43
  · have hw := hw.2 hc
    refine lv_aload_n hx hb dX8_join_11 rfl (lv_at hl 0 rfl) ?_
    refine va_get (D := D) (ci := 8) (v := .ref (q 2)) (C := RX8) (T := TX8) (N := 8) hx hb hts hiX8 hown hK hP 0 rfl rfl 1 (by decide) hf19 (fun _ h9 => h9) rfl dX8_join_12 ?_
    refine lv_iload_n hx hb dX8_join_15 rfl (lv_at hl 2 rfl) ?_
    refine vp_callSi (va_Run.run (va_runV (As := [.int x2]) (rest := []) ⟨hx, hb, hml, hown, hts⟩ (c_X5_has l D q cI cJ cZ u x2 _ hw) (cwV 1 hts gX8_join_X5_has rfl rfl rfl (by decide +kernel) ⟨Nat.le_of_ble_eq_true rfl, Nat.le_of_ble_eq_true rfl⟩) (pvR (va_recv hK hP (ci := 5) (q0 := 2) (q := (RX5, TX5, 6)) rfl rfl) hK hP hN) rfl rfl hl.1 rfl (lv_room (Nat.le_of_ble_eq_true rfl)) dX8_join_16 ⟨Nat.zero_le _, Nat.zero_le _⟩)) (fun r2 hw => ?_)
    refine lv_if_eq (tgt := 42) hx hb dX8_join_19 (by decide) (fun hc => ?_) (fun hc => ?_)
    · have hw := hw.1 hc
      refine lv_iconst (v := (-1)) hx hb dX8_join_42 (by decide) ?_
      exact W.iret (v := (-1)) hx hb hr (fun t ht hW => ⟨⟨(-1), u, rfl, hw, by show va_P D vwCl _ t.heap; rw [ht]; exact hP⟩, hS.F ht⟩) hS.2.2 dX8_join_43
    · have hw := hw.2 hc
      refine lv_iload_n hx hb dX8_join_22 rfl (lv_at hl 3 rfl) ?_
      refine lv_iconst (v := 4) hx hb dX8_join_23 (by decide) ?_
      refine vp_callSi (va_Run.run (va_runS (As := [.int x3, .int 4]) (rest := []) ⟨hx, hb, hml, hown, hts⟩ (c_X8_within l x3 4 _ hw) (va_cwS 2 hts gX8_join_X8_within rfl rfl rfl (by decide +kernel) ⟨Nat.le_of_ble_eq_true rfl, Nat.le_of_ble_eq_true rfl⟩) (psS hN) rfl rfl hl.1 rfl (lv_room (Nat.le_of_ble_eq_true rfl)) dX8_join_24 ⟨Nat.zero_le _, Nat.zero_le _⟩)) (fun r3 hw => ?_)
      refine lv_if_eq (tgt := 42) hx hb dX8_join_27 (by decide) (fun hc => ?_) (fun hc => ?_)
      · have hw := hw.1 hc
        refine lv_iconst (v := (-1)) hx hb dX8_join_42 (by decide) ?_
        exact W.iret (v := (-1)) hx hb hr (fun t ht hW => ⟨⟨(-1), u, rfl, hw, by show va_P D vwCl _ t.heap; rw [ht]; exact hP⟩, hS.F ht⟩) hS.2.2 dX8_join_43
      · have hw := hw.2 hc
        refine lv_aload_n hx hb dX8_join_30 rfl (lv_at hl 0 rfl) ?_
        refine va_get (D := D) (ci := 8) (v := .ref (q 3)) (C := RX8) (T := TX8) (N := 8) hx hb hts hiX8 hown hK hP 0 rfl rfl 2 (by decide) hf26 (fun _ h9 => h9) rfl dX8_join_31 ?_
        refine va_getN (D := D) (ci := 3) (v := .int (u.1 22 0)) (C := RX3) (T := TX3) (N := 9) hx hb hts hiX3 hown hK hP 3 rfl rfl 3 (by decide) (va_Nw.use rfl (nf_RX8_118 hN)) (fun _ h9 => h9) rfl dX8_join_34 ?_
        refine lv_bipush (v := 40) hx hb dX8_join_37 (by decide) ?_
        refine lv_icmp_lt (tgt := 44) hx hb dX8_join_39 (by decide) (fun hc => ?_) (fun hc => ?_)
        · have hw := hw.1 hc
          refine lv_aload_n hx hb dX8_join_44 rfl (lv_at hl 0 rfl) ?_
          refine va_get (D := D) (ci := 8) (v := .ref (q 3)) (C := RX8) (T := TX8) (N := 8) hx hb hts hiX8 hown hK hP 0 rfl rfl 2 (by decide) hf26 (fun _ h9 => h9) rfl dX8_join_45 ?_
          refine lv_iload_n hx hb dX8_join_48 rfl (lv_at hl 1 rfl) ?_
          refine lv_iload_n hx hb dX8_join_49 rfl (lv_at hl 2 rfl) ?_
          refine vp_callSi (va_Run.run (va_runV (As := [.int x1, .int x2]) (rest := []) ⟨hx, hb, hml, hown, hts⟩ (c_X3_leads l D q cI cJ cZ u x1 x2 _ hw) (cwV 2 hts gX8_join_X3_leads rfl rfl rfl (by decide +kernel) ⟨Nat.le_of_ble_eq_true rfl, Nat.le_of_ble_eq_true rfl⟩) (pvR (va_recv hK hP (ci := 3) (q0 := 3) (q := (RX3, TX3, 9)) rfl rfl) hK hP hN) rfl rfl hl.1 rfl (lv_room (Nat.le_of_ble_eq_true rfl)) dX8_join_50 ⟨Nat.zero_le _, Nat.zero_le _⟩)) (fun r4 hw => ?_)
          refine lv_if_ne (tgt := 79) hx hb dX8_join_53 (by decide) (fun hc => ?_) (fun hc => ?_)
          · have hw := hw.1 hc
            refine lv_iconst (v := (-1)) hx hb dX8_join_79 (by decide) ?_
            exact W.iret (v := (-1)) hx hb hr (fun t ht hW => ⟨⟨(-1), u, rfl, hw, by show va_P D vwCl _ t.heap; rw [ht]; exact hP⟩, hS.F ht⟩) hS.2.2 dX8_join_80
          · have hw := hw.2 hc
            refine lv_aload_n hx hb dX8_join_56 rfl (lv_at hl 0 rfl) ?_
            refine va_get (D := D) (ci := 8) (v := .ref (q 3)) (C := RX8) (T := TX8) (N := 8) hx hb hts hiX8 hown hK hP 0 rfl rfl 2 (by decide) hf26 (fun _ h9 => h9) rfl dX8_join_57 ?_
            refine lv_iload_n hx hb dX8_join_60 rfl (lv_at hl 1 rfl) ?_
            refine lv_aload_n hx hb dX8_join_61 rfl (lv_at hl 0 rfl) ?_
            refine va_get (D := D) (ci := 8) (v := .ref (q 3)) (C := RX8) (T := TX8) (N := 8) hx hb hts hiX8 hown hK hP 0 rfl rfl 2 (by decide) hf26 (fun _ h9 => h9) rfl dX8_join_62 ?_
            refine va_getN (D := D) (ci := 3) (v := .long (u.2 6 0)) (C := RX3) (T := TX3) (N := 9) hx hb hts hiX3 hown hK hP 3 rfl rfl 4 (by decide) (va_Nw.use rfl (nf_RX8_122 hN)) (fun _ h9 => h9) rfl dX8_join_65 ?_
            refine vp_callSi (va_Run.run (va_runV (As := [.int x1, .long (u.2 6 0)]) (rest := []) ⟨hx, hb, hml, hown, hts⟩ (c_X3_allIn l D q cI cJ cZ u x1 (u.2 6 0) _ hw) (cwV 2 hts gX8_join_X3_allIn rfl rfl rfl (by decide +kernel) ⟨Nat.le_of_ble_eq_true rfl, Nat.le_of_ble_eq_true rfl⟩) (pvR (va_recv hK hP (ci := 3) (q0 := 3) (q := (RX3, TX3, 9)) rfl rfl) hK hP hN) rfl rfl hl.1 rfl (lv_room (Nat.le_of_ble_eq_true rfl)) dX8_join_68 ⟨Nat.zero_le _, Nat.zero_le _⟩)) (fun r5 hw => ?_)
            refine lv_i2l (v := r5.toInt64) hx hb dX8_join_71 rfl ?_
            refine lv_iload_n hx hb dX8_join_72 rfl (lv_at hl 2 rfl) ?_
            refine vp_callSi (va_Run.run (va_runS (As := [.long r5.toInt64, .int x2]) (rest := []) ⟨hx, hb, hml, hown, hts⟩ (c_X8_holds l r5.toInt64 x2 _ hw) (va_cwS 2 hts gX8_join_X8_holds rfl rfl rfl (by decide +kernel) ⟨Nat.le_of_ble_eq_true rfl, Nat.le_of_ble_eq_true rfl⟩) (psS hN) rfl rfl hl.1 rfl (lv_room (Nat.le_of_ble_eq_true rfl)) dX8_join_73 ⟨Nat.zero_le _, Nat.zero_le _⟩)) (fun r6 hw => ?_)
            refine lv_if_eq (tgt := 81) hx hb dX8_join_76 (by decide) (fun hc => ?_) (fun hc => ?_)
            · have hw := hw.1 hc
              refine lv_aload_n hx hb dX8_join_81 rfl (lv_at hl 0 rfl) ?_
              refine va_get (D := D) (ci := 8) (v := .ref (q 3)) (C := RX8) (T := TX8) (N := 8) hx hb hts hiX8 hown hK hP 0 rfl rfl 2 (by decide) hf26 (fun _ h9 => h9) rfl dX8_join_82 ?_
              refine lv_iload_n hx hb dX8_join_85 rfl (lv_at hl 1 rfl) ?_
              refine lv_iload_n hx hb dX8_join_86 rfl (lv_at hl 2 rfl) ?_
              refine lv_iload_n hx hb dX8_join_87 rfl (lv_at hl 3 rfl) ?_
              refine cMi (sh_wX q cI cJ cZ) (u := u) (va_runV (As := [.int x1, .int x2, .int x3]) (rest := []) ⟨hx, hb, hml, hown, hts⟩ (c_X3_add l D q cI cJ cZ _ u x1 x2 x3 _ hw) (cwV 3 hts gX8_join_X3_add rfl rfl rfl (by decide +kernel) ⟨Nat.le_of_ble_eq_true rfl, Nat.le_of_ble_eq_true rfl⟩) (pvM (va_recv hK hP (ci := 3) (q0 := 3) (q := (RX3, TX3, 9)) rfl rfl) hK hP hD hN) rfl rfl hl.1 rfl (lv_room (Nat.le_of_ble_eq_true rfl)) dX8_join_88 ⟨Nat.zero_le _, Nat.zero_le _⟩) hA hD hS (fun r8 u7 H locs hw hP hD hS => ?_)
              exact W.iret (v := r8) hx hb hr (fun t ht hW => ⟨⟨r8, u7, rfl, hw, by show va_P D vwCl _ t.heap; rw [ht]; exact hP⟩, hS.F ht⟩) hS.2.2 dX8_join_91
            · have hw := hw.2 hc
              refine lv_iconst (v := (-1)) hx hb dX8_join_79 (by decide) ?_
              exact W.iret (v := (-1)) hx hb hr (fun t ht hW => ⟨⟨(-1), u, rfl, hw, by show va_P D vwCl _ t.heap; rw [ht]; exact hP⟩, hS.F ht⟩) hS.2.2 dX8_join_80
        · have hw := hw.2 hc
          refine lv_iconst (v := (-1)) hx hb dX8_join_42 (by decide) ?_
          exact W.iret (v := (-1)) hx hb hr (fun t ht hW => ⟨⟨(-1), u, rfl, hw, by show va_P D vwCl _ t.heap; rw [ht]; exact hP⟩, hS.F ht⟩) hS.2.2 dX8_join_43
set_option maxHeartbeats 4000000 in
set_option maxRecDepth 100000 in
theorem c_X9_asItIs (l : Launch) (D : va_G) (q : Nat → Nat) (cI cJ cZ : ClassId) (sz : Nat) (u : WU) (post : WU → Prop) (hw : wp_X9_asItIs u post) : Met l yX9_asItIs wsX9_asItIs rm_X9_asItIs (va_Pc [.ref (q 0)] (MW D (ty3 cI cJ cZ) (wM q cI cJ cZ u) sz)) (va_Qv post (fun u' t => va_P D vwCl (wM q cI cJ cZ u') t.heap) (va_A (wM q cI cJ cZ u00) sz)) 0 0 (va_A (wM q cI cJ cZ u00) sz) := by
  refine Met.ofW (cc := cX9_asItIs) (maxL := 2) (ret := none) (by decide) rfl ?_
  intro p e s m args below meth c s₁ B hml hv
  obtain ⟨hargs, hsz, hP, hK, hD0, hN⟩ := hv
  have hx := B.exec
  have hb := B.bytes
  have hr := B.returns
  have hts := atoms_spec (ws := wsX9_asItIs) B.pre
  have hown : s.vm.findClass RX9 = some m.cls := findClass_of_methodNamed B.named
  have hlocks := B.notSynchronized
  subst hsz
  have hD := shw_self (sz := s.heap.size) (sh_wM q cI cJ cZ) hD0
  have hA : ∀ a : Nat, s.heap.size ≤ a → va_A (wM q cI cJ cZ u00) s.heap.size a := fun _ h => Or.inr h
  have hS : va_S (va_A (wM q cI cJ cZ u00) s.heap.size) s.heap s.heap [] := va_S.rf
  have hiX9 : ∀ w ∈ u_ws RX9 TX9 30, w ∈ wsX9_asItIs := by decide +kernel
  have hf108 := hts (.fieldLink RX9 108 "TermsDeskModel" "joins" "I") (by decide +kernel)
  have hf20 := hts (.fieldLink RX9 20 "TermsDeskModel" "choice" "[I") (by decide +kernel)
  have hf26 := hts (.fieldLink RX9 26 "TermsDeskModel" "taken" "[I") (by decide +kernel)
  have hf41 := hts (.fieldLink RX9 41 "TermsDeskModel" "isCut" "[Z") (by decide +kernel)
  have hf60 := hts (.fieldLink RX9 60 "TermsDeskModel" "isGone" "[Z") (by decide +kernel)
  have hf63 := hts (.fieldLink RX9 63 "TermsDeskModel" "has" "[I") (by decide +kernel)
  have hf87 := hts (.fieldLink RX9 87 "TermsDeskModel" "parts" "I") (by decide +kernel)
  have L2 : ∀ {K28 : WU → Prop} (n : Nat) (x1 : Int32) (u : WU) (H : Heap) (locs : List Loc), wp_X9_asItIs_L2 post K28 n x1 u → va_P D vwCl (wM q cI cJ cZ u) H → va_D (va_A (wM q cI cJ cZ u00) s.heap.size) (wM q cI cJ cZ u) → va_S (va_A (wM q cI cJ cZ u00) s.heap.size) s.heap H locs → ∀ ls : Array Slot, lv_has ls 2 [(0, .ref (q 0)), (1, .int x1)] → (∀ (u : WU) (H : Heap) (locs : List Loc), K28 u → va_P D vwCl (wM q cI cJ cZ u) H → va_D (va_A (wM q cI cJ cZ u00) s.heap.size) (wM q cI cJ cZ u) → va_S (va_A (wM q cI cJ cZ u00) s.heap.size) s.heap H locs → ∀ ls : Array Slot, lv_has ls 2 [(0, .ref (q 0))] → W p l e (headSpec wsX9_asItIs rm_X9_asItIs).room s m args below meth c H locs 0 0 (MQ below (va_Qv post (fun u' t => va_P D vwCl (wM q cI cJ cZ u') t.heap) (va_A (wM q cI cJ cZ u00) s.heap.size)) args s 0 0 (va_A (wM q cI cJ cZ u00) s.heap.size)) (F0 m 28 ls [])) → W p l e (headSpec wsX9_asItIs rm_X9_asItIs).room s m args below meth c H locs 0 0 (MQ below (va_Qv post (fun u' t => va_P D vwCl (wM q cI cJ cZ u') t.heap) (va_A (wM q cI cJ cZ u00) s.heap.size)) args s 0 0 (va_A (wM q cI cJ cZ u00) s.heap.size)) (F0 m 2 ls []) := by
    intro K28 n
    induction n with
    | zero =>
      intro x1 u H locs hw
      exact hw.elim
    | succ n ih =>
      intro x1 u H locs hw hP hD hS ls hl k28
      unfold wp_X9_asItIs_L2 at hw
      refine lv_iload_n hx hb dX9_asItIs_2 rfl (lv_at hl 1 rfl) ?_
      refine lv_aload_n hx hb dX9_asItIs_3 rfl (lv_at hl 0 rfl) ?_
      refine va_get (D := D) (ci := 9) (v := .int (u.1 23 0)) (C := RX9) (T := TX9) (N := 30) hx hb hts hiX9 hown hK hP 0 rfl rfl 9 (by decide) hf108 (fun _ h9 => h9) rfl dX9_asItIs_4 ?_
      refine lv_icmp_ge (tgt := 28) hx hb dX9_asItIs_7 (by decide) (fun hc => ?_) (fun hc => ?_)
      · have hw := hw.1 hc
        exact k28 u _ _ hw hP hD hS ls (lv_sub hl [0] rfl)
      · have hw := hw.2 hc
        refine lv_aload_n hx hb dX9_asItIs_10 rfl (lv_at hl 0 rfl) ?_
        refine va_get (D := D) (ci := 9) (v := .ref (q 17)) (C := RX9) (T := TX9) (N := 30) hx hb hts hiX9 hown hK hP 0 rfl rfl 20 (by decide) hf60 (fun _ h9 => h9) rfl dX9_asItIs_11 ?_
        refine lv_iload_n hx hb dX9_asItIs_14 rfl (lv_at hl 1 rfl) ?_
        refine lv_aload_n hx hb dX9_asItIs_15 rfl (lv_at hl 0 rfl) ?_
        refine va_get (D := D) (ci := 9) (v := .ref (q 11)) (C := RX9) (T := TX9) (N := 30) hx hb hts hiX9 hown hK hP 0 rfl rfl 13 (by decide) hf41 (fun _ h9 => h9) rfl dX9_asItIs_16 ?_
        refine lv_iload_n hx hb dX9_asItIs_19 rfl (lv_at hl 1 rfl) ?_
        obtain ⟨hin, hw⟩ := hw
        refine va_zald hx hb hK hP 11 2 rfl rfl hin dX9_asItIs_20 ?_
        obtain ⟨hin, hw⟩ := hw
        refine sZast (w := wM q cI cJ cZ) hx hb hK hP hD hS 17 2 14 rfl rfl (wMa_17 q cI cJ cZ u) hin dX9_asItIs_21 (fun u1 H locs eu1 hP hD hS => ?_)
        have hw := hw u1 eu1
        obtain ⟨y2, ey2⟩ : ∃ z : Int32, z = x1 + 1 := ⟨_, rfl⟩
        have hw := hw y2 ey2
        refine lv_iinc (v := y2) (lv' := [(1, .int y2), (0, .ref (q 0))]) hx hb dX9_asItIs_22 hl (k := 1) rfl (by rw [ey2]; rfl) (by decide) rfl (fun ls hl => ?_)
        refine lv_goto (tgt := 2) hx hb dX9_asItIs_25 (by decide) ?_
        exact ih y2 u1 _ _ hw hP hD hS ls (lv_sub hl [1, 0] rfl) k28
  have L30 : ∀ (n : Nat) (x1 : Int32) (u : WU) (H : Heap) (locs : List Loc), wp_X9_asItIs_L30 post n x1 u → va_P D vwCl (wM q cI cJ cZ u) H → va_D (va_A (wM q cI cJ cZ u00) s.heap.size) (wM q cI cJ cZ u) → va_S (va_A (wM q cI cJ cZ u00) s.heap.size) s.heap H locs → ∀ ls : Array Slot, lv_has ls 2 [(0, .ref (q 0)), (1, .int x1)] → W p l e (headSpec wsX9_asItIs rm_X9_asItIs).room s m args below meth c H locs 0 0 (MQ below (va_Qv post (fun u' t => va_P D vwCl (wM q cI cJ cZ u') t.heap) (va_A (wM q cI cJ cZ u00) s.heap.size)) args s 0 0 (va_A (wM q cI cJ cZ u00) s.heap.size)) (F0 m 30 ls []) := by
    intro  n
    induction n with
    | zero =>
      intro x1 u H locs hw
      exact hw.elim
    | succ n ih =>
      intro x1 u H locs hw hP hD hS ls hl 
      unfold wp_X9_asItIs_L30 at hw
      refine lv_iload_n hx hb dX9_asItIs_30 rfl (lv_at hl 1 rfl) ?_
      refine lv_aload_n hx hb dX9_asItIs_31 rfl (lv_at hl 0 rfl) ?_
      refine va_get (D := D) (ci := 9) (v := .int (u.1 21 0)) (C := RX9) (T := TX9) (N := 30) hx hb hts hiX9 hown hK hP 0 rfl rfl 3 (by decide) hf87 (fun _ h9 => h9) rfl dX9_asItIs_32 ?_
      refine lv_icmp_ge (tgt := 65) hx hb dX9_asItIs_35 (by decide) (fun hc => ?_) (fun hc => ?_)
      · have hw := hw.1 hc
        exact W.vret hx hb hr (fun t ht hW => ⟨⟨u, rfl, hw, by show va_P D vwCl _ t.heap; rw [ht]; exact hP⟩, hS.F ht⟩) hS.2.2 dX9_asItIs_65
      · have hw := hw.2 hc
        refine lv_aload_n hx hb dX9_asItIs_38 rfl (lv_at hl 0 rfl) ?_
        refine va_get (D := D) (ci := 9) (v := .ref (q 18)) (C := RX9) (T := TX9) (N := 30) hx hb hts hiX9 hown hK hP 0 rfl rfl 21 (by decide) hf63 (fun _ h9 => h9) rfl dX9_asItIs_39 ?_
        refine lv_iload_n hx hb dX9_asItIs_42 rfl (lv_at hl 1 rfl) ?_
        refine lv_aload_n hx hb dX9_asItIs_43 rfl (lv_at hl 0 rfl) ?_
        refine va_get (D := D) (ci := 9) (v := .ref (q 4)) (C := RX9) (T := TX9) (N := 30) hx hb hts hiX9 hown hK hP 0 rfl rfl 5 (by decide) hf20 (fun _ h9 => h9) rfl dX9_asItIs_44 ?_
        refine lv_iconst (v := 3) hx hb dX9_asItIs_47 (by decide) ?_
        refine lv_iload_n hx hb dX9_asItIs_48 rfl (lv_at hl 1 rfl) ?_
        refine lv_imul hx hb dX9_asItIs_49 ?_
        refine lv_aload_n hx hb dX9_asItIs_50 rfl (lv_at hl 0 rfl) ?_
        refine va_get (D := D) (ci := 9) (v := .ref (q 6)) (C := RX9) (T := TX9) (N := 30) hx hb hts hiX9 hown hK hP 0 rfl rfl 7 (by decide) hf26 (fun _ h9 => h9) rfl dX9_asItIs_51 ?_
        refine lv_iload_n hx hb dX9_asItIs_54 rfl (lv_at hl 1 rfl) ?_
        obtain ⟨hin, hw⟩ := hw
        refine va_iald hx hb hK hP 6 0 rfl rfl hin dX9_asItIs_55 ?_
        refine lv_iadd hx hb dX9_asItIs_56 ?_
        obtain ⟨hin, hw⟩ := hw
        refine va_iald hx hb hK hP 4 0 rfl rfl hin dX9_asItIs_57 ?_
        obtain ⟨hin, hw⟩ := hw
        refine sIast (w := wM q cI cJ cZ) hx hb hK hP hD hS 18 0 15 rfl rfl (wMa_18 q cI cJ cZ u) hin dX9_asItIs_58 (fun u3 H locs eu3 hP hD hS => ?_)
        have hw := hw u3 eu3
        obtain ⟨y4, ey4⟩ : ∃ z : Int32, z = x1 + 1 := ⟨_, rfl⟩
        have hw := hw y4 ey4
        refine lv_iinc (v := y4) (lv' := [(1, .int y4), (0, .ref (q 0))]) hx hb dX9_asItIs_59 hl (k := 1) rfl (by rw [ey4]; rfl) (by decide) rfl (fun ls hl => ?_)
        refine lv_goto (tgt := 30) hx hb dX9_asItIs_62 (by decide) ?_
        exact ih y4 u3 _ _ hw hP hD hS ls (lv_sub hl [1, 0] rfl)
  have hent := lg_entry_eq m ([.ref (q 0)]) 2
  rw [← hargs] at hent
  rw [hent]
  have hl := lv_entry ([.ref (q 0)]) (n := 2) (Nat.le_of_ble_eq_true rfl)
  generalize (lg_sl ([.ref (q 0)]) ++ List.replicate (2 - (lg_sl ([.ref (q 0)])).length) Slot.unset).toArray = ls at hl ⊢
  have hl : lv_has ls 2 [(0, .ref (q 0))] := hl
  unfold wp_X9_asItIs at hw
  refine lv_iconst (v := 0) hx hb dX9_asItIs_0 (by decide) ?_
  refine lv_istore_n (lv' := [(1, .int 0), (0, .ref (q 0))]) hx hb dX9_asItIs_1 rfl hl (by decide) rfl (fun ls hl => ?_)
  obtain ⟨nn, hw⟩ := hw
  refine L2 nn 0 u _ _ hw hP hD hS ls (lv_sub hl [1, 0] rfl) (fun  u5 H locs hw hP hD hS ls hl => ?_)
  refine lv_iconst (v := 0) hx hb dX9_asItIs_28 (by decide) ?_
  refine lv_istore_n (lv' := [(1, .int 0), (0, .ref (q 0))]) hx hb dX9_asItIs_29 rfl hl (by decide) rfl (fun ls hl => ?_)
  obtain ⟨nn, hw⟩ := hw
  refine L30 nn 0 u5 _ _ hw hP hD hS ls (lv_sub hl [1, 0] rfl)
set_option maxHeartbeats 4000000 in
set_option maxRecDepth 100000 in
theorem c_X9_reaches (l : Launch) (D : va_G) (q : Nat → Nat) (cI cJ cZ : ClassId) (sz : Nat) (u : WU) (x1 : Int32) (post : WU → Prop) (hw : wp_X9_reaches x1 u post) : Met l yX9_reaches wsX9_reaches rm_X9_reaches (va_Pc [.ref (q 0), .int x1] (MW D (ty3 cI cJ cZ) (wM q cI cJ cZ u) sz)) (va_Qv post (fun u' t => va_P D vwCl (wM q cI cJ cZ u') t.heap) (va_A (wM q cI cJ cZ u00) sz)) 0 0 (va_A (wM q cI cJ cZ u00) sz) := by
  refine Met.ofW (cc := cX9_reaches) (maxL := 4) (ret := none) (by decide) rfl ?_
  intro p e s m args below meth c s₁ B hml hv
  obtain ⟨hargs, hsz, hP, hK, hD0, hN⟩ := hv
  have hx := B.exec
  have hb := B.bytes
  have hr := B.returns
  have hts := atoms_spec (ws := wsX9_reaches) B.pre
  have hown : s.vm.findClass RX9 = some m.cls := findClass_of_methodNamed B.named
  have hlocks := B.notSynchronized
  subst hsz
  have hD := shw_self (sz := s.heap.size) (sh_wM q cI cJ cZ) hD0
  have hA : ∀ a : Nat, s.heap.size ≤ a → va_A (wM q cI cJ cZ u00) s.heap.size a := fun _ h => Or.inr h
  have hS : va_S (va_A (wM q cI cJ cZ u00) s.heap.size) s.heap s.heap [] := va_S.rf
  have hiX9 : ∀ w ∈ u_ws RX9 TX9 30, w ∈ wsX9_reaches := by decide +kernel
  have hf108 := hts (.fieldLink RX9 108 "TermsDeskModel" "joins" "I") (by decide +kernel)
  have hf32 := hts (.fieldLink RX9 32 "TermsDeskModel" "from" "[I") (by decide +kernel)
  have hf35 := hts (.fieldLink RX9 35 "TermsDeskModel" "to" "[I") (by decide +kernel)
  have hf57 := hts (.fieldLink RX9 57 "TermsDeskModel" "isReached" "[Z") (by decide +kernel)
  have hf60 := hts (.fieldLink RX9 60 "TermsDeskModel" "isGone" "[Z") (by decide +kernel)
  have J23 : ∀ {K2 : Int32 → WU → Prop} (x1 : Int32) (x2 : Int32) (z1 : Int32) (z2 : Int32) (u : WU) (H : Heap) (locs : List Loc), wp_X9_reaches_J23 x1 x2 z1 z2 u post K2 → va_P D vwCl (wM q cI cJ cZ u) H → va_D (va_A (wM q cI cJ cZ u00) s.heap.size) (wM q cI cJ cZ u) → va_S (va_A (wM q cI cJ cZ u00) s.heap.size) s.heap H locs → ∀ ls : Array Slot, lv_has ls 4 [(0, .ref (q 0)), (1, .int x1), (2, .int x2)] → (∀ (x2 : Int32) (u : WU) (H : Heap) (locs : List Loc), K2 x2 u → va_P D vwCl (wM q cI cJ cZ u) H → va_D (va_A (wM q cI cJ cZ u00) s.heap.size) (wM q cI cJ cZ u) → va_S (va_A (wM q cI cJ cZ u00) s.heap.size) s.heap H locs → ∀ ls : Array Slot, lv_has ls 4 [(0, .ref (q 0)), (1, .int x1), (2, .int x2)] → W p l e (headSpec wsX9_reaches rm_X9_reaches).room s m args below meth c H locs 0 0 (MQ below (va_Qv post (fun u' t => va_P D vwCl (wM q cI cJ cZ u') t.heap) (va_A (wM q cI cJ cZ u00) s.heap.size)) args s 0 0 (va_A (wM q cI cJ cZ u00) s.heap.size)) (F0 m 2 ls [])) → W p l e (headSpec wsX9_reaches rm_X9_reaches).room s m args below meth c H locs 0 0 (MQ below (va_Qv post (fun u' t => va_P D vwCl (wM q cI cJ cZ u') t.heap) (va_A (wM q cI cJ cZ u00) s.heap.size)) args s 0 0 (va_A (wM q cI cJ cZ u00) s.heap.size)) (F0 m 23 ls [.int z2, .int z1, .ref (q 16)]) := by
    intro K2 x1 x2 z1 z2 u H locs hw hP hD hS ls hl k2
    unfold wp_X9_reaches_J23 at hw
    obtain ⟨hin, hw⟩ := hw
    refine sZast (w := wM q cI cJ cZ) hx hb hK hP hD hS 16 2 13 rfl rfl (wMa_16 q cI cJ cZ u) hin dX9_reaches_23 (fun u20 H locs eu20 hP hD hS => ?_)
    have hw := hw u20 eu20
    obtain ⟨y21, ey21⟩ : ∃ z : Int32, z = x2 + 1 := ⟨_, rfl⟩
    have hw := hw y21 ey21
    refine lv_iinc (v := y21) (lv' := [(2, .int y21), (0, .ref (q 0)), (1, .int x1)]) hx hb dX9_reaches_24 hl (k := 2) rfl (by rw [ey21]; rfl) (by decide) rfl (fun ls hl => ?_)
    refine lv_goto (tgt := 2) hx hb dX9_reaches_27 (by decide) ?_
    exact k2 y21 u20 _ _ hw hP hD hS ls (lv_sub hl [1, 2, 0] rfl)
  have L2 : ∀ {K30 : WU → Prop} (x1 : Int32) (n : Nat) (x2 : Int32) (u : WU) (H : Heap) (locs : List Loc), wp_X9_reaches_L2 x1 post K30 n x2 u → va_P D vwCl (wM q cI cJ cZ u) H → va_D (va_A (wM q cI cJ cZ u00) s.heap.size) (wM q cI cJ cZ u) → va_S (va_A (wM q cI cJ cZ u00) s.heap.size) s.heap H locs → ∀ ls : Array Slot, lv_has ls 4 [(0, .ref (q 0)), (1, .int x1), (2, .int x2)] → (∀ (u : WU) (H : Heap) (locs : List Loc), K30 u → va_P D vwCl (wM q cI cJ cZ u) H → va_D (va_A (wM q cI cJ cZ u00) s.heap.size) (wM q cI cJ cZ u) → va_S (va_A (wM q cI cJ cZ u00) s.heap.size) s.heap H locs → ∀ ls : Array Slot, lv_has ls 4 [(0, .ref (q 0))] → W p l e (headSpec wsX9_reaches rm_X9_reaches).room s m args below meth c H locs 0 0 (MQ below (va_Qv post (fun u' t => va_P D vwCl (wM q cI cJ cZ u') t.heap) (va_A (wM q cI cJ cZ u00) s.heap.size)) args s 0 0 (va_A (wM q cI cJ cZ u00) s.heap.size)) (F0 m 30 ls [])) → W p l e (headSpec wsX9_reaches rm_X9_reaches).room s m args below meth c H locs 0 0 (MQ below (va_Qv post (fun u' t => va_P D vwCl (wM q cI cJ cZ u') t.heap) (va_A (wM q cI cJ cZ u00) s.heap.size)) args s 0 0 (va_A (wM q cI cJ cZ u00) s.heap.size)) (F0 m 2 ls []) := by
    intro K30 x1 n
    induction n with
    | zero =>
      intro x2 u H locs hw
      exact hw.elim
    | succ n ih =>
      intro x2 u H locs hw hP hD hS ls hl k30
      unfold wp_X9_reaches_L2 at hw
      refine lv_iload_n hx hb dX9_reaches_2 rfl (lv_at hl 2 rfl) ?_
      refine lv_bipush (v := 24) hx hb dX9_reaches_3 (by decide) ?_
      refine lv_icmp_ge (tgt := 30) hx hb dX9_reaches_5 (by decide) (fun hc => ?_) (fun hc => ?_)
      · have hw := hw.1 hc
        exact k30 u _ _ hw hP hD hS ls (lv_sub hl [0] rfl)
      · have hw := hw.2 hc
        refine lv_aload_n hx hb dX9_reaches_8 rfl (lv_at hl 0 rfl) ?_
        refine va_get (D := D) (ci := 9) (v := .ref (q 16)) (C := RX9) (T := TX9) (N := 30) hx hb hts hiX9 hown hK hP 0 rfl rfl 19 (by decide) hf57 (fun _ h9 => h9) rfl dX9_reaches_9 ?_
        refine lv_iload_n hx hb dX9_reaches_12 rfl (lv_at hl 2 rfl) ?_
        refine lv_iload_n hx hb dX9_reaches_13 rfl (lv_at hl 2 rfl) ?_
        refine lv_iload_n hx hb dX9_reaches_14 rfl (lv_at hl 1 rfl) ?_
        refine lv_icmp_ne (tgt := 22) hx hb dX9_reaches_15 (by decide) (fun hc => ?_) (fun hc => ?_)
        · have hw := hw.1 hc
          refine lv_iconst (v := 0) hx hb dX9_reaches_22 (by decide) ?_
          refine J23 x1 x2 x2 0 u _ _ hw hP hD hS ls (lv_sub hl [0, 1, 2] rfl) (fun y1 u2 H locs hw hP hD hS ls hl => ?_)
          exact ih y1 u2 _ _ hw hP hD hS ls (lv_sub hl [0, 1, 2] rfl) k30
        · have hw := hw.2 hc
          refine lv_iconst (v := 1) hx hb dX9_reaches_18 (by decide) ?_
          refine lv_goto (tgt := 23) hx hb dX9_reaches_19 (by decide) ?_
          refine J23 x1 x2 x2 1 u _ _ hw hP hD hS ls (lv_sub hl [0, 1, 2] rfl) (fun y3 u4 H locs hw hP hD hS ls hl => ?_)
          exact ih y3 u4 _ _ hw hP hD hS ls (lv_sub hl [0, 1, 2] rfl) k30
  have J102 : ∀ {K40 : Int32 → Int32 → WU → Prop} (x2 : Int32) (x3 : Int32) (u : WU) (H : Heap) (locs : List Loc), wp_X9_reaches_J102 x2 x3 u post K40 → va_P D vwCl (wM q cI cJ cZ u) H → va_D (va_A (wM q cI cJ cZ u00) s.heap.size) (wM q cI cJ cZ u) → va_S (va_A (wM q cI cJ cZ u00) s.heap.size) s.heap H locs → ∀ ls : Array Slot, lv_has ls 4 [(0, .ref (q 0)), (2, .int x2), (3, .int x3)] → (∀ (x2 : Int32) (x3 : Int32) (u : WU) (H : Heap) (locs : List Loc), K40 x2 x3 u → va_P D vwCl (wM q cI cJ cZ u) H → va_D (va_A (wM q cI cJ cZ u00) s.heap.size) (wM q cI cJ cZ u) → va_S (va_A (wM q cI cJ cZ u00) s.heap.size) s.heap H locs → ∀ ls : Array Slot, lv_has ls 4 [(0, .ref (q 0)), (2, .int x2), (3, .int x3)] → W p l e (headSpec wsX9_reaches rm_X9_reaches).room s m args below meth c H locs 0 0 (MQ below (va_Qv post (fun u' t => va_P D vwCl (wM q cI cJ cZ u') t.heap) (va_A (wM q cI cJ cZ u00) s.heap.size)) args s 0 0 (va_A (wM q cI cJ cZ u00) s.heap.size)) (F0 m 40 ls [])) → W p l e (headSpec wsX9_reaches rm_X9_reaches).room s m args below meth c H locs 0 0 (MQ below (va_Qv post (fun u' t => va_P D vwCl (wM q cI cJ cZ u') t.heap) (va_A (wM q cI cJ cZ u00) s.heap.size)) args s 0 0 (va_A (wM q cI cJ cZ u00) s.heap.size)) (F0 m 102 ls []) := by
    intro K40 x2 x3 u H locs hw hP hD hS ls hl k40
    unfold wp_X9_reaches_J102 at hw
    obtain ⟨y22, ey22⟩ : ∃ z : Int32, z = x3 + 1 := ⟨_, rfl⟩
    have hw := hw y22 ey22
    refine lv_iinc (v := y22) (lv' := [(3, .int y22), (0, .ref (q 0)), (2, .int x2)]) hx hb dX9_reaches_102 hl (k := 2) rfl (by rw [ey22]; rfl) (by decide) rfl (fun ls hl => ?_)
    refine lv_goto (tgt := 40) hx hb dX9_reaches_105 (by decide) ?_
    exact k40 x2 y22 u _ _ hw hP hD hS ls (lv_sub hl [1, 2, 0] rfl)
  have L40 : ∀ {K108 : Int32 → WU → Prop} (n : Nat) (x2 : Int32) (x3 : Int32) (u : WU) (H : Heap) (locs : List Loc), wp_X9_reaches_L40 post K108 n x2 x3 u → va_P D vwCl (wM q cI cJ cZ u) H → va_D (va_A (wM q cI cJ cZ u00) s.heap.size) (wM q cI cJ cZ u) → va_S (va_A (wM q cI cJ cZ u00) s.heap.size) s.heap H locs → ∀ ls : Array Slot, lv_has ls 4 [(0, .ref (q 0)), (2, .int x2), (3, .int x3)] → (∀ (x2 : Int32) (u : WU) (H : Heap) (locs : List Loc), K108 x2 u → va_P D vwCl (wM q cI cJ cZ u) H → va_D (va_A (wM q cI cJ cZ u00) s.heap.size) (wM q cI cJ cZ u) → va_S (va_A (wM q cI cJ cZ u00) s.heap.size) s.heap H locs → ∀ ls : Array Slot, lv_has ls 4 [(0, .ref (q 0)), (2, .int x2)] → W p l e (headSpec wsX9_reaches rm_X9_reaches).room s m args below meth c H locs 0 0 (MQ below (va_Qv post (fun u' t => va_P D vwCl (wM q cI cJ cZ u') t.heap) (va_A (wM q cI cJ cZ u00) s.heap.size)) args s 0 0 (va_A (wM q cI cJ cZ u00) s.heap.size)) (F0 m 108 ls [])) → W p l e (headSpec wsX9_reaches rm_X9_reaches).room s m args below meth c H locs 0 0 (MQ below (va_Qv post (fun u' t => va_P D vwCl (wM q cI cJ cZ u') t.heap) (va_A (wM q cI cJ cZ u00) s.heap.size)) args s 0 0 (va_A (wM q cI cJ cZ u00) s.heap.size)) (F0 m 40 ls []) := by
    intro K108 n
    induction n with
    | zero =>
      intro x2 x3 u H locs hw
      exact hw.elim
    | succ n ih =>
      intro x2 x3 u H locs hw hP hD hS ls hl k108
      unfold wp_X9_reaches_L40 at hw
      refine lv_iload_n hx hb dX9_reaches_40 rfl (lv_at hl 2 rfl) ?_
      refine lv_aload_n hx hb dX9_reaches_41 rfl (lv_at hl 0 rfl) ?_
      refine va_get (D := D) (ci := 9) (v := .int (u.1 23 0)) (C := RX9) (T := TX9) (N := 30) hx hb hts hiX9 hown hK hP 0 rfl rfl 9 (by decide) hf108 (fun _ h9 => h9) rfl dX9_reaches_42 ?_
      refine lv_icmp_ge (tgt := 108) hx hb dX9_reaches_45 (by decide) (fun hc => ?_) (fun hc => ?_)
      · have hw := hw.1 hc
        exact k108 x2 u _ _ hw hP hD hS ls (lv_sub hl [0, 1] rfl)
      · have hw := hw.2 hc
        refine lv_aload_n hx hb dX9_reaches_48 rfl (lv_at hl 0 rfl) ?_
        refine va_get (D := D) (ci := 9) (v := .ref (q 17)) (C := RX9) (T := TX9) (N := 30) hx hb hts hiX9 hown hK hP 0 rfl rfl 20 (by decide) hf60 (fun _ h9 => h9) rfl dX9_reaches_49 ?_
        refine lv_iload_n hx hb dX9_reaches_52 rfl (lv_at hl 2 rfl) ?_
        obtain ⟨hin, hw⟩ := hw
        refine va_zald hx hb hK hP 17 2 rfl rfl hin dX9_reaches_53 ?_
        refine lv_if_ne (tgt := 102) hx hb dX9_reaches_54 (by decide) (fun hc => ?_) (fun hc => ?_)
        · have hw := hw.1 hc
          refine J102 x2 x3 u _ _ hw hP hD hS ls (lv_sub hl [0, 1, 2] rfl) (fun y7 y8 u9 H locs hw hP hD hS ls hl => ?_)
          exact ih y7 y8 u9 _ _ hw hP hD hS ls (lv_sub hl [0, 1, 2] rfl) k108
        · have hw := hw.2 hc
          refine lv_aload_n hx hb dX9_reaches_57 rfl (lv_at hl 0 rfl) ?_
          refine va_get (D := D) (ci := 9) (v := .ref (q 16)) (C := RX9) (T := TX9) (N := 30) hx hb hts hiX9 hown hK hP 0 rfl rfl 19 (by decide) hf57 (fun _ h9 => h9) rfl dX9_reaches_58 ?_
          refine lv_aload_n hx hb dX9_reaches_61 rfl (lv_at hl 0 rfl) ?_
          refine va_get (D := D) (ci := 9) (v := .ref (q 9)) (C := RX9) (T := TX9) (N := 30) hx hb hts hiX9 hown hK hP 0 rfl rfl 11 (by decide) hf35 (fun _ h9 => h9) rfl dX9_reaches_62 ?_
          refine lv_iload_n hx hb dX9_reaches_65 rfl (lv_at hl 2 rfl) ?_
          obtain ⟨hin, hw⟩ := hw
          refine va_iald hx hb hK hP 9 0 rfl rfl hin dX9_reaches_66 ?_
          obtain ⟨hin, hw⟩ := hw
          refine va_zald hx hb hK hP 16 2 rfl rfl hin dX9_reaches_67 ?_
          refine lv_if_eq (tgt := 102) hx hb dX9_reaches_68 (by decide) (fun hc => ?_) (fun hc => ?_)
          · have hw := hw.1 hc
            refine J102 x2 x3 u _ _ hw hP hD hS ls (lv_sub hl [0, 1, 2] rfl) (fun y10 y11 u12 H locs hw hP hD hS ls hl => ?_)
            exact ih y10 y11 u12 _ _ hw hP hD hS ls (lv_sub hl [0, 1, 2] rfl) k108
          · have hw := hw.2 hc
            refine lv_aload_n hx hb dX9_reaches_71 rfl (lv_at hl 0 rfl) ?_
            refine va_get (D := D) (ci := 9) (v := .ref (q 16)) (C := RX9) (T := TX9) (N := 30) hx hb hts hiX9 hown hK hP 0 rfl rfl 19 (by decide) hf57 (fun _ h9 => h9) rfl dX9_reaches_72 ?_
            refine lv_aload_n hx hb dX9_reaches_75 rfl (lv_at hl 0 rfl) ?_
            refine va_get (D := D) (ci := 9) (v := .ref (q 8)) (C := RX9) (T := TX9) (N := 30) hx hb hts hiX9 hown hK hP 0 rfl rfl 10 (by decide) hf32 (fun _ h9 => h9) rfl dX9_reaches_76 ?_
            refine lv_iload_n hx hb dX9_reaches_79 rfl (lv_at hl 2 rfl) ?_
            obtain ⟨hin, hw⟩ := hw
            refine va_iald hx hb hK hP 8 0 rfl rfl hin dX9_reaches_80 ?_
            obtain ⟨hin, hw⟩ := hw
            refine va_zald hx hb hK hP 16 2 rfl rfl hin dX9_reaches_81 ?_
            refine lv_if_eq (tgt := 88) hx hb dX9_reaches_82 (by decide) (fun hc => ?_) (fun hc => ?_)
            · have hw := hw.1 hc
              refine lv_aload_n hx hb dX9_reaches_88 rfl (lv_at hl 0 rfl) ?_
              refine va_get (D := D) (ci := 9) (v := .ref (q 16)) (C := RX9) (T := TX9) (N := 30) hx hb hts hiX9 hown hK hP 0 rfl rfl 19 (by decide) hf57 (fun _ h9 => h9) rfl dX9_reaches_89 ?_
              refine lv_aload_n hx hb dX9_reaches_92 rfl (lv_at hl 0 rfl) ?_
              refine va_get (D := D) (ci := 9) (v := .ref (q 8)) (C := RX9) (T := TX9) (N := 30) hx hb hts hiX9 hown hK hP 0 rfl rfl 10 (by decide) hf32 (fun _ h9 => h9) rfl dX9_reaches_93 ?_
              refine lv_iload_n hx hb dX9_reaches_96 rfl (lv_at hl 2 rfl) ?_
              obtain ⟨hin, hw⟩ := hw
              refine va_iald hx hb hK hP 8 0 rfl rfl hin dX9_reaches_97 ?_
              refine lv_iconst (v := 1) hx hb dX9_reaches_98 (by decide) ?_
              obtain ⟨hin, hw⟩ := hw
              refine sZast (w := wM q cI cJ cZ) hx hb hK hP hD hS 16 2 13 rfl rfl (wMa_16 q cI cJ cZ u) hin dX9_reaches_99 (fun u13 H locs eu13 hP hD hS => ?_)
              have hw := hw u13 eu13
              refine lv_iconst (v := 1) hx hb dX9_reaches_100 (by decide) ?_
              refine lv_istore_n (lv' := [(2, .int 1), (0, .ref (q 0)), (3, .int x3)]) hx hb dX9_reaches_101 rfl hl (by decide) rfl (fun ls hl => ?_)
              refine J102 1 x3 u13 _ _ hw hP hD hS ls (lv_sub hl [1, 0, 2] rfl) (fun y14 y15 u16 H locs hw hP hD hS ls hl => ?_)
              exact ih y14 y15 u16 _ _ hw hP hD hS ls (lv_sub hl [0, 1, 2] rfl) k108
            · have hw := hw.2 hc
              refine lv_goto (tgt := 102) hx hb dX9_reaches_85 (by decide) ?_
              refine J102 x2 x3 u _ _ hw hP hD hS ls (lv_sub hl [0, 1, 2] rfl) (fun y17 y18 u19 H locs hw hP hD hS ls hl => ?_)
              exact ih y17 y18 u19 _ _ hw hP hD hS ls (lv_sub hl [0, 1, 2] rfl) k108
  have L32 : ∀ (n : Nat) (x2 : Int32) (u : WU) (H : Heap) (locs : List Loc), wp_X9_reaches_L32 post n x2 u → va_P D vwCl (wM q cI cJ cZ u) H → va_D (va_A (wM q cI cJ cZ u00) s.heap.size) (wM q cI cJ cZ u) → va_S (va_A (wM q cI cJ cZ u00) s.heap.size) s.heap H locs → ∀ ls : Array Slot, lv_has ls 4 [(0, .ref (q 0)), (2, .int x2)] → W p l e (headSpec wsX9_reaches rm_X9_reaches).room s m args below meth c H locs 0 0 (MQ below (va_Qv post (fun u' t => va_P D vwCl (wM q cI cJ cZ u') t.heap) (va_A (wM q cI cJ cZ u00) s.heap.size)) args s 0 0 (va_A (wM q cI cJ cZ u00) s.heap.size)) (F0 m 32 ls []) := by
    intro  n
    induction n with
    | zero =>
      intro x2 u H locs hw
      exact hw.elim
    | succ n ih =>
      intro x2 u H locs hw hP hD hS ls hl 
      unfold wp_X9_reaches_L32 at hw
      refine lv_iload_n hx hb dX9_reaches_32 rfl (lv_at hl 1 rfl) ?_
      refine lv_if_eq (tgt := 111) hx hb dX9_reaches_33 (by decide) (fun hc => ?_) (fun hc => ?_)
      · have hw := hw.1 hc
        exact W.vret hx hb hr (fun t ht hW => ⟨⟨u, rfl, hw, by show va_P D vwCl _ t.heap; rw [ht]; exact hP⟩, hS.F ht⟩) hS.2.2 dX9_reaches_111
      · have hw := hw.2 hc
        refine lv_iconst (v := 0) hx hb dX9_reaches_36 (by decide) ?_
        refine lv_istore_n (lv' := [(2, .int 0), (0, .ref (q 0))]) hx hb dX9_reaches_37 rfl hl (by decide) rfl (fun ls hl => ?_)
        refine lv_iconst (v := 0) hx hb dX9_reaches_38 (by decide) ?_
        refine lv_istore_n (lv' := [(3, .int 0), (2, .int 0), (0, .ref (q 0))]) hx hb dX9_reaches_39 rfl hl (by decide) rfl (fun ls hl => ?_)
        obtain ⟨nn, hw⟩ := hw
        refine L40 nn 0 0 u _ _ hw hP hD hS ls (lv_sub hl [2, 1, 0] rfl) (fun y5 u6 H locs hw hP hD hS ls hl => ?_)
        refine lv_goto (tgt := 32) hx hb dX9_reaches_108 (by decide) ?_
        exact ih y5 u6 _ _ hw hP hD hS ls (lv_sub hl [0, 1] rfl)
  have hent := lg_entry_eq m ([.ref (q 0), .int x1]) 4
  rw [← hargs] at hent
  rw [hent]
  have hl := lv_entry ([.ref (q 0), .int x1]) (n := 4) (Nat.le_of_ble_eq_true rfl)
  generalize (lg_sl ([.ref (q 0), .int x1]) ++ List.replicate (4 - (lg_sl ([.ref (q 0), .int x1])).length) Slot.unset).toArray = ls at hl ⊢
  have hl : lv_has ls 4 [(0, .ref (q 0)), (1, .int x1)] := hl
  unfold wp_X9_reaches at hw
  refine lv_iconst (v := 0) hx hb dX9_reaches_0 (by decide) ?_
  refine lv_istore_n (lv' := [(2, .int 0), (0, .ref (q 0)), (1, .int x1)]) hx hb dX9_reaches_1 rfl hl (by decide) rfl (fun ls hl => ?_)
  obtain ⟨nn, hw⟩ := hw
  refine L2 x1 nn 0 u _ _ hw hP hD hS ls (lv_sub hl [1, 2, 0] rfl) (fun  u23 H locs hw hP hD hS ls hl => ?_)
  refine lv_iconst (v := 1) hx hb dX9_reaches_30 (by decide) ?_
  refine lv_istore_n (lv' := [(2, .int 1), (0, .ref (q 0))]) hx hb dX9_reaches_31 rfl hl (by decide) rfl (fun ls hl => ?_)
  obtain ⟨nn, hw⟩ := hw
  refine L32 nn 1 u23 _ _ hw hP hD hS ls (lv_sub hl [1, 0] rfl)
set_option maxHeartbeats 4000000 in
set_option maxRecDepth 100000 in
theorem c_X9_join (l : Launch) (D : va_G) (q : Nat → Nat) (cI cJ cZ : ClassId) (sz : Nat) (u : WU) (x1 : Int32) (x2 : Int32) (x3 : Int32) (post : Int32 → WU → Prop) (hw : wp_X9_join x1 x2 x3 u post) : Met l yX9_join wsX9_join rm_X9_join (va_Pc [.ref (q 0), .int x1, .int x2, .int x3] (MW D (ty3 cI cJ cZ) (wM q cI cJ cZ u) sz)) (va_Qi post (fun u' t => va_P D vwCl (wM q cI cJ cZ u') t.heap) (va_A (wM q cI cJ cZ u00) sz)) 0 0 (va_A (wM q cI cJ cZ u00) sz) := by
  refine Met.ofW (cc := cX9_join) (maxL := 5) (ret := (some .int)) (by decide) rfl ?_
  intro p e s m args below meth c s₁ B hml hv
  obtain ⟨hargs, hsz, hP, hK, hD0, hN⟩ := hv
  have hx := B.exec
  have hb := B.bytes
  have hr := B.returns
  have hts := atoms_spec (ws := wsX9_join) B.pre
  have hown : s.vm.findClass RX9 = some m.cls := findClass_of_methodNamed B.named
  have hlocks := B.notSynchronized
  subst hsz
  have hD := shw_self (sz := s.heap.size) (sh_wM q cI cJ cZ) hD0
  have hA : ∀ a : Nat, s.heap.size ≤ a → va_A (wM q cI cJ cZ u00) s.heap.size a := fun _ h => Or.inr h
  have hS : va_S (va_A (wM q cI cJ cZ u00) s.heap.size) s.heap s.heap [] := va_S.rf
  have hiX9 : ∀ w ∈ u_ws RX9 TX9 30, w ∈ wsX9_join := by decide +kernel
  have hf108 := hts (.fieldLink RX9 108 "TermsDeskModel" "joins" "I") (by decide +kernel)
  have hf32 := hts (.fieldLink RX9 32 "TermsDeskModel" "from" "[I") (by decide +kernel)
  have hf35 := hts (.fieldLink RX9 35 "TermsDeskModel" "to" "[I") (by decide +kernel)
  have hf38 := hts (.fieldLink RX9 38 "TermsDeskModel" "kind" "[I") (by decide +kernel)
  have hf41 := hts (.fieldLink RX9 41 "TermsDeskModel" "isCut" "[Z") (by decide +kernel)
  have hf57 := hts (.fieldLink RX9 57 "TermsDeskModel" "isReached" "[Z") (by decide +kernel)
  have J87 : ∀ {K44 : Int32 → WU → Prop} (x1 : Int32) (x2 : Int32) (x3 : Int32) (x4 : Int32) (u : WU) (H : Heap) (locs : List Loc), wp_X9_join_J87 x1 x2 x3 x4 u post K44 → va_P D vwCl (wM q cI cJ cZ u) H → va_D (va_A (wM q cI cJ cZ u00) s.heap.size) (wM q cI cJ cZ u) → va_S (va_A (wM q cI cJ cZ u00) s.heap.size) s.heap H locs → ∀ ls : Array Slot, lv_has ls 5 [(0, .ref (q 0)), (1, .int x1), (2, .int x2), (3, .int x3), (4, .int x4)] → (∀ (x4 : Int32) (u : WU) (H : Heap) (locs : List Loc), K44 x4 u → va_P D vwCl (wM q cI cJ cZ u) H → va_D (va_A (wM q cI cJ cZ u00) s.heap.size) (wM q cI cJ cZ u) → va_S (va_A (wM q cI cJ cZ u00) s.heap.size) s.heap H locs → ∀ ls : Array Slot, lv_has ls 5 [(0, .ref (q 0)), (1, .int x1), (2, .int x2), (3, .int x3), (4, .int x4)] → W p l e (headSpec wsX9_join rm_X9_join).room s m args below meth c H locs 0 0 (MQ below (va_Qi post (fun u' t => va_P D vwCl (wM q cI cJ cZ u') t.heap) (va_A (wM q cI cJ cZ u00) s.heap.size)) args s 0 0 (va_A (wM q cI cJ cZ u00) s.heap.size)) (F0 m 44 ls [])) → W p l e (headSpec wsX9_join rm_X9_join).room s m args below meth c H locs 0 0 (MQ below (va_Qi post (fun u' t => va_P D vwCl (wM q cI cJ cZ u') t.heap) (va_A (wM q cI cJ cZ u00) s.heap.size)) args s 0 0 (va_A (wM q cI cJ cZ u00) s.heap.size)) (F0 m 87 ls []) := by
    intro K44 x1 x2 x3 x4 u H locs hw hP hD hS ls hl k44
    unfold wp_X9_join_J87 at hw
    obtain ⟨y7, ey7⟩ : ∃ z : Int32, z = x4 + 1 := ⟨_, rfl⟩
    have hw := hw y7 ey7
    refine lv_iinc (v := y7) (lv' := [(4, .int y7), (0, .ref (q 0)), (1, .int x1), (2, .int x2), (3, .int x3)]) hx hb dX9_join_87 hl (k := 4) rfl (by rw [ey7]; rfl) (by decide) rfl (fun ls hl => ?_)
    refine lv_goto (tgt := 44) hx hb dX9_join_90 (by decide) ?_
    exact k44 y7 u _ _ hw hP hD hS ls (lv_sub hl [1, 2, 3, 4, 0] rfl)
  have L44 : ∀ {K93 : WU → Prop} (x1 : Int32) (x2 : Int32) (x3 : Int32) (n : Nat) (x4 : Int32) (u : WU) (H : Heap) (locs : List Loc), wp_X9_join_L44 x1 x2 x3 post K93 n x4 u → va_P D vwCl (wM q cI cJ cZ u) H → va_D (va_A (wM q cI cJ cZ u00) s.heap.size) (wM q cI cJ cZ u) → va_S (va_A (wM q cI cJ cZ u00) s.heap.size) s.heap H locs → ∀ ls : Array Slot, lv_has ls 5 [(0, .ref (q 0)), (1, .int x1), (2, .int x2), (3, .int x3), (4, .int x4)] → (∀ (u : WU) (H : Heap) (locs : List Loc), K93 u → va_P D vwCl (wM q cI cJ cZ u) H → va_D (va_A (wM q cI cJ cZ u00) s.heap.size) (wM q cI cJ cZ u) → va_S (va_A (wM q cI cJ cZ u00) s.heap.size) s.heap H locs → ∀ ls : Array Slot, lv_has ls 5 [(0, .ref (q 0)), (1, .int x1), (2, .int x2), (3, .int x3)] → W p l e (headSpec wsX9_join rm_X9_join).room s m args below meth c H locs 0 0 (MQ below (va_Qi post (fun u' t => va_P D vwCl (wM q cI cJ cZ u') t.heap) (va_A (wM q cI cJ cZ u00) s.heap.size)) args s 0 0 (va_A (wM q cI cJ cZ u00) s.heap.size)) (F0 m 93 ls [])) → W p l e (headSpec wsX9_join rm_X9_join).room s m args below meth c H locs 0 0 (MQ below (va_Qi post (fun u' t => va_P D vwCl (wM q cI cJ cZ u') t.heap) (va_A (wM q cI cJ cZ u00) s.heap.size)) args s 0 0 (va_A (wM q cI cJ cZ u00) s.heap.size)) (F0 m 44 ls []) := by
    intro K93 x1 x2 x3 n
    induction n with
    | zero =>
      intro x4 u H locs hw
      exact hw.elim
    | succ n ih =>
      intro x4 u H locs hw hP hD hS ls hl k93
      unfold wp_X9_join_L44 at hw
      refine lv_iload hx hb dX9_join_44 (lv_at hl 4 rfl) ?_
      refine lv_aload_n hx hb dX9_join_46 rfl (lv_at hl 0 rfl) ?_
      refine va_get (D := D) (ci := 9) (v := .int (u.1 23 0)) (C := RX9) (T := TX9) (N := 30) hx hb hts hiX9 hown hK hP 0 rfl rfl 9 (by decide) hf108 (fun _ h9 => h9) rfl dX9_join_47 ?_
      refine lv_icmp_ge (tgt := 93) hx hb dX9_join_50 (by decide) (fun hc => ?_) (fun hc => ?_)
      · have hw := hw.1 hc
        exact k93 u _ _ hw hP hD hS ls (lv_sub hl [0, 1, 2, 3] rfl)
      · have hw := hw.2 hc
        refine lv_aload_n hx hb dX9_join_53 rfl (lv_at hl 0 rfl) ?_
        refine va_get (D := D) (ci := 9) (v := .ref (q 11)) (C := RX9) (T := TX9) (N := 30) hx hb hts hiX9 hown hK hP 0 rfl rfl 13 (by decide) hf41 (fun _ h9 => h9) rfl dX9_join_54 ?_
        refine lv_iload hx hb dX9_join_57 (lv_at hl 4 rfl) ?_
        obtain ⟨hin, hw⟩ := hw
        refine va_zald hx hb hK hP 11 2 rfl rfl hin dX9_join_59 ?_
        refine lv_if_ne (tgt := 87) hx hb dX9_join_60 (by decide) (fun hc => ?_) (fun hc => ?_)
        · have hw := hw.1 hc
          refine J87 x1 x2 x3 x4 u _ _ hw hP hD hS ls (lv_sub hl [0, 1, 2, 3, 4] rfl) (fun y1 u2 H locs hw hP hD hS ls hl => ?_)
          exact ih y1 u2 _ _ hw hP hD hS ls (lv_sub hl [0, 1, 2, 3, 4] rfl) k93
        · have hw := hw.2 hc
          refine lv_aload_n hx hb dX9_join_63 rfl (lv_at hl 0 rfl) ?_
          refine va_get (D := D) (ci := 9) (v := .ref (q 8)) (C := RX9) (T := TX9) (N := 30) hx hb hts hiX9 hown hK hP 0 rfl rfl 10 (by decide) hf32 (fun _ h9 => h9) rfl dX9_join_64 ?_
          refine lv_iload hx hb dX9_join_67 (lv_at hl 4 rfl) ?_
          obtain ⟨hin, hw⟩ := hw
          refine va_iald hx hb hK hP 8 0 rfl rfl hin dX9_join_69 ?_
          refine lv_iload_n hx hb dX9_join_70 rfl (lv_at hl 1 rfl) ?_
          refine lv_icmp_ne (tgt := 87) hx hb dX9_join_71 (by decide) (fun hc => ?_) (fun hc => ?_)
          · have hw := hw.1 hc
            refine J87 x1 x2 x3 x4 u _ _ hw hP hD hS ls (lv_sub hl [0, 1, 2, 3, 4] rfl) (fun y3 u4 H locs hw hP hD hS ls hl => ?_)
            exact ih y3 u4 _ _ hw hP hD hS ls (lv_sub hl [0, 1, 2, 3, 4] rfl) k93
          · have hw := hw.2 hc
            refine lv_aload_n hx hb dX9_join_74 rfl (lv_at hl 0 rfl) ?_
            refine va_get (D := D) (ci := 9) (v := .ref (q 9)) (C := RX9) (T := TX9) (N := 30) hx hb hts hiX9 hown hK hP 0 rfl rfl 11 (by decide) hf35 (fun _ h9 => h9) rfl dX9_join_75 ?_
            refine lv_iload hx hb dX9_join_78 (lv_at hl 4 rfl) ?_
            obtain ⟨hin, hw⟩ := hw
            refine va_iald hx hb hK hP 9 0 rfl rfl hin dX9_join_80 ?_
            refine lv_iload_n hx hb dX9_join_81 rfl (lv_at hl 2 rfl) ?_
            refine lv_icmp_ne (tgt := 87) hx hb dX9_join_82 (by decide) (fun hc => ?_) (fun hc => ?_)
            · have hw := hw.1 hc
              refine J87 x1 x2 x3 x4 u _ _ hw hP hD hS ls (lv_sub hl [0, 1, 2, 3, 4] rfl) (fun y5 u6 H locs hw hP hD hS ls hl => ?_)
              exact ih y5 u6 _ _ hw hP hD hS ls (lv_sub hl [0, 1, 2, 3, 4] rfl) k93
            · have hw := hw.2 hc
              refine lv_iconst (v := (-1)) hx hb dX9_join_85 (by decide) ?_
              exact W.iret (v := (-1)) hx hb hr (fun t ht hW => ⟨⟨(-1), u, rfl, hw, by show va_P D vwCl _ t.heap; rw [ht]; exact hP⟩, hS.F ht⟩) hS.2.2 dX9_join_86
  have hent := lg_entry_eq m ([.ref (q 0), .int x1, .int x2, .int x3]) 5
  rw [← hargs] at hent
  rw [hent]
  have hl := lv_entry ([.ref (q 0), .int x1, .int x2, .int x3]) (n := 5) (Nat.le_of_ble_eq_true rfl)
  generalize (lg_sl ([.ref (q 0), .int x1, .int x2, .int x3]) ++ List.replicate (5 - (lg_sl ([.ref (q 0), .int x1, .int x2, .int x3])).length) Slot.unset).toArray = ls at hl ⊢
  have hl : lv_has ls 5 [(0, .ref (q 0)), (1, .int x1), (2, .int x2), (3, .int x3)] := hl
  unfold wp_X9_join at hw
  refine lv_aload_n hx hb dX9_join_0 rfl (lv_at hl 0 rfl) ?_
  refine va_get (D := D) (ci := 9) (v := .int (u.1 23 0)) (C := RX9) (T := TX9) (N := 30) hx hb hts hiX9 hown hK hP 0 rfl rfl 9 (by decide) hf108 (fun _ h9 => h9) rfl dX9_join_1 ?_
  refine lv_bipush (v := 40) hx hb dX9_join_4 (by decide) ?_
  refine lv_icmp_eq (tgt := 39) hx hb dX9_join_6 (by decide) (fun hc => ?_) (fun hc => ?_)
  · have hw := hw.1 hc
    refine lv_iconst (v := (-1)) hx hb dX9_join_39 (by decide) ?_
    exact W.iret (v := (-1)) hx hb hr (fun t ht hW => ⟨⟨(-1), u, rfl, hw, by show va_P D vwCl _ t.heap; rw [ht]; exact hP⟩, hS.F ht⟩) hS.2.2 dX9_join_40
  · have hw := hw.2 hc
    refine lv_aload_n hx hb dX9_join_9 rfl (lv_at hl 0 rfl) ?_
    refine lv_iload_n hx hb dX9_join_10 rfl (lv_at hl 1 rfl) ?_
    refine vp_callSi (va_Run.run (va_runV (As := [.int x1]) (rest := []) ⟨hx, hb, hml, hown, hts⟩ (c_X9_isPart l D q cI cJ cZ u x1 _ hw) (cwV 1 hts gX9_join_X9_isPart rfl rfl rfl (by decide +kernel) ⟨Nat.le_of_ble_eq_true rfl, Nat.le_of_ble_eq_true rfl⟩) (pvR (va_recv hK hP (ci := 9) (q0 := 0) (q := (RX9, TX9, 30)) rfl rfl) hK hP hN) rfl rfl hl.1 rfl (lv_room (Nat.le_of_ble_eq_true rfl)) dX9_join_11 ⟨Nat.zero_le _, Nat.zero_le _⟩)) (fun r8 hw => ?_)
    refine lv_if_eq (tgt := 39) hx hb dX9_join_14 (by decide) (fun hc => ?_) (fun hc => ?_)
    · have hw := hw.1 hc
      refine lv_iconst (v := (-1)) hx hb dX9_join_39 (by decide) ?_
      exact W.iret (v := (-1)) hx hb hr (fun t ht hW => ⟨⟨(-1), u, rfl, hw, by show va_P D vwCl _ t.heap; rw [ht]; exact hP⟩, hS.F ht⟩) hS.2.2 dX9_join_40
    · have hw := hw.2 hc
      refine lv_aload_n hx hb dX9_join_17 rfl (lv_at hl 0 rfl) ?_
      refine lv_iload_n hx hb dX9_join_18 rfl (lv_at hl 2 rfl) ?_
      refine vp_callSi (va_Run.run (va_runV (As := [.int x2]) (rest := []) ⟨hx, hb, hml, hown, hts⟩ (c_X9_isPart l D q cI cJ cZ u x2 _ hw) (cwV 1 hts gX9_join_X9_isPart rfl rfl rfl (by decide +kernel) ⟨Nat.le_of_ble_eq_true rfl, Nat.le_of_ble_eq_true rfl⟩) (pvR (va_recv hK hP (ci := 9) (q0 := 0) (q := (RX9, TX9, 30)) rfl rfl) hK hP hN) rfl rfl hl.1 rfl (lv_room (Nat.le_of_ble_eq_true rfl)) dX9_join_19 ⟨Nat.zero_le _, Nat.zero_le _⟩)) (fun r9 hw => ?_)
      refine lv_if_eq (tgt := 39) hx hb dX9_join_22 (by decide) (fun hc => ?_) (fun hc => ?_)
      · have hw := hw.1 hc
        refine lv_iconst (v := (-1)) hx hb dX9_join_39 (by decide) ?_
        exact W.iret (v := (-1)) hx hb hr (fun t ht hW => ⟨⟨(-1), u, rfl, hw, by show va_P D vwCl _ t.heap; rw [ht]; exact hP⟩, hS.F ht⟩) hS.2.2 dX9_join_40
      · have hw := hw.2 hc
        refine lv_iload_n hx hb dX9_join_25 rfl (lv_at hl 1 rfl) ?_
        refine lv_iload_n hx hb dX9_join_26 rfl (lv_at hl 2 rfl) ?_
        refine lv_icmp_eq (tgt := 39) hx hb dX9_join_27 (by decide) (fun hc => ?_) (fun hc => ?_)
        · have hw := hw.1 hc
          refine lv_iconst (v := (-1)) hx hb dX9_join_39 (by decide) ?_
          exact W.iret (v := (-1)) hx hb hr (fun t ht hW => ⟨⟨(-1), u, rfl, hw, by show va_P D vwCl _ t.heap; rw [ht]; exact hP⟩, hS.F ht⟩) hS.2.2 dX9_join_40
        · have hw := hw.2 hc
          refine lv_iload_n hx hb dX9_join_30 rfl (lv_at hl 3 rfl) ?_
          refine lv_iconst (v := 0) hx hb dX9_join_31 (by decide) ?_
          refine lv_iconst (v := 3) hx hb dX9_join_32 (by decide) ?_
          refine vp_callSi (va_Run.run (va_runS (As := [.int x3, .int 0, .int 3]) (rest := []) ⟨hx, hb, hml, hown, hts⟩ (c_X9_lies l x3 0 3 _ hw) (va_cwS 3 hts gX9_join_X9_lies rfl rfl rfl (by decide +kernel) ⟨Nat.le_of_ble_eq_true rfl, Nat.le_of_ble_eq_true rfl⟩) (psS hN) rfl rfl hl.1 rfl (lv_room (Nat.le_of_ble_eq_true rfl)) dX9_join_33 ⟨Nat.zero_le _, Nat.zero_le _⟩)) (fun r10 hw => ?_)
          refine lv_if_ne (tgt := 41) hx hb dX9_join_36 (by decide) (fun hc => ?_) (fun hc => ?_)
          · have hw := hw.1 hc
            refine lv_iconst (v := 0) hx hb dX9_join_41 (by decide) ?_
            refine lv_istore (lv' := [(4, .int 0), (0, .ref (q 0)), (1, .int x1), (2, .int x2), (3, .int x3)]) hx hb dX9_join_42 hl (by decide) rfl (fun ls hl => ?_)
            obtain ⟨nn, hw⟩ := hw
            refine L44 x1 x2 x3 nn 0 u _ _ hw hP hD hS ls (lv_sub hl [1, 2, 3, 4, 0] rfl) (fun  u11 H locs hw hP hD hS ls hl => ?_)
            refine lv_aload_n hx hb dX9_join_93 rfl (lv_at hl 0 rfl) ?_
            refine cMv (sh_wM q cI cJ cZ) (u := u11) (va_runV (As := []) (rest := []) ⟨hx, hb, hml, hown, hts⟩ (c_X9_asItIs l D q cI cJ cZ _ u11 _ hw) (cwV 0 hts gX9_join_X9_asItIs rfl rfl rfl (by decide +kernel) ⟨Nat.le_of_ble_eq_true rfl, Nat.le_of_ble_eq_true rfl⟩) (pvM (va_recv hK hP (ci := 9) (q0 := 0) (q := (RX9, TX9, 30)) rfl rfl) hK hP hD hN) rfl rfl hl.1 rfl (lv_room (Nat.le_of_ble_eq_true rfl)) dX9_join_94 ⟨Nat.zero_le _, Nat.zero_le _⟩) hA hD hS (fun u12 H locs hw hP hD hS => ?_)
            refine lv_aload_n hx hb dX9_join_97 rfl (lv_at hl 0 rfl) ?_
            refine lv_iload_n hx hb dX9_join_98 rfl (lv_at hl 1 rfl) ?_
            refine cMv (sh_wM q cI cJ cZ) (u := u12) (va_runV (As := [.int x1]) (rest := []) ⟨hx, hb, hml, hown, hts⟩ (c_X9_reaches l D q cI cJ cZ _ u12 x1 _ hw) (cwV 1 hts gX9_join_X9_reaches rfl rfl rfl (by decide +kernel) ⟨Nat.le_of_ble_eq_true rfl, Nat.le_of_ble_eq_true rfl⟩) (pvM (va_recv hK hP (ci := 9) (q0 := 0) (q := (RX9, TX9, 30)) rfl rfl) hK hP hD hN) rfl rfl hl.1 rfl (lv_room (Nat.le_of_ble_eq_true rfl)) dX9_join_99 ⟨Nat.zero_le _, Nat.zero_le _⟩) hA hD hS (fun u13 H locs hw hP hD hS => ?_)
            refine lv_aload_n hx hb dX9_join_102 rfl (lv_at hl 0 rfl) ?_
            refine va_get (D := D) (ci := 9) (v := .ref (q 16)) (C := RX9) (T := TX9) (N := 30) hx hb hts hiX9 hown hK hP 0 rfl rfl 19 (by decide) hf57 (fun _ h9 => h9) rfl dX9_join_103 ?_
            refine lv_iload_n hx hb dX9_join_106 rfl (lv_at hl 2 rfl) ?_
            obtain ⟨hin, hw⟩ := hw
            refine va_zald hx hb hK hP 16 2 rfl rfl hin dX9_join_107 ?_
            refine lv_if_eq (tgt := 113) hx hb dX9_join_108 (by decide) (fun hc => ?_) (fun hc => ?_)
            · have hw := hw.1 hc
              refine lv_aload_n hx hb dX9_join_113 rfl (lv_at hl 0 rfl) ?_
              refine va_get (D := D) (ci := 9) (v := .ref (q 8)) (C := RX9) (T := TX9) (N := 30) hx hb hts hiX9 hown hK hP 0 rfl rfl 10 (by decide) hf32 (fun _ h9 => h9) rfl dX9_join_114 ?_
              refine lv_aload_n hx hb dX9_join_117 rfl (lv_at hl 0 rfl) ?_
              refine va_get (D := D) (ci := 9) (v := .int (u13.1 23 0)) (C := RX9) (T := TX9) (N := 30) hx hb hts hiX9 hown hK hP 0 rfl rfl 9 (by decide) hf108 (fun _ h9 => h9) rfl dX9_join_118 ?_
              refine lv_iload_n hx hb dX9_join_121 rfl (lv_at hl 1 rfl) ?_
              obtain ⟨hin, hw⟩ := hw
              refine sIast (w := wM q cI cJ cZ) hx hb hK hP hD hS 8 0 5 rfl rfl (wMa_8 q cI cJ cZ u13) hin dX9_join_122 (fun u14 H locs eu14 hP hD hS => ?_)
              have hw := hw u14 eu14
              refine lv_aload_n hx hb dX9_join_123 rfl (lv_at hl 0 rfl) ?_
              refine va_get (D := D) (ci := 9) (v := .ref (q 9)) (C := RX9) (T := TX9) (N := 30) hx hb hts hiX9 hown hK hP 0 rfl rfl 11 (by decide) hf35 (fun _ h9 => h9) rfl dX9_join_124 ?_
              refine lv_aload_n hx hb dX9_join_127 rfl (lv_at hl 0 rfl) ?_
              refine va_get (D := D) (ci := 9) (v := .int (u14.1 23 0)) (C := RX9) (T := TX9) (N := 30) hx hb hts hiX9 hown hK hP 0 rfl rfl 9 (by decide) hf108 (fun _ h9 => h9) rfl dX9_join_128 ?_
              refine lv_iload_n hx hb dX9_join_131 rfl (lv_at hl 2 rfl) ?_
              obtain ⟨hin, hw⟩ := hw
              refine sIast (w := wM q cI cJ cZ) hx hb hK hP hD hS 9 0 6 rfl rfl (wMa_9 q cI cJ cZ u14) hin dX9_join_132 (fun u15 H locs eu15 hP hD hS => ?_)
              have hw := hw u15 eu15
              refine lv_aload_n hx hb dX9_join_133 rfl (lv_at hl 0 rfl) ?_
              refine va_get (D := D) (ci := 9) (v := .ref (q 10)) (C := RX9) (T := TX9) (N := 30) hx hb hts hiX9 hown hK hP 0 rfl rfl 12 (by decide) hf38 (fun _ h9 => h9) rfl dX9_join_134 ?_
              refine lv_aload_n hx hb dX9_join_137 rfl (lv_at hl 0 rfl) ?_
              refine va_get (D := D) (ci := 9) (v := .int (u15.1 23 0)) (C := RX9) (T := TX9) (N := 30) hx hb hts hiX9 hown hK hP 0 rfl rfl 9 (by decide) hf108 (fun _ h9 => h9) rfl dX9_join_138 ?_
              refine lv_iload_n hx hb dX9_join_141 rfl (lv_at hl 3 rfl) ?_
              obtain ⟨hin, hw⟩ := hw
              refine sIast (w := wM q cI cJ cZ) hx hb hK hP hD hS 10 0 7 rfl rfl (wMa_10 q cI cJ cZ u15) hin dX9_join_142 (fun u16 H locs eu16 hP hD hS => ?_)
              have hw := hw u16 eu16
              refine lv_aload_n hx hb dX9_join_143 rfl (lv_at hl 0 rfl) ?_
              refine lv_dup hx hb dX9_join_144 rfl ?_
              refine va_get (D := D) (ci := 9) (v := .int (u16.1 23 0)) (C := RX9) (T := TX9) (N := 30) hx hb hts hiX9 hown hK hP 0 rfl rfl 9 (by decide) hf108 (fun _ h9 => h9) rfl dX9_join_145 ?_
              refine lv_iconst (v := 1) hx hb dX9_join_148 (by decide) ?_
              refine lv_iadd hx hb dX9_join_149 ?_
              refine va_put (D := D) (ci := 9) (v := .int ((u16.1 23 0) + 1)) (ty := .int) (C := RX9) (T := TX9) (N := 30) hx hb hts hiX9 tyX9 tyX9_ok nmX9 hown hK hP hD hS 0 rfl rfl 9 (by decide) hf108 (fun _ h9 => h9) rfl (by decide +kernel) rfl rfl (Nat.le_of_ble_eq_true rfl) dX9_join_150 (sPut (w := wM q cI cJ cZ) (uu := uI u16 23 (fun _ => (u16.1 23 0) + 1)) (wMs_X9_9 q cI cJ cZ u16 _) (fun u17 H locs eu17 hP hD hS => ?_))
              have hw := hw u17 eu17
              refine lv_aload_n hx hb dX9_join_153 rfl (lv_at hl 0 rfl) ?_
              refine va_get (D := D) (ci := 9) (v := .int (u17.1 23 0)) (C := RX9) (T := TX9) (N := 30) hx hb hts hiX9 hown hK hP 0 rfl rfl 9 (by decide) hf108 (fun _ h9 => h9) rfl dX9_join_154 ?_
              refine lv_iconst (v := 1) hx hb dX9_join_157 (by decide) ?_
              refine lv_isub hx hb dX9_join_158 ?_
              exact W.iret (v := (u17.1 23 0) - 1) hx hb hr (fun t ht hW => ⟨⟨(u17.1 23 0) - 1, u17, rfl, hw, by show va_P D vwCl _ t.heap; rw [ht]; exact hP⟩, hS.F ht⟩) hS.2.2 dX9_join_159
            · have hw := hw.2 hc
              refine lv_iconst (v := (-1)) hx hb dX9_join_111 (by decide) ?_
              exact W.iret (v := (-1)) hx hb hr (fun t ht hW => ⟨⟨(-1), u13, rfl, hw, by show va_P D vwCl _ t.heap; rw [ht]; exact hP⟩, hS.F ht⟩) hS.2.2 dX9_join_112
          · have hw := hw.2 hc
            refine lv_iconst (v := (-1)) hx hb dX9_join_39 (by decide) ?_
            exact W.iret (v := (-1)) hx hb hr (fun t ht hW => ⟨⟨(-1), u, rfl, hw, by show va_P D vwCl _ t.heap; rw [ht]; exact hP⟩, hS.F ht⟩) hS.2.2 dX9_join_40
set_option maxHeartbeats 4000000 in
set_option maxRecDepth 100000 in
theorem c_X3_isThere (l : Launch) (D : va_G) (q : Nat → Nat) (cI cJ cZ : ClassId) (u : WU) (x1 : Int32) (post : Int32 → Prop) (hw : wp_X3_isThere x1 u post) : Met l yX3_isThere wsX3_isThere rm_X3_isThere (va_Pc [.ref (q 3), .int x1] (RW D (ty3 cI cJ cZ) (wX q cI cJ cZ u))) (vp_Si post) 0 0 (fun _ => False) := by
  refine Met.ofW (cc := cX3_isThere) (maxL := 2) (ret := (some .boolean)) (by decide) rfl ?_
  intro p e s m args below meth c s₁ B hml hv
  obtain ⟨hargs, hP, hK, hN⟩ := hv
  have hx := B.exec
  have hb := B.bytes
  have hr := B.returns
  have hts := atoms_spec (ws := wsX3_isThere) B.pre
  have hown : s.vm.findClass RX3 = some m.cls := findClass_of_methodNamed B.named
  have hlocks := B.notSynchronized
  have hiX3 : ∀ w ∈ u_ws RX3 TX3 9, w ∈ wsX3_isThere := by decide +kernel
  have hf33 := hts (.fieldLink RX3 33 "TermsDesk$Joins" "told" "I") (by decide +kernel)
  have hf41 := hts (.fieldLink RX3 41 "TermsDesk$Joins" "there" "J") (by decide +kernel)
  have hi_RX8 := hts (.initialized RX8) (by decide +kernel)
  have hs_X8_holds := hts (.static yX8_holds) (by decide +kernel)
  have hs_X8_within := hts (.static yX8_within) (by decide +kernel)
  have hent := lg_entry_eq m ([.ref (q 3), .int x1]) 2
  rw [← hargs] at hent
  rw [hent]
  have hl := lv_entry ([.ref (q 3), .int x1]) (n := 2) (Nat.le_of_ble_eq_true rfl)
  generalize (lg_sl ([.ref (q 3), .int x1]) ++ List.replicate (2 - (lg_sl ([.ref (q 3), .int x1])).length) Slot.unset).toArray = ls at hl ⊢
  have hl : lv_has ls 2 [(0, .ref (q 3)), (1, .int x1)] := hl
  unfold wp_X3_isThere at hw
  refine lv_iload_n hx hb dX3_isThere_0 rfl (lv_at hl 1 rfl) ?_
  refine lv_aload_n hx hb dX3_isThere_1 rfl (lv_at hl 0 rfl) ?_
  refine va_get (D := D) (ci := 3) (v := .int (u.1 22 0)) (C := RX3) (T := TX3) (N := 9) hx hb hts hiX3 hown hK hP 3 rfl rfl 3 (by decide) hf33 (fun _ h9 => h9) rfl dX3_isThere_2 ?_
  refine vp_callSi (va_Run.run (va_runSN (As := [.int x1, .int (u.1 22 0)]) (rest := []) ⟨hx, hb, hml, hown, hts⟩ (c_X8_within l x1 (u.1 22 0) _ hw) ⟨va_cnB 2 hts ggX3_isThere_X8_within rfl rfl rfl (nm_RX3_37 hN) hi_RX8 (by decide +kernel) ⟨Nat.le_of_ble_eq_true rfl, Nat.le_of_ble_eq_true rfl⟩, hs_X8_within, trivial⟩ (psS hN) rfl rfl hl.1 rfl (lv_room (Nat.le_of_ble_eq_true rfl)) dX3_isThere_5 ⟨Nat.zero_le _, Nat.zero_le _⟩)) (fun r1 hw => ?_)
  refine lv_if_eq (tgt := 26) hx hb dX3_isThere_8 (by decide) (fun hc => ?_) (fun hc => ?_)
  · have hw := hw.1 hc
    refine lv_iconst (v := 0) hx hb dX3_isThere_26 (by decide) ?_
    exact W.zret (v := 0) hx hb hr rfl (fun t ht hW => ⟨0, rfl, hw, ht⟩) (fun _ h => by cases h) dX3_isThere_27
  · have hw := hw.2 hc
    refine lv_aload_n hx hb dX3_isThere_11 rfl (lv_at hl 0 rfl) ?_
    refine va_get (D := D) (ci := 3) (v := .long (u.2 6 0)) (C := RX3) (T := TX3) (N := 9) hx hb hts hiX3 hown hK hP 3 rfl rfl 4 (by decide) hf41 (fun _ h9 => h9) rfl dX3_isThere_12 ?_
    refine lv_iload_n hx hb dX3_isThere_15 rfl (lv_at hl 1 rfl) ?_
    refine vp_callSi (va_Run.run (va_runSN (As := [.long (u.2 6 0), .int x1]) (rest := []) ⟨hx, hb, hml, hown, hts⟩ (c_X8_holds l (u.2 6 0) x1 _ hw) ⟨va_cnB 2 hts ggX3_isThere_X8_holds rfl rfl rfl (nm_RX3_45 hN) hi_RX8 (by decide +kernel) ⟨Nat.le_of_ble_eq_true rfl, Nat.le_of_ble_eq_true rfl⟩, hs_X8_holds, trivial⟩ (psS hN) rfl rfl hl.1 rfl (lv_room (Nat.le_of_ble_eq_true rfl)) dX3_isThere_16 ⟨Nat.zero_le _, Nat.zero_le _⟩)) (fun r2 hw => ?_)
    refine lv_if_eq (tgt := 26) hx hb dX3_isThere_19 (by decide) (fun hc => ?_) (fun hc => ?_)
    · have hw := hw.1 hc
      refine lv_iconst (v := 0) hx hb dX3_isThere_26 (by decide) ?_
      exact W.zret (v := 0) hx hb hr rfl (fun t ht hW => ⟨0, rfl, hw, ht⟩) (fun _ h => by cases h) dX3_isThere_27
    · have hw := hw.2 hc
      refine lv_iconst (v := 1) hx hb dX3_isThere_22 (by decide) ?_
      refine lv_goto (tgt := 27) hx hb dX3_isThere_23 (by decide) ?_
      exact W.zret (v := 1) hx hb hr rfl (fun t ht hW => ⟨1, rfl, hw, ht⟩) (fun _ h => by cases h) dX3_isThere_27
