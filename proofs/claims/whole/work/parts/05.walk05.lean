set_option maxHeartbeats 4000000 in
set_option maxRecDepth 100000 in
theorem c_X3_remove (l : Launch) (D : va_G) (q : Nat → Nat) (cI cJ cZ : ClassId) (sz : Nat) (u : WU) (x1 : Int32) (post : WU → Prop) (hw : wp_X3_remove x1 u post) : Met l yX3_remove wsX3_remove rm_X3_remove (va_Pc [.ref (q 3), .int x1] (MW D (ty3 cI cJ cZ) (wX q cI cJ cZ u) sz)) (va_Qv post (fun u' t => va_P D vwCl (wX q cI cJ cZ u') t.heap) (va_A (wX q cI cJ cZ u00) sz)) 0 0 (va_A (wX q cI cJ cZ u00) sz) := by
  refine Met.ofW (cc := cX3_remove) (maxL := 2) (ret := none) (by decide) rfl ?_
  intro p e s m args below meth c s₁ B hml hv
  obtain ⟨hargs, hsz, hP, hK, hD0, hN⟩ := hv
  have hx := B.exec
  have hb := B.bytes
  have hr := B.returns
  have hts := atoms_spec (ws := wsX3_remove) B.pre
  have hown : s.vm.findClass RX3 = some m.cls := findClass_of_methodNamed B.named
  have hlocks := B.notSynchronized
  subst hsz
  have hD := shw_self (sz := s.heap.size) (sh_wX q cI cJ cZ) hD0
  have hA : ∀ a : Nat, s.heap.size ≤ a → va_A (wX q cI cJ cZ u00) s.heap.size a := fun _ h => Or.inr h
  have hS : va_S (va_A (wX q cI cJ cZ u00) s.heap.size) s.heap s.heap [] := va_S.rf
  have hiX3 : ∀ w ∈ u_ws RX3 TX3 9, w ∈ wsX3_remove := by decide +kernel
  have hc55 := hts (.constantLong RX3 55 (-1)) (by decide +kernel)
  have hf41 := hts (.fieldLink RX3 41 "TermsDesk$Joins" "there" "J") (by decide +kernel)
  have hent := lg_entry_eq m ([.ref (q 3), .int x1]) 2
  rw [← hargs] at hent
  rw [hent]
  have hl := lv_entry ([.ref (q 3), .int x1]) (n := 2) (Nat.le_of_ble_eq_true rfl)
  generalize (lg_sl ([.ref (q 3), .int x1]) ++ List.replicate (2 - (lg_sl ([.ref (q 3), .int x1])).length) Slot.unset).toArray = ls at hl ⊢
  have hl : lv_has ls 2 [(0, .ref (q 3)), (1, .int x1)] := hl
  unfold wp_X3_remove at hw
  refine lv_aload_n hx hb dX3_remove_0 rfl (lv_at hl 0 rfl) ?_
  refine lv_dup hx hb dX3_remove_1 rfl ?_
  refine va_get (D := D) (ci := 3) (v := .long (u.2 6 0)) (C := RX3) (T := TX3) (N := 9) hx hb hts hiX3 hown hK hP 3 rfl rfl 4 (by decide) hf41 (fun _ h9 => h9) rfl dX3_remove_2 ?_
  refine lv_lconst (v := 1) hx hb dX3_remove_5 (by decide) ?_
  refine lv_iload_n hx hb dX3_remove_6 rfl (lv_at hl 1 rfl) ?_
  refine lv_lshl (v := jshl 1 x1) hx hb dX3_remove_7 rfl ?_
  refine lv_ldc2 (v := (-1)) hx hb hown hc55 dX3_remove_8 ?_
  refine lv_lxor hx hb dX3_remove_11 ?_
  refine lv_land hx hb dX3_remove_12 ?_
  refine va_put (D := D) (ci := 3) (v := .long ((u.2 6 0) &&& ((jshl 1 x1) ^^^ (-1)))) (ty := .long) (C := RX3) (T := TX3) (N := 9) hx hb hts hiX3 tyX3 tyX3_ok nmX3 hown hK hP hD hS 3 rfl rfl 4 (by decide) hf41 (fun _ h9 => h9) rfl (by decide +kernel) rfl rfl (Nat.le_of_ble_eq_true rfl) dX3_remove_13 (sPut (w := wX q cI cJ cZ) (uu := uJ u 6 (fun _ => (u.2 6 0) &&& ((jshl 1 x1) ^^^ (-1)))) (wXs_X3_4 q cI cJ cZ u _) (fun u1 H locs eu1 hP hD hS => ?_))
  have hw := hw u1 eu1
  refine lv_aload_n hx hb dX3_remove_16 rfl (lv_at hl 0 rfl) ?_
  refine cMv (sh_wX q cI cJ cZ) (u := u1) (va_runV (As := []) (rest := []) ⟨hx, hb, hml, hown, hts⟩ (c_X3_sortJoins l D q cI cJ cZ _ u1 _ hw) (cwV 0 hts gX3_remove_X3_sortJoins rfl rfl rfl (by decide +kernel) ⟨Nat.le_of_ble_eq_true rfl, Nat.le_of_ble_eq_true rfl⟩) (pvM (va_recv hK hP (ci := 3) (q0 := 3) (q := (RX3, TX3, 9)) rfl rfl) hK hP hD hN) rfl rfl hl.1 rfl (lv_room (Nat.le_of_ble_eq_true rfl)) dX3_remove_17 ⟨Nat.zero_le _, Nat.zero_le _⟩) hA hD hS (fun u2 H locs hw hP hD hS => ?_)
  exact W.vret hx hb hr (fun t ht hW => ⟨⟨u2, rfl, hw, by show va_P D vwCl _ t.heap; rw [ht]; exact hP⟩, hS.F ht⟩) hS.2.2 dX3_remove_20
set_option maxHeartbeats 4000000 in
set_option maxRecDepth 100000 in
theorem c_X8_cut (l : Launch) (D : va_G) (q : Nat → Nat) (cI cJ cZ : ClassId) (sz : Nat) (u : WU) (x1 : Int32) (post : Int32 → WU → Prop) (hw : wp_X8_cut x1 u post) : Met l yX8_cut wsX8_cut rm_X8_cut (va_Pc [.ref (q 0), .int x1] (MW D (ty3 cI cJ cZ) (wX q cI cJ cZ u) sz)) (va_Qi post (fun u' t => va_P D vwCl (wX q cI cJ cZ u') t.heap) (va_A (wX q cI cJ cZ u00) sz)) 0 0 (va_A (wX q cI cJ cZ u00) sz) := by
  refine Met.ofW (cc := cX8_cut) (maxL := 2) (ret := (some .boolean)) (by decide) rfl ?_
  intro p e s m args below meth c s₁ B hml hv
  obtain ⟨hargs, hsz, hP, hK, hD0, hN⟩ := hv
  have hx := B.exec
  have hb := B.bytes
  have hr := B.returns
  have hts := atoms_spec (ws := wsX8_cut) B.pre
  have hown : s.vm.findClass RX8 = some m.cls := findClass_of_methodNamed B.named
  have hlocks := B.notSynchronized
  subst hsz
  have hD := shw_self (sz := s.heap.size) (sh_wX q cI cJ cZ) hD0
  have hA : ∀ a : Nat, s.heap.size ≤ a → va_A (wX q cI cJ cZ u00) s.heap.size a := fun _ h => Or.inr h
  have hS : va_S (va_A (wX q cI cJ cZ u00) s.heap.size) s.heap s.heap [] := va_S.rf
  have hiX8 : ∀ w ∈ u_ws RX8 TX8 8, w ∈ wsX8_cut := by decide +kernel
  have hf26 := hts (.fieldLink RX8 26 "TermsDesk" "joins" "LTermsDesk$Joins;") (by decide +kernel)
  have hent := lg_entry_eq m ([.ref (q 0), .int x1]) 2
  rw [← hargs] at hent
  rw [hent]
  have hl := lv_entry ([.ref (q 0), .int x1]) (n := 2) (Nat.le_of_ble_eq_true rfl)
  generalize (lg_sl ([.ref (q 0), .int x1]) ++ List.replicate (2 - (lg_sl ([.ref (q 0), .int x1])).length) Slot.unset).toArray = ls at hl ⊢
  have hl : lv_has ls 2 [(0, .ref (q 0)), (1, .int x1)] := hl
  unfold wp_X8_cut at hw
  refine lv_aload_n hx hb dX8_cut_0 rfl (lv_at hl 0 rfl) ?_
  refine va_get (D := D) (ci := 8) (v := .ref (q 3)) (C := RX8) (T := TX8) (N := 8) hx hb hts hiX8 hown hK hP 0 rfl rfl 2 (by decide) hf26 (fun _ h9 => h9) rfl dX8_cut_1 ?_
  refine lv_iload_n hx hb dX8_cut_4 rfl (lv_at hl 1 rfl) ?_
  refine vp_callSi (va_Run.run (va_runV (As := [.int x1]) (rest := []) ⟨hx, hb, hml, hown, hts⟩ (c_X3_isThere l D q cI cJ cZ u x1 _ hw) (cwV 1 hts gX8_cut_X3_isThere rfl rfl rfl (by decide +kernel) ⟨Nat.le_of_ble_eq_true rfl, Nat.le_of_ble_eq_true rfl⟩) (pvR (va_recv hK hP (ci := 3) (q0 := 3) (q := (RX3, TX3, 9)) rfl rfl) hK hP hN) rfl rfl hl.1 rfl (lv_room (Nat.le_of_ble_eq_true rfl)) dX8_cut_5 ⟨Nat.zero_le _, Nat.zero_le _⟩)) (fun r1 hw => ?_)
  refine lv_if_ne (tgt := 13) hx hb dX8_cut_8 (by decide) (fun hc => ?_) (fun hc => ?_)
  · have hw := hw.1 hc
    refine lv_aload_n hx hb dX8_cut_13 rfl (lv_at hl 0 rfl) ?_
    refine va_get (D := D) (ci := 8) (v := .ref (q 3)) (C := RX8) (T := TX8) (N := 8) hx hb hts hiX8 hown hK hP 0 rfl rfl 2 (by decide) hf26 (fun _ h9 => h9) rfl dX8_cut_14 ?_
    refine lv_iload_n hx hb dX8_cut_17 rfl (lv_at hl 1 rfl) ?_
    refine cMv (sh_wX q cI cJ cZ) (u := u) (va_runV (As := [.int x1]) (rest := []) ⟨hx, hb, hml, hown, hts⟩ (c_X3_remove l D q cI cJ cZ _ u x1 _ hw) (cwV 1 hts gX8_cut_X3_remove rfl rfl rfl (by decide +kernel) ⟨Nat.le_of_ble_eq_true rfl, Nat.le_of_ble_eq_true rfl⟩) (pvM (va_recv hK hP (ci := 3) (q0 := 3) (q := (RX3, TX3, 9)) rfl rfl) hK hP hD hN) rfl rfl hl.1 rfl (lv_room (Nat.le_of_ble_eq_true rfl)) dX8_cut_18 ⟨Nat.zero_le _, Nat.zero_le _⟩) hA hD hS (fun u2 H locs hw hP hD hS => ?_)
    refine lv_iconst (v := 1) hx hb dX8_cut_21 (by decide) ?_
    exact W.zret (v := 1) hx hb hr rfl (fun t ht hW => ⟨⟨1, u2, rfl, hw, by show va_P D vwCl _ t.heap; rw [ht]; exact hP⟩, hS.F ht⟩) hS.2.2 dX8_cut_22
  · have hw := hw.2 hc
    refine lv_iconst (v := 0) hx hb dX8_cut_11 (by decide) ?_
    exact W.zret (v := 0) hx hb hr rfl (fun t ht hW => ⟨⟨0, u, rfl, hw, by show va_P D vwCl _ t.heap; rw [ht]; exact hP⟩, hS.F ht⟩) hS.2.2 dX8_cut_12
set_option maxHeartbeats 4000000 in
set_option maxRecDepth 100000 in
theorem c_X9_cut (l : Launch) (D : va_G) (q : Nat → Nat) (cI cJ cZ : ClassId) (sz : Nat) (u : WU) (x1 : Int32) (post : Int32 → WU → Prop) (hw : wp_X9_cut x1 u post) : Met l yX9_cut wsX9_cut rm_X9_cut (va_Pc [.ref (q 0), .int x1] (MW D (ty3 cI cJ cZ) (wM q cI cJ cZ u) sz)) (va_Qi post (fun u' t => va_P D vwCl (wM q cI cJ cZ u') t.heap) (va_A (wM q cI cJ cZ u00) sz)) 0 0 (va_A (wM q cI cJ cZ u00) sz) := by
  refine Met.ofW (cc := cX9_cut) (maxL := 2) (ret := (some .boolean)) (by decide) rfl ?_
  intro p e s m args below meth c s₁ B hml hv
  obtain ⟨hargs, hsz, hP, hK, hD0, hN⟩ := hv
  have hx := B.exec
  have hb := B.bytes
  have hr := B.returns
  have hts := atoms_spec (ws := wsX9_cut) B.pre
  have hown : s.vm.findClass RX9 = some m.cls := findClass_of_methodNamed B.named
  have hlocks := B.notSynchronized
  subst hsz
  have hD := shw_self (sz := s.heap.size) (sh_wM q cI cJ cZ) hD0
  have hA : ∀ a : Nat, s.heap.size ≤ a → va_A (wM q cI cJ cZ u00) s.heap.size a := fun _ h => Or.inr h
  have hS : va_S (va_A (wM q cI cJ cZ u00) s.heap.size) s.heap s.heap [] := va_S.rf
  have hiX9 : ∀ w ∈ u_ws RX9 TX9 30, w ∈ wsX9_cut := by decide +kernel
  have hf108 := hts (.fieldLink RX9 108 "TermsDeskModel" "joins" "I") (by decide +kernel)
  have hf41 := hts (.fieldLink RX9 41 "TermsDeskModel" "isCut" "[Z") (by decide +kernel)
  have hent := lg_entry_eq m ([.ref (q 0), .int x1]) 2
  rw [← hargs] at hent
  rw [hent]
  have hl := lv_entry ([.ref (q 0), .int x1]) (n := 2) (Nat.le_of_ble_eq_true rfl)
  generalize (lg_sl ([.ref (q 0), .int x1]) ++ List.replicate (2 - (lg_sl ([.ref (q 0), .int x1])).length) Slot.unset).toArray = ls at hl ⊢
  have hl : lv_has ls 2 [(0, .ref (q 0)), (1, .int x1)] := hl
  unfold wp_X9_cut at hw
  refine lv_iload_n hx hb dX9_cut_0 rfl (lv_at hl 1 rfl) ?_
  refine lv_iconst (v := 0) hx hb dX9_cut_1 (by decide) ?_
  refine lv_aload_n hx hb dX9_cut_2 rfl (lv_at hl 0 rfl) ?_
  refine va_get (D := D) (ci := 9) (v := .int (u.1 23 0)) (C := RX9) (T := TX9) (N := 30) hx hb hts hiX9 hown hK hP 0 rfl rfl 9 (by decide) hf108 (fun _ h9 => h9) rfl dX9_cut_3 ?_
  refine lv_iconst (v := 1) hx hb dX9_cut_6 (by decide) ?_
  refine lv_isub hx hb dX9_cut_7 ?_
  refine vp_callSi (va_Run.run (va_runS (As := [.int x1, .int 0, .int ((u.1 23 0) - 1)]) (rest := []) ⟨hx, hb, hml, hown, hts⟩ (c_X9_lies l x1 0 ((u.1 23 0) - 1) _ hw) (va_cwS 3 hts gX9_cut_X9_lies rfl rfl rfl (by decide +kernel) ⟨Nat.le_of_ble_eq_true rfl, Nat.le_of_ble_eq_true rfl⟩) (psS hN) rfl rfl hl.1 rfl (lv_room (Nat.le_of_ble_eq_true rfl)) dX9_cut_8 ⟨Nat.zero_le _, Nat.zero_le _⟩)) (fun r1 hw => ?_)
  refine lv_if_eq (tgt := 23) hx hb dX9_cut_11 (by decide) (fun hc => ?_) (fun hc => ?_)
  · have hw := hw.1 hc
    refine lv_iconst (v := 0) hx hb dX9_cut_23 (by decide) ?_
    exact W.zret (v := 0) hx hb hr rfl (fun t ht hW => ⟨⟨0, u, rfl, hw, by show va_P D vwCl _ t.heap; rw [ht]; exact hP⟩, hS.F ht⟩) hS.2.2 dX9_cut_24
  · have hw := hw.2 hc
    refine lv_aload_n hx hb dX9_cut_14 rfl (lv_at hl 0 rfl) ?_
    refine va_get (D := D) (ci := 9) (v := .ref (q 11)) (C := RX9) (T := TX9) (N := 30) hx hb hts hiX9 hown hK hP 0 rfl rfl 13 (by decide) hf41 (fun _ h9 => h9) rfl dX9_cut_15 ?_
    refine lv_iload_n hx hb dX9_cut_18 rfl (lv_at hl 1 rfl) ?_
    obtain ⟨hin, hw⟩ := hw
    refine va_zald hx hb hK hP 11 2 rfl rfl hin dX9_cut_19 ?_
    refine lv_if_eq (tgt := 25) hx hb dX9_cut_20 (by decide) (fun hc => ?_) (fun hc => ?_)
    · have hw := hw.1 hc
      refine lv_aload_n hx hb dX9_cut_25 rfl (lv_at hl 0 rfl) ?_
      refine va_get (D := D) (ci := 9) (v := .ref (q 11)) (C := RX9) (T := TX9) (N := 30) hx hb hts hiX9 hown hK hP 0 rfl rfl 13 (by decide) hf41 (fun _ h9 => h9) rfl dX9_cut_26 ?_
      refine lv_iload_n hx hb dX9_cut_29 rfl (lv_at hl 1 rfl) ?_
      refine lv_iconst (v := 1) hx hb dX9_cut_30 (by decide) ?_
      obtain ⟨hin, hw⟩ := hw
      refine sZast (w := wM q cI cJ cZ) hx hb hK hP hD hS 11 2 8 rfl rfl (wMa_11 q cI cJ cZ u) hin dX9_cut_31 (fun u2 H locs eu2 hP hD hS => ?_)
      have hw := hw u2 eu2
      refine lv_iconst (v := 1) hx hb dX9_cut_32 (by decide) ?_
      exact W.zret (v := 1) hx hb hr rfl (fun t ht hW => ⟨⟨1, u2, rfl, hw, by show va_P D vwCl _ t.heap; rw [ht]; exact hP⟩, hS.F ht⟩) hS.2.2 dX9_cut_33
    · have hw := hw.2 hc
      refine lv_iconst (v := 0) hx hb dX9_cut_23 (by decide) ?_
      exact W.zret (v := 0) hx hb hr rfl (fun t ht hW => ⟨⟨0, u, rfl, hw, by show va_P D vwCl _ t.heap; rw [ht]; exact hP⟩, hS.F ht⟩) hS.2.2 dX9_cut_24
set_option maxHeartbeats 4000000 in
set_option maxRecDepth 100000 in
theorem c_X8_except (l : Launch) (D : va_G) (q : Nat → Nat) (cI cJ cZ : ClassId) (sz : Nat) (u : WU) (x1 : Int32) (x2 : Int32) (x3 : Int32) (post : Int32 → WU → Prop) (hw : wp_X8_except x1 x2 x3 u post) : Met l yX8_except wsX8_except rm_X8_except (va_Pc [.ref (q 0), .int x1, .int x2, .int x3] (MW D (ty3 cI cJ cZ) (wX q cI cJ cZ u) sz)) (va_Qi post (fun u' t => va_P D vwCl (wX q cI cJ cZ u') t.heap) (va_A (wX q cI cJ cZ u00) sz)) 0 0 (va_A (wX q cI cJ cZ u00) sz) := by
  refine Met.ofW (cc := cX8_except) (maxL := 4) (ret := (some .boolean)) (by decide) rfl ?_
  intro p e s m args below meth c s₁ B hml hv
  obtain ⟨hargs, hsz, hP, hK, hD0, hN⟩ := hv
  have hx := B.exec
  have hb := B.bytes
  have hr := B.returns
  have hts := atoms_spec (ws := wsX8_except) B.pre
  have hown : s.vm.findClass RX8 = some m.cls := findClass_of_methodNamed B.named
  have hlocks := B.notSynchronized
  subst hsz
  have hD := shw_self (sz := s.heap.size) (sh_wX q cI cJ cZ) hD0
  have hA : ∀ a : Nat, s.heap.size ≤ a → va_A (wX q cI cJ cZ u00) s.heap.size a := fun _ h => Or.inr h
  have hS : va_S (va_A (wX q cI cJ cZ u00) s.heap.size) s.heap s.heap [] := va_S.rf
  have hiX5 : ∀ w ∈ u_ws RX5 TX5 6, w ∈ wsX8_except := by decide +kernel
  have hiX8 : ∀ w ∈ u_ws RX8 TX8 8, w ∈ wsX8_except := by decide +kernel
  have hf19 := hts (.fieldLink RX8 19 "TermsDesk" "parts" "LTermsDesk$Parts;") (by decide +kernel)
  have hent := lg_entry_eq m ([.ref (q 0), .int x1, .int x2, .int x3]) 4
  rw [← hargs] at hent
  rw [hent]
  have hl := lv_entry ([.ref (q 0), .int x1, .int x2, .int x3]) (n := 4) (Nat.le_of_ble_eq_true rfl)
  generalize (lg_sl ([.ref (q 0), .int x1, .int x2, .int x3]) ++ List.replicate (4 - (lg_sl ([.ref (q 0), .int x1, .int x2, .int x3])).length) Slot.unset).toArray = ls at hl ⊢
  have hl : lv_has ls 4 [(0, .ref (q 0)), (1, .int x1), (2, .int x2), (3, .int x3)] := hl
  unfold wp_X8_except at hw
  refine lv_aload_n hx hb dX8_except_0 rfl (lv_at hl 0 rfl) ?_
  refine va_get (D := D) (ci := 8) (v := .ref (q 2)) (C := RX8) (T := TX8) (N := 8) hx hb hts hiX8 hown hK hP 0 rfl rfl 1 (by decide) hf19 (fun _ h9 => h9) rfl dX8_except_1 ?_
  refine lv_iload_n hx hb dX8_except_4 rfl (lv_at hl 1 rfl) ?_
  refine vp_callSi (va_Run.run (va_runV (As := [.int x1]) (rest := []) ⟨hx, hb, hml, hown, hts⟩ (c_X5_has l D q cI cJ cZ u x1 _ hw) (cwV 1 hts gX8_except_X5_has rfl rfl rfl (by decide +kernel) ⟨Nat.le_of_ble_eq_true rfl, Nat.le_of_ble_eq_true rfl⟩) (pvR (va_recv hK hP (ci := 5) (q0 := 2) (q := (RX5, TX5, 6)) rfl rfl) hK hP hN) rfl rfl hl.1 rfl (lv_room (Nat.le_of_ble_eq_true rfl)) dX8_except_5 ⟨Nat.zero_le _, Nat.zero_le _⟩)) (fun r1 hw => ?_)
  refine lv_if_eq (tgt := 39) hx hb dX8_except_8 (by decide) (fun hc => ?_) (fun hc => ?_)
  · have hw := hw.1 hc
    refine lv_iconst (v := 0) hx hb dX8_except_39 (by decide) ?_
    exact W.zret (v := 0) hx hb hr rfl (fun t ht hW => ⟨⟨0, u, rfl, hw, by show va_P D vwCl _ t.heap; rw [ht]; exact hP⟩, hS.F ht⟩) hS.2.2 dX8_except_40
  · have hw := hw.2 hc
    refine lv_iload_n hx hb dX8_except_11 rfl (lv_at hl 2 rfl) ?_
    refine lv_iload_n hx hb dX8_except_12 rfl (lv_at hl 3 rfl) ?_
    refine vp_callSi (va_Run.run (va_runS (As := [.int x2, .int x3]) (rest := []) ⟨hx, hb, hml, hown, hts⟩ (c_X8_isPair l x2 x3 _ hw) (va_cwS 2 hts gX8_except_X8_isPair rfl rfl rfl (by decide +kernel) ⟨Nat.le_of_ble_eq_true rfl, Nat.le_of_ble_eq_true rfl⟩) (psS hN) rfl rfl hl.1 rfl (lv_room (Nat.le_of_ble_eq_true rfl)) dX8_except_13 ⟨Nat.zero_le _, Nat.zero_le _⟩)) (fun r2 hw => ?_)
    refine lv_if_eq (tgt := 39) hx hb dX8_except_16 (by decide) (fun hc => ?_) (fun hc => ?_)
    · have hw := hw.1 hc
      refine lv_iconst (v := 0) hx hb dX8_except_39 (by decide) ?_
      exact W.zret (v := 0) hx hb hr rfl (fun t ht hW => ⟨⟨0, u, rfl, hw, by show va_P D vwCl _ t.heap; rw [ht]; exact hP⟩, hS.F ht⟩) hS.2.2 dX8_except_40
    · have hw := hw.2 hc
      refine lv_aload_n hx hb dX8_except_19 rfl (lv_at hl 0 rfl) ?_
      refine va_get (D := D) (ci := 8) (v := .ref (q 2)) (C := RX8) (T := TX8) (N := 8) hx hb hts hiX8 hown hK hP 0 rfl rfl 1 (by decide) hf19 (fun _ h9 => h9) rfl dX8_except_20 ?_
      refine va_getN (D := D) (ci := 5) (v := .ref (q 15)) (C := RX5) (T := TX5) (N := 6) hx hb hts hiX5 hown hK hP 2 rfl rfl 3 (by decide) (va_Nw.use rfl (nf_RX8_142 hN)) (fun _ h9 => h9) rfl dX8_except_23 ?_
      refine lv_iload_n hx hb dX8_except_26 rfl (lv_at hl 1 rfl) ?_
      obtain ⟨hin, hw⟩ := hw
      refine va_lald hx hb hK hP 15 1 rfl rfl hin dX8_except_27 ?_
      refine lv_iload_n hx hb dX8_except_28 rfl (lv_at hl 2 rfl) ?_
      refine lv_iload_n hx hb dX8_except_29 rfl (lv_at hl 3 rfl) ?_
      refine vp_callSi (va_Run.run (va_runS (As := [.int x2, .int x3]) (rest := [.long (u.2 3 x1.toNatClampNeg)]) ⟨hx, hb, hml, hown, hts⟩ (c_X8_pairOf l x2 x3 _ hw) (va_cwS 2 hts gX8_except_X8_pairOf rfl rfl rfl (by decide +kernel) ⟨Nat.le_of_ble_eq_true rfl, Nat.le_of_ble_eq_true rfl⟩) (psS hN) rfl rfl hl.1 rfl (lv_room (Nat.le_of_ble_eq_true rfl)) dX8_except_30 ⟨Nat.zero_le _, Nat.zero_le _⟩)) (fun r3 hw => ?_)
      refine vp_callSi (va_Run.run (va_runS (As := [.long (u.2 3 x1.toNatClampNeg), .int r3]) (rest := []) ⟨hx, hb, hml, hown, hts⟩ (c_X8_holds l (u.2 3 x1.toNatClampNeg) r3 _ hw) (va_cwS 2 hts gX8_except_X8_holds rfl rfl rfl (by decide +kernel) ⟨Nat.le_of_ble_eq_true rfl, Nat.le_of_ble_eq_true rfl⟩) (psS hN) rfl rfl hl.1 rfl (lv_room (Nat.le_of_ble_eq_true rfl)) dX8_except_33 ⟨Nat.zero_le _, Nat.zero_le _⟩)) (fun r4 hw => ?_)
      refine lv_if_eq (tgt := 41) hx hb dX8_except_36 (by decide) (fun hc => ?_) (fun hc => ?_)
      · have hw := hw.1 hc
        refine lv_aload_n hx hb dX8_except_41 rfl (lv_at hl 0 rfl) ?_
        refine va_get (D := D) (ci := 8) (v := .ref (q 2)) (C := RX8) (T := TX8) (N := 8) hx hb hts hiX8 hown hK hP 0 rfl rfl 1 (by decide) hf19 (fun _ h9 => h9) rfl dX8_except_42 ?_
        refine va_getN (D := D) (ci := 5) (v := .ref (q 15)) (C := RX5) (T := TX5) (N := 6) hx hb hts hiX5 hown hK hP 2 rfl rfl 3 (by decide) (va_Nw.use rfl (nf_RX8_142 hN)) (fun _ h9 => h9) rfl dX8_except_45 ?_
        refine lv_iload_n hx hb dX8_except_48 rfl (lv_at hl 1 rfl) ?_
        refine lv_dup2_11 hx hb dX8_except_49 rfl rfl ?_
        obtain ⟨hin, hw⟩ := hw
        refine va_lald hx hb hK hP 15 1 rfl rfl hin dX8_except_50 ?_
        refine lv_lconst (v := 1) hx hb dX8_except_51 (by decide) ?_
        refine lv_iload_n hx hb dX8_except_52 rfl (lv_at hl 2 rfl) ?_
        refine lv_iload_n hx hb dX8_except_53 rfl (lv_at hl 3 rfl) ?_
        refine vp_callSi (va_Run.run (va_runS (As := [.int x2, .int x3]) (rest := [.long 1, .long (u.2 3 x1.toNatClampNeg), .int x1, .ref (q 15)]) ⟨hx, hb, hml, hown, hts⟩ (c_X8_pairOf l x2 x3 _ hw) (va_cwS 2 hts gX8_except_X8_pairOf rfl rfl rfl (by decide +kernel) ⟨Nat.le_of_ble_eq_true rfl, Nat.le_of_ble_eq_true rfl⟩) (psS hN) rfl rfl hl.1 rfl (lv_room (Nat.le_of_ble_eq_true rfl)) dX8_except_54 ⟨Nat.zero_le _, Nat.zero_le _⟩)) (fun r5 hw => ?_)
        refine lv_lshl (v := jshl 1 r5) hx hb dX8_except_57 rfl ?_
        refine lv_lor hx hb dX8_except_58 ?_
        obtain ⟨hin, hw⟩ := hw
        refine sLast (w := wX q cI cJ cZ) hx hb hK hP hD hS 15 1 3 rfl rfl (wXa_15 q cI cJ cZ u) hin dX8_except_59 (fun u6 H locs eu6 hP hD hS => ?_)
        have hw := hw u6 eu6
        refine lv_iconst (v := 1) hx hb dX8_except_60 (by decide) ?_
        exact W.zret (v := 1) hx hb hr rfl (fun t ht hW => ⟨⟨1, u6, rfl, hw, by show va_P D vwCl _ t.heap; rw [ht]; exact hP⟩, hS.F ht⟩) hS.2.2 dX8_except_61
      · have hw := hw.2 hc
        refine lv_iconst (v := 0) hx hb dX8_except_39 (by decide) ?_
        exact W.zret (v := 0) hx hb hr rfl (fun t ht hW => ⟨⟨0, u, rfl, hw, by show va_P D vwCl _ t.heap; rw [ht]; exact hP⟩, hS.F ht⟩) hS.2.2 dX8_except_40
set_option maxHeartbeats 4000000 in
set_option maxRecDepth 100000 in
theorem c_X9_except (l : Launch) (D : va_G) (q : Nat → Nat) (cI cJ cZ : ClassId) (sz : Nat) (u : WU) (x1 : Int32) (x2 : Int32) (x3 : Int32) (post : Int32 → WU → Prop) (hw : wp_X9_except x1 x2 x3 u post) : Met l yX9_except wsX9_except rm_X9_except (va_Pc [.ref (q 0), .int x1, .int x2, .int x3] (MW D (ty3 cI cJ cZ) (wM q cI cJ cZ u) sz)) (va_Qi post (fun u' t => va_P D vwCl (wM q cI cJ cZ u') t.heap) (va_A (wM q cI cJ cZ u00) sz)) 0 0 (va_A (wM q cI cJ cZ u00) sz) := by
  refine Met.ofW (cc := cX9_except) (maxL := 4) (ret := (some .boolean)) (by decide) rfl ?_
  intro p e s m args below meth c s₁ B hml hv
  obtain ⟨hargs, hsz, hP, hK, hD0, hN⟩ := hv
  have hx := B.exec
  have hb := B.bytes
  have hr := B.returns
  have hts := atoms_spec (ws := wsX9_except) B.pre
  have hown : s.vm.findClass RX9 = some m.cls := findClass_of_methodNamed B.named
  have hlocks := B.notSynchronized
  subst hsz
  have hD := shw_self (sz := s.heap.size) (sh_wM q cI cJ cZ) hD0
  have hA : ∀ a : Nat, s.heap.size ≤ a → va_A (wM q cI cJ cZ u00) s.heap.size a := fun _ h => Or.inr h
  have hS : va_S (va_A (wM q cI cJ cZ u00) s.heap.size) s.heap s.heap [] := va_S.rf
  have hiX9 : ∀ w ∈ u_ws RX9 TX9 30, w ∈ wsX9_except := by decide +kernel
  have hf29 := hts (.fieldLink RX9 29 "TermsDeskModel" "lifted" "[J") (by decide +kernel)
  have hent := lg_entry_eq m ([.ref (q 0), .int x1, .int x2, .int x3]) 4
  rw [← hargs] at hent
  rw [hent]
  have hl := lv_entry ([.ref (q 0), .int x1, .int x2, .int x3]) (n := 4) (Nat.le_of_ble_eq_true rfl)
  generalize (lg_sl ([.ref (q 0), .int x1, .int x2, .int x3]) ++ List.replicate (4 - (lg_sl ([.ref (q 0), .int x1, .int x2, .int x3])).length) Slot.unset).toArray = ls at hl ⊢
  have hl : lv_has ls 4 [(0, .ref (q 0)), (1, .int x1), (2, .int x2), (3, .int x3)] := hl
  unfold wp_X9_except at hw
  refine lv_aload_n hx hb dX9_except_0 rfl (lv_at hl 0 rfl) ?_
  refine lv_iload_n hx hb dX9_except_1 rfl (lv_at hl 1 rfl) ?_
  refine vp_callSi (va_Run.run (va_runV (As := [.int x1]) (rest := []) ⟨hx, hb, hml, hown, hts⟩ (c_X9_isPart l D q cI cJ cZ u x1 _ hw) (cwV 1 hts gX9_except_X9_isPart rfl rfl rfl (by decide +kernel) ⟨Nat.le_of_ble_eq_true rfl, Nat.le_of_ble_eq_true rfl⟩) (pvR (va_recv hK hP (ci := 9) (q0 := 0) (q := (RX9, TX9, 30)) rfl rfl) hK hP hN) rfl rfl hl.1 rfl (lv_room (Nat.le_of_ble_eq_true rfl)) dX9_except_2 ⟨Nat.zero_le _, Nat.zero_le _⟩)) (fun r1 hw => ?_)
  refine lv_if_eq (tgt := 42) hx hb dX9_except_5 (by decide) (fun hc => ?_) (fun hc => ?_)
  · have hw := hw.1 hc
    refine lv_iconst (v := 0) hx hb dX9_except_42 (by decide) ?_
    exact W.zret (v := 0) hx hb hr rfl (fun t ht hW => ⟨⟨0, u, rfl, hw, by show va_P D vwCl _ t.heap; rw [ht]; exact hP⟩, hS.F ht⟩) hS.2.2 dX9_except_43
  · have hw := hw.2 hc
    refine lv_iload_n hx hb dX9_except_8 rfl (lv_at hl 2 rfl) ?_
    refine vp_callSi (va_Run.run (va_runS (As := [.int x2]) (rest := []) ⟨hx, hb, hml, hown, hts⟩ (c_X9_isLicence l x2 _ hw) (va_cwS 1 hts gX9_except_X9_isLicence rfl rfl rfl (by decide +kernel) ⟨Nat.le_of_ble_eq_true rfl, Nat.le_of_ble_eq_true rfl⟩) (psS hN) rfl rfl hl.1 rfl (lv_room (Nat.le_of_ble_eq_true rfl)) dX9_except_9 ⟨Nat.zero_le _, Nat.zero_le _⟩)) (fun r2 hw => ?_)
    refine lv_if_eq (tgt := 42) hx hb dX9_except_12 (by decide) (fun hc => ?_) (fun hc => ?_)
    · have hw := hw.1 hc
      refine lv_iconst (v := 0) hx hb dX9_except_42 (by decide) ?_
      exact W.zret (v := 0) hx hb hr rfl (fun t ht hW => ⟨⟨0, u, rfl, hw, by show va_P D vwCl _ t.heap; rw [ht]; exact hP⟩, hS.F ht⟩) hS.2.2 dX9_except_43
    · have hw := hw.2 hc
      refine lv_iload_n hx hb dX9_except_15 rfl (lv_at hl 3 rfl) ?_
      refine lv_iconst (v := 0) hx hb dX9_except_16 (by decide) ?_
      refine lv_bipush (v := 7) hx hb dX9_except_17 (by decide) ?_
      refine vp_callSi (va_Run.run (va_runS (As := [.int x3, .int 0, .int 7]) (rest := []) ⟨hx, hb, hml, hown, hts⟩ (c_X9_lies l x3 0 7 _ hw) (va_cwS 3 hts gX9_except_X9_lies rfl rfl rfl (by decide +kernel) ⟨Nat.le_of_ble_eq_true rfl, Nat.le_of_ble_eq_true rfl⟩) (psS hN) rfl rfl hl.1 rfl (lv_room (Nat.le_of_ble_eq_true rfl)) dX9_except_19 ⟨Nat.zero_le _, Nat.zero_le _⟩)) (fun r3 hw => ?_)
      refine lv_if_eq (tgt := 42) hx hb dX9_except_22 (by decide) (fun hc => ?_) (fun hc => ?_)
      · have hw := hw.1 hc
        refine lv_iconst (v := 0) hx hb dX9_except_42 (by decide) ?_
        exact W.zret (v := 0) hx hb hr rfl (fun t ht hW => ⟨⟨0, u, rfl, hw, by show va_P D vwCl _ t.heap; rw [ht]; exact hP⟩, hS.F ht⟩) hS.2.2 dX9_except_43
      · have hw := hw.2 hc
        refine lv_aload_n hx hb dX9_except_25 rfl (lv_at hl 0 rfl) ?_
        refine va_get (D := D) (ci := 9) (v := .ref (q 7)) (C := RX9) (T := TX9) (N := 30) hx hb hts hiX9 hown hK hP 0 rfl rfl 8 (by decide) hf29 (fun _ h9 => h9) rfl dX9_except_26 ?_
        refine lv_iload_n hx hb dX9_except_29 rfl (lv_at hl 1 rfl) ?_
        obtain ⟨hin, hw⟩ := hw
        refine va_lald hx hb hK hP 7 1 rfl rfl hin dX9_except_30 ?_
        refine lv_iload_n hx hb dX9_except_31 rfl (lv_at hl 2 rfl) ?_
        refine lv_iload_n hx hb dX9_except_32 rfl (lv_at hl 3 rfl) ?_
        refine vp_callSl (va_Run.run (va_runS (As := [.int x2, .int x3]) (rest := [.long (u.2 1 x1.toNatClampNeg)]) ⟨hx, hb, hml, hown, hts⟩ (c_X9_bit l x2 x3 _ hw) (va_cwS 2 hts gX9_except_X9_bit rfl rfl rfl (by decide +kernel) ⟨Nat.le_of_ble_eq_true rfl, Nat.le_of_ble_eq_true rfl⟩) (psS hN) rfl rfl hl.1 rfl (lv_room (Nat.le_of_ble_eq_true rfl)) dX9_except_33 ⟨Nat.zero_le _, Nat.zero_le _⟩)) (fun r4 hw => ?_)
        refine lv_land hx hb dX9_except_36 ?_
        refine lv_lconst (v := 0) hx hb dX9_except_37 (by decide) ?_
        refine W.lcmp hx hb dX9_except_38 ?_
        refine lv_if_eq (tgt := 44) hx hb dX9_except_39 (by decide) (fun hc => ?_) (fun hc => ?_)
        · have hw := hw.1 hc
          refine lv_aload_n hx hb dX9_except_44 rfl (lv_at hl 0 rfl) ?_
          refine va_get (D := D) (ci := 9) (v := .ref (q 7)) (C := RX9) (T := TX9) (N := 30) hx hb hts hiX9 hown hK hP 0 rfl rfl 8 (by decide) hf29 (fun _ h9 => h9) rfl dX9_except_45 ?_
          refine lv_iload_n hx hb dX9_except_48 rfl (lv_at hl 1 rfl) ?_
          refine lv_dup2_11 hx hb dX9_except_49 rfl rfl ?_
          obtain ⟨hin, hw⟩ := hw
          refine va_lald hx hb hK hP 7 1 rfl rfl hin dX9_except_50 ?_
          refine lv_iload_n hx hb dX9_except_51 rfl (lv_at hl 2 rfl) ?_
          refine lv_iload_n hx hb dX9_except_52 rfl (lv_at hl 3 rfl) ?_
          refine vp_callSl (va_Run.run (va_runS (As := [.int x2, .int x3]) (rest := [.long (u.2 1 x1.toNatClampNeg), .int x1, .ref (q 7)]) ⟨hx, hb, hml, hown, hts⟩ (c_X9_bit l x2 x3 _ hw) (va_cwS 2 hts gX9_except_X9_bit rfl rfl rfl (by decide +kernel) ⟨Nat.le_of_ble_eq_true rfl, Nat.le_of_ble_eq_true rfl⟩) (psS hN) rfl rfl hl.1 rfl (lv_room (Nat.le_of_ble_eq_true rfl)) dX9_except_53 ⟨Nat.zero_le _, Nat.zero_le _⟩)) (fun r5 hw => ?_)
          refine lv_lor hx hb dX9_except_56 ?_
          obtain ⟨hin, hw⟩ := hw
          refine sLast (w := wM q cI cJ cZ) hx hb hK hP hD hS 7 1 1 rfl rfl (wMa_7 q cI cJ cZ u) hin dX9_except_57 (fun u6 H locs eu6 hP hD hS => ?_)
          have hw := hw u6 eu6
          refine lv_iconst (v := 1) hx hb dX9_except_58 (by decide) ?_
          exact W.zret (v := 1) hx hb hr rfl (fun t ht hW => ⟨⟨1, u6, rfl, hw, by show va_P D vwCl _ t.heap; rw [ht]; exact hP⟩, hS.F ht⟩) hS.2.2 dX9_except_59
        · have hw := hw.2 hc
          refine lv_iconst (v := 0) hx hb dX9_except_42 (by decide) ?_
          exact W.zret (v := 0) hx hb hr rfl (fun t ht hW => ⟨⟨0, u, rfl, hw, by show va_P D vwCl _ t.heap; rw [ht]; exact hP⟩, hS.F ht⟩) hS.2.2 dX9_except_43
set_option maxHeartbeats 4000000 in
set_option maxRecDepth 100000 in
theorem c_X8_product (l : Launch) (D : va_G) (q : Nat → Nat) (cI cJ cZ : ClassId) (sz : Nat) (u : WU) (x1 : Int32) (post : Int32 → WU → Prop) (hw : wp_X8_product x1 u post) : Met l yX8_product wsX8_product rm_X8_product (va_Pc [.ref (q 0), .int x1] (MW D (ty3 cI cJ cZ) (wX q cI cJ cZ u) sz)) (va_Qi post (fun u' t => va_P D vwCl (wX q cI cJ cZ u') t.heap) (va_A (wX q cI cJ cZ u00) sz)) 0 0 (va_A (wX q cI cJ cZ u00) sz) := by
  refine Met.ofW (cc := cX8_product) (maxL := 2) (ret := (some .boolean)) (by decide) rfl ?_
  intro p e s m args below meth c s₁ B hml hv
  obtain ⟨hargs, hsz, hP, hK, hD0, hN⟩ := hv
  have hx := B.exec
  have hb := B.bytes
  have hr := B.returns
  have hts := atoms_spec (ws := wsX8_product) B.pre
  have hown : s.vm.findClass RX8 = some m.cls := findClass_of_methodNamed B.named
  have hlocks := B.notSynchronized
  subst hsz
  have hD := shw_self (sz := s.heap.size) (sh_wX q cI cJ cZ) hD0
  have hA : ∀ a : Nat, s.heap.size ≤ a → va_A (wX q cI cJ cZ u00) s.heap.size a := fun _ h => Or.inr h
  have hS : va_S (va_A (wX q cI cJ cZ u00) s.heap.size) s.heap s.heap [] := va_S.rf
  have hiX5 : ∀ w ∈ u_ws RX5 TX5 6, w ∈ wsX8_product := by decide +kernel
  have hiX8 : ∀ w ∈ u_ws RX8 TX8 8, w ∈ wsX8_product := by decide +kernel
  have hf19 := hts (.fieldLink RX8 19 "TermsDesk" "parts" "LTermsDesk$Parts;") (by decide +kernel)
  have hent := lg_entry_eq m ([.ref (q 0), .int x1]) 2
  rw [← hargs] at hent
  rw [hent]
  have hl := lv_entry ([.ref (q 0), .int x1]) (n := 2) (Nat.le_of_ble_eq_true rfl)
  generalize (lg_sl ([.ref (q 0), .int x1]) ++ List.replicate (2 - (lg_sl ([.ref (q 0), .int x1])).length) Slot.unset).toArray = ls at hl ⊢
  have hl : lv_has ls 2 [(0, .ref (q 0)), (1, .int x1)] := hl
  unfold wp_X8_product at hw
  refine lv_aload_n hx hb dX8_product_0 rfl (lv_at hl 0 rfl) ?_
  refine va_get (D := D) (ci := 8) (v := .ref (q 2)) (C := RX8) (T := TX8) (N := 8) hx hb hts hiX8 hown hK hP 0 rfl rfl 1 (by decide) hf19 (fun _ h9 => h9) rfl dX8_product_1 ?_
  refine lv_iload_n hx hb dX8_product_4 rfl (lv_at hl 1 rfl) ?_
  refine vp_callSi (va_Run.run (va_runV (As := [.int x1]) (rest := []) ⟨hx, hb, hml, hown, hts⟩ (c_X5_has l D q cI cJ cZ u x1 _ hw) (cwV 1 hts gX8_product_X5_has rfl rfl rfl (by decide +kernel) ⟨Nat.le_of_ble_eq_true rfl, Nat.le_of_ble_eq_true rfl⟩) (pvR (va_recv hK hP (ci := 5) (q0 := 2) (q := (RX5, TX5, 6)) rfl rfl) hK hP hN) rfl rfl hl.1 rfl (lv_room (Nat.le_of_ble_eq_true rfl)) dX8_product_5 ⟨Nat.zero_le _, Nat.zero_le _⟩)) (fun r1 hw => ?_)
  refine lv_if_ne (tgt := 13) hx hb dX8_product_8 (by decide) (fun hc => ?_) (fun hc => ?_)
  · have hw := hw.1 hc
    refine lv_aload_n hx hb dX8_product_13 rfl (lv_at hl 0 rfl) ?_
    refine va_get (D := D) (ci := 8) (v := .ref (q 2)) (C := RX8) (T := TX8) (N := 8) hx hb hts hiX8 hown hK hP 0 rfl rfl 1 (by decide) hf19 (fun _ h9 => h9) rfl dX8_product_14 ?_
    refine lv_iload_n hx hb dX8_product_17 rfl (lv_at hl 1 rfl) ?_
    refine va_putN (D := D) (ci := 5) (v := .int x1) (ty := .int) (C := RX5) (T := TX5) (N := 6) hx hb hts hiX5 tyX5 tyX5_ok nmX5 hown hK hP hD hS 2 rfl rfl 5 (by decide) (va_Nw.use rfl (nf_RX8_146 hN)) (fun _ h9 => h9) rfl (by decide +kernel) rfl rfl (Nat.le_of_ble_eq_true rfl) dX8_product_18 (sPut (w := wX q cI cJ cZ) (uu := uI u 21 (fun _ => x1)) (wXs_X5_5 q cI cJ cZ u _) (fun u2 H locs eu2 hP hD hS => ?_))
    have hw := hw u2 eu2
    refine lv_iconst (v := 1) hx hb dX8_product_21 (by decide) ?_
    exact W.zret (v := 1) hx hb hr rfl (fun t ht hW => ⟨⟨1, u2, rfl, hw, by show va_P D vwCl _ t.heap; rw [ht]; exact hP⟩, hS.F ht⟩) hS.2.2 dX8_product_22
  · have hw := hw.2 hc
    refine lv_iconst (v := 0) hx hb dX8_product_11 (by decide) ?_
    exact W.zret (v := 0) hx hb hr rfl (fun t ht hW => ⟨⟨0, u, rfl, hw, by show va_P D vwCl _ t.heap; rw [ht]; exact hP⟩, hS.F ht⟩) hS.2.2 dX8_product_12
set_option maxHeartbeats 4000000 in
set_option maxRecDepth 100000 in
theorem c_X9_product (l : Launch) (D : va_G) (q : Nat → Nat) (cI cJ cZ : ClassId) (sz : Nat) (u : WU) (x1 : Int32) (post : Int32 → WU → Prop) (hw : wp_X9_product x1 u post) : Met l yX9_product wsX9_product rm_X9_product (va_Pc [.ref (q 0), .int x1] (MW D (ty3 cI cJ cZ) (wM q cI cJ cZ u) sz)) (va_Qi post (fun u' t => va_P D vwCl (wM q cI cJ cZ u') t.heap) (va_A (wM q cI cJ cZ u00) sz)) 0 0 (va_A (wM q cI cJ cZ u00) sz) := by
  refine Met.ofW (cc := cX9_product) (maxL := 2) (ret := (some .boolean)) (by decide) rfl ?_
  intro p e s m args below meth c s₁ B hml hv
  obtain ⟨hargs, hsz, hP, hK, hD0, hN⟩ := hv
  have hx := B.exec
  have hb := B.bytes
  have hr := B.returns
  have hts := atoms_spec (ws := wsX9_product) B.pre
  have hown : s.vm.findClass RX9 = some m.cls := findClass_of_methodNamed B.named
  have hlocks := B.notSynchronized
  subst hsz
  have hD := shw_self (sz := s.heap.size) (sh_wM q cI cJ cZ) hD0
  have hA : ∀ a : Nat, s.heap.size ≤ a → va_A (wM q cI cJ cZ u00) s.heap.size a := fun _ h => Or.inr h
  have hS : va_S (va_A (wM q cI cJ cZ u00) s.heap.size) s.heap s.heap [] := va_S.rf
  have hiX9 : ∀ w ∈ u_ws RX9 TX9 30, w ∈ wsX9_product := by decide +kernel
  have hf118 := hts (.fieldLink RX9 118 "TermsDeskModel" "product" "I") (by decide +kernel)
  have hent := lg_entry_eq m ([.ref (q 0), .int x1]) 2
  rw [← hargs] at hent
  rw [hent]
  have hl := lv_entry ([.ref (q 0), .int x1]) (n := 2) (Nat.le_of_ble_eq_true rfl)
  generalize (lg_sl ([.ref (q 0), .int x1]) ++ List.replicate (2 - (lg_sl ([.ref (q 0), .int x1])).length) Slot.unset).toArray = ls at hl ⊢
  have hl : lv_has ls 2 [(0, .ref (q 0)), (1, .int x1)] := hl
  unfold wp_X9_product at hw
  refine lv_aload_n hx hb dX9_product_0 rfl (lv_at hl 0 rfl) ?_
  refine lv_iload_n hx hb dX9_product_1 rfl (lv_at hl 1 rfl) ?_
  refine vp_callSi (va_Run.run (va_runV (As := [.int x1]) (rest := []) ⟨hx, hb, hml, hown, hts⟩ (c_X9_isPart l D q cI cJ cZ u x1 _ hw) (cwV 1 hts gX9_product_X9_isPart rfl rfl rfl (by decide +kernel) ⟨Nat.le_of_ble_eq_true rfl, Nat.le_of_ble_eq_true rfl⟩) (pvR (va_recv hK hP (ci := 9) (q0 := 0) (q := (RX9, TX9, 30)) rfl rfl) hK hP hN) rfl rfl hl.1 rfl (lv_room (Nat.le_of_ble_eq_true rfl)) dX9_product_2 ⟨Nat.zero_le _, Nat.zero_le _⟩)) (fun r1 hw => ?_)
  refine lv_if_ne (tgt := 10) hx hb dX9_product_5 (by decide) (fun hc => ?_) (fun hc => ?_)
  · have hw := hw.1 hc
    refine lv_aload_n hx hb dX9_product_10 rfl (lv_at hl 0 rfl) ?_
    refine lv_iload_n hx hb dX9_product_11 rfl (lv_at hl 1 rfl) ?_
    refine va_put (D := D) (ci := 9) (v := .int x1) (ty := .int) (C := RX9) (T := TX9) (N := 30) hx hb hts hiX9 tyX9 tyX9_ok nmX9 hown hK hP hD hS 0 rfl rfl 4 (by decide) hf118 (fun _ h9 => h9) rfl (by decide +kernel) rfl rfl (Nat.le_of_ble_eq_true rfl) dX9_product_12 (sPut (w := wM q cI cJ cZ) (uu := uI u 22 (fun _ => x1)) (wMs_X9_4 q cI cJ cZ u _) (fun u2 H locs eu2 hP hD hS => ?_))
    have hw := hw u2 eu2
    refine lv_iconst (v := 1) hx hb dX9_product_15 (by decide) ?_
    exact W.zret (v := 1) hx hb hr rfl (fun t ht hW => ⟨⟨1, u2, rfl, hw, by show va_P D vwCl _ t.heap; rw [ht]; exact hP⟩, hS.F ht⟩) hS.2.2 dX9_product_16
  · have hw := hw.2 hc
    refine lv_iconst (v := 0) hx hb dX9_product_8 (by decide) ?_
    exact W.zret (v := 0) hx hb hr rfl (fun t ht hW => ⟨⟨0, u, rfl, hw, by show va_P D vwCl _ t.heap; rw [ht]; exact hP⟩, hS.F ht⟩) hS.2.2 dX9_product_9
set_option maxHeartbeats 4000000 in
set_option maxRecDepth 100000 in
theorem c_X0_add (l : Launch) (D : va_G) (q : Nat → Nat) (cI cJ cZ : ClassId) (sz : Nat) (u : WU) (x1 : Int32) (x2 : Int32) (x3 : Int32) (x4 : Int32) (post : Int32 → WU → Prop) (hw : wp_X0_add x1 x2 x3 x4 u post) : Met l yX0_add wsX0_add rm_X0_add (va_Pc [.ref (q 4), .int x1, .int x2, .int x3, .int x4] (MW D (ty3 cI cJ cZ) (wX q cI cJ cZ u) sz)) (va_Qi post (fun u' t => va_P D vwCl (wX q cI cJ cZ u') t.heap) (va_A (wX q cI cJ cZ u00) sz)) 0 0 (va_A (wX q cI cJ cZ u00) sz) := by
  refine Met.ofW (cc := cX0_add) (maxL := 6) (ret := (some .int)) (by decide) rfl ?_
  intro p e s m args below meth c s₁ B hml hv
  obtain ⟨hargs, hsz, hP, hK, hD0, hN⟩ := hv
  have hx := B.exec
  have hb := B.bytes
  have hr := B.returns
  have hts := atoms_spec (ws := wsX0_add) B.pre
  have hown : s.vm.findClass RX0 = some m.cls := findClass_of_methodNamed B.named
  have hlocks := B.notSynchronized
  subst hsz
  have hD := shw_self (sz := s.heap.size) (sh_wX q cI cJ cZ) hD0
  have hA : ∀ a : Nat, s.heap.size ≤ a → va_A (wX q cI cJ cZ u00) s.heap.size a := fun _ h => Or.inr h
  have hS : va_S (va_A (wX q cI cJ cZ u00) s.heap.size) s.heap s.heap [] := va_S.rf
  have hiX0 : ∀ w ∈ u_ws RX0 TX0 5, w ∈ wsX0_add := by decide +kernel
  have hf15 := hts (.fieldLink RX0 15 "TermsDesk$Changes" "which" "[I") (by decide +kernel)
  have hf18 := hts (.fieldLink RX0 18 "TermsDesk$Changes" "licence" "[I") (by decide +kernel)
  have hf21 := hts (.fieldLink RX0 21 "TermsDesk$Changes" "cost" "[I") (by decide +kernel)
  have hf24 := hts (.fieldLink RX0 24 "TermsDesk$Changes" "told" "I") (by decide +kernel)
  have hf9 := hts (.fieldLink RX0 9 "TermsDesk$Changes" "what" "[I") (by decide +kernel)
  have hent := lg_entry_eq m ([.ref (q 4), .int x1, .int x2, .int x3, .int x4]) 6
  rw [← hargs] at hent
  rw [hent]
  have hl := lv_entry ([.ref (q 4), .int x1, .int x2, .int x3, .int x4]) (n := 6) (Nat.le_of_ble_eq_true rfl)
  generalize (lg_sl ([.ref (q 4), .int x1, .int x2, .int x3, .int x4]) ++ List.replicate (6 - (lg_sl ([.ref (q 4), .int x1, .int x2, .int x3, .int x4])).length) Slot.unset).toArray = ls at hl ⊢
  have hl : lv_has ls 6 [(0, .ref (q 4)), (1, .int x1), (2, .int x2), (3, .int x3), (4, .int x4)] := hl
  unfold wp_X0_add at hw
  refine lv_aload_n hx hb dX0_add_0 rfl (lv_at hl 0 rfl) ?_
  refine va_get (D := D) (ci := 0) (v := .int (u.1 23 0)) (C := RX0) (T := TX0) (N := 5) hx hb hts hiX0 hown hK hP 4 rfl rfl 4 (by decide) hf24 (fun _ h9 => h9) rfl dX0_add_1 ?_
  refine lv_topi (fun y1 ey1 => ?_)
  have hw := hw y1 ey1
  refine lv_istore (lv' := [(5, .int y1), (0, .ref (q 4)), (1, .int x1), (2, .int x2), (3, .int x3), (4, .int x4)]) hx hb dX0_add_4 hl (by decide) rfl (fun ls hl => ?_)
  refine lv_aload_n hx hb dX0_add_6 rfl (lv_at hl 1 rfl) ?_
  refine lv_dup hx hb dX0_add_7 rfl ?_
  refine va_get (D := D) (ci := 0) (v := .int (u.1 23 0)) (C := RX0) (T := TX0) (N := 5) hx hb hts hiX0 hown hK hP 4 rfl rfl 4 (by decide) hf24 (fun _ h9 => h9) rfl dX0_add_8 ?_
  refine lv_iconst (v := 1) hx hb dX0_add_11 (by decide) ?_
  refine lv_iadd hx hb dX0_add_12 ?_
  refine va_put (D := D) (ci := 0) (v := .int ((u.1 23 0) + 1)) (ty := .int) (C := RX0) (T := TX0) (N := 5) hx hb hts hiX0 tyX0 tyX0_ok nmX0 hown hK hP hD hS 4 rfl rfl 4 (by decide) hf24 (fun _ h9 => h9) rfl (by decide +kernel) rfl rfl (Nat.le_of_ble_eq_true rfl) dX0_add_13 (sPut (w := wX q cI cJ cZ) (uu := uI u 23 (fun _ => (u.1 23 0) + 1)) (wXs_X0_4 q cI cJ cZ u _) (fun u2 H locs eu2 hP hD hS => ?_))
  have hw := hw u2 eu2
  refine lv_aload_n hx hb dX0_add_16 rfl (lv_at hl 1 rfl) ?_
  refine va_get (D := D) (ci := 0) (v := .ref (q 23)) (C := RX0) (T := TX0) (N := 5) hx hb hts hiX0 hown hK hP 4 rfl rfl 0 (by decide) hf9 (fun _ h9 => h9) rfl dX0_add_17 ?_
  refine lv_iload hx hb dX0_add_20 (lv_at hl 0 rfl) ?_
  refine lv_iload_n hx hb dX0_add_22 rfl (lv_at hl 2 rfl) ?_
  obtain ⟨hin, hw⟩ := hw
  refine sIast (w := wX q cI cJ cZ) hx hb hK hP hD hS 23 0 10 rfl rfl (wXa_23 q cI cJ cZ u2) hin dX0_add_23 (fun u3 H locs eu3 hP hD hS => ?_)
  have hw := hw u3 eu3
  refine lv_aload_n hx hb dX0_add_24 rfl (lv_at hl 1 rfl) ?_
  refine va_get (D := D) (ci := 0) (v := .ref (q 24)) (C := RX0) (T := TX0) (N := 5) hx hb hts hiX0 hown hK hP 4 rfl rfl 1 (by decide) hf15 (fun _ h9 => h9) rfl dX0_add_25 ?_
  refine lv_iload hx hb dX0_add_28 (lv_at hl 0 rfl) ?_
  refine lv_iload_n hx hb dX0_add_30 rfl (lv_at hl 3 rfl) ?_
  obtain ⟨hin, hw⟩ := hw
  refine sIast (w := wX q cI cJ cZ) hx hb hK hP hD hS 24 0 11 rfl rfl (wXa_24 q cI cJ cZ u3) hin dX0_add_31 (fun u4 H locs eu4 hP hD hS => ?_)
  have hw := hw u4 eu4
  refine lv_aload_n hx hb dX0_add_32 rfl (lv_at hl 1 rfl) ?_
  refine va_get (D := D) (ci := 0) (v := .ref (q 25)) (C := RX0) (T := TX0) (N := 5) hx hb hts hiX0 hown hK hP 4 rfl rfl 2 (by decide) hf18 (fun _ h9 => h9) rfl dX0_add_33 ?_
  refine lv_iload hx hb dX0_add_36 (lv_at hl 0 rfl) ?_
  refine lv_iload_n hx hb dX0_add_38 rfl (lv_at hl 4 rfl) ?_
  obtain ⟨hin, hw⟩ := hw
  refine sIast (w := wX q cI cJ cZ) hx hb hK hP hD hS 25 0 12 rfl rfl (wXa_25 q cI cJ cZ u4) hin dX0_add_39 (fun u5 H locs eu5 hP hD hS => ?_)
  have hw := hw u5 eu5
  refine lv_aload_n hx hb dX0_add_40 rfl (lv_at hl 1 rfl) ?_
  refine va_get (D := D) (ci := 0) (v := .ref (q 26)) (C := RX0) (T := TX0) (N := 5) hx hb hts hiX0 hown hK hP 4 rfl rfl 3 (by decide) hf21 (fun _ h9 => h9) rfl dX0_add_41 ?_
  refine lv_iload hx hb dX0_add_44 (lv_at hl 0 rfl) ?_
  refine lv_iload hx hb dX0_add_46 (lv_at hl 5 rfl) ?_
  obtain ⟨hin, hw⟩ := hw
  refine sIast (w := wX q cI cJ cZ) hx hb hK hP hD hS 26 0 13 rfl rfl (wXa_26 q cI cJ cZ u5) hin dX0_add_48 (fun u6 H locs eu6 hP hD hS => ?_)
  have hw := hw u6 eu6
  refine lv_iload hx hb dX0_add_49 (lv_at hl 0 rfl) ?_
  exact W.iret (v := y1) hx hb hr (fun t ht hW => ⟨⟨y1, u6, rfl, hw, by show va_P D vwCl _ t.heap; rw [ht]; exact hP⟩, hS.F ht⟩) hS.2.2 dX0_add_51
set_option maxHeartbeats 4000000 in
set_option maxRecDepth 100000 in
theorem c_X8_change (l : Launch) (D : va_G) (q : Nat → Nat) (cI cJ cZ : ClassId) (sz : Nat) (u : WU) (x1 : Int32) (x2 : Int32) (x3 : Int32) (x4 : Int32) (post : Int32 → WU → Prop) (hw : wp_X8_change x1 x2 x3 x4 u post) : Met l yX8_change wsX8_change rm_X8_change (va_Pc [.ref (q 0), .int x1, .int x2, .int x3, .int x4] (MW D (ty3 cI cJ cZ) (wX q cI cJ cZ u) sz)) (va_Qi post (fun u' t => va_P D vwCl (wX q cI cJ cZ u') t.heap) (va_A (wX q cI cJ cZ u00) sz)) 0 0 (va_A (wX q cI cJ cZ u00) sz) := by
  refine Met.ofW (cc := cX8_change) (maxL := 6) (ret := (some .int)) (by decide) rfl ?_
  intro p e s m args below meth c s₁ B hml hv
  obtain ⟨hargs, hsz, hP, hK, hD0, hN⟩ := hv
  have hx := B.exec
  have hb := B.bytes
  have hr := B.returns
  have hts := atoms_spec (ws := wsX8_change) B.pre
  have hown : s.vm.findClass RX8 = some m.cls := findClass_of_methodNamed B.named
  have hlocks := B.notSynchronized
  subst hsz
  have hD := shw_self (sz := s.heap.size) (sh_wX q cI cJ cZ) hD0
  have hA : ∀ a : Nat, s.heap.size ≤ a → va_A (wX q cI cJ cZ u00) s.heap.size a := fun _ h => Or.inr h
  have hS : va_S (va_A (wX q cI cJ cZ u00) s.heap.size) s.heap s.heap [] := va_S.rf
  have hiX0 : ∀ w ∈ u_ws RX0 TX0 5, w ∈ wsX8_change := by decide +kernel
  have hiX3 : ∀ w ∈ u_ws RX3 TX3 9, w ∈ wsX8_change := by decide +kernel
  have hiX8 : ∀ w ∈ u_ws RX8 TX8 8, w ∈ wsX8_change := by decide +kernel
  have hc149 := hts (.constant RX8 149 (100001)) (by decide +kernel)
  have hf19 := hts (.fieldLink RX8 19 "TermsDesk" "parts" "LTermsDesk$Parts;") (by decide +kernel)
  have hf26 := hts (.fieldLink RX8 26 "TermsDesk" "joins" "LTermsDesk$Joins;") (by decide +kernel)
  have hf33 := hts (.fieldLink RX8 33 "TermsDesk" "changes" "LTermsDesk$Changes;") (by decide +kernel)
  have J48 : ∀ (x1 : Int32) (x2 : Int32) (x3 : Int32) (x4 : Int32) (z0 : Int32) (u : WU) (H : Heap) (locs : List Loc), wp_X8_change_J48 x1 x2 x3 x4 z0 u post → va_P D vwCl (wX q cI cJ cZ u) H → va_D (va_A (wX q cI cJ cZ u00) s.heap.size) (wX q cI cJ cZ u) → va_S (va_A (wX q cI cJ cZ u00) s.heap.size) s.heap H locs → ∀ ls : Array Slot, lv_has ls 6 [(0, .ref (q 0)), (1, .int x1), (2, .int x2), (3, .int x3), (4, .int x4)] → W p l e (headSpec wsX8_change rm_X8_change).room s m args below meth c H locs 0 0 (MQ below (va_Qi post (fun u' t => va_P D vwCl (wX q cI cJ cZ u') t.heap) (va_A (wX q cI cJ cZ u00) s.heap.size)) args s 0 0 (va_A (wX q cI cJ cZ u00) s.heap.size)) (F0 m 48 ls [.int z0]) := by
    intro x1 x2 x3 x4 z0 u H locs hw hP hD hS ls hl 
    unfold wp_X8_change_J48 at hw
    refine lv_istore (lv' := [(5, .int z0), (0, .ref (q 0)), (1, .int x1), (2, .int x2), (3, .int x3), (4, .int x4)]) hx hb dX8_change_48 hl (by decide) rfl (fun ls hl => ?_)
    refine lv_iload hx hb dX8_change_50 (lv_at hl 0 rfl) ?_
    refine lv_if_eq (tgt := 77) hx hb dX8_change_52 (by decide) (fun hc => ?_) (fun hc => ?_)
    · have hw := hw.1 hc
      refine lv_iconst (v := (-1)) hx hb dX8_change_77 (by decide) ?_
      exact W.iret (v := (-1)) hx hb hr (fun t ht hW => ⟨⟨(-1), u, rfl, hw, by show va_P D vwCl _ t.heap; rw [ht]; exact hP⟩, hS.F ht⟩) hS.2.2 dX8_change_78
    · have hw := hw.2 hc
      refine lv_iload hx hb dX8_change_55 (lv_at hl 5 rfl) ?_
      refine lv_ldc (v := 100001) hx hb hown hc149 dX8_change_57 ?_
      refine vp_callSi (va_Run.run (va_runS (As := [.int x4, .int 100001]) (rest := []) ⟨hx, hb, hml, hown, hts⟩ (c_X8_within l x4 100001 _ hw) (va_cwS 2 hts gX8_change_X8_within rfl rfl rfl (by decide +kernel) ⟨Nat.le_of_ble_eq_true rfl, Nat.le_of_ble_eq_true rfl⟩) (psS hN) rfl rfl hl.1 rfl (lv_room (Nat.le_of_ble_eq_true rfl)) dX8_change_59 ⟨Nat.zero_le _, Nat.zero_le _⟩)) (fun r2 hw => ?_)
      refine lv_if_eq (tgt := 77) hx hb dX8_change_62 (by decide) (fun hc => ?_) (fun hc => ?_)
      · have hw := hw.1 hc
        refine lv_iconst (v := (-1)) hx hb dX8_change_77 (by decide) ?_
        exact W.iret (v := (-1)) hx hb hr (fun t ht hW => ⟨⟨(-1), u, rfl, hw, by show va_P D vwCl _ t.heap; rw [ht]; exact hP⟩, hS.F ht⟩) hS.2.2 dX8_change_78
      · have hw := hw.2 hc
        refine lv_aload_n hx hb dX8_change_65 rfl (lv_at hl 1 rfl) ?_
        refine va_get (D := D) (ci := 8) (v := .ref (q 4)) (C := RX8) (T := TX8) (N := 8) hx hb hts hiX8 hown hK hP 0 rfl rfl 3 (by decide) hf33 (fun _ h9 => h9) rfl dX8_change_66 ?_
        refine va_getN (D := D) (ci := 0) (v := .int (u.1 23 0)) (C := RX0) (T := TX0) (N := 5) hx hb hts hiX0 hown hK hP 4 rfl rfl 4 (by decide) (va_Nw.use rfl (nf_RX8_150 hN)) (fun _ h9 => h9) rfl dX8_change_69 ?_
        refine lv_bipush (v := 10) hx hb dX8_change_72 (by decide) ?_
        refine lv_icmp_lt (tgt := 79) hx hb dX8_change_74 (by decide) (fun hc => ?_) (fun hc => ?_)
        · have hw := hw.1 hc
          refine lv_aload_n hx hb dX8_change_79 rfl (lv_at hl 1 rfl) ?_
          refine va_get (D := D) (ci := 8) (v := .ref (q 4)) (C := RX8) (T := TX8) (N := 8) hx hb hts hiX8 hown hK hP 0 rfl rfl 3 (by decide) hf33 (fun _ h9 => h9) rfl dX8_change_80 ?_
          refine lv_iload_n hx hb dX8_change_83 rfl (lv_at hl 2 rfl) ?_
          refine lv_iload_n hx hb dX8_change_84 rfl (lv_at hl 3 rfl) ?_
          refine lv_iload_n hx hb dX8_change_85 rfl (lv_at hl 4 rfl) ?_
          refine lv_iload hx hb dX8_change_86 (lv_at hl 5 rfl) ?_
          refine cMi (sh_wX q cI cJ cZ) (u := u) (va_runV (As := [.int x1, .int x2, .int x3, .int x4]) (rest := []) ⟨hx, hb, hml, hown, hts⟩ (c_X0_add l D q cI cJ cZ _ u x1 x2 x3 x4 _ hw) (cwV 4 hts gX8_change_X0_add rfl rfl rfl (by decide +kernel) ⟨Nat.le_of_ble_eq_true rfl, Nat.le_of_ble_eq_true rfl⟩) (pvM (va_recv hK hP (ci := 0) (q0 := 4) (q := (RX0, TX0, 5)) rfl rfl) hK hP hD hN) rfl rfl hl.1 rfl (lv_room (Nat.le_of_ble_eq_true rfl)) dX8_change_88 ⟨Nat.zero_le _, Nat.zero_le _⟩) hA hD hS (fun r4 u3 H locs hw hP hD hS => ?_)
          exact W.iret (v := r4) hx hb hr (fun t ht hW => ⟨⟨r4, u3, rfl, hw, by show va_P D vwCl _ t.heap; rw [ht]; exact hP⟩, hS.F ht⟩) hS.2.2 dX8_change_91
        · have hw := hw.2 hc
          refine lv_iconst (v := (-1)) hx hb dX8_change_77 (by decide) ?_
          exact W.iret (v := (-1)) hx hb hr (fun t ht hW => ⟨⟨(-1), u, rfl, hw, by show va_P D vwCl _ t.heap; rw [ht]; exact hP⟩, hS.F ht⟩) hS.2.2 dX8_change_78
  have J43 : ∀ (x1 : Int32) (x2 : Int32) (x3 : Int32) (x4 : Int32) (u : WU) (H : Heap) (locs : List Loc), wp_X8_change_J43 x1 x2 x3 x4 u post → va_P D vwCl (wX q cI cJ cZ u) H → va_D (va_A (wX q cI cJ cZ u00) s.heap.size) (wX q cI cJ cZ u) → va_S (va_A (wX q cI cJ cZ u00) s.heap.size) s.heap H locs → ∀ ls : Array Slot, lv_has ls 6 [(0, .ref (q 0)), (1, .int x1), (2, .int x2), (3, .int x3), (4, .int x4)] → W p l e (headSpec wsX8_change rm_X8_change).room s m args below meth c H locs 0 0 (MQ below (va_Qi post (fun u' t => va_P D vwCl (wX q cI cJ cZ u') t.heap) (va_A (wX q cI cJ cZ u00) s.heap.size)) args s 0 0 (va_A (wX q cI cJ cZ u00) s.heap.size)) (F0 m 43 ls []) := by
    intro x1 x2 x3 x4 u H locs hw hP hD hS ls hl 
    unfold wp_X8_change_J43 at hw
    refine lv_iconst (v := 1) hx hb dX8_change_43 (by decide) ?_
    refine lv_goto (tgt := 48) hx hb dX8_change_44 (by decide) ?_
    refine J48 x1 x2 x3 x4 1 u _ _ hw hP hD hS ls (lv_sub hl [0, 1, 2, 3, 4] rfl)
  have J47 : ∀ (x1 : Int32) (x2 : Int32) (x3 : Int32) (x4 : Int32) (u : WU) (H : Heap) (locs : List Loc), wp_X8_change_J47 x1 x2 x3 x4 u post → va_P D vwCl (wX q cI cJ cZ u) H → va_D (va_A (wX q cI cJ cZ u00) s.heap.size) (wX q cI cJ cZ u) → va_S (va_A (wX q cI cJ cZ u00) s.heap.size) s.heap H locs → ∀ ls : Array Slot, lv_has ls 6 [(0, .ref (q 0)), (1, .int x1), (2, .int x2), (3, .int x3), (4, .int x4)] → W p l e (headSpec wsX8_change rm_X8_change).room s m args below meth c H locs 0 0 (MQ below (va_Qi post (fun u' t => va_P D vwCl (wX q cI cJ cZ u') t.heap) (va_A (wX q cI cJ cZ u00) s.heap.size)) args s 0 0 (va_A (wX q cI cJ cZ u00) s.heap.size)) (F0 m 47 ls []) := by
    intro x1 x2 x3 x4 u H locs hw hP hD hS ls hl 
    unfold wp_X8_change_J47 at hw
    refine lv_iconst (v := 0) hx hb dX8_change_47 (by decide) ?_
    refine J48 x1 x2 x3 x4 0 u _ _ hw hP hD hS ls (lv_sub hl [0, 1, 2, 3, 4] rfl)
  have J24 : ∀ (x1 : Int32) (x2 : Int32) (x3 : Int32) (x4 : Int32) (u : WU) (H : Heap) (locs : List Loc), wp_X8_change_J24 x1 x2 x3 x4 u post → va_P D vwCl (wX q cI cJ cZ u) H → va_D (va_A (wX q cI cJ cZ u00) s.heap.size) (wX q cI cJ cZ u) → va_S (va_A (wX q cI cJ cZ u00) s.heap.size) s.heap H locs → ∀ ls : Array Slot, lv_has ls 6 [(0, .ref (q 0)), (1, .int x1), (2, .int x2), (3, .int x3), (4, .int x4)] → W p l e (headSpec wsX8_change rm_X8_change).room s m args below meth c H locs 0 0 (MQ below (va_Qi post (fun u' t => va_P D vwCl (wX q cI cJ cZ u') t.heap) (va_A (wX q cI cJ cZ u00) s.heap.size)) args s 0 0 (va_A (wX q cI cJ cZ u00) s.heap.size)) (F0 m 24 ls []) := by
    intro x1 x2 x3 x4 u H locs hw hP hD hS ls hl 
    unfold wp_X8_change_J24 at hw
    refine lv_iload_n hx hb dX8_change_24 rfl (lv_at hl 1 rfl) ?_
    refine lv_iconst (v := 1) hx hb dX8_change_25 (by decide) ?_
    refine lv_icmp_ne (tgt := 47) hx hb dX8_change_26 (by decide) (fun hc => ?_) (fun hc => ?_)
    · have hw := hw.1 hc
      refine J47 x1 x2 x3 x4 u _ _ hw hP hD hS ls (lv_sub hl [0, 1, 2, 3, 4] rfl)
    · have hw := hw.2 hc
      refine lv_iload_n hx hb dX8_change_29 rfl (lv_at hl 2 rfl) ?_
      refine lv_aload_n hx hb dX8_change_30 rfl (lv_at hl 0 rfl) ?_
      refine va_get (D := D) (ci := 8) (v := .ref (q 3)) (C := RX8) (T := TX8) (N := 8) hx hb hts hiX8 hown hK hP 0 rfl rfl 2 (by decide) hf26 (fun _ h9 => h9) rfl dX8_change_31 ?_
      refine va_getN (D := D) (ci := 3) (v := .int (u.1 22 0)) (C := RX3) (T := TX3) (N := 9) hx hb hts hiX3 hown hK hP 3 rfl rfl 3 (by decide) (va_Nw.use rfl (nf_RX8_118 hN)) (fun _ h9 => h9) rfl dX8_change_34 ?_
      refine vp_callSi (va_Run.run (va_runS (As := [.int x2, .int (u.1 22 0)]) (rest := []) ⟨hx, hb, hml, hown, hts⟩ (c_X8_within l x2 (u.1 22 0) _ hw) (va_cwS 2 hts gX8_change_X8_within rfl rfl rfl (by decide +kernel) ⟨Nat.le_of_ble_eq_true rfl, Nat.le_of_ble_eq_true rfl⟩) (psS hN) rfl rfl hl.1 rfl (lv_room (Nat.le_of_ble_eq_true rfl)) dX8_change_37 ⟨Nat.zero_le _, Nat.zero_le _⟩)) (fun r1 hw => ?_)
      refine lv_if_eq (tgt := 47) hx hb dX8_change_40 (by decide) (fun hc => ?_) (fun hc => ?_)
      · have hw := hw.1 hc
        refine J47 x1 x2 x3 x4 u _ _ hw hP hD hS ls (lv_sub hl [0, 1, 2, 3, 4] rfl)
      · have hw := hw.2 hc
        refine J43 x1 x2 x3 x4 u _ _ hw hP hD hS ls (lv_sub hl [0, 1, 2, 3, 4] rfl)
  have hent := lg_entry_eq m ([.ref (q 0), .int x1, .int x2, .int x3, .int x4]) 6
  rw [← hargs] at hent
  rw [hent]
  have hl := lv_entry ([.ref (q 0), .int x1, .int x2, .int x3, .int x4]) (n := 6) (Nat.le_of_ble_eq_true rfl)
  generalize (lg_sl ([.ref (q 0), .int x1, .int x2, .int x3, .int x4]) ++ List.replicate (6 - (lg_sl ([.ref (q 0), .int x1, .int x2, .int x3, .int x4])).length) Slot.unset).toArray = ls at hl ⊢
  have hl : lv_has ls 6 [(0, .ref (q 0)), (1, .int x1), (2, .int x2), (3, .int x3), (4, .int x4)] := hl
  unfold wp_X8_change at hw
  refine lv_iload_n hx hb dX8_change_0 rfl (lv_at hl 1 rfl) ?_
  refine lv_if_ne (tgt := 24) hx hb dX8_change_1 (by decide) (fun hc => ?_) (fun hc => ?_)
  · have hw := hw.1 hc
    refine J24 x1 x2 x3 x4 u _ _ hw hP hD hS ls (lv_sub hl [0, 1, 2, 3, 4] rfl)
  · have hw := hw.2 hc
    refine lv_aload_n hx hb dX8_change_4 rfl (lv_at hl 0 rfl) ?_
    refine va_get (D := D) (ci := 8) (v := .ref (q 2)) (C := RX8) (T := TX8) (N := 8) hx hb hts hiX8 hown hK hP 0 rfl rfl 1 (by decide) hf19 (fun _ h9 => h9) rfl dX8_change_5 ?_
    refine lv_iload_n hx hb dX8_change_8 rfl (lv_at hl 2 rfl) ?_
    refine vp_callSi (va_Run.run (va_runV (As := [.int x2]) (rest := []) ⟨hx, hb, hml, hown, hts⟩ (c_X5_has l D q cI cJ cZ u x2 _ hw) (cwV 1 hts gX8_change_X5_has rfl rfl rfl (by decide +kernel) ⟨Nat.le_of_ble_eq_true rfl, Nat.le_of_ble_eq_true rfl⟩) (pvR (va_recv hK hP (ci := 5) (q0 := 2) (q := (RX5, TX5, 6)) rfl rfl) hK hP hN) rfl rfl hl.1 rfl (lv_room (Nat.le_of_ble_eq_true rfl)) dX8_change_9 ⟨Nat.zero_le _, Nat.zero_le _⟩)) (fun r5 hw => ?_)
    refine lv_if_eq (tgt := 24) hx hb dX8_change_12 (by decide) (fun hc => ?_) (fun hc => ?_)
    · have hw := hw.1 hc
      refine J24 x1 x2 x3 x4 u _ _ hw hP hD hS ls (lv_sub hl [0, 1, 2, 3, 4] rfl)
    · have hw := hw.2 hc
      refine lv_iload_n hx hb dX8_change_15 rfl (lv_at hl 3 rfl) ?_
      refine lv_bipush (v := 8) hx hb dX8_change_16 (by decide) ?_
      refine vp_callSi (va_Run.run (va_runS (As := [.int x3, .int 8]) (rest := []) ⟨hx, hb, hml, hown, hts⟩ (c_X8_within l x3 8 _ hw) (va_cwS 2 hts gX8_change_X8_within rfl rfl rfl (by decide +kernel) ⟨Nat.le_of_ble_eq_true rfl, Nat.le_of_ble_eq_true rfl⟩) (psS hN) rfl rfl hl.1 rfl (lv_room (Nat.le_of_ble_eq_true rfl)) dX8_change_18 ⟨Nat.zero_le _, Nat.zero_le _⟩)) (fun r6 hw => ?_)
      refine lv_if_ne (tgt := 43) hx hb dX8_change_21 (by decide) (fun hc => ?_) (fun hc => ?_)
      · have hw := hw.1 hc
        refine J43 x1 x2 x3 x4 u _ _ hw hP hD hS ls (lv_sub hl [0, 1, 2, 3, 4] rfl)
      · have hw := hw.2 hc
        refine J24 x1 x2 x3 x4 u _ _ hw hP hD hS ls (lv_sub hl [0, 1, 2, 3, 4] rfl)
