set_option maxHeartbeats 4000000 in
set_option maxRecDepth 100000 in
theorem c_X8_cheapest (l : Launch) (D : va_G) (q : Nat → Nat) (cI cJ cZ : ClassId) (sz : Nat) (u : WU) (x1 : Int32) (post : Int32 → WU → Prop) (hw : wp_X8_cheapest x1 u post) : Met l yX8_cheapest wsX8_cheapest rm_X8_cheapest (va_Pc [.ref (q 0), .int x1] (MW D (ty3 cI cJ cZ) (wX q cI cJ cZ u) sz)) (va_Qi post (fun u' t => va_P D vwCl (wX q cI cJ cZ u') t.heap) (va_A (wX q cI cJ cZ u00) sz)) 0 0 (va_A (wX q cI cJ cZ u00) sz) := by
  refine Met.ofW (cc := cX8_cheapest) (maxL := 2) (ret := (some .int)) (by decide) rfl ?_
  intro p e s m args below meth c s₁ B hml hv
  obtain ⟨hargs, hsz, hP, hK, hD0, hN⟩ := hv
  have hx := B.exec
  have hb := B.bytes
  have hr := B.returns
  have hts := atoms_spec (ws := wsX8_cheapest) B.pre
  have hown : s.vm.findClass RX8 = some m.cls := findClass_of_methodNamed B.named
  have hlocks := B.notSynchronized
  subst hsz
  have hD := shw_self (sz := s.heap.size) (sh_wX q cI cJ cZ) hD0
  have hA : ∀ a : Nat, s.heap.size ≤ a → va_A (wX q cI cJ cZ u00) s.heap.size a := fun _ h => Or.inr h
  have hS : va_S (va_A (wX q cI cJ cZ u00) s.heap.size) s.heap s.heap [] := va_S.rf
  have hiX8 : ∀ w ∈ u_ws RX8 TX8 8, w ∈ wsX8_cheapest := by decide +kernel
  have hf60 := hts (.fieldLink RX8 60 "TermsDesk" "mender" "LTermsDesk$Mender;") (by decide +kernel)
  have hent := lg_entry_eq m ([.ref (q 0), .int x1]) 2
  rw [← hargs] at hent
  rw [hent]
  have hl := lv_entry ([.ref (q 0), .int x1]) (n := 2) (Nat.le_of_ble_eq_true rfl)
  generalize (lg_sl ([.ref (q 0), .int x1]) ++ List.replicate (2 - (lg_sl ([.ref (q 0), .int x1])).length) Slot.unset).toArray = ls at hl ⊢
  have hl : lv_has ls 2 [(0, .ref (q 0)), (1, .int x1)] := hl
  unfold wp_X8_cheapest at hw
  refine lv_iload_n hx hb dX8_cheapest_0 rfl (lv_at hl 1 rfl) ?_
  refine lv_iconst (v := 4) hx hb dX8_cheapest_1 (by decide) ?_
  refine vp_callSi (va_Run.run (va_runS (As := [.int x1, .int 4]) (rest := []) ⟨hx, hb, hml, hown, hts⟩ (c_X8_within l x1 4 _ hw) (va_cwS 2 hts gX8_cheapest_X8_within rfl rfl rfl (by decide +kernel) ⟨Nat.le_of_ble_eq_true rfl, Nat.le_of_ble_eq_true rfl⟩) (psS hN) rfl rfl hl.1 rfl (lv_room (Nat.le_of_ble_eq_true rfl)) dX8_cheapest_2 ⟨Nat.zero_le _, Nat.zero_le _⟩)) (fun r1 hw => ?_)
  refine lv_if_eq (tgt := 19) hx hb dX8_cheapest_5 (by decide) (fun hc => ?_) (fun hc => ?_)
  · have hw := hw.1 hc
    refine lv_iconst (v := (-1)) hx hb dX8_cheapest_19 (by decide) ?_
    exact W.iret (v := (-1)) hx hb hr (fun t ht hW => ⟨⟨(-1), u, rfl, hw, by show va_P D vwCl _ t.heap; rw [ht]; exact hP⟩, hS.F ht⟩) hS.2.2 dX8_cheapest_20
  · have hw := hw.2 hc
    refine lv_aload_n hx hb dX8_cheapest_8 rfl (lv_at hl 0 rfl) ?_
    refine va_get (D := D) (ci := 8) (v := .ref (q 7)) (C := RX8) (T := TX8) (N := 8) hx hb hts hiX8 hown hK hP 0 rfl rfl 6 (by decide) hf60 (fun _ h9 => h9) rfl dX8_cheapest_9 ?_
    refine lv_iload_n hx hb dX8_cheapest_12 rfl (lv_at hl 1 rfl) ?_
    refine cMi (sh_wX q cI cJ cZ) (u := u) (va_runV (As := [.int x1]) (rest := []) ⟨hx, hb, hml, hown, hts⟩ (c_X4_cheapestSet l D q cI cJ cZ _ u x1 _ hw) (cwV 1 hts gX8_cheapest_X4_cheapestSet rfl rfl rfl (by decide +kernel) ⟨Nat.le_of_ble_eq_true rfl, Nat.le_of_ble_eq_true rfl⟩) (pvM (va_recv hK hP (ci := 4) (q0 := 7) (q := (RX4, TX4, 5)) rfl rfl) hK hP hD hN) rfl rfl hl.1 rfl (lv_room (Nat.le_of_ble_eq_true rfl)) dX8_cheapest_13 ⟨Nat.zero_le _, Nat.zero_le _⟩) hA hD hS (fun r3 u2 H locs hw hP hD hS => ?_)
    refine lv_goto (tgt := 20) hx hb dX8_cheapest_16 (by decide) ?_
    exact W.iret (v := r3) hx hb hr (fun t ht hW => ⟨⟨r3, u2, rfl, hw, by show va_P D vwCl _ t.heap; rw [ht]; exact hP⟩, hS.F ht⟩) hS.2.2 dX8_cheapest_20
set_option maxHeartbeats 4000000 in
set_option maxRecDepth 100000 in
theorem c_X9_priceOf (l : Launch) (D : va_G) (q : Nat → Nat) (cI cJ cZ : ClassId) (u : WU) (x1 : Int32) (post : Int32 → Prop) (hw : wp_X9_priceOf x1 u post) : Met l yX9_priceOf wsX9_priceOf rm_X9_priceOf (va_Pc [.ref (q 0), .int x1] (RW D (ty3 cI cJ cZ) (wM q cI cJ cZ u))) (vp_Si post) 0 0 (fun _ => False) := by
  refine Met.ofW (cc := cX9_priceOf) (maxL := 4) (ret := (some .int)) (by decide) rfl ?_
  intro p e s m args below meth c s₁ B hml hv
  obtain ⟨hargs, hP, hK, hN⟩ := hv
  have hx := B.exec
  have hb := B.bytes
  have hr := B.returns
  have hts := atoms_spec (ws := wsX9_priceOf) B.pre
  have hown : s.vm.findClass RX9 = some m.cls := findClass_of_methodNamed B.named
  have hlocks := B.notSynchronized
  have hiX9 : ∀ w ∈ u_ws RX9 TX9 30, w ∈ wsX9_priceOf := by decide +kernel
  have hf121 := hts (.fieldLink RX9 121 "TermsDeskModel" "changes" "I") (by decide +kernel)
  have hf54 := hts (.fieldLink RX9 54 "TermsDeskModel" "cost" "[I") (by decide +kernel)
  have J32 : ∀ {K4 : Int32 → Int32 → Prop} (x1 : Int32) (x3 : Int32) (z0 : Int32) (z1 : Int32) (_ : Unit), wp_X9_priceOf_J32 x1 x3 z0 z1 u post K4 → ∀ ls : Array Slot, lv_has ls 4 [(0, .ref (q 0)), (1, .int x1), (3, .int x3)] → (∀ (x2 : Int32) (x3 : Int32), K4 x2 x3 → ∀ ls : Array Slot, lv_has ls 4 [(0, .ref (q 0)), (1, .int x1), (2, .int x2), (3, .int x3)] → W p l e (headSpec wsX9_priceOf rm_X9_priceOf).room s m args below meth c s.heap [] 0 0 (MQ below (vp_Si post) args s 0 0 (fun _ => False)) (F0 m 4 ls [])) → W p l e (headSpec wsX9_priceOf rm_X9_priceOf).room s m args below meth c s.heap [] 0 0 (MQ below (vp_Si post) args s 0 0 (fun _ => False)) (F0 m 32 ls [.int z1, .int z0]) := by
    intro K4 x1 x3 z0 z1 _ hw ls hl k4
    unfold wp_X9_priceOf_J32 at hw
    refine lv_iadd hx hb dX9_priceOf_32 ?_
    refine lv_topi (fun y5 ey5 => ?_)
    have hw := hw y5 ey5
    refine lv_istore_n (lv' := [(2, .int y5), (0, .ref (q 0)), (1, .int x1), (3, .int x3)]) hx hb dX9_priceOf_33 rfl hl (by decide) rfl (fun ls hl => ?_)
    obtain ⟨y6, ey6⟩ : ∃ z : Int32, z = x3 + 1 := ⟨_, rfl⟩
    have hw := hw y6 ey6
    refine lv_iinc (v := y6) (lv' := [(3, .int y6), (2, .int y5), (0, .ref (q 0)), (1, .int x1)]) hx hb dX9_priceOf_34 hl (k := 3) rfl (by rw [ey6]; rfl) (by decide) rfl (fun ls hl => ?_)
    refine lv_goto (tgt := 4) hx hb dX9_priceOf_37 (by decide) ?_
    exact k4 y5 y6 hw ls (lv_sub hl [2, 3, 1, 0] rfl)
  have L4 : ∀ (x1 : Int32) (n : Nat) (x2 : Int32) (x3 : Int32) (_ : Unit), wp_X9_priceOf_L4 x1 u post n x2 x3 → ∀ ls : Array Slot, lv_has ls 4 [(0, .ref (q 0)), (1, .int x1), (2, .int x2), (3, .int x3)] → W p l e (headSpec wsX9_priceOf rm_X9_priceOf).room s m args below meth c s.heap [] 0 0 (MQ below (vp_Si post) args s 0 0 (fun _ => False)) (F0 m 4 ls []) := by
    intro x1 n
    induction n with
    | zero =>
      intro x2 x3 _ hw
      exact hw.elim
    | succ n ih =>
      intro x2 x3 _ hw ls hl 
      unfold wp_X9_priceOf_L4 at hw
      refine lv_iload_n hx hb dX9_priceOf_4 rfl (lv_at hl 3 rfl) ?_
      refine lv_aload_n hx hb dX9_priceOf_5 rfl (lv_at hl 0 rfl) ?_
      refine va_get (D := D) (ci := 9) (v := .int (u.1 24 0)) (C := RX9) (T := TX9) (N := 30) hx hb hts hiX9 hown hK hP 0 rfl rfl 14 (by decide) hf121 (fun _ h9 => h9) rfl dX9_priceOf_6 ?_
      refine lv_icmp_ge (tgt := 40) hx hb dX9_priceOf_9 (by decide) (fun hc => ?_) (fun hc => ?_)
      · have hw := hw.1 hc
        refine lv_iload_n hx hb dX9_priceOf_40 rfl (lv_at hl 2 rfl) ?_
        exact W.iret (v := x2) hx hb hr (fun t ht hW => ⟨x2, rfl, hw, ht⟩) (fun _ h => by cases h) dX9_priceOf_41
      · have hw := hw.2 hc
        refine lv_iload_n hx hb dX9_priceOf_12 rfl (lv_at hl 2 rfl) ?_
        refine lv_iload_n hx hb dX9_priceOf_13 rfl (lv_at hl 1 rfl) ?_
        refine lv_iload_n hx hb dX9_priceOf_14 rfl (lv_at hl 3 rfl) ?_
        refine lv_ishr hx hb dX9_priceOf_15 ?_
        refine lv_iconst (v := 1) hx hb dX9_priceOf_16 (by decide) ?_
        refine lv_iand hx hb dX9_priceOf_17 ?_
        refine lv_iconst (v := 1) hx hb dX9_priceOf_18 (by decide) ?_
        refine lv_icmp_ne (tgt := 31) hx hb dX9_priceOf_19 (by decide) (fun hc => ?_) (fun hc => ?_)
        · have hw := hw.1 hc
          refine lv_iconst (v := 0) hx hb dX9_priceOf_31 (by decide) ?_
          refine J32 x1 x3 x2 0 () hw ls (lv_sub hl [0, 1, 3] rfl) (fun y1 y2 hw ls hl => ?_)
          exact ih y1 y2 () hw ls (lv_sub hl [0, 1, 2, 3] rfl)
        · have hw := hw.2 hc
          refine lv_aload_n hx hb dX9_priceOf_22 rfl (lv_at hl 0 rfl) ?_
          refine va_get (D := D) (ci := 9) (v := .ref (q 15)) (C := RX9) (T := TX9) (N := 30) hx hb hts hiX9 hown hK hP 0 rfl rfl 18 (by decide) hf54 (fun _ h9 => h9) rfl dX9_priceOf_23 ?_
          refine lv_iload_n hx hb dX9_priceOf_26 rfl (lv_at hl 3 rfl) ?_
          obtain ⟨hin, hw⟩ := hw
          refine va_iald hx hb hK hP 15 0 rfl rfl hin dX9_priceOf_27 ?_
          refine lv_goto (tgt := 32) hx hb dX9_priceOf_28 (by decide) ?_
          refine J32 x1 x3 x2 (u.1 12 x3.toNatClampNeg) () hw ls (lv_sub hl [0, 1, 3] rfl) (fun y3 y4 hw ls hl => ?_)
          exact ih y3 y4 () hw ls (lv_sub hl [0, 1, 2, 3] rfl)
  have hent := lg_entry_eq m ([.ref (q 0), .int x1]) 4
  rw [← hargs] at hent
  rw [hent]
  have hl := lv_entry ([.ref (q 0), .int x1]) (n := 4) (Nat.le_of_ble_eq_true rfl)
  generalize (lg_sl ([.ref (q 0), .int x1]) ++ List.replicate (4 - (lg_sl ([.ref (q 0), .int x1])).length) Slot.unset).toArray = ls at hl ⊢
  have hl : lv_has ls 4 [(0, .ref (q 0)), (1, .int x1)] := hl
  unfold wp_X9_priceOf at hw
  refine lv_iconst (v := 0) hx hb dX9_priceOf_0 (by decide) ?_
  refine lv_istore_n (lv' := [(2, .int 0), (0, .ref (q 0)), (1, .int x1)]) hx hb dX9_priceOf_1 rfl hl (by decide) rfl (fun ls hl => ?_)
  refine lv_iconst (v := 0) hx hb dX9_priceOf_2 (by decide) ?_
  refine lv_istore_n (lv' := [(3, .int 0), (2, .int 0), (0, .ref (q 0)), (1, .int x1)]) hx hb dX9_priceOf_3 rfl hl (by decide) rfl (fun ls hl => ?_)
  obtain ⟨nn, hw⟩ := hw
  refine L4 x1 nn 0 0 () hw ls (lv_sub hl [2, 3, 1, 0] rfl)
set_option maxHeartbeats 4000000 in
set_option maxRecDepth 100000 in
theorem c_X9_isAhead (l : Launch) (x0 : Int32) (x1 : Int32) (post : Int32 → Prop) (hw : wp_X9_isAhead x0 x1 post) : Met l yX9_isAhead wsX9_isAhead rm_X9_isAhead (va_Pc [.int x0, .int x1] NW) (vp_Si post) 0 0 (fun _ => False) := by
  refine Met.ofW (cc := cX9_isAhead) (maxL := 3) (ret := (some .boolean)) (by decide) rfl ?_
  intro p e s m args below meth c s₁ B hml hv
  obtain ⟨hargs, hN⟩ := hv
  have hx := B.exec
  have hb := B.bytes
  have hr := B.returns
  have hts := atoms_spec (ws := wsX9_isAhead) B.pre
  have hown : s.vm.findClass RX9 = some m.cls := findClass_of_methodNamed B.named
  have hlocks := B.notSynchronized
  have hent := lg_entry_eq m ([.int x0, .int x1]) 3
  rw [← hargs] at hent
  rw [hent]
  have hl := lv_entry ([.int x0, .int x1]) (n := 3) (Nat.le_of_ble_eq_true rfl)
  generalize (lg_sl ([.int x0, .int x1]) ++ List.replicate (3 - (lg_sl ([.int x0, .int x1])).length) Slot.unset).toArray = ls at hl ⊢
  have hl : lv_has ls 3 [(0, .int x0), (1, .int x1)] := hl
  unfold wp_X9_isAhead at hw
  refine lv_iload_n hx hb dX9_isAhead_0 rfl (lv_at hl 0 rfl) ?_
  refine lv_i2l (v := x0.toInt64) hx hb dX9_isAhead_1 rfl ?_
  refine vp_callSi (va_Run.run (va_runS (As := [.long x0.toInt64]) (rest := []) ⟨hx, hb, hml, hown, hts⟩ (c_X9_bits l x0.toInt64 _ hw) (va_cwS 1 hts gX9_isAhead_X9_bits rfl rfl rfl (by decide +kernel) ⟨Nat.le_of_ble_eq_true rfl, Nat.le_of_ble_eq_true rfl⟩) (psS hN) rfl rfl hl.1 rfl (lv_room (Nat.le_of_ble_eq_true rfl)) dX9_isAhead_2 ⟨Nat.zero_le _, Nat.zero_le _⟩)) (fun r1 hw => ?_)
  refine lv_iload_n hx hb dX9_isAhead_5 rfl (lv_at hl 1 rfl) ?_
  refine lv_i2l (v := x1.toInt64) hx hb dX9_isAhead_6 rfl ?_
  refine vp_callSi (va_Run.run (va_runS (As := [.long x1.toInt64]) (rest := [.int r1]) ⟨hx, hb, hml, hown, hts⟩ (c_X9_bits l x1.toInt64 _ hw) (va_cwS 1 hts gX9_isAhead_X9_bits rfl rfl rfl (by decide +kernel) ⟨Nat.le_of_ble_eq_true rfl, Nat.le_of_ble_eq_true rfl⟩) (psS hN) rfl rfl hl.1 rfl (lv_room (Nat.le_of_ble_eq_true rfl)) dX9_isAhead_7 ⟨Nat.zero_le _, Nat.zero_le _⟩)) (fun r2 hw => ?_)
  refine lv_icmp_eq (tgt := 32) hx hb dX9_isAhead_10 (by decide) (fun hc => ?_) (fun hc => ?_)
  · have hw := hw.1 hc
    refine lv_iload_n hx hb dX9_isAhead_32 rfl (lv_at hl 0 rfl) ?_
    refine lv_iload_n hx hb dX9_isAhead_33 rfl (lv_at hl 1 rfl) ?_
    refine lv_ixor hx hb dX9_isAhead_34 ?_
    refine lv_iload_n hx hb dX9_isAhead_35 rfl (lv_at hl 0 rfl) ?_
    refine lv_iload_n hx hb dX9_isAhead_36 rfl (lv_at hl 1 rfl) ?_
    refine lv_ixor hx hb dX9_isAhead_37 ?_
    refine lv_ineg hx hb dX9_isAhead_38 ?_
    refine lv_iand hx hb dX9_isAhead_39 ?_
    refine lv_topi (fun y3 ey3 => ?_)
    have hw := hw y3 ey3
    refine lv_istore_n (lv' := [(2, .int y3), (0, .int x0), (1, .int x1)]) hx hb dX9_isAhead_40 rfl hl (by decide) rfl (fun ls hl => ?_)
    refine lv_iload_n hx hb dX9_isAhead_41 rfl (lv_at hl 1 rfl) ?_
    refine lv_iload_n hx hb dX9_isAhead_42 rfl (lv_at hl 0 rfl) ?_
    refine lv_iand hx hb dX9_isAhead_43 ?_
    refine lv_if_eq (tgt := 51) hx hb dX9_isAhead_44 (by decide) (fun hc => ?_) (fun hc => ?_)
    · have hw := hw.1 hc
      refine lv_iconst (v := 0) hx hb dX9_isAhead_51 (by decide) ?_
      exact W.zret (v := 0) hx hb hr rfl (fun t ht hW => ⟨0, rfl, hw, ht⟩) (fun _ h => by cases h) dX9_isAhead_52
    · have hw := hw.2 hc
      refine lv_iconst (v := 1) hx hb dX9_isAhead_47 (by decide) ?_
      refine lv_goto (tgt := 52) hx hb dX9_isAhead_48 (by decide) ?_
      exact W.zret (v := 1) hx hb hr rfl (fun t ht hW => ⟨1, rfl, hw, ht⟩) (fun _ h => by cases h) dX9_isAhead_52
  · have hw := hw.2 hc
    refine lv_iload_n hx hb dX9_isAhead_13 rfl (lv_at hl 0 rfl) ?_
    refine lv_i2l (v := x0.toInt64) hx hb dX9_isAhead_14 rfl ?_
    refine vp_callSi (va_Run.run (va_runS (As := [.long x0.toInt64]) (rest := []) ⟨hx, hb, hml, hown, hts⟩ (c_X9_bits l x0.toInt64 _ hw) (va_cwS 1 hts gX9_isAhead_X9_bits rfl rfl rfl (by decide +kernel) ⟨Nat.le_of_ble_eq_true rfl, Nat.le_of_ble_eq_true rfl⟩) (psS hN) rfl rfl hl.1 rfl (lv_room (Nat.le_of_ble_eq_true rfl)) dX9_isAhead_15 ⟨Nat.zero_le _, Nat.zero_le _⟩)) (fun r4 hw => ?_)
    refine lv_iload_n hx hb dX9_isAhead_18 rfl (lv_at hl 1 rfl) ?_
    refine lv_i2l (v := x1.toInt64) hx hb dX9_isAhead_19 rfl ?_
    refine vp_callSi (va_Run.run (va_runS (As := [.long x1.toInt64]) (rest := [.int r4]) ⟨hx, hb, hml, hown, hts⟩ (c_X9_bits l x1.toInt64 _ hw) (va_cwS 1 hts gX9_isAhead_X9_bits rfl rfl rfl (by decide +kernel) ⟨Nat.le_of_ble_eq_true rfl, Nat.le_of_ble_eq_true rfl⟩) (psS hN) rfl rfl hl.1 rfl (lv_room (Nat.le_of_ble_eq_true rfl)) dX9_isAhead_20 ⟨Nat.zero_le _, Nat.zero_le _⟩)) (fun r5 hw => ?_)
    refine lv_icmp_ge (tgt := 30) hx hb dX9_isAhead_23 (by decide) (fun hc => ?_) (fun hc => ?_)
    · have hw := hw.1 hc
      refine lv_iconst (v := 0) hx hb dX9_isAhead_30 (by decide) ?_
      exact W.zret (v := 0) hx hb hr rfl (fun t ht hW => ⟨0, rfl, hw, ht⟩) (fun _ h => by cases h) dX9_isAhead_31
    · have hw := hw.2 hc
      refine lv_iconst (v := 1) hx hb dX9_isAhead_26 (by decide) ?_
      refine lv_goto (tgt := 31) hx hb dX9_isAhead_27 (by decide) ?_
      exact W.zret (v := 1) hx hb hr rfl (fun t ht hW => ⟨1, rfl, hw, ht⟩) (fun _ h => by cases h) dX9_isAhead_31
set_option maxHeartbeats 4000000 in
set_option maxRecDepth 100000 in
theorem c_X9_quarrelsWith (l : Launch) (D : va_G) (q : Nat → Nat) (cI cJ cZ : ClassId) (sz : Nat) (u : WU) (x1 : Int32) (x2 : Int32) (post : Int32 → WU → Prop) (hw : wp_X9_quarrelsWith x1 x2 u post) : Met l yX9_quarrelsWith wsX9_quarrelsWith rm_X9_quarrelsWith (va_Pc [.ref (q 0), .int x1, .int x2] (MW D (ty3 cI cJ cZ) (wM q cI cJ cZ u) sz)) (va_Qi post (fun u' t => va_P D vwCl (wM q cI cJ cZ u') t.heap) (va_A (wM q cI cJ cZ u00) sz)) 0 0 (va_A (wM q cI cJ cZ u00) sz) := by
  refine Met.ofW (cc := cX9_quarrelsWith) (maxL := 4) (ret := (some .int)) (by decide) rfl ?_
  intro p e s m args below meth c s₁ B hml hv
  obtain ⟨hargs, hsz, hP, hK, hD0, hN⟩ := hv
  have hx := B.exec
  have hb := B.bytes
  have hr := B.returns
  have hts := atoms_spec (ws := wsX9_quarrelsWith) B.pre
  have hown : s.vm.findClass RX9 = some m.cls := findClass_of_methodNamed B.named
  have hlocks := B.notSynchronized
  subst hsz
  have hD := shw_self (sz := s.heap.size) (sh_wM q cI cJ cZ) hD0
  have hA : ∀ a : Nat, s.heap.size ≤ a → va_A (wM q cI cJ cZ u00) s.heap.size a := fun _ h => Or.inr h
  have hS : va_S (va_A (wM q cI cJ cZ u00) s.heap.size) s.heap s.heap [] := va_S.rf
  have hiX9 : ∀ w ∈ u_ws RX9 TX9 30, w ∈ wsX9_quarrelsWith := by decide +kernel
  have hf118 := hts (.fieldLink RX9 118 "TermsDeskModel" "product" "I") (by decide +kernel)
  have hf121 := hts (.fieldLink RX9 121 "TermsDeskModel" "changes" "I") (by decide +kernel)
  have hf45 := hts (.fieldLink RX9 45 "TermsDeskModel" "sort" "[I") (by decide +kernel)
  have hf48 := hts (.fieldLink RX9 48 "TermsDeskModel" "which" "[I") (by decide +kernel)
  have hf51 := hts (.fieldLink RX9 51 "TermsDeskModel" "gets" "[I") (by decide +kernel)
  have hf60 := hts (.fieldLink RX9 60 "TermsDeskModel" "isGone" "[Z") (by decide +kernel)
  have hf63 := hts (.fieldLink RX9 63 "TermsDeskModel" "has" "[I") (by decide +kernel)
  have J66 : ∀ {K6 : Int32 → WU → Prop} (x1 : Int32) (x2 : Int32) (x3 : Int32) (u : WU) (H : Heap) (locs : List Loc), wp_X9_quarrelsWith_J66 x1 x2 x3 u post K6 → va_P D vwCl (wM q cI cJ cZ u) H → va_D (va_A (wM q cI cJ cZ u00) s.heap.size) (wM q cI cJ cZ u) → va_S (va_A (wM q cI cJ cZ u00) s.heap.size) s.heap H locs → ∀ ls : Array Slot, lv_has ls 4 [(0, .ref (q 0)), (1, .int x1), (2, .int x2), (3, .int x3)] → (∀ (x3 : Int32) (u : WU) (H : Heap) (locs : List Loc), K6 x3 u → va_P D vwCl (wM q cI cJ cZ u) H → va_D (va_A (wM q cI cJ cZ u00) s.heap.size) (wM q cI cJ cZ u) → va_S (va_A (wM q cI cJ cZ u00) s.heap.size) s.heap H locs → ∀ ls : Array Slot, lv_has ls 4 [(0, .ref (q 0)), (1, .int x1), (2, .int x2), (3, .int x3)] → W p l e (headSpec wsX9_quarrelsWith rm_X9_quarrelsWith).room s m args below meth c H locs 0 0 (MQ below (va_Qi post (fun u' t => va_P D vwCl (wM q cI cJ cZ u') t.heap) (va_A (wM q cI cJ cZ u00) s.heap.size)) args s 0 0 (va_A (wM q cI cJ cZ u00) s.heap.size)) (F0 m 6 ls [])) → W p l e (headSpec wsX9_quarrelsWith rm_X9_quarrelsWith).room s m args below meth c H locs 0 0 (MQ below (va_Qi post (fun u' t => va_P D vwCl (wM q cI cJ cZ u') t.heap) (va_A (wM q cI cJ cZ u00) s.heap.size)) args s 0 0 (va_A (wM q cI cJ cZ u00) s.heap.size)) (F0 m 66 ls []) := by
    intro K6 x1 x2 x3 u H locs hw hP hD hS ls hl k6
    unfold wp_X9_quarrelsWith_J66 at hw
    obtain ⟨y13, ey13⟩ : ∃ z : Int32, z = x3 + 1 := ⟨_, rfl⟩
    have hw := hw y13 ey13
    refine lv_iinc (v := y13) (lv' := [(3, .int y13), (0, .ref (q 0)), (1, .int x1), (2, .int x2)]) hx hb dX9_quarrelsWith_66 hl (k := 3) rfl (by rw [ey13]; rfl) (by decide) rfl (fun ls hl => ?_)
    refine lv_goto (tgt := 6) hx hb dX9_quarrelsWith_69 (by decide) ?_
    exact k6 y13 u _ _ hw hP hD hS ls (lv_sub hl [1, 2, 3, 0] rfl)
  have L6 : ∀ (x1 : Int32) (x2 : Int32) (n : Nat) (x3 : Int32) (u : WU) (H : Heap) (locs : List Loc), wp_X9_quarrelsWith_L6 x1 x2 post n x3 u → va_P D vwCl (wM q cI cJ cZ u) H → va_D (va_A (wM q cI cJ cZ u00) s.heap.size) (wM q cI cJ cZ u) → va_S (va_A (wM q cI cJ cZ u00) s.heap.size) s.heap H locs → ∀ ls : Array Slot, lv_has ls 4 [(0, .ref (q 0)), (1, .int x1), (2, .int x2), (3, .int x3)] → W p l e (headSpec wsX9_quarrelsWith rm_X9_quarrelsWith).room s m args below meth c H locs 0 0 (MQ below (va_Qi post (fun u' t => va_P D vwCl (wM q cI cJ cZ u') t.heap) (va_A (wM q cI cJ cZ u00) s.heap.size)) args s 0 0 (va_A (wM q cI cJ cZ u00) s.heap.size)) (F0 m 6 ls []) := by
    intro x1 x2 n
    induction n with
    | zero =>
      intro x3 u H locs hw
      exact hw.elim
    | succ n ih =>
      intro x3 u H locs hw hP hD hS ls hl 
      unfold wp_X9_quarrelsWith_L6 at hw
      refine lv_iload_n hx hb dX9_quarrelsWith_6 rfl (lv_at hl 3 rfl) ?_
      refine lv_aload_n hx hb dX9_quarrelsWith_7 rfl (lv_at hl 0 rfl) ?_
      refine va_get (D := D) (ci := 9) (v := .int (u.1 24 0)) (C := RX9) (T := TX9) (N := 30) hx hb hts hiX9 hown hK hP 0 rfl rfl 14 (by decide) hf121 (fun _ h9 => h9) rfl dX9_quarrelsWith_8 ?_
      refine lv_icmp_ge (tgt := 72) hx hb dX9_quarrelsWith_11 (by decide) (fun hc => ?_) (fun hc => ?_)
      · have hw := hw.1 hc
        refine lv_aload_n hx hb dX9_quarrelsWith_72 rfl (lv_at hl 0 rfl) ?_
        refine cMv (sh_wM q cI cJ cZ) (u := u) (va_runV (As := []) (rest := []) ⟨hx, hb, hml, hown, hts⟩ (c_X9_orders l D q cI cJ cZ _ u _ hw) (cwV 0 hts gX9_quarrelsWith_X9_orders rfl rfl rfl (by decide +kernel) ⟨Nat.le_of_ble_eq_true rfl, Nat.le_of_ble_eq_true rfl⟩) (pvM (va_recv hK hP (ci := 9) (q0 := 0) (q := (RX9, TX9, 30)) rfl rfl) hK hP hD hN) rfl rfl hl.1 rfl (lv_room (Nat.le_of_ble_eq_true rfl)) dX9_quarrelsWith_73 ⟨Nat.zero_le _, Nat.zero_le _⟩) hA hD hS (fun u1 H locs hw hP hD hS => ?_)
        refine lv_aload_n hx hb dX9_quarrelsWith_76 rfl (lv_at hl 0 rfl) ?_
        refine lv_aload_n hx hb dX9_quarrelsWith_77 rfl (lv_at hl 0 rfl) ?_
        refine va_get (D := D) (ci := 9) (v := .int (u1.1 22 0)) (C := RX9) (T := TX9) (N := 30) hx hb hts hiX9 hown hK hP 0 rfl rfl 4 (by decide) hf118 (fun _ h9 => h9) rfl dX9_quarrelsWith_78 ?_
        refine cMv (sh_wM q cI cJ cZ) (u := u1) (va_runV (As := [.int (u1.1 22 0)]) (rest := []) ⟨hx, hb, hml, hown, hts⟩ (c_X9_reaches l D q cI cJ cZ _ u1 (u1.1 22 0) _ hw) (cwV 1 hts gX9_quarrelsWith_X9_reaches rfl rfl rfl (by decide +kernel) ⟨Nat.le_of_ble_eq_true rfl, Nat.le_of_ble_eq_true rfl⟩) (pvM (va_recv hK hP (ci := 9) (q0 := 0) (q := (RX9, TX9, 30)) rfl rfl) hK hP hD hN) rfl rfl hl.1 rfl (lv_room (Nat.le_of_ble_eq_true rfl)) dX9_quarrelsWith_81 ⟨Nat.zero_le _, Nat.zero_le _⟩) hA hD hS (fun u2 H locs hw hP hD hS => ?_)
        refine lv_aload_n hx hb dX9_quarrelsWith_84 rfl (lv_at hl 0 rfl) ?_
        refine lv_iload_n hx hb dX9_quarrelsWith_85 rfl (lv_at hl 1 rfl) ?_
        refine cMv (sh_wM q cI cJ cZ) (u := u2) (va_runV (As := [.int x1]) (rest := []) ⟨hx, hb, hml, hown, hts⟩ (c_X9_comes l D q cI cJ cZ _ u2 x1 _ hw) (cwV 1 hts gX9_quarrelsWith_X9_comes rfl rfl rfl (by decide +kernel) ⟨Nat.le_of_ble_eq_true rfl, Nat.le_of_ble_eq_true rfl⟩) (pvM (va_recv hK hP (ci := 9) (q0 := 0) (q := (RX9, TX9, 30)) rfl rfl) hK hP hD hN) rfl rfl hl.1 rfl (lv_room (Nat.le_of_ble_eq_true rfl)) dX9_quarrelsWith_86 ⟨Nat.zero_le _, Nat.zero_le _⟩) hA hD hS (fun u3 H locs hw hP hD hS => ?_)
        refine lv_aload_n hx hb dX9_quarrelsWith_89 rfl (lv_at hl 0 rfl) ?_
        refine vp_callSi (va_Run.run (va_runV (As := []) (rest := []) ⟨hx, hb, hml, hown, hts⟩ (c_X9_quarrelsNow l D q cI cJ cZ u3 _ hw) (cwV 0 hts gX9_quarrelsWith_X9_quarrelsNow rfl rfl rfl (by decide +kernel) ⟨Nat.le_of_ble_eq_true rfl, Nat.le_of_ble_eq_true rfl⟩) (pvR (va_recv hK hP (ci := 9) (q0 := 0) (q := (RX9, TX9, 30)) rfl rfl) hK hP hN) rfl rfl hl.1 rfl (lv_room (Nat.le_of_ble_eq_true rfl)) dX9_quarrelsWith_90 ⟨Nat.zero_le _, Nat.zero_le _⟩)) (fun r4 hw => ?_)
        exact W.iret (v := r4) hx hb hr (fun t ht hW => ⟨⟨r4, u3, rfl, hw, by show va_P D vwCl _ t.heap; rw [ht]; exact hP⟩, hS.F ht⟩) hS.2.2 dX9_quarrelsWith_93
      · have hw := hw.2 hc
        refine lv_iload_n hx hb dX9_quarrelsWith_14 rfl (lv_at hl 2 rfl) ?_
        refine lv_iload_n hx hb dX9_quarrelsWith_15 rfl (lv_at hl 3 rfl) ?_
        refine lv_ishr hx hb dX9_quarrelsWith_16 ?_
        refine lv_iconst (v := 1) hx hb dX9_quarrelsWith_17 (by decide) ?_
        refine lv_iand hx hb dX9_quarrelsWith_18 ?_
        refine lv_if_ne (tgt := 25) hx hb dX9_quarrelsWith_19 (by decide) (fun hc => ?_) (fun hc => ?_)
        · have hw := hw.1 hc
          refine lv_aload_n hx hb dX9_quarrelsWith_25 rfl (lv_at hl 0 rfl) ?_
          refine va_get (D := D) (ci := 9) (v := .ref (q 12)) (C := RX9) (T := TX9) (N := 30) hx hb hts hiX9 hown hK hP 0 rfl rfl 15 (by decide) hf45 (fun _ h9 => h9) rfl dX9_quarrelsWith_26 ?_
          refine lv_iload_n hx hb dX9_quarrelsWith_29 rfl (lv_at hl 3 rfl) ?_
          obtain ⟨hin, hw⟩ := hw
          refine va_iald hx hb hK hP 12 0 rfl rfl hin dX9_quarrelsWith_30 ?_
          refine lv_if_ne (tgt := 54) hx hb dX9_quarrelsWith_31 (by decide) (fun hc => ?_) (fun hc => ?_)
          · have hw := hw.1 hc
            refine lv_aload_n hx hb dX9_quarrelsWith_54 rfl (lv_at hl 0 rfl) ?_
            refine va_get (D := D) (ci := 9) (v := .ref (q 17)) (C := RX9) (T := TX9) (N := 30) hx hb hts hiX9 hown hK hP 0 rfl rfl 20 (by decide) hf60 (fun _ h9 => h9) rfl dX9_quarrelsWith_55 ?_
            refine lv_aload_n hx hb dX9_quarrelsWith_58 rfl (lv_at hl 0 rfl) ?_
            refine va_get (D := D) (ci := 9) (v := .ref (q 13)) (C := RX9) (T := TX9) (N := 30) hx hb hts hiX9 hown hK hP 0 rfl rfl 16 (by decide) hf48 (fun _ h9 => h9) rfl dX9_quarrelsWith_59 ?_
            refine lv_iload_n hx hb dX9_quarrelsWith_62 rfl (lv_at hl 3 rfl) ?_
            obtain ⟨hin, hw⟩ := hw
            refine va_iald hx hb hK hP 13 0 rfl rfl hin dX9_quarrelsWith_63 ?_
            refine lv_iconst (v := 1) hx hb dX9_quarrelsWith_64 (by decide) ?_
            obtain ⟨hin, hw⟩ := hw
            refine sZast (w := wM q cI cJ cZ) hx hb hK hP hD hS 17 2 14 rfl rfl (wMa_17 q cI cJ cZ u) hin dX9_quarrelsWith_65 (fun u5 H locs eu5 hP hD hS => ?_)
            have hw := hw u5 eu5
            refine J66 x1 x2 x3 u5 _ _ hw hP hD hS ls (lv_sub hl [0, 1, 2, 3] rfl) (fun y6 u7 H locs hw hP hD hS ls hl => ?_)
            exact ih y6 u7 _ _ hw hP hD hS ls (lv_sub hl [0, 1, 2, 3] rfl)
          · have hw := hw.2 hc
            refine lv_aload_n hx hb dX9_quarrelsWith_34 rfl (lv_at hl 0 rfl) ?_
            refine va_get (D := D) (ci := 9) (v := .ref (q 18)) (C := RX9) (T := TX9) (N := 30) hx hb hts hiX9 hown hK hP 0 rfl rfl 21 (by decide) hf63 (fun _ h9 => h9) rfl dX9_quarrelsWith_35 ?_
            refine lv_aload_n hx hb dX9_quarrelsWith_38 rfl (lv_at hl 0 rfl) ?_
            refine va_get (D := D) (ci := 9) (v := .ref (q 13)) (C := RX9) (T := TX9) (N := 30) hx hb hts hiX9 hown hK hP 0 rfl rfl 16 (by decide) hf48 (fun _ h9 => h9) rfl dX9_quarrelsWith_39 ?_
            refine lv_iload_n hx hb dX9_quarrelsWith_42 rfl (lv_at hl 3 rfl) ?_
            obtain ⟨hin, hw⟩ := hw
            refine va_iald hx hb hK hP 13 0 rfl rfl hin dX9_quarrelsWith_43 ?_
            refine lv_aload_n hx hb dX9_quarrelsWith_44 rfl (lv_at hl 0 rfl) ?_
            refine va_get (D := D) (ci := 9) (v := .ref (q 14)) (C := RX9) (T := TX9) (N := 30) hx hb hts hiX9 hown hK hP 0 rfl rfl 17 (by decide) hf51 (fun _ h9 => h9) rfl dX9_quarrelsWith_45 ?_
            refine lv_iload_n hx hb dX9_quarrelsWith_48 rfl (lv_at hl 3 rfl) ?_
            obtain ⟨hin, hw⟩ := hw
            refine va_iald hx hb hK hP 14 0 rfl rfl hin dX9_quarrelsWith_49 ?_
            obtain ⟨hin, hw⟩ := hw
            refine sIast (w := wM q cI cJ cZ) hx hb hK hP hD hS 18 0 15 rfl rfl (wMa_18 q cI cJ cZ u) hin dX9_quarrelsWith_50 (fun u8 H locs eu8 hP hD hS => ?_)
            have hw := hw u8 eu8
            refine lv_goto (tgt := 66) hx hb dX9_quarrelsWith_51 (by decide) ?_
            refine J66 x1 x2 x3 u8 _ _ hw hP hD hS ls (lv_sub hl [0, 1, 2, 3] rfl) (fun y9 u10 H locs hw hP hD hS ls hl => ?_)
            exact ih y9 u10 _ _ hw hP hD hS ls (lv_sub hl [0, 1, 2, 3] rfl)
        · have hw := hw.2 hc
          refine lv_goto (tgt := 66) hx hb dX9_quarrelsWith_22 (by decide) ?_
          refine J66 x1 x2 x3 u _ _ hw hP hD hS ls (lv_sub hl [0, 1, 2, 3] rfl) (fun y11 u12 H locs hw hP hD hS ls hl => ?_)
          exact ih y11 u12 _ _ hw hP hD hS ls (lv_sub hl [0, 1, 2, 3] rfl)
  have hent := lg_entry_eq m ([.ref (q 0), .int x1, .int x2]) 4
  rw [← hargs] at hent
  rw [hent]
  have hl := lv_entry ([.ref (q 0), .int x1, .int x2]) (n := 4) (Nat.le_of_ble_eq_true rfl)
  generalize (lg_sl ([.ref (q 0), .int x1, .int x2]) ++ List.replicate (4 - (lg_sl ([.ref (q 0), .int x1, .int x2])).length) Slot.unset).toArray = ls at hl ⊢
  have hl : lv_has ls 4 [(0, .ref (q 0)), (1, .int x1), (2, .int x2)] := hl
  unfold wp_X9_quarrelsWith at hw
  refine lv_aload_n hx hb dX9_quarrelsWith_0 rfl (lv_at hl 0 rfl) ?_
  refine cMv (sh_wM q cI cJ cZ) (u := u) (va_runV (As := []) (rest := []) ⟨hx, hb, hml, hown, hts⟩ (c_X9_asItIs l D q cI cJ cZ _ u _ hw) (cwV 0 hts gX9_quarrelsWith_X9_asItIs rfl rfl rfl (by decide +kernel) ⟨Nat.le_of_ble_eq_true rfl, Nat.le_of_ble_eq_true rfl⟩) (pvM (va_recv hK hP (ci := 9) (q0 := 0) (q := (RX9, TX9, 30)) rfl rfl) hK hP hD hN) rfl rfl hl.1 rfl (lv_room (Nat.le_of_ble_eq_true rfl)) dX9_quarrelsWith_1 ⟨Nat.zero_le _, Nat.zero_le _⟩) hA hD hS (fun u14 H locs hw hP hD hS => ?_)
  refine lv_iconst (v := 0) hx hb dX9_quarrelsWith_4 (by decide) ?_
  refine lv_istore_n (lv' := [(3, .int 0), (0, .ref (q 0)), (1, .int x1), (2, .int x2)]) hx hb dX9_quarrelsWith_5 rfl hl (by decide) rfl (fun ls hl => ?_)
  obtain ⟨nn, hw⟩ := hw
  refine L6 x1 x2 nn 0 u14 _ _ hw hP hD hS ls (lv_sub hl [1, 2, 3, 0] rfl)
set_option maxHeartbeats 4000000 in
set_option maxRecDepth 100000 in
theorem c_X9_cheapest (l : Launch) (D : va_G) (q : Nat → Nat) (cI cJ cZ : ClassId) (sz : Nat) (u : WU) (x1 : Int32) (post : Int32 → WU → Prop) (hw : wp_X9_cheapest x1 u post) : Met l yX9_cheapest wsX9_cheapest rm_X9_cheapest (va_Pc [.ref (q 0), .int x1] (MW D (ty3 cI cJ cZ) (wM q cI cJ cZ u) sz)) (va_Qi post (fun u' t => va_P D vwCl (wM q cI cJ cZ u') t.heap) (va_A (wM q cI cJ cZ u00) sz)) 0 0 (va_A (wM q cI cJ cZ u00) sz) := by
  refine Met.ofW (cc := cX9_cheapest) (maxL := 5) (ret := (some .int)) (by decide) rfl ?_
  intro p e s m args below meth c s₁ B hml hv
  obtain ⟨hargs, hsz, hP, hK, hD0, hN⟩ := hv
  have hx := B.exec
  have hb := B.bytes
  have hr := B.returns
  have hts := atoms_spec (ws := wsX9_cheapest) B.pre
  have hown : s.vm.findClass RX9 = some m.cls := findClass_of_methodNamed B.named
  have hlocks := B.notSynchronized
  subst hsz
  have hD := shw_self (sz := s.heap.size) (sh_wM q cI cJ cZ) hD0
  have hA : ∀ a : Nat, s.heap.size ≤ a → va_A (wM q cI cJ cZ u00) s.heap.size a := fun _ h => Or.inr h
  have hS : va_S (va_A (wM q cI cJ cZ u00) s.heap.size) s.heap s.heap [] := va_S.rf
  have hiX9 : ∀ w ∈ u_ws RX9 TX9 30, w ∈ wsX9_cheapest := by decide +kernel
  have hf121 := hts (.fieldLink RX9 121 "TermsDeskModel" "changes" "I") (by decide +kernel)
  have J77 : ∀ {K13 : Int32 → Int32 → WU → Prop} (x1 : Int32) (x2 : Int32) (x3 : Int32) (u : WU) (H : Heap) (locs : List Loc), wp_X9_cheapest_J77 x1 x2 x3 u post K13 → va_P D vwCl (wM q cI cJ cZ u) H → va_D (va_A (wM q cI cJ cZ u00) s.heap.size) (wM q cI cJ cZ u) → va_S (va_A (wM q cI cJ cZ u00) s.heap.size) s.heap H locs → ∀ ls : Array Slot, lv_has ls 5 [(0, .ref (q 0)), (1, .int x1), (2, .int x2), (3, .int x3)] → (∀ (x2 : Int32) (x3 : Int32) (u : WU) (H : Heap) (locs : List Loc), K13 x2 x3 u → va_P D vwCl (wM q cI cJ cZ u) H → va_D (va_A (wM q cI cJ cZ u00) s.heap.size) (wM q cI cJ cZ u) → va_S (va_A (wM q cI cJ cZ u00) s.heap.size) s.heap H locs → ∀ ls : Array Slot, lv_has ls 5 [(0, .ref (q 0)), (1, .int x1), (2, .int x2), (3, .int x3)] → W p l e (headSpec wsX9_cheapest rm_X9_cheapest).room s m args below meth c H locs 0 0 (MQ below (va_Qi post (fun u' t => va_P D vwCl (wM q cI cJ cZ u') t.heap) (va_A (wM q cI cJ cZ u00) s.heap.size)) args s 0 0 (va_A (wM q cI cJ cZ u00) s.heap.size)) (F0 m 13 ls [])) → W p l e (headSpec wsX9_cheapest rm_X9_cheapest).room s m args below meth c H locs 0 0 (MQ below (va_Qi post (fun u' t => va_P D vwCl (wM q cI cJ cZ u') t.heap) (va_A (wM q cI cJ cZ u00) s.heap.size)) args s 0 0 (va_A (wM q cI cJ cZ u00) s.heap.size)) (F0 m 77 ls []) := by
    intro K13 x1 x2 x3 u H locs hw hP hD hS ls hl k13
    unfold wp_X9_cheapest_J77 at hw
    obtain ⟨y28, ey28⟩ : ∃ z : Int32, z = x3 + 1 := ⟨_, rfl⟩
    have hw := hw y28 ey28
    refine lv_iinc (v := y28) (lv' := [(3, .int y28), (0, .ref (q 0)), (1, .int x1), (2, .int x2)]) hx hb dX9_cheapest_77 hl (k := 3) rfl (by rw [ey28]; rfl) (by decide) rfl (fun ls hl => ?_)
    refine lv_goto (tgt := 13) hx hb dX9_cheapest_80 (by decide) ?_
    exact k13 x2 y28 u _ _ hw hP hD hS ls (lv_sub hl [1, 2, 3, 0] rfl)
  have J63 : ∀ {K13 : Int32 → Int32 → WU → Prop} (x1 : Int32) (x2 : Int32) (x3 : Int32) (u : WU) (H : Heap) (locs : List Loc), wp_X9_cheapest_J63 x1 x2 x3 u post K13 → va_P D vwCl (wM q cI cJ cZ u) H → va_D (va_A (wM q cI cJ cZ u00) s.heap.size) (wM q cI cJ cZ u) → va_S (va_A (wM q cI cJ cZ u00) s.heap.size) s.heap H locs → ∀ ls : Array Slot, lv_has ls 5 [(0, .ref (q 0)), (1, .int x1), (2, .int x2), (3, .int x3)] → (∀ (x2 : Int32) (x3 : Int32) (u : WU) (H : Heap) (locs : List Loc), K13 x2 x3 u → va_P D vwCl (wM q cI cJ cZ u) H → va_D (va_A (wM q cI cJ cZ u00) s.heap.size) (wM q cI cJ cZ u) → va_S (va_A (wM q cI cJ cZ u00) s.heap.size) s.heap H locs → ∀ ls : Array Slot, lv_has ls 5 [(0, .ref (q 0)), (1, .int x1), (2, .int x2), (3, .int x3)] → W p l e (headSpec wsX9_cheapest rm_X9_cheapest).room s m args below meth c H locs 0 0 (MQ below (va_Qi post (fun u' t => va_P D vwCl (wM q cI cJ cZ u') t.heap) (va_A (wM q cI cJ cZ u00) s.heap.size)) args s 0 0 (va_A (wM q cI cJ cZ u00) s.heap.size)) (F0 m 13 ls [])) → W p l e (headSpec wsX9_cheapest rm_X9_cheapest).room s m args below meth c H locs 0 0 (MQ below (va_Qi post (fun u' t => va_P D vwCl (wM q cI cJ cZ u') t.heap) (va_A (wM q cI cJ cZ u00) s.heap.size)) args s 0 0 (va_A (wM q cI cJ cZ u00) s.heap.size)) (F0 m 63 ls []) := by
    intro K13 x1 x2 x3 u H locs hw hP hD hS ls hl k13
    unfold wp_X9_cheapest_J63 at hw
    refine lv_aload_n hx hb dX9_cheapest_63 rfl (lv_at hl 0 rfl) ?_
    refine lv_iload_n hx hb dX9_cheapest_64 rfl (lv_at hl 1 rfl) ?_
    refine lv_iload_n hx hb dX9_cheapest_65 rfl (lv_at hl 3 rfl) ?_
    refine cMi (sh_wM q cI cJ cZ) (u := u) (va_runV (As := [.int x1, .int x3]) (rest := []) ⟨hx, hb, hml, hown, hts⟩ (c_X9_quarrelsWith l D q cI cJ cZ _ u x1 x3 _ hw) (cwV 2 hts gX9_cheapest_X9_quarrelsWith rfl rfl rfl (by decide +kernel) ⟨Nat.le_of_ble_eq_true rfl, Nat.le_of_ble_eq_true rfl⟩) (pvM (va_recv hK hP (ci := 9) (q0 := 0) (q := (RX9, TX9, 30)) rfl rfl) hK hP hD hN) rfl rfl hl.1 rfl (lv_room (Nat.le_of_ble_eq_true rfl)) dX9_cheapest_66 ⟨Nat.zero_le _, Nat.zero_le _⟩) hA hD hS (fun r21 u20 H locs hw hP hD hS => ?_)
    refine lv_if_le (tgt := 75) hx hb dX9_cheapest_69 (by decide) (fun hc => ?_) (fun hc => ?_)
    · have hw := hw.1 hc
      refine lv_iload_n hx hb dX9_cheapest_75 rfl (lv_at hl 3 rfl) ?_
      refine lv_istore_n (lv' := [(2, .int x3), (0, .ref (q 0)), (1, .int x1), (3, .int x3)]) hx hb dX9_cheapest_76 rfl hl (by decide) rfl (fun ls hl => ?_)
      refine J77 x1 x3 x3 u20 _ _ hw hP hD hS ls (lv_sub hl [1, 2, 0, 3] rfl) (fun y22 y23 u24 H locs hw hP hD hS ls hl => ?_)
      exact k13 y22 y23 u24 _ _ hw hP hD hS ls (lv_sub hl [0, 1, 2, 3] rfl)
    · have hw := hw.2 hc
      refine lv_goto (tgt := 77) hx hb dX9_cheapest_72 (by decide) ?_
      refine J77 x1 x2 x3 u20 _ _ hw hP hD hS ls (lv_sub hl [0, 1, 2, 3] rfl) (fun y25 y26 u27 H locs hw hP hD hS ls hl => ?_)
      exact k13 y25 y26 u27 _ _ hw hP hD hS ls (lv_sub hl [0, 1, 2, 3] rfl)
  have L13 : ∀ (x1 : Int32) (n : Nat) (x2 : Int32) (x3 : Int32) (u : WU) (H : Heap) (locs : List Loc), wp_X9_cheapest_L13 x1 post n x2 x3 u → va_P D vwCl (wM q cI cJ cZ u) H → va_D (va_A (wM q cI cJ cZ u00) s.heap.size) (wM q cI cJ cZ u) → va_S (va_A (wM q cI cJ cZ u00) s.heap.size) s.heap H locs → ∀ ls : Array Slot, lv_has ls 5 [(0, .ref (q 0)), (1, .int x1), (2, .int x2), (3, .int x3)] → W p l e (headSpec wsX9_cheapest rm_X9_cheapest).room s m args below meth c H locs 0 0 (MQ below (va_Qi post (fun u' t => va_P D vwCl (wM q cI cJ cZ u') t.heap) (va_A (wM q cI cJ cZ u00) s.heap.size)) args s 0 0 (va_A (wM q cI cJ cZ u00) s.heap.size)) (F0 m 13 ls []) := by
    intro x1 n
    induction n with
    | zero =>
      intro x2 x3 u H locs hw
      exact hw.elim
    | succ n ih =>
      intro x2 x3 u H locs hw hP hD hS ls hl 
      unfold wp_X9_cheapest_L13 at hw
      refine lv_iload_n hx hb dX9_cheapest_13 rfl (lv_at hl 3 rfl) ?_
      refine lv_iconst (v := 1) hx hb dX9_cheapest_14 (by decide) ?_
      refine lv_aload_n hx hb dX9_cheapest_15 rfl (lv_at hl 0 rfl) ?_
      refine va_get (D := D) (ci := 9) (v := .int (u.1 24 0)) (C := RX9) (T := TX9) (N := 30) hx hb hts hiX9 hown hK hP 0 rfl rfl 14 (by decide) hf121 (fun _ h9 => h9) rfl dX9_cheapest_16 ?_
      refine lv_ishl hx hb dX9_cheapest_19 ?_
      refine lv_icmp_ge (tgt := 83) hx hb dX9_cheapest_20 (by decide) (fun hc => ?_) (fun hc => ?_)
      · have hw := hw.1 hc
        refine lv_iload_n hx hb dX9_cheapest_83 rfl (lv_at hl 2 rfl) ?_
        exact W.iret (v := x2) hx hb hr (fun t ht hW => ⟨⟨x2, u, rfl, hw, by show va_P D vwCl _ t.heap; rw [ht]; exact hP⟩, hS.F ht⟩) hS.2.2 dX9_cheapest_84
      · have hw := hw.2 hc
        refine lv_aload_n hx hb dX9_cheapest_23 rfl (lv_at hl 0 rfl) ?_
        refine lv_iload_n hx hb dX9_cheapest_24 rfl (lv_at hl 3 rfl) ?_
        refine vp_callSi (va_Run.run (va_runV (As := [.int x3]) (rest := []) ⟨hx, hb, hml, hown, hts⟩ (c_X9_priceOf l D q cI cJ cZ u x3 _ hw) (cwV 1 hts gX9_cheapest_X9_priceOf rfl rfl rfl (by decide +kernel) ⟨Nat.le_of_ble_eq_true rfl, Nat.le_of_ble_eq_true rfl⟩) (pvR (va_recv hK hP (ci := 9) (q0 := 0) (q := (RX9, TX9, 30)) rfl rfl) hK hP hN) rfl rfl hl.1 rfl (lv_room (Nat.le_of_ble_eq_true rfl)) dX9_cheapest_25 ⟨Nat.zero_le _, Nat.zero_le _⟩)) (fun r1 hw => ?_)
        refine lv_istore (lv' := [(4, .int r1), (0, .ref (q 0)), (1, .int x1), (2, .int x2), (3, .int x3)]) hx hb dX9_cheapest_28 hl (by decide) rfl (fun ls hl => ?_)
        refine lv_iload_n hx hb dX9_cheapest_30 rfl (lv_at hl 3 rfl) ?_
        refine lv_iconst (v := (-1)) hx hb dX9_cheapest_31 (by decide) ?_
        refine lv_icmp_eq (tgt := 63) hx hb dX9_cheapest_32 (by decide) (fun hc => ?_) (fun hc => ?_)
        · have hw := hw.1 hc
          refine J63 x1 x2 x3 u _ _ hw hP hD hS ls (lv_sub hl [1, 2, 3, 4] rfl) (fun y2 y3 u4 H locs hw hP hD hS ls hl => ?_)
          exact ih y2 y3 u4 _ _ hw hP hD hS ls (lv_sub hl [0, 1, 2, 3] rfl)
        · have hw := hw.2 hc
          refine lv_iload hx hb dX9_cheapest_35 (lv_at hl 0 rfl) ?_
          refine lv_aload_n hx hb dX9_cheapest_37 rfl (lv_at hl 1 rfl) ?_
          refine lv_iload_n hx hb dX9_cheapest_38 rfl (lv_at hl 3 rfl) ?_
          refine vp_callSi (va_Run.run (va_runV (As := [.int x2]) (rest := [.int r1]) ⟨hx, hb, hml, hown, hts⟩ (c_X9_priceOf l D q cI cJ cZ u x2 _ hw) (cwV 1 hts gX9_cheapest_X9_priceOf rfl rfl rfl (by decide +kernel) ⟨Nat.le_of_ble_eq_true rfl, Nat.le_of_ble_eq_true rfl⟩) (pvR (va_recv hK hP (ci := 9) (q0 := 0) (q := (RX9, TX9, 30)) rfl rfl) hK hP hN) rfl rfl hl.1 rfl (lv_room (Nat.le_of_ble_eq_true rfl)) dX9_cheapest_39 ⟨Nat.zero_le _, Nat.zero_le _⟩)) (fun r5 hw => ?_)
          refine lv_icmp_gt (tgt := 77) hx hb dX9_cheapest_42 (by decide) (fun hc => ?_) (fun hc => ?_)
          · have hw := hw.1 hc
            refine J77 x1 x2 x3 u _ _ hw hP hD hS ls (lv_sub hl [1, 2, 3, 4] rfl) (fun y6 y7 u8 H locs hw hP hD hS ls hl => ?_)
            exact ih y6 y7 u8 _ _ hw hP hD hS ls (lv_sub hl [0, 1, 2, 3] rfl)
          · have hw := hw.2 hc
            refine lv_iload hx hb dX9_cheapest_45 (lv_at hl 0 rfl) ?_
            refine lv_aload_n hx hb dX9_cheapest_47 rfl (lv_at hl 1 rfl) ?_
            refine lv_iload_n hx hb dX9_cheapest_48 rfl (lv_at hl 3 rfl) ?_
            refine vp_callSi (va_Run.run (va_runV (As := [.int x2]) (rest := [.int r1]) ⟨hx, hb, hml, hown, hts⟩ (c_X9_priceOf l D q cI cJ cZ u x2 _ hw) (cwV 1 hts gX9_cheapest_X9_priceOf rfl rfl rfl (by decide +kernel) ⟨Nat.le_of_ble_eq_true rfl, Nat.le_of_ble_eq_true rfl⟩) (pvR (va_recv hK hP (ci := 9) (q0 := 0) (q := (RX9, TX9, 30)) rfl rfl) hK hP hN) rfl rfl hl.1 rfl (lv_room (Nat.le_of_ble_eq_true rfl)) dX9_cheapest_49 ⟨Nat.zero_le _, Nat.zero_le _⟩)) (fun r9 hw => ?_)
            refine lv_icmp_ne (tgt := 63) hx hb dX9_cheapest_52 (by decide) (fun hc => ?_) (fun hc => ?_)
            · have hw := hw.1 hc
              refine J63 x1 x2 x3 u _ _ hw hP hD hS ls (lv_sub hl [1, 2, 3, 4] rfl) (fun y10 y11 u12 H locs hw hP hD hS ls hl => ?_)
              exact ih y10 y11 u12 _ _ hw hP hD hS ls (lv_sub hl [0, 1, 2, 3] rfl)
            · have hw := hw.2 hc
              refine lv_iload_n hx hb dX9_cheapest_55 rfl (lv_at hl 4 rfl) ?_
              refine lv_iload_n hx hb dX9_cheapest_56 rfl (lv_at hl 3 rfl) ?_
              refine vp_callSi (va_Run.run (va_runS (As := [.int x3, .int x2]) (rest := []) ⟨hx, hb, hml, hown, hts⟩ (c_X9_isAhead l x3 x2 _ hw) (va_cwS 2 hts gX9_cheapest_X9_isAhead rfl rfl rfl (by decide +kernel) ⟨Nat.le_of_ble_eq_true rfl, Nat.le_of_ble_eq_true rfl⟩) (psS hN) rfl rfl hl.1 rfl (lv_room (Nat.le_of_ble_eq_true rfl)) dX9_cheapest_57 ⟨Nat.zero_le _, Nat.zero_le _⟩)) (fun r13 hw => ?_)
              refine lv_if_eq (tgt := 77) hx hb dX9_cheapest_60 (by decide) (fun hc => ?_) (fun hc => ?_)
              · have hw := hw.1 hc
                refine J77 x1 x2 x3 u _ _ hw hP hD hS ls (lv_sub hl [1, 2, 3, 4] rfl) (fun y14 y15 u16 H locs hw hP hD hS ls hl => ?_)
                exact ih y14 y15 u16 _ _ hw hP hD hS ls (lv_sub hl [0, 1, 2, 3] rfl)
              · have hw := hw.2 hc
                refine J63 x1 x2 x3 u _ _ hw hP hD hS ls (lv_sub hl [1, 2, 3, 4] rfl) (fun y17 y18 u19 H locs hw hP hD hS ls hl => ?_)
                exact ih y17 y18 u19 _ _ hw hP hD hS ls (lv_sub hl [0, 1, 2, 3] rfl)
  have hent := lg_entry_eq m ([.ref (q 0), .int x1]) 5
  rw [← hargs] at hent
  rw [hent]
  have hl := lv_entry ([.ref (q 0), .int x1]) (n := 5) (Nat.le_of_ble_eq_true rfl)
  generalize (lg_sl ([.ref (q 0), .int x1]) ++ List.replicate (5 - (lg_sl ([.ref (q 0), .int x1])).length) Slot.unset).toArray = ls at hl ⊢
  have hl : lv_has ls 5 [(0, .ref (q 0)), (1, .int x1)] := hl
  unfold wp_X9_cheapest at hw
  refine lv_iload_n hx hb dX9_cheapest_0 rfl (lv_at hl 1 rfl) ?_
  refine vp_callSi (va_Run.run (va_runS (As := [.int x1]) (rest := []) ⟨hx, hb, hml, hown, hts⟩ (c_X9_isShipping l x1 _ hw) (va_cwS 1 hts gX9_cheapest_X9_isShipping rfl rfl rfl (by decide +kernel) ⟨Nat.le_of_ble_eq_true rfl, Nat.le_of_ble_eq_true rfl⟩) (psS hN) rfl rfl hl.1 rfl (lv_room (Nat.le_of_ble_eq_true rfl)) dX9_cheapest_1 ⟨Nat.zero_le _, Nat.zero_le _⟩)) (fun r29 hw => ?_)
  refine lv_if_ne (tgt := 9) hx hb dX9_cheapest_4 (by decide) (fun hc => ?_) (fun hc => ?_)
  · have hw := hw.1 hc
    refine lv_iconst (v := (-1)) hx hb dX9_cheapest_9 (by decide) ?_
    refine lv_istore_n (lv' := [(2, .int (-1)), (0, .ref (q 0)), (1, .int x1)]) hx hb dX9_cheapest_10 rfl hl (by decide) rfl (fun ls hl => ?_)
    refine lv_iconst (v := 0) hx hb dX9_cheapest_11 (by decide) ?_
    refine lv_istore_n (lv' := [(3, .int 0), (2, .int (-1)), (0, .ref (q 0)), (1, .int x1)]) hx hb dX9_cheapest_12 rfl hl (by decide) rfl (fun ls hl => ?_)
    obtain ⟨nn, hw⟩ := hw
    refine L13 x1 nn (-1) 0 u _ _ hw hP hD hS ls (lv_sub hl [2, 3, 1, 0] rfl)
  · have hw := hw.2 hc
    refine lv_iconst (v := (-1)) hx hb dX9_cheapest_7 (by decide) ?_
    exact W.iret (v := (-1)) hx hb hr (fun t ht hW => ⟨⟨(-1), u, rfl, hw, by show va_P D vwCl _ t.heap; rw [ht]; exact hP⟩, hS.F ht⟩) hS.2.2 dX9_cheapest_8
set_option maxHeartbeats 4000000 in
set_option maxRecDepth 100000 in
theorem c_X8_price (l : Launch) (D : va_G) (q : Nat → Nat) (cI cJ cZ : ClassId) (u : WU) (x1 : Int32) (post : Int32 → Prop) (hw : wp_X8_price x1 u post) : Met l yX8_price wsX8_price rm_X8_price (va_Pc [.ref (q 0), .int x1] (RW D (ty3 cI cJ cZ) (wX q cI cJ cZ u))) (vp_Si post) 0 0 (fun _ => False) := by
  refine Met.ofW (cc := cX8_price) (maxL := 2) (ret := (some .int)) (by decide) rfl ?_
  intro p e s m args below meth c s₁ B hml hv
  obtain ⟨hargs, hP, hK, hN⟩ := hv
  have hx := B.exec
  have hb := B.bytes
  have hr := B.returns
  have hts := atoms_spec (ws := wsX8_price) B.pre
  have hown : s.vm.findClass RX8 = some m.cls := findClass_of_methodNamed B.named
  have hlocks := B.notSynchronized
  have hiX0 : ∀ w ∈ u_ws RX0 TX0 5, w ∈ wsX8_price := by decide +kernel
  have hiX8 : ∀ w ∈ u_ws RX8 TX8 8, w ∈ wsX8_price := by decide +kernel
  have hf33 := hts (.fieldLink RX8 33 "TermsDesk" "changes" "LTermsDesk$Changes;") (by decide +kernel)
  have hent := lg_entry_eq m ([.ref (q 0), .int x1]) 2
  rw [← hargs] at hent
  rw [hent]
  have hl := lv_entry ([.ref (q 0), .int x1]) (n := 2) (Nat.le_of_ble_eq_true rfl)
  generalize (lg_sl ([.ref (q 0), .int x1]) ++ List.replicate (2 - (lg_sl ([.ref (q 0), .int x1])).length) Slot.unset).toArray = ls at hl ⊢
  have hl : lv_has ls 2 [(0, .ref (q 0)), (1, .int x1)] := hl
  unfold wp_X8_price at hw
  refine lv_iload_n hx hb dX8_price_0 rfl (lv_at hl 1 rfl) ?_
  refine lv_iconst (v := 1) hx hb dX8_price_1 (by decide) ?_
  refine lv_aload_n hx hb dX8_price_2 rfl (lv_at hl 0 rfl) ?_
  refine va_get (D := D) (ci := 8) (v := .ref (q 4)) (C := RX8) (T := TX8) (N := 8) hx hb hts hiX8 hown hK hP 0 rfl rfl 3 (by decide) hf33 (fun _ h9 => h9) rfl dX8_price_3 ?_
  refine va_getN (D := D) (ci := 0) (v := .int (u.1 23 0)) (C := RX0) (T := TX0) (N := 5) hx hb hts hiX0 hown hK hP 4 rfl rfl 4 (by decide) (va_Nw.use rfl (nf_RX8_150 hN)) (fun _ h9 => h9) rfl dX8_price_6 ?_
  refine lv_ishl hx hb dX8_price_9 ?_
  refine vp_callSi (va_Run.run (va_runS (As := [.int x1, .int (1 <<< ((u.1 23 0) &&& 31))]) (rest := []) ⟨hx, hb, hml, hown, hts⟩ (c_X8_within l x1 (1 <<< ((u.1 23 0) &&& 31)) _ hw) (va_cwS 2 hts gX8_price_X8_within rfl rfl rfl (by decide +kernel) ⟨Nat.le_of_ble_eq_true rfl, Nat.le_of_ble_eq_true rfl⟩) (psS hN) rfl rfl hl.1 rfl (lv_room (Nat.le_of_ble_eq_true rfl)) dX8_price_10 ⟨Nat.zero_le _, Nat.zero_le _⟩)) (fun r1 hw => ?_)
  refine lv_if_eq (tgt := 27) hx hb dX8_price_13 (by decide) (fun hc => ?_) (fun hc => ?_)
  · have hw := hw.1 hc
    refine lv_iconst (v := (-1)) hx hb dX8_price_27 (by decide) ?_
    exact W.iret (v := (-1)) hx hb hr (fun t ht hW => ⟨(-1), rfl, hw, ht⟩) (fun _ h => by cases h) dX8_price_28
  · have hw := hw.2 hc
    refine lv_aload_n hx hb dX8_price_16 rfl (lv_at hl 0 rfl) ?_
    refine va_get (D := D) (ci := 8) (v := .ref (q 4)) (C := RX8) (T := TX8) (N := 8) hx hb hts hiX8 hown hK hP 0 rfl rfl 3 (by decide) hf33 (fun _ h9 => h9) rfl dX8_price_17 ?_
    refine lv_iload_n hx hb dX8_price_20 rfl (lv_at hl 1 rfl) ?_
    refine vp_callSi (va_Run.run (va_runV (As := [.int x1]) (rest := []) ⟨hx, hb, hml, hown, hts⟩ (c_X0_priceOf l D q cI cJ cZ u x1 _ hw) (cwV 1 hts gX8_price_X0_priceOf rfl rfl rfl (by decide +kernel) ⟨Nat.le_of_ble_eq_true rfl, Nat.le_of_ble_eq_true rfl⟩) (pvR (va_recv hK hP (ci := 0) (q0 := 4) (q := (RX0, TX0, 5)) rfl rfl) hK hP hN) rfl rfl hl.1 rfl (lv_room (Nat.le_of_ble_eq_true rfl)) dX8_price_21 ⟨Nat.zero_le _, Nat.zero_le _⟩)) (fun r2 hw => ?_)
    refine lv_goto (tgt := 28) hx hb dX8_price_24 (by decide) ?_
    exact W.iret (v := r2) hx hb hr (fun t ht hW => ⟨r2, rfl, hw, ht⟩) (fun _ h => by cases h) dX8_price_28
set_option maxHeartbeats 4000000 in
set_option maxRecDepth 100000 in
theorem c_X9_price (l : Launch) (D : va_G) (q : Nat → Nat) (cI cJ cZ : ClassId) (u : WU) (x1 : Int32) (post : Int32 → Prop) (hw : wp_X9_price x1 u post) : Met l yX9_price wsX9_price rm_X9_price (va_Pc [.ref (q 0), .int x1] (RW D (ty3 cI cJ cZ) (wM q cI cJ cZ u))) (vp_Si post) 0 0 (fun _ => False) := by
  refine Met.ofW (cc := cX9_price) (maxL := 2) (ret := (some .int)) (by decide) rfl ?_
  intro p e s m args below meth c s₁ B hml hv
  obtain ⟨hargs, hP, hK, hN⟩ := hv
  have hx := B.exec
  have hb := B.bytes
  have hr := B.returns
  have hts := atoms_spec (ws := wsX9_price) B.pre
  have hown : s.vm.findClass RX9 = some m.cls := findClass_of_methodNamed B.named
  have hlocks := B.notSynchronized
  have hiX9 : ∀ w ∈ u_ws RX9 TX9 30, w ∈ wsX9_price := by decide +kernel
  have hf121 := hts (.fieldLink RX9 121 "TermsDeskModel" "changes" "I") (by decide +kernel)
  have hent := lg_entry_eq m ([.ref (q 0), .int x1]) 2
  rw [← hargs] at hent
  rw [hent]
  have hl := lv_entry ([.ref (q 0), .int x1]) (n := 2) (Nat.le_of_ble_eq_true rfl)
  generalize (lg_sl ([.ref (q 0), .int x1]) ++ List.replicate (2 - (lg_sl ([.ref (q 0), .int x1])).length) Slot.unset).toArray = ls at hl ⊢
  have hl : lv_has ls 2 [(0, .ref (q 0)), (1, .int x1)] := hl
  unfold wp_X9_price at hw
  refine lv_iload_n hx hb dX9_price_0 rfl (lv_at hl 1 rfl) ?_
  refine lv_iconst (v := 0) hx hb dX9_price_1 (by decide) ?_
  refine lv_iconst (v := 1) hx hb dX9_price_2 (by decide) ?_
  refine lv_aload_n hx hb dX9_price_3 rfl (lv_at hl 0 rfl) ?_
  refine va_get (D := D) (ci := 9) (v := .int (u.1 24 0)) (C := RX9) (T := TX9) (N := 30) hx hb hts hiX9 hown hK hP 0 rfl rfl 14 (by decide) hf121 (fun _ h9 => h9) rfl dX9_price_4 ?_
  refine lv_ishl hx hb dX9_price_7 ?_
  refine lv_iconst (v := 1) hx hb dX9_price_8 (by decide) ?_
  refine lv_isub hx hb dX9_price_9 ?_
  refine vp_callSi (va_Run.run (va_runS (As := [.int x1, .int 0, .int ((1 <<< ((u.1 24 0) &&& 31)) - 1)]) (rest := []) ⟨hx, hb, hml, hown, hts⟩ (c_X9_lies l x1 0 ((1 <<< ((u.1 24 0) &&& 31)) - 1) _ hw) (va_cwS 3 hts gX9_price_X9_lies rfl rfl rfl (by decide +kernel) ⟨Nat.le_of_ble_eq_true rfl, Nat.le_of_ble_eq_true rfl⟩) (psS hN) rfl rfl hl.1 rfl (lv_room (Nat.le_of_ble_eq_true rfl)) dX9_price_10 ⟨Nat.zero_le _, Nat.zero_le _⟩)) (fun r1 hw => ?_)
  refine lv_if_eq (tgt := 24) hx hb dX9_price_13 (by decide) (fun hc => ?_) (fun hc => ?_)
  · have hw := hw.1 hc
    refine lv_iconst (v := (-1)) hx hb dX9_price_24 (by decide) ?_
    exact W.iret (v := (-1)) hx hb hr (fun t ht hW => ⟨(-1), rfl, hw, ht⟩) (fun _ h => by cases h) dX9_price_25
  · have hw := hw.2 hc
    refine lv_aload_n hx hb dX9_price_16 rfl (lv_at hl 0 rfl) ?_
    refine lv_iload_n hx hb dX9_price_17 rfl (lv_at hl 1 rfl) ?_
    refine vp_callSi (va_Run.run (va_runV (As := [.int x1]) (rest := []) ⟨hx, hb, hml, hown, hts⟩ (c_X9_priceOf l D q cI cJ cZ u x1 _ hw) (cwV 1 hts gX9_price_X9_priceOf rfl rfl rfl (by decide +kernel) ⟨Nat.le_of_ble_eq_true rfl, Nat.le_of_ble_eq_true rfl⟩) (pvR (va_recv hK hP (ci := 9) (q0 := 0) (q := (RX9, TX9, 30)) rfl rfl) hK hP hN) rfl rfl hl.1 rfl (lv_room (Nat.le_of_ble_eq_true rfl)) dX9_price_18 ⟨Nat.zero_le _, Nat.zero_le _⟩)) (fun r2 hw => ?_)
    refine lv_goto (tgt := 25) hx hb dX9_price_21 (by decide) ?_
    exact W.iret (v := r2) hx hb hr (fun t ht hW => ⟨r2, rfl, hw, ht⟩) (fun _ h => by cases h) dX9_price_25
set_option maxHeartbeats 4000000 in
set_option maxRecDepth 100000 in
theorem c_X7_goes (l : Launch) (D : va_G) (q : Nat → Nat) (cI cJ cZ : ClassId) (u : WU) (x1 : Int32) (x2 : Int32) (post : Int32 → Prop) (hw : wp_X7_goes x1 x2 u post) : Met l yX7_goes wsX7_goes rm_X7_goes (va_Pc [.ref (q 8), .int x1, .int x2] (RW D (ty3 cI cJ cZ) (wX q cI cJ cZ u))) (vp_Si post) 0 0 (fun _ => False) := by
  refine Met.ofW (cc := cX7_goes) (maxL := 3) (ret := (some .boolean)) (by decide) rfl ?_
  intro p e s m args below meth c s₁ B hml hv
  obtain ⟨hargs, hP, hK, hN⟩ := hv
  have hx := B.exec
  have hb := B.bytes
  have hr := B.returns
  have hts := atoms_spec (ws := wsX7_goes) B.pre
  have hown : s.vm.findClass RX7 = some m.cls := findClass_of_methodNamed B.named
  have hlocks := B.notSynchronized
  have hiX3 : ∀ w ∈ u_ws RX3 TX3 9, w ∈ wsX7_goes := by decide +kernel
  have hiX6 : ∀ w ∈ u_ws RX6 TX6 3, w ∈ wsX7_goes := by decide +kernel
  have hiX7 : ∀ w ∈ u_ws RX7 TX7 5, w ∈ wsX7_goes := by decide +kernel
  have hf15 := hts (.fieldLink RX7 15 "TermsDesk$Tracer" "terms" "LTermsDesk$Terms;") (by decide +kernel)
  have hf23 := hts (.fieldLink RX7 23 "TermsDesk$Tracer" "joins" "LTermsDesk$Joins;") (by decide +kernel)
  have hi_RX8 := hts (.initialized RX8) (by decide +kernel)
  have hs_X8_holds := hts (.static yX8_holds) (by decide +kernel)
  have hent := lg_entry_eq m ([.ref (q 8), .int x1, .int x2]) 3
  rw [← hargs] at hent
  rw [hent]
  have hl := lv_entry ([.ref (q 8), .int x1, .int x2]) (n := 3) (Nat.le_of_ble_eq_true rfl)
  generalize (lg_sl ([.ref (q 8), .int x1, .int x2]) ++ List.replicate (3 - (lg_sl ([.ref (q 8), .int x1, .int x2])).length) Slot.unset).toArray = ls at hl ⊢
  have hl : lv_has ls 3 [(0, .ref (q 8)), (1, .int x1), (2, .int x2)] := hl
  unfold wp_X7_goes at hw
  refine lv_aload_n hx hb dX7_goes_0 rfl (lv_at hl 0 rfl) ?_
  refine va_get (D := D) (ci := 7) (v := .ref (q 1)) (C := RX7) (T := TX7) (N := 5) hx hb hts hiX7 hown hK hP 8 rfl rfl 0 (by decide) hf15 (fun _ h9 => h9) rfl dX7_goes_1 ?_
  refine va_getN (D := D) (ci := 6) (v := .ref (q 10)) (C := RX6) (T := TX6) (N := 3) hx hb hts hiX6 hown hK hP 1 rfl rfl 1 (by decide) (va_Nw.use rfl (nf_RX7_71 hN)) (fun _ h9 => h9) rfl dX7_goes_4 ?_
  refine lv_aload_n hx hb dX7_goes_7 rfl (lv_at hl 0 rfl) ?_
  refine va_get (D := D) (ci := 7) (v := .ref (q 3)) (C := RX7) (T := TX7) (N := 5) hx hb hts hiX7 hown hK hP 8 rfl rfl 2 (by decide) hf23 (fun _ h9 => h9) rfl dX7_goes_8 ?_
  refine va_getN (D := D) (ci := 3) (v := .ref (q 18)) (C := RX3) (T := TX3) (N := 9) hx hb hts hiX3 hown hK hP 3 rfl rfl 2 (by decide) (va_Nw.use rfl (nf_RX7_77 hN)) (fun _ h9 => h9) rfl dX7_goes_11 ?_
  refine lv_iload_n hx hb dX7_goes_14 rfl (lv_at hl 2 rfl) ?_
  obtain ⟨hin, hw⟩ := hw
  refine va_iald hx hb hK hP 18 0 rfl rfl hin dX7_goes_15 ?_
  obtain ⟨hin, hw⟩ := hw
  refine va_lald hx hb hK hP 10 1 rfl rfl hin dX7_goes_16 ?_
  refine lv_iload_n hx hb dX7_goes_17 rfl (lv_at hl 1 rfl) ?_
  refine vp_callSi (va_Run.run (va_runSN (As := [.long (u.2 1 (u.1 5 x2.toNatClampNeg).toNatClampNeg), .int x1]) (rest := []) ⟨hx, hb, hml, hown, hts⟩ (c_X8_holds l (u.2 1 (u.1 5 x2.toNatClampNeg).toNatClampNeg) x1 _ hw) ⟨va_cnB 2 hts ggX7_goes_X8_holds rfl rfl rfl (nm_RX7_67 hN) hi_RX8 (by decide +kernel) ⟨Nat.le_of_ble_eq_true rfl, Nat.le_of_ble_eq_true rfl⟩, hs_X8_holds, trivial⟩ (psS hN) rfl rfl hl.1 rfl (lv_room (Nat.le_of_ble_eq_true rfl)) dX7_goes_18 ⟨Nat.zero_le _, Nat.zero_le _⟩)) (fun r1 hw => ?_)
  obtain ⟨hn, hw⟩ := hw
  exact W.zret (v := r1) hx hb hr hn (fun t ht hW => ⟨r1, rfl, hw, ht⟩) (fun _ h => by cases h) dX7_goes_21
