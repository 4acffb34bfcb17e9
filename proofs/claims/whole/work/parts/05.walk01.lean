set_option maxHeartbeats 4000000 in
set_option maxRecDepth 100000 in
theorem c_X6_tellBars (l : Launch) (D : va_G) (q : Nat → Nat) (cI cJ cZ : ClassId) (sz : Nat) (u : WU) (x1 : Int32) (x2 : Int32) (post : WU → Prop) (hw : wp_X6_tellBars x1 x2 u post) : Met l yX6_tellBars wsX6_tellBars rm_X6_tellBars (va_Pc [.ref (q 1), .int x1, .int x2] (MW D (ty3 cI cJ cZ) (wX q cI cJ cZ u) sz)) (va_Qv post (fun u' t => va_P D vwCl (wX q cI cJ cZ u') t.heap) (va_A (wX q cI cJ cZ u00) sz)) 0 0 (va_A (wX q cI cJ cZ u00) sz) := by
  refine Met.ofW (cc := cX6_tellBars) (maxL := 6) (ret := none) (by decide) rfl ?_
  intro p e s m args below meth c s₁ B hml hv
  obtain ⟨hargs, hsz, hP, hK, hD0, hN⟩ := hv
  have hx := B.exec
  have hb := B.bytes
  have hr := B.returns
  have hts := atoms_spec (ws := wsX6_tellBars) B.pre
  have hown : s.vm.findClass RX6 = some m.cls := findClass_of_methodNamed B.named
  have hlocks := B.notSynchronized
  subst hsz
  have hD := shw_self (sz := s.heap.size) (sh_wX q cI cJ cZ) hD0
  have hA : ∀ a : Nat, s.heap.size ≤ a → va_A (wX q cI cJ cZ u00) s.heap.size a := fun _ h => Or.inr h
  have hS : va_S (va_A (wX q cI cJ cZ u00) s.heap.size) s.heap s.heap [] := va_S.rf
  have hiX6 : ∀ w ∈ u_ws RX6 TX6 3, w ∈ wsX6_tellBars := by decide +kernel
  have hf18 := hts (.fieldLink RX6 18 "TermsDesk$Terms" "fought" "[J") (by decide +kernel)
  have hi_RX8 := hts (.initialized RX8) (by decide +kernel)
  have hs_X8_pairOf := hts (.static yX8_pairOf) (by decide +kernel)
  have J30 : ∀ {K5 : Int64 → Int32 → WU → Prop} (x1 : Int32) (x2 : Int32) (x3 : Int64) (x5 : Int32) (u : WU) (H : Heap) (locs : List Loc), wp_X6_tellBars_J30 x1 x2 x3 x5 u post K5 → va_P D vwCl (wX q cI cJ cZ u) H → va_D (va_A (wX q cI cJ cZ u00) s.heap.size) (wX q cI cJ cZ u) → va_S (va_A (wX q cI cJ cZ u00) s.heap.size) s.heap H locs → ∀ ls : Array Slot, lv_has ls 6 [(0, .ref (q 1)), (1, .int x1), (2, .int x2), (3, .long x3), (5, .int x5)] → (∀ (x3 : Int64) (x5 : Int32) (u : WU) (H : Heap) (locs : List Loc), K5 x3 x5 u → va_P D vwCl (wX q cI cJ cZ u) H → va_D (va_A (wX q cI cJ cZ u00) s.heap.size) (wX q cI cJ cZ u) → va_S (va_A (wX q cI cJ cZ u00) s.heap.size) s.heap H locs → ∀ ls : Array Slot, lv_has ls 6 [(0, .ref (q 1)), (1, .int x1), (2, .int x2), (3, .long x3), (5, .int x5)] → W p l e (headSpec wsX6_tellBars rm_X6_tellBars).room s m args below meth c H locs 0 0 (MQ below (va_Qv post (fun u' t => va_P D vwCl (wX q cI cJ cZ u') t.heap) (va_A (wX q cI cJ cZ u00) s.heap.size)) args s 0 0 (va_A (wX q cI cJ cZ u00) s.heap.size)) (F0 m 5 ls [])) → W p l e (headSpec wsX6_tellBars rm_X6_tellBars).room s m args below meth c H locs 0 0 (MQ below (va_Qv post (fun u' t => va_P D vwCl (wX q cI cJ cZ u') t.heap) (va_A (wX q cI cJ cZ u00) s.heap.size)) args s 0 0 (va_A (wX q cI cJ cZ u00) s.heap.size)) (F0 m 30 ls []) := by
    intro K5 x1 x2 x3 x5 u H locs hw hP hD hS ls hl k5
    unfold wp_X6_tellBars_J30 at hw
    obtain ⟨y10, ey10⟩ : ∃ z : Int32, z = x5 + 1 := ⟨_, rfl⟩
    have hw := hw y10 ey10
    refine lv_iinc (v := y10) (lv' := [(5, .int y10), (0, .ref (q 1)), (1, .int x1), (2, .int x2), (3, .long x3)]) hx hb dX6_tellBars_30 hl (k := 4) rfl (by rw [ey10]; rfl) (by decide) rfl (fun ls hl => ?_)
    refine lv_goto (tgt := 5) hx hb dX6_tellBars_33 (by decide) ?_
    exact k5 x3 y10 u _ _ hw hP hD hS ls (lv_sub hl [1, 2, 3, 4, 0] rfl)
  have L5 : ∀ (x1 : Int32) (x2 : Int32) (n : Nat) (x3 : Int64) (x5 : Int32) (u : WU) (H : Heap) (locs : List Loc), wp_X6_tellBars_L5 x1 x2 post n x3 x5 u → va_P D vwCl (wX q cI cJ cZ u) H → va_D (va_A (wX q cI cJ cZ u00) s.heap.size) (wX q cI cJ cZ u) → va_S (va_A (wX q cI cJ cZ u00) s.heap.size) s.heap H locs → ∀ ls : Array Slot, lv_has ls 6 [(0, .ref (q 1)), (1, .int x1), (2, .int x2), (3, .long x3), (5, .int x5)] → W p l e (headSpec wsX6_tellBars rm_X6_tellBars).room s m args below meth c H locs 0 0 (MQ below (va_Qv post (fun u' t => va_P D vwCl (wX q cI cJ cZ u') t.heap) (va_A (wX q cI cJ cZ u00) s.heap.size)) args s 0 0 (va_A (wX q cI cJ cZ u00) s.heap.size)) (F0 m 5 ls []) := by
    intro x1 x2 n
    induction n with
    | zero =>
      intro x3 x5 u H locs hw
      exact hw.elim
    | succ n ih =>
      intro x3 x5 u H locs hw hP hD hS ls hl 
      unfold wp_X6_tellBars_L5 at hw
      refine lv_iload hx hb dX6_tellBars_5 (lv_at hl 4 rfl) ?_
      refine lv_bipush (v := 8) hx hb dX6_tellBars_7 (by decide) ?_
      refine lv_icmp_ge (tgt := 36) hx hb dX6_tellBars_9 (by decide) (fun hc => ?_) (fun hc => ?_)
      · have hw := hw.1 hc
        refine lv_aload_n hx hb dX6_tellBars_36 rfl (lv_at hl 0 rfl) ?_
        refine va_get (D := D) (ci := 6) (v := .ref (q 11)) (C := RX6) (T := TX6) (N := 3) hx hb hts hiX6 hown hK hP 1 rfl rfl 2 (by decide) hf18 (fun _ h9 => h9) rfl dX6_tellBars_37 ?_
        refine lv_iload_n hx hb dX6_tellBars_40 rfl (lv_at hl 1 rfl) ?_
        refine lv_lload_n hx hb dX6_tellBars_41 rfl (lv_at hl 3 rfl) ?_
        obtain ⟨hin, hw⟩ := hw
        refine sLast (w := wX q cI cJ cZ) hx hb hK hP hD hS 11 1 2 rfl rfl (wXa_11 q cI cJ cZ u) hin dX6_tellBars_42 (fun u1 H locs eu1 hP hD hS => ?_)
        have hw := hw u1 eu1
        exact W.vret hx hb hr (fun t ht hW => ⟨⟨u1, rfl, hw, by show va_P D vwCl _ t.heap; rw [ht]; exact hP⟩, hS.F ht⟩) hS.2.2 dX6_tellBars_43
      · have hw := hw.2 hc
        refine lv_iload hx hb dX6_tellBars_12 (lv_at hl 4 rfl) ?_
        refine lv_iload_n hx hb dX6_tellBars_14 rfl (lv_at hl 1 rfl) ?_
        refine lv_icmp_eq (tgt := 30) hx hb dX6_tellBars_15 (by decide) (fun hc => ?_) (fun hc => ?_)
        · have hw := hw.1 hc
          refine J30 x1 x2 x3 x5 u _ _ hw hP hD hS ls (lv_sub hl [0, 1, 2, 3, 4] rfl) (fun y2 y3 u4 H locs hw hP hD hS ls hl => ?_)
          exact ih y2 y3 u4 _ _ hw hP hD hS ls (lv_sub hl [0, 1, 2, 3, 4] rfl)
        · have hw := hw.2 hc
          refine lv_lload_n hx hb dX6_tellBars_18 rfl (lv_at hl 3 rfl) ?_
          refine lv_iload_n hx hb dX6_tellBars_19 rfl (lv_at hl 2 rfl) ?_
          refine lv_i2l (v := x2.toInt64) hx hb dX6_tellBars_20 rfl ?_
          refine lv_iload hx hb dX6_tellBars_21 (lv_at hl 4 rfl) ?_
          refine lv_iconst (v := 0) hx hb dX6_tellBars_23 (by decide) ?_
          refine vp_callSi (va_Run.run (va_runSN (As := [.int x5, .int 0]) (rest := [.long x2.toInt64, .long x3]) ⟨hx, hb, hml, hown, hts⟩ (c_X8_pairOf l x5 0 _ hw) ⟨va_cnB 2 hts ggX6_tellBars_X8_pairOf rfl rfl rfl (nm_RX6_31 hN) hi_RX8 (by decide +kernel) ⟨Nat.le_of_ble_eq_true rfl, Nat.le_of_ble_eq_true rfl⟩, hs_X8_pairOf, trivial⟩ (psS hN) rfl rfl hl.1 rfl (lv_room (Nat.le_of_ble_eq_true rfl)) dX6_tellBars_24 ⟨Nat.zero_le _, Nat.zero_le _⟩)) (fun r5 hw => ?_)
          refine lv_lshl (v := jshl x2.toInt64 r5) hx hb dX6_tellBars_27 rfl ?_
          refine lv_lor hx hb dX6_tellBars_28 ?_
          refine lv_topl (fun y6 ey6 => ?_)
          have hw := hw y6 ey6
          refine lv_lstore_n (lv' := [(3, .long y6), (0, .ref (q 1)), (1, .int x1), (2, .int x2), (5, .int x5)]) hx hb dX6_tellBars_29 rfl hl (by decide) rfl (fun ls hl => ?_)
          refine J30 x1 x2 y6 x5 u _ _ hw hP hD hS ls (lv_sub hl [1, 2, 3, 0, 4] rfl) (fun y7 y8 u9 H locs hw hP hD hS ls hl => ?_)
          exact ih y7 y8 u9 _ _ hw hP hD hS ls (lv_sub hl [0, 1, 2, 3, 4] rfl)
  have hent := lg_entry_eq m ([.ref (q 1), .int x1, .int x2]) 6
  rw [← hargs] at hent
  rw [hent]
  have hl := lv_entry ([.ref (q 1), .int x1, .int x2]) (n := 6) (Nat.le_of_ble_eq_true rfl)
  generalize (lg_sl ([.ref (q 1), .int x1, .int x2]) ++ List.replicate (6 - (lg_sl ([.ref (q 1), .int x1, .int x2])).length) Slot.unset).toArray = ls at hl ⊢
  have hl : lv_has ls 6 [(0, .ref (q 1)), (1, .int x1), (2, .int x2)] := hl
  unfold wp_X6_tellBars at hw
  refine lv_lconst (v := 0) hx hb dX6_tellBars_0 (by decide) ?_
  refine lv_lstore_n (lv' := [(3, .long 0), (0, .ref (q 1)), (1, .int x1), (2, .int x2)]) hx hb dX6_tellBars_1 rfl hl (by decide) rfl (fun ls hl => ?_)
  refine lv_iconst (v := 0) hx hb dX6_tellBars_2 (by decide) ?_
  refine lv_istore (lv' := [(5, .int 0), (3, .long 0), (0, .ref (q 1)), (1, .int x1), (2, .int x2)]) hx hb dX6_tellBars_3 hl (by decide) rfl (fun ls hl => ?_)
  obtain ⟨nn, hw⟩ := hw
  refine L5 x1 x2 nn 0 0 u _ _ hw hP hD hS ls (lv_sub hl [2, 3, 4, 1, 0] rfl)
set_option maxHeartbeats 4000000 in
set_option maxRecDepth 100000 in
theorem c_X8_bars (l : Launch) (D : va_G) (q : Nat → Nat) (cI cJ cZ : ClassId) (sz : Nat) (u : WU) (x1 : Int32) (x2 : Int32) (post : Int32 → WU → Prop) (hw : wp_X8_bars x1 x2 u post) : Met l yX8_bars wsX8_bars rm_X8_bars (va_Pc [.ref (q 0), .int x1, .int x2] (MW D (ty3 cI cJ cZ) (wX q cI cJ cZ u) sz)) (va_Qi post (fun u' t => va_P D vwCl (wX q cI cJ cZ u') t.heap) (va_A (wX q cI cJ cZ u00) sz)) 0 0 (va_A (wX q cI cJ cZ u00) sz) := by
  refine Met.ofW (cc := cX8_bars) (maxL := 3) (ret := (some .boolean)) (by decide) rfl ?_
  intro p e s m args below meth c s₁ B hml hv
  obtain ⟨hargs, hsz, hP, hK, hD0, hN⟩ := hv
  have hx := B.exec
  have hb := B.bytes
  have hr := B.returns
  have hts := atoms_spec (ws := wsX8_bars) B.pre
  have hown : s.vm.findClass RX8 = some m.cls := findClass_of_methodNamed B.named
  have hlocks := B.notSynchronized
  subst hsz
  have hD := shw_self (sz := s.heap.size) (sh_wX q cI cJ cZ) hD0
  have hA : ∀ a : Nat, s.heap.size ≤ a → va_A (wX q cI cJ cZ u00) s.heap.size a := fun _ h => Or.inr h
  have hS : va_S (va_A (wX q cI cJ cZ u00) s.heap.size) s.heap s.heap [] := va_S.rf
  have hiX8 : ∀ w ∈ u_ws RX8 TX8 8, w ∈ wsX8_bars := by decide +kernel
  have hf12 := hts (.fieldLink RX8 12 "TermsDesk" "terms" "LTermsDesk$Terms;") (by decide +kernel)
  have hent := lg_entry_eq m ([.ref (q 0), .int x1, .int x2]) 3
  rw [← hargs] at hent
  rw [hent]
  have hl := lv_entry ([.ref (q 0), .int x1, .int x2]) (n := 3) (Nat.le_of_ble_eq_true rfl)
  generalize (lg_sl ([.ref (q 0), .int x1, .int x2]) ++ List.replicate (3 - (lg_sl ([.ref (q 0), .int x1, .int x2])).length) Slot.unset).toArray = ls at hl ⊢
  have hl : lv_has ls 3 [(0, .ref (q 0)), (1, .int x1), (2, .int x2)] := hl
  unfold wp_X8_bars at hw
  refine lv_iload_n hx hb dX8_bars_0 rfl (lv_at hl 1 rfl) ?_
  refine lv_bipush (v := 8) hx hb dX8_bars_1 (by decide) ?_
  refine vp_callSi (va_Run.run (va_runS (As := [.int x1, .int 8]) (rest := []) ⟨hx, hb, hml, hown, hts⟩ (c_X8_within l x1 8 _ hw) (va_cwS 2 hts gX8_bars_X8_within rfl rfl rfl (by decide +kernel) ⟨Nat.le_of_ble_eq_true rfl, Nat.le_of_ble_eq_true rfl⟩) (psS hN) rfl rfl hl.1 rfl (lv_room (Nat.le_of_ble_eq_true rfl)) dX8_bars_3 ⟨Nat.zero_le _, Nat.zero_le _⟩)) (fun r1 hw => ?_)
  refine lv_if_eq (tgt := 19) hx hb dX8_bars_6 (by decide) (fun hc => ?_) (fun hc => ?_)
  · have hw := hw.1 hc
    refine lv_iconst (v := 0) hx hb dX8_bars_19 (by decide) ?_
    exact W.zret (v := 0) hx hb hr rfl (fun t ht hW => ⟨⟨0, u, rfl, hw, by show va_P D vwCl _ t.heap; rw [ht]; exact hP⟩, hS.F ht⟩) hS.2.2 dX8_bars_20
  · have hw := hw.2 hc
    refine lv_iload_n hx hb dX8_bars_9 rfl (lv_at hl 2 rfl) ?_
    refine lv_sipush (v := 256) hx hb dX8_bars_10 (by decide) ?_
    refine vp_callSi (va_Run.run (va_runS (As := [.int x2, .int 256]) (rest := []) ⟨hx, hb, hml, hown, hts⟩ (c_X8_within l x2 256 _ hw) (va_cwS 2 hts gX8_bars_X8_within rfl rfl rfl (by decide +kernel) ⟨Nat.le_of_ble_eq_true rfl, Nat.le_of_ble_eq_true rfl⟩) (psS hN) rfl rfl hl.1 rfl (lv_room (Nat.le_of_ble_eq_true rfl)) dX8_bars_13 ⟨Nat.zero_le _, Nat.zero_le _⟩)) (fun r2 hw => ?_)
    refine lv_if_ne (tgt := 21) hx hb dX8_bars_16 (by decide) (fun hc => ?_) (fun hc => ?_)
    · have hw := hw.1 hc
      refine lv_aload_n hx hb dX8_bars_21 rfl (lv_at hl 0 rfl) ?_
      refine va_get (D := D) (ci := 8) (v := .ref (q 1)) (C := RX8) (T := TX8) (N := 8) hx hb hts hiX8 hown hK hP 0 rfl rfl 0 (by decide) hf12 (fun _ h9 => h9) rfl dX8_bars_22 ?_
      refine lv_iload_n hx hb dX8_bars_25 rfl (lv_at hl 1 rfl) ?_
      refine lv_iload_n hx hb dX8_bars_26 rfl (lv_at hl 2 rfl) ?_
      refine cMv (sh_wX q cI cJ cZ) (u := u) (va_runV (As := [.int x1, .int x2]) (rest := []) ⟨hx, hb, hml, hown, hts⟩ (c_X6_tellBars l D q cI cJ cZ _ u x1 x2 _ hw) (cwV 2 hts gX8_bars_X6_tellBars rfl rfl rfl (by decide +kernel) ⟨Nat.le_of_ble_eq_true rfl, Nat.le_of_ble_eq_true rfl⟩) (pvM (va_recv hK hP (ci := 6) (q0 := 1) (q := (RX6, TX6, 3)) rfl rfl) hK hP hD hN) rfl rfl hl.1 rfl (lv_room (Nat.le_of_ble_eq_true rfl)) dX8_bars_27 ⟨Nat.zero_le _, Nat.zero_le _⟩) hA hD hS (fun u3 H locs hw hP hD hS => ?_)
      refine lv_iconst (v := 1) hx hb dX8_bars_30 (by decide) ?_
      exact W.zret (v := 1) hx hb hr rfl (fun t ht hW => ⟨⟨1, u3, rfl, hw, by show va_P D vwCl _ t.heap; rw [ht]; exact hP⟩, hS.F ht⟩) hS.2.2 dX8_bars_31
    · have hw := hw.2 hc
      refine lv_iconst (v := 0) hx hb dX8_bars_19 (by decide) ?_
      exact W.zret (v := 0) hx hb hr rfl (fun t ht hW => ⟨⟨0, u, rfl, hw, by show va_P D vwCl _ t.heap; rw [ht]; exact hP⟩, hS.F ht⟩) hS.2.2 dX8_bars_20
set_option maxHeartbeats 4000000 in
set_option maxRecDepth 100000 in
theorem c_X9_bars (l : Launch) (D : va_G) (q : Nat → Nat) (cI cJ cZ : ClassId) (sz : Nat) (u : WU) (x1 : Int32) (x2 : Int32) (post : Int32 → WU → Prop) (hw : wp_X9_bars x1 x2 u post) : Met l yX9_bars wsX9_bars rm_X9_bars (va_Pc [.ref (q 0), .int x1, .int x2] (MW D (ty3 cI cJ cZ) (wM q cI cJ cZ u) sz)) (va_Qi post (fun u' t => va_P D vwCl (wM q cI cJ cZ u') t.heap) (va_A (wM q cI cJ cZ u00) sz)) 0 0 (va_A (wM q cI cJ cZ u00) sz) := by
  refine Met.ofW (cc := cX9_bars) (maxL := 3) (ret := (some .boolean)) (by decide) rfl ?_
  intro p e s m args below meth c s₁ B hml hv
  obtain ⟨hargs, hsz, hP, hK, hD0, hN⟩ := hv
  have hx := B.exec
  have hb := B.bytes
  have hr := B.returns
  have hts := atoms_spec (ws := wsX9_bars) B.pre
  have hown : s.vm.findClass RX9 = some m.cls := findClass_of_methodNamed B.named
  have hlocks := B.notSynchronized
  subst hsz
  have hD := shw_self (sz := s.heap.size) (sh_wM q cI cJ cZ) hD0
  have hA : ∀ a : Nat, s.heap.size ≤ a → va_A (wM q cI cJ cZ u00) s.heap.size a := fun _ h => Or.inr h
  have hS : va_S (va_A (wM q cI cJ cZ u00) s.heap.size) s.heap s.heap [] := va_S.rf
  have hiX9 : ∀ w ∈ u_ws RX9 TX9 30, w ∈ wsX9_bars := by decide +kernel
  have hf17 := hts (.fieldLink RX9 17 "TermsDeskModel" "barred" "[I") (by decide +kernel)
  have hent := lg_entry_eq m ([.ref (q 0), .int x1, .int x2]) 3
  rw [← hargs] at hent
  rw [hent]
  have hl := lv_entry ([.ref (q 0), .int x1, .int x2]) (n := 3) (Nat.le_of_ble_eq_true rfl)
  generalize (lg_sl ([.ref (q 0), .int x1, .int x2]) ++ List.replicate (3 - (lg_sl ([.ref (q 0), .int x1, .int x2])).length) Slot.unset).toArray = ls at hl ⊢
  have hl : lv_has ls 3 [(0, .ref (q 0)), (1, .int x1), (2, .int x2)] := hl
  unfold wp_X9_bars at hw
  refine lv_iload_n hx hb dX9_bars_0 rfl (lv_at hl 1 rfl) ?_
  refine vp_callSi (va_Run.run (va_runS (As := [.int x1]) (rest := []) ⟨hx, hb, hml, hown, hts⟩ (c_X9_isLicence l x1 _ hw) (va_cwS 1 hts gX9_bars_X9_isLicence rfl rfl rfl (by decide +kernel) ⟨Nat.le_of_ble_eq_true rfl, Nat.le_of_ble_eq_true rfl⟩) (psS hN) rfl rfl hl.1 rfl (lv_room (Nat.le_of_ble_eq_true rfl)) dX9_bars_1 ⟨Nat.zero_le _, Nat.zero_le _⟩)) (fun r1 hw => ?_)
  refine lv_if_eq (tgt := 18) hx hb dX9_bars_4 (by decide) (fun hc => ?_) (fun hc => ?_)
  · have hw := hw.1 hc
    refine lv_iconst (v := 0) hx hb dX9_bars_18 (by decide) ?_
    exact W.zret (v := 0) hx hb hr rfl (fun t ht hW => ⟨⟨0, u, rfl, hw, by show va_P D vwCl _ t.heap; rw [ht]; exact hP⟩, hS.F ht⟩) hS.2.2 dX9_bars_19
  · have hw := hw.2 hc
    refine lv_iload_n hx hb dX9_bars_7 rfl (lv_at hl 2 rfl) ?_
    refine lv_iconst (v := 0) hx hb dX9_bars_8 (by decide) ?_
    refine lv_sipush (v := 255) hx hb dX9_bars_9 (by decide) ?_
    refine vp_callSi (va_Run.run (va_runS (As := [.int x2, .int 0, .int 255]) (rest := []) ⟨hx, hb, hml, hown, hts⟩ (c_X9_lies l x2 0 255 _ hw) (va_cwS 3 hts gX9_bars_X9_lies rfl rfl rfl (by decide +kernel) ⟨Nat.le_of_ble_eq_true rfl, Nat.le_of_ble_eq_true rfl⟩) (psS hN) rfl rfl hl.1 rfl (lv_room (Nat.le_of_ble_eq_true rfl)) dX9_bars_12 ⟨Nat.zero_le _, Nat.zero_le _⟩)) (fun r2 hw => ?_)
    refine lv_if_ne (tgt := 20) hx hb dX9_bars_15 (by decide) (fun hc => ?_) (fun hc => ?_)
    · have hw := hw.1 hc
      refine lv_aload_n hx hb dX9_bars_20 rfl (lv_at hl 0 rfl) ?_
      refine va_get (D := D) (ci := 9) (v := .ref (q 3)) (C := RX9) (T := TX9) (N := 30) hx hb hts hiX9 hown hK hP 0 rfl rfl 2 (by decide) hf17 (fun _ h9 => h9) rfl dX9_bars_21 ?_
      refine lv_iload_n hx hb dX9_bars_24 rfl (lv_at hl 1 rfl) ?_
      refine lv_iload_n hx hb dX9_bars_25 rfl (lv_at hl 2 rfl) ?_
      obtain ⟨hin, hw⟩ := hw
      refine sIast (w := wM q cI cJ cZ) hx hb hK hP hD hS 3 0 1 rfl rfl (wMa_3 q cI cJ cZ u) hin dX9_bars_26 (fun u3 H locs eu3 hP hD hS => ?_)
      have hw := hw u3 eu3
      refine lv_iconst (v := 1) hx hb dX9_bars_27 (by decide) ?_
      exact W.zret (v := 1) hx hb hr rfl (fun t ht hW => ⟨⟨1, u3, rfl, hw, by show va_P D vwCl _ t.heap; rw [ht]; exact hP⟩, hS.F ht⟩) hS.2.2 dX9_bars_28
    · have hw := hw.2 hc
      refine lv_iconst (v := 0) hx hb dX9_bars_18 (by decide) ?_
      exact W.zret (v := 0) hx hb hr rfl (fun t ht hW => ⟨⟨0, u, rfl, hw, by show va_P D vwCl _ t.heap; rw [ht]; exact hP⟩, hS.F ht⟩) hS.2.2 dX9_bars_19
set_option maxHeartbeats 4000000 in
set_option maxRecDepth 100000 in
theorem c_X8_isRowOfChoices (l : Launch) (x0 : Int32) (x1 : Int32) (x2 : Int32) (post : Int32 → Prop) (hw : wp_X8_isRowOfChoices x0 x1 x2 post) : Met l yX8_isRowOfChoices wsX8_isRowOfChoices rm_X8_isRowOfChoices (va_Pc [.int x0, .int x1, .int x2] NW) (vp_Si post) 0 0 (fun _ => False) := by
  refine Met.ofW (cc := cX8_isRowOfChoices) (maxL := 3) (ret := (some .boolean)) (by decide) rfl ?_
  intro p e s m args below meth c s₁ B hml hv
  obtain ⟨hargs, hN⟩ := hv
  have hx := B.exec
  have hb := B.bytes
  have hr := B.returns
  have hts := atoms_spec (ws := wsX8_isRowOfChoices) B.pre
  have hown : s.vm.findClass RX8 = some m.cls := findClass_of_methodNamed B.named
  have hlocks := B.notSynchronized
  have hent := lg_entry_eq m ([.int x0, .int x1, .int x2]) 3
  rw [← hargs] at hent
  rw [hent]
  have hl := lv_entry ([.int x0, .int x1, .int x2]) (n := 3) (Nat.le_of_ble_eq_true rfl)
  generalize (lg_sl ([.int x0, .int x1, .int x2]) ++ List.replicate (3 - (lg_sl ([.int x0, .int x1, .int x2])).length) Slot.unset).toArray = ls at hl ⊢
  have hl : lv_has ls 3 [(0, .int x0), (1, .int x1), (2, .int x2)] := hl
  unfold wp_X8_isRowOfChoices at hw
  refine lv_iload_n hx hb dX8_isRowOfChoices_0 rfl (lv_at hl 0 rfl) ?_
  refine lv_bipush (v := 8) hx hb dX8_isRowOfChoices_1 (by decide) ?_
  refine vp_callSi (va_Run.run (va_runS (As := [.int x0, .int 8]) (rest := []) ⟨hx, hb, hml, hown, hts⟩ (c_X8_within l x0 8 _ hw) (va_cwS 2 hts gX8_isRowOfChoices_X8_within rfl rfl rfl (by decide +kernel) ⟨Nat.le_of_ble_eq_true rfl, Nat.le_of_ble_eq_true rfl⟩) (psS hN) rfl rfl hl.1 rfl (lv_room (Nat.le_of_ble_eq_true rfl)) dX8_isRowOfChoices_3 ⟨Nat.zero_le _, Nat.zero_le _⟩)) (fun r1 hw => ?_)
  refine lv_if_ne (tgt := 11) hx hb dX8_isRowOfChoices_6 (by decide) (fun hc => ?_) (fun hc => ?_)
  · have hw := hw.1 hc
    refine lv_iload_n hx hb dX8_isRowOfChoices_11 rfl (lv_at hl 1 rfl) ?_
    refine lv_iconst (v := (-1)) hx hb dX8_isRowOfChoices_12 (by decide) ?_
    refine lv_icmp_ne (tgt := 27) hx hb dX8_isRowOfChoices_13 (by decide) (fun hc => ?_) (fun hc => ?_)
    · have hw := hw.1 hc
      refine lv_iload_n hx hb dX8_isRowOfChoices_27 rfl (lv_at hl 1 rfl) ?_
      refine lv_bipush (v := 8) hx hb dX8_isRowOfChoices_28 (by decide) ?_
      refine vp_callSi (va_Run.run (va_runS (As := [.int x1, .int 8]) (rest := []) ⟨hx, hb, hml, hown, hts⟩ (c_X8_within l x1 8 _ hw) (va_cwS 2 hts gX8_isRowOfChoices_X8_within rfl rfl rfl (by decide +kernel) ⟨Nat.le_of_ble_eq_true rfl, Nat.le_of_ble_eq_true rfl⟩) (psS hN) rfl rfl hl.1 rfl (lv_room (Nat.le_of_ble_eq_true rfl)) dX8_isRowOfChoices_30 ⟨Nat.zero_le _, Nat.zero_le _⟩)) (fun r2 hw => ?_)
      refine lv_if_eq (tgt := 41) hx hb dX8_isRowOfChoices_33 (by decide) (fun hc => ?_) (fun hc => ?_)
      · have hw := hw.1 hc
        refine lv_iconst (v := 0) hx hb dX8_isRowOfChoices_41 (by decide) ?_
        exact W.zret (v := 0) hx hb hr rfl (fun t ht hW => ⟨0, rfl, hw, ht⟩) (fun _ h => by cases h) dX8_isRowOfChoices_42
      · have hw := hw.2 hc
        refine lv_iload_n hx hb dX8_isRowOfChoices_36 rfl (lv_at hl 0 rfl) ?_
        refine lv_iload_n hx hb dX8_isRowOfChoices_37 rfl (lv_at hl 1 rfl) ?_
        refine lv_icmp_ne (tgt := 43) hx hb dX8_isRowOfChoices_38 (by decide) (fun hc => ?_) (fun hc => ?_)
        · have hw := hw.1 hc
          refine lv_iload_n hx hb dX8_isRowOfChoices_43 rfl (lv_at hl 2 rfl) ?_
          refine lv_iconst (v := (-1)) hx hb dX8_isRowOfChoices_44 (by decide) ?_
          refine lv_icmp_eq (tgt := 67) hx hb dX8_isRowOfChoices_45 (by decide) (fun hc => ?_) (fun hc => ?_)
          · have hw := hw.1 hc
            refine lv_iconst (v := 1) hx hb dX8_isRowOfChoices_67 (by decide) ?_
            refine lv_goto (tgt := 72) hx hb dX8_isRowOfChoices_68 (by decide) ?_
            exact W.zret (v := 1) hx hb hr rfl (fun t ht hW => ⟨1, rfl, hw, ht⟩) (fun _ h => by cases h) dX8_isRowOfChoices_72
          · have hw := hw.2 hc
            refine lv_iload_n hx hb dX8_isRowOfChoices_48 rfl (lv_at hl 2 rfl) ?_
            refine lv_bipush (v := 8) hx hb dX8_isRowOfChoices_49 (by decide) ?_
            refine vp_callSi (va_Run.run (va_runS (As := [.int x2, .int 8]) (rest := []) ⟨hx, hb, hml, hown, hts⟩ (c_X8_within l x2 8 _ hw) (va_cwS 2 hts gX8_isRowOfChoices_X8_within rfl rfl rfl (by decide +kernel) ⟨Nat.le_of_ble_eq_true rfl, Nat.le_of_ble_eq_true rfl⟩) (psS hN) rfl rfl hl.1 rfl (lv_room (Nat.le_of_ble_eq_true rfl)) dX8_isRowOfChoices_51 ⟨Nat.zero_le _, Nat.zero_le _⟩)) (fun r3 hw => ?_)
            refine lv_if_eq (tgt := 71) hx hb dX8_isRowOfChoices_54 (by decide) (fun hc => ?_) (fun hc => ?_)
            · have hw := hw.1 hc
              refine lv_iconst (v := 0) hx hb dX8_isRowOfChoices_71 (by decide) ?_
              exact W.zret (v := 0) hx hb hr rfl (fun t ht hW => ⟨0, rfl, hw, ht⟩) (fun _ h => by cases h) dX8_isRowOfChoices_72
            · have hw := hw.2 hc
              refine lv_iload_n hx hb dX8_isRowOfChoices_57 rfl (lv_at hl 2 rfl) ?_
              refine lv_iload_n hx hb dX8_isRowOfChoices_58 rfl (lv_at hl 0 rfl) ?_
              refine lv_icmp_eq (tgt := 71) hx hb dX8_isRowOfChoices_59 (by decide) (fun hc => ?_) (fun hc => ?_)
              · have hw := hw.1 hc
                refine lv_iconst (v := 0) hx hb dX8_isRowOfChoices_71 (by decide) ?_
                exact W.zret (v := 0) hx hb hr rfl (fun t ht hW => ⟨0, rfl, hw, ht⟩) (fun _ h => by cases h) dX8_isRowOfChoices_72
              · have hw := hw.2 hc
                refine lv_iload_n hx hb dX8_isRowOfChoices_62 rfl (lv_at hl 2 rfl) ?_
                refine lv_iload_n hx hb dX8_isRowOfChoices_63 rfl (lv_at hl 1 rfl) ?_
                refine lv_icmp_eq (tgt := 71) hx hb dX8_isRowOfChoices_64 (by decide) (fun hc => ?_) (fun hc => ?_)
                · have hw := hw.1 hc
                  refine lv_iconst (v := 0) hx hb dX8_isRowOfChoices_71 (by decide) ?_
                  exact W.zret (v := 0) hx hb hr rfl (fun t ht hW => ⟨0, rfl, hw, ht⟩) (fun _ h => by cases h) dX8_isRowOfChoices_72
                · have hw := hw.2 hc
                  refine lv_iconst (v := 1) hx hb dX8_isRowOfChoices_67 (by decide) ?_
                  refine lv_goto (tgt := 72) hx hb dX8_isRowOfChoices_68 (by decide) ?_
                  exact W.zret (v := 1) hx hb hr rfl (fun t ht hW => ⟨1, rfl, hw, ht⟩) (fun _ h => by cases h) dX8_isRowOfChoices_72
        · have hw := hw.2 hc
          refine lv_iconst (v := 0) hx hb dX8_isRowOfChoices_41 (by decide) ?_
          exact W.zret (v := 0) hx hb hr rfl (fun t ht hW => ⟨0, rfl, hw, ht⟩) (fun _ h => by cases h) dX8_isRowOfChoices_42
    · have hw := hw.2 hc
      refine lv_iload_n hx hb dX8_isRowOfChoices_16 rfl (lv_at hl 2 rfl) ?_
      refine lv_iconst (v := (-1)) hx hb dX8_isRowOfChoices_17 (by decide) ?_
      refine lv_icmp_ne (tgt := 25) hx hb dX8_isRowOfChoices_18 (by decide) (fun hc => ?_) (fun hc => ?_)
      · have hw := hw.1 hc
        refine lv_iconst (v := 0) hx hb dX8_isRowOfChoices_25 (by decide) ?_
        exact W.zret (v := 0) hx hb hr rfl (fun t ht hW => ⟨0, rfl, hw, ht⟩) (fun _ h => by cases h) dX8_isRowOfChoices_26
      · have hw := hw.2 hc
        refine lv_iconst (v := 1) hx hb dX8_isRowOfChoices_21 (by decide) ?_
        refine lv_goto (tgt := 26) hx hb dX8_isRowOfChoices_22 (by decide) ?_
        exact W.zret (v := 1) hx hb hr rfl (fun t ht hW => ⟨1, rfl, hw, ht⟩) (fun _ h => by cases h) dX8_isRowOfChoices_26
  · have hw := hw.2 hc
    refine lv_iconst (v := 0) hx hb dX8_isRowOfChoices_9 (by decide) ?_
    exact W.zret (v := 0) hx hb hr rfl (fun t ht hW => ⟨0, rfl, hw, ht⟩) (fun _ h => by cases h) dX8_isRowOfChoices_10
set_option maxHeartbeats 4000000 in
set_option maxRecDepth 100000 in
theorem c_X5_add (l : Launch) (D : va_G) (q : Nat → Nat) (cI cJ cZ : ClassId) (sz : Nat) (u : WU) (x1 : Int32) (x2 : Int32) (x3 : Int32) (post : Int32 → WU → Prop) (hw : wp_X5_add x1 x2 x3 u post) : Met l yX5_add wsX5_add rm_X5_add (va_Pc [.ref (q 2), .int x1, .int x2, .int x3] (MW D (ty3 cI cJ cZ) (wX q cI cJ cZ u) sz)) (va_Qi post (fun u' t => va_P D vwCl (wX q cI cJ cZ u') t.heap) (va_A (wX q cI cJ cZ u00) sz)) 0 0 (va_A (wX q cI cJ cZ u00) sz) := by
  refine Met.ofW (cc := cX5_add) (maxL := 5) (ret := (some .int)) (by decide) rfl ?_
  intro p e s m args below meth c s₁ B hml hv
  obtain ⟨hargs, hsz, hP, hK, hD0, hN⟩ := hv
  have hx := B.exec
  have hb := B.bytes
  have hr := B.returns
  have hts := atoms_spec (ws := wsX5_add) B.pre
  have hown : s.vm.findClass RX5 = some m.cls := findClass_of_methodNamed B.named
  have hlocks := B.notSynchronized
  subst hsz
  have hD := shw_self (sz := s.heap.size) (sh_wX q cI cJ cZ) hD0
  have hA : ∀ a : Nat, s.heap.size ≤ a → va_A (wX q cI cJ cZ u00) s.heap.size a := fun _ h => Or.inr h
  have hS : va_S (va_A (wX q cI cJ cZ u00) s.heap.size) s.heap s.heap [] := va_S.rf
  have hiX5 : ∀ w ∈ u_ws RX5 TX5 6, w ∈ wsX5_add := by decide +kernel
  have hf15 := hts (.fieldLink RX5 15 "TermsDesk$Parts" "choiceCount" "[I") (by decide +kernel)
  have hf18 := hts (.fieldLink RX5 18 "TermsDesk$Parts" "licence" "[I") (by decide +kernel)
  have hf25 := hts (.fieldLink RX5 25 "TermsDesk$Parts" "told" "I") (by decide +kernel)
  have hf9 := hts (.fieldLink RX5 9 "TermsDesk$Parts" "choices" "[I") (by decide +kernel)
  have J75 : ∀ (x1 : Int32) (x4 : Int32) (z1 : Int32) (z2 : Int32) (u : WU) (H : Heap) (locs : List Loc), wp_X5_add_J75 x1 x4 z1 z2 u post → va_P D vwCl (wX q cI cJ cZ u) H → va_D (va_A (wX q cI cJ cZ u00) s.heap.size) (wX q cI cJ cZ u) → va_S (va_A (wX q cI cJ cZ u00) s.heap.size) s.heap H locs → ∀ ls : Array Slot, lv_has ls 5 [(0, .ref (q 2)), (1, .int x1), (4, .int x4)] → W p l e (headSpec wsX5_add rm_X5_add).room s m args below meth c H locs 0 0 (MQ below (va_Qi post (fun u' t => va_P D vwCl (wX q cI cJ cZ u') t.heap) (va_A (wX q cI cJ cZ u00) s.heap.size)) args s 0 0 (va_A (wX q cI cJ cZ u00) s.heap.size)) (F0 m 75 ls [.int z2, .int z1, .ref (q 13)]) := by
    intro x1 x4 z1 z2 u H locs hw hP hD hS ls hl 
    unfold wp_X5_add_J75 at hw
    obtain ⟨hin, hw⟩ := hw
    refine sIast (w := wX q cI cJ cZ) hx hb hK hP hD hS 13 0 1 rfl rfl (wXa_13 q cI cJ cZ u) hin dX5_add_75 (fun u1 H locs eu1 hP hD hS => ?_)
    have hw := hw u1 eu1
    refine lv_aload_n hx hb dX5_add_76 rfl (lv_at hl 0 rfl) ?_
    refine va_get (D := D) (ci := 5) (v := .ref (q 14)) (C := RX5) (T := TX5) (N := 6) hx hb hts hiX5 hown hK hP 2 rfl rfl 2 (by decide) hf18 (fun _ h9 => h9) rfl dX5_add_77 ?_
    refine lv_iload hx hb dX5_add_80 (lv_at hl 2 rfl) ?_
    refine lv_iload_n hx hb dX5_add_82 rfl (lv_at hl 1 rfl) ?_
    obtain ⟨hin, hw⟩ := hw
    refine sIast (w := wX q cI cJ cZ) hx hb hK hP hD hS 14 0 2 rfl rfl (wXa_14 q cI cJ cZ u1) hin dX5_add_83 (fun u2 H locs eu2 hP hD hS => ?_)
    have hw := hw u2 eu2
    refine lv_iload hx hb dX5_add_84 (lv_at hl 2 rfl) ?_
    exact W.iret (v := x4) hx hb hr (fun t ht hW => ⟨⟨x4, u2, rfl, hw, by show va_P D vwCl _ t.heap; rw [ht]; exact hP⟩, hS.F ht⟩) hS.2.2 dX5_add_86
  have hent := lg_entry_eq m ([.ref (q 2), .int x1, .int x2, .int x3]) 5
  rw [← hargs] at hent
  rw [hent]
  have hl := lv_entry ([.ref (q 2), .int x1, .int x2, .int x3]) (n := 5) (Nat.le_of_ble_eq_true rfl)
  generalize (lg_sl ([.ref (q 2), .int x1, .int x2, .int x3]) ++ List.replicate (5 - (lg_sl ([.ref (q 2), .int x1, .int x2, .int x3])).length) Slot.unset).toArray = ls at hl ⊢
  have hl : lv_has ls 5 [(0, .ref (q 2)), (1, .int x1), (2, .int x2), (3, .int x3)] := hl
  unfold wp_X5_add at hw
  refine lv_aload_n hx hb dX5_add_0 rfl (lv_at hl 0 rfl) ?_
  refine va_get (D := D) (ci := 5) (v := .int (u.1 20 0)) (C := RX5) (T := TX5) (N := 6) hx hb hts hiX5 hown hK hP 2 rfl rfl 4 (by decide) hf25 (fun _ h9 => h9) rfl dX5_add_1 ?_
  refine lv_topi (fun y3 ey3 => ?_)
  have hw := hw y3 ey3
  refine lv_istore (lv' := [(4, .int y3), (0, .ref (q 2)), (1, .int x1), (2, .int x2), (3, .int x3)]) hx hb dX5_add_4 hl (by decide) rfl (fun ls hl => ?_)
  refine lv_aload_n hx hb dX5_add_6 rfl (lv_at hl 1 rfl) ?_
  refine lv_dup hx hb dX5_add_7 rfl ?_
  refine va_get (D := D) (ci := 5) (v := .int (u.1 20 0)) (C := RX5) (T := TX5) (N := 6) hx hb hts hiX5 hown hK hP 2 rfl rfl 4 (by decide) hf25 (fun _ h9 => h9) rfl dX5_add_8 ?_
  refine lv_iconst (v := 1) hx hb dX5_add_11 (by decide) ?_
  refine lv_iadd hx hb dX5_add_12 ?_
  refine va_put (D := D) (ci := 5) (v := .int ((u.1 20 0) + 1)) (ty := .int) (C := RX5) (T := TX5) (N := 6) hx hb hts hiX5 tyX5 tyX5_ok nmX5 hown hK hP hD hS 2 rfl rfl 4 (by decide) hf25 (fun _ h9 => h9) rfl (by decide +kernel) rfl rfl (Nat.le_of_ble_eq_true rfl) dX5_add_13 (sPut (w := wX q cI cJ cZ) (uu := uI u 20 (fun _ => (u.1 20 0) + 1)) (wXs_X5_4 q cI cJ cZ u _) (fun u4 H locs eu4 hP hD hS => ?_))
  have hw := hw u4 eu4
  refine lv_aload_n hx hb dX5_add_16 rfl (lv_at hl 1 rfl) ?_
  refine va_get (D := D) (ci := 5) (v := .ref (q 12)) (C := RX5) (T := TX5) (N := 6) hx hb hts hiX5 hown hK hP 2 rfl rfl 0 (by decide) hf9 (fun _ h9 => h9) rfl dX5_add_17 ?_
  refine lv_iload hx hb dX5_add_20 (lv_at hl 0 rfl) ?_
  refine lv_iconst (v := 3) hx hb dX5_add_22 (by decide) ?_
  refine lv_imul hx hb dX5_add_23 ?_
  refine lv_iload_n hx hb dX5_add_24 rfl (lv_at hl 2 rfl) ?_
  obtain ⟨hin, hw⟩ := hw
  refine sIast (w := wX q cI cJ cZ) hx hb hK hP hD hS 12 0 0 rfl rfl (wXa_12 q cI cJ cZ u4) hin dX5_add_25 (fun u5 H locs eu5 hP hD hS => ?_)
  have hw := hw u5 eu5
  refine lv_aload_n hx hb dX5_add_26 rfl (lv_at hl 1 rfl) ?_
  refine va_get (D := D) (ci := 5) (v := .ref (q 12)) (C := RX5) (T := TX5) (N := 6) hx hb hts hiX5 hown hK hP 2 rfl rfl 0 (by decide) hf9 (fun _ h9 => h9) rfl dX5_add_27 ?_
  refine lv_iload hx hb dX5_add_30 (lv_at hl 0 rfl) ?_
  refine lv_iconst (v := 3) hx hb dX5_add_32 (by decide) ?_
  refine lv_imul hx hb dX5_add_33 ?_
  refine lv_iconst (v := 1) hx hb dX5_add_34 (by decide) ?_
  refine lv_iadd hx hb dX5_add_35 ?_
  refine lv_iload_n hx hb dX5_add_36 rfl (lv_at hl 3 rfl) ?_
  obtain ⟨hin, hw⟩ := hw
  refine sIast (w := wX q cI cJ cZ) hx hb hK hP hD hS 12 0 0 rfl rfl (wXa_12 q cI cJ cZ u5) hin dX5_add_37 (fun u6 H locs eu6 hP hD hS => ?_)
  have hw := hw u6 eu6
  refine lv_aload_n hx hb dX5_add_38 rfl (lv_at hl 1 rfl) ?_
  refine va_get (D := D) (ci := 5) (v := .ref (q 12)) (C := RX5) (T := TX5) (N := 6) hx hb hts hiX5 hown hK hP 2 rfl rfl 0 (by decide) hf9 (fun _ h9 => h9) rfl dX5_add_39 ?_
  refine lv_iload hx hb dX5_add_42 (lv_at hl 0 rfl) ?_
  refine lv_iconst (v := 3) hx hb dX5_add_44 (by decide) ?_
  refine lv_imul hx hb dX5_add_45 ?_
  refine lv_iconst (v := 2) hx hb dX5_add_46 (by decide) ?_
  refine lv_iadd hx hb dX5_add_47 ?_
  refine lv_iload_n hx hb dX5_add_48 rfl (lv_at hl 4 rfl) ?_
  obtain ⟨hin, hw⟩ := hw
  refine sIast (w := wX q cI cJ cZ) hx hb hK hP hD hS 12 0 0 rfl rfl (wXa_12 q cI cJ cZ u6) hin dX5_add_49 (fun u7 H locs eu7 hP hD hS => ?_)
  have hw := hw u7 eu7
  refine lv_aload_n hx hb dX5_add_50 rfl (lv_at hl 1 rfl) ?_
  refine va_get (D := D) (ci := 5) (v := .ref (q 13)) (C := RX5) (T := TX5) (N := 6) hx hb hts hiX5 hown hK hP 2 rfl rfl 1 (by decide) hf15 (fun _ h9 => h9) rfl dX5_add_51 ?_
  refine lv_iload hx hb dX5_add_54 (lv_at hl 0 rfl) ?_
  refine lv_iload_n hx hb dX5_add_56 rfl (lv_at hl 3 rfl) ?_
  refine lv_iconst (v := (-1)) hx hb dX5_add_57 (by decide) ?_
  refine lv_icmp_ne (tgt := 65) hx hb dX5_add_58 (by decide) (fun hc => ?_) (fun hc => ?_)
  · have hw := hw.1 hc
    refine lv_iload_n hx hb dX5_add_65 rfl (lv_at hl 4 rfl) ?_
    refine lv_iconst (v := (-1)) hx hb dX5_add_66 (by decide) ?_
    refine lv_icmp_ne (tgt := 74) hx hb dX5_add_67 (by decide) (fun hc => ?_) (fun hc => ?_)
    · have hw := hw.1 hc
      refine lv_iconst (v := 3) hx hb dX5_add_74 (by decide) ?_
      refine J75 x1 y3 y3 3 u7 _ _ hw hP hD hS ls (lv_sub hl [1, 2, 0] rfl)
    · have hw := hw.2 hc
      refine lv_iconst (v := 2) hx hb dX5_add_70 (by decide) ?_
      refine lv_goto (tgt := 75) hx hb dX5_add_71 (by decide) ?_
      refine J75 x1 y3 y3 2 u7 _ _ hw hP hD hS ls (lv_sub hl [1, 2, 0] rfl)
  · have hw := hw.2 hc
    refine lv_iconst (v := 1) hx hb dX5_add_61 (by decide) ?_
    refine lv_goto (tgt := 75) hx hb dX5_add_62 (by decide) ?_
    refine J75 x1 y3 y3 1 u7 _ _ hw hP hD hS ls (lv_sub hl [1, 2, 0] rfl)
set_option maxHeartbeats 4000000 in
set_option maxRecDepth 100000 in
theorem c_X8_part (l : Launch) (D : va_G) (q : Nat → Nat) (cI cJ cZ : ClassId) (sz : Nat) (u : WU) (x1 : Int32) (x2 : Int32) (x3 : Int32) (post : Int32 → WU → Prop) (hw : wp_X8_part x1 x2 x3 u post) : Met l yX8_part wsX8_part rm_X8_part (va_Pc [.ref (q 0), .int x1, .int x2, .int x3] (MW D (ty3 cI cJ cZ) (wX q cI cJ cZ u) sz)) (va_Qi post (fun u' t => va_P D vwCl (wX q cI cJ cZ u') t.heap) (va_A (wX q cI cJ cZ u00) sz)) 0 0 (va_A (wX q cI cJ cZ u00) sz) := by
  refine Met.ofW (cc := cX8_part) (maxL := 4) (ret := (some .int)) (by decide) rfl ?_
  intro p e s m args below meth c s₁ B hml hv
  obtain ⟨hargs, hsz, hP, hK, hD0, hN⟩ := hv
  have hx := B.exec
  have hb := B.bytes
  have hr := B.returns
  have hts := atoms_spec (ws := wsX8_part) B.pre
  have hown : s.vm.findClass RX8 = some m.cls := findClass_of_methodNamed B.named
  have hlocks := B.notSynchronized
  subst hsz
  have hD := shw_self (sz := s.heap.size) (sh_wX q cI cJ cZ) hD0
  have hA : ∀ a : Nat, s.heap.size ≤ a → va_A (wX q cI cJ cZ u00) s.heap.size a := fun _ h => Or.inr h
  have hS : va_S (va_A (wX q cI cJ cZ u00) s.heap.size) s.heap s.heap [] := va_S.rf
  have hiX5 : ∀ w ∈ u_ws RX5 TX5 6, w ∈ wsX8_part := by decide +kernel
  have hiX8 : ∀ w ∈ u_ws RX8 TX8 8, w ∈ wsX8_part := by decide +kernel
  have hf19 := hts (.fieldLink RX8 19 "TermsDesk" "parts" "LTermsDesk$Parts;") (by decide +kernel)
  have hent := lg_entry_eq m ([.ref (q 0), .int x1, .int x2, .int x3]) 4
  rw [← hargs] at hent
  rw [hent]
  have hl := lv_entry ([.ref (q 0), .int x1, .int x2, .int x3]) (n := 4) (Nat.le_of_ble_eq_true rfl)
  generalize (lg_sl ([.ref (q 0), .int x1, .int x2, .int x3]) ++ List.replicate (4 - (lg_sl ([.ref (q 0), .int x1, .int x2, .int x3])).length) Slot.unset).toArray = ls at hl ⊢
  have hl : lv_has ls 4 [(0, .ref (q 0)), (1, .int x1), (2, .int x2), (3, .int x3)] := hl
  unfold wp_X8_part at hw
  refine lv_iload_n hx hb dX8_part_0 rfl (lv_at hl 1 rfl) ?_
  refine lv_iload_n hx hb dX8_part_1 rfl (lv_at hl 2 rfl) ?_
  refine lv_iload_n hx hb dX8_part_2 rfl (lv_at hl 3 rfl) ?_
  refine vp_callSi (va_Run.run (va_runS (As := [.int x1, .int x2, .int x3]) (rest := []) ⟨hx, hb, hml, hown, hts⟩ (c_X8_isRowOfChoices l x1 x2 x3 _ hw) (va_cwS 3 hts gX8_part_X8_isRowOfChoices rfl rfl rfl (by decide +kernel) ⟨Nat.le_of_ble_eq_true rfl, Nat.le_of_ble_eq_true rfl⟩) (psS hN) rfl rfl hl.1 rfl (lv_room (Nat.le_of_ble_eq_true rfl)) dX8_part_3 ⟨Nat.zero_le _, Nat.zero_le _⟩)) (fun r1 hw => ?_)
  refine lv_if_eq (tgt := 21) hx hb dX8_part_6 (by decide) (fun hc => ?_) (fun hc => ?_)
  · have hw := hw.1 hc
    refine lv_iconst (v := (-1)) hx hb dX8_part_21 (by decide) ?_
    exact W.iret (v := (-1)) hx hb hr (fun t ht hW => ⟨⟨(-1), u, rfl, hw, by show va_P D vwCl _ t.heap; rw [ht]; exact hP⟩, hS.F ht⟩) hS.2.2 dX8_part_22
  · have hw := hw.2 hc
    refine lv_aload_n hx hb dX8_part_9 rfl (lv_at hl 0 rfl) ?_
    refine va_get (D := D) (ci := 8) (v := .ref (q 2)) (C := RX8) (T := TX8) (N := 8) hx hb hts hiX8 hown hK hP 0 rfl rfl 1 (by decide) hf19 (fun _ h9 => h9) rfl dX8_part_10 ?_
    refine va_getN (D := D) (ci := 5) (v := .int (u.1 20 0)) (C := RX5) (T := TX5) (N := 6) hx hb hts hiX5 hown hK hP 2 rfl rfl 4 (by decide) (va_Nw.use rfl (nf_RX8_96 hN)) (fun _ h9 => h9) rfl dX8_part_13 ?_
    refine lv_bipush (v := 24) hx hb dX8_part_16 (by decide) ?_
    refine lv_icmp_lt (tgt := 23) hx hb dX8_part_18 (by decide) (fun hc => ?_) (fun hc => ?_)
    · have hw := hw.1 hc
      refine lv_aload_n hx hb dX8_part_23 rfl (lv_at hl 0 rfl) ?_
      refine va_get (D := D) (ci := 8) (v := .ref (q 2)) (C := RX8) (T := TX8) (N := 8) hx hb hts hiX8 hown hK hP 0 rfl rfl 1 (by decide) hf19 (fun _ h9 => h9) rfl dX8_part_24 ?_
      refine lv_iload_n hx hb dX8_part_27 rfl (lv_at hl 1 rfl) ?_
      refine lv_iload_n hx hb dX8_part_28 rfl (lv_at hl 2 rfl) ?_
      refine lv_iload_n hx hb dX8_part_29 rfl (lv_at hl 3 rfl) ?_
      refine cMi (sh_wX q cI cJ cZ) (u := u) (va_runV (As := [.int x1, .int x2, .int x3]) (rest := []) ⟨hx, hb, hml, hown, hts⟩ (c_X5_add l D q cI cJ cZ _ u x1 x2 x3 _ hw) (cwV 3 hts gX8_part_X5_add rfl rfl rfl (by decide +kernel) ⟨Nat.le_of_ble_eq_true rfl, Nat.le_of_ble_eq_true rfl⟩) (pvM (va_recv hK hP (ci := 5) (q0 := 2) (q := (RX5, TX5, 6)) rfl rfl) hK hP hD hN) rfl rfl hl.1 rfl (lv_room (Nat.le_of_ble_eq_true rfl)) dX8_part_30 ⟨Nat.zero_le _, Nat.zero_le _⟩) hA hD hS (fun r3 u2 H locs hw hP hD hS => ?_)
      exact W.iret (v := r3) hx hb hr (fun t ht hW => ⟨⟨r3, u2, rfl, hw, by show va_P D vwCl _ t.heap; rw [ht]; exact hP⟩, hS.F ht⟩) hS.2.2 dX8_part_33
    · have hw := hw.2 hc
      refine lv_iconst (v := (-1)) hx hb dX8_part_21 (by decide) ?_
      exact W.iret (v := (-1)) hx hb hr (fun t ht hW => ⟨⟨(-1), u, rfl, hw, by show va_P D vwCl _ t.heap; rw [ht]; exact hP⟩, hS.F ht⟩) hS.2.2 dX8_part_22
