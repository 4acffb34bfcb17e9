set_option maxHeartbeats 4000000 in
set_option maxRecDepth 100000 in
theorem c_X8_within (l : Launch) (x0 : Int32) (x1 : Int32) (post : Int32 → Prop) (hw : wp_X8_within x0 x1 post) : Met l yX8_within wsX8_within rm_X8_within (va_Pc [.int x0, .int x1] NW) (vp_Si post) 0 0 (fun _ => False) := by
  refine Met.ofW (cc := cX8_within) (maxL := 2) (ret := (some .boolean)) (by decide) rfl ?_
  intro p e s m args below meth c s₁ B hml hv
  obtain ⟨hargs, hN⟩ := hv
  have hx := B.exec
  have hb := B.bytes
  have hr := B.returns
  have hts := atoms_spec (ws := wsX8_within) B.pre
  have hown : s.vm.findClass RX8 = some m.cls := findClass_of_methodNamed B.named
  have hlocks := B.notSynchronized
  have hent := lg_entry_eq m ([.int x0, .int x1]) 2
  rw [← hargs] at hent
  rw [hent]
  have hl := lv_entry ([.int x0, .int x1]) (n := 2) (Nat.le_of_ble_eq_true rfl)
  generalize (lg_sl ([.int x0, .int x1]) ++ List.replicate (2 - (lg_sl ([.int x0, .int x1])).length) Slot.unset).toArray = ls at hl ⊢
  have hl : lv_has ls 2 [(0, .int x0), (1, .int x1)] := hl
  unfold wp_X8_within at hw
  refine lv_iload_n hx hb dX8_within_0 rfl (lv_at hl 0 rfl) ?_
  refine lv_if_lt (tgt := 13) hx hb dX8_within_1 (by decide) (fun hc => ?_) (fun hc => ?_)
  · have hw := hw.1 hc
    refine lv_iconst (v := 0) hx hb dX8_within_13 (by decide) ?_
    exact W.zret (v := 0) hx hb hr rfl (fun t ht hW => ⟨0, rfl, hw, ht⟩) (fun _ h => by cases h) dX8_within_14
  · have hw := hw.2 hc
    refine lv_iload_n hx hb dX8_within_4 rfl (lv_at hl 0 rfl) ?_
    refine lv_iload_n hx hb dX8_within_5 rfl (lv_at hl 1 rfl) ?_
    refine lv_icmp_ge (tgt := 13) hx hb dX8_within_6 (by decide) (fun hc => ?_) (fun hc => ?_)
    · have hw := hw.1 hc
      refine lv_iconst (v := 0) hx hb dX8_within_13 (by decide) ?_
      exact W.zret (v := 0) hx hb hr rfl (fun t ht hW => ⟨0, rfl, hw, ht⟩) (fun _ h => by cases h) dX8_within_14
    · have hw := hw.2 hc
      refine lv_iconst (v := 1) hx hb dX8_within_9 (by decide) ?_
      refine lv_goto (tgt := 14) hx hb dX8_within_10 (by decide) ?_
      exact W.zret (v := 1) hx hb hr rfl (fun t ht hW => ⟨1, rfl, hw, ht⟩) (fun _ h => by cases h) dX8_within_14
set_option maxHeartbeats 4000000 in
set_option maxRecDepth 100000 in
theorem c_X8_isPair (l : Launch) (x0 : Int32) (x1 : Int32) (post : Int32 → Prop) (hw : wp_X8_isPair x0 x1 post) : Met l yX8_isPair wsX8_isPair rm_X8_isPair (va_Pc [.int x0, .int x1] NW) (vp_Si post) 0 0 (fun _ => False) := by
  refine Met.ofW (cc := cX8_isPair) (maxL := 2) (ret := (some .boolean)) (by decide) rfl ?_
  intro p e s m args below meth c s₁ B hml hv
  obtain ⟨hargs, hN⟩ := hv
  have hx := B.exec
  have hb := B.bytes
  have hr := B.returns
  have hts := atoms_spec (ws := wsX8_isPair) B.pre
  have hown : s.vm.findClass RX8 = some m.cls := findClass_of_methodNamed B.named
  have hlocks := B.notSynchronized
  have hent := lg_entry_eq m ([.int x0, .int x1]) 2
  rw [← hargs] at hent
  rw [hent]
  have hl := lv_entry ([.int x0, .int x1]) (n := 2) (Nat.le_of_ble_eq_true rfl)
  generalize (lg_sl ([.int x0, .int x1]) ++ List.replicate (2 - (lg_sl ([.int x0, .int x1])).length) Slot.unset).toArray = ls at hl ⊢
  have hl : lv_has ls 2 [(0, .int x0), (1, .int x1)] := hl
  unfold wp_X8_isPair at hw
  refine lv_iload_n hx hb dX8_isPair_0 rfl (lv_at hl 0 rfl) ?_
  refine lv_bipush (v := 8) hx hb dX8_isPair_1 (by decide) ?_
  refine vp_callSi (va_Run.run (va_runS (As := [.int x0, .int 8]) (rest := []) ⟨hx, hb, hml, hown, hts⟩ (c_X8_within l x0 8 _ hw) (va_cwS 2 hts gX8_isPair_X8_within rfl rfl rfl (by decide +kernel) ⟨Nat.le_of_ble_eq_true rfl, Nat.le_of_ble_eq_true rfl⟩) (psS hN) rfl rfl hl.1 rfl (lv_room (Nat.le_of_ble_eq_true rfl)) dX8_isPair_3 ⟨Nat.zero_le _, Nat.zero_le _⟩)) (fun r1 hw => ?_)
  refine lv_if_eq (tgt := 22) hx hb dX8_isPair_6 (by decide) (fun hc => ?_) (fun hc => ?_)
  · have hw := hw.1 hc
    refine lv_iconst (v := 0) hx hb dX8_isPair_22 (by decide) ?_
    exact W.zret (v := 0) hx hb hr rfl (fun t ht hW => ⟨0, rfl, hw, ht⟩) (fun _ h => by cases h) dX8_isPair_23
  · have hw := hw.2 hc
    refine lv_iload_n hx hb dX8_isPair_9 rfl (lv_at hl 1 rfl) ?_
    refine lv_bipush (v := 8) hx hb dX8_isPair_10 (by decide) ?_
    refine vp_callSi (va_Run.run (va_runS (As := [.int x1, .int 8]) (rest := []) ⟨hx, hb, hml, hown, hts⟩ (c_X8_within l x1 8 _ hw) (va_cwS 2 hts gX8_isPair_X8_within rfl rfl rfl (by decide +kernel) ⟨Nat.le_of_ble_eq_true rfl, Nat.le_of_ble_eq_true rfl⟩) (psS hN) rfl rfl hl.1 rfl (lv_room (Nat.le_of_ble_eq_true rfl)) dX8_isPair_12 ⟨Nat.zero_le _, Nat.zero_le _⟩)) (fun r2 hw => ?_)
    refine lv_if_eq (tgt := 22) hx hb dX8_isPair_15 (by decide) (fun hc => ?_) (fun hc => ?_)
    · have hw := hw.1 hc
      refine lv_iconst (v := 0) hx hb dX8_isPair_22 (by decide) ?_
      exact W.zret (v := 0) hx hb hr rfl (fun t ht hW => ⟨0, rfl, hw, ht⟩) (fun _ h => by cases h) dX8_isPair_23
    · have hw := hw.2 hc
      refine lv_iconst (v := 1) hx hb dX8_isPair_18 (by decide) ?_
      refine lv_goto (tgt := 23) hx hb dX8_isPair_19 (by decide) ?_
      exact W.zret (v := 1) hx hb hr rfl (fun t ht hW => ⟨1, rfl, hw, ht⟩) (fun _ h => by cases h) dX8_isPair_23
set_option maxHeartbeats 4000000 in
set_option maxRecDepth 100000 in
theorem c_X8_pairOf (l : Launch) (x0 : Int32) (x1 : Int32) (post : Int32 → Prop) (hw : wp_X8_pairOf x0 x1 post) : Met l yX8_pairOf wsX8_pairOf rm_X8_pairOf (va_Pc [.int x0, .int x1] NW) (vp_Si post) 0 0 (fun _ => False) := by
  refine Met.ofW (cc := cX8_pairOf) (maxL := 2) (ret := (some .int)) (by decide) rfl ?_
  intro p e s m args below meth c s₁ B hml hv
  obtain ⟨hargs, hN⟩ := hv
  have hx := B.exec
  have hb := B.bytes
  have hr := B.returns
  have hts := atoms_spec (ws := wsX8_pairOf) B.pre
  have hown : s.vm.findClass RX8 = some m.cls := findClass_of_methodNamed B.named
  have hlocks := B.notSynchronized
  have hent := lg_entry_eq m ([.int x0, .int x1]) 2
  rw [← hargs] at hent
  rw [hent]
  have hl := lv_entry ([.int x0, .int x1]) (n := 2) (Nat.le_of_ble_eq_true rfl)
  generalize (lg_sl ([.int x0, .int x1]) ++ List.replicate (2 - (lg_sl ([.int x0, .int x1])).length) Slot.unset).toArray = ls at hl ⊢
  have hl : lv_has ls 2 [(0, .int x0), (1, .int x1)] := hl
  unfold wp_X8_pairOf at hw
  refine lv_iload_n hx hb dX8_pairOf_0 rfl (lv_at hl 0 rfl) ?_
  refine lv_bipush (v := 8) hx hb dX8_pairOf_1 (by decide) ?_
  refine lv_imul hx hb dX8_pairOf_3 ?_
  refine lv_iload_n hx hb dX8_pairOf_4 rfl (lv_at hl 1 rfl) ?_
  refine lv_iadd hx hb dX8_pairOf_5 ?_
  exact W.iret (v := (x0 * 8) + x1) hx hb hr (fun t ht hW => ⟨(x0 * 8) + x1, rfl, hw, ht⟩) (fun _ h => by cases h) dX8_pairOf_6
set_option maxHeartbeats 4000000 in
set_option maxRecDepth 100000 in
theorem c_X8_holds (l : Launch) (x0 : Int64) (x2 : Int32) (post : Int32 → Prop) (hw : wp_X8_holds x0 x2 post) : Met l yX8_holds wsX8_holds rm_X8_holds (va_Pc [.long x0, .int x2] NW) (vp_Si post) 0 0 (fun _ => False) := by
  refine Met.ofW (cc := cX8_holds) (maxL := 3) (ret := (some .boolean)) (by decide) rfl ?_
  intro p e s m args below meth c s₁ B hml hv
  obtain ⟨hargs, hN⟩ := hv
  have hx := B.exec
  have hb := B.bytes
  have hr := B.returns
  have hts := atoms_spec (ws := wsX8_holds) B.pre
  have hown : s.vm.findClass RX8 = some m.cls := findClass_of_methodNamed B.named
  have hlocks := B.notSynchronized
  have hent := lg_entry_eq m ([.long x0, .int x2]) 3
  rw [← hargs] at hent
  rw [hent]
  have hl := lv_entry ([.long x0, .int x2]) (n := 3) (Nat.le_of_ble_eq_true rfl)
  generalize (lg_sl ([.long x0, .int x2]) ++ List.replicate (3 - (lg_sl ([.long x0, .int x2])).length) Slot.unset).toArray = ls at hl ⊢
  have hl : lv_has ls 3 [(0, .long x0), (2, .int x2)] := hl
  unfold wp_X8_holds at hw
  refine lv_lload_n hx hb dX8_holds_0 rfl (lv_at hl 0 rfl) ?_
  refine lv_iload_n hx hb dX8_holds_1 rfl (lv_at hl 1 rfl) ?_
  refine lv_lushr (v := jushr x0 x2) hx hb dX8_holds_2 rfl ?_
  refine lv_lconst (v := 1) hx hb dX8_holds_3 (by decide) ?_
  refine lv_land hx hb dX8_holds_4 ?_
  refine lv_lconst (v := 0) hx hb dX8_holds_5 (by decide) ?_
  refine W.lcmp hx hb dX8_holds_6 ?_
  refine lv_if_eq (tgt := 14) hx hb dX8_holds_7 (by decide) (fun hc => ?_) (fun hc => ?_)
  · have hw := hw.1 hc
    refine lv_iconst (v := 0) hx hb dX8_holds_14 (by decide) ?_
    exact W.zret (v := 0) hx hb hr rfl (fun t ht hW => ⟨0, rfl, hw, ht⟩) (fun _ h => by cases h) dX8_holds_15
  · have hw := hw.2 hc
    refine lv_iconst (v := 1) hx hb dX8_holds_10 (by decide) ?_
    refine lv_goto (tgt := 15) hx hb dX8_holds_11 (by decide) ?_
    exact W.zret (v := 1) hx hb hr rfl (fun t ht hW => ⟨1, rfl, hw, ht⟩) (fun _ h => by cases h) dX8_holds_15
set_option maxHeartbeats 4000000 in
set_option maxRecDepth 100000 in
theorem c_X6_spread_c9 (l : Launch) (D : va_G) (q : Nat → Nat) (cI cJ cZ : ClassId) (sz : Nat) (u : WU) (x1 : Int32) (x2 : Int32) (post : WU → Prop) (hw : wp_X6_spread_c9 x1 x2 u post) : Met l yX6_spread wsX6_spread rm_X6_spread (va_Pc [.ref (q 9), .int x1, .int x2] (MW D (ty3 cI cJ cZ) (wX q cI cJ cZ u) sz)) (va_Qv post (fun u' t => va_P D vwCl (wX q cI cJ cZ u') t.heap) (va_A (wX q cI cJ cZ u00) sz)) 0 0 (va_A (wX q cI cJ cZ u00) sz) := by
  refine Met.ofW (cc := cX6_spread) (maxL := 6) (ret := none) (by decide) rfl ?_
  intro p e s m args below meth c s₁ B hml hv
  obtain ⟨hargs, hsz, hP, hK, hD0, hN⟩ := hv
  have hx := B.exec
  have hb := B.bytes
  have hr := B.returns
  have hts := atoms_spec (ws := wsX6_spread) B.pre
  have hown : s.vm.findClass RX6 = some m.cls := findClass_of_methodNamed B.named
  have hlocks := B.notSynchronized
  subst hsz
  have hD := shw_self (sz := s.heap.size) (sh_wX q cI cJ cZ) hD0
  have hA : ∀ a : Nat, s.heap.size ≤ a → va_A (wX q cI cJ cZ u00) s.heap.size a := fun _ h => Or.inr h
  have hS : va_S (va_A (wX q cI cJ cZ u00) s.heap.size) s.heap s.heap [] := va_S.rf
  have hc25 := hts (.constantLong RX6 25 (-1)) (by decide +kernel)
  have hi_RX8 := hts (.initialized RX8) (by decide +kernel)
  have hs_X8_holds := hts (.static yX8_holds) (by decide +kernel)
  have J43 : ∀ {K2 : Int32 → WU → Prop} (x1 : Int32) (x2 : Int32) (x3 : Int32) (z1 : Int32) (z2 : Int64) (u : WU) (H : Heap) (locs : List Loc), wp_X6_spread_c9_J43 x1 x2 x3 z1 z2 u post K2 → va_P D vwCl (wX q cI cJ cZ u) H → va_D (va_A (wX q cI cJ cZ u00) s.heap.size) (wX q cI cJ cZ u) → va_S (va_A (wX q cI cJ cZ u00) s.heap.size) s.heap H locs → ∀ ls : Array Slot, lv_has ls 6 [(0, .ref (q 9)), (1, .int x1), (2, .int x2), (3, .int x3)] → (∀ (x3 : Int32) (u : WU) (H : Heap) (locs : List Loc), K2 x3 u → va_P D vwCl (wX q cI cJ cZ u) H → va_D (va_A (wX q cI cJ cZ u00) s.heap.size) (wX q cI cJ cZ u) → va_S (va_A (wX q cI cJ cZ u00) s.heap.size) s.heap H locs → ∀ ls : Array Slot, lv_has ls 6 [(0, .ref (q 9)), (1, .int x1), (2, .int x2), (3, .int x3)] → W p l e (headSpec wsX6_spread rm_X6_spread).room s m args below meth c H locs 0 0 (MQ below (va_Qv post (fun u' t => va_P D vwCl (wX q cI cJ cZ u') t.heap) (va_A (wX q cI cJ cZ u00) s.heap.size)) args s 0 0 (va_A (wX q cI cJ cZ u00) s.heap.size)) (F0 m 2 ls [])) → W p l e (headSpec wsX6_spread rm_X6_spread).room s m args below meth c H locs 0 0 (MQ below (va_Qv post (fun u' t => va_P D vwCl (wX q cI cJ cZ u') t.heap) (va_A (wX q cI cJ cZ u00) s.heap.size)) args s 0 0 (va_A (wX q cI cJ cZ u00) s.heap.size)) (F0 m 43 ls [.long z2, .int z1, .ref (q 9)]) := by
    intro K2 x1 x2 x3 z1 z2 u H locs hw hP hD hS ls hl k2
    unfold wp_X6_spread_c9_J43 at hw
    obtain ⟨hin, hw⟩ := hw
    refine sLast (w := wX q cI cJ cZ) hx hb hK hP hD hS 9 1 0 rfl rfl (wXa_9 q cI cJ cZ u) hin dX6_spread_43 (fun u7 H locs eu7 hP hD hS => ?_)
    have hw := hw u7 eu7
    obtain ⟨y8, ey8⟩ : ∃ z : Int32, z = x3 + 1 := ⟨_, rfl⟩
    have hw := hw y8 ey8
    refine lv_iinc (v := y8) (lv' := [(3, .int y8), (0, .ref (q 9)), (1, .int x1), (2, .int x2)]) hx hb dX6_spread_44 hl (k := 3) rfl (by rw [ey8]; rfl) (by decide) rfl (fun ls hl => ?_)
    refine lv_goto (tgt := 2) hx hb dX6_spread_47 (by decide) ?_
    exact k2 y8 u7 _ _ hw hP hD hS ls (lv_sub hl [1, 2, 3, 0] rfl)
  have L2 : ∀ (x1 : Int32) (x2 : Int32) (n : Nat) (x3 : Int32) (u : WU) (H : Heap) (locs : List Loc), wp_X6_spread_c9_L2 x1 x2 post n x3 u → va_P D vwCl (wX q cI cJ cZ u) H → va_D (va_A (wX q cI cJ cZ u00) s.heap.size) (wX q cI cJ cZ u) → va_S (va_A (wX q cI cJ cZ u00) s.heap.size) s.heap H locs → ∀ ls : Array Slot, lv_has ls 6 [(0, .ref (q 9)), (1, .int x1), (2, .int x2), (3, .int x3)] → W p l e (headSpec wsX6_spread rm_X6_spread).room s m args below meth c H locs 0 0 (MQ below (va_Qv post (fun u' t => va_P D vwCl (wX q cI cJ cZ u') t.heap) (va_A (wX q cI cJ cZ u00) s.heap.size)) args s 0 0 (va_A (wX q cI cJ cZ u00) s.heap.size)) (F0 m 2 ls []) := by
    intro x1 x2 n
    induction n with
    | zero =>
      intro x3 u H locs hw
      exact hw.elim
    | succ n ih =>
      intro x3 u H locs hw hP hD hS ls hl 
      unfold wp_X6_spread_c9_L2 at hw
      refine lv_iload_n hx hb dX6_spread_2 rfl (lv_at hl 3 rfl) ?_
      refine lv_aload_n hx hb dX6_spread_3 rfl (lv_at hl 0 rfl) ?_
      refine va_alen hx hb hK hP 9 1 rfl rfl (v := 4) rfl dX6_spread_4 ?_
      refine lv_icmp_ge (tgt := 50) hx hb dX6_spread_5 (by decide) (fun hc => ?_) (fun hc => ?_)
      · have hw := hw.1 hc
        exact W.vret hx hb hr (fun t ht hW => ⟨⟨u, rfl, hw, by show va_P D vwCl _ t.heap; rw [ht]; exact hP⟩, hS.F ht⟩) hS.2.2 dX6_spread_50
      · have hw := hw.2 hc
        refine lv_aload_n hx hb dX6_spread_8 rfl (lv_at hl 0 rfl) ?_
        refine lv_iload_n hx hb dX6_spread_9 rfl (lv_at hl 3 rfl) ?_
        obtain ⟨hin, hw⟩ := hw
        refine va_lald hx hb hK hP 9 1 rfl rfl hin dX6_spread_10 ?_
        refine lv_lconst (v := 1) hx hb dX6_spread_11 (by decide) ?_
        refine lv_iload_n hx hb dX6_spread_12 rfl (lv_at hl 1 rfl) ?_
        refine lv_lshl (v := jshl 1 x1) hx hb dX6_spread_13 rfl ?_
        refine lv_ldc2 (v := (-1)) hx hb hown hc25 dX6_spread_14 ?_
        refine lv_lxor hx hb dX6_spread_17 ?_
        refine lv_land hx hb dX6_spread_18 ?_
        refine lv_topl (fun y1 ey1 => ?_)
        have hw := hw y1 ey1
        refine lv_lstore (lv' := [(4, .long y1), (0, .ref (q 9)), (1, .int x1), (2, .int x2), (3, .int x3)]) hx hb dX6_spread_19 hl (by decide) rfl (fun ls hl => ?_)
        refine lv_aload_n hx hb dX6_spread_21 rfl (lv_at hl 1 rfl) ?_
        refine lv_iload_n hx hb dX6_spread_22 rfl (lv_at hl 4 rfl) ?_
        refine lv_iload_n hx hb dX6_spread_23 rfl (lv_at hl 3 rfl) ?_
        refine lv_i2l (v := x2.toInt64) hx hb dX6_spread_24 rfl ?_
        refine lv_iload_n hx hb dX6_spread_25 rfl (lv_at hl 4 rfl) ?_
        refine vp_callSi (va_Run.run (va_runSN (As := [.long x2.toInt64, .int x3]) (rest := [.int x3, .ref (q 9)]) ⟨hx, hb, hml, hown, hts⟩ (c_X8_holds l x2.toInt64 x3 _ hw) ⟨va_cnB 2 hts ggX6_spread_X8_holds rfl rfl rfl (nm_RX6_27 hN) hi_RX8 (by decide +kernel) ⟨Nat.le_of_ble_eq_true rfl, Nat.le_of_ble_eq_true rfl⟩, hs_X8_holds, trivial⟩ (psS hN) rfl rfl hl.1 rfl (lv_room (Nat.le_of_ble_eq_true rfl)) dX6_spread_26 ⟨Nat.zero_le _, Nat.zero_le _⟩)) (fun r2 hw => ?_)
        refine lv_if_eq (tgt := 41) hx hb dX6_spread_29 (by decide) (fun hc => ?_) (fun hc => ?_)
        · have hw := hw.1 hc
          refine lv_lload hx hb dX6_spread_41 (lv_at hl 0 rfl) ?_
          refine J43 x1 x2 x3 x3 y1 u _ _ hw hP hD hS ls (lv_sub hl [1, 2, 3, 4] rfl) (fun y3 u4 H locs hw hP hD hS ls hl => ?_)
          exact ih y3 u4 _ _ hw hP hD hS ls (lv_sub hl [0, 1, 2, 3] rfl)
        · have hw := hw.2 hc
          refine lv_lload hx hb dX6_spread_32 (lv_at hl 0 rfl) ?_
          refine lv_lconst (v := 1) hx hb dX6_spread_34 (by decide) ?_
          refine lv_iload_n hx hb dX6_spread_35 rfl (lv_at hl 2 rfl) ?_
          refine lv_lshl (v := jshl 1 x1) hx hb dX6_spread_36 rfl ?_
          refine lv_lor hx hb dX6_spread_37 ?_
          refine lv_goto (tgt := 43) hx hb dX6_spread_38 (by decide) ?_
          refine J43 x1 x2 x3 x3 (y1 ||| (jshl 1 x1)) u _ _ hw hP hD hS ls (lv_sub hl [1, 2, 3, 4] rfl) (fun y5 u6 H locs hw hP hD hS ls hl => ?_)
          exact ih y5 u6 _ _ hw hP hD hS ls (lv_sub hl [0, 1, 2, 3] rfl)
  have hent := lg_entry_eq m ([.ref (q 9), .int x1, .int x2]) 6
  rw [← hargs] at hent
  rw [hent]
  have hl := lv_entry ([.ref (q 9), .int x1, .int x2]) (n := 6) (Nat.le_of_ble_eq_true rfl)
  generalize (lg_sl ([.ref (q 9), .int x1, .int x2]) ++ List.replicate (6 - (lg_sl ([.ref (q 9), .int x1, .int x2])).length) Slot.unset).toArray = ls at hl ⊢
  have hl : lv_has ls 6 [(0, .ref (q 9)), (1, .int x1), (2, .int x2)] := hl
  unfold wp_X6_spread_c9 at hw
  refine lv_iconst (v := 0) hx hb dX6_spread_0 (by decide) ?_
  refine lv_istore_n (lv' := [(3, .int 0), (0, .ref (q 9)), (1, .int x1), (2, .int x2)]) hx hb dX6_spread_1 rfl hl (by decide) rfl (fun ls hl => ?_)
  obtain ⟨nn, hw⟩ := hw
  refine L2 x1 x2 nn 0 u _ _ hw hP hD hS ls (lv_sub hl [1, 2, 3, 0] rfl)
set_option maxHeartbeats 4000000 in
set_option maxRecDepth 100000 in
theorem c_X6_spread_c10 (l : Launch) (D : va_G) (q : Nat → Nat) (cI cJ cZ : ClassId) (sz : Nat) (u : WU) (x1 : Int32) (x2 : Int32) (post : WU → Prop) (hw : wp_X6_spread_c10 x1 x2 u post) : Met l yX6_spread wsX6_spread rm_X6_spread (va_Pc [.ref (q 10), .int x1, .int x2] (MW D (ty3 cI cJ cZ) (wX q cI cJ cZ u) sz)) (va_Qv post (fun u' t => va_P D vwCl (wX q cI cJ cZ u') t.heap) (va_A (wX q cI cJ cZ u00) sz)) 0 0 (va_A (wX q cI cJ cZ u00) sz) := by
  refine Met.ofW (cc := cX6_spread) (maxL := 6) (ret := none) (by decide) rfl ?_
  intro p e s m args below meth c s₁ B hml hv
  obtain ⟨hargs, hsz, hP, hK, hD0, hN⟩ := hv
  have hx := B.exec
  have hb := B.bytes
  have hr := B.returns
  have hts := atoms_spec (ws := wsX6_spread) B.pre
  have hown : s.vm.findClass RX6 = some m.cls := findClass_of_methodNamed B.named
  have hlocks := B.notSynchronized
  subst hsz
  have hD := shw_self (sz := s.heap.size) (sh_wX q cI cJ cZ) hD0
  have hA : ∀ a : Nat, s.heap.size ≤ a → va_A (wX q cI cJ cZ u00) s.heap.size a := fun _ h => Or.inr h
  have hS : va_S (va_A (wX q cI cJ cZ u00) s.heap.size) s.heap s.heap [] := va_S.rf
  have hc25 := hts (.constantLong RX6 25 (-1)) (by decide +kernel)
  have hi_RX8 := hts (.initialized RX8) (by decide +kernel)
  have hs_X8_holds := hts (.static yX8_holds) (by decide +kernel)
  have J43 : ∀ {K2 : Int32 → WU → Prop} (x1 : Int32) (x2 : Int32) (x3 : Int32) (z1 : Int32) (z2 : Int64) (u : WU) (H : Heap) (locs : List Loc), wp_X6_spread_c10_J43 x1 x2 x3 z1 z2 u post K2 → va_P D vwCl (wX q cI cJ cZ u) H → va_D (va_A (wX q cI cJ cZ u00) s.heap.size) (wX q cI cJ cZ u) → va_S (va_A (wX q cI cJ cZ u00) s.heap.size) s.heap H locs → ∀ ls : Array Slot, lv_has ls 6 [(0, .ref (q 10)), (1, .int x1), (2, .int x2), (3, .int x3)] → (∀ (x3 : Int32) (u : WU) (H : Heap) (locs : List Loc), K2 x3 u → va_P D vwCl (wX q cI cJ cZ u) H → va_D (va_A (wX q cI cJ cZ u00) s.heap.size) (wX q cI cJ cZ u) → va_S (va_A (wX q cI cJ cZ u00) s.heap.size) s.heap H locs → ∀ ls : Array Slot, lv_has ls 6 [(0, .ref (q 10)), (1, .int x1), (2, .int x2), (3, .int x3)] → W p l e (headSpec wsX6_spread rm_X6_spread).room s m args below meth c H locs 0 0 (MQ below (va_Qv post (fun u' t => va_P D vwCl (wX q cI cJ cZ u') t.heap) (va_A (wX q cI cJ cZ u00) s.heap.size)) args s 0 0 (va_A (wX q cI cJ cZ u00) s.heap.size)) (F0 m 2 ls [])) → W p l e (headSpec wsX6_spread rm_X6_spread).room s m args below meth c H locs 0 0 (MQ below (va_Qv post (fun u' t => va_P D vwCl (wX q cI cJ cZ u') t.heap) (va_A (wX q cI cJ cZ u00) s.heap.size)) args s 0 0 (va_A (wX q cI cJ cZ u00) s.heap.size)) (F0 m 43 ls [.long z2, .int z1, .ref (q 10)]) := by
    intro K2 x1 x2 x3 z1 z2 u H locs hw hP hD hS ls hl k2
    unfold wp_X6_spread_c10_J43 at hw
    obtain ⟨hin, hw⟩ := hw
    refine sLast (w := wX q cI cJ cZ) hx hb hK hP hD hS 10 1 1 rfl rfl (wXa_10 q cI cJ cZ u) hin dX6_spread_43 (fun u7 H locs eu7 hP hD hS => ?_)
    have hw := hw u7 eu7
    obtain ⟨y8, ey8⟩ : ∃ z : Int32, z = x3 + 1 := ⟨_, rfl⟩
    have hw := hw y8 ey8
    refine lv_iinc (v := y8) (lv' := [(3, .int y8), (0, .ref (q 10)), (1, .int x1), (2, .int x2)]) hx hb dX6_spread_44 hl (k := 3) rfl (by rw [ey8]; rfl) (by decide) rfl (fun ls hl => ?_)
    refine lv_goto (tgt := 2) hx hb dX6_spread_47 (by decide) ?_
    exact k2 y8 u7 _ _ hw hP hD hS ls (lv_sub hl [1, 2, 3, 0] rfl)
  have L2 : ∀ (x1 : Int32) (x2 : Int32) (n : Nat) (x3 : Int32) (u : WU) (H : Heap) (locs : List Loc), wp_X6_spread_c10_L2 x1 x2 post n x3 u → va_P D vwCl (wX q cI cJ cZ u) H → va_D (va_A (wX q cI cJ cZ u00) s.heap.size) (wX q cI cJ cZ u) → va_S (va_A (wX q cI cJ cZ u00) s.heap.size) s.heap H locs → ∀ ls : Array Slot, lv_has ls 6 [(0, .ref (q 10)), (1, .int x1), (2, .int x2), (3, .int x3)] → W p l e (headSpec wsX6_spread rm_X6_spread).room s m args below meth c H locs 0 0 (MQ below (va_Qv post (fun u' t => va_P D vwCl (wX q cI cJ cZ u') t.heap) (va_A (wX q cI cJ cZ u00) s.heap.size)) args s 0 0 (va_A (wX q cI cJ cZ u00) s.heap.size)) (F0 m 2 ls []) := by
    intro x1 x2 n
    induction n with
    | zero =>
      intro x3 u H locs hw
      exact hw.elim
    | succ n ih =>
      intro x3 u H locs hw hP hD hS ls hl 
      unfold wp_X6_spread_c10_L2 at hw
      refine lv_iload_n hx hb dX6_spread_2 rfl (lv_at hl 3 rfl) ?_
      refine lv_aload_n hx hb dX6_spread_3 rfl (lv_at hl 0 rfl) ?_
      refine va_alen hx hb hK hP 10 1 rfl rfl (v := 4) rfl dX6_spread_4 ?_
      refine lv_icmp_ge (tgt := 50) hx hb dX6_spread_5 (by decide) (fun hc => ?_) (fun hc => ?_)
      · have hw := hw.1 hc
        exact W.vret hx hb hr (fun t ht hW => ⟨⟨u, rfl, hw, by show va_P D vwCl _ t.heap; rw [ht]; exact hP⟩, hS.F ht⟩) hS.2.2 dX6_spread_50
      · have hw := hw.2 hc
        refine lv_aload_n hx hb dX6_spread_8 rfl (lv_at hl 0 rfl) ?_
        refine lv_iload_n hx hb dX6_spread_9 rfl (lv_at hl 3 rfl) ?_
        obtain ⟨hin, hw⟩ := hw
        refine va_lald hx hb hK hP 10 1 rfl rfl hin dX6_spread_10 ?_
        refine lv_lconst (v := 1) hx hb dX6_spread_11 (by decide) ?_
        refine lv_iload_n hx hb dX6_spread_12 rfl (lv_at hl 1 rfl) ?_
        refine lv_lshl (v := jshl 1 x1) hx hb dX6_spread_13 rfl ?_
        refine lv_ldc2 (v := (-1)) hx hb hown hc25 dX6_spread_14 ?_
        refine lv_lxor hx hb dX6_spread_17 ?_
        refine lv_land hx hb dX6_spread_18 ?_
        refine lv_topl (fun y1 ey1 => ?_)
        have hw := hw y1 ey1
        refine lv_lstore (lv' := [(4, .long y1), (0, .ref (q 10)), (1, .int x1), (2, .int x2), (3, .int x3)]) hx hb dX6_spread_19 hl (by decide) rfl (fun ls hl => ?_)
        refine lv_aload_n hx hb dX6_spread_21 rfl (lv_at hl 1 rfl) ?_
        refine lv_iload_n hx hb dX6_spread_22 rfl (lv_at hl 4 rfl) ?_
        refine lv_iload_n hx hb dX6_spread_23 rfl (lv_at hl 3 rfl) ?_
        refine lv_i2l (v := x2.toInt64) hx hb dX6_spread_24 rfl ?_
        refine lv_iload_n hx hb dX6_spread_25 rfl (lv_at hl 4 rfl) ?_
        refine vp_callSi (va_Run.run (va_runSN (As := [.long x2.toInt64, .int x3]) (rest := [.int x3, .ref (q 10)]) ⟨hx, hb, hml, hown, hts⟩ (c_X8_holds l x2.toInt64 x3 _ hw) ⟨va_cnB 2 hts ggX6_spread_X8_holds rfl rfl rfl (nm_RX6_27 hN) hi_RX8 (by decide +kernel) ⟨Nat.le_of_ble_eq_true rfl, Nat.le_of_ble_eq_true rfl⟩, hs_X8_holds, trivial⟩ (psS hN) rfl rfl hl.1 rfl (lv_room (Nat.le_of_ble_eq_true rfl)) dX6_spread_26 ⟨Nat.zero_le _, Nat.zero_le _⟩)) (fun r2 hw => ?_)
        refine lv_if_eq (tgt := 41) hx hb dX6_spread_29 (by decide) (fun hc => ?_) (fun hc => ?_)
        · have hw := hw.1 hc
          refine lv_lload hx hb dX6_spread_41 (lv_at hl 0 rfl) ?_
          refine J43 x1 x2 x3 x3 y1 u _ _ hw hP hD hS ls (lv_sub hl [1, 2, 3, 4] rfl) (fun y3 u4 H locs hw hP hD hS ls hl => ?_)
          exact ih y3 u4 _ _ hw hP hD hS ls (lv_sub hl [0, 1, 2, 3] rfl)
        · have hw := hw.2 hc
          refine lv_lload hx hb dX6_spread_32 (lv_at hl 0 rfl) ?_
          refine lv_lconst (v := 1) hx hb dX6_spread_34 (by decide) ?_
          refine lv_iload_n hx hb dX6_spread_35 rfl (lv_at hl 2 rfl) ?_
          refine lv_lshl (v := jshl 1 x1) hx hb dX6_spread_36 rfl ?_
          refine lv_lor hx hb dX6_spread_37 ?_
          refine lv_goto (tgt := 43) hx hb dX6_spread_38 (by decide) ?_
          refine J43 x1 x2 x3 x3 (y1 ||| (jshl 1 x1)) u _ _ hw hP hD hS ls (lv_sub hl [1, 2, 3, 4] rfl) (fun y5 u6 H locs hw hP hD hS ls hl => ?_)
          exact ih y5 u6 _ _ hw hP hD hS ls (lv_sub hl [0, 1, 2, 3] rfl)
  have hent := lg_entry_eq m ([.ref (q 10), .int x1, .int x2]) 6
  rw [← hargs] at hent
  rw [hent]
  have hl := lv_entry ([.ref (q 10), .int x1, .int x2]) (n := 6) (Nat.le_of_ble_eq_true rfl)
  generalize (lg_sl ([.ref (q 10), .int x1, .int x2]) ++ List.replicate (6 - (lg_sl ([.ref (q 10), .int x1, .int x2])).length) Slot.unset).toArray = ls at hl ⊢
  have hl : lv_has ls 6 [(0, .ref (q 10)), (1, .int x1), (2, .int x2)] := hl
  unfold wp_X6_spread_c10 at hw
  refine lv_iconst (v := 0) hx hb dX6_spread_0 (by decide) ?_
  refine lv_istore_n (lv' := [(3, .int 0), (0, .ref (q 10)), (1, .int x1), (2, .int x2)]) hx hb dX6_spread_1 rfl hl (by decide) rfl (fun ls hl => ?_)
  obtain ⟨nn, hw⟩ := hw
  refine L2 x1 x2 nn 0 u _ _ hw hP hD hS ls (lv_sub hl [1, 2, 3, 0] rfl)
set_option maxHeartbeats 4000000 in
set_option maxRecDepth 100000 in
theorem c_X6_tellAsk (l : Launch) (D : va_G) (q : Nat → Nat) (cI cJ cZ : ClassId) (sz : Nat) (u : WU) (x1 : Int32) (x2 : Int32) (x3 : Int32) (post : WU → Prop) (hw : wp_X6_tellAsk x1 x2 x3 u post) : Met l yX6_tellAsk wsX6_tellAsk rm_X6_tellAsk (va_Pc [.ref (q 1), .int x1, .int x2, .int x3] (MW D (ty3 cI cJ cZ) (wX q cI cJ cZ u) sz)) (va_Qv post (fun u' t => va_P D vwCl (wX q cI cJ cZ u') t.heap) (va_A (wX q cI cJ cZ u00) sz)) 0 0 (va_A (wX q cI cJ cZ u00) sz) := by
  refine Met.ofW (cc := cX6_tellAsk) (maxL := 4) (ret := none) (by decide) rfl ?_
  intro p e s m args below meth c s₁ B hml hv
  obtain ⟨hargs, hsz, hP, hK, hD0, hN⟩ := hv
  have hx := B.exec
  have hb := B.bytes
  have hr := B.returns
  have hts := atoms_spec (ws := wsX6_tellAsk) B.pre
  have hown : s.vm.findClass RX6 = some m.cls := findClass_of_methodNamed B.named
  have hlocks := B.notSynchronized
  subst hsz
  have hD := shw_self (sz := s.heap.size) (sh_wX q cI cJ cZ) hD0
  have hA : ∀ a : Nat, s.heap.size ≤ a → va_A (wX q cI cJ cZ u00) s.heap.size a := fun _ h => Or.inr h
  have hS : va_S (va_A (wX q cI cJ cZ u00) s.heap.size) s.heap s.heap [] := va_S.rf
  have hiX6 : ∀ w ∈ u_ws RX6 TX6 3, w ∈ wsX6_tellAsk := by decide +kernel
  have hf15 := hts (.fieldLink RX6 15 "TermsDesk$Terms" "along" "[J") (by decide +kernel)
  have hf9 := hts (.fieldLink RX6 9 "TermsDesk$Terms" "asked" "[J") (by decide +kernel)
  have hent := lg_entry_eq m ([.ref (q 1), .int x1, .int x2, .int x3]) 4
  rw [← hargs] at hent
  rw [hent]
  have hl := lv_entry ([.ref (q 1), .int x1, .int x2, .int x3]) (n := 4) (Nat.le_of_ble_eq_true rfl)
  generalize (lg_sl ([.ref (q 1), .int x1, .int x2, .int x3]) ++ List.replicate (4 - (lg_sl ([.ref (q 1), .int x1, .int x2, .int x3])).length) Slot.unset).toArray = ls at hl ⊢
  have hl : lv_has ls 4 [(0, .ref (q 1)), (1, .int x1), (2, .int x2), (3, .int x3)] := hl
  unfold wp_X6_tellAsk at hw
  refine lv_aload_n hx hb dX6_tellAsk_0 rfl (lv_at hl 0 rfl) ?_
  refine va_get (D := D) (ci := 6) (v := .ref (q 9)) (C := RX6) (T := TX6) (N := 3) hx hb hts hiX6 hown hK hP 1 rfl rfl 0 (by decide) hf9 (fun _ h9 => h9) rfl dX6_tellAsk_1 ?_
  refine lv_iload_n hx hb dX6_tellAsk_4 rfl (lv_at hl 1 rfl) ?_
  refine lv_iload_n hx hb dX6_tellAsk_5 rfl (lv_at hl 2 rfl) ?_
  refine cMv (sh_wX q cI cJ cZ) (u := u) (va_runS (As := [.ref (q 9), .int x1, .int x2]) (rest := []) ⟨hx, hb, hml, hown, hts⟩ (c_X6_spread_c9 l D q cI cJ cZ _ u x1 x2 _ hw) (va_cwS 3 hts gX6_tellAsk_X6_spread rfl rfl rfl (by decide +kernel) ⟨Nat.le_of_ble_eq_true rfl, Nat.le_of_ble_eq_true rfl⟩) (psM hK hP hD hN) rfl rfl hl.1 rfl (lv_room (Nat.le_of_ble_eq_true rfl)) dX6_tellAsk_6 ⟨Nat.zero_le _, Nat.zero_le _⟩) hA hD hS (fun u1 H locs hw hP hD hS => ?_)
  refine lv_aload_n hx hb dX6_tellAsk_9 rfl (lv_at hl 0 rfl) ?_
  refine va_get (D := D) (ci := 6) (v := .ref (q 10)) (C := RX6) (T := TX6) (N := 3) hx hb hts hiX6 hown hK hP 1 rfl rfl 1 (by decide) hf15 (fun _ h9 => h9) rfl dX6_tellAsk_10 ?_
  refine lv_iload_n hx hb dX6_tellAsk_13 rfl (lv_at hl 1 rfl) ?_
  refine lv_iload_n hx hb dX6_tellAsk_14 rfl (lv_at hl 3 rfl) ?_
  refine cMv (sh_wX q cI cJ cZ) (u := u1) (va_runS (As := [.ref (q 10), .int x1, .int x3]) (rest := []) ⟨hx, hb, hml, hown, hts⟩ (c_X6_spread_c10 l D q cI cJ cZ _ u1 x1 x3 _ hw) (va_cwS 3 hts gX6_tellAsk_X6_spread rfl rfl rfl (by decide +kernel) ⟨Nat.le_of_ble_eq_true rfl, Nat.le_of_ble_eq_true rfl⟩) (psM hK hP hD hN) rfl rfl hl.1 rfl (lv_room (Nat.le_of_ble_eq_true rfl)) dX6_tellAsk_15 ⟨Nat.zero_le _, Nat.zero_le _⟩) hA hD hS (fun u2 H locs hw hP hD hS => ?_)
  exact W.vret hx hb hr (fun t ht hW => ⟨⟨u2, rfl, hw, by show va_P D vwCl _ t.heap; rw [ht]; exact hP⟩, hS.F ht⟩) hS.2.2 dX6_tellAsk_18
set_option maxHeartbeats 4000000 in
set_option maxRecDepth 100000 in
theorem c_X8_asks (l : Launch) (D : va_G) (q : Nat → Nat) (cI cJ cZ : ClassId) (sz : Nat) (u : WU) (x1 : Int32) (x2 : Int32) (x3 : Int32) (x4 : Int32) (post : Int32 → WU → Prop) (hw : wp_X8_asks x1 x2 x3 x4 u post) : Met l yX8_asks wsX8_asks rm_X8_asks (va_Pc [.ref (q 0), .int x1, .int x2, .int x3, .int x4] (MW D (ty3 cI cJ cZ) (wX q cI cJ cZ u) sz)) (va_Qi post (fun u' t => va_P D vwCl (wX q cI cJ cZ u') t.heap) (va_A (wX q cI cJ cZ u00) sz)) 0 0 (va_A (wX q cI cJ cZ u00) sz) := by
  refine Met.ofW (cc := cX8_asks) (maxL := 5) (ret := (some .boolean)) (by decide) rfl ?_
  intro p e s m args below meth c s₁ B hml hv
  obtain ⟨hargs, hsz, hP, hK, hD0, hN⟩ := hv
  have hx := B.exec
  have hb := B.bytes
  have hr := B.returns
  have hts := atoms_spec (ws := wsX8_asks) B.pre
  have hown : s.vm.findClass RX8 = some m.cls := findClass_of_methodNamed B.named
  have hlocks := B.notSynchronized
  subst hsz
  have hD := shw_self (sz := s.heap.size) (sh_wX q cI cJ cZ) hD0
  have hA : ∀ a : Nat, s.heap.size ≤ a → va_A (wX q cI cJ cZ u00) s.heap.size a := fun _ h => Or.inr h
  have hS : va_S (va_A (wX q cI cJ cZ u00) s.heap.size) s.heap s.heap [] := va_S.rf
  have hiX8 : ∀ w ∈ u_ws RX8 TX8 8, w ∈ wsX8_asks := by decide +kernel
  have hf12 := hts (.fieldLink RX8 12 "TermsDesk" "terms" "LTermsDesk$Terms;") (by decide +kernel)
  have hent := lg_entry_eq m ([.ref (q 0), .int x1, .int x2, .int x3, .int x4]) 5
  rw [← hargs] at hent
  rw [hent]
  have hl := lv_entry ([.ref (q 0), .int x1, .int x2, .int x3, .int x4]) (n := 5) (Nat.le_of_ble_eq_true rfl)
  generalize (lg_sl ([.ref (q 0), .int x1, .int x2, .int x3, .int x4]) ++ List.replicate (5 - (lg_sl ([.ref (q 0), .int x1, .int x2, .int x3, .int x4])).length) Slot.unset).toArray = ls at hl ⊢
  have hl : lv_has ls 5 [(0, .ref (q 0)), (1, .int x1), (2, .int x2), (3, .int x3), (4, .int x4)] := hl
  unfold wp_X8_asks at hw
  refine lv_iload_n hx hb dX8_asks_0 rfl (lv_at hl 1 rfl) ?_
  refine lv_iload_n hx hb dX8_asks_1 rfl (lv_at hl 2 rfl) ?_
  refine vp_callSi (va_Run.run (va_runS (As := [.int x1, .int x2]) (rest := []) ⟨hx, hb, hml, hown, hts⟩ (c_X8_isPair l x1 x2 _ hw) (va_cwS 2 hts gX8_asks_X8_isPair rfl rfl rfl (by decide +kernel) ⟨Nat.le_of_ble_eq_true rfl, Nat.le_of_ble_eq_true rfl⟩) (psS hN) rfl rfl hl.1 rfl (lv_room (Nat.le_of_ble_eq_true rfl)) dX8_asks_2 ⟨Nat.zero_le _, Nat.zero_le _⟩)) (fun r1 hw => ?_)
  refine lv_if_eq (tgt := 27) hx hb dX8_asks_5 (by decide) (fun hc => ?_) (fun hc => ?_)
  · have hw := hw.1 hc
    refine lv_iconst (v := 0) hx hb dX8_asks_27 (by decide) ?_
    exact W.zret (v := 0) hx hb hr rfl (fun t ht hW => ⟨⟨0, u, rfl, hw, by show va_P D vwCl _ t.heap; rw [ht]; exact hP⟩, hS.F ht⟩) hS.2.2 dX8_asks_28
  · have hw := hw.2 hc
    refine lv_iload_n hx hb dX8_asks_8 rfl (lv_at hl 3 rfl) ?_
    refine lv_bipush (v := 16) hx hb dX8_asks_9 (by decide) ?_
    refine vp_callSi (va_Run.run (va_runS (As := [.int x3, .int 16]) (rest := []) ⟨hx, hb, hml, hown, hts⟩ (c_X8_within l x3 16 _ hw) (va_cwS 2 hts gX8_asks_X8_within rfl rfl rfl (by decide +kernel) ⟨Nat.le_of_ble_eq_true rfl, Nat.le_of_ble_eq_true rfl⟩) (psS hN) rfl rfl hl.1 rfl (lv_room (Nat.le_of_ble_eq_true rfl)) dX8_asks_11 ⟨Nat.zero_le _, Nat.zero_le _⟩)) (fun r2 hw => ?_)
    refine lv_if_eq (tgt := 27) hx hb dX8_asks_14 (by decide) (fun hc => ?_) (fun hc => ?_)
    · have hw := hw.1 hc
      refine lv_iconst (v := 0) hx hb dX8_asks_27 (by decide) ?_
      exact W.zret (v := 0) hx hb hr rfl (fun t ht hW => ⟨⟨0, u, rfl, hw, by show va_P D vwCl _ t.heap; rw [ht]; exact hP⟩, hS.F ht⟩) hS.2.2 dX8_asks_28
    · have hw := hw.2 hc
      refine lv_iload hx hb dX8_asks_17 (lv_at hl 4 rfl) ?_
      refine lv_bipush (v := 16) hx hb dX8_asks_19 (by decide) ?_
      refine vp_callSi (va_Run.run (va_runS (As := [.int x4, .int 16]) (rest := []) ⟨hx, hb, hml, hown, hts⟩ (c_X8_within l x4 16 _ hw) (va_cwS 2 hts gX8_asks_X8_within rfl rfl rfl (by decide +kernel) ⟨Nat.le_of_ble_eq_true rfl, Nat.le_of_ble_eq_true rfl⟩) (psS hN) rfl rfl hl.1 rfl (lv_room (Nat.le_of_ble_eq_true rfl)) dX8_asks_21 ⟨Nat.zero_le _, Nat.zero_le _⟩)) (fun r3 hw => ?_)
      refine lv_if_ne (tgt := 29) hx hb dX8_asks_24 (by decide) (fun hc => ?_) (fun hc => ?_)
      · have hw := hw.1 hc
        refine lv_aload_n hx hb dX8_asks_29 rfl (lv_at hl 0 rfl) ?_
        refine va_get (D := D) (ci := 8) (v := .ref (q 1)) (C := RX8) (T := TX8) (N := 8) hx hb hts hiX8 hown hK hP 0 rfl rfl 0 (by decide) hf12 (fun _ h9 => h9) rfl dX8_asks_30 ?_
        refine lv_iload_n hx hb dX8_asks_33 rfl (lv_at hl 1 rfl) ?_
        refine lv_iload_n hx hb dX8_asks_34 rfl (lv_at hl 2 rfl) ?_
        refine vp_callSi (va_Run.run (va_runS (As := [.int x1, .int x2]) (rest := [.ref (q 1)]) ⟨hx, hb, hml, hown, hts⟩ (c_X8_pairOf l x1 x2 _ hw) (va_cwS 2 hts gX8_asks_X8_pairOf rfl rfl rfl (by decide +kernel) ⟨Nat.le_of_ble_eq_true rfl, Nat.le_of_ble_eq_true rfl⟩) (psS hN) rfl rfl hl.1 rfl (lv_room (Nat.le_of_ble_eq_true rfl)) dX8_asks_35 ⟨Nat.zero_le _, Nat.zero_le _⟩)) (fun r4 hw => ?_)
        refine lv_iload_n hx hb dX8_asks_38 rfl (lv_at hl 3 rfl) ?_
        refine lv_iload hx hb dX8_asks_39 (lv_at hl 4 rfl) ?_
        refine cMv (sh_wX q cI cJ cZ) (u := u) (va_runV (As := [.int r4, .int x3, .int x4]) (rest := []) ⟨hx, hb, hml, hown, hts⟩ (c_X6_tellAsk l D q cI cJ cZ _ u r4 x3 x4 _ hw) (cwV 3 hts gX8_asks_X6_tellAsk rfl rfl rfl (by decide +kernel) ⟨Nat.le_of_ble_eq_true rfl, Nat.le_of_ble_eq_true rfl⟩) (pvM (va_recv hK hP (ci := 6) (q0 := 1) (q := (RX6, TX6, 3)) rfl rfl) hK hP hD hN) rfl rfl hl.1 rfl (lv_room (Nat.le_of_ble_eq_true rfl)) dX8_asks_41 ⟨Nat.zero_le _, Nat.zero_le _⟩) hA hD hS (fun u5 H locs hw hP hD hS => ?_)
        refine lv_iconst (v := 1) hx hb dX8_asks_44 (by decide) ?_
        exact W.zret (v := 1) hx hb hr rfl (fun t ht hW => ⟨⟨1, u5, rfl, hw, by show va_P D vwCl _ t.heap; rw [ht]; exact hP⟩, hS.F ht⟩) hS.2.2 dX8_asks_45
      · have hw := hw.2 hc
        refine lv_iconst (v := 0) hx hb dX8_asks_27 (by decide) ?_
        exact W.zret (v := 0) hx hb hr rfl (fun t ht hW => ⟨⟨0, u, rfl, hw, by show va_P D vwCl _ t.heap; rw [ht]; exact hP⟩, hS.F ht⟩) hS.2.2 dX8_asks_28
set_option maxHeartbeats 4000000 in
set_option maxRecDepth 100000 in
theorem c_X9_bit (l : Launch) (x0 : Int32) (x1 : Int32) (post : Int64 → Prop) (hw : wp_X9_bit x0 x1 post) : Met l yX9_bit wsX9_bit rm_X9_bit (va_Pc [.int x0, .int x1] NW) (vp_Sl post) 0 0 (fun _ => False) := by
  refine Met.ofW (cc := cX9_bit) (maxL := 2) (ret := (some .long)) (by decide) rfl ?_
  intro p e s m args below meth c s₁ B hml hv
  obtain ⟨hargs, hN⟩ := hv
  have hx := B.exec
  have hb := B.bytes
  have hr := B.returns
  have hts := atoms_spec (ws := wsX9_bit) B.pre
  have hown : s.vm.findClass RX9 = some m.cls := findClass_of_methodNamed B.named
  have hlocks := B.notSynchronized
  have hent := lg_entry_eq m ([.int x0, .int x1]) 2
  rw [← hargs] at hent
  rw [hent]
  have hl := lv_entry ([.int x0, .int x1]) (n := 2) (Nat.le_of_ble_eq_true rfl)
  generalize (lg_sl ([.int x0, .int x1]) ++ List.replicate (2 - (lg_sl ([.int x0, .int x1])).length) Slot.unset).toArray = ls at hl ⊢
  have hl : lv_has ls 2 [(0, .int x0), (1, .int x1)] := hl
  unfold wp_X9_bit at hw
  refine lv_lconst (v := 1) hx hb dX9_bit_0 (by decide) ?_
  refine lv_bipush (v := 8) hx hb dX9_bit_1 (by decide) ?_
  refine lv_iload_n hx hb dX9_bit_3 rfl (lv_at hl 0 rfl) ?_
  refine lv_imul hx hb dX9_bit_4 ?_
  refine lv_iload_n hx hb dX9_bit_5 rfl (lv_at hl 1 rfl) ?_
  refine lv_iadd hx hb dX9_bit_6 ?_
  refine lv_lshl (v := jshl 1 ((8 * x0) + x1)) hx hb dX9_bit_7 rfl ?_
  exact W.lret (v := jshl 1 ((8 * x0) + x1)) hx hb hr (fun t ht hW => ⟨jshl 1 ((8 * x0) + x1), rfl, hw, ht⟩) (fun _ h => by cases h) dX9_bit_8
set_option maxHeartbeats 4000000 in
set_option maxRecDepth 100000 in
theorem c_X9_lies (l : Launch) (x0 : Int32) (x1 : Int32) (x2 : Int32) (post : Int32 → Prop) (hw : wp_X9_lies x0 x1 x2 post) : Met l yX9_lies wsX9_lies rm_X9_lies (va_Pc [.int x0, .int x1, .int x2] NW) (vp_Si post) 0 0 (fun _ => False) := by
  refine Met.ofW (cc := cX9_lies) (maxL := 3) (ret := (some .boolean)) (by decide) rfl ?_
  intro p e s m args below meth c s₁ B hml hv
  obtain ⟨hargs, hN⟩ := hv
  have hx := B.exec
  have hb := B.bytes
  have hr := B.returns
  have hts := atoms_spec (ws := wsX9_lies) B.pre
  have hown : s.vm.findClass RX9 = some m.cls := findClass_of_methodNamed B.named
  have hlocks := B.notSynchronized
  have hent := lg_entry_eq m ([.int x0, .int x1, .int x2]) 3
  rw [← hargs] at hent
  rw [hent]
  have hl := lv_entry ([.int x0, .int x1, .int x2]) (n := 3) (Nat.le_of_ble_eq_true rfl)
  generalize (lg_sl ([.int x0, .int x1, .int x2]) ++ List.replicate (3 - (lg_sl ([.int x0, .int x1, .int x2])).length) Slot.unset).toArray = ls at hl ⊢
  have hl : lv_has ls 3 [(0, .int x0), (1, .int x1), (2, .int x2)] := hl
  unfold wp_X9_lies at hw
  refine lv_iload_n hx hb dX9_lies_0 rfl (lv_at hl 0 rfl) ?_
  refine lv_iload_n hx hb dX9_lies_1 rfl (lv_at hl 1 rfl) ?_
  refine lv_icmp_lt (tgt := 14) hx hb dX9_lies_2 (by decide) (fun hc => ?_) (fun hc => ?_)
  · have hw := hw.1 hc
    refine lv_iconst (v := 0) hx hb dX9_lies_14 (by decide) ?_
    exact W.zret (v := 0) hx hb hr rfl (fun t ht hW => ⟨0, rfl, hw, ht⟩) (fun _ h => by cases h) dX9_lies_15
  · have hw := hw.2 hc
    refine lv_iload_n hx hb dX9_lies_5 rfl (lv_at hl 0 rfl) ?_
    refine lv_iload_n hx hb dX9_lies_6 rfl (lv_at hl 2 rfl) ?_
    refine lv_icmp_gt (tgt := 14) hx hb dX9_lies_7 (by decide) (fun hc => ?_) (fun hc => ?_)
    · have hw := hw.1 hc
      refine lv_iconst (v := 0) hx hb dX9_lies_14 (by decide) ?_
      exact W.zret (v := 0) hx hb hr rfl (fun t ht hW => ⟨0, rfl, hw, ht⟩) (fun _ h => by cases h) dX9_lies_15
    · have hw := hw.2 hc
      refine lv_iconst (v := 1) hx hb dX9_lies_10 (by decide) ?_
      refine lv_goto (tgt := 15) hx hb dX9_lies_11 (by decide) ?_
      exact W.zret (v := 1) hx hb hr rfl (fun t ht hW => ⟨1, rfl, hw, ht⟩) (fun _ h => by cases h) dX9_lies_15
set_option maxHeartbeats 4000000 in
set_option maxRecDepth 100000 in
theorem c_X9_isLicence (l : Launch) (x0 : Int32) (post : Int32 → Prop) (hw : wp_X9_isLicence x0 post) : Met l yX9_isLicence wsX9_isLicence rm_X9_isLicence (va_Pc [.int x0] NW) (vp_Si post) 0 0 (fun _ => False) := by
  refine Met.ofW (cc := cX9_isLicence) (maxL := 1) (ret := (some .boolean)) (by decide) rfl ?_
  intro p e s m args below meth c s₁ B hml hv
  obtain ⟨hargs, hN⟩ := hv
  have hx := B.exec
  have hb := B.bytes
  have hr := B.returns
  have hts := atoms_spec (ws := wsX9_isLicence) B.pre
  have hown : s.vm.findClass RX9 = some m.cls := findClass_of_methodNamed B.named
  have hlocks := B.notSynchronized
  have hent := lg_entry_eq m ([.int x0]) 1
  rw [← hargs] at hent
  rw [hent]
  have hl := lv_entry ([.int x0]) (n := 1) (Nat.le_of_ble_eq_true rfl)
  generalize (lg_sl ([.int x0]) ++ List.replicate (1 - (lg_sl ([.int x0])).length) Slot.unset).toArray = ls at hl ⊢
  have hl : lv_has ls 1 [(0, .int x0)] := hl
  unfold wp_X9_isLicence at hw
  refine lv_iload_n hx hb dX9_isLicence_0 rfl (lv_at hl 0 rfl) ?_
  refine lv_iconst (v := 0) hx hb dX9_isLicence_1 (by decide) ?_
  refine lv_bipush (v := 7) hx hb dX9_isLicence_2 (by decide) ?_
  refine vp_callSi (va_Run.run (va_runS (As := [.int x0, .int 0, .int 7]) (rest := []) ⟨hx, hb, hml, hown, hts⟩ (c_X9_lies l x0 0 7 _ hw) (va_cwS 3 hts gX9_isLicence_X9_lies rfl rfl rfl (by decide +kernel) ⟨Nat.le_of_ble_eq_true rfl, Nat.le_of_ble_eq_true rfl⟩) (psS hN) rfl rfl hl.1 rfl (lv_room (Nat.le_of_ble_eq_true rfl)) dX9_isLicence_4 ⟨Nat.zero_le _, Nat.zero_le _⟩)) (fun r1 hw => ?_)
  obtain ⟨hn, hw⟩ := hw
  exact W.zret (v := r1) hx hb hr hn (fun t ht hW => ⟨r1, rfl, hw, ht⟩) (fun _ h => by cases h) dX9_isLicence_7
set_option maxHeartbeats 4000000 in
set_option maxRecDepth 100000 in
theorem c_X9_asks (l : Launch) (D : va_G) (q : Nat → Nat) (cI cJ cZ : ClassId) (sz : Nat) (u : WU) (x1 : Int32) (x2 : Int32) (x3 : Int32) (x4 : Int32) (post : Int32 → WU → Prop) (hw : wp_X9_asks x1 x2 x3 x4 u post) : Met l yX9_asks wsX9_asks rm_X9_asks (va_Pc [.ref (q 0), .int x1, .int x2, .int x3, .int x4] (MW D (ty3 cI cJ cZ) (wM q cI cJ cZ u) sz)) (va_Qi post (fun u' t => va_P D vwCl (wM q cI cJ cZ u') t.heap) (va_A (wM q cI cJ cZ u00) sz)) 0 0 (va_A (wM q cI cJ cZ u00) sz) := by
  refine Met.ofW (cc := cX9_asks) (maxL := 6) (ret := (some .boolean)) (by decide) rfl ?_
  intro p e s m args below meth c s₁ B hml hv
  obtain ⟨hargs, hsz, hP, hK, hD0, hN⟩ := hv
  have hx := B.exec
  have hb := B.bytes
  have hr := B.returns
  have hts := atoms_spec (ws := wsX9_asks) B.pre
  have hown : s.vm.findClass RX9 = some m.cls := findClass_of_methodNamed B.named
  have hlocks := B.notSynchronized
  subst hsz
  have hD := shw_self (sz := s.heap.size) (sh_wM q cI cJ cZ) hD0
  have hA : ∀ a : Nat, s.heap.size ≤ a → va_A (wM q cI cJ cZ u00) s.heap.size a := fun _ h => Or.inr h
  have hS : va_S (va_A (wM q cI cJ cZ u00) s.heap.size) s.heap s.heap [] := va_S.rf
  have hiX9 : ∀ w ∈ u_ws RX9 TX9 30, w ∈ wsX9_asks := by decide +kernel
  have hc103 := hts (.constantLong RX9 103 (-1)) (by decide +kernel)
  have hf13 := hts (.fieldLink RX9 13 "TermsDeskModel" "along" "[J") (by decide +kernel)
  have hf7 := hts (.fieldLink RX9 7 "TermsDeskModel" "asked" "[I") (by decide +kernel)
  have J140 : ∀ {K43 : Int32 → WU → Prop} (x1 : Int32) (x2 : Int32) (x3 : Int32) (x4 : Int32) (x5 : Int32) (u : WU) (H : Heap) (locs : List Loc), wp_X9_asks_J140 x1 x2 x3 x4 x5 u post K43 → va_P D vwCl (wM q cI cJ cZ u) H → va_D (va_A (wM q cI cJ cZ u00) s.heap.size) (wM q cI cJ cZ u) → va_S (va_A (wM q cI cJ cZ u00) s.heap.size) s.heap H locs → ∀ ls : Array Slot, lv_has ls 6 [(0, .ref (q 0)), (1, .int x1), (2, .int x2), (3, .int x3), (4, .int x4), (5, .int x5)] → (∀ (x5 : Int32) (u : WU) (H : Heap) (locs : List Loc), K43 x5 u → va_P D vwCl (wM q cI cJ cZ u) H → va_D (va_A (wM q cI cJ cZ u00) s.heap.size) (wM q cI cJ cZ u) → va_S (va_A (wM q cI cJ cZ u00) s.heap.size) s.heap H locs → ∀ ls : Array Slot, lv_has ls 6 [(0, .ref (q 0)), (1, .int x1), (2, .int x2), (3, .int x3), (4, .int x4), (5, .int x5)] → W p l e (headSpec wsX9_asks rm_X9_asks).room s m args below meth c H locs 0 0 (MQ below (va_Qi post (fun u' t => va_P D vwCl (wM q cI cJ cZ u') t.heap) (va_A (wM q cI cJ cZ u00) s.heap.size)) args s 0 0 (va_A (wM q cI cJ cZ u00) s.heap.size)) (F0 m 43 ls [])) → W p l e (headSpec wsX9_asks rm_X9_asks).room s m args below meth c H locs 0 0 (MQ below (va_Qi post (fun u' t => va_P D vwCl (wM q cI cJ cZ u') t.heap) (va_A (wM q cI cJ cZ u00) s.heap.size)) args s 0 0 (va_A (wM q cI cJ cZ u00) s.heap.size)) (F0 m 140 ls []) := by
    intro K43 x1 x2 x3 x4 x5 u H locs hw hP hD hS ls hl k43
    unfold wp_X9_asks_J140 at hw
    obtain ⟨y15, ey15⟩ : ∃ z : Int32, z = x5 + 1 := ⟨_, rfl⟩
    have hw := hw y15 ey15
    refine lv_iinc (v := y15) (lv' := [(5, .int y15), (0, .ref (q 0)), (1, .int x1), (2, .int x2), (3, .int x3), (4, .int x4)]) hx hb dX9_asks_140 hl (k := 5) rfl (by rw [ey15]; rfl) (by decide) rfl (fun ls hl => ?_)
    refine lv_goto (tgt := 43) hx hb dX9_asks_143 (by decide) ?_
    exact k43 y15 u _ _ hw hP hD hS ls (lv_sub hl [1, 2, 3, 4, 5, 0] rfl)
  have J95 : ∀ {K43 : Int32 → WU → Prop} (x1 : Int32) (x2 : Int32) (x3 : Int32) (x4 : Int32) (x5 : Int32) (u : WU) (H : Heap) (locs : List Loc), wp_X9_asks_J95 x1 x2 x3 x4 x5 u post K43 → va_P D vwCl (wM q cI cJ cZ u) H → va_D (va_A (wM q cI cJ cZ u00) s.heap.size) (wM q cI cJ cZ u) → va_S (va_A (wM q cI cJ cZ u00) s.heap.size) s.heap H locs → ∀ ls : Array Slot, lv_has ls 6 [(0, .ref (q 0)), (1, .int x1), (2, .int x2), (3, .int x3), (4, .int x4), (5, .int x5)] → (∀ (x5 : Int32) (u : WU) (H : Heap) (locs : List Loc), K43 x5 u → va_P D vwCl (wM q cI cJ cZ u) H → va_D (va_A (wM q cI cJ cZ u00) s.heap.size) (wM q cI cJ cZ u) → va_S (va_A (wM q cI cJ cZ u00) s.heap.size) s.heap H locs → ∀ ls : Array Slot, lv_has ls 6 [(0, .ref (q 0)), (1, .int x1), (2, .int x2), (3, .int x3), (4, .int x4), (5, .int x5)] → W p l e (headSpec wsX9_asks rm_X9_asks).room s m args below meth c H locs 0 0 (MQ below (va_Qi post (fun u' t => va_P D vwCl (wM q cI cJ cZ u') t.heap) (va_A (wM q cI cJ cZ u00) s.heap.size)) args s 0 0 (va_A (wM q cI cJ cZ u00) s.heap.size)) (F0 m 43 ls [])) → W p l e (headSpec wsX9_asks rm_X9_asks).room s m args below meth c H locs 0 0 (MQ below (va_Qi post (fun u' t => va_P D vwCl (wM q cI cJ cZ u') t.heap) (va_A (wM q cI cJ cZ u00) s.heap.size)) args s 0 0 (va_A (wM q cI cJ cZ u00) s.heap.size)) (F0 m 95 ls []) := by
    intro K43 x1 x2 x3 x4 x5 u H locs hw hP hD hS ls hl k43
    unfold wp_X9_asks_J95 at hw
    refine lv_aload_n hx hb dX9_asks_95 rfl (lv_at hl 0 rfl) ?_
    refine va_get (D := D) (ci := 9) (v := .ref (q 2)) (C := RX9) (T := TX9) (N := 30) hx hb hts hiX9 hown hK hP 0 rfl rfl 1 (by decide) hf13 (fun _ h9 => h9) rfl dX9_asks_96 ?_
    refine lv_iload hx hb dX9_asks_99 (lv_at hl 5 rfl) ?_
    refine lv_dup2_11 hx hb dX9_asks_101 rfl rfl ?_
    obtain ⟨hin, hw⟩ := hw
    refine va_lald hx hb hK hP 2 1 rfl rfl hin dX9_asks_102 ?_
    refine lv_iload_n hx hb dX9_asks_103 rfl (lv_at hl 1 rfl) ?_
    refine lv_iload_n hx hb dX9_asks_104 rfl (lv_at hl 2 rfl) ?_
    refine vp_callSl (va_Run.run (va_runS (As := [.int x1, .int x2]) (rest := [.long (u.2 0 x5.toNatClampNeg), .int x5, .ref (q 2)]) ⟨hx, hb, hml, hown, hts⟩ (c_X9_bit l x1 x2 _ hw) (va_cwS 2 hts gX9_asks_X9_bit rfl rfl rfl (by decide +kernel) ⟨Nat.le_of_ble_eq_true rfl, Nat.le_of_ble_eq_true rfl⟩) (psS hN) rfl rfl hl.1 rfl (lv_room (Nat.le_of_ble_eq_true rfl)) dX9_asks_105 ⟨Nat.zero_le _, Nat.zero_le _⟩)) (fun r7 hw => ?_)
    refine lv_ldc2 (v := (-1)) hx hb hown hc103 dX9_asks_108 ?_
    refine lv_lxor hx hb dX9_asks_111 ?_
    refine lv_land hx hb dX9_asks_112 ?_
    obtain ⟨hin, hw⟩ := hw
    refine sLast (w := wM q cI cJ cZ) hx hb hK hP hD hS 2 1 0 rfl rfl (wMa_2 q cI cJ cZ u) hin dX9_asks_113 (fun u8 H locs eu8 hP hD hS => ?_)
    have hw := hw u8 eu8
    refine lv_iload hx hb dX9_asks_114 (lv_at hl 4 rfl) ?_
    refine lv_iload hx hb dX9_asks_116 (lv_at hl 5 rfl) ?_
    refine lv_ishr hx hb dX9_asks_118 ?_
    refine lv_iconst (v := 1) hx hb dX9_asks_119 (by decide) ?_
    refine lv_iand hx hb dX9_asks_120 ?_
    refine lv_iconst (v := 1) hx hb dX9_asks_121 (by decide) ?_
    refine lv_icmp_ne (tgt := 140) hx hb dX9_asks_122 (by decide) (fun hc => ?_) (fun hc => ?_)
    · have hw := hw.1 hc
      refine J140 x1 x2 x3 x4 x5 u8 _ _ hw hP hD hS ls (lv_sub hl [0, 1, 2, 3, 4, 5] rfl) (fun y9 u10 H locs hw hP hD hS ls hl => ?_)
      exact k43 y9 u10 _ _ hw hP hD hS ls (lv_sub hl [0, 1, 2, 3, 4, 5] rfl)
    · have hw := hw.2 hc
      refine lv_aload_n hx hb dX9_asks_125 rfl (lv_at hl 0 rfl) ?_
      refine va_get (D := D) (ci := 9) (v := .ref (q 2)) (C := RX9) (T := TX9) (N := 30) hx hb hts hiX9 hown hK hP 0 rfl rfl 1 (by decide) hf13 (fun _ h9 => h9) rfl dX9_asks_126 ?_
      refine lv_iload hx hb dX9_asks_129 (lv_at hl 5 rfl) ?_
      refine lv_dup2_11 hx hb dX9_asks_131 rfl rfl ?_
      obtain ⟨hin, hw⟩ := hw
      refine va_lald hx hb hK hP 2 1 rfl rfl hin dX9_asks_132 ?_
      refine lv_iload_n hx hb dX9_asks_133 rfl (lv_at hl 1 rfl) ?_
      refine lv_iload_n hx hb dX9_asks_134 rfl (lv_at hl 2 rfl) ?_
      refine vp_callSl (va_Run.run (va_runS (As := [.int x1, .int x2]) (rest := [.long (u8.2 0 x5.toNatClampNeg), .int x5, .ref (q 2)]) ⟨hx, hb, hml, hown, hts⟩ (c_X9_bit l x1 x2 _ hw) (va_cwS 2 hts gX9_asks_X9_bit rfl rfl rfl (by decide +kernel) ⟨Nat.le_of_ble_eq_true rfl, Nat.le_of_ble_eq_true rfl⟩) (psS hN) rfl rfl hl.1 rfl (lv_room (Nat.le_of_ble_eq_true rfl)) dX9_asks_135 ⟨Nat.zero_le _, Nat.zero_le _⟩)) (fun r11 hw => ?_)
      refine lv_lor hx hb dX9_asks_138 ?_
      obtain ⟨hin, hw⟩ := hw
      refine sLast (w := wM q cI cJ cZ) hx hb hK hP hD hS 2 1 0 rfl rfl (wMa_2 q cI cJ cZ u8) hin dX9_asks_139 (fun u12 H locs eu12 hP hD hS => ?_)
      have hw := hw u12 eu12
      refine J140 x1 x2 x3 x4 x5 u12 _ _ hw hP hD hS ls (lv_sub hl [0, 1, 2, 3, 4, 5] rfl) (fun y13 u14 H locs hw hP hD hS ls hl => ?_)
      exact k43 y13 u14 _ _ hw hP hD hS ls (lv_sub hl [0, 1, 2, 3, 4, 5] rfl)
  have L43 : ∀ (x1 : Int32) (x2 : Int32) (x3 : Int32) (x4 : Int32) (n : Nat) (x5 : Int32) (u : WU) (H : Heap) (locs : List Loc), wp_X9_asks_L43 x1 x2 x3 x4 post n x5 u → va_P D vwCl (wM q cI cJ cZ u) H → va_D (va_A (wM q cI cJ cZ u00) s.heap.size) (wM q cI cJ cZ u) → va_S (va_A (wM q cI cJ cZ u00) s.heap.size) s.heap H locs → ∀ ls : Array Slot, lv_has ls 6 [(0, .ref (q 0)), (1, .int x1), (2, .int x2), (3, .int x3), (4, .int x4), (5, .int x5)] → W p l e (headSpec wsX9_asks rm_X9_asks).room s m args below meth c H locs 0 0 (MQ below (va_Qi post (fun u' t => va_P D vwCl (wM q cI cJ cZ u') t.heap) (va_A (wM q cI cJ cZ u00) s.heap.size)) args s 0 0 (va_A (wM q cI cJ cZ u00) s.heap.size)) (F0 m 43 ls []) := by
    intro x1 x2 x3 x4 n
    induction n with
    | zero =>
      intro x5 u H locs hw
      exact hw.elim
    | succ n ih =>
      intro x5 u H locs hw hP hD hS ls hl 
      unfold wp_X9_asks_L43 at hw
      refine lv_iload hx hb dX9_asks_43 (lv_at hl 5 rfl) ?_
      refine lv_iconst (v := 4) hx hb dX9_asks_45 (by decide) ?_
      refine lv_icmp_ge (tgt := 146) hx hb dX9_asks_46 (by decide) (fun hc => ?_) (fun hc => ?_)
      · have hw := hw.1 hc
        refine lv_iconst (v := 1) hx hb dX9_asks_146 (by decide) ?_
        exact W.zret (v := 1) hx hb hr rfl (fun t ht hW => ⟨⟨1, u, rfl, hw, by show va_P D vwCl _ t.heap; rw [ht]; exact hP⟩, hS.F ht⟩) hS.2.2 dX9_asks_147
      · have hw := hw.2 hc
        refine lv_aload_n hx hb dX9_asks_49 rfl (lv_at hl 0 rfl) ?_
        refine va_get (D := D) (ci := 9) (v := .ref (q 1)) (C := RX9) (T := TX9) (N := 30) hx hb hts hiX9 hown hK hP 0 rfl rfl 0 (by decide) hf7 (fun _ h9 => h9) rfl dX9_asks_50 ?_
        refine lv_iconst (v := 4) hx hb dX9_asks_53 (by decide) ?_
        refine lv_iload_n hx hb dX9_asks_54 rfl (lv_at hl 1 rfl) ?_
        refine lv_imul hx hb dX9_asks_55 ?_
        refine lv_iload hx hb dX9_asks_56 (lv_at hl 5 rfl) ?_
        refine lv_iadd hx hb dX9_asks_58 ?_
        refine lv_dup2_11 hx hb dX9_asks_59 rfl rfl ?_
        obtain ⟨hin, hw⟩ := hw
        refine va_iald hx hb hK hP 1 0 rfl rfl hin dX9_asks_60 ?_
        refine lv_iconst (v := 1) hx hb dX9_asks_61 (by decide) ?_
        refine lv_iload_n hx hb dX9_asks_62 rfl (lv_at hl 2 rfl) ?_
        refine lv_ishl hx hb dX9_asks_63 ?_
        refine lv_iconst (v := (-1)) hx hb dX9_asks_64 (by decide) ?_
        refine lv_ixor hx hb dX9_asks_65 ?_
        refine lv_iand hx hb dX9_asks_66 ?_
        obtain ⟨hin, hw⟩ := hw
        refine sIast (w := wM q cI cJ cZ) hx hb hK hP hD hS 1 0 0 rfl rfl (wMa_1 q cI cJ cZ u) hin dX9_asks_67 (fun u1 H locs eu1 hP hD hS => ?_)
        have hw := hw u1 eu1
        refine lv_iload_n hx hb dX9_asks_68 rfl (lv_at hl 3 rfl) ?_
        refine lv_iload hx hb dX9_asks_69 (lv_at hl 5 rfl) ?_
        refine lv_ishr hx hb dX9_asks_71 ?_
        refine lv_iconst (v := 1) hx hb dX9_asks_72 (by decide) ?_
        refine lv_iand hx hb dX9_asks_73 ?_
        refine lv_iconst (v := 1) hx hb dX9_asks_74 (by decide) ?_
        refine lv_icmp_ne (tgt := 95) hx hb dX9_asks_75 (by decide) (fun hc => ?_) (fun hc => ?_)
        · have hw := hw.1 hc
          refine J95 x1 x2 x3 x4 x5 u1 _ _ hw hP hD hS ls (lv_sub hl [0, 1, 2, 3, 4, 5] rfl) (fun y2 u3 H locs hw hP hD hS ls hl => ?_)
          exact ih y2 u3 _ _ hw hP hD hS ls (lv_sub hl [0, 1, 2, 3, 4, 5] rfl)
        · have hw := hw.2 hc
          refine lv_aload_n hx hb dX9_asks_78 rfl (lv_at hl 0 rfl) ?_
          refine va_get (D := D) (ci := 9) (v := .ref (q 1)) (C := RX9) (T := TX9) (N := 30) hx hb hts hiX9 hown hK hP 0 rfl rfl 0 (by decide) hf7 (fun _ h9 => h9) rfl dX9_asks_79 ?_
          refine lv_iconst (v := 4) hx hb dX9_asks_82 (by decide) ?_
          refine lv_iload_n hx hb dX9_asks_83 rfl (lv_at hl 1 rfl) ?_
          refine lv_imul hx hb dX9_asks_84 ?_
          refine lv_iload hx hb dX9_asks_85 (lv_at hl 5 rfl) ?_
          refine lv_iadd hx hb dX9_asks_87 ?_
          refine lv_dup2_11 hx hb dX9_asks_88 rfl rfl ?_
          obtain ⟨hin, hw⟩ := hw
          refine va_iald hx hb hK hP 1 0 rfl rfl hin dX9_asks_89 ?_
          refine lv_iconst (v := 1) hx hb dX9_asks_90 (by decide) ?_
          refine lv_iload_n hx hb dX9_asks_91 rfl (lv_at hl 2 rfl) ?_
          refine lv_ishl hx hb dX9_asks_92 ?_
          refine lv_ior hx hb dX9_asks_93 ?_
          obtain ⟨hin, hw⟩ := hw
          refine sIast (w := wM q cI cJ cZ) hx hb hK hP hD hS 1 0 0 rfl rfl (wMa_1 q cI cJ cZ u1) hin dX9_asks_94 (fun u4 H locs eu4 hP hD hS => ?_)
          have hw := hw u4 eu4
          refine J95 x1 x2 x3 x4 x5 u4 _ _ hw hP hD hS ls (lv_sub hl [0, 1, 2, 3, 4, 5] rfl) (fun y5 u6 H locs hw hP hD hS ls hl => ?_)
          exact ih y5 u6 _ _ hw hP hD hS ls (lv_sub hl [0, 1, 2, 3, 4, 5] rfl)
  have hent := lg_entry_eq m ([.ref (q 0), .int x1, .int x2, .int x3, .int x4]) 6
  rw [← hargs] at hent
  rw [hent]
  have hl := lv_entry ([.ref (q 0), .int x1, .int x2, .int x3, .int x4]) (n := 6) (Nat.le_of_ble_eq_true rfl)
  generalize (lg_sl ([.ref (q 0), .int x1, .int x2, .int x3, .int x4]) ++ List.replicate (6 - (lg_sl ([.ref (q 0), .int x1, .int x2, .int x3, .int x4])).length) Slot.unset).toArray = ls at hl ⊢
  have hl : lv_has ls 6 [(0, .ref (q 0)), (1, .int x1), (2, .int x2), (3, .int x3), (4, .int x4)] := hl
  unfold wp_X9_asks at hw
  refine lv_iload_n hx hb dX9_asks_0 rfl (lv_at hl 1 rfl) ?_
  refine vp_callSi (va_Run.run (va_runS (As := [.int x1]) (rest := []) ⟨hx, hb, hml, hown, hts⟩ (c_X9_isLicence l x1 _ hw) (va_cwS 1 hts gX9_asks_X9_isLicence rfl rfl rfl (by decide +kernel) ⟨Nat.le_of_ble_eq_true rfl, Nat.le_of_ble_eq_true rfl⟩) (psS hN) rfl rfl hl.1 rfl (lv_room (Nat.le_of_ble_eq_true rfl)) dX9_asks_1 ⟨Nat.zero_le _, Nat.zero_le _⟩)) (fun r16 hw => ?_)
  refine lv_if_eq (tgt := 38) hx hb dX9_asks_4 (by decide) (fun hc => ?_) (fun hc => ?_)
  · have hw := hw.1 hc
    refine lv_iconst (v := 0) hx hb dX9_asks_38 (by decide) ?_
    exact W.zret (v := 0) hx hb hr rfl (fun t ht hW => ⟨⟨0, u, rfl, hw, by show va_P D vwCl _ t.heap; rw [ht]; exact hP⟩, hS.F ht⟩) hS.2.2 dX9_asks_39
  · have hw := hw.2 hc
    refine lv_iload_n hx hb dX9_asks_7 rfl (lv_at hl 2 rfl) ?_
    refine lv_iconst (v := 0) hx hb dX9_asks_8 (by decide) ?_
    refine lv_bipush (v := 7) hx hb dX9_asks_9 (by decide) ?_
    refine vp_callSi (va_Run.run (va_runS (As := [.int x2, .int 0, .int 7]) (rest := []) ⟨hx, hb, hml, hown, hts⟩ (c_X9_lies l x2 0 7 _ hw) (va_cwS 3 hts gX9_asks_X9_lies rfl rfl rfl (by decide +kernel) ⟨Nat.le_of_ble_eq_true rfl, Nat.le_of_ble_eq_true rfl⟩) (psS hN) rfl rfl hl.1 rfl (lv_room (Nat.le_of_ble_eq_true rfl)) dX9_asks_11 ⟨Nat.zero_le _, Nat.zero_le _⟩)) (fun r17 hw => ?_)
    refine lv_if_eq (tgt := 38) hx hb dX9_asks_14 (by decide) (fun hc => ?_) (fun hc => ?_)
    · have hw := hw.1 hc
      refine lv_iconst (v := 0) hx hb dX9_asks_38 (by decide) ?_
      exact W.zret (v := 0) hx hb hr rfl (fun t ht hW => ⟨⟨0, u, rfl, hw, by show va_P D vwCl _ t.heap; rw [ht]; exact hP⟩, hS.F ht⟩) hS.2.2 dX9_asks_39
    · have hw := hw.2 hc
      refine lv_iload_n hx hb dX9_asks_17 rfl (lv_at hl 3 rfl) ?_
      refine lv_iconst (v := 0) hx hb dX9_asks_18 (by decide) ?_
      refine lv_bipush (v := 15) hx hb dX9_asks_19 (by decide) ?_
      refine vp_callSi (va_Run.run (va_runS (As := [.int x3, .int 0, .int 15]) (rest := []) ⟨hx, hb, hml, hown, hts⟩ (c_X9_lies l x3 0 15 _ hw) (va_cwS 3 hts gX9_asks_X9_lies rfl rfl rfl (by decide +kernel) ⟨Nat.le_of_ble_eq_true rfl, Nat.le_of_ble_eq_true rfl⟩) (psS hN) rfl rfl hl.1 rfl (lv_room (Nat.le_of_ble_eq_true rfl)) dX9_asks_21 ⟨Nat.zero_le _, Nat.zero_le _⟩)) (fun r18 hw => ?_)
      refine lv_if_eq (tgt := 38) hx hb dX9_asks_24 (by decide) (fun hc => ?_) (fun hc => ?_)
      · have hw := hw.1 hc
        refine lv_iconst (v := 0) hx hb dX9_asks_38 (by decide) ?_
        exact W.zret (v := 0) hx hb hr rfl (fun t ht hW => ⟨⟨0, u, rfl, hw, by show va_P D vwCl _ t.heap; rw [ht]; exact hP⟩, hS.F ht⟩) hS.2.2 dX9_asks_39
      · have hw := hw.2 hc
        refine lv_iload hx hb dX9_asks_27 (lv_at hl 4 rfl) ?_
        refine lv_iconst (v := 0) hx hb dX9_asks_29 (by decide) ?_
        refine lv_bipush (v := 15) hx hb dX9_asks_30 (by decide) ?_
        refine vp_callSi (va_Run.run (va_runS (As := [.int x4, .int 0, .int 15]) (rest := []) ⟨hx, hb, hml, hown, hts⟩ (c_X9_lies l x4 0 15 _ hw) (va_cwS 3 hts gX9_asks_X9_lies rfl rfl rfl (by decide +kernel) ⟨Nat.le_of_ble_eq_true rfl, Nat.le_of_ble_eq_true rfl⟩) (psS hN) rfl rfl hl.1 rfl (lv_room (Nat.le_of_ble_eq_true rfl)) dX9_asks_32 ⟨Nat.zero_le _, Nat.zero_le _⟩)) (fun r19 hw => ?_)
        refine lv_if_ne (tgt := 40) hx hb dX9_asks_35 (by decide) (fun hc => ?_) (fun hc => ?_)
        · have hw := hw.1 hc
          refine lv_iconst (v := 0) hx hb dX9_asks_40 (by decide) ?_
          refine lv_istore (lv' := [(5, .int 0), (0, .ref (q 0)), (1, .int x1), (2, .int x2), (3, .int x3), (4, .int x4)]) hx hb dX9_asks_41 hl (by decide) rfl (fun ls hl => ?_)
          obtain ⟨nn, hw⟩ := hw
          refine L43 x1 x2 x3 x4 nn 0 u _ _ hw hP hD hS ls (lv_sub hl [1, 2, 3, 4, 5, 0] rfl)
        · have hw := hw.2 hc
          refine lv_iconst (v := 0) hx hb dX9_asks_38 (by decide) ?_
          exact W.zret (v := 0) hx hb hr rfl (fun t ht hW => ⟨⟨0, u, rfl, hw, by show va_P D vwCl _ t.heap; rw [ht]; exact hP⟩, hS.F ht⟩) hS.2.2 dX9_asks_39
