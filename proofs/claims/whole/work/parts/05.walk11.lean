set_option maxHeartbeats 4000000 in
set_option maxRecDepth 100000 in
theorem c_X8_judge (l : Launch) (D : va_G) (q : Nat → Nat) (cI cJ cZ : ClassId) (sz : Nat) (u : WU) (x1 : Int32) (post : Int32 → WU → Prop) (hw : wp_X8_judge x1 u post) : Met l yX8_judge wsX8_judge rm_X8_judge (va_Pc [.ref (q 0), .int x1] (MW D (ty3 cI cJ cZ) (wX q cI cJ cZ u) sz)) (va_Qi post (fun u' t => va_P D vwCl (wX q cI cJ cZ u') t.heap) (va_A (wX q cI cJ cZ u00) sz)) 0 0 (va_A (wX q cI cJ cZ u00) sz) := by
  refine Met.ofW (cc := cX8_judge) (maxL := 2) (ret := (some .int)) (by decide) rfl ?_
  intro p e s m args below meth c s₁ B hml hv
  obtain ⟨hargs, hsz, hP, hK, hD0, hN⟩ := hv
  have hx := B.exec
  have hb := B.bytes
  have hr := B.returns
  have hts := atoms_spec (ws := wsX8_judge) B.pre
  have hown : s.vm.findClass RX8 = some m.cls := findClass_of_methodNamed B.named
  have hlocks := B.notSynchronized
  subst hsz
  have hD := shw_self (sz := s.heap.size) (sh_wX q cI cJ cZ) hD0
  have hA : ∀ a : Nat, s.heap.size ≤ a → va_A (wX q cI cJ cZ u00) s.heap.size a := fun _ h => Or.inr h
  have hS : va_S (va_A (wX q cI cJ cZ u00) s.heap.size) s.heap s.heap [] := va_S.rf
  have hiX5 : ∀ w ∈ u_ws RX5 TX5 6, w ∈ wsX8_judge := by decide +kernel
  have hiX8 : ∀ w ∈ u_ws RX8 TX8 8, w ∈ wsX8_judge := by decide +kernel
  have hf19 := hts (.fieldLink RX8 19 "TermsDesk" "parts" "LTermsDesk$Parts;") (by decide +kernel)
  have hf42 := hts (.fieldLink RX8 42 "TermsDesk" "flow" "LTermsDesk$Flow;") (by decide +kernel)
  have hf51 := hts (.fieldLink RX8 51 "TermsDesk" "chooser" "LTermsDesk$Chooser;") (by decide +kernel)
  have hent := lg_entry_eq m ([.ref (q 0), .int x1]) 2
  rw [← hargs] at hent
  rw [hent]
  have hl := lv_entry ([.ref (q 0), .int x1]) (n := 2) (Nat.le_of_ble_eq_true rfl)
  generalize (lg_sl ([.ref (q 0), .int x1]) ++ List.replicate (2 - (lg_sl ([.ref (q 0), .int x1])).length) Slot.unset).toArray = ls at hl ⊢
  have hl : lv_has ls 2 [(0, .ref (q 0)), (1, .int x1)] := hl
  unfold wp_X8_judge at hw
  refine lv_iload_n hx hb dX8_judge_0 rfl (lv_at hl 1 rfl) ?_
  refine lv_iconst (v := 4) hx hb dX8_judge_1 (by decide) ?_
  refine vp_callSi (va_Run.run (va_runS (As := [.int x1, .int 4]) (rest := []) ⟨hx, hb, hml, hown, hts⟩ (c_X8_within l x1 4 _ hw) (va_cwS 2 hts gX8_judge_X8_within rfl rfl rfl (by decide +kernel) ⟨Nat.le_of_ble_eq_true rfl, Nat.le_of_ble_eq_true rfl⟩) (psS hN) rfl rfl hl.1 rfl (lv_room (Nat.le_of_ble_eq_true rfl)) dX8_judge_2 ⟨Nat.zero_le _, Nat.zero_le _⟩)) (fun r1 hw => ?_)
  refine lv_if_eq (tgt := 29) hx hb dX8_judge_5 (by decide) (fun hc => ?_) (fun hc => ?_)
  · have hw := hw.1 hc
    refine lv_iconst (v := (-1)) hx hb dX8_judge_29 (by decide) ?_
    exact W.iret (v := (-1)) hx hb hr (fun t ht hW => ⟨⟨(-1), u, rfl, hw, by show va_P D vwCl _ t.heap; rw [ht]; exact hP⟩, hS.F ht⟩) hS.2.2 dX8_judge_30
  · have hw := hw.2 hc
    refine lv_aload_n hx hb dX8_judge_8 rfl (lv_at hl 0 rfl) ?_
    refine va_get (D := D) (ci := 8) (v := .ref (q 2)) (C := RX8) (T := TX8) (N := 8) hx hb hts hiX8 hown hK hP 0 rfl rfl 1 (by decide) hf19 (fun _ h9 => h9) rfl dX8_judge_9 ?_
    refine va_getN (D := D) (ci := 5) (v := .int (u.1 20 0)) (C := RX5) (T := TX5) (N := 6) hx hb hts hiX5 hown hK hP 2 rfl rfl 4 (by decide) (va_Nw.use rfl (nf_RX8_96 hN)) (fun _ h9 => h9) rfl dX8_judge_12 ?_
    refine lv_if_eq (tgt := 29) hx hb dX8_judge_15 (by decide) (fun hc => ?_) (fun hc => ?_)
    · have hw := hw.1 hc
      refine lv_iconst (v := (-1)) hx hb dX8_judge_29 (by decide) ?_
      exact W.iret (v := (-1)) hx hb hr (fun t ht hW => ⟨⟨(-1), u, rfl, hw, by show va_P D vwCl _ t.heap; rw [ht]; exact hP⟩, hS.F ht⟩) hS.2.2 dX8_judge_30
    · have hw := hw.2 hc
      refine lv_aload_n hx hb dX8_judge_18 rfl (lv_at hl 0 rfl) ?_
      refine va_get (D := D) (ci := 8) (v := .ref (q 5)) (C := RX8) (T := TX8) (N := 8) hx hb hts hiX8 hown hK hP 0 rfl rfl 4 (by decide) hf42 (fun _ h9 => h9) rfl dX8_judge_19 ?_
      refine vp_callSi (va_Run.run (va_runV (As := []) (rest := []) ⟨hx, hb, hml, hown, hts⟩ (c_X2_wayCount l D q cI cJ cZ u _ hw) (cwV 0 hts gX8_judge_X2_wayCount rfl rfl rfl (by decide +kernel) ⟨Nat.le_of_ble_eq_true rfl, Nat.le_of_ble_eq_true rfl⟩) (pvR (va_recv hK hP (ci := 2) (q0 := 5) (q := (RX2, TX2, 5)) rfl rfl) hK hP hN) rfl rfl hl.1 rfl (lv_room (Nat.le_of_ble_eq_true rfl)) dX8_judge_22 ⟨Nat.zero_le _, Nat.zero_le _⟩)) (fun r2 hw => ?_)
      refine lv_iconst (v := (-1)) hx hb dX8_judge_25 (by decide) ?_
      refine lv_icmp_ne (tgt := 31) hx hb dX8_judge_26 (by decide) (fun hc => ?_) (fun hc => ?_)
      · have hw := hw.1 hc
        refine lv_aload_n hx hb dX8_judge_31 rfl (lv_at hl 0 rfl) ?_
        refine va_get (D := D) (ci := 8) (v := .ref (q 6)) (C := RX8) (T := TX8) (N := 8) hx hb hts hiX8 hown hK hP 0 rfl rfl 5 (by decide) hf51 (fun _ h9 => h9) rfl dX8_judge_32 ?_
        refine lv_iload_n hx hb dX8_judge_35 rfl (lv_at hl 1 rfl) ?_
        refine cMi (sh_wX q cI cJ cZ) (u := u) (va_runV (As := [.int x1]) (rest := []) ⟨hx, hb, hml, hown, hts⟩ (c_X1_takeBest l D q cI cJ cZ _ u x1 _ hw) (cwV 1 hts gX8_judge_X1_takeBest rfl rfl rfl (by decide +kernel) ⟨Nat.le_of_ble_eq_true rfl, Nat.le_of_ble_eq_true rfl⟩) (pvM (va_recv hK hP (ci := 1) (q0 := 6) (q := (RX1, TX1, 10)) rfl rfl) hK hP hD hN) rfl rfl hl.1 rfl (lv_room (Nat.le_of_ble_eq_true rfl)) dX8_judge_36 ⟨Nat.zero_le _, Nat.zero_le _⟩) hA hD hS (fun r4 u3 H locs hw hP hD hS => ?_)
        exact W.iret (v := r4) hx hb hr (fun t ht hW => ⟨⟨r4, u3, rfl, hw, by show va_P D vwCl _ t.heap; rw [ht]; exact hP⟩, hS.F ht⟩) hS.2.2 dX8_judge_39
      · have hw := hw.2 hc
        refine lv_iconst (v := (-1)) hx hb dX8_judge_29 (by decide) ?_
        exact W.iret (v := (-1)) hx hb hr (fun t ht hW => ⟨⟨(-1), u, rfl, hw, by show va_P D vwCl _ t.heap; rw [ht]; exact hP⟩, hS.F ht⟩) hS.2.2 dX8_judge_30
set_option maxHeartbeats 4000000 in
set_option maxRecDepth 100000 in
theorem c_X9_ways (l : Launch) (D : va_G) (q : Nat → Nat) (cI cJ cZ : ClassId) (sz : Nat) (u : WU) (post : Int32 → WU → Prop) (hw : wp_X9_ways u post) : Met l yX9_ways wsX9_ways rm_X9_ways (va_Pc [.ref (q 0)] (MW D (ty3 cI cJ cZ) (wM q cI cJ cZ u) sz)) (va_Qi post (fun u' t => va_P D vwCl (wM q cI cJ cZ u') t.heap) (va_A (wM q cI cJ cZ u00) sz)) 0 0 (va_A (wM q cI cJ cZ u00) sz) := by
  refine Met.ofW (cc := cX9_ways) (maxL := 4) (ret := (some .int)) (by decide) rfl ?_
  intro p e s m args below meth c s₁ B hml hv
  obtain ⟨hargs, hsz, hP, hK, hD0, hN⟩ := hv
  have hx := B.exec
  have hb := B.bytes
  have hr := B.returns
  have hts := atoms_spec (ws := wsX9_ways) B.pre
  have hown : s.vm.findClass RX9 = some m.cls := findClass_of_methodNamed B.named
  have hlocks := B.notSynchronized
  subst hsz
  have hD := shw_self (sz := s.heap.size) (sh_wM q cI cJ cZ) hD0
  have hA : ∀ a : Nat, s.heap.size ≤ a → va_A (wM q cI cJ cZ u00) s.heap.size a := fun _ h => Or.inr h
  have hS : va_S (va_A (wM q cI cJ cZ u00) s.heap.size) s.heap s.heap [] := va_S.rf
  have hiX9 : ∀ w ∈ u_ws RX9 TX9 30, w ∈ wsX9_ways := by decide +kernel
  have hc157 := hts (.constantLong RX9 157 (6561)) (by decide +kernel)
  have hf118 := hts (.fieldLink RX9 118 "TermsDeskModel" "product" "I") (by decide +kernel)
  have hf23 := hts (.fieldLink RX9 23 "TermsDeskModel" "many" "[I") (by decide +kernel)
  have hf57 := hts (.fieldLink RX9 57 "TermsDeskModel" "isReached" "[Z") (by decide +kernel)
  have hf87 := hts (.fieldLink RX9 87 "TermsDeskModel" "parts" "I") (by decide +kernel)
  have J54 : ∀ {K16 : Int64 → Int32 → WU → Prop} (x3 : Int32) (z0 : Int64) (u : WU) (H : Heap) (locs : List Loc), wp_X9_ways_J54 x3 z0 u post K16 → va_P D vwCl (wM q cI cJ cZ u) H → va_D (va_A (wM q cI cJ cZ u00) s.heap.size) (wM q cI cJ cZ u) → va_S (va_A (wM q cI cJ cZ u00) s.heap.size) s.heap H locs → ∀ ls : Array Slot, lv_has ls 4 [(0, .ref (q 0)), (3, .int x3)] → (∀ (x1 : Int64) (x3 : Int32) (u : WU) (H : Heap) (locs : List Loc), K16 x1 x3 u → va_P D vwCl (wM q cI cJ cZ u) H → va_D (va_A (wM q cI cJ cZ u00) s.heap.size) (wM q cI cJ cZ u) → va_S (va_A (wM q cI cJ cZ u00) s.heap.size) s.heap H locs → ∀ ls : Array Slot, lv_has ls 4 [(0, .ref (q 0)), (1, .long x1), (3, .int x3)] → W p l e (headSpec wsX9_ways rm_X9_ways).room s m args below meth c H locs 0 0 (MQ below (va_Qi post (fun u' t => va_P D vwCl (wM q cI cJ cZ u') t.heap) (va_A (wM q cI cJ cZ u00) s.heap.size)) args s 0 0 (va_A (wM q cI cJ cZ u00) s.heap.size)) (F0 m 16 ls [])) → W p l e (headSpec wsX9_ways rm_X9_ways).room s m args below meth c H locs 0 0 (MQ below (va_Qi post (fun u' t => va_P D vwCl (wM q cI cJ cZ u') t.heap) (va_A (wM q cI cJ cZ u00) s.heap.size)) args s 0 0 (va_A (wM q cI cJ cZ u00) s.heap.size)) (F0 m 54 ls [.long z0]) := by
    intro K16 x3 z0 u H locs hw hP hD hS ls hl k16
    unfold wp_X9_ways_J54 at hw
    refine lv_lstore_n (lv' := [(1, .long z0), (0, .ref (q 0)), (3, .int x3)]) hx hb dX9_ways_54 rfl hl (by decide) rfl (fun ls hl => ?_)
    obtain ⟨y13, ey13⟩ : ∃ z : Int32, z = x3 + 1 := ⟨_, rfl⟩
    have hw := hw y13 ey13
    refine lv_iinc (v := y13) (lv' := [(3, .int y13), (1, .long z0), (0, .ref (q 0))]) hx hb dX9_ways_55 hl (k := 2) rfl (by rw [ey13]; rfl) (by decide) rfl (fun ls hl => ?_)
    refine lv_goto (tgt := 16) hx hb dX9_ways_58 (by decide) ?_
    exact k16 z0 y13 u _ _ hw hP hD hS ls (lv_sub hl [2, 1, 0] rfl)
  have J53 : ∀ {K16 : Int64 → Int32 → WU → Prop} (x1 : Int64) (x3 : Int32) (u : WU) (H : Heap) (locs : List Loc), wp_X9_ways_J53 x1 x3 u post K16 → va_P D vwCl (wM q cI cJ cZ u) H → va_D (va_A (wM q cI cJ cZ u00) s.heap.size) (wM q cI cJ cZ u) → va_S (va_A (wM q cI cJ cZ u00) s.heap.size) s.heap H locs → ∀ ls : Array Slot, lv_has ls 4 [(0, .ref (q 0)), (1, .long x1), (3, .int x3)] → (∀ (x1 : Int64) (x3 : Int32) (u : WU) (H : Heap) (locs : List Loc), K16 x1 x3 u → va_P D vwCl (wM q cI cJ cZ u) H → va_D (va_A (wM q cI cJ cZ u00) s.heap.size) (wM q cI cJ cZ u) → va_S (va_A (wM q cI cJ cZ u00) s.heap.size) s.heap H locs → ∀ ls : Array Slot, lv_has ls 4 [(0, .ref (q 0)), (1, .long x1), (3, .int x3)] → W p l e (headSpec wsX9_ways rm_X9_ways).room s m args below meth c H locs 0 0 (MQ below (va_Qi post (fun u' t => va_P D vwCl (wM q cI cJ cZ u') t.heap) (va_A (wM q cI cJ cZ u00) s.heap.size)) args s 0 0 (va_A (wM q cI cJ cZ u00) s.heap.size)) (F0 m 16 ls [])) → W p l e (headSpec wsX9_ways rm_X9_ways).room s m args below meth c H locs 0 0 (MQ below (va_Qi post (fun u' t => va_P D vwCl (wM q cI cJ cZ u') t.heap) (va_A (wM q cI cJ cZ u00) s.heap.size)) args s 0 0 (va_A (wM q cI cJ cZ u00) s.heap.size)) (F0 m 53 ls []) := by
    intro K16 x1 x3 u H locs hw hP hD hS ls hl k16
    unfold wp_X9_ways_J53 at hw
    refine lv_lload_n hx hb dX9_ways_53 rfl (lv_at hl 1 rfl) ?_
    refine J54 x3 x1 u _ _ hw hP hD hS ls (lv_sub hl [0, 2] rfl) (fun y10 y11 u12 H locs hw hP hD hS ls hl => ?_)
    exact k16 y10 y11 u12 _ _ hw hP hD hS ls (lv_sub hl [0, 1, 2] rfl)
  have L16 : ∀ {K61 : Int64 → WU → Prop} (n : Nat) (x1 : Int64) (x3 : Int32) (u : WU) (H : Heap) (locs : List Loc), wp_X9_ways_L16 post K61 n x1 x3 u → va_P D vwCl (wM q cI cJ cZ u) H → va_D (va_A (wM q cI cJ cZ u00) s.heap.size) (wM q cI cJ cZ u) → va_S (va_A (wM q cI cJ cZ u00) s.heap.size) s.heap H locs → ∀ ls : Array Slot, lv_has ls 4 [(0, .ref (q 0)), (1, .long x1), (3, .int x3)] → (∀ (x1 : Int64) (u : WU) (H : Heap) (locs : List Loc), K61 x1 u → va_P D vwCl (wM q cI cJ cZ u) H → va_D (va_A (wM q cI cJ cZ u00) s.heap.size) (wM q cI cJ cZ u) → va_S (va_A (wM q cI cJ cZ u00) s.heap.size) s.heap H locs → ∀ ls : Array Slot, lv_has ls 4 [(1, .long x1)] → W p l e (headSpec wsX9_ways rm_X9_ways).room s m args below meth c H locs 0 0 (MQ below (va_Qi post (fun u' t => va_P D vwCl (wM q cI cJ cZ u') t.heap) (va_A (wM q cI cJ cZ u00) s.heap.size)) args s 0 0 (va_A (wM q cI cJ cZ u00) s.heap.size)) (F0 m 61 ls [])) → W p l e (headSpec wsX9_ways rm_X9_ways).room s m args below meth c H locs 0 0 (MQ below (va_Qi post (fun u' t => va_P D vwCl (wM q cI cJ cZ u') t.heap) (va_A (wM q cI cJ cZ u00) s.heap.size)) args s 0 0 (va_A (wM q cI cJ cZ u00) s.heap.size)) (F0 m 16 ls []) := by
    intro K61 n
    induction n with
    | zero =>
      intro x1 x3 u H locs hw
      exact hw.elim
    | succ n ih =>
      intro x1 x3 u H locs hw hP hD hS ls hl k61
      unfold wp_X9_ways_L16 at hw
      refine lv_iload_n hx hb dX9_ways_16 rfl (lv_at hl 2 rfl) ?_
      refine lv_aload_n hx hb dX9_ways_17 rfl (lv_at hl 0 rfl) ?_
      refine va_get (D := D) (ci := 9) (v := .int (u.1 21 0)) (C := RX9) (T := TX9) (N := 30) hx hb hts hiX9 hown hK hP 0 rfl rfl 3 (by decide) hf87 (fun _ h9 => h9) rfl dX9_ways_18 ?_
      refine lv_icmp_ge (tgt := 61) hx hb dX9_ways_21 (by decide) (fun hc => ?_) (fun hc => ?_)
      · have hw := hw.1 hc
        exact k61 x1 u _ _ hw hP hD hS ls (lv_sub hl [1] rfl)
      · have hw := hw.2 hc
        refine lv_aload_n hx hb dX9_ways_24 rfl (lv_at hl 0 rfl) ?_
        refine va_get (D := D) (ci := 9) (v := .ref (q 16)) (C := RX9) (T := TX9) (N := 30) hx hb hts hiX9 hown hK hP 0 rfl rfl 19 (by decide) hf57 (fun _ h9 => h9) rfl dX9_ways_25 ?_
        refine lv_iload_n hx hb dX9_ways_28 rfl (lv_at hl 2 rfl) ?_
        obtain ⟨hin, hw⟩ := hw
        refine va_zald hx hb hK hP 16 2 rfl rfl hin dX9_ways_29 ?_
        refine lv_if_eq (tgt := 53) hx hb dX9_ways_30 (by decide) (fun hc => ?_) (fun hc => ?_)
        · have hw := hw.1 hc
          refine J53 x1 x3 u _ _ hw hP hD hS ls (lv_sub hl [0, 1, 2] rfl) (fun y1 y2 u3 H locs hw hP hD hS ls hl => ?_)
          exact ih y1 y2 u3 _ _ hw hP hD hS ls (lv_sub hl [0, 1, 2] rfl) k61
        · have hw := hw.2 hc
          refine lv_lload_n hx hb dX9_ways_33 rfl (lv_at hl 1 rfl) ?_
          refine lv_ldc2 (v := 6561) hx hb hown hc157 dX9_ways_34 ?_
          refine W.lcmp hx hb dX9_ways_37 ?_
          refine lv_if_gt (tgt := 53) hx hb dX9_ways_38 (by decide) (fun hc => ?_) (fun hc => ?_)
          · have hw := hw.1 hc
            refine J53 x1 x3 u _ _ hw hP hD hS ls (lv_sub hl [0, 1, 2] rfl) (fun y4 y5 u6 H locs hw hP hD hS ls hl => ?_)
            exact ih y4 y5 u6 _ _ hw hP hD hS ls (lv_sub hl [0, 1, 2] rfl) k61
          · have hw := hw.2 hc
            refine lv_lload_n hx hb dX9_ways_41 rfl (lv_at hl 1 rfl) ?_
            refine lv_aload_n hx hb dX9_ways_42 rfl (lv_at hl 0 rfl) ?_
            refine va_get (D := D) (ci := 9) (v := .ref (q 5)) (C := RX9) (T := TX9) (N := 30) hx hb hts hiX9 hown hK hP 0 rfl rfl 6 (by decide) hf23 (fun _ h9 => h9) rfl dX9_ways_43 ?_
            refine lv_iload_n hx hb dX9_ways_46 rfl (lv_at hl 2 rfl) ?_
            obtain ⟨hin, hw⟩ := hw
            refine va_iald hx hb hK hP 5 0 rfl rfl hin dX9_ways_47 ?_
            refine lv_i2l (v := (u.1 3 x3.toNatClampNeg).toInt64) hx hb dX9_ways_48 rfl ?_
            refine lv_lmul hx hb dX9_ways_49 ?_
            refine lv_goto (tgt := 54) hx hb dX9_ways_50 (by decide) ?_
            refine J54 x3 (x1 * ((u.1 3 x3.toNatClampNeg).toInt64)) u _ _ hw hP hD hS ls (lv_sub hl [0, 2] rfl) (fun y7 y8 u9 H locs hw hP hD hS ls hl => ?_)
            exact ih y7 y8 u9 _ _ hw hP hD hS ls (lv_sub hl [0, 1, 2] rfl) k61
  have hent := lg_entry_eq m ([.ref (q 0)]) 4
  rw [← hargs] at hent
  rw [hent]
  have hl := lv_entry ([.ref (q 0)]) (n := 4) (Nat.le_of_ble_eq_true rfl)
  generalize (lg_sl ([.ref (q 0)]) ++ List.replicate (4 - (lg_sl ([.ref (q 0)])).length) Slot.unset).toArray = ls at hl ⊢
  have hl : lv_has ls 4 [(0, .ref (q 0))] := hl
  unfold wp_X9_ways at hw
  refine lv_aload_n hx hb dX9_ways_0 rfl (lv_at hl 0 rfl) ?_
  refine cMv (sh_wM q cI cJ cZ) (u := u) (va_runV (As := []) (rest := []) ⟨hx, hb, hml, hown, hts⟩ (c_X9_asItIs l D q cI cJ cZ _ u _ hw) (cwV 0 hts gX9_ways_X9_asItIs rfl rfl rfl (by decide +kernel) ⟨Nat.le_of_ble_eq_true rfl, Nat.le_of_ble_eq_true rfl⟩) (pvM (va_recv hK hP (ci := 9) (q0 := 0) (q := (RX9, TX9, 30)) rfl rfl) hK hP hD hN) rfl rfl hl.1 rfl (lv_room (Nat.le_of_ble_eq_true rfl)) dX9_ways_1 ⟨Nat.zero_le _, Nat.zero_le _⟩) hA hD hS (fun u14 H locs hw hP hD hS => ?_)
  refine lv_aload_n hx hb dX9_ways_4 rfl (lv_at hl 0 rfl) ?_
  refine lv_aload_n hx hb dX9_ways_5 rfl (lv_at hl 0 rfl) ?_
  refine va_get (D := D) (ci := 9) (v := .int (u14.1 22 0)) (C := RX9) (T := TX9) (N := 30) hx hb hts hiX9 hown hK hP 0 rfl rfl 4 (by decide) hf118 (fun _ h9 => h9) rfl dX9_ways_6 ?_
  refine cMv (sh_wM q cI cJ cZ) (u := u14) (va_runV (As := [.int (u14.1 22 0)]) (rest := []) ⟨hx, hb, hml, hown, hts⟩ (c_X9_reaches l D q cI cJ cZ _ u14 (u14.1 22 0) _ hw) (cwV 1 hts gX9_ways_X9_reaches rfl rfl rfl (by decide +kernel) ⟨Nat.le_of_ble_eq_true rfl, Nat.le_of_ble_eq_true rfl⟩) (pvM (va_recv hK hP (ci := 9) (q0 := 0) (q := (RX9, TX9, 30)) rfl rfl) hK hP hD hN) rfl rfl hl.1 rfl (lv_room (Nat.le_of_ble_eq_true rfl)) dX9_ways_9 ⟨Nat.zero_le _, Nat.zero_le _⟩) hA hD hS (fun u15 H locs hw hP hD hS => ?_)
  refine lv_lconst (v := 1) hx hb dX9_ways_12 (by decide) ?_
  refine lv_lstore_n (lv' := [(1, .long 1), (0, .ref (q 0))]) hx hb dX9_ways_13 rfl hl (by decide) rfl (fun ls hl => ?_)
  refine lv_iconst (v := 0) hx hb dX9_ways_14 (by decide) ?_
  refine lv_istore_n (lv' := [(3, .int 0), (1, .long 1), (0, .ref (q 0))]) hx hb dX9_ways_15 rfl hl (by decide) rfl (fun ls hl => ?_)
  obtain ⟨nn, hw⟩ := hw
  refine L16 nn 1 0 u15 _ _ hw hP hD hS ls (lv_sub hl [2, 1, 0] rfl) (fun y16 u17 H locs hw hP hD hS ls hl => ?_)
  refine lv_lload_n hx hb dX9_ways_61 rfl (lv_at hl 0 rfl) ?_
  refine lv_ldc2 (v := 6561) hx hb hown hc157 dX9_ways_62 ?_
  refine W.lcmp hx hb dX9_ways_65 ?_
  refine lv_if_le (tgt := 73) hx hb dX9_ways_66 (by decide) (fun hc => ?_) (fun hc => ?_)
  · have hw := hw.1 hc
    refine lv_lload_n hx hb dX9_ways_73 rfl (lv_at hl 0 rfl) ?_
    refine lv_l2i (v := y16.toInt32) hx hb dX9_ways_74 rfl ?_
    exact W.iret (v := y16.toInt32) hx hb hr (fun t ht hW => ⟨⟨y16.toInt32, u17, rfl, hw, by show va_P D vwCl _ t.heap; rw [ht]; exact hP⟩, hS.F ht⟩) hS.2.2 dX9_ways_75
  · have hw := hw.2 hc
    refine lv_iconst (v := (-1)) hx hb dX9_ways_69 (by decide) ?_
    refine lv_goto (tgt := 75) hx hb dX9_ways_70 (by decide) ?_
    exact W.iret (v := (-1)) hx hb hr (fun t ht hW => ⟨⟨(-1), u17, rfl, hw, by show va_P D vwCl _ t.heap; rw [ht]; exact hP⟩, hS.F ht⟩) hS.2.2 dX9_ways_75
set_option maxHeartbeats 4000000 in
set_option maxRecDepth 100000 in
theorem c_X9_judge (l : Launch) (D : va_G) (q : Nat → Nat) (cI cJ cZ : ClassId) (sz : Nat) (u : WU) (x1 : Int32) (post : Int32 → WU → Prop) (hw : wp_X9_judge x1 u post) : Met l yX9_judge wsX9_judge rm_X9_judge (va_Pc [.ref (q 0), .int x1] (MW D (ty3 cI cJ cZ) (wM q cI cJ cZ u) sz)) (va_Qi post (fun u' t => va_P D vwCl (wM q cI cJ cZ u') t.heap) (va_A (wM q cI cJ cZ u00) sz)) 0 0 (va_A (wM q cI cJ cZ u00) sz) := by
  refine Met.ofW (cc := cX9_judge) (maxL := 10) (ret := (some .int)) (by decide) rfl ?_
  intro p e s m args below meth c s₁ B hml hv
  obtain ⟨hargs, hsz, hP, hK, hD0, hN⟩ := hv
  have hx := B.exec
  have hb := B.bytes
  have hr := B.returns
  have hts := atoms_spec (ws := wsX9_judge) B.pre
  have hown : s.vm.findClass RX9 = some m.cls := findClass_of_methodNamed B.named
  have hlocks := B.notSynchronized
  subst hsz
  have hD := shw_self (sz := s.heap.size) (sh_wM q cI cJ cZ) hD0
  have hA : ∀ a : Nat, s.heap.size ≤ a → va_A (wM q cI cJ cZ u00) s.heap.size a := fun _ h => Or.inr h
  have hS : va_S (va_A (wM q cI cJ cZ u00) s.heap.size) s.heap s.heap [] := va_S.rf
  have hiX9 : ∀ w ∈ u_ws RX9 TX9 30, w ∈ wsX9_judge := by decide +kernel
  have hf118 := hts (.fieldLink RX9 118 "TermsDeskModel" "product" "I") (by decide +kernel)
  have hf20 := hts (.fieldLink RX9 20 "TermsDeskModel" "choice" "[I") (by decide +kernel)
  have hf23 := hts (.fieldLink RX9 23 "TermsDeskModel" "many" "[I") (by decide +kernel)
  have hf26 := hts (.fieldLink RX9 26 "TermsDeskModel" "taken" "[I") (by decide +kernel)
  have hf57 := hts (.fieldLink RX9 57 "TermsDeskModel" "isReached" "[Z") (by decide +kernel)
  have hf63 := hts (.fieldLink RX9 63 "TermsDeskModel" "has" "[I") (by decide +kernel)
  have hf66 := hts (.fieldLink RX9 66 "TermsDeskModel" "come" "[J") (by decide +kernel)
  have hf75 := hts (.fieldLink RX9 75 "TermsDeskModel" "place" "[I") (by decide +kernel)
  have hf78 := hts (.fieldLink RX9 78 "TermsDeskModel" "best" "[I") (by decide +kernel)
  have hf87 := hts (.fieldLink RX9 87 "TermsDeskModel" "parts" "I") (by decide +kernel)
  have J241 : ∀ {K41 : Int32 → Int32 → Int32 → WU → Prop} (x1 : Int32) (x2 : Int32) (x3 : Int32) (x4 : Int32) (x5 : Int32) (u : WU) (H : Heap) (locs : List Loc), wp_X9_judge_J241 x1 x2 x3 x4 x5 u post K41 → va_P D vwCl (wM q cI cJ cZ u) H → va_D (va_A (wM q cI cJ cZ u00) s.heap.size) (wM q cI cJ cZ u) → va_S (va_A (wM q cI cJ cZ u00) s.heap.size) s.heap H locs → ∀ ls : Array Slot, lv_has ls 10 [(0, .ref (q 0)), (1, .int x1), (2, .int x2), (3, .int x3), (4, .int x4), (5, .int x5)] → (∀ (x3 : Int32) (x4 : Int32) (x5 : Int32) (u : WU) (H : Heap) (locs : List Loc), K41 x3 x4 x5 u → va_P D vwCl (wM q cI cJ cZ u) H → va_D (va_A (wM q cI cJ cZ u00) s.heap.size) (wM q cI cJ cZ u) → va_S (va_A (wM q cI cJ cZ u00) s.heap.size) s.heap H locs → ∀ ls : Array Slot, lv_has ls 10 [(0, .ref (q 0)), (1, .int x1), (2, .int x2), (3, .int x3), (4, .int x4), (5, .int x5)] → W p l e (headSpec wsX9_judge rm_X9_judge).room s m args below meth c H locs 0 0 (MQ below (va_Qi post (fun u' t => va_P D vwCl (wM q cI cJ cZ u') t.heap) (va_A (wM q cI cJ cZ u00) s.heap.size)) args s 0 0 (va_A (wM q cI cJ cZ u00) s.heap.size)) (F0 m 41 ls [])) → W p l e (headSpec wsX9_judge rm_X9_judge).room s m args below meth c H locs 0 0 (MQ below (va_Qi post (fun u' t => va_P D vwCl (wM q cI cJ cZ u') t.heap) (va_A (wM q cI cJ cZ u00) s.heap.size)) args s 0 0 (va_A (wM q cI cJ cZ u00) s.heap.size)) (F0 m 241 ls []) := by
    intro K41 x1 x2 x3 x4 x5 u H locs hw hP hD hS ls hl k41
    unfold wp_X9_judge_J241 at hw
    obtain ⟨y46, ey46⟩ : ∃ z : Int32, z = x5 + 1 := ⟨_, rfl⟩
    have hw := hw y46 ey46
    refine lv_iinc (v := y46) (lv' := [(5, .int y46), (0, .ref (q 0)), (1, .int x1), (2, .int x2), (3, .int x3), (4, .int x4)]) hx hb dX9_judge_241 hl (k := 5) rfl (by rw [ey46]; rfl) (by decide) rfl (fun ls hl => ?_)
    refine lv_goto (tgt := 41) hx hb dX9_judge_244 (by decide) ?_
    exact k41 x3 x4 y46 u _ _ hw hP hD hS ls (lv_sub hl [1, 2, 3, 4, 5, 0] rfl)
  have L212 : ∀ {K241 : WU → Prop} (x1 : Int32) (x2 : Int32) (x3 : Int32) (x4 : Int32) (x5 : Int32) (n : Nat) (x9 : Int32) (u : WU) (H : Heap) (locs : List Loc), wp_X9_judge_L212 x1 x2 x3 x4 x5 post K241 n x9 u → va_P D vwCl (wM q cI cJ cZ u) H → va_D (va_A (wM q cI cJ cZ u00) s.heap.size) (wM q cI cJ cZ u) → va_S (va_A (wM q cI cJ cZ u00) s.heap.size) s.heap H locs → ∀ ls : Array Slot, lv_has ls 10 [(0, .ref (q 0)), (1, .int x1), (2, .int x2), (3, .int x3), (4, .int x4), (5, .int x5), (9, .int x9)] → (∀ (u : WU) (H : Heap) (locs : List Loc), K241 u → va_P D vwCl (wM q cI cJ cZ u) H → va_D (va_A (wM q cI cJ cZ u00) s.heap.size) (wM q cI cJ cZ u) → va_S (va_A (wM q cI cJ cZ u00) s.heap.size) s.heap H locs → ∀ ls : Array Slot, lv_has ls 10 [(0, .ref (q 0)), (1, .int x1), (2, .int x2), (3, .int x3), (4, .int x4), (5, .int x5)] → W p l e (headSpec wsX9_judge rm_X9_judge).room s m args below meth c H locs 0 0 (MQ below (va_Qi post (fun u' t => va_P D vwCl (wM q cI cJ cZ u') t.heap) (va_A (wM q cI cJ cZ u00) s.heap.size)) args s 0 0 (va_A (wM q cI cJ cZ u00) s.heap.size)) (F0 m 241 ls [])) → W p l e (headSpec wsX9_judge rm_X9_judge).room s m args below meth c H locs 0 0 (MQ below (va_Qi post (fun u' t => va_P D vwCl (wM q cI cJ cZ u') t.heap) (va_A (wM q cI cJ cZ u00) s.heap.size)) args s 0 0 (va_A (wM q cI cJ cZ u00) s.heap.size)) (F0 m 212 ls []) := by
    intro K241 x1 x2 x3 x4 x5 n
    induction n with
    | zero =>
      intro x9 u H locs hw
      exact hw.elim
    | succ n ih =>
      intro x9 u H locs hw hP hD hS ls hl k241
      unfold wp_X9_judge_L212 at hw
      refine lv_iload hx hb dX9_judge_212 (lv_at hl 6 rfl) ?_
      refine lv_aload_n hx hb dX9_judge_214 rfl (lv_at hl 0 rfl) ?_
      refine va_get (D := D) (ci := 9) (v := .int (u.1 21 0)) (C := RX9) (T := TX9) (N := 30) hx hb hts hiX9 hown hK hP 0 rfl rfl 3 (by decide) hf87 (fun _ h9 => h9) rfl dX9_judge_215 ?_
      refine lv_icmp_ge (tgt := 241) hx hb dX9_judge_218 (by decide) (fun hc => ?_) (fun hc => ?_)
      · have hw := hw.1 hc
        exact k241 u _ _ hw hP hD hS ls (lv_sub hl [0, 1, 2, 3, 4, 5] rfl)
      · have hw := hw.2 hc
        refine lv_aload_n hx hb dX9_judge_221 rfl (lv_at hl 0 rfl) ?_
        refine va_get (D := D) (ci := 9) (v := .ref (q 23)) (C := RX9) (T := TX9) (N := 30) hx hb hts hiX9 hown hK hP 0 rfl rfl 27 (by decide) hf78 (fun _ h9 => h9) rfl dX9_judge_222 ?_
        refine lv_iload hx hb dX9_judge_225 (lv_at hl 6 rfl) ?_
        refine lv_aload_n hx hb dX9_judge_227 rfl (lv_at hl 0 rfl) ?_
        refine va_get (D := D) (ci := 9) (v := .ref (q 22)) (C := RX9) (T := TX9) (N := 30) hx hb hts hiX9 hown hK hP 0 rfl rfl 26 (by decide) hf75 (fun _ h9 => h9) rfl dX9_judge_228 ?_
        refine lv_iload hx hb dX9_judge_231 (lv_at hl 6 rfl) ?_
        obtain ⟨hin, hw⟩ := hw
        refine va_iald hx hb hK hP 22 0 rfl rfl hin dX9_judge_233 ?_
        obtain ⟨hin, hw⟩ := hw
        refine sIast (w := wM q cI cJ cZ) hx hb hK hP hD hS 23 0 19 rfl rfl (wMa_23 q cI cJ cZ u) hin dX9_judge_234 (fun u36 H locs eu36 hP hD hS => ?_)
        have hw := hw u36 eu36
        obtain ⟨y37, ey37⟩ : ∃ z : Int32, z = x9 + 1 := ⟨_, rfl⟩
        have hw := hw y37 ey37
        refine lv_iinc (v := y37) (lv' := [(9, .int y37), (0, .ref (q 0)), (1, .int x1), (2, .int x2), (3, .int x3), (4, .int x4), (5, .int x5)]) hx hb dX9_judge_235 hl (k := 6) rfl (by rw [ey37]; rfl) (by decide) rfl (fun ls hl => ?_)
        refine lv_goto (tgt := 212) hx hb dX9_judge_238 (by decide) ?_
        exact ih y37 u36 _ _ hw hP hD hS ls (lv_sub hl [1, 2, 3, 4, 5, 6, 0] rfl) k241
  have J202 : ∀ {K41 : Int32 → Int32 → Int32 → WU → Prop} (x1 : Int32) (x2 : Int32) (x5 : Int32) (x7 : Int32) (x8 : Int32) (u : WU) (H : Heap) (locs : List Loc), wp_X9_judge_J202 x1 x2 x5 x7 x8 u post K41 → va_P D vwCl (wM q cI cJ cZ u) H → va_D (va_A (wM q cI cJ cZ u00) s.heap.size) (wM q cI cJ cZ u) → va_S (va_A (wM q cI cJ cZ u00) s.heap.size) s.heap H locs → ∀ ls : Array Slot, lv_has ls 10 [(0, .ref (q 0)), (1, .int x1), (2, .int x2), (5, .int x5), (7, .int x7), (8, .int x8)] → (∀ (x3 : Int32) (x4 : Int32) (x5 : Int32) (u : WU) (H : Heap) (locs : List Loc), K41 x3 x4 x5 u → va_P D vwCl (wM q cI cJ cZ u) H → va_D (va_A (wM q cI cJ cZ u00) s.heap.size) (wM q cI cJ cZ u) → va_S (va_A (wM q cI cJ cZ u00) s.heap.size) s.heap H locs → ∀ ls : Array Slot, lv_has ls 10 [(0, .ref (q 0)), (1, .int x1), (2, .int x2), (3, .int x3), (4, .int x4), (5, .int x5)] → W p l e (headSpec wsX9_judge rm_X9_judge).room s m args below meth c H locs 0 0 (MQ below (va_Qi post (fun u' t => va_P D vwCl (wM q cI cJ cZ u') t.heap) (va_A (wM q cI cJ cZ u00) s.heap.size)) args s 0 0 (va_A (wM q cI cJ cZ u00) s.heap.size)) (F0 m 41 ls [])) → W p l e (headSpec wsX9_judge rm_X9_judge).room s m args below meth c H locs 0 0 (MQ below (va_Qi post (fun u' t => va_P D vwCl (wM q cI cJ cZ u') t.heap) (va_A (wM q cI cJ cZ u00) s.heap.size)) args s 0 0 (va_A (wM q cI cJ cZ u00) s.heap.size)) (F0 m 202 ls []) := by
    intro K41 x1 x2 x5 x7 x8 u H locs hw hP hD hS ls hl k41
    unfold wp_X9_judge_J202 at hw
    refine lv_iload hx hb dX9_judge_202 (lv_at hl 4 rfl) ?_
    refine lv_istore_n (lv' := [(3, .int x7), (0, .ref (q 0)), (1, .int x1), (2, .int x2), (5, .int x5), (7, .int x7), (8, .int x8)]) hx hb dX9_judge_204 rfl hl (by decide) rfl (fun ls hl => ?_)
    refine lv_iload hx hb dX9_judge_205 (lv_at hl 6 rfl) ?_
    refine lv_istore (lv' := [(4, .int x8), (3, .int x7), (0, .ref (q 0)), (1, .int x1), (2, .int x2), (5, .int x5), (7, .int x7), (8, .int x8)]) hx hb dX9_judge_207 hl (by decide) rfl (fun ls hl => ?_)
    refine lv_iconst (v := 0) hx hb dX9_judge_209 (by decide) ?_
    refine lv_istore (lv' := [(9, .int 0), (4, .int x8), (3, .int x7), (0, .ref (q 0)), (1, .int x1), (2, .int x2), (5, .int x5), (7, .int x7), (8, .int x8)]) hx hb dX9_judge_210 hl (by decide) rfl (fun ls hl => ?_)
    obtain ⟨nn, hw⟩ := hw
    refine L212 x1 x2 x7 x8 x5 nn 0 u _ _ hw hP hD hS ls (lv_sub hl [3, 4, 5, 2, 1, 6, 0] rfl) (fun  u41 H locs hw hP hD hS ls hl => ?_)
    refine J241 x1 x2 x7 x8 x5 u41 _ _ hw hP hD hS ls (lv_sub hl [0, 1, 2, 3, 4, 5] rfl) (fun y42 y43 y44 u45 H locs hw hP hD hS ls hl => ?_)
    exact k41 y42 y43 y44 u45 _ _ hw hP hD hS ls (lv_sub hl [0, 1, 2, 3, 4, 5] rfl)
  have J144 : ∀ {K59 : Int32 → Int32 → WU → Prop} (x1 : Int32) (x2 : Int32) (x3 : Int32) (x4 : Int32) (x5 : Int32) (x6 : Int32) (x7 : Int32) (u : WU) (H : Heap) (locs : List Loc), wp_X9_judge_J144 x1 x2 x3 x4 x5 x6 x7 u post K59 → va_P D vwCl (wM q cI cJ cZ u) H → va_D (va_A (wM q cI cJ cZ u00) s.heap.size) (wM q cI cJ cZ u) → va_S (va_A (wM q cI cJ cZ u00) s.heap.size) s.heap H locs → ∀ ls : Array Slot, lv_has ls 10 [(0, .ref (q 0)), (1, .int x1), (2, .int x2), (3, .int x3), (4, .int x4), (5, .int x5), (6, .int x6), (7, .int x7)] → (∀ (x6 : Int32) (x7 : Int32) (u : WU) (H : Heap) (locs : List Loc), K59 x6 x7 u → va_P D vwCl (wM q cI cJ cZ u) H → va_D (va_A (wM q cI cJ cZ u00) s.heap.size) (wM q cI cJ cZ u) → va_S (va_A (wM q cI cJ cZ u00) s.heap.size) s.heap H locs → ∀ ls : Array Slot, lv_has ls 10 [(0, .ref (q 0)), (1, .int x1), (2, .int x2), (3, .int x3), (4, .int x4), (5, .int x5), (6, .int x6), (7, .int x7)] → W p l e (headSpec wsX9_judge rm_X9_judge).room s m args below meth c H locs 0 0 (MQ below (va_Qi post (fun u' t => va_P D vwCl (wM q cI cJ cZ u') t.heap) (va_A (wM q cI cJ cZ u00) s.heap.size)) args s 0 0 (va_A (wM q cI cJ cZ u00) s.heap.size)) (F0 m 59 ls [])) → W p l e (headSpec wsX9_judge rm_X9_judge).room s m args below meth c H locs 0 0 (MQ below (va_Qi post (fun u' t => va_P D vwCl (wM q cI cJ cZ u') t.heap) (va_A (wM q cI cJ cZ u00) s.heap.size)) args s 0 0 (va_A (wM q cI cJ cZ u00) s.heap.size)) (F0 m 144 ls []) := by
    intro K59 x1 x2 x3 x4 x5 x6 x7 u H locs hw hP hD hS ls hl k59
    unfold wp_X9_judge_J144 at hw
    obtain ⟨y40, ey40⟩ : ∃ z : Int32, z = x7 + (-1) := ⟨_, rfl⟩
    have hw := hw y40 ey40
    refine lv_iinc (v := y40) (lv' := [(7, .int y40), (0, .ref (q 0)), (1, .int x1), (2, .int x2), (3, .int x3), (4, .int x4), (5, .int x5), (6, .int x6)]) hx hb dX9_judge_144 hl (k := 7) rfl (by rw [ey40]; rfl) (by decide) rfl (fun ls hl => ?_)
    refine lv_goto (tgt := 59) hx hb dX9_judge_147 (by decide) ?_
    exact k59 x6 y40 u _ _ hw hP hD hS ls (lv_sub hl [1, 2, 3, 4, 5, 6, 7, 0] rfl)
  have L59 : ∀ {K150 : WU → Prop} (x1 : Int32) (x2 : Int32) (x3 : Int32) (x4 : Int32) (x5 : Int32) (n : Nat) (x6 : Int32) (x7 : Int32) (u : WU) (H : Heap) (locs : List Loc), wp_X9_judge_L59 x1 x2 x3 x4 x5 post K150 n x6 x7 u → va_P D vwCl (wM q cI cJ cZ u) H → va_D (va_A (wM q cI cJ cZ u00) s.heap.size) (wM q cI cJ cZ u) → va_S (va_A (wM q cI cJ cZ u00) s.heap.size) s.heap H locs → ∀ ls : Array Slot, lv_has ls 10 [(0, .ref (q 0)), (1, .int x1), (2, .int x2), (3, .int x3), (4, .int x4), (5, .int x5), (6, .int x6), (7, .int x7)] → (∀ (u : WU) (H : Heap) (locs : List Loc), K150 u → va_P D vwCl (wM q cI cJ cZ u) H → va_D (va_A (wM q cI cJ cZ u00) s.heap.size) (wM q cI cJ cZ u) → va_S (va_A (wM q cI cJ cZ u00) s.heap.size) s.heap H locs → ∀ ls : Array Slot, lv_has ls 10 [(0, .ref (q 0)), (1, .int x1), (2, .int x2), (3, .int x3), (4, .int x4), (5, .int x5)] → W p l e (headSpec wsX9_judge rm_X9_judge).room s m args below meth c H locs 0 0 (MQ below (va_Qi post (fun u' t => va_P D vwCl (wM q cI cJ cZ u') t.heap) (va_A (wM q cI cJ cZ u00) s.heap.size)) args s 0 0 (va_A (wM q cI cJ cZ u00) s.heap.size)) (F0 m 150 ls [])) → W p l e (headSpec wsX9_judge rm_X9_judge).room s m args below meth c H locs 0 0 (MQ below (va_Qi post (fun u' t => va_P D vwCl (wM q cI cJ cZ u') t.heap) (va_A (wM q cI cJ cZ u00) s.heap.size)) args s 0 0 (va_A (wM q cI cJ cZ u00) s.heap.size)) (F0 m 59 ls []) := by
    intro K150 x1 x2 x3 x4 x5 n
    induction n with
    | zero =>
      intro x6 x7 u H locs hw
      exact hw.elim
    | succ n ih =>
      intro x6 x7 u H locs hw hP hD hS ls hl k150
      unfold wp_X9_judge_L59 at hw
      refine lv_iload hx hb dX9_judge_59 (lv_at hl 7 rfl) ?_
      refine lv_if_lt (tgt := 150) hx hb dX9_judge_61 (by decide) (fun hc => ?_) (fun hc => ?_)
      · have hw := hw.1 hc
        exact k150 u _ _ hw hP hD hS ls (lv_sub hl [0, 1, 2, 3, 4, 5] rfl)
      · have hw := hw.2 hc
        refine lv_aload_n hx hb dX9_judge_64 rfl (lv_at hl 0 rfl) ?_
        refine va_get (D := D) (ci := 9) (v := .ref (q 22)) (C := RX9) (T := TX9) (N := 30) hx hb hts hiX9 hown hK hP 0 rfl rfl 26 (by decide) hf75 (fun _ h9 => h9) rfl dX9_judge_65 ?_
        refine lv_iload hx hb dX9_judge_68 (lv_at hl 7 rfl) ?_
        refine lv_aload_n hx hb dX9_judge_70 rfl (lv_at hl 0 rfl) ?_
        refine va_get (D := D) (ci := 9) (v := .ref (q 6)) (C := RX9) (T := TX9) (N := 30) hx hb hts hiX9 hown hK hP 0 rfl rfl 7 (by decide) hf26 (fun _ h9 => h9) rfl dX9_judge_71 ?_
        refine lv_iload hx hb dX9_judge_74 (lv_at hl 7 rfl) ?_
        obtain ⟨hin, hw⟩ := hw
        refine va_iald hx hb hK hP 6 0 rfl rfl hin dX9_judge_76 ?_
        obtain ⟨hin, hw⟩ := hw
        refine sIast (w := wM q cI cJ cZ) hx hb hK hP hD hS 22 0 18 rfl rfl (wMa_22 q cI cJ cZ u) hin dX9_judge_77 (fun u26 H locs eu26 hP hD hS => ?_)
        have hw := hw u26 eu26
        refine lv_aload_n hx hb dX9_judge_78 rfl (lv_at hl 0 rfl) ?_
        refine va_get (D := D) (ci := 9) (v := .ref (q 16)) (C := RX9) (T := TX9) (N := 30) hx hb hts hiX9 hown hK hP 0 rfl rfl 19 (by decide) hf57 (fun _ h9 => h9) rfl dX9_judge_79 ?_
        refine lv_iload hx hb dX9_judge_82 (lv_at hl 7 rfl) ?_
        obtain ⟨hin, hw⟩ := hw
        refine va_zald hx hb hK hP 16 2 rfl rfl hin dX9_judge_84 ?_
        refine lv_if_ne (tgt := 91) hx hb dX9_judge_85 (by decide) (fun hc => ?_) (fun hc => ?_)
        · have hw := hw.1 hc
          refine lv_aload_n hx hb dX9_judge_91 rfl (lv_at hl 0 rfl) ?_
          refine va_get (D := D) (ci := 9) (v := .ref (q 22)) (C := RX9) (T := TX9) (N := 30) hx hb hts hiX9 hown hK hP 0 rfl rfl 26 (by decide) hf75 (fun _ h9 => h9) rfl dX9_judge_92 ?_
          refine lv_iload hx hb dX9_judge_95 (lv_at hl 7 rfl) ?_
          refine lv_iload hx hb dX9_judge_97 (lv_at hl 6 rfl) ?_
          refine lv_aload_n hx hb dX9_judge_99 rfl (lv_at hl 0 rfl) ?_
          refine va_get (D := D) (ci := 9) (v := .ref (q 5)) (C := RX9) (T := TX9) (N := 30) hx hb hts hiX9 hown hK hP 0 rfl rfl 6 (by decide) hf23 (fun _ h9 => h9) rfl dX9_judge_100 ?_
          refine lv_iload hx hb dX9_judge_103 (lv_at hl 7 rfl) ?_
          obtain ⟨hin, hw⟩ := hw
          refine va_iald hx hb hK hP 5 0 rfl rfl hin dX9_judge_105 ?_
          obtain ⟨hne, hw⟩ := hw
          refine lv_irem hx hb dX9_judge_106 hne ?_
          obtain ⟨hin, hw⟩ := hw
          refine sIast (w := wM q cI cJ cZ) hx hb hK hP hD hS 22 0 18 rfl rfl (wMa_22 q cI cJ cZ u26) hin dX9_judge_107 (fun u27 H locs eu27 hP hD hS => ?_)
          have hw := hw u27 eu27
          refine lv_iload hx hb dX9_judge_108 (lv_at hl 6 rfl) ?_
          refine lv_aload_n hx hb dX9_judge_110 rfl (lv_at hl 0 rfl) ?_
          refine va_get (D := D) (ci := 9) (v := .ref (q 5)) (C := RX9) (T := TX9) (N := 30) hx hb hts hiX9 hown hK hP 0 rfl rfl 6 (by decide) hf23 (fun _ h9 => h9) rfl dX9_judge_111 ?_
          refine lv_iload hx hb dX9_judge_114 (lv_at hl 7 rfl) ?_
          obtain ⟨hin, hw⟩ := hw
          refine va_iald hx hb hK hP 5 0 rfl rfl hin dX9_judge_116 ?_
          obtain ⟨hne, hw⟩ := hw
          refine lv_idiv hx hb dX9_judge_117 hne ?_
          refine lv_topi (fun y28 ey28 => ?_)
          have hw := hw y28 ey28
          refine lv_istore (lv' := [(6, .int y28), (0, .ref (q 0)), (1, .int x1), (2, .int x2), (3, .int x3), (4, .int x4), (5, .int x5), (7, .int x7)]) hx hb dX9_judge_118 hl (by decide) rfl (fun ls hl => ?_)
          refine lv_aload_n hx hb dX9_judge_120 rfl (lv_at hl 1 rfl) ?_
          refine va_get (D := D) (ci := 9) (v := .ref (q 18)) (C := RX9) (T := TX9) (N := 30) hx hb hts hiX9 hown hK hP 0 rfl rfl 21 (by decide) hf63 (fun _ h9 => h9) rfl dX9_judge_121 ?_
          refine lv_iload hx hb dX9_judge_124 (lv_at hl 7 rfl) ?_
          refine lv_aload_n hx hb dX9_judge_126 rfl (lv_at hl 1 rfl) ?_
          refine va_get (D := D) (ci := 9) (v := .ref (q 4)) (C := RX9) (T := TX9) (N := 30) hx hb hts hiX9 hown hK hP 0 rfl rfl 5 (by decide) hf20 (fun _ h9 => h9) rfl dX9_judge_127 ?_
          refine lv_iconst (v := 3) hx hb dX9_judge_130 (by decide) ?_
          refine lv_iload hx hb dX9_judge_131 (lv_at hl 7 rfl) ?_
          refine lv_imul hx hb dX9_judge_133 ?_
          refine lv_aload_n hx hb dX9_judge_134 rfl (lv_at hl 1 rfl) ?_
          refine va_get (D := D) (ci := 9) (v := .ref (q 22)) (C := RX9) (T := TX9) (N := 30) hx hb hts hiX9 hown hK hP 0 rfl rfl 26 (by decide) hf75 (fun _ h9 => h9) rfl dX9_judge_135 ?_
          refine lv_iload hx hb dX9_judge_138 (lv_at hl 7 rfl) ?_
          obtain ⟨hin, hw⟩ := hw
          refine va_iald hx hb hK hP 22 0 rfl rfl hin dX9_judge_140 ?_
          refine lv_iadd hx hb dX9_judge_141 ?_
          obtain ⟨hin, hw⟩ := hw
          refine va_iald hx hb hK hP 4 0 rfl rfl hin dX9_judge_142 ?_
          obtain ⟨hin, hw⟩ := hw
          refine sIast (w := wM q cI cJ cZ) hx hb hK hP hD hS 18 0 15 rfl rfl (wMa_18 q cI cJ cZ u27) hin dX9_judge_143 (fun u29 H locs eu29 hP hD hS => ?_)
          have hw := hw u29 eu29
          refine J144 x1 x2 x3 x4 x5 y28 x7 u29 _ _ hw hP hD hS ls (lv_sub hl [1, 2, 3, 4, 5, 6, 0, 7] rfl) (fun y30 y31 u32 H locs hw hP hD hS ls hl => ?_)
          exact ih y30 y31 u32 _ _ hw hP hD hS ls (lv_sub hl [0, 1, 2, 3, 4, 5, 6, 7] rfl) k150
        · have hw := hw.2 hc
          refine lv_goto (tgt := 144) hx hb dX9_judge_88 (by decide) ?_
          refine J144 x1 x2 x3 x4 x5 x6 x7 u26 _ _ hw hP hD hS ls (lv_sub hl [0, 1, 2, 3, 4, 5, 6, 7] rfl) (fun y33 y34 u35 H locs hw hP hD hS ls hl => ?_)
          exact ih y33 y34 u35 _ _ hw hP hD hS ls (lv_sub hl [0, 1, 2, 3, 4, 5, 6, 7] rfl) k150
  have L41 : ∀ {K247 : Int32 → WU → Prop} (x1 : Int32) (x2 : Int32) (n : Nat) (x3 : Int32) (x4 : Int32) (x5 : Int32) (u : WU) (H : Heap) (locs : List Loc), wp_X9_judge_L41 x1 x2 post K247 n x3 x4 x5 u → va_P D vwCl (wM q cI cJ cZ u) H → va_D (va_A (wM q cI cJ cZ u00) s.heap.size) (wM q cI cJ cZ u) → va_S (va_A (wM q cI cJ cZ u00) s.heap.size) s.heap H locs → ∀ ls : Array Slot, lv_has ls 10 [(0, .ref (q 0)), (1, .int x1), (2, .int x2), (3, .int x3), (4, .int x4), (5, .int x5)] → (∀ (x3 : Int32) (u : WU) (H : Heap) (locs : List Loc), K247 x3 u → va_P D vwCl (wM q cI cJ cZ u) H → va_D (va_A (wM q cI cJ cZ u00) s.heap.size) (wM q cI cJ cZ u) → va_S (va_A (wM q cI cJ cZ u00) s.heap.size) s.heap H locs → ∀ ls : Array Slot, lv_has ls 10 [(0, .ref (q 0)), (3, .int x3)] → W p l e (headSpec wsX9_judge rm_X9_judge).room s m args below meth c H locs 0 0 (MQ below (va_Qi post (fun u' t => va_P D vwCl (wM q cI cJ cZ u') t.heap) (va_A (wM q cI cJ cZ u00) s.heap.size)) args s 0 0 (va_A (wM q cI cJ cZ u00) s.heap.size)) (F0 m 247 ls [])) → W p l e (headSpec wsX9_judge rm_X9_judge).room s m args below meth c H locs 0 0 (MQ below (va_Qi post (fun u' t => va_P D vwCl (wM q cI cJ cZ u') t.heap) (va_A (wM q cI cJ cZ u00) s.heap.size)) args s 0 0 (va_A (wM q cI cJ cZ u00) s.heap.size)) (F0 m 41 ls []) := by
    intro K247 x1 x2 n
    induction n with
    | zero =>
      intro x3 x4 x5 u H locs hw
      exact hw.elim
    | succ n ih =>
      intro x3 x4 x5 u H locs hw hP hD hS ls hl k247
      unfold wp_X9_judge_L41 at hw
      refine lv_iload hx hb dX9_judge_41 (lv_at hl 5 rfl) ?_
      refine lv_iload_n hx hb dX9_judge_43 rfl (lv_at hl 2 rfl) ?_
      refine lv_icmp_ge (tgt := 247) hx hb dX9_judge_44 (by decide) (fun hc => ?_) (fun hc => ?_)
      · have hw := hw.1 hc
        exact k247 x3 u _ _ hw hP hD hS ls (lv_sub hl [0, 3] rfl)
      · have hw := hw.2 hc
        refine lv_iload hx hb dX9_judge_47 (lv_at hl 5 rfl) ?_
        refine lv_istore (lv' := [(6, .int x5), (0, .ref (q 0)), (1, .int x1), (2, .int x2), (3, .int x3), (4, .int x4), (5, .int x5)]) hx hb dX9_judge_49 hl (by decide) rfl (fun ls hl => ?_)
        refine lv_aload_n hx hb dX9_judge_51 rfl (lv_at hl 1 rfl) ?_
        refine va_get (D := D) (ci := 9) (v := .int (u.1 21 0)) (C := RX9) (T := TX9) (N := 30) hx hb hts hiX9 hown hK hP 0 rfl rfl 3 (by decide) hf87 (fun _ h9 => h9) rfl dX9_judge_52 ?_
        refine lv_iconst (v := 1) hx hb dX9_judge_55 (by decide) ?_
        refine lv_isub hx hb dX9_judge_56 ?_
        refine lv_topi (fun y1 ey1 => ?_)
        have hw := hw y1 ey1
        refine lv_istore (lv' := [(7, .int y1), (6, .int x5), (0, .ref (q 0)), (1, .int x1), (2, .int x2), (3, .int x3), (4, .int x4), (5, .int x5)]) hx hb dX9_judge_57 hl (by decide) rfl (fun ls hl => ?_)
        obtain ⟨nn, hw⟩ := hw
        refine L59 x1 x2 x3 x4 x5 nn x5 y1 u _ _ hw hP hD hS ls (lv_sub hl [2, 3, 4, 5, 6, 7, 1, 0] rfl) (fun  u2 H locs hw hP hD hS ls hl => ?_)
        refine lv_aload_n hx hb dX9_judge_150 rfl (lv_at hl 0 rfl) ?_
        refine lv_iload_n hx hb dX9_judge_151 rfl (lv_at hl 1 rfl) ?_
        refine cMv (sh_wM q cI cJ cZ) (u := u2) (va_runV (As := [.int x1]) (rest := []) ⟨hx, hb, hml, hown, hts⟩ (c_X9_comes l D q cI cJ cZ _ u2 x1 _ hw) (cwV 1 hts gX9_judge_X9_comes rfl rfl rfl (by decide +kernel) ⟨Nat.le_of_ble_eq_true rfl, Nat.le_of_ble_eq_true rfl⟩) (pvM (va_recv hK hP (ci := 9) (q0 := 0) (q := (RX9, TX9, 30)) rfl rfl) hK hP hD hN) rfl rfl hl.1 rfl (lv_room (Nat.le_of_ble_eq_true rfl)) dX9_judge_152 ⟨Nat.zero_le _, Nat.zero_le _⟩) hA hD hS (fun u3 H locs hw hP hD hS => ?_)
        refine lv_aload_n hx hb dX9_judge_155 rfl (lv_at hl 0 rfl) ?_
        refine vp_callSi (va_Run.run (va_runV (As := []) (rest := []) ⟨hx, hb, hml, hown, hts⟩ (c_X9_quarrelsNow l D q cI cJ cZ u3 _ hw) (cwV 0 hts gX9_judge_X9_quarrelsNow rfl rfl rfl (by decide +kernel) ⟨Nat.le_of_ble_eq_true rfl, Nat.le_of_ble_eq_true rfl⟩) (pvR (va_recv hK hP (ci := 9) (q0 := 0) (q := (RX9, TX9, 30)) rfl rfl) hK hP hN) rfl rfl hl.1 rfl (lv_room (Nat.le_of_ble_eq_true rfl)) dX9_judge_156 ⟨Nat.zero_le _, Nat.zero_le _⟩)) (fun r4 hw => ?_)
        refine lv_istore (lv' := [(7, .int r4), (0, .ref (q 0)), (1, .int x1), (2, .int x2), (3, .int x3), (4, .int x4), (5, .int x5)]) hx hb dX9_judge_159 hl (by decide) rfl (fun ls hl => ?_)
        refine lv_aload_n hx hb dX9_judge_161 rfl (lv_at hl 1 rfl) ?_
        refine va_get (D := D) (ci := 9) (v := .ref (q 19)) (C := RX9) (T := TX9) (N := 30) hx hb hts hiX9 hown hK hP 0 rfl rfl 22 (by decide) hf66 (fun _ h9 => h9) rfl dX9_judge_162 ?_
        refine lv_aload_n hx hb dX9_judge_165 rfl (lv_at hl 1 rfl) ?_
        refine va_get (D := D) (ci := 9) (v := .int (u3.1 22 0)) (C := RX9) (T := TX9) (N := 30) hx hb hts hiX9 hown hK hP 0 rfl rfl 4 (by decide) hf118 (fun _ h9 => h9) rfl dX9_judge_166 ?_
        obtain ⟨hin, hw⟩ := hw
        refine va_lald hx hb hK hP 19 1 rfl rfl hin dX9_judge_169 ?_
        refine vp_callSi (va_Run.run (va_runS (As := [.long (u3.2 2 (u3.1 22 0).toNatClampNeg)]) (rest := []) ⟨hx, hb, hml, hown, hts⟩ (c_X9_bits l (u3.2 2 (u3.1 22 0).toNatClampNeg) _ hw) (va_cwS 1 hts gX9_judge_X9_bits rfl rfl rfl (by decide +kernel) ⟨Nat.le_of_ble_eq_true rfl, Nat.le_of_ble_eq_true rfl⟩) (psS hN) rfl rfl hl.1 rfl (lv_room (Nat.le_of_ble_eq_true rfl)) dX9_judge_170 ⟨Nat.zero_le _, Nat.zero_le _⟩)) (fun r5 hw => ?_)
        refine lv_istore (lv' := [(8, .int r5), (7, .int r4), (0, .ref (q 0)), (1, .int x1), (2, .int x2), (3, .int x3), (4, .int x4), (5, .int x5)]) hx hb dX9_judge_173 hl (by decide) rfl (fun ls hl => ?_)
        refine lv_iload_n hx hb dX9_judge_175 rfl (lv_at hl 5 rfl) ?_
        refine lv_iconst (v := (-1)) hx hb dX9_judge_176 (by decide) ?_
        refine lv_icmp_eq (tgt := 202) hx hb dX9_judge_177 (by decide) (fun hc => ?_) (fun hc => ?_)
        · have hw := hw.1 hc
          refine J202 x1 x2 x5 r4 r5 u3 _ _ hw hP hD hS ls (lv_sub hl [2, 3, 4, 7, 1, 0] rfl) (fun y6 y7 y8 u9 H locs hw hP hD hS ls hl => ?_)
          exact ih y6 y7 y8 u9 _ _ hw hP hD hS ls (lv_sub hl [0, 1, 2, 3, 4, 5] rfl) k247
        · have hw := hw.2 hc
          refine lv_iload hx hb dX9_judge_180 (lv_at hl 1 rfl) ?_
          refine lv_iload_n hx hb dX9_judge_182 rfl (lv_at hl 5 rfl) ?_
          refine lv_icmp_gt (tgt := 241) hx hb dX9_judge_183 (by decide) (fun hc => ?_) (fun hc => ?_)
          · have hw := hw.1 hc
            refine J241 x1 x2 x3 x4 x5 u3 _ _ hw hP hD hS ls (lv_sub hl [2, 3, 4, 5, 6, 7] rfl) (fun y10 y11 y12 u13 H locs hw hP hD hS ls hl => ?_)
            exact ih y10 y11 y12 u13 _ _ hw hP hD hS ls (lv_sub hl [0, 1, 2, 3, 4, 5] rfl) k247
          · have hw := hw.2 hc
            refine lv_iload hx hb dX9_judge_186 (lv_at hl 1 rfl) ?_
            refine lv_iload_n hx hb dX9_judge_188 rfl (lv_at hl 5 rfl) ?_
            refine lv_icmp_ne (tgt := 202) hx hb dX9_judge_189 (by decide) (fun hc => ?_) (fun hc => ?_)
            · have hw := hw.1 hc
              refine J202 x1 x2 x5 r4 r5 u3 _ _ hw hP hD hS ls (lv_sub hl [2, 3, 4, 7, 1, 0] rfl) (fun y14 y15 y16 u17 H locs hw hP hD hS ls hl => ?_)
              exact ih y14 y15 y16 u17 _ _ hw hP hD hS ls (lv_sub hl [0, 1, 2, 3, 4, 5] rfl) k247
            · have hw := hw.2 hc
              refine lv_iload hx hb dX9_judge_192 (lv_at hl 0 rfl) ?_
              refine lv_iload hx hb dX9_judge_194 (lv_at hl 6 rfl) ?_
              refine lv_icmp_lt (tgt := 202) hx hb dX9_judge_196 (by decide) (fun hc => ?_) (fun hc => ?_)
              · have hw := hw.1 hc
                refine J202 x1 x2 x5 r4 r5 u3 _ _ hw hP hD hS ls (lv_sub hl [2, 3, 4, 7, 1, 0] rfl) (fun y18 y19 y20 u21 H locs hw hP hD hS ls hl => ?_)
                exact ih y18 y19 y20 u21 _ _ hw hP hD hS ls (lv_sub hl [0, 1, 2, 3, 4, 5] rfl) k247
              · have hw := hw.2 hc
                refine lv_goto (tgt := 241) hx hb dX9_judge_199 (by decide) ?_
                refine J241 x1 x2 x3 x4 x5 u3 _ _ hw hP hD hS ls (lv_sub hl [2, 3, 4, 5, 6, 7] rfl) (fun y22 y23 y24 u25 H locs hw hP hD hS ls hl => ?_)
                exact ih y22 y23 y24 u25 _ _ hw hP hD hS ls (lv_sub hl [0, 1, 2, 3, 4, 5] rfl) k247
  have L250 : ∀ (x3 : Int32) (n : Nat) (x5 : Int32) (u : WU) (H : Heap) (locs : List Loc), wp_X9_judge_L250 x3 post n x5 u → va_P D vwCl (wM q cI cJ cZ u) H → va_D (va_A (wM q cI cJ cZ u00) s.heap.size) (wM q cI cJ cZ u) → va_S (va_A (wM q cI cJ cZ u00) s.heap.size) s.heap H locs → ∀ ls : Array Slot, lv_has ls 10 [(0, .ref (q 0)), (3, .int x3), (5, .int x5)] → W p l e (headSpec wsX9_judge rm_X9_judge).room s m args below meth c H locs 0 0 (MQ below (va_Qi post (fun u' t => va_P D vwCl (wM q cI cJ cZ u') t.heap) (va_A (wM q cI cJ cZ u00) s.heap.size)) args s 0 0 (va_A (wM q cI cJ cZ u00) s.heap.size)) (F0 m 250 ls []) := by
    intro x3 n
    induction n with
    | zero =>
      intro x5 u H locs hw
      exact hw.elim
    | succ n ih =>
      intro x5 u H locs hw hP hD hS ls hl 
      unfold wp_X9_judge_L250 at hw
      refine lv_iload hx hb dX9_judge_250 (lv_at hl 2 rfl) ?_
      refine lv_aload_n hx hb dX9_judge_252 rfl (lv_at hl 0 rfl) ?_
      refine va_get (D := D) (ci := 9) (v := .int (u.1 21 0)) (C := RX9) (T := TX9) (N := 30) hx hb hts hiX9 hown hK hP 0 rfl rfl 3 (by decide) hf87 (fun _ h9 => h9) rfl dX9_judge_253 ?_
      refine lv_icmp_ge (tgt := 279) hx hb dX9_judge_256 (by decide) (fun hc => ?_) (fun hc => ?_)
      · have hw := hw.1 hc
        refine lv_iload_n hx hb dX9_judge_279 rfl (lv_at hl 1 rfl) ?_
        exact W.iret (v := x3) hx hb hr (fun t ht hW => ⟨⟨x3, u, rfl, hw, by show va_P D vwCl _ t.heap; rw [ht]; exact hP⟩, hS.F ht⟩) hS.2.2 dX9_judge_280
      · have hw := hw.2 hc
        refine lv_aload_n hx hb dX9_judge_259 rfl (lv_at hl 0 rfl) ?_
        refine va_get (D := D) (ci := 9) (v := .ref (q 6)) (C := RX9) (T := TX9) (N := 30) hx hb hts hiX9 hown hK hP 0 rfl rfl 7 (by decide) hf26 (fun _ h9 => h9) rfl dX9_judge_260 ?_
        refine lv_iload hx hb dX9_judge_263 (lv_at hl 2 rfl) ?_
        refine lv_aload_n hx hb dX9_judge_265 rfl (lv_at hl 0 rfl) ?_
        refine va_get (D := D) (ci := 9) (v := .ref (q 23)) (C := RX9) (T := TX9) (N := 30) hx hb hts hiX9 hown hK hP 0 rfl rfl 27 (by decide) hf78 (fun _ h9 => h9) rfl dX9_judge_266 ?_
        refine lv_iload hx hb dX9_judge_269 (lv_at hl 2 rfl) ?_
        obtain ⟨hin, hw⟩ := hw
        refine va_iald hx hb hK hP 23 0 rfl rfl hin dX9_judge_271 ?_
        obtain ⟨hin, hw⟩ := hw
        refine sIast (w := wM q cI cJ cZ) hx hb hK hP hD hS 6 0 4 rfl rfl (wMa_6 q cI cJ cZ u) hin dX9_judge_272 (fun u38 H locs eu38 hP hD hS => ?_)
        have hw := hw u38 eu38
        obtain ⟨y39, ey39⟩ : ∃ z : Int32, z = x5 + 1 := ⟨_, rfl⟩
        have hw := hw y39 ey39
        refine lv_iinc (v := y39) (lv' := [(5, .int y39), (0, .ref (q 0)), (3, .int x3)]) hx hb dX9_judge_273 hl (k := 2) rfl (by rw [ey39]; rfl) (by decide) rfl (fun ls hl => ?_)
        refine lv_goto (tgt := 250) hx hb dX9_judge_276 (by decide) ?_
        exact ih y39 u38 _ _ hw hP hD hS ls (lv_sub hl [1, 2, 0] rfl)
  have hent := lg_entry_eq m ([.ref (q 0), .int x1]) 10
  rw [← hargs] at hent
  rw [hent]
  have hl := lv_entry ([.ref (q 0), .int x1]) (n := 10) (Nat.le_of_ble_eq_true rfl)
  generalize (lg_sl ([.ref (q 0), .int x1]) ++ List.replicate (10 - (lg_sl ([.ref (q 0), .int x1])).length) Slot.unset).toArray = ls at hl ⊢
  have hl : lv_has ls 10 [(0, .ref (q 0)), (1, .int x1)] := hl
  unfold wp_X9_judge at hw
  refine lv_iload_n hx hb dX9_judge_0 rfl (lv_at hl 1 rfl) ?_
  refine vp_callSi (va_Run.run (va_runS (As := [.int x1]) (rest := []) ⟨hx, hb, hml, hown, hts⟩ (c_X9_isShipping l x1 _ hw) (va_cwS 1 hts gX9_judge_X9_isShipping rfl rfl rfl (by decide +kernel) ⟨Nat.le_of_ble_eq_true rfl, Nat.le_of_ble_eq_true rfl⟩) (psS hN) rfl rfl hl.1 rfl (lv_room (Nat.le_of_ble_eq_true rfl)) dX9_judge_1 ⟨Nat.zero_le _, Nat.zero_le _⟩)) (fun r47 hw => ?_)
  refine lv_if_eq (tgt := 14) hx hb dX9_judge_4 (by decide) (fun hc => ?_) (fun hc => ?_)
  · have hw := hw.1 hc
    refine lv_iconst (v := (-1)) hx hb dX9_judge_14 (by decide) ?_
    exact W.iret (v := (-1)) hx hb hr (fun t ht hW => ⟨⟨(-1), u, rfl, hw, by show va_P D vwCl _ t.heap; rw [ht]; exact hP⟩, hS.F ht⟩) hS.2.2 dX9_judge_15
  · have hw := hw.2 hc
    refine lv_aload_n hx hb dX9_judge_7 rfl (lv_at hl 0 rfl) ?_
    refine va_get (D := D) (ci := 9) (v := .int (u.1 21 0)) (C := RX9) (T := TX9) (N := 30) hx hb hts hiX9 hown hK hP 0 rfl rfl 3 (by decide) hf87 (fun _ h9 => h9) rfl dX9_judge_8 ?_
    refine lv_if_ne (tgt := 16) hx hb dX9_judge_11 (by decide) (fun hc => ?_) (fun hc => ?_)
    · have hw := hw.1 hc
      refine lv_aload_n hx hb dX9_judge_16 rfl (lv_at hl 0 rfl) ?_
      refine cMi (sh_wM q cI cJ cZ) (u := u) (va_runV (As := []) (rest := []) ⟨hx, hb, hml, hown, hts⟩ (c_X9_ways l D q cI cJ cZ _ u _ hw) (cwV 0 hts gX9_judge_X9_ways rfl rfl rfl (by decide +kernel) ⟨Nat.le_of_ble_eq_true rfl, Nat.le_of_ble_eq_true rfl⟩) (pvM (va_recv hK hP (ci := 9) (q0 := 0) (q := (RX9, TX9, 30)) rfl rfl) hK hP hD hN) rfl rfl hl.1 rfl (lv_room (Nat.le_of_ble_eq_true rfl)) dX9_judge_17 ⟨Nat.zero_le _, Nat.zero_le _⟩) hA hD hS (fun r49 u48 H locs hw hP hD hS => ?_)
      refine lv_istore_n (lv' := [(2, .int r49), (0, .ref (q 0)), (1, .int x1)]) hx hb dX9_judge_20 rfl hl (by decide) rfl (fun ls hl => ?_)
      refine lv_iload_n hx hb dX9_judge_21 rfl (lv_at hl 0 rfl) ?_
      refine lv_iconst (v := (-1)) hx hb dX9_judge_22 (by decide) ?_
      refine lv_icmp_ne (tgt := 28) hx hb dX9_judge_23 (by decide) (fun hc => ?_) (fun hc => ?_)
      · have hw := hw.1 hc
        refine lv_aload_n hx hb dX9_judge_28 rfl (lv_at hl 1 rfl) ?_
        refine lv_iload_n hx hb dX9_judge_29 rfl (lv_at hl 2 rfl) ?_
        refine cMv (sh_wM q cI cJ cZ) (u := u48) (va_runV (As := [.int x1]) (rest := []) ⟨hx, hb, hml, hown, hts⟩ (c_X9_works l D q cI cJ cZ _ u48 x1 _ hw) (cwV 1 hts gX9_judge_X9_works rfl rfl rfl (by decide +kernel) ⟨Nat.le_of_ble_eq_true rfl, Nat.le_of_ble_eq_true rfl⟩) (pvM (va_recv hK hP (ci := 9) (q0 := 0) (q := (RX9, TX9, 30)) rfl rfl) hK hP hD hN) rfl rfl hl.1 rfl (lv_room (Nat.le_of_ble_eq_true rfl)) dX9_judge_30 ⟨Nat.zero_le _, Nat.zero_le _⟩) hA hD hS (fun u50 H locs hw hP hD hS => ?_)
        refine lv_iconst (v := (-1)) hx hb dX9_judge_33 (by decide) ?_
        refine lv_istore_n (lv' := [(3, .int (-1)), (2, .int r49), (0, .ref (q 0)), (1, .int x1)]) hx hb dX9_judge_34 rfl hl (by decide) rfl (fun ls hl => ?_)
        refine lv_iconst (v := 0) hx hb dX9_judge_35 (by decide) ?_
        refine lv_istore (lv' := [(4, .int 0), (3, .int (-1)), (2, .int r49), (0, .ref (q 0)), (1, .int x1)]) hx hb dX9_judge_36 hl (by decide) rfl (fun ls hl => ?_)
        refine lv_iconst (v := 0) hx hb dX9_judge_38 (by decide) ?_
        refine lv_istore (lv' := [(5, .int 0), (4, .int 0), (3, .int (-1)), (2, .int r49), (0, .ref (q 0)), (1, .int x1)]) hx hb dX9_judge_39 hl (by decide) rfl (fun ls hl => ?_)
        obtain ⟨nn, hw⟩ := hw
        refine L41 x1 r49 nn (-1) 0 0 u50 _ _ hw hP hD hS ls (lv_sub hl [4, 5, 3, 2, 1, 0] rfl) (fun y51 u52 H locs hw hP hD hS ls hl => ?_)
        refine lv_iconst (v := 0) hx hb dX9_judge_247 (by decide) ?_
        refine lv_istore (lv' := [(5, .int 0), (0, .ref (q 0)), (3, .int y51)]) hx hb dX9_judge_248 hl (by decide) rfl (fun ls hl => ?_)
        obtain ⟨nn, hw⟩ := hw
        refine L250 y51 nn 0 u52 _ _ hw hP hD hS ls (lv_sub hl [1, 2, 0] rfl)
      · have hw := hw.2 hc
        refine lv_iconst (v := (-1)) hx hb dX9_judge_26 (by decide) ?_
        exact W.iret (v := (-1)) hx hb hr (fun t ht hW => ⟨⟨(-1), u48, rfl, hw, by show va_P D vwCl _ t.heap; rw [ht]; exact hP⟩, hS.F ht⟩) hS.2.2 dX9_judge_27
    · have hw := hw.2 hc
      refine lv_iconst (v := (-1)) hx hb dX9_judge_14 (by decide) ?_
      exact W.iret (v := (-1)) hx hb hr (fun t ht hW => ⟨⟨(-1), u, rfl, hw, by show va_P D vwCl _ t.heap; rw [ht]; exact hP⟩, hS.F ht⟩) hS.2.2 dX9_judge_15
set_option maxHeartbeats 4000000 in
set_option maxRecDepth 100000 in
theorem c_X0_priceOf (l : Launch) (D : va_G) (q : Nat → Nat) (cI cJ cZ : ClassId) (u : WU) (x1 : Int32) (post : Int32 → Prop) (hw : wp_X0_priceOf x1 u post) : Met l yX0_priceOf wsX0_priceOf rm_X0_priceOf (va_Pc [.ref (q 4), .int x1] (RW D (ty3 cI cJ cZ) (wX q cI cJ cZ u))) (vp_Si post) 0 0 (fun _ => False) := by
  refine Met.ofW (cc := cX0_priceOf) (maxL := 4) (ret := (some .int)) (by decide) rfl ?_
  intro p e s m args below meth c s₁ B hml hv
  obtain ⟨hargs, hP, hK, hN⟩ := hv
  have hx := B.exec
  have hb := B.bytes
  have hr := B.returns
  have hts := atoms_spec (ws := wsX0_priceOf) B.pre
  have hown : s.vm.findClass RX0 = some m.cls := findClass_of_methodNamed B.named
  have hlocks := B.notSynchronized
  have hiX0 : ∀ w ∈ u_ws RX0 TX0 5, w ∈ wsX0_priceOf := by decide +kernel
  have hf21 := hts (.fieldLink RX0 21 "TermsDesk$Changes" "cost" "[I") (by decide +kernel)
  have hf24 := hts (.fieldLink RX0 24 "TermsDesk$Changes" "told" "I") (by decide +kernel)
  have hi_RX8 := hts (.initialized RX8) (by decide +kernel)
  have hs_X8_holds := hts (.static yX8_holds) (by decide +kernel)
  have J30 : ∀ {K4 : Int32 → Int32 → Prop} (x1 : Int32) (x2 : Int32) (x3 : Int32) (_ : Unit), wp_X0_priceOf_J30 x1 x2 x3 u post K4 → ∀ ls : Array Slot, lv_has ls 4 [(0, .ref (q 4)), (1, .int x1), (2, .int x2), (3, .int x3)] → (∀ (x2 : Int32) (x3 : Int32), K4 x2 x3 → ∀ ls : Array Slot, lv_has ls 4 [(0, .ref (q 4)), (1, .int x1), (2, .int x2), (3, .int x3)] → W p l e (headSpec wsX0_priceOf rm_X0_priceOf).room s m args below meth c s.heap [] 0 0 (MQ below (vp_Si post) args s 0 0 (fun _ => False)) (F0 m 4 ls [])) → W p l e (headSpec wsX0_priceOf rm_X0_priceOf).room s m args below meth c s.heap [] 0 0 (MQ below (vp_Si post) args s 0 0 (fun _ => False)) (F0 m 30 ls []) := by
    intro K4 x1 x2 x3 _ hw ls hl k4
    unfold wp_X0_priceOf_J30 at hw
    obtain ⟨y7, ey7⟩ : ∃ z : Int32, z = x3 + 1 := ⟨_, rfl⟩
    have hw := hw y7 ey7
    refine lv_iinc (v := y7) (lv' := [(3, .int y7), (0, .ref (q 4)), (1, .int x1), (2, .int x2)]) hx hb dX0_priceOf_30 hl (k := 3) rfl (by rw [ey7]; rfl) (by decide) rfl (fun ls hl => ?_)
    refine lv_goto (tgt := 4) hx hb dX0_priceOf_33 (by decide) ?_
    exact k4 x2 y7 hw ls (lv_sub hl [1, 2, 3, 0] rfl)
  have L4 : ∀ (x1 : Int32) (n : Nat) (x2 : Int32) (x3 : Int32) (_ : Unit), wp_X0_priceOf_L4 x1 u post n x2 x3 → ∀ ls : Array Slot, lv_has ls 4 [(0, .ref (q 4)), (1, .int x1), (2, .int x2), (3, .int x3)] → W p l e (headSpec wsX0_priceOf rm_X0_priceOf).room s m args below meth c s.heap [] 0 0 (MQ below (vp_Si post) args s 0 0 (fun _ => False)) (F0 m 4 ls []) := by
    intro x1 n
    induction n with
    | zero =>
      intro x2 x3 _ hw
      exact hw.elim
    | succ n ih =>
      intro x2 x3 _ hw ls hl 
      unfold wp_X0_priceOf_L4 at hw
      refine lv_iload_n hx hb dX0_priceOf_4 rfl (lv_at hl 3 rfl) ?_
      refine lv_aload_n hx hb dX0_priceOf_5 rfl (lv_at hl 0 rfl) ?_
      refine va_get (D := D) (ci := 0) (v := .int (u.1 23 0)) (C := RX0) (T := TX0) (N := 5) hx hb hts hiX0 hown hK hP 4 rfl rfl 4 (by decide) hf24 (fun _ h9 => h9) rfl dX0_priceOf_6 ?_
      refine lv_icmp_ge (tgt := 36) hx hb dX0_priceOf_9 (by decide) (fun hc => ?_) (fun hc => ?_)
      · have hw := hw.1 hc
        refine lv_iload_n hx hb dX0_priceOf_36 rfl (lv_at hl 2 rfl) ?_
        exact W.iret (v := x2) hx hb hr (fun t ht hW => ⟨x2, rfl, hw, ht⟩) (fun _ h => by cases h) dX0_priceOf_37
      · have hw := hw.2 hc
        refine lv_iload_n hx hb dX0_priceOf_12 rfl (lv_at hl 1 rfl) ?_
        refine lv_i2l (v := x1.toInt64) hx hb dX0_priceOf_13 rfl ?_
        refine lv_iload_n hx hb dX0_priceOf_14 rfl (lv_at hl 3 rfl) ?_
        refine vp_callSi (va_Run.run (va_runSN (As := [.long x1.toInt64, .int x3]) (rest := []) ⟨hx, hb, hml, hown, hts⟩ (c_X8_holds l x1.toInt64 x3 _ hw) ⟨va_cnB 2 hts ggX0_priceOf_X8_holds rfl rfl rfl (nm_RX0_28 hN) hi_RX8 (by decide +kernel) ⟨Nat.le_of_ble_eq_true rfl, Nat.le_of_ble_eq_true rfl⟩, hs_X8_holds, trivial⟩ (psS hN) rfl rfl hl.1 rfl (lv_room (Nat.le_of_ble_eq_true rfl)) dX0_priceOf_15 ⟨Nat.zero_le _, Nat.zero_le _⟩)) (fun r1 hw => ?_)
        refine lv_if_eq (tgt := 30) hx hb dX0_priceOf_18 (by decide) (fun hc => ?_) (fun hc => ?_)
        · have hw := hw.1 hc
          refine J30 x1 x2 x3 () hw ls (lv_sub hl [0, 1, 2, 3] rfl) (fun y2 y3 hw ls hl => ?_)
          exact ih y2 y3 () hw ls (lv_sub hl [0, 1, 2, 3] rfl)
        · have hw := hw.2 hc
          refine lv_iload_n hx hb dX0_priceOf_21 rfl (lv_at hl 2 rfl) ?_
          refine lv_aload_n hx hb dX0_priceOf_22 rfl (lv_at hl 0 rfl) ?_
          refine va_get (D := D) (ci := 0) (v := .ref (q 26)) (C := RX0) (T := TX0) (N := 5) hx hb hts hiX0 hown hK hP 4 rfl rfl 3 (by decide) hf21 (fun _ h9 => h9) rfl dX0_priceOf_23 ?_
          refine lv_iload_n hx hb dX0_priceOf_26 rfl (lv_at hl 3 rfl) ?_
          obtain ⟨hin, hw⟩ := hw
          refine va_iald hx hb hK hP 26 0 rfl rfl hin dX0_priceOf_27 ?_
          refine lv_iadd hx hb dX0_priceOf_28 ?_
          refine lv_topi (fun y4 ey4 => ?_)
          have hw := hw y4 ey4
          refine lv_istore_n (lv' := [(2, .int y4), (0, .ref (q 4)), (1, .int x1), (3, .int x3)]) hx hb dX0_priceOf_29 rfl hl (by decide) rfl (fun ls hl => ?_)
          refine J30 x1 y4 x3 () hw ls (lv_sub hl [1, 2, 0, 3] rfl) (fun y5 y6 hw ls hl => ?_)
          exact ih y5 y6 () hw ls (lv_sub hl [0, 1, 2, 3] rfl)
  have hent := lg_entry_eq m ([.ref (q 4), .int x1]) 4
  rw [← hargs] at hent
  rw [hent]
  have hl := lv_entry ([.ref (q 4), .int x1]) (n := 4) (Nat.le_of_ble_eq_true rfl)
  generalize (lg_sl ([.ref (q 4), .int x1]) ++ List.replicate (4 - (lg_sl ([.ref (q 4), .int x1])).length) Slot.unset).toArray = ls at hl ⊢
  have hl : lv_has ls 4 [(0, .ref (q 4)), (1, .int x1)] := hl
  unfold wp_X0_priceOf at hw
  refine lv_iconst (v := 0) hx hb dX0_priceOf_0 (by decide) ?_
  refine lv_istore_n (lv' := [(2, .int 0), (0, .ref (q 4)), (1, .int x1)]) hx hb dX0_priceOf_1 rfl hl (by decide) rfl (fun ls hl => ?_)
  refine lv_iconst (v := 0) hx hb dX0_priceOf_2 (by decide) ?_
  refine lv_istore_n (lv' := [(3, .int 0), (2, .int 0), (0, .ref (q 4)), (1, .int x1)]) hx hb dX0_priceOf_3 rfl hl (by decide) rfl (fun ls hl => ?_)
  obtain ⟨nn, hw⟩ := hw
  refine L4 x1 nn 0 0 () hw ls (lv_sub hl [2, 3, 1, 0] rfl)
set_option maxHeartbeats 4000000 in
set_option maxRecDepth 100000 in
theorem c_J6_compare_7cf53 (l : Launch) (x0 : Int32) (x1 : Int32) (post : Int32 → Prop) (hw : wp_J6_compare_7cf53 x0 x1 post) : Met l yJ6_compare_7cf53 wsJ6_compare_7cf53 rm_J6_compare_7cf53 (va_Pc [.int x0, .int x1] NW) (vp_Si post) 0 0 (fun _ => False) := by
  refine Met.ofW (cc := cJ6_compare_7cf53) (maxL := 2) (ret := (some .int)) (by decide) rfl ?_
  intro p e s m args below meth c s₁ B hml hv
  obtain ⟨hargs, hN⟩ := hv
  have hx := B.exec
  have hb := B.bytes
  have hr := B.returns
  have hts := atoms_spec (ws := wsJ6_compare_7cf53) B.pre
  have hown : s.vm.findClass RJ6 = some m.cls := findClass_of_methodNamed B.named
  have hlocks := B.notSynchronized
  have hent := lg_entry_eq m ([.int x0, .int x1]) 2
  rw [← hargs] at hent
  rw [hent]
  have hl := lv_entry ([.int x0, .int x1]) (n := 2) (Nat.le_of_ble_eq_true rfl)
  generalize (lg_sl ([.int x0, .int x1]) ++ List.replicate (2 - (lg_sl ([.int x0, .int x1])).length) Slot.unset).toArray = ls at hl ⊢
  have hl : lv_has ls 2 [(0, .int x0), (1, .int x1)] := hl
  unfold wp_J6_compare_7cf53 at hw
  refine lv_iload_n hx hb dJ6_compare_7cf53_0 rfl (lv_at hl 0 rfl) ?_
  refine lv_iload_n hx hb dJ6_compare_7cf53_1 rfl (lv_at hl 1 rfl) ?_
  refine lv_icmp_ge (tgt := 9) hx hb dJ6_compare_7cf53_2 (by decide) (fun hc => ?_) (fun hc => ?_)
  · have hw := hw.1 hc
    refine lv_iload_n hx hb dJ6_compare_7cf53_9 rfl (lv_at hl 0 rfl) ?_
    refine lv_iload_n hx hb dJ6_compare_7cf53_10 rfl (lv_at hl 1 rfl) ?_
    refine lv_icmp_ne (tgt := 18) hx hb dJ6_compare_7cf53_11 (by decide) (fun hc => ?_) (fun hc => ?_)
    · have hw := hw.1 hc
      refine lv_iconst (v := 1) hx hb dJ6_compare_7cf53_18 (by decide) ?_
      exact W.iret (v := 1) hx hb hr (fun t ht hW => ⟨1, rfl, hw, ht⟩) (fun _ h => by cases h) dJ6_compare_7cf53_19
    · have hw := hw.2 hc
      refine lv_iconst (v := 0) hx hb dJ6_compare_7cf53_14 (by decide) ?_
      refine lv_goto (tgt := 19) hx hb dJ6_compare_7cf53_15 (by decide) ?_
      exact W.iret (v := 0) hx hb hr (fun t ht hW => ⟨0, rfl, hw, ht⟩) (fun _ h => by cases h) dJ6_compare_7cf53_19
  · have hw := hw.2 hc
    refine lv_iconst (v := (-1)) hx hb dJ6_compare_7cf53_5 (by decide) ?_
    refine lv_goto (tgt := 19) hx hb dJ6_compare_7cf53_6 (by decide) ?_
    exact W.iret (v := (-1)) hx hb hr (fun t ht hW => ⟨(-1), rfl, hw, ht⟩) (fun _ h => by cases h) dJ6_compare_7cf53_19
