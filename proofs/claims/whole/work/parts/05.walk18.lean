set_option maxHeartbeats 4000000 in
set_option maxRecDepth 100000 in
theorem c_X8_look (l : Launch) (D : va_G) (q : Nat → Nat) (cI cJ cZ : ClassId) (u : WU) (x1 : Int32) (x2 : Int32) (post : Int32 → Prop) (hw : wp_X8_look x1 x2 u post) : Met l yX8_look wsX8_look rm_X8_look (va_Pc [.ref (q 0), .int x1, .int x2] (RW D (ty3 cI cJ cZ) (wX q cI cJ cZ u))) (vp_Si post) 0 0 (fun _ => False) := by
  refine Met.ofW (cc := cX8_look) (maxL := 3) (ret := (some .int)) (by decide) rfl ?_
  intro p e s m args below meth c s₁ B hml hv
  obtain ⟨hargs, hP, hK, hN⟩ := hv
  have hx := B.exec
  have hb := B.bytes
  have hr := B.returns
  have hts := atoms_spec (ws := wsX8_look) B.pre
  have hown : s.vm.findClass RX8 = some m.cls := findClass_of_methodNamed B.named
  have hlocks := B.notSynchronized
  have hiX3 : ∀ w ∈ u_ws RX3 TX3 9, w ∈ wsX8_look := by decide +kernel
  have hiX5 : ∀ w ∈ u_ws RX5 TX5 6, w ∈ wsX8_look := by decide +kernel
  have hiX8 : ∀ w ∈ u_ws RX8 TX8 8, w ∈ wsX8_look := by decide +kernel
  have hf19 := hts (.fieldLink RX8 19 "TermsDesk" "parts" "LTermsDesk$Parts;") (by decide +kernel)
  have hf26 := hts (.fieldLink RX8 26 "TermsDesk" "joins" "LTermsDesk$Joins;") (by decide +kernel)
  have hf42 := hts (.fieldLink RX8 42 "TermsDesk" "flow" "LTermsDesk$Flow;") (by decide +kernel)
  have hent := lg_entry_eq m ([.ref (q 0), .int x1, .int x2]) 3
  rw [← hargs] at hent
  rw [hent]
  have hl := lv_entry ([.ref (q 0), .int x1, .int x2]) (n := 3) (Nat.le_of_ble_eq_true rfl)
  generalize (lg_sl ([.ref (q 0), .int x1, .int x2]) ++ List.replicate (3 - (lg_sl ([.ref (q 0), .int x1, .int x2])).length) Slot.unset).toArray = ls at hl ⊢
  have hl : lv_has ls 3 [(0, .ref (q 0)), (1, .int x1), (2, .int x2)] := hl
  unfold wp_X8_look at hw
  refine lv_aload_n hx hb dX8_look_0 rfl (lv_at hl 0 rfl) ?_
  refine va_get (D := D) (ci := 8) (v := .ref (q 2)) (C := RX8) (T := TX8) (N := 8) hx hb hts hiX8 hown hK hP 0 rfl rfl 1 (by decide) hf19 (fun _ h9 => h9) rfl dX8_look_1 ?_
  refine lv_iload_n hx hb dX8_look_4 rfl (lv_at hl 1 rfl) ?_
  refine vp_callSi (va_Run.run (va_runV (As := [.int x1]) (rest := []) ⟨hx, hb, hml, hown, hts⟩ (c_X5_has l D q cI cJ cZ u x1 _ hw) (cwV 1 hts gX8_look_X5_has rfl rfl rfl (by decide +kernel) ⟨Nat.le_of_ble_eq_true rfl, Nat.le_of_ble_eq_true rfl⟩) (pvR (va_recv hK hP (ci := 5) (q0 := 2) (q := (RX5, TX5, 6)) rfl rfl) hK hP hN) rfl rfl hl.1 rfl (lv_room (Nat.le_of_ble_eq_true rfl)) dX8_look_5 ⟨Nat.zero_le _, Nat.zero_le _⟩)) (fun r1 hw => ?_)
  refine lv_if_ne (tgt := 13) hx hb dX8_look_8 (by decide) (fun hc => ?_) (fun hc => ?_)
  · have hw := hw.1 hc
    refine lv_iload_n hx hb dX8_look_13 rfl (lv_at hl 2 rfl) ?_
    by_cases hc0 : x2 = 0
    · have hw := hw.1 hc0
      refine lv_tableIn (tgt := 48) hx hb dX8_look_14 (by rw [hc0]; decide) (by rw [hc0]; decide) (by rw [hc0]; rfl) (by decide) ?_
      refine lv_aload_n hx hb dX8_look_48 rfl (lv_at hl 0 rfl) ?_
      refine va_get (D := D) (ci := 8) (v := .ref (q 2)) (C := RX8) (T := TX8) (N := 8) hx hb hts hiX8 hown hK hP 0 rfl rfl 1 (by decide) hf19 (fun _ h9 => h9) rfl dX8_look_49 ?_
      refine va_getN (D := D) (ci := 5) (v := .ref (q 14)) (C := RX5) (T := TX5) (N := 6) hx hb hts hiX5 hown hK hP 2 rfl rfl 2 (by decide) (va_Nw.use rfl (nf_RX8_115 hN)) (fun _ h9 => h9) rfl dX8_look_52 ?_
      refine lv_iload_n hx hb dX8_look_55 rfl (lv_at hl 1 rfl) ?_
      obtain ⟨hin, hw⟩ := hw
      refine va_iald hx hb hK hP 14 0 rfl rfl hin dX8_look_56 ?_
      exact W.iret (v := u.1 2 x1.toNatClampNeg) hx hb hr (fun t ht hW => ⟨u.1 2 x1.toNatClampNeg, rfl, hw, ht⟩) (fun _ h => by cases h) dX8_look_57
    by_cases hc1 : x2 = 1
    · have hw := hw.2.1 hc1
      refine lv_tableIn (tgt := 58) hx hb dX8_look_14 (by rw [hc1]; decide) (by rw [hc1]; decide) (by rw [hc1]; rfl) (by decide) ?_
      refine lv_aload_n hx hb dX8_look_58 rfl (lv_at hl 0 rfl) ?_
      refine va_get (D := D) (ci := 8) (v := .ref (q 2)) (C := RX8) (T := TX8) (N := 8) hx hb hts hiX8 hown hK hP 0 rfl rfl 1 (by decide) hf19 (fun _ h9 => h9) rfl dX8_look_59 ?_
      refine va_getN (D := D) (ci := 5) (v := .ref (q 13)) (C := RX5) (T := TX5) (N := 6) hx hb hts hiX5 hown hK hP 2 rfl rfl 1 (by decide) (va_Nw.use rfl (nf_RX8_108 hN)) (fun _ h9 => h9) rfl dX8_look_62 ?_
      refine lv_iload_n hx hb dX8_look_65 rfl (lv_at hl 1 rfl) ?_
      obtain ⟨hin, hw⟩ := hw
      refine va_iald hx hb hK hP 13 0 rfl rfl hin dX8_look_66 ?_
      exact W.iret (v := u.1 1 x1.toNatClampNeg) hx hb hr (fun t ht hW => ⟨u.1 1 x1.toNatClampNeg, rfl, hw, ht⟩) (fun _ h => by cases h) dX8_look_67
    by_cases hc2 : x2 = 2
    · have hw := hw.2.2.1 hc2
      refine lv_tableIn (tgt := 68) hx hb dX8_look_14 (by rw [hc2]; decide) (by rw [hc2]; decide) (by rw [hc2]; rfl) (by decide) ?_
      refine lv_aload_n hx hb dX8_look_68 rfl (lv_at hl 0 rfl) ?_
      refine va_get (D := D) (ci := 8) (v := .ref (q 5)) (C := RX8) (T := TX8) (N := 8) hx hb hts hiX8 hown hK hP 0 rfl rfl 4 (by decide) hf42 (fun _ h9 => h9) rfl dX8_look_69 ?_
      refine lv_aload_n hx hb dX8_look_72 rfl (lv_at hl 0 rfl) ?_
      refine va_get (D := D) (ci := 8) (v := .ref (q 3)) (C := RX8) (T := TX8) (N := 8) hx hb hts hiX8 hown hK hP 0 rfl rfl 2 (by decide) hf26 (fun _ h9 => h9) rfl dX8_look_73 ?_
      refine va_getN (D := D) (ci := 3) (v := .long (u.2 6 0)) (C := RX3) (T := TX3) (N := 9) hx hb hts hiX3 hown hK hP 3 rfl rfl 4 (by decide) (va_Nw.use rfl (nf_RX8_122 hN)) (fun _ h9 => h9) rfl dX8_look_76 ?_
      refine vp_callSi (va_Run.run (va_runV (As := [.long (u.2 6 0)]) (rest := []) ⟨hx, hb, hml, hown, hts⟩ (c_X2_ofProduct l D q cI cJ cZ u (u.2 6 0) _ hw) (cwV 1 hts gX8_look_X2_ofProduct rfl rfl rfl (by decide +kernel) ⟨Nat.le_of_ble_eq_true rfl, Nat.le_of_ble_eq_true rfl⟩) (pvR (va_recv hK hP (ci := 2) (q0 := 5) (q := (RX2, TX2, 5)) rfl rfl) hK hP hN) rfl rfl hl.1 rfl (lv_room (Nat.le_of_ble_eq_true rfl)) dX8_look_79 ⟨Nat.zero_le _, Nat.zero_le _⟩)) (fun r2 hw => ?_)
      refine lv_i2l (v := r2.toInt64) hx hb dX8_look_82 rfl ?_
      refine lv_iload_n hx hb dX8_look_83 rfl (lv_at hl 1 rfl) ?_
      refine vp_callSi (va_Run.run (va_runS (As := [.long r2.toInt64, .int x1]) (rest := []) ⟨hx, hb, hml, hown, hts⟩ (c_X8_holds l r2.toInt64 x1 _ hw) (va_cwS 2 hts gX8_look_X8_holds rfl rfl rfl (by decide +kernel) ⟨Nat.le_of_ble_eq_true rfl, Nat.le_of_ble_eq_true rfl⟩) (psS hN) rfl rfl hl.1 rfl (lv_room (Nat.le_of_ble_eq_true rfl)) dX8_look_84 ⟨Nat.zero_le _, Nat.zero_le _⟩)) (fun r3 hw => ?_)
      refine lv_if_eq (tgt := 94) hx hb dX8_look_87 (by decide) (fun hc => ?_) (fun hc => ?_)
      · have hw := hw.1 hc
        refine lv_iconst (v := 0) hx hb dX8_look_94 (by decide) ?_
        exact W.iret (v := 0) hx hb hr (fun t ht hW => ⟨0, rfl, hw, ht⟩) (fun _ h => by cases h) dX8_look_95
      · have hw := hw.2 hc
        refine lv_iconst (v := 1) hx hb dX8_look_90 (by decide) ?_
        refine lv_goto (tgt := 95) hx hb dX8_look_91 (by decide) ?_
        exact W.iret (v := 1) hx hb hr (fun t ht hW => ⟨1, rfl, hw, ht⟩) (fun _ h => by cases h) dX8_look_95
    by_cases hc3 : x2 = 3
    · have hw := hw.2.2.2.1 hc3
      refine lv_tableIn (tgt := 96) hx hb dX8_look_14 (by rw [hc3]; decide) (by rw [hc3]; decide) (by rw [hc3]; rfl) (by decide) ?_
      refine lv_aload_n hx hb dX8_look_96 rfl (lv_at hl 0 rfl) ?_
      refine va_get (D := D) (ci := 8) (v := .ref (q 3)) (C := RX8) (T := TX8) (N := 8) hx hb hts hiX8 hown hK hP 0 rfl rfl 2 (by decide) hf26 (fun _ h9 => h9) rfl dX8_look_97 ?_
      refine lv_iload_n hx hb dX8_look_100 rfl (lv_at hl 1 rfl) ?_
      refine vp_callSi (va_Run.run (va_runV (As := [.int x1]) (rest := []) ⟨hx, hb, hml, hown, hts⟩ (c_X3_countInto l D q cI cJ cZ u x1 _ hw) (cwV 1 hts gX8_look_X3_countInto rfl rfl rfl (by decide +kernel) ⟨Nat.le_of_ble_eq_true rfl, Nat.le_of_ble_eq_true rfl⟩) (pvR (va_recv hK hP (ci := 3) (q0 := 3) (q := (RX3, TX3, 9)) rfl rfl) hK hP hN) rfl rfl hl.1 rfl (lv_room (Nat.le_of_ble_eq_true rfl)) dX8_look_101 ⟨Nat.zero_le _, Nat.zero_le _⟩)) (fun r4 hw => ?_)
      exact W.iret (v := r4) hx hb hr (fun t ht hW => ⟨r4, rfl, hw, ht⟩) (fun _ h => by cases h) dX8_look_104
    by_cases hc4 : x2 = 4
    · have hw := hw.2.2.2.2.1 hc4
      refine lv_tableIn (tgt := 105) hx hb dX8_look_14 (by rw [hc4]; decide) (by rw [hc4]; decide) (by rw [hc4]; rfl) (by decide) ?_
      refine lv_aload_n hx hb dX8_look_105 rfl (lv_at hl 0 rfl) ?_
      refine va_get (D := D) (ci := 8) (v := .ref (q 3)) (C := RX8) (T := TX8) (N := 8) hx hb hts hiX8 hown hK hP 0 rfl rfl 2 (by decide) hf26 (fun _ h9 => h9) rfl dX8_look_106 ?_
      refine lv_iload_n hx hb dX8_look_109 rfl (lv_at hl 1 rfl) ?_
      refine vp_callSi (va_Run.run (va_runV (As := [.int x1]) (rest := []) ⟨hx, hb, hml, hown, hts⟩ (c_X3_countOutOf l D q cI cJ cZ u x1 _ hw) (cwV 1 hts gX8_look_X3_countOutOf rfl rfl rfl (by decide +kernel) ⟨Nat.le_of_ble_eq_true rfl, Nat.le_of_ble_eq_true rfl⟩) (pvR (va_recv hK hP (ci := 3) (q0 := 3) (q := (RX3, TX3, 9)) rfl rfl) hK hP hN) rfl rfl hl.1 rfl (lv_room (Nat.le_of_ble_eq_true rfl)) dX8_look_110 ⟨Nat.zero_le _, Nat.zero_le _⟩)) (fun r5 hw => ?_)
      exact W.iret (v := r5) hx hb hr (fun t ht hW => ⟨r5, rfl, hw, ht⟩) (fun _ h => by cases h) dX8_look_113
    have hw := hw.2.2.2.2.2 hc0 hc1 hc2 hc3 hc4
    refine lv_tableOut (tgt := 114) hx hb dX8_look_14 (sw_out 4 (fun k hk => by rcases (show k = 0 ∨ k = 1 ∨ k = 2 ∨ k = 3 ∨ k = 4 by omega) with rfl | rfl | rfl | rfl | rfl <;> assumption)) (by decide) ?_
    refine lv_aload_n hx hb dX8_look_114 rfl (lv_at hl 0 rfl) ?_
    refine lv_iload_n hx hb dX8_look_115 rfl (lv_at hl 1 rfl) ?_
    refine lv_iload_n hx hb dX8_look_116 rfl (lv_at hl 2 rfl) ?_
    refine vp_callSi (va_Run.run (va_runV (As := [.int x1, .int x2]) (rest := []) ⟨hx, hb, hml, hown, hts⟩ (c_X8_choiceOrNone l D q cI cJ cZ u x1 x2 _ hw) (cwV 2 hts gX8_look_X8_choiceOrNone rfl rfl rfl (by decide +kernel) ⟨Nat.le_of_ble_eq_true rfl, Nat.le_of_ble_eq_true rfl⟩) (pvR (va_recv hK hP (ci := 8) (q0 := 0) (q := (RX8, TX8, 8)) rfl rfl) hK hP hN) rfl rfl hl.1 rfl (lv_room (Nat.le_of_ble_eq_true rfl)) dX8_look_117 ⟨Nat.zero_le _, Nat.zero_le _⟩)) (fun r6 hw => ?_)
    exact W.iret (v := r6) hx hb hr (fun t ht hW => ⟨r6, rfl, hw, ht⟩) (fun _ h => by cases h) dX8_look_120
  · have hw := hw.2 hc
    refine lv_iconst (v := (-1)) hx hb dX8_look_11 (by decide) ?_
    exact W.iret (v := (-1)) hx hb hr (fun t ht hW => ⟨(-1), rfl, hw, ht⟩) (fun _ h => by cases h) dX8_look_12
set_option maxHeartbeats 4000000 in
set_option maxRecDepth 100000 in
theorem c_X9_look (l : Launch) (D : va_G) (q : Nat → Nat) (cI cJ cZ : ClassId) (sz : Nat) (u : WU) (x1 : Int32) (x2 : Int32) (post : Int32 → WU → Prop) (hw : wp_X9_look x1 x2 u post) : Met l yX9_look wsX9_look rm_X9_look (va_Pc [.ref (q 0), .int x1, .int x2] (MW D (ty3 cI cJ cZ) (wM q cI cJ cZ u) sz)) (va_Qi post (fun u' t => va_P D vwCl (wM q cI cJ cZ u') t.heap) (va_A (wM q cI cJ cZ u00) sz)) 0 0 (va_A (wM q cI cJ cZ u00) sz) := by
  refine Met.ofW (cc := cX9_look) (maxL := 5) (ret := (some .int)) (by decide) rfl ?_
  intro p e s m args below meth c s₁ B hml hv
  obtain ⟨hargs, hsz, hP, hK, hD0, hN⟩ := hv
  have hx := B.exec
  have hb := B.bytes
  have hr := B.returns
  have hts := atoms_spec (ws := wsX9_look) B.pre
  have hown : s.vm.findClass RX9 = some m.cls := findClass_of_methodNamed B.named
  have hlocks := B.notSynchronized
  subst hsz
  have hD := shw_self (sz := s.heap.size) (sh_wM q cI cJ cZ) hD0
  have hA : ∀ a : Nat, s.heap.size ≤ a → va_A (wM q cI cJ cZ u00) s.heap.size a := fun _ h => Or.inr h
  have hS : va_S (va_A (wM q cI cJ cZ u00) s.heap.size) s.heap s.heap [] := va_S.rf
  have hiX9 : ∀ w ∈ u_ws RX9 TX9 30, w ∈ wsX9_look := by decide +kernel
  have hf108 := hts (.fieldLink RX9 108 "TermsDeskModel" "joins" "I") (by decide +kernel)
  have hf118 := hts (.fieldLink RX9 118 "TermsDeskModel" "product" "I") (by decide +kernel)
  have hf20 := hts (.fieldLink RX9 20 "TermsDeskModel" "choice" "[I") (by decide +kernel)
  have hf23 := hts (.fieldLink RX9 23 "TermsDeskModel" "many" "[I") (by decide +kernel)
  have hf26 := hts (.fieldLink RX9 26 "TermsDeskModel" "taken" "[I") (by decide +kernel)
  have hf32 := hts (.fieldLink RX9 32 "TermsDeskModel" "from" "[I") (by decide +kernel)
  have hf35 := hts (.fieldLink RX9 35 "TermsDeskModel" "to" "[I") (by decide +kernel)
  have hf41 := hts (.fieldLink RX9 41 "TermsDeskModel" "isCut" "[Z") (by decide +kernel)
  have hf57 := hts (.fieldLink RX9 57 "TermsDeskModel" "isReached" "[Z") (by decide +kernel)
  have J169 : ∀ {K133 : Int32 → Int32 → WU → Prop} (x1 : Int32) (x4 : Int32) (z0 : Int32) (z1 : Int32) (u : WU) (H : Heap) (locs : List Loc), wp_X9_look_J169 x1 x4 z0 z1 u post K133 → va_P D vwCl (wM q cI cJ cZ u) H → va_D (va_A (wM q cI cJ cZ u00) s.heap.size) (wM q cI cJ cZ u) → va_S (va_A (wM q cI cJ cZ u00) s.heap.size) s.heap H locs → ∀ ls : Array Slot, lv_has ls 5 [(0, .ref (q 0)), (1, .int x1), (4, .int x4)] → (∀ (x3 : Int32) (x4 : Int32) (u : WU) (H : Heap) (locs : List Loc), K133 x3 x4 u → va_P D vwCl (wM q cI cJ cZ u) H → va_D (va_A (wM q cI cJ cZ u00) s.heap.size) (wM q cI cJ cZ u) → va_S (va_A (wM q cI cJ cZ u00) s.heap.size) s.heap H locs → ∀ ls : Array Slot, lv_has ls 5 [(0, .ref (q 0)), (1, .int x1), (3, .int x3), (4, .int x4)] → W p l e (headSpec wsX9_look rm_X9_look).room s m args below meth c H locs 0 0 (MQ below (va_Qi post (fun u' t => va_P D vwCl (wM q cI cJ cZ u') t.heap) (va_A (wM q cI cJ cZ u00) s.heap.size)) args s 0 0 (va_A (wM q cI cJ cZ u00) s.heap.size)) (F0 m 133 ls [])) → W p l e (headSpec wsX9_look rm_X9_look).room s m args below meth c H locs 0 0 (MQ below (va_Qi post (fun u' t => va_P D vwCl (wM q cI cJ cZ u') t.heap) (va_A (wM q cI cJ cZ u00) s.heap.size)) args s 0 0 (va_A (wM q cI cJ cZ u00) s.heap.size)) (F0 m 169 ls [.int z1, .int z0]) := by
    intro K133 x1 x4 z0 z1 u H locs hw hP hD hS ls hl k133
    unfold wp_X9_look_J169 at hw
    refine lv_iadd hx hb dX9_look_169 ?_
    refine lv_topi (fun y22 ey22 => ?_)
    have hw := hw y22 ey22
    refine lv_istore_n (lv' := [(3, .int y22), (0, .ref (q 0)), (1, .int x1), (4, .int x4)]) hx hb dX9_look_170 rfl hl (by decide) rfl (fun ls hl => ?_)
    obtain ⟨y23, ey23⟩ : ∃ z : Int32, z = x4 + 1 := ⟨_, rfl⟩
    have hw := hw y23 ey23
    refine lv_iinc (v := y23) (lv' := [(4, .int y23), (3, .int y22), (0, .ref (q 0)), (1, .int x1)]) hx hb dX9_look_171 hl (k := 3) rfl (by rw [ey23]; rfl) (by decide) rfl (fun ls hl => ?_)
    refine lv_goto (tgt := 133) hx hb dX9_look_174 (by decide) ?_
    exact k133 y22 y23 u _ _ hw hP hD hS ls (lv_sub hl [2, 3, 1, 0] rfl)
  have J168 : ∀ {K133 : Int32 → Int32 → WU → Prop} (x1 : Int32) (x4 : Int32) (z0 : Int32) (u : WU) (H : Heap) (locs : List Loc), wp_X9_look_J168 x1 x4 z0 u post K133 → va_P D vwCl (wM q cI cJ cZ u) H → va_D (va_A (wM q cI cJ cZ u00) s.heap.size) (wM q cI cJ cZ u) → va_S (va_A (wM q cI cJ cZ u00) s.heap.size) s.heap H locs → ∀ ls : Array Slot, lv_has ls 5 [(0, .ref (q 0)), (1, .int x1), (4, .int x4)] → (∀ (x3 : Int32) (x4 : Int32) (u : WU) (H : Heap) (locs : List Loc), K133 x3 x4 u → va_P D vwCl (wM q cI cJ cZ u) H → va_D (va_A (wM q cI cJ cZ u00) s.heap.size) (wM q cI cJ cZ u) → va_S (va_A (wM q cI cJ cZ u00) s.heap.size) s.heap H locs → ∀ ls : Array Slot, lv_has ls 5 [(0, .ref (q 0)), (1, .int x1), (3, .int x3), (4, .int x4)] → W p l e (headSpec wsX9_look rm_X9_look).room s m args below meth c H locs 0 0 (MQ below (va_Qi post (fun u' t => va_P D vwCl (wM q cI cJ cZ u') t.heap) (va_A (wM q cI cJ cZ u00) s.heap.size)) args s 0 0 (va_A (wM q cI cJ cZ u00) s.heap.size)) (F0 m 133 ls [])) → W p l e (headSpec wsX9_look rm_X9_look).room s m args below meth c H locs 0 0 (MQ below (va_Qi post (fun u' t => va_P D vwCl (wM q cI cJ cZ u') t.heap) (va_A (wM q cI cJ cZ u00) s.heap.size)) args s 0 0 (va_A (wM q cI cJ cZ u00) s.heap.size)) (F0 m 168 ls [.int z0]) := by
    intro K133 x1 x4 z0 u H locs hw hP hD hS ls hl k133
    unfold wp_X9_look_J168 at hw
    refine lv_iconst (v := 0) hx hb dX9_look_168 (by decide) ?_
    refine J169 x1 x4 z0 0 u _ _ hw hP hD hS ls (lv_sub hl [0, 1, 2] rfl) (fun y19 y20 u21 H locs hw hP hD hS ls hl => ?_)
    exact k133 y19 y20 u21 _ _ hw hP hD hS ls (lv_sub hl [0, 1, 2, 3] rfl)
  have L133 : ∀ (x1 : Int32) (n : Nat) (x3 : Int32) (x4 : Int32) (u : WU) (H : Heap) (locs : List Loc), wp_X9_look_L133 x1 post n x3 x4 u → va_P D vwCl (wM q cI cJ cZ u) H → va_D (va_A (wM q cI cJ cZ u00) s.heap.size) (wM q cI cJ cZ u) → va_S (va_A (wM q cI cJ cZ u00) s.heap.size) s.heap H locs → ∀ ls : Array Slot, lv_has ls 5 [(0, .ref (q 0)), (1, .int x1), (3, .int x3), (4, .int x4)] → W p l e (headSpec wsX9_look rm_X9_look).room s m args below meth c H locs 0 0 (MQ below (va_Qi post (fun u' t => va_P D vwCl (wM q cI cJ cZ u') t.heap) (va_A (wM q cI cJ cZ u00) s.heap.size)) args s 0 0 (va_A (wM q cI cJ cZ u00) s.heap.size)) (F0 m 133 ls []) := by
    intro x1 n
    induction n with
    | zero =>
      intro x3 x4 u H locs hw
      exact hw.elim
    | succ n ih =>
      intro x3 x4 u H locs hw hP hD hS ls hl 
      unfold wp_X9_look_L133 at hw
      refine lv_iload hx hb dX9_look_133 (lv_at hl 3 rfl) ?_
      refine lv_aload_n hx hb dX9_look_135 rfl (lv_at hl 0 rfl) ?_
      refine va_get (D := D) (ci := 9) (v := .int (u.1 23 0)) (C := RX9) (T := TX9) (N := 30) hx hb hts hiX9 hown hK hP 0 rfl rfl 9 (by decide) hf108 (fun _ h9 => h9) rfl dX9_look_136 ?_
      refine lv_icmp_ge (tgt := 177) hx hb dX9_look_139 (by decide) (fun hc => ?_) (fun hc => ?_)
      · have hw := hw.1 hc
        refine lv_iload_n hx hb dX9_look_177 rfl (lv_at hl 2 rfl) ?_
        exact W.iret (v := x3) hx hb hr (fun t ht hW => ⟨⟨x3, u, rfl, hw, by show va_P D vwCl _ t.heap; rw [ht]; exact hP⟩, hS.F ht⟩) hS.2.2 dX9_look_178
      · have hw := hw.2 hc
        refine lv_iload_n hx hb dX9_look_142 rfl (lv_at hl 2 rfl) ?_
        refine lv_aload_n hx hb dX9_look_143 rfl (lv_at hl 0 rfl) ?_
        refine va_get (D := D) (ci := 9) (v := .ref (q 11)) (C := RX9) (T := TX9) (N := 30) hx hb hts hiX9 hown hK hP 0 rfl rfl 13 (by decide) hf41 (fun _ h9 => h9) rfl dX9_look_144 ?_
        refine lv_iload hx hb dX9_look_147 (lv_at hl 3 rfl) ?_
        obtain ⟨hin, hw⟩ := hw
        refine va_zald hx hb hK hP 11 2 rfl rfl hin dX9_look_149 ?_
        refine lv_if_ne (tgt := 168) hx hb dX9_look_150 (by decide) (fun hc => ?_) (fun hc => ?_)
        · have hw := hw.1 hc
          refine J168 x1 x4 x3 u _ _ hw hP hD hS ls (lv_sub hl [0, 1, 3] rfl) (fun y1 y2 u3 H locs hw hP hD hS ls hl => ?_)
          exact ih y1 y2 u3 _ _ hw hP hD hS ls (lv_sub hl [0, 1, 2, 3] rfl)
        · have hw := hw.2 hc
          refine lv_aload_n hx hb dX9_look_153 rfl (lv_at hl 0 rfl) ?_
          refine va_get (D := D) (ci := 9) (v := .ref (q 9)) (C := RX9) (T := TX9) (N := 30) hx hb hts hiX9 hown hK hP 0 rfl rfl 11 (by decide) hf35 (fun _ h9 => h9) rfl dX9_look_154 ?_
          refine lv_iload hx hb dX9_look_157 (lv_at hl 3 rfl) ?_
          obtain ⟨hin, hw⟩ := hw
          refine va_iald hx hb hK hP 9 0 rfl rfl hin dX9_look_159 ?_
          refine lv_iload_n hx hb dX9_look_160 rfl (lv_at hl 1 rfl) ?_
          refine lv_icmp_ne (tgt := 168) hx hb dX9_look_161 (by decide) (fun hc => ?_) (fun hc => ?_)
          · have hw := hw.1 hc
            refine J168 x1 x4 x3 u _ _ hw hP hD hS ls (lv_sub hl [0, 1, 3] rfl) (fun y4 y5 u6 H locs hw hP hD hS ls hl => ?_)
            exact ih y4 y5 u6 _ _ hw hP hD hS ls (lv_sub hl [0, 1, 2, 3] rfl)
          · have hw := hw.2 hc
            refine lv_iconst (v := 1) hx hb dX9_look_164 (by decide) ?_
            refine lv_goto (tgt := 169) hx hb dX9_look_165 (by decide) ?_
            refine J169 x1 x4 x3 1 u _ _ hw hP hD hS ls (lv_sub hl [0, 1, 3] rfl) (fun y7 y8 u9 H locs hw hP hD hS ls hl => ?_)
            exact ih y7 y8 u9 _ _ hw hP hD hS ls (lv_sub hl [0, 1, 2, 3] rfl)
  have J218 : ∀ {K182 : Int32 → Int32 → WU → Prop} (x1 : Int32) (x4 : Int32) (z0 : Int32) (z1 : Int32) (u : WU) (H : Heap) (locs : List Loc), wp_X9_look_J218 x1 x4 z0 z1 u post K182 → va_P D vwCl (wM q cI cJ cZ u) H → va_D (va_A (wM q cI cJ cZ u00) s.heap.size) (wM q cI cJ cZ u) → va_S (va_A (wM q cI cJ cZ u00) s.heap.size) s.heap H locs → ∀ ls : Array Slot, lv_has ls 5 [(0, .ref (q 0)), (1, .int x1), (4, .int x4)] → (∀ (x3 : Int32) (x4 : Int32) (u : WU) (H : Heap) (locs : List Loc), K182 x3 x4 u → va_P D vwCl (wM q cI cJ cZ u) H → va_D (va_A (wM q cI cJ cZ u00) s.heap.size) (wM q cI cJ cZ u) → va_S (va_A (wM q cI cJ cZ u00) s.heap.size) s.heap H locs → ∀ ls : Array Slot, lv_has ls 5 [(0, .ref (q 0)), (1, .int x1), (3, .int x3), (4, .int x4)] → W p l e (headSpec wsX9_look rm_X9_look).room s m args below meth c H locs 0 0 (MQ below (va_Qi post (fun u' t => va_P D vwCl (wM q cI cJ cZ u') t.heap) (va_A (wM q cI cJ cZ u00) s.heap.size)) args s 0 0 (va_A (wM q cI cJ cZ u00) s.heap.size)) (F0 m 182 ls [])) → W p l e (headSpec wsX9_look rm_X9_look).room s m args below meth c H locs 0 0 (MQ below (va_Qi post (fun u' t => va_P D vwCl (wM q cI cJ cZ u') t.heap) (va_A (wM q cI cJ cZ u00) s.heap.size)) args s 0 0 (va_A (wM q cI cJ cZ u00) s.heap.size)) (F0 m 218 ls [.int z1, .int z0]) := by
    intro K182 x1 x4 z0 z1 u H locs hw hP hD hS ls hl k182
    unfold wp_X9_look_J218 at hw
    refine lv_iadd hx hb dX9_look_218 ?_
    refine lv_topi (fun y27 ey27 => ?_)
    have hw := hw y27 ey27
    refine lv_istore_n (lv' := [(3, .int y27), (0, .ref (q 0)), (1, .int x1), (4, .int x4)]) hx hb dX9_look_219 rfl hl (by decide) rfl (fun ls hl => ?_)
    obtain ⟨y28, ey28⟩ : ∃ z : Int32, z = x4 + 1 := ⟨_, rfl⟩
    have hw := hw y28 ey28
    refine lv_iinc (v := y28) (lv' := [(4, .int y28), (3, .int y27), (0, .ref (q 0)), (1, .int x1)]) hx hb dX9_look_220 hl (k := 3) rfl (by rw [ey28]; rfl) (by decide) rfl (fun ls hl => ?_)
    refine lv_goto (tgt := 182) hx hb dX9_look_223 (by decide) ?_
    exact k182 y27 y28 u _ _ hw hP hD hS ls (lv_sub hl [2, 3, 1, 0] rfl)
  have J217 : ∀ {K182 : Int32 → Int32 → WU → Prop} (x1 : Int32) (x4 : Int32) (z0 : Int32) (u : WU) (H : Heap) (locs : List Loc), wp_X9_look_J217 x1 x4 z0 u post K182 → va_P D vwCl (wM q cI cJ cZ u) H → va_D (va_A (wM q cI cJ cZ u00) s.heap.size) (wM q cI cJ cZ u) → va_S (va_A (wM q cI cJ cZ u00) s.heap.size) s.heap H locs → ∀ ls : Array Slot, lv_has ls 5 [(0, .ref (q 0)), (1, .int x1), (4, .int x4)] → (∀ (x3 : Int32) (x4 : Int32) (u : WU) (H : Heap) (locs : List Loc), K182 x3 x4 u → va_P D vwCl (wM q cI cJ cZ u) H → va_D (va_A (wM q cI cJ cZ u00) s.heap.size) (wM q cI cJ cZ u) → va_S (va_A (wM q cI cJ cZ u00) s.heap.size) s.heap H locs → ∀ ls : Array Slot, lv_has ls 5 [(0, .ref (q 0)), (1, .int x1), (3, .int x3), (4, .int x4)] → W p l e (headSpec wsX9_look rm_X9_look).room s m args below meth c H locs 0 0 (MQ below (va_Qi post (fun u' t => va_P D vwCl (wM q cI cJ cZ u') t.heap) (va_A (wM q cI cJ cZ u00) s.heap.size)) args s 0 0 (va_A (wM q cI cJ cZ u00) s.heap.size)) (F0 m 182 ls [])) → W p l e (headSpec wsX9_look rm_X9_look).room s m args below meth c H locs 0 0 (MQ below (va_Qi post (fun u' t => va_P D vwCl (wM q cI cJ cZ u') t.heap) (va_A (wM q cI cJ cZ u00) s.heap.size)) args s 0 0 (va_A (wM q cI cJ cZ u00) s.heap.size)) (F0 m 217 ls [.int z0]) := by
    intro K182 x1 x4 z0 u H locs hw hP hD hS ls hl k182
    unfold wp_X9_look_J217 at hw
    refine lv_iconst (v := 0) hx hb dX9_look_217 (by decide) ?_
    refine J218 x1 x4 z0 0 u _ _ hw hP hD hS ls (lv_sub hl [0, 1, 2] rfl) (fun y24 y25 u26 H locs hw hP hD hS ls hl => ?_)
    exact k182 y24 y25 u26 _ _ hw hP hD hS ls (lv_sub hl [0, 1, 2, 3] rfl)
  have L182 : ∀ (x1 : Int32) (n : Nat) (x3 : Int32) (x4 : Int32) (u : WU) (H : Heap) (locs : List Loc), wp_X9_look_L182 x1 post n x3 x4 u → va_P D vwCl (wM q cI cJ cZ u) H → va_D (va_A (wM q cI cJ cZ u00) s.heap.size) (wM q cI cJ cZ u) → va_S (va_A (wM q cI cJ cZ u00) s.heap.size) s.heap H locs → ∀ ls : Array Slot, lv_has ls 5 [(0, .ref (q 0)), (1, .int x1), (3, .int x3), (4, .int x4)] → W p l e (headSpec wsX9_look rm_X9_look).room s m args below meth c H locs 0 0 (MQ below (va_Qi post (fun u' t => va_P D vwCl (wM q cI cJ cZ u') t.heap) (va_A (wM q cI cJ cZ u00) s.heap.size)) args s 0 0 (va_A (wM q cI cJ cZ u00) s.heap.size)) (F0 m 182 ls []) := by
    intro x1 n
    induction n with
    | zero =>
      intro x3 x4 u H locs hw
      exact hw.elim
    | succ n ih =>
      intro x3 x4 u H locs hw hP hD hS ls hl 
      unfold wp_X9_look_L182 at hw
      refine lv_iload hx hb dX9_look_182 (lv_at hl 3 rfl) ?_
      refine lv_aload_n hx hb dX9_look_184 rfl (lv_at hl 0 rfl) ?_
      refine va_get (D := D) (ci := 9) (v := .int (u.1 23 0)) (C := RX9) (T := TX9) (N := 30) hx hb hts hiX9 hown hK hP 0 rfl rfl 9 (by decide) hf108 (fun _ h9 => h9) rfl dX9_look_185 ?_
      refine lv_icmp_ge (tgt := 226) hx hb dX9_look_188 (by decide) (fun hc => ?_) (fun hc => ?_)
      · have hw := hw.1 hc
        refine lv_iload_n hx hb dX9_look_226 rfl (lv_at hl 2 rfl) ?_
        exact W.iret (v := x3) hx hb hr (fun t ht hW => ⟨⟨x3, u, rfl, hw, by show va_P D vwCl _ t.heap; rw [ht]; exact hP⟩, hS.F ht⟩) hS.2.2 dX9_look_227
      · have hw := hw.2 hc
        refine lv_iload_n hx hb dX9_look_191 rfl (lv_at hl 2 rfl) ?_
        refine lv_aload_n hx hb dX9_look_192 rfl (lv_at hl 0 rfl) ?_
        refine va_get (D := D) (ci := 9) (v := .ref (q 11)) (C := RX9) (T := TX9) (N := 30) hx hb hts hiX9 hown hK hP 0 rfl rfl 13 (by decide) hf41 (fun _ h9 => h9) rfl dX9_look_193 ?_
        refine lv_iload hx hb dX9_look_196 (lv_at hl 3 rfl) ?_
        obtain ⟨hin, hw⟩ := hw
        refine va_zald hx hb hK hP 11 2 rfl rfl hin dX9_look_198 ?_
        refine lv_if_ne (tgt := 217) hx hb dX9_look_199 (by decide) (fun hc => ?_) (fun hc => ?_)
        · have hw := hw.1 hc
          refine J217 x1 x4 x3 u _ _ hw hP hD hS ls (lv_sub hl [0, 1, 3] rfl) (fun y10 y11 u12 H locs hw hP hD hS ls hl => ?_)
          exact ih y10 y11 u12 _ _ hw hP hD hS ls (lv_sub hl [0, 1, 2, 3] rfl)
        · have hw := hw.2 hc
          refine lv_aload_n hx hb dX9_look_202 rfl (lv_at hl 0 rfl) ?_
          refine va_get (D := D) (ci := 9) (v := .ref (q 8)) (C := RX9) (T := TX9) (N := 30) hx hb hts hiX9 hown hK hP 0 rfl rfl 10 (by decide) hf32 (fun _ h9 => h9) rfl dX9_look_203 ?_
          refine lv_iload hx hb dX9_look_206 (lv_at hl 3 rfl) ?_
          obtain ⟨hin, hw⟩ := hw
          refine va_iald hx hb hK hP 8 0 rfl rfl hin dX9_look_208 ?_
          refine lv_iload_n hx hb dX9_look_209 rfl (lv_at hl 1 rfl) ?_
          refine lv_icmp_ne (tgt := 217) hx hb dX9_look_210 (by decide) (fun hc => ?_) (fun hc => ?_)
          · have hw := hw.1 hc
            refine J217 x1 x4 x3 u _ _ hw hP hD hS ls (lv_sub hl [0, 1, 3] rfl) (fun y13 y14 u15 H locs hw hP hD hS ls hl => ?_)
            exact ih y13 y14 u15 _ _ hw hP hD hS ls (lv_sub hl [0, 1, 2, 3] rfl)
          · have hw := hw.2 hc
            refine lv_iconst (v := 1) hx hb dX9_look_213 (by decide) ?_
            refine lv_goto (tgt := 218) hx hb dX9_look_214 (by decide) ?_
            refine J218 x1 x4 x3 1 u _ _ hw hP hD hS ls (lv_sub hl [0, 1, 3] rfl) (fun y16 y17 u18 H locs hw hP hD hS ls hl => ?_)
            exact ih y16 y17 u18 _ _ hw hP hD hS ls (lv_sub hl [0, 1, 2, 3] rfl)
  have hent := lg_entry_eq m ([.ref (q 0), .int x1, .int x2]) 5
  rw [← hargs] at hent
  rw [hent]
  have hl := lv_entry ([.ref (q 0), .int x1, .int x2]) (n := 5) (Nat.le_of_ble_eq_true rfl)
  generalize (lg_sl ([.ref (q 0), .int x1, .int x2]) ++ List.replicate (5 - (lg_sl ([.ref (q 0), .int x1, .int x2])).length) Slot.unset).toArray = ls at hl ⊢
  have hl : lv_has ls 5 [(0, .ref (q 0)), (1, .int x1), (2, .int x2)] := hl
  unfold wp_X9_look at hw
  refine lv_aload_n hx hb dX9_look_0 rfl (lv_at hl 0 rfl) ?_
  refine lv_iload_n hx hb dX9_look_1 rfl (lv_at hl 1 rfl) ?_
  refine vp_callSi (va_Run.run (va_runV (As := [.int x1]) (rest := []) ⟨hx, hb, hml, hown, hts⟩ (c_X9_isPart l D q cI cJ cZ u x1 _ hw) (cwV 1 hts gX9_look_X9_isPart rfl rfl rfl (by decide +kernel) ⟨Nat.le_of_ble_eq_true rfl, Nat.le_of_ble_eq_true rfl⟩) (pvR (va_recv hK hP (ci := 9) (q0 := 0) (q := (RX9, TX9, 30)) rfl rfl) hK hP hN) rfl rfl hl.1 rfl (lv_room (Nat.le_of_ble_eq_true rfl)) dX9_look_2 ⟨Nat.zero_le _, Nat.zero_le _⟩)) (fun r29 hw => ?_)
  refine lv_if_ne (tgt := 10) hx hb dX9_look_5 (by decide) (fun hc => ?_) (fun hc => ?_)
  · have hw := hw.1 hc
    refine lv_iload_n hx hb dX9_look_10 rfl (lv_at hl 2 rfl) ?_
    refine lv_iconst (v := 5) hx hb dX9_look_11 (by decide) ?_
    refine lv_isub hx hb dX9_look_12 ?_
    refine lv_iconst (v := 0) hx hb dX9_look_13 (by decide) ?_
    refine lv_aload_n hx hb dX9_look_14 rfl (lv_at hl 0 rfl) ?_
    refine va_get (D := D) (ci := 9) (v := .ref (q 5)) (C := RX9) (T := TX9) (N := 30) hx hb hts hiX9 hown hK hP 0 rfl rfl 6 (by decide) hf23 (fun _ h9 => h9) rfl dX9_look_15 ?_
    refine lv_iload_n hx hb dX9_look_18 rfl (lv_at hl 1 rfl) ?_
    obtain ⟨hin, hw⟩ := hw
    refine va_iald hx hb hK hP 5 0 rfl rfl hin dX9_look_19 ?_
    refine lv_iconst (v := 1) hx hb dX9_look_20 (by decide) ?_
    refine lv_isub hx hb dX9_look_21 ?_
    refine vp_callSi (va_Run.run (va_runS (As := [.int (x2 - 5), .int 0, .int ((u.1 3 x1.toNatClampNeg) - 1)]) (rest := []) ⟨hx, hb, hml, hown, hts⟩ (c_X9_lies l (x2 - 5) 0 ((u.1 3 x1.toNatClampNeg) - 1) _ hw) (va_cwS 3 hts gX9_look_X9_lies rfl rfl rfl (by decide +kernel) ⟨Nat.le_of_ble_eq_true rfl, Nat.le_of_ble_eq_true rfl⟩) (psS hN) rfl rfl hl.1 rfl (lv_room (Nat.le_of_ble_eq_true rfl)) dX9_look_22 ⟨Nat.zero_le _, Nat.zero_le _⟩)) (fun r30 hw => ?_)
    refine lv_if_eq (tgt := 41) hx hb dX9_look_25 (by decide) (fun hc => ?_) (fun hc => ?_)
    · have hw := hw.1 hc
      refine lv_iconst (v := 0) hx hb dX9_look_41 (by decide) ?_
      refine lv_istore_n (lv' := [(3, .int 0), (0, .ref (q 0)), (1, .int x1), (2, .int x2)]) hx hb dX9_look_42 rfl hl (by decide) rfl (fun ls hl => ?_)
      refine lv_iload_n hx hb dX9_look_43 rfl (lv_at hl 3 rfl) ?_
      by_cases hc0 : x2 = 0
      · have hw := hw.1 hc0
        refine lv_tableIn (tgt := 80) hx hb dX9_look_44 (by rw [hc0]; decide) (by rw [hc0]; decide) (by rw [hc0]; rfl) (by decide) ?_
        refine lv_aload_n hx hb dX9_look_80 rfl (lv_at hl 1 rfl) ?_
        refine va_get (D := D) (ci := 9) (v := .ref (q 4)) (C := RX9) (T := TX9) (N := 30) hx hb hts hiX9 hown hK hP 0 rfl rfl 5 (by decide) hf20 (fun _ h9 => h9) rfl dX9_look_81 ?_
        refine lv_iconst (v := 3) hx hb dX9_look_84 (by decide) ?_
        refine lv_iload_n hx hb dX9_look_85 rfl (lv_at hl 2 rfl) ?_
        refine lv_imul hx hb dX9_look_86 ?_
        refine lv_aload_n hx hb dX9_look_87 rfl (lv_at hl 1 rfl) ?_
        refine va_get (D := D) (ci := 9) (v := .ref (q 6)) (C := RX9) (T := TX9) (N := 30) hx hb hts hiX9 hown hK hP 0 rfl rfl 7 (by decide) hf26 (fun _ h9 => h9) rfl dX9_look_88 ?_
        refine lv_iload_n hx hb dX9_look_91 rfl (lv_at hl 2 rfl) ?_
        obtain ⟨hin, hw⟩ := hw
        refine va_iald hx hb hK hP 6 0 rfl rfl hin dX9_look_92 ?_
        refine lv_iadd hx hb dX9_look_93 ?_
        obtain ⟨hin, hw⟩ := hw
        refine va_iald hx hb hK hP 4 0 rfl rfl hin dX9_look_94 ?_
        exact W.iret (v := u.1 2 ((3 * x1) + (u.1 4 x1.toNatClampNeg)).toNatClampNeg) hx hb hr (fun t ht hW => ⟨⟨u.1 2 ((3 * x1) + (u.1 4 x1.toNatClampNeg)).toNatClampNeg, u, rfl, hw, by show va_P D vwCl _ t.heap; rw [ht]; exact hP⟩, hS.F ht⟩) hS.2.2 dX9_look_95
      by_cases hc1 : x2 = 1
      · have hw := hw.2.1 hc1
        refine lv_tableIn (tgt := 96) hx hb dX9_look_44 (by rw [hc1]; decide) (by rw [hc1]; decide) (by rw [hc1]; rfl) (by decide) ?_
        refine lv_aload_n hx hb dX9_look_96 rfl (lv_at hl 1 rfl) ?_
        refine va_get (D := D) (ci := 9) (v := .ref (q 5)) (C := RX9) (T := TX9) (N := 30) hx hb hts hiX9 hown hK hP 0 rfl rfl 6 (by decide) hf23 (fun _ h9 => h9) rfl dX9_look_97 ?_
        refine lv_iload_n hx hb dX9_look_100 rfl (lv_at hl 2 rfl) ?_
        obtain ⟨hin, hw⟩ := hw
        refine va_iald hx hb hK hP 5 0 rfl rfl hin dX9_look_101 ?_
        exact W.iret (v := u.1 3 x1.toNatClampNeg) hx hb hr (fun t ht hW => ⟨⟨u.1 3 x1.toNatClampNeg, u, rfl, hw, by show va_P D vwCl _ t.heap; rw [ht]; exact hP⟩, hS.F ht⟩) hS.2.2 dX9_look_102
      by_cases hc2 : x2 = 2
      · have hw := hw.2.2.1 hc2
        refine lv_tableIn (tgt := 103) hx hb dX9_look_44 (by rw [hc2]; decide) (by rw [hc2]; decide) (by rw [hc2]; rfl) (by decide) ?_
        refine lv_aload_n hx hb dX9_look_103 rfl (lv_at hl 1 rfl) ?_
        refine cMv (sh_wM q cI cJ cZ) (u := u) (va_runV (As := []) (rest := []) ⟨hx, hb, hml, hown, hts⟩ (c_X9_asItIs l D q cI cJ cZ _ u _ hw) (cwV 0 hts gX9_look_X9_asItIs rfl rfl rfl (by decide +kernel) ⟨Nat.le_of_ble_eq_true rfl, Nat.le_of_ble_eq_true rfl⟩) (pvM (va_recv hK hP (ci := 9) (q0 := 0) (q := (RX9, TX9, 30)) rfl rfl) hK hP hD hN) rfl rfl hl.1 rfl (lv_room (Nat.le_of_ble_eq_true rfl)) dX9_look_104 ⟨Nat.zero_le _, Nat.zero_le _⟩) hA hD hS (fun u31 H locs hw hP hD hS => ?_)
        refine lv_aload_n hx hb dX9_look_107 rfl (lv_at hl 1 rfl) ?_
        refine lv_aload_n hx hb dX9_look_108 rfl (lv_at hl 1 rfl) ?_
        refine va_get (D := D) (ci := 9) (v := .int (u31.1 22 0)) (C := RX9) (T := TX9) (N := 30) hx hb hts hiX9 hown hK hP 0 rfl rfl 4 (by decide) hf118 (fun _ h9 => h9) rfl dX9_look_109 ?_
        refine cMv (sh_wM q cI cJ cZ) (u := u31) (va_runV (As := [.int (u31.1 22 0)]) (rest := []) ⟨hx, hb, hml, hown, hts⟩ (c_X9_reaches l D q cI cJ cZ _ u31 (u31.1 22 0) _ hw) (cwV 1 hts gX9_look_X9_reaches rfl rfl rfl (by decide +kernel) ⟨Nat.le_of_ble_eq_true rfl, Nat.le_of_ble_eq_true rfl⟩) (pvM (va_recv hK hP (ci := 9) (q0 := 0) (q := (RX9, TX9, 30)) rfl rfl) hK hP hD hN) rfl rfl hl.1 rfl (lv_room (Nat.le_of_ble_eq_true rfl)) dX9_look_112 ⟨Nat.zero_le _, Nat.zero_le _⟩) hA hD hS (fun u32 H locs hw hP hD hS => ?_)
        refine lv_aload_n hx hb dX9_look_115 rfl (lv_at hl 1 rfl) ?_
        refine va_get (D := D) (ci := 9) (v := .ref (q 16)) (C := RX9) (T := TX9) (N := 30) hx hb hts hiX9 hown hK hP 0 rfl rfl 19 (by decide) hf57 (fun _ h9 => h9) rfl dX9_look_116 ?_
        refine lv_iload_n hx hb dX9_look_119 rfl (lv_at hl 2 rfl) ?_
        obtain ⟨hin, hw⟩ := hw
        refine va_zald hx hb hK hP 16 2 rfl rfl hin dX9_look_120 ?_
        refine lv_if_eq (tgt := 128) hx hb dX9_look_121 (by decide) (fun hc => ?_) (fun hc => ?_)
        · have hw := hw.1 hc
          refine lv_iconst (v := 0) hx hb dX9_look_128 (by decide) ?_
          exact W.iret (v := 0) hx hb hr (fun t ht hW => ⟨⟨0, u32, rfl, hw, by show va_P D vwCl _ t.heap; rw [ht]; exact hP⟩, hS.F ht⟩) hS.2.2 dX9_look_129
        · have hw := hw.2 hc
          refine lv_iconst (v := 1) hx hb dX9_look_124 (by decide) ?_
          refine lv_goto (tgt := 129) hx hb dX9_look_125 (by decide) ?_
          exact W.iret (v := 1) hx hb hr (fun t ht hW => ⟨⟨1, u32, rfl, hw, by show va_P D vwCl _ t.heap; rw [ht]; exact hP⟩, hS.F ht⟩) hS.2.2 dX9_look_129
      by_cases hc3 : x2 = 3
      · have hw := hw.2.2.2.1 hc3
        refine lv_tableIn (tgt := 130) hx hb dX9_look_44 (by rw [hc3]; decide) (by rw [hc3]; decide) (by rw [hc3]; rfl) (by decide) ?_
        refine lv_iconst (v := 0) hx hb dX9_look_130 (by decide) ?_
        refine lv_istore (lv' := [(4, .int 0), (3, .int 0), (0, .ref (q 0)), (1, .int x1), (2, .int x2)]) hx hb dX9_look_131 hl (by decide) rfl (fun ls hl => ?_)
        obtain ⟨nn, hw⟩ := hw
        refine L133 x1 nn 0 0 u _ _ hw hP hD hS ls (lv_sub hl [2, 3, 1, 0] rfl)
      by_cases hc4 : x2 = 4
      · have hw := hw.2.2.2.2.1 hc4
        refine lv_tableIn (tgt := 179) hx hb dX9_look_44 (by rw [hc4]; decide) (by rw [hc4]; decide) (by rw [hc4]; rfl) (by decide) ?_
        refine lv_iconst (v := 0) hx hb dX9_look_179 (by decide) ?_
        refine lv_istore (lv' := [(4, .int 0), (3, .int 0), (0, .ref (q 0)), (1, .int x1), (2, .int x2)]) hx hb dX9_look_180 hl (by decide) rfl (fun ls hl => ?_)
        obtain ⟨nn, hw⟩ := hw
        refine L182 x1 nn 0 0 u _ _ hw hP hD hS ls (lv_sub hl [2, 3, 1, 0] rfl)
      have hw := hw.2.2.2.2.2 hc0 hc1 hc2 hc3 hc4
      refine lv_tableOut (tgt := 228) hx hb dX9_look_44 (sw_out 4 (fun k hk => by rcases (show k = 0 ∨ k = 1 ∨ k = 2 ∨ k = 3 ∨ k = 4 by omega) with rfl | rfl | rfl | rfl | rfl <;> assumption)) (by decide) ?_
      refine lv_iconst (v := (-1)) hx hb dX9_look_228 (by decide) ?_
      exact W.iret (v := (-1)) hx hb hr (fun t ht hW => ⟨⟨(-1), u, rfl, hw, by show va_P D vwCl _ t.heap; rw [ht]; exact hP⟩, hS.F ht⟩) hS.2.2 dX9_look_229
    · have hw := hw.2 hc
      refine lv_aload_n hx hb dX9_look_28 rfl (lv_at hl 0 rfl) ?_
      refine va_get (D := D) (ci := 9) (v := .ref (q 4)) (C := RX9) (T := TX9) (N := 30) hx hb hts hiX9 hown hK hP 0 rfl rfl 5 (by decide) hf20 (fun _ h9 => h9) rfl dX9_look_29 ?_
      refine lv_iconst (v := 3) hx hb dX9_look_32 (by decide) ?_
      refine lv_iload_n hx hb dX9_look_33 rfl (lv_at hl 1 rfl) ?_
      refine lv_imul hx hb dX9_look_34 ?_
      refine lv_iload_n hx hb dX9_look_35 rfl (lv_at hl 2 rfl) ?_
      refine lv_iadd hx hb dX9_look_36 ?_
      refine lv_iconst (v := 5) hx hb dX9_look_37 (by decide) ?_
      refine lv_isub hx hb dX9_look_38 ?_
      obtain ⟨hin, hw⟩ := hw
      refine va_iald hx hb hK hP 4 0 rfl rfl hin dX9_look_39 ?_
      exact W.iret (v := u.1 2 (((3 * x1) + x2) - 5).toNatClampNeg) hx hb hr (fun t ht hW => ⟨⟨u.1 2 (((3 * x1) + x2) - 5).toNatClampNeg, u, rfl, hw, by show va_P D vwCl _ t.heap; rw [ht]; exact hP⟩, hS.F ht⟩) hS.2.2 dX9_look_40
  · have hw := hw.2 hc
    refine lv_iconst (v := (-1)) hx hb dX9_look_8 (by decide) ?_
    exact W.iret (v := (-1)) hx hb hr (fun t ht hW => ⟨⟨(-1), u, rfl, hw, by show va_P D vwCl _ t.heap; rw [ht]; exact hP⟩, hS.F ht⟩) hS.2.2 dX9_look_9
set_option maxHeartbeats 4000000 in
set_option maxRecDepth 100000 in
theorem c_X8_count (l : Launch) (D : va_G) (q : Nat → Nat) (cI cJ cZ : ClassId) (u : WU) (x1 : Int32) (post : Int32 → Prop) (hw : wp_X8_count x1 u post) : Met l yX8_count wsX8_count rm_X8_count (va_Pc [.ref (q 0), .int x1] (RW D (ty3 cI cJ cZ) (wX q cI cJ cZ u))) (vp_Si post) 0 0 (fun _ => False) := by
  refine Met.ofW (cc := cX8_count) (maxL := 2) (ret := (some .int)) (by decide) rfl ?_
  intro p e s m args below meth c s₁ B hml hv
  obtain ⟨hargs, hP, hK, hN⟩ := hv
  have hx := B.exec
  have hb := B.bytes
  have hr := B.returns
  have hts := atoms_spec (ws := wsX8_count) B.pre
  have hown : s.vm.findClass RX8 = some m.cls := findClass_of_methodNamed B.named
  have hlocks := B.notSynchronized
  have hiX0 : ∀ w ∈ u_ws RX0 TX0 5, w ∈ wsX8_count := by decide +kernel
  have hiX3 : ∀ w ∈ u_ws RX3 TX3 9, w ∈ wsX8_count := by decide +kernel
  have hiX5 : ∀ w ∈ u_ws RX5 TX5 6, w ∈ wsX8_count := by decide +kernel
  have hiX8 : ∀ w ∈ u_ws RX8 TX8 8, w ∈ wsX8_count := by decide +kernel
  have hf19 := hts (.fieldLink RX8 19 "TermsDesk" "parts" "LTermsDesk$Parts;") (by decide +kernel)
  have hf26 := hts (.fieldLink RX8 26 "TermsDesk" "joins" "LTermsDesk$Joins;") (by decide +kernel)
  have hf33 := hts (.fieldLink RX8 33 "TermsDesk" "changes" "LTermsDesk$Changes;") (by decide +kernel)
  have hf42 := hts (.fieldLink RX8 42 "TermsDesk" "flow" "LTermsDesk$Flow;") (by decide +kernel)
  have hent := lg_entry_eq m ([.ref (q 0), .int x1]) 2
  rw [← hargs] at hent
  rw [hent]
  have hl := lv_entry ([.ref (q 0), .int x1]) (n := 2) (Nat.le_of_ble_eq_true rfl)
  generalize (lg_sl ([.ref (q 0), .int x1]) ++ List.replicate (2 - (lg_sl ([.ref (q 0), .int x1])).length) Slot.unset).toArray = ls at hl ⊢
  have hl : lv_has ls 2 [(0, .ref (q 0)), (1, .int x1)] := hl
  unfold wp_X8_count at hw
  refine lv_iload_n hx hb dX8_count_0 rfl (lv_at hl 1 rfl) ?_
  by_cases hc0 : x1 = 0
  · have hw := hw.1 hc0
    refine lv_tableIn (tgt := 44) hx hb dX8_count_1 (by rw [hc0]; decide) (by rw [hc0]; decide) (by rw [hc0]; rfl) (by decide) ?_
    refine lv_aload_n hx hb dX8_count_44 rfl (lv_at hl 0 rfl) ?_
    refine va_get (D := D) (ci := 8) (v := .ref (q 2)) (C := RX8) (T := TX8) (N := 8) hx hb hts hiX8 hown hK hP 0 rfl rfl 1 (by decide) hf19 (fun _ h9 => h9) rfl dX8_count_45 ?_
    refine va_getN (D := D) (ci := 5) (v := .int (u.1 20 0)) (C := RX5) (T := TX5) (N := 6) hx hb hts hiX5 hown hK hP 2 rfl rfl 4 (by decide) (va_Nw.use rfl (nf_RX8_96 hN)) (fun _ h9 => h9) rfl dX8_count_48 ?_
    exact W.iret (v := u.1 20 0) hx hb hr (fun t ht hW => ⟨u.1 20 0, rfl, hw, ht⟩) (fun _ h => by cases h) dX8_count_51
  by_cases hc1 : x1 = 1
  · have hw := hw.2.1 hc1
    refine lv_tableIn (tgt := 52) hx hb dX8_count_1 (by rw [hc1]; decide) (by rw [hc1]; decide) (by rw [hc1]; rfl) (by decide) ?_
    refine lv_aload_n hx hb dX8_count_52 rfl (lv_at hl 0 rfl) ?_
    refine va_get (D := D) (ci := 8) (v := .ref (q 3)) (C := RX8) (T := TX8) (N := 8) hx hb hts hiX8 hown hK hP 0 rfl rfl 2 (by decide) hf26 (fun _ h9 => h9) rfl dX8_count_53 ?_
    refine va_getN (D := D) (ci := 3) (v := .int (u.1 22 0)) (C := RX3) (T := TX3) (N := 9) hx hb hts hiX3 hown hK hP 3 rfl rfl 3 (by decide) (va_Nw.use rfl (nf_RX8_118 hN)) (fun _ h9 => h9) rfl dX8_count_56 ?_
    exact W.iret (v := u.1 22 0) hx hb hr (fun t ht hW => ⟨u.1 22 0, rfl, hw, ht⟩) (fun _ h => by cases h) dX8_count_59
  by_cases hc2 : x1 = 2
  · have hw := hw.2.2.1 hc2
    refine lv_tableIn (tgt := 60) hx hb dX8_count_1 (by rw [hc2]; decide) (by rw [hc2]; decide) (by rw [hc2]; rfl) (by decide) ?_
    refine lv_aload_n hx hb dX8_count_60 rfl (lv_at hl 0 rfl) ?_
    refine va_get (D := D) (ci := 8) (v := .ref (q 3)) (C := RX8) (T := TX8) (N := 8) hx hb hts hiX8 hown hK hP 0 rfl rfl 2 (by decide) hf26 (fun _ h9 => h9) rfl dX8_count_61 ?_
    refine va_getN (D := D) (ci := 3) (v := .long (u.2 6 0)) (C := RX3) (T := TX3) (N := 9) hx hb hts hiX3 hown hK hP 3 rfl rfl 4 (by decide) (va_Nw.use rfl (nf_RX8_122 hN)) (fun _ h9 => h9) rfl dX8_count_64 ?_
    refine vp_callSi (va_Run.run (va_runS (As := [.long (u.2 6 0)]) (rest := []) ⟨hx, hb, hml, hown, hts⟩ (c_J13_bitCount_95d88 l (u.2 6 0) _ hw) (va_cwS 1 hts gX8_count_J13_bitCount_95d88 rfl rfl rfl (by decide +kernel) ⟨Nat.le_of_ble_eq_true rfl, Nat.le_of_ble_eq_true rfl⟩) (psS hN) rfl rfl hl.1 rfl (lv_room (Nat.le_of_ble_eq_true rfl)) dX8_count_67 ⟨Nat.zero_le _, Nat.zero_le _⟩)) (fun r1 hw => ?_)
    exact W.iret (v := r1) hx hb hr (fun t ht hW => ⟨r1, rfl, hw, ht⟩) (fun _ h => by cases h) dX8_count_70
  by_cases hc3 : x1 = 3
  · have hw := hw.2.2.2.1 hc3
    refine lv_tableIn (tgt := 71) hx hb dX8_count_1 (by rw [hc3]; decide) (by rw [hc3]; decide) (by rw [hc3]; rfl) (by decide) ?_
    refine lv_aload_n hx hb dX8_count_71 rfl (lv_at hl 0 rfl) ?_
    refine va_get (D := D) (ci := 8) (v := .ref (q 5)) (C := RX8) (T := TX8) (N := 8) hx hb hts hiX8 hown hK hP 0 rfl rfl 4 (by decide) hf42 (fun _ h9 => h9) rfl dX8_count_72 ?_
    refine lv_aload_n hx hb dX8_count_75 rfl (lv_at hl 0 rfl) ?_
    refine va_get (D := D) (ci := 8) (v := .ref (q 3)) (C := RX8) (T := TX8) (N := 8) hx hb hts hiX8 hown hK hP 0 rfl rfl 2 (by decide) hf26 (fun _ h9 => h9) rfl dX8_count_76 ?_
    refine va_getN (D := D) (ci := 3) (v := .long (u.2 6 0)) (C := RX3) (T := TX3) (N := 9) hx hb hts hiX3 hown hK hP 3 rfl rfl 4 (by decide) (va_Nw.use rfl (nf_RX8_122 hN)) (fun _ h9 => h9) rfl dX8_count_79 ?_
    refine vp_callSi (va_Run.run (va_runV (As := [.long (u.2 6 0)]) (rest := []) ⟨hx, hb, hml, hown, hts⟩ (c_X2_ofProduct l D q cI cJ cZ u (u.2 6 0) _ hw) (cwV 1 hts gX8_count_X2_ofProduct rfl rfl rfl (by decide +kernel) ⟨Nat.le_of_ble_eq_true rfl, Nat.le_of_ble_eq_true rfl⟩) (pvR (va_recv hK hP (ci := 2) (q0 := 5) (q := (RX2, TX2, 5)) rfl rfl) hK hP hN) rfl rfl hl.1 rfl (lv_room (Nat.le_of_ble_eq_true rfl)) dX8_count_82 ⟨Nat.zero_le _, Nat.zero_le _⟩)) (fun r2 hw => ?_)
    refine vp_callSi (va_Run.run (va_runS (As := [.int r2]) (rest := []) ⟨hx, hb, hml, hown, hts⟩ (c_J6_bitCount_0f7a4 l r2 _ hw) (va_cwS 1 hts gX8_count_J6_bitCount_0f7a4 rfl rfl rfl (by decide +kernel) ⟨Nat.le_of_ble_eq_true rfl, Nat.le_of_ble_eq_true rfl⟩) (psS hN) rfl rfl hl.1 rfl (lv_room (Nat.le_of_ble_eq_true rfl)) dX8_count_85 ⟨Nat.zero_le _, Nat.zero_le _⟩)) (fun r3 hw => ?_)
    exact W.iret (v := r3) hx hb hr (fun t ht hW => ⟨r3, rfl, hw, ht⟩) (fun _ h => by cases h) dX8_count_88
  by_cases hc4 : x1 = 4
  · have hw := hw.2.2.2.2.1 hc4
    refine lv_tableIn (tgt := 89) hx hb dX8_count_1 (by rw [hc4]; decide) (by rw [hc4]; decide) (by rw [hc4]; rfl) (by decide) ?_
    refine lv_aload_n hx hb dX8_count_89 rfl (lv_at hl 0 rfl) ?_
    refine va_get (D := D) (ci := 8) (v := .ref (q 4)) (C := RX8) (T := TX8) (N := 8) hx hb hts hiX8 hown hK hP 0 rfl rfl 3 (by decide) hf33 (fun _ h9 => h9) rfl dX8_count_90 ?_
    refine va_getN (D := D) (ci := 0) (v := .int (u.1 23 0)) (C := RX0) (T := TX0) (N := 5) hx hb hts hiX0 hown hK hP 4 rfl rfl 4 (by decide) (va_Nw.use rfl (nf_RX8_150 hN)) (fun _ h9 => h9) rfl dX8_count_93 ?_
    exact W.iret (v := u.1 23 0) hx hb hr (fun t ht hW => ⟨u.1 23 0, rfl, hw, ht⟩) (fun _ h => by cases h) dX8_count_96
  by_cases hc5 : x1 = 5
  · have hw := hw.2.2.2.2.2.1 hc5
    refine lv_tableIn (tgt := 97) hx hb dX8_count_1 (by rw [hc5]; decide) (by rw [hc5]; decide) (by rw [hc5]; rfl) (by decide) ?_
    refine lv_aload_n hx hb dX8_count_97 rfl (lv_at hl 0 rfl) ?_
    refine va_get (D := D) (ci := 8) (v := .ref (q 2)) (C := RX8) (T := TX8) (N := 8) hx hb hts hiX8 hown hK hP 0 rfl rfl 1 (by decide) hf19 (fun _ h9 => h9) rfl dX8_count_98 ?_
    refine va_getN (D := D) (ci := 5) (v := .int (u.1 21 0)) (C := RX5) (T := TX5) (N := 6) hx hb hts hiX5 hown hK hP 2 rfl rfl 5 (by decide) (va_Nw.use rfl (nf_RX8_146 hN)) (fun _ h9 => h9) rfl dX8_count_101 ?_
    exact W.iret (v := u.1 21 0) hx hb hr (fun t ht hW => ⟨u.1 21 0, rfl, hw, ht⟩) (fun _ h => by cases h) dX8_count_104
  by_cases hc6 : x1 = 6
  · have hw := hw.2.2.2.2.2.2.1 hc6
    refine lv_tableIn (tgt := 105) hx hb dX8_count_1 (by rw [hc6]; decide) (by rw [hc6]; decide) (by rw [hc6]; rfl) (by decide) ?_
    refine lv_aload_n hx hb dX8_count_105 rfl (lv_at hl 0 rfl) ?_
    refine va_get (D := D) (ci := 8) (v := .ref (q 5)) (C := RX8) (T := TX8) (N := 8) hx hb hts hiX8 hown hK hP 0 rfl rfl 4 (by decide) hf42 (fun _ h9 => h9) rfl dX8_count_106 ?_
    refine vp_callSi (va_Run.run (va_runV (As := []) (rest := []) ⟨hx, hb, hml, hown, hts⟩ (c_X2_wayCount l D q cI cJ cZ u _ hw) (cwV 0 hts gX8_count_X2_wayCount rfl rfl rfl (by decide +kernel) ⟨Nat.le_of_ble_eq_true rfl, Nat.le_of_ble_eq_true rfl⟩) (pvR (va_recv hK hP (ci := 2) (q0 := 5) (q := (RX2, TX2, 5)) rfl rfl) hK hP hN) rfl rfl hl.1 rfl (lv_room (Nat.le_of_ble_eq_true rfl)) dX8_count_109 ⟨Nat.zero_le _, Nat.zero_le _⟩)) (fun r4 hw => ?_)
    exact W.iret (v := r4) hx hb hr (fun t ht hW => ⟨r4, rfl, hw, ht⟩) (fun _ h => by cases h) dX8_count_112
  have hw := hw.2.2.2.2.2.2.2 hc0 hc1 hc2 hc3 hc4 hc5 hc6
  refine lv_tableOut (tgt := 113) hx hb dX8_count_1 (sw_out 6 (fun k hk => by rcases (show k = 0 ∨ k = 1 ∨ k = 2 ∨ k = 3 ∨ k = 4 ∨ k = 5 ∨ k = 6 by omega) with rfl | rfl | rfl | rfl | rfl | rfl | rfl <;> assumption)) (by decide) ?_
  refine lv_iconst (v := (-1)) hx hb dX8_count_113 (by decide) ?_
  exact W.iret (v := (-1)) hx hb hr (fun t ht hW => ⟨(-1), rfl, hw, ht⟩) (fun _ h => by cases h) dX8_count_114
