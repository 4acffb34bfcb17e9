set_option maxHeartbeats 4000000 in
set_option maxRecDepth 100000 in
theorem c_X9_change (l : Launch) (D : va_G) (q : Nat → Nat) (cI cJ cZ : ClassId) (sz : Nat) (u : WU) (x1 : Int32) (x2 : Int32) (x3 : Int32) (x4 : Int32) (post : Int32 → WU → Prop) (hw : wp_X9_change x1 x2 x3 x4 u post) : Met l yX9_change wsX9_change rm_X9_change (va_Pc [.ref (q 0), .int x1, .int x2, .int x3, .int x4] (MW D (ty3 cI cJ cZ) (wM q cI cJ cZ u) sz)) (va_Qi post (fun u' t => va_P D vwCl (wM q cI cJ cZ u') t.heap) (va_A (wM q cI cJ cZ u00) sz)) 0 0 (va_A (wM q cI cJ cZ u00) sz) := by
  refine Met.ofW (cc := cX9_change) (maxL := 5) (ret := (some .int)) (by decide) rfl ?_
  intro p e s m args below meth c s₁ B hml hv
  obtain ⟨hargs, hsz, hP, hK, hD0, hN⟩ := hv
  have hx := B.exec
  have hb := B.bytes
  have hr := B.returns
  have hts := atoms_spec (ws := wsX9_change) B.pre
  have hown : s.vm.findClass RX9 = some m.cls := findClass_of_methodNamed B.named
  have hlocks := B.notSynchronized
  subst hsz
  have hD := shw_self (sz := s.heap.size) (sh_wM q cI cJ cZ) hD0
  have hA : ∀ a : Nat, s.heap.size ≤ a → va_A (wM q cI cJ cZ u00) s.heap.size a := fun _ h => Or.inr h
  have hS : va_S (va_A (wM q cI cJ cZ u00) s.heap.size) s.heap s.heap [] := va_S.rf
  have hiX9 : ∀ w ∈ u_ws RX9 TX9 30, w ∈ wsX9_change := by decide +kernel
  have hc124 := hts (.constant RX9 124 (100000)) (by decide +kernel)
  have hf108 := hts (.fieldLink RX9 108 "TermsDeskModel" "joins" "I") (by decide +kernel)
  have hf121 := hts (.fieldLink RX9 121 "TermsDeskModel" "changes" "I") (by decide +kernel)
  have hf45 := hts (.fieldLink RX9 45 "TermsDeskModel" "sort" "[I") (by decide +kernel)
  have hf48 := hts (.fieldLink RX9 48 "TermsDeskModel" "which" "[I") (by decide +kernel)
  have hf51 := hts (.fieldLink RX9 51 "TermsDeskModel" "gets" "[I") (by decide +kernel)
  have hf54 := hts (.fieldLink RX9 54 "TermsDeskModel" "cost" "[I") (by decide +kernel)
  have J69 : ∀ (x1 : Int32) (x2 : Int32) (x3 : Int32) (x4 : Int32) (u : WU) (H : Heap) (locs : List Loc), wp_X9_change_J69 x1 x2 x3 x4 u post → va_P D vwCl (wM q cI cJ cZ u) H → va_D (va_A (wM q cI cJ cZ u00) s.heap.size) (wM q cI cJ cZ u) → va_S (va_A (wM q cI cJ cZ u00) s.heap.size) s.heap H locs → ∀ ls : Array Slot, lv_has ls 5 [(0, .ref (q 0)), (1, .int x1), (2, .int x2), (3, .int x3), (4, .int x4)] → W p l e (headSpec wsX9_change rm_X9_change).room s m args below meth c H locs 0 0 (MQ below (va_Qi post (fun u' t => va_P D vwCl (wM q cI cJ cZ u') t.heap) (va_A (wM q cI cJ cZ u00) s.heap.size)) args s 0 0 (va_A (wM q cI cJ cZ u00) s.heap.size)) (F0 m 69 ls []) := by
    intro x1 x2 x3 x4 u H locs hw hP hD hS ls hl 
    unfold wp_X9_change_J69 at hw
    refine lv_aload_n hx hb dX9_change_69 rfl (lv_at hl 0 rfl) ?_
    refine va_get (D := D) (ci := 9) (v := .ref (q 12)) (C := RX9) (T := TX9) (N := 30) hx hb hts hiX9 hown hK hP 0 rfl rfl 15 (by decide) hf45 (fun _ h9 => h9) rfl dX9_change_70 ?_
    refine lv_aload_n hx hb dX9_change_73 rfl (lv_at hl 0 rfl) ?_
    refine va_get (D := D) (ci := 9) (v := .int (u.1 24 0)) (C := RX9) (T := TX9) (N := 30) hx hb hts hiX9 hown hK hP 0 rfl rfl 14 (by decide) hf121 (fun _ h9 => h9) rfl dX9_change_74 ?_
    refine lv_iload_n hx hb dX9_change_77 rfl (lv_at hl 1 rfl) ?_
    obtain ⟨hin, hw⟩ := hw
    refine sIast (w := wM q cI cJ cZ) hx hb hK hP hD hS 12 0 9 rfl rfl (wMa_12 q cI cJ cZ u) hin dX9_change_78 (fun u1 H locs eu1 hP hD hS => ?_)
    have hw := hw u1 eu1
    refine lv_aload_n hx hb dX9_change_79 rfl (lv_at hl 0 rfl) ?_
    refine va_get (D := D) (ci := 9) (v := .ref (q 13)) (C := RX9) (T := TX9) (N := 30) hx hb hts hiX9 hown hK hP 0 rfl rfl 16 (by decide) hf48 (fun _ h9 => h9) rfl dX9_change_80 ?_
    refine lv_aload_n hx hb dX9_change_83 rfl (lv_at hl 0 rfl) ?_
    refine va_get (D := D) (ci := 9) (v := .int (u1.1 24 0)) (C := RX9) (T := TX9) (N := 30) hx hb hts hiX9 hown hK hP 0 rfl rfl 14 (by decide) hf121 (fun _ h9 => h9) rfl dX9_change_84 ?_
    refine lv_iload_n hx hb dX9_change_87 rfl (lv_at hl 2 rfl) ?_
    obtain ⟨hin, hw⟩ := hw
    refine sIast (w := wM q cI cJ cZ) hx hb hK hP hD hS 13 0 10 rfl rfl (wMa_13 q cI cJ cZ u1) hin dX9_change_88 (fun u2 H locs eu2 hP hD hS => ?_)
    have hw := hw u2 eu2
    refine lv_aload_n hx hb dX9_change_89 rfl (lv_at hl 0 rfl) ?_
    refine va_get (D := D) (ci := 9) (v := .ref (q 14)) (C := RX9) (T := TX9) (N := 30) hx hb hts hiX9 hown hK hP 0 rfl rfl 17 (by decide) hf51 (fun _ h9 => h9) rfl dX9_change_90 ?_
    refine lv_aload_n hx hb dX9_change_93 rfl (lv_at hl 0 rfl) ?_
    refine va_get (D := D) (ci := 9) (v := .int (u2.1 24 0)) (C := RX9) (T := TX9) (N := 30) hx hb hts hiX9 hown hK hP 0 rfl rfl 14 (by decide) hf121 (fun _ h9 => h9) rfl dX9_change_94 ?_
    refine lv_iload_n hx hb dX9_change_97 rfl (lv_at hl 3 rfl) ?_
    obtain ⟨hin, hw⟩ := hw
    refine sIast (w := wM q cI cJ cZ) hx hb hK hP hD hS 14 0 11 rfl rfl (wMa_14 q cI cJ cZ u2) hin dX9_change_98 (fun u3 H locs eu3 hP hD hS => ?_)
    have hw := hw u3 eu3
    refine lv_aload_n hx hb dX9_change_99 rfl (lv_at hl 0 rfl) ?_
    refine va_get (D := D) (ci := 9) (v := .ref (q 15)) (C := RX9) (T := TX9) (N := 30) hx hb hts hiX9 hown hK hP 0 rfl rfl 18 (by decide) hf54 (fun _ h9 => h9) rfl dX9_change_100 ?_
    refine lv_aload_n hx hb dX9_change_103 rfl (lv_at hl 0 rfl) ?_
    refine va_get (D := D) (ci := 9) (v := .int (u3.1 24 0)) (C := RX9) (T := TX9) (N := 30) hx hb hts hiX9 hown hK hP 0 rfl rfl 14 (by decide) hf121 (fun _ h9 => h9) rfl dX9_change_104 ?_
    refine lv_iload hx hb dX9_change_107 (lv_at hl 4 rfl) ?_
    obtain ⟨hin, hw⟩ := hw
    refine sIast (w := wM q cI cJ cZ) hx hb hK hP hD hS 15 0 12 rfl rfl (wMa_15 q cI cJ cZ u3) hin dX9_change_109 (fun u4 H locs eu4 hP hD hS => ?_)
    have hw := hw u4 eu4
    refine lv_aload_n hx hb dX9_change_110 rfl (lv_at hl 0 rfl) ?_
    refine lv_dup hx hb dX9_change_111 rfl ?_
    refine va_get (D := D) (ci := 9) (v := .int (u4.1 24 0)) (C := RX9) (T := TX9) (N := 30) hx hb hts hiX9 hown hK hP 0 rfl rfl 14 (by decide) hf121 (fun _ h9 => h9) rfl dX9_change_112 ?_
    refine lv_iconst (v := 1) hx hb dX9_change_115 (by decide) ?_
    refine lv_iadd hx hb dX9_change_116 ?_
    refine va_put (D := D) (ci := 9) (v := .int ((u4.1 24 0) + 1)) (ty := .int) (C := RX9) (T := TX9) (N := 30) hx hb hts hiX9 tyX9 tyX9_ok nmX9 hown hK hP hD hS 0 rfl rfl 14 (by decide) hf121 (fun _ h9 => h9) rfl (by decide +kernel) rfl rfl (Nat.le_of_ble_eq_true rfl) dX9_change_117 (sPut (w := wM q cI cJ cZ) (uu := uI u4 24 (fun _ => (u4.1 24 0) + 1)) (wMs_X9_14 q cI cJ cZ u4 _) (fun u5 H locs eu5 hP hD hS => ?_))
    have hw := hw u5 eu5
    refine lv_aload_n hx hb dX9_change_120 rfl (lv_at hl 0 rfl) ?_
    refine va_get (D := D) (ci := 9) (v := .int (u5.1 24 0)) (C := RX9) (T := TX9) (N := 30) hx hb hts hiX9 hown hK hP 0 rfl rfl 14 (by decide) hf121 (fun _ h9 => h9) rfl dX9_change_121 ?_
    refine lv_iconst (v := 1) hx hb dX9_change_124 (by decide) ?_
    refine lv_isub hx hb dX9_change_125 ?_
    exact W.iret (v := (u5.1 24 0) - 1) hx hb hr (fun t ht hW => ⟨⟨(u5.1 24 0) - 1, u5, rfl, hw, by show va_P D vwCl _ t.heap; rw [ht]; exact hP⟩, hS.F ht⟩) hS.2.2 dX9_change_126
  have hent := lg_entry_eq m ([.ref (q 0), .int x1, .int x2, .int x3, .int x4]) 5
  rw [← hargs] at hent
  rw [hent]
  have hl := lv_entry ([.ref (q 0), .int x1, .int x2, .int x3, .int x4]) (n := 5) (Nat.le_of_ble_eq_true rfl)
  generalize (lg_sl ([.ref (q 0), .int x1, .int x2, .int x3, .int x4]) ++ List.replicate (5 - (lg_sl ([.ref (q 0), .int x1, .int x2, .int x3, .int x4])).length) Slot.unset).toArray = ls at hl ⊢
  have hl : lv_has ls 5 [(0, .ref (q 0)), (1, .int x1), (2, .int x2), (3, .int x3), (4, .int x4)] := hl
  unfold wp_X9_change at hw
  refine lv_aload_n hx hb dX9_change_0 rfl (lv_at hl 0 rfl) ?_
  refine va_get (D := D) (ci := 9) (v := .int (u.1 24 0)) (C := RX9) (T := TX9) (N := 30) hx hb hts hiX9 hown hK hP 0 rfl rfl 14 (by decide) hf121 (fun _ h9 => h9) rfl dX9_change_1 ?_
  refine lv_bipush (v := 10) hx hb dX9_change_4 (by decide) ?_
  refine lv_icmp_eq (tgt := 29) hx hb dX9_change_6 (by decide) (fun hc => ?_) (fun hc => ?_)
  · have hw := hw.1 hc
    refine lv_iconst (v := (-1)) hx hb dX9_change_29 (by decide) ?_
    exact W.iret (v := (-1)) hx hb hr (fun t ht hW => ⟨⟨(-1), u, rfl, hw, by show va_P D vwCl _ t.heap; rw [ht]; exact hP⟩, hS.F ht⟩) hS.2.2 dX9_change_30
  · have hw := hw.2 hc
    refine lv_iload_n hx hb dX9_change_9 rfl (lv_at hl 1 rfl) ?_
    refine lv_iconst (v := 0) hx hb dX9_change_10 (by decide) ?_
    refine lv_iconst (v := 1) hx hb dX9_change_11 (by decide) ?_
    refine vp_callSi (va_Run.run (va_runS (As := [.int x1, .int 0, .int 1]) (rest := []) ⟨hx, hb, hml, hown, hts⟩ (c_X9_lies l x1 0 1 _ hw) (va_cwS 3 hts gX9_change_X9_lies rfl rfl rfl (by decide +kernel) ⟨Nat.le_of_ble_eq_true rfl, Nat.le_of_ble_eq_true rfl⟩) (psS hN) rfl rfl hl.1 rfl (lv_room (Nat.le_of_ble_eq_true rfl)) dX9_change_12 ⟨Nat.zero_le _, Nat.zero_le _⟩)) (fun r6 hw => ?_)
    refine lv_if_eq (tgt := 29) hx hb dX9_change_15 (by decide) (fun hc => ?_) (fun hc => ?_)
    · have hw := hw.1 hc
      refine lv_iconst (v := (-1)) hx hb dX9_change_29 (by decide) ?_
      exact W.iret (v := (-1)) hx hb hr (fun t ht hW => ⟨⟨(-1), u, rfl, hw, by show va_P D vwCl _ t.heap; rw [ht]; exact hP⟩, hS.F ht⟩) hS.2.2 dX9_change_30
    · have hw := hw.2 hc
      refine lv_iload hx hb dX9_change_18 (lv_at hl 4 rfl) ?_
      refine lv_iconst (v := 0) hx hb dX9_change_20 (by decide) ?_
      refine lv_ldc (v := 100000) hx hb hown hc124 dX9_change_21 ?_
      refine vp_callSi (va_Run.run (va_runS (As := [.int x4, .int 0, .int 100000]) (rest := []) ⟨hx, hb, hml, hown, hts⟩ (c_X9_lies l x4 0 100000 _ hw) (va_cwS 3 hts gX9_change_X9_lies rfl rfl rfl (by decide +kernel) ⟨Nat.le_of_ble_eq_true rfl, Nat.le_of_ble_eq_true rfl⟩) (psS hN) rfl rfl hl.1 rfl (lv_room (Nat.le_of_ble_eq_true rfl)) dX9_change_23 ⟨Nat.zero_le _, Nat.zero_le _⟩)) (fun r7 hw => ?_)
      refine lv_if_ne (tgt := 31) hx hb dX9_change_26 (by decide) (fun hc => ?_) (fun hc => ?_)
      · have hw := hw.1 hc
        refine lv_iload_n hx hb dX9_change_31 rfl (lv_at hl 1 rfl) ?_
        refine lv_if_ne (tgt := 53) hx hb dX9_change_32 (by decide) (fun hc => ?_) (fun hc => ?_)
        · have hw := hw.1 hc
          refine lv_iload_n hx hb dX9_change_53 rfl (lv_at hl 2 rfl) ?_
          refine lv_iconst (v := 0) hx hb dX9_change_54 (by decide) ?_
          refine lv_aload_n hx hb dX9_change_55 rfl (lv_at hl 0 rfl) ?_
          refine va_get (D := D) (ci := 9) (v := .int (u.1 23 0)) (C := RX9) (T := TX9) (N := 30) hx hb hts hiX9 hown hK hP 0 rfl rfl 9 (by decide) hf108 (fun _ h9 => h9) rfl dX9_change_56 ?_
          refine lv_iconst (v := 1) hx hb dX9_change_59 (by decide) ?_
          refine lv_isub hx hb dX9_change_60 ?_
          refine vp_callSi (va_Run.run (va_runS (As := [.int x2, .int 0, .int ((u.1 23 0) - 1)]) (rest := []) ⟨hx, hb, hml, hown, hts⟩ (c_X9_lies l x2 0 ((u.1 23 0) - 1) _ hw) (va_cwS 3 hts gX9_change_X9_lies rfl rfl rfl (by decide +kernel) ⟨Nat.le_of_ble_eq_true rfl, Nat.le_of_ble_eq_true rfl⟩) (psS hN) rfl rfl hl.1 rfl (lv_room (Nat.le_of_ble_eq_true rfl)) dX9_change_61 ⟨Nat.zero_le _, Nat.zero_le _⟩)) (fun r8 hw => ?_)
          refine lv_if_ne (tgt := 69) hx hb dX9_change_64 (by decide) (fun hc => ?_) (fun hc => ?_)
          · have hw := hw.1 hc
            refine J69 x1 x2 x3 x4 u _ _ hw hP hD hS ls (lv_sub hl [0, 1, 2, 3, 4] rfl)
          · have hw := hw.2 hc
            refine lv_iconst (v := (-1)) hx hb dX9_change_67 (by decide) ?_
            exact W.iret (v := (-1)) hx hb hr (fun t ht hW => ⟨⟨(-1), u, rfl, hw, by show va_P D vwCl _ t.heap; rw [ht]; exact hP⟩, hS.F ht⟩) hS.2.2 dX9_change_68
        · have hw := hw.2 hc
          refine lv_aload_n hx hb dX9_change_35 rfl (lv_at hl 0 rfl) ?_
          refine lv_iload_n hx hb dX9_change_36 rfl (lv_at hl 2 rfl) ?_
          refine vp_callSi (va_Run.run (va_runV (As := [.int x2]) (rest := []) ⟨hx, hb, hml, hown, hts⟩ (c_X9_isPart l D q cI cJ cZ u x2 _ hw) (cwV 1 hts gX9_change_X9_isPart rfl rfl rfl (by decide +kernel) ⟨Nat.le_of_ble_eq_true rfl, Nat.le_of_ble_eq_true rfl⟩) (pvR (va_recv hK hP (ci := 9) (q0 := 0) (q := (RX9, TX9, 30)) rfl rfl) hK hP hN) rfl rfl hl.1 rfl (lv_room (Nat.le_of_ble_eq_true rfl)) dX9_change_37 ⟨Nat.zero_le _, Nat.zero_le _⟩)) (fun r9 hw => ?_)
          refine lv_if_eq (tgt := 67) hx hb dX9_change_40 (by decide) (fun hc => ?_) (fun hc => ?_)
          · have hw := hw.1 hc
            refine lv_iconst (v := (-1)) hx hb dX9_change_67 (by decide) ?_
            exact W.iret (v := (-1)) hx hb hr (fun t ht hW => ⟨⟨(-1), u, rfl, hw, by show va_P D vwCl _ t.heap; rw [ht]; exact hP⟩, hS.F ht⟩) hS.2.2 dX9_change_68
          · have hw := hw.2 hc
            refine lv_iload_n hx hb dX9_change_43 rfl (lv_at hl 3 rfl) ?_
            refine vp_callSi (va_Run.run (va_runS (As := [.int x3]) (rest := []) ⟨hx, hb, hml, hown, hts⟩ (c_X9_isLicence l x3 _ hw) (va_cwS 1 hts gX9_change_X9_isLicence rfl rfl rfl (by decide +kernel) ⟨Nat.le_of_ble_eq_true rfl, Nat.le_of_ble_eq_true rfl⟩) (psS hN) rfl rfl hl.1 rfl (lv_room (Nat.le_of_ble_eq_true rfl)) dX9_change_44 ⟨Nat.zero_le _, Nat.zero_le _⟩)) (fun r10 hw => ?_)
            refine lv_if_ne (tgt := 69) hx hb dX9_change_47 (by decide) (fun hc => ?_) (fun hc => ?_)
            · have hw := hw.1 hc
              refine J69 x1 x2 x3 x4 u _ _ hw hP hD hS ls (lv_sub hl [0, 1, 2, 3, 4] rfl)
            · have hw := hw.2 hc
              refine lv_goto (tgt := 67) hx hb dX9_change_50 (by decide) ?_
              refine lv_iconst (v := (-1)) hx hb dX9_change_67 (by decide) ?_
              exact W.iret (v := (-1)) hx hb hr (fun t ht hW => ⟨⟨(-1), u, rfl, hw, by show va_P D vwCl _ t.heap; rw [ht]; exact hP⟩, hS.F ht⟩) hS.2.2 dX9_change_68
      · have hw := hw.2 hc
        refine lv_iconst (v := (-1)) hx hb dX9_change_29 (by decide) ?_
        exact W.iret (v := (-1)) hx hb hr (fun t ht hW => ⟨⟨(-1), u, rfl, hw, by show va_P D vwCl _ t.heap; rw [ht]; exact hP⟩, hS.F ht⟩) hS.2.2 dX9_change_30
set_option maxHeartbeats 4000000 in
set_option maxRecDepth 100000 in
theorem c_X8_pairsOf (l : Launch) (x0 : Int32) (post : Int64 → Prop) (hw : wp_X8_pairsOf x0 post) : Met l yX8_pairsOf wsX8_pairsOf rm_X8_pairsOf (va_Pc [.int x0] NW) (vp_Sl post) 0 0 (fun _ => False) := by
  refine Met.ofW (cc := cX8_pairsOf) (maxL := 1) (ret := (some .long)) (by decide) rfl ?_
  intro p e s m args below meth c s₁ B hml hv
  obtain ⟨hargs, hN⟩ := hv
  have hx := B.exec
  have hb := B.bytes
  have hr := B.returns
  have hts := atoms_spec (ws := wsX8_pairsOf) B.pre
  have hown : s.vm.findClass RX8 = some m.cls := findClass_of_methodNamed B.named
  have hlocks := B.notSynchronized
  have hc216 := hts (.constantLong RX8 216 (255)) (by decide +kernel)
  have hent := lg_entry_eq m ([.int x0]) 1
  rw [← hargs] at hent
  rw [hent]
  have hl := lv_entry ([.int x0]) (n := 1) (Nat.le_of_ble_eq_true rfl)
  generalize (lg_sl ([.int x0]) ++ List.replicate (1 - (lg_sl ([.int x0])).length) Slot.unset).toArray = ls at hl ⊢
  have hl : lv_has ls 1 [(0, .int x0)] := hl
  unfold wp_X8_pairsOf at hw
  refine lv_ldc2 (v := 255) hx hb hown hc216 dX8_pairsOf_0 ?_
  refine lv_iload_n hx hb dX8_pairsOf_3 rfl (lv_at hl 0 rfl) ?_
  refine lv_iconst (v := 0) hx hb dX8_pairsOf_4 (by decide) ?_
  refine vp_callSi (va_Run.run (va_runS (As := [.int x0, .int 0]) (rest := [.long 255]) ⟨hx, hb, hml, hown, hts⟩ (c_X8_pairOf l x0 0 _ hw) (va_cwS 2 hts gX8_pairsOf_X8_pairOf rfl rfl rfl (by decide +kernel) ⟨Nat.le_of_ble_eq_true rfl, Nat.le_of_ble_eq_true rfl⟩) (psS hN) rfl rfl hl.1 rfl (lv_room (Nat.le_of_ble_eq_true rfl)) dX8_pairsOf_5 ⟨Nat.zero_le _, Nat.zero_le _⟩)) (fun r1 hw => ?_)
  refine lv_lshl (v := jshl 255 r1) hx hb dX8_pairsOf_8 rfl ?_
  exact W.lret (v := jshl 255 r1) hx hb hr (fun t ht hW => ⟨jshl 255 r1, rfl, hw, ht⟩) (fun _ h => by cases h) dX8_pairsOf_9
set_option maxHeartbeats 4000000 in
set_option maxRecDepth 100000 in
theorem c_X2_brought (l : Launch) (D : va_G) (q : Nat → Nat) (cI cJ cZ : ClassId) (u : WU) (x1 : Int32) (x2 : Int32) (x3 : Int32) (post : Int64 → Prop) (hw : wp_X2_brought x1 x2 x3 u post) : Met l yX2_brought wsX2_brought rm_X2_brought (va_Pc [.ref (q 5), .int x1, .int x2, .int x3] (RW D (ty3 cI cJ cZ) (wX q cI cJ cZ u))) (vp_Sl post) 0 0 (fun _ => False) := by
  refine Met.ofW (cc := cX2_brought) (maxL := 4) (ret := (some .long)) (by decide) rfl ?_
  intro p e s m args below meth c s₁ B hml hv
  obtain ⟨hargs, hP, hK, hN⟩ := hv
  have hx := B.exec
  have hb := B.bytes
  have hr := B.returns
  have hts := atoms_spec (ws := wsX2_brought) B.pre
  have hown : s.vm.findClass RX2 = some m.cls := findClass_of_methodNamed B.named
  have hlocks := B.notSynchronized
  have hiX2 : ∀ w ∈ u_ws RX2 TX2 5, w ∈ wsX2_brought := by decide +kernel
  have hiX5 : ∀ w ∈ u_ws RX5 TX5 6, w ∈ wsX2_brought := by decide +kernel
  have hiX6 : ∀ w ∈ u_ws RX6 TX6 3, w ∈ wsX2_brought := by decide +kernel
  have hc44 := hts (.constantLong RX2 44 (-1)) (by decide +kernel)
  have hf18 := hts (.fieldLink RX2 18 "TermsDesk$Flow" "terms" "LTermsDesk$Terms;") (by decide +kernel)
  have hf22 := hts (.fieldLink RX2 22 "TermsDesk$Flow" "parts" "LTermsDesk$Parts;") (by decide +kernel)
  have hi_RX8 := hts (.initialized RX8) (by decide +kernel)
  have hs_X8_pairsOf := hts (.static yX8_pairsOf) (by decide +kernel)
  have hent := lg_entry_eq m ([.ref (q 5), .int x1, .int x2, .int x3]) 4
  rw [← hargs] at hent
  rw [hent]
  have hl := lv_entry ([.ref (q 5), .int x1, .int x2, .int x3]) (n := 4) (Nat.le_of_ble_eq_true rfl)
  generalize (lg_sl ([.ref (q 5), .int x1, .int x2, .int x3]) ++ List.replicate (4 - (lg_sl ([.ref (q 5), .int x1, .int x2, .int x3])).length) Slot.unset).toArray = ls at hl ⊢
  have hl : lv_has ls 4 [(0, .ref (q 5)), (1, .int x1), (2, .int x2), (3, .int x3)] := hl
  unfold wp_X2_brought at hw
  refine lv_aload_n hx hb dX2_brought_0 rfl (lv_at hl 0 rfl) ?_
  refine va_get (D := D) (ci := 2) (v := .ref (q 1)) (C := RX2) (T := TX2) (N := 5) hx hb hts hiX2 hown hK hP 5 rfl rfl 0 (by decide) hf18 (fun _ h9 => h9) rfl dX2_brought_1 ?_
  refine va_getN (D := D) (ci := 6) (v := .ref (q 9)) (C := RX6) (T := TX6) (N := 3) hx hb hts hiX6 hown hK hP 1 rfl rfl 0 (by decide) (va_Nw.use rfl (nf_RX2_30 hN)) (fun _ h9 => h9) rfl dX2_brought_4 ?_
  refine lv_iload_n hx hb dX2_brought_7 rfl (lv_at hl 1 rfl) ?_
  obtain ⟨hin, hw⟩ := hw
  refine va_lald hx hb hK hP 9 1 rfl rfl hin dX2_brought_8 ?_
  refine lv_iload_n hx hb dX2_brought_9 rfl (lv_at hl 3 rfl) ?_
  refine vp_callSl (va_Run.run (va_runSN (As := [.int x3]) (rest := [.long (u.2 0 x1.toNatClampNeg)]) ⟨hx, hb, hml, hown, hts⟩ (c_X8_pairsOf l x3 _ hw) ⟨va_cnB 1 hts ggX2_brought_X8_pairsOf rfl rfl rfl (nm_RX2_35 hN) hi_RX8 (by decide +kernel) ⟨Nat.le_of_ble_eq_true rfl, Nat.le_of_ble_eq_true rfl⟩, hs_X8_pairsOf, trivial⟩ (psS hN) rfl rfl hl.1 rfl (lv_room (Nat.le_of_ble_eq_true rfl)) dX2_brought_10 ⟨Nat.zero_le _, Nat.zero_le _⟩)) (fun r1 hw => ?_)
  refine lv_land hx hb dX2_brought_13 ?_
  refine lv_aload_n hx hb dX2_brought_14 rfl (lv_at hl 0 rfl) ?_
  refine va_get (D := D) (ci := 2) (v := .ref (q 2)) (C := RX2) (T := TX2) (N := 5) hx hb hts hiX2 hown hK hP 5 rfl rfl 1 (by decide) hf22 (fun _ h9 => h9) rfl dX2_brought_15 ?_
  refine va_getN (D := D) (ci := 5) (v := .ref (q 15)) (C := RX5) (T := TX5) (N := 6) hx hb hts hiX5 hown hK hP 2 rfl rfl 3 (by decide) (va_Nw.use rfl (nf_RX2_39 hN)) (fun _ h9 => h9) rfl dX2_brought_18 ?_
  refine lv_iload_n hx hb dX2_brought_21 rfl (lv_at hl 2 rfl) ?_
  obtain ⟨hin, hw⟩ := hw
  refine va_lald hx hb hK hP 15 1 rfl rfl hin dX2_brought_22 ?_
  refine lv_ldc2 (v := (-1)) hx hb hown hc44 dX2_brought_23 ?_
  refine lv_lxor hx hb dX2_brought_26 ?_
  refine lv_land hx hb dX2_brought_27 ?_
  exact W.lret (v := ((u.2 0 x1.toNatClampNeg) &&& r1) &&& ((u.2 3 x2.toNatClampNeg) ^^^ (-1))) hx hb hr (fun t ht hW => ⟨((u.2 0 x1.toNatClampNeg) &&& r1) &&& ((u.2 3 x2.toNatClampNeg) ^^^ (-1)), rfl, hw, ht⟩) (fun _ h => by cases h) dX2_brought_28
set_option maxHeartbeats 4000000 in
set_option maxRecDepth 100000 in
theorem c_X2_arrive (l : Launch) (D : va_G) (q : Nat → Nat) (cI cJ cZ : ClassId) (sz : Nat) (u : WU) (x1 : Int32) (x2 : Int64) (x4 : Int64) (post : WU → Prop) (hw : wp_X2_arrive x1 x2 x4 u post) : Met l yX2_arrive wsX2_arrive rm_X2_arrive (va_Pc [.ref (q 5), .int x1, .long x2, .long x4] (MW D (ty3 cI cJ cZ) (wX q cI cJ cZ u) sz)) (va_Qv post (fun u' t => va_P D vwCl (wX q cI cJ cZ u') t.heap) (va_A (wX q cI cJ cZ u00) sz)) 0 0 (va_A (wX q cI cJ cZ u00) sz) := by
  refine Met.ofW (cc := cX2_arrive) (maxL := 10) (ret := none) (by decide) rfl ?_
  intro p e s m args below meth c s₁ B hml hv
  obtain ⟨hargs, hsz, hP, hK, hD0, hN⟩ := hv
  have hx := B.exec
  have hb := B.bytes
  have hr := B.returns
  have hts := atoms_spec (ws := wsX2_arrive) B.pre
  have hown : s.vm.findClass RX2 = some m.cls := findClass_of_methodNamed B.named
  have hlocks := B.notSynchronized
  subst hsz
  have hD := shw_self (sz := s.heap.size) (sh_wX q cI cJ cZ) hD0
  have hA : ∀ a : Nat, s.heap.size ≤ a → va_A (wX q cI cJ cZ u00) s.heap.size a := fun _ h => Or.inr h
  have hS : va_S (va_A (wX q cI cJ cZ u00) s.heap.size) s.heap s.heap [] := va_S.rf
  have hiX2 : ∀ w ∈ u_ws RX2 TX2 5, w ∈ wsX2_arrive := by decide +kernel
  have hiX3 : ∀ w ∈ u_ws RX3 TX3 9, w ∈ wsX2_arrive := by decide +kernel
  have hiX6 : ∀ w ∈ u_ws RX6 TX6 3, w ∈ wsX2_arrive := by decide +kernel
  have hf18 := hts (.fieldLink RX2 18 "TermsDesk$Flow" "terms" "LTermsDesk$Terms;") (by decide +kernel)
  have hf26 := hts (.fieldLink RX2 26 "TermsDesk$Flow" "joins" "LTermsDesk$Joins;") (by decide +kernel)
  have hf9 := hts (.fieldLink RX2 9 "TermsDesk$Flow" "arrived" "[J") (by decide +kernel)
  have hi_RX8 := hts (.initialized RX8) (by decide +kernel)
  have hs_X8_holds := hts (.static yX8_holds) (by decide +kernel)
  have J89 : ∀ {K14 : Int64 → Int32 → WU → Prop} (x1 : Int32) (x4 : Int64) (x6 : Int64) (x8 : Int32) (u : WU) (H : Heap) (locs : List Loc), wp_X2_arrive_J89 x1 x4 x6 x8 u post K14 → va_P D vwCl (wX q cI cJ cZ u) H → va_D (va_A (wX q cI cJ cZ u00) s.heap.size) (wX q cI cJ cZ u) → va_S (va_A (wX q cI cJ cZ u00) s.heap.size) s.heap H locs → ∀ ls : Array Slot, lv_has ls 10 [(0, .ref (q 5)), (1, .int x1), (4, .long x4), (6, .long x6), (8, .int x8)] → (∀ (x6 : Int64) (x8 : Int32) (u : WU) (H : Heap) (locs : List Loc), K14 x6 x8 u → va_P D vwCl (wX q cI cJ cZ u) H → va_D (va_A (wX q cI cJ cZ u00) s.heap.size) (wX q cI cJ cZ u) → va_S (va_A (wX q cI cJ cZ u00) s.heap.size) s.heap H locs → ∀ ls : Array Slot, lv_has ls 10 [(0, .ref (q 5)), (1, .int x1), (4, .long x4), (6, .long x6), (8, .int x8)] → W p l e (headSpec wsX2_arrive rm_X2_arrive).room s m args below meth c H locs 0 0 (MQ below (va_Qv post (fun u' t => va_P D vwCl (wX q cI cJ cZ u') t.heap) (va_A (wX q cI cJ cZ u00) s.heap.size)) args s 0 0 (va_A (wX q cI cJ cZ u00) s.heap.size)) (F0 m 14 ls [])) → W p l e (headSpec wsX2_arrive rm_X2_arrive).room s m args below meth c H locs 0 0 (MQ below (va_Qv post (fun u' t => va_P D vwCl (wX q cI cJ cZ u') t.heap) (va_A (wX q cI cJ cZ u00) s.heap.size)) args s 0 0 (va_A (wX q cI cJ cZ u00) s.heap.size)) (F0 m 89 ls []) := by
    intro K14 x1 x4 x6 x8 u H locs hw hP hD hS ls hl k14
    unfold wp_X2_arrive_J89 at hw
    obtain ⟨y11, ey11⟩ : ∃ z : Int32, z = x8 + 1 := ⟨_, rfl⟩
    have hw := hw y11 ey11
    refine lv_iinc (v := y11) (lv' := [(8, .int y11), (0, .ref (q 5)), (1, .int x1), (4, .long x4), (6, .long x6)]) hx hb dX2_arrive_89 hl (k := 4) rfl (by rw [ey11]; rfl) (by decide) rfl (fun ls hl => ?_)
    refine lv_goto (tgt := 14) hx hb dX2_arrive_92 (by decide) ?_
    exact k14 x6 y11 u _ _ hw hP hD hS ls (lv_sub hl [1, 2, 3, 4, 0] rfl)
  have L14 : ∀ (x1 : Int32) (x4 : Int64) (n : Nat) (x6 : Int64) (x8 : Int32) (u : WU) (H : Heap) (locs : List Loc), wp_X2_arrive_L14 x1 x4 post n x6 x8 u → va_P D vwCl (wX q cI cJ cZ u) H → va_D (va_A (wX q cI cJ cZ u00) s.heap.size) (wX q cI cJ cZ u) → va_S (va_A (wX q cI cJ cZ u00) s.heap.size) s.heap H locs → ∀ ls : Array Slot, lv_has ls 10 [(0, .ref (q 5)), (1, .int x1), (4, .long x4), (6, .long x6), (8, .int x8)] → W p l e (headSpec wsX2_arrive rm_X2_arrive).room s m args below meth c H locs 0 0 (MQ below (va_Qv post (fun u' t => va_P D vwCl (wX q cI cJ cZ u') t.heap) (va_A (wX q cI cJ cZ u00) s.heap.size)) args s 0 0 (va_A (wX q cI cJ cZ u00) s.heap.size)) (F0 m 14 ls []) := by
    intro x1 x4 n
    induction n with
    | zero =>
      intro x6 x8 u H locs hw
      exact hw.elim
    | succ n ih =>
      intro x6 x8 u H locs hw hP hD hS ls hl 
      unfold wp_X2_arrive_L14 at hw
      refine lv_iload hx hb dX2_arrive_14 (lv_at hl 4 rfl) ?_
      refine lv_aload_n hx hb dX2_arrive_16 rfl (lv_at hl 0 rfl) ?_
      refine va_get (D := D) (ci := 2) (v := .ref (q 3)) (C := RX2) (T := TX2) (N := 5) hx hb hts hiX2 hown hK hP 5 rfl rfl 2 (by decide) hf26 (fun _ h9 => h9) rfl dX2_arrive_17 ?_
      refine va_getN (D := D) (ci := 3) (v := .ref (q 22)) (C := RX3) (T := TX3) (N := 9) hx hb hts hiX3 hown hK hP 3 rfl rfl 8 (by decide) (va_Nw.use rfl (nf_RX2_63 hN)) (fun _ h9 => h9) rfl dX2_arrive_20 ?_
      refine lv_iload_n hx hb dX2_arrive_23 rfl (lv_at hl 1 rfl) ?_
      obtain ⟨hin, hw⟩ := hw
      refine va_iald hx hb hK hP 22 0 rfl rfl hin dX2_arrive_24 ?_
      refine lv_icmp_ge (tgt := 95) hx hb dX2_arrive_25 (by decide) (fun hc => ?_) (fun hc => ?_)
      · have hw := hw.1 hc
        refine lv_aload_n hx hb dX2_arrive_95 rfl (lv_at hl 0 rfl) ?_
        refine va_get (D := D) (ci := 2) (v := .ref (q 27)) (C := RX2) (T := TX2) (N := 5) hx hb hts hiX2 hown hK hP 5 rfl rfl 3 (by decide) hf9 (fun _ h9 => h9) rfl dX2_arrive_96 ?_
        refine lv_iload_n hx hb dX2_arrive_99 rfl (lv_at hl 1 rfl) ?_
        refine lv_lload hx hb dX2_arrive_100 (lv_at hl 3 rfl) ?_
        obtain ⟨hin, hw⟩ := hw
        refine sLast (w := wX q cI cJ cZ) hx hb hK hP hD hS 27 1 4 rfl rfl (wXa_27 q cI cJ cZ u) hin dX2_arrive_102 (fun u1 H locs eu1 hP hD hS => ?_)
        have hw := hw u1 eu1
        exact W.vret hx hb hr (fun t ht hW => ⟨⟨u1, rfl, hw, by show va_P D vwCl _ t.heap; rw [ht]; exact hP⟩, hS.F ht⟩) hS.2.2 dX2_arrive_103
      · have hw := hw.2 hc
        refine lv_aload_n hx hb dX2_arrive_28 rfl (lv_at hl 0 rfl) ?_
        refine va_get (D := D) (ci := 2) (v := .ref (q 3)) (C := RX2) (T := TX2) (N := 5) hx hb hts hiX2 hown hK hP 5 rfl rfl 2 (by decide) hf26 (fun _ h9 => h9) rfl dX2_arrive_29 ?_
        refine va_getN (D := D) (ci := 3) (v := .ref (q 20)) (C := RX3) (T := TX3) (N := 9) hx hb hts hiX3 hown hK hP 3 rfl rfl 6 (by decide) (va_Nw.use rfl (nf_RX2_66 hN)) (fun _ h9 => h9) rfl dX2_arrive_32 ?_
        refine lv_iload hx hb dX2_arrive_35 (lv_at hl 4 rfl) ?_
        obtain ⟨hin, hw⟩ := hw
        refine va_iald hx hb hK hP 20 0 rfl rfl hin dX2_arrive_37 ?_
        refine lv_topi (fun y2 ey2 => ?_)
        have hw := hw y2 ey2
        refine lv_istore (lv' := [(9, .int y2), (0, .ref (q 5)), (1, .int x1), (4, .long x4), (6, .long x6), (8, .int x8)]) hx hb dX2_arrive_38 hl (by decide) rfl (fun ls hl => ?_)
        refine lv_lload hx hb dX2_arrive_40 (lv_at hl 3 rfl) ?_
        refine lv_iload hx hb dX2_arrive_42 (lv_at hl 0 rfl) ?_
        refine vp_callSi (va_Run.run (va_runSN (As := [.long x4, .int y2]) (rest := []) ⟨hx, hb, hml, hown, hts⟩ (c_X8_holds l x4 y2 _ hw) ⟨va_cnB 2 hts ggX2_arrive_X8_holds rfl rfl rfl (nm_RX2_69 hN) hi_RX8 (by decide +kernel) ⟨Nat.le_of_ble_eq_true rfl, Nat.le_of_ble_eq_true rfl⟩, hs_X8_holds, trivial⟩ (psS hN) rfl rfl hl.1 rfl (lv_room (Nat.le_of_ble_eq_true rfl)) dX2_arrive_44 ⟨Nat.zero_le _, Nat.zero_le _⟩)) (fun r3 hw => ?_)
        refine lv_if_eq (tgt := 89) hx hb dX2_arrive_47 (by decide) (fun hc => ?_) (fun hc => ?_)
        · have hw := hw.1 hc
          refine J89 x1 x4 x6 x8 u _ _ hw hP hD hS ls (lv_sub hl [1, 2, 3, 4, 5] rfl) (fun y4 y5 u6 H locs hw hP hD hS ls hl => ?_)
          exact ih y4 y5 u6 _ _ hw hP hD hS ls (lv_sub hl [0, 1, 2, 3, 4] rfl)
        · have hw := hw.2 hc
          refine lv_lload hx hb dX2_arrive_50 (lv_at hl 4 rfl) ?_
          refine lv_aload_n hx hb dX2_arrive_52 rfl (lv_at hl 1 rfl) ?_
          refine va_get (D := D) (ci := 2) (v := .ref (q 27)) (C := RX2) (T := TX2) (N := 5) hx hb hts hiX2 hown hK hP 5 rfl rfl 3 (by decide) hf9 (fun _ h9 => h9) rfl dX2_arrive_53 ?_
          refine lv_aload_n hx hb dX2_arrive_56 rfl (lv_at hl 1 rfl) ?_
          refine va_get (D := D) (ci := 2) (v := .ref (q 3)) (C := RX2) (T := TX2) (N := 5) hx hb hts hiX2 hown hK hP 5 rfl rfl 2 (by decide) hf26 (fun _ h9 => h9) rfl dX2_arrive_57 ?_
          refine va_getN (D := D) (ci := 3) (v := .ref (q 16)) (C := RX3) (T := TX3) (N := 9) hx hb hts hiX3 hown hK hP 3 rfl rfl 0 (by decide) (va_Nw.use rfl (nf_RX2_73 hN)) (fun _ h9 => h9) rfl dX2_arrive_60 ?_
          refine lv_iload hx hb dX2_arrive_63 (lv_at hl 0 rfl) ?_
          obtain ⟨hin, hw⟩ := hw
          refine va_iald hx hb hK hP 16 0 rfl rfl hin dX2_arrive_65 ?_
          obtain ⟨hin, hw⟩ := hw
          refine va_lald hx hb hK hP 27 1 rfl rfl hin dX2_arrive_66 ?_
          refine lv_aload_n hx hb dX2_arrive_67 rfl (lv_at hl 1 rfl) ?_
          refine va_get (D := D) (ci := 2) (v := .ref (q 1)) (C := RX2) (T := TX2) (N := 5) hx hb hts hiX2 hown hK hP 5 rfl rfl 0 (by decide) hf18 (fun _ h9 => h9) rfl dX2_arrive_68 ?_
          refine va_getN (D := D) (ci := 6) (v := .ref (q 10)) (C := RX6) (T := TX6) (N := 3) hx hb hts hiX6 hown hK hP 1 rfl rfl 1 (by decide) (va_Nw.use rfl (nf_RX2_76 hN)) (fun _ h9 => h9) rfl dX2_arrive_71 ?_
          refine lv_aload_n hx hb dX2_arrive_74 rfl (lv_at hl 1 rfl) ?_
          refine va_get (D := D) (ci := 2) (v := .ref (q 3)) (C := RX2) (T := TX2) (N := 5) hx hb hts hiX2 hown hK hP 5 rfl rfl 2 (by decide) hf26 (fun _ h9 => h9) rfl dX2_arrive_75 ?_
          refine va_getN (D := D) (ci := 3) (v := .ref (q 18)) (C := RX3) (T := TX3) (N := 9) hx hb hts hiX3 hown hK hP 3 rfl rfl 2 (by decide) (va_Nw.use rfl (nf_RX2_79 hN)) (fun _ h9 => h9) rfl dX2_arrive_78 ?_
          refine lv_iload hx hb dX2_arrive_81 (lv_at hl 0 rfl) ?_
          obtain ⟨hin, hw⟩ := hw
          refine va_iald hx hb hK hP 18 0 rfl rfl hin dX2_arrive_83 ?_
          obtain ⟨hin, hw⟩ := hw
          refine va_lald hx hb hK hP 10 1 rfl rfl hin dX2_arrive_84 ?_
          refine lv_land hx hb dX2_arrive_85 ?_
          refine lv_lor hx hb dX2_arrive_86 ?_
          refine lv_topl (fun y7 ey7 => ?_)
          have hw := hw y7 ey7
          refine lv_lstore (lv' := [(6, .long y7), (9, .int y2), (0, .ref (q 5)), (1, .int x1), (4, .long x4), (8, .int x8)]) hx hb dX2_arrive_87 hl (by decide) rfl (fun ls hl => ?_)
          refine J89 x1 x4 y7 x8 u _ _ hw hP hD hS ls (lv_sub hl [2, 3, 4, 0, 5] rfl) (fun y8 y9 u10 H locs hw hP hD hS ls hl => ?_)
          exact ih y8 y9 u10 _ _ hw hP hD hS ls (lv_sub hl [0, 1, 2, 3, 4] rfl)
  have hent := lg_entry_eq m ([.ref (q 5), .int x1, .long x2, .long x4]) 10
  rw [← hargs] at hent
  rw [hent]
  have hl := lv_entry ([.ref (q 5), .int x1, .long x2, .long x4]) (n := 10) (Nat.le_of_ble_eq_true rfl)
  generalize (lg_sl ([.ref (q 5), .int x1, .long x2, .long x4]) ++ List.replicate (10 - (lg_sl ([.ref (q 5), .int x1, .long x2, .long x4])).length) Slot.unset).toArray = ls at hl ⊢
  have hl : lv_has ls 10 [(0, .ref (q 5)), (1, .int x1), (2, .long x2), (4, .long x4)] := hl
  unfold wp_X2_arrive at hw
  refine lv_lload_n hx hb dX2_arrive_0 rfl (lv_at hl 2 rfl) ?_
  refine lv_lstore (lv' := [(6, .long x2), (0, .ref (q 5)), (1, .int x1), (2, .long x2), (4, .long x4)]) hx hb dX2_arrive_1 hl (by decide) rfl (fun ls hl => ?_)
  refine lv_aload_n hx hb dX2_arrive_3 rfl (lv_at hl 1 rfl) ?_
  refine va_get (D := D) (ci := 2) (v := .ref (q 3)) (C := RX2) (T := TX2) (N := 5) hx hb hts hiX2 hown hK hP 5 rfl rfl 2 (by decide) hf26 (fun _ h9 => h9) rfl dX2_arrive_4 ?_
  refine va_getN (D := D) (ci := 3) (v := .ref (q 21)) (C := RX3) (T := TX3) (N := 9) hx hb hts hiX3 hown hK hP 3 rfl rfl 7 (by decide) (va_Nw.use rfl (nf_RX2_60 hN)) (fun _ h9 => h9) rfl dX2_arrive_7 ?_
  refine lv_iload_n hx hb dX2_arrive_10 rfl (lv_at hl 2 rfl) ?_
  obtain ⟨hin, hw⟩ := hw
  refine va_iald hx hb hK hP 21 0 rfl rfl hin dX2_arrive_11 ?_
  refine lv_topi (fun y12 ey12 => ?_)
  have hw := hw y12 ey12
  refine lv_istore (lv' := [(8, .int y12), (6, .long x2), (0, .ref (q 5)), (1, .int x1), (2, .long x2), (4, .long x4)]) hx hb dX2_arrive_12 hl (by decide) rfl (fun ls hl => ?_)
  obtain ⟨nn, hw⟩ := hw
  refine L14 x1 x4 nn x2 y12 u _ _ hw hP hD hS ls (lv_sub hl [2, 3, 5, 1, 0] rfl)
set_option maxHeartbeats 4000000 in
set_option maxRecDepth 100000 in
theorem c_X2_run_c14 (l : Launch) (D : va_G) (q : Nat → Nat) (cI cJ cZ : ClassId) (sz : Nat) (u : WU) (x1 : Int32) (x3 : Int64) (post : WU → Prop) (hw : wp_X2_run_c14 x1 x3 u post) : Met l yX2_run wsX2_run rm_X2_run (va_Pc [.ref (q 5), .int x1, .ref (q 14), .long x3] (MW D (ty3 cI cJ cZ) (wX q cI cJ cZ u) sz)) (va_Qv post (fun u' t => va_P D vwCl (wX q cI cJ cZ u') t.heap) (va_A (wX q cI cJ cZ u00) sz)) 0 0 (va_A (wX q cI cJ cZ u00) sz) := by
  refine Met.ofW (cc := cX2_run) (maxL := 7) (ret := none) (by decide) rfl ?_
  intro p e s m args below meth c s₁ B hml hv
  obtain ⟨hargs, hsz, hP, hK, hD0, hN⟩ := hv
  have hx := B.exec
  have hb := B.bytes
  have hr := B.returns
  have hts := atoms_spec (ws := wsX2_run) B.pre
  have hown : s.vm.findClass RX2 = some m.cls := findClass_of_methodNamed B.named
  have hlocks := B.notSynchronized
  subst hsz
  have hD := shw_self (sz := s.heap.size) (sh_wX q cI cJ cZ) hD0
  have hA : ∀ a : Nat, s.heap.size ≤ a → va_A (wX q cI cJ cZ u00) s.heap.size a := fun _ h => Or.inr h
  have hS : va_S (va_A (wX q cI cJ cZ u00) s.heap.size) s.heap s.heap [] := va_S.rf
  have hiX2 : ∀ w ∈ u_ws RX2 TX2 5, w ∈ wsX2_run := by decide +kernel
  have hiX3 : ∀ w ∈ u_ws RX3 TX3 9, w ∈ wsX2_run := by decide +kernel
  have hf26 := hts (.fieldLink RX2 26 "TermsDesk$Flow" "joins" "LTermsDesk$Joins;") (by decide +kernel)
  have L3 : ∀ (x1 : Int32) (x3 : Int64) (n : Nat) (x5 : Int32) (u : WU) (H : Heap) (locs : List Loc), wp_X2_run_c14_L3 x1 x3 post n x5 u → va_P D vwCl (wX q cI cJ cZ u) H → va_D (va_A (wX q cI cJ cZ u00) s.heap.size) (wX q cI cJ cZ u) → va_S (va_A (wX q cI cJ cZ u00) s.heap.size) s.heap H locs → ∀ ls : Array Slot, lv_has ls 7 [(0, .ref (q 5)), (1, .int x1), (2, .ref (q 14)), (3, .long x3), (5, .int x5)] → W p l e (headSpec wsX2_run rm_X2_run).room s m args below meth c H locs 0 0 (MQ below (va_Qv post (fun u' t => va_P D vwCl (wX q cI cJ cZ u') t.heap) (va_A (wX q cI cJ cZ u00) s.heap.size)) args s 0 0 (va_A (wX q cI cJ cZ u00) s.heap.size)) (F0 m 3 ls []) := by
    intro x1 x3 n
    induction n with
    | zero =>
      intro x5 u H locs hw
      exact hw.elim
    | succ n ih =>
      intro x5 u H locs hw hP hD hS ls hl 
      unfold wp_X2_run_c14_L3 at hw
      refine lv_iload hx hb dX2_run_3 (lv_at hl 4 rfl) ?_
      refine lv_bipush (v := 24) hx hb dX2_run_5 (by decide) ?_
      refine lv_icmp_ge (tgt := 46) hx hb dX2_run_7 (by decide) (fun hc => ?_) (fun hc => ?_)
      · have hw := hw.1 hc
        exact W.vret hx hb hr (fun t ht hW => ⟨⟨u, rfl, hw, by show va_P D vwCl _ t.heap; rw [ht]; exact hP⟩, hS.F ht⟩) hS.2.2 dX2_run_46
      · have hw := hw.2 hc
        refine lv_aload_n hx hb dX2_run_10 rfl (lv_at hl 0 rfl) ?_
        refine va_get (D := D) (ci := 2) (v := .ref (q 3)) (C := RX2) (T := TX2) (N := 5) hx hb hts hiX2 hown hK hP 5 rfl rfl 2 (by decide) hf26 (fun _ h9 => h9) rfl dX2_run_11 ?_
        refine va_getN (D := D) (ci := 3) (v := .ref (q 19)) (C := RX3) (T := TX3) (N := 9) hx hb hts hiX3 hown hK hP 3 rfl rfl 5 (by decide) (va_Nw.use rfl (nf_RX2_46 hN)) (fun _ h9 => h9) rfl dX2_run_14 ?_
        refine lv_iload hx hb dX2_run_17 (lv_at hl 4 rfl) ?_
        obtain ⟨hin, hw⟩ := hw
        refine va_iald hx hb hK hP 19 0 rfl rfl hin dX2_run_19 ?_
        refine lv_topi (fun y1 ey1 => ?_)
        have hw := hw y1 ey1
        refine lv_istore (lv' := [(6, .int y1), (0, .ref (q 5)), (1, .int x1), (2, .ref (q 14)), (3, .long x3), (5, .int x5)]) hx hb dX2_run_20 hl (by decide) rfl (fun ls hl => ?_)
        refine lv_aload_n hx hb dX2_run_22 rfl (lv_at hl 1 rfl) ?_
        refine lv_iload hx hb dX2_run_23 (lv_at hl 0 rfl) ?_
        refine lv_aload_n hx hb dX2_run_25 rfl (lv_at hl 1 rfl) ?_
        refine lv_iload_n hx hb dX2_run_26 rfl (lv_at hl 2 rfl) ?_
        refine lv_iload hx hb dX2_run_27 (lv_at hl 0 rfl) ?_
        refine lv_aload_n hx hb dX2_run_29 rfl (lv_at hl 3 rfl) ?_
        refine lv_iload hx hb dX2_run_30 (lv_at hl 0 rfl) ?_
        obtain ⟨hin, hw⟩ := hw
        refine va_iald hx hb hK hP 14 0 rfl rfl hin dX2_run_32 ?_
        refine vp_callSl (va_Run.run (va_runV (As := [.int x1, .int y1, .int (u.1 2 y1.toNatClampNeg)]) (rest := [.int y1, .ref (q 5)]) ⟨hx, hb, hml, hown, hts⟩ (c_X2_brought l D q cI cJ cZ u x1 y1 (u.1 2 y1.toNatClampNeg) _ hw) (cwV 3 hts gX2_run_X2_brought rfl rfl rfl (by decide +kernel) ⟨Nat.le_of_ble_eq_true rfl, Nat.le_of_ble_eq_true rfl⟩) (pvR (va_recv hK hP (ci := 2) (q0 := 5) (q := (RX2, TX2, 5)) rfl rfl) hK hP hN) rfl rfl hl.1 rfl (lv_room (Nat.le_of_ble_eq_true rfl)) dX2_run_33 ⟨Nat.zero_le _, Nat.zero_le _⟩)) (fun r2 hw => ?_)
        refine lv_lload_n hx hb dX2_run_36 rfl (lv_at hl 4 rfl) ?_
        refine cMv (sh_wX q cI cJ cZ) (u := u) (va_runV (As := [.int y1, .long r2, .long x3]) (rest := []) ⟨hx, hb, hml, hown, hts⟩ (c_X2_arrive l D q cI cJ cZ _ u y1 r2 x3 _ hw) (cwV 3 hts gX2_run_X2_arrive rfl rfl rfl (by decide +kernel) ⟨Nat.le_of_ble_eq_true rfl, Nat.le_of_ble_eq_true rfl⟩) (pvM (va_recv hK hP (ci := 2) (q0 := 5) (q := (RX2, TX2, 5)) rfl rfl) hK hP hD hN) rfl rfl hl.1 rfl (lv_room (Nat.le_of_ble_eq_true rfl)) dX2_run_37 ⟨Nat.zero_le _, Nat.zero_le _⟩) hA hD hS (fun u3 H locs hw hP hD hS => ?_)
        obtain ⟨y4, ey4⟩ : ∃ z : Int32, z = x5 + 1 := ⟨_, rfl⟩
        have hw := hw y4 ey4
        refine lv_iinc (v := y4) (lv' := [(5, .int y4), (6, .int y1), (0, .ref (q 5)), (1, .int x1), (2, .ref (q 14)), (3, .long x3)]) hx hb dX2_run_40 hl (k := 5) rfl (by rw [ey4]; rfl) (by decide) rfl (fun ls hl => ?_)
        refine lv_goto (tgt := 3) hx hb dX2_run_43 (by decide) ?_
        exact ih y4 u3 _ _ hw hP hD hS ls (lv_sub hl [2, 3, 4, 5, 0] rfl)
  have hent := lg_entry_eq m ([.ref (q 5), .int x1, .ref (q 14), .long x3]) 7
  rw [← hargs] at hent
  rw [hent]
  have hl := lv_entry ([.ref (q 5), .int x1, .ref (q 14), .long x3]) (n := 7) (Nat.le_of_ble_eq_true rfl)
  generalize (lg_sl ([.ref (q 5), .int x1, .ref (q 14), .long x3]) ++ List.replicate (7 - (lg_sl ([.ref (q 5), .int x1, .ref (q 14), .long x3])).length) Slot.unset).toArray = ls at hl ⊢
  have hl : lv_has ls 7 [(0, .ref (q 5)), (1, .int x1), (2, .ref (q 14)), (3, .long x3)] := hl
  unfold wp_X2_run_c14 at hw
  refine lv_iconst (v := 0) hx hb dX2_run_0 (by decide) ?_
  refine lv_istore (lv' := [(5, .int 0), (0, .ref (q 5)), (1, .int x1), (2, .ref (q 14)), (3, .long x3)]) hx hb dX2_run_1 hl (by decide) rfl (fun ls hl => ?_)
  obtain ⟨nn, hw⟩ := hw
  refine L3 x1 x3 nn 0 u _ _ hw hP hD hS ls (lv_sub hl [1, 2, 3, 4, 0] rfl)
set_option maxHeartbeats 4000000 in
set_option maxRecDepth 100000 in
theorem c_X8_come (l : Launch) (D : va_G) (q : Nat → Nat) (cI cJ cZ : ClassId) (sz : Nat) (u : WU) (x1 : Int32) (x2 : Int32) (x3 : Int32) (post : Int32 → WU → Prop) (hw : wp_X8_come x1 x2 x3 u post) : Met l yX8_come wsX8_come rm_X8_come (va_Pc [.ref (q 0), .int x1, .int x2, .int x3] (MW D (ty3 cI cJ cZ) (wX q cI cJ cZ u) sz)) (va_Qi post (fun u' t => va_P D vwCl (wX q cI cJ cZ u') t.heap) (va_A (wX q cI cJ cZ u00) sz)) 0 0 (va_A (wX q cI cJ cZ u00) sz) := by
  refine Met.ofW (cc := cX8_come) (maxL := 4) (ret := (some .int)) (by decide) rfl ?_
  intro p e s m args below meth c s₁ B hml hv
  obtain ⟨hargs, hsz, hP, hK, hD0, hN⟩ := hv
  have hx := B.exec
  have hb := B.bytes
  have hr := B.returns
  have hts := atoms_spec (ws := wsX8_come) B.pre
  have hown : s.vm.findClass RX8 = some m.cls := findClass_of_methodNamed B.named
  have hlocks := B.notSynchronized
  subst hsz
  have hD := shw_self (sz := s.heap.size) (sh_wX q cI cJ cZ) hD0
  have hA : ∀ a : Nat, s.heap.size ≤ a → va_A (wX q cI cJ cZ u00) s.heap.size a := fun _ h => Or.inr h
  have hS : va_S (va_A (wX q cI cJ cZ u00) s.heap.size) s.heap s.heap [] := va_S.rf
  have hiX2 : ∀ w ∈ u_ws RX2 TX2 5, w ∈ wsX8_come := by decide +kernel
  have hiX3 : ∀ w ∈ u_ws RX3 TX3 9, w ∈ wsX8_come := by decide +kernel
  have hiX5 : ∀ w ∈ u_ws RX5 TX5 6, w ∈ wsX8_come := by decide +kernel
  have hiX8 : ∀ w ∈ u_ws RX8 TX8 8, w ∈ wsX8_come := by decide +kernel
  have hf19 := hts (.fieldLink RX8 19 "TermsDesk" "parts" "LTermsDesk$Parts;") (by decide +kernel)
  have hf26 := hts (.fieldLink RX8 26 "TermsDesk" "joins" "LTermsDesk$Joins;") (by decide +kernel)
  have hf42 := hts (.fieldLink RX8 42 "TermsDesk" "flow" "LTermsDesk$Flow;") (by decide +kernel)
  have hent := lg_entry_eq m ([.ref (q 0), .int x1, .int x2, .int x3]) 4
  rw [← hargs] at hent
  rw [hent]
  have hl := lv_entry ([.ref (q 0), .int x1, .int x2, .int x3]) (n := 4) (Nat.le_of_ble_eq_true rfl)
  generalize (lg_sl ([.ref (q 0), .int x1, .int x2, .int x3]) ++ List.replicate (4 - (lg_sl ([.ref (q 0), .int x1, .int x2, .int x3])).length) Slot.unset).toArray = ls at hl ⊢
  have hl : lv_has ls 4 [(0, .ref (q 0)), (1, .int x1), (2, .int x2), (3, .int x3)] := hl
  unfold wp_X8_come at hw
  refine lv_iload_n hx hb dX8_come_0 rfl (lv_at hl 1 rfl) ?_
  refine lv_iconst (v := 4) hx hb dX8_come_1 (by decide) ?_
  refine vp_callSi (va_Run.run (va_runS (As := [.int x1, .int 4]) (rest := []) ⟨hx, hb, hml, hown, hts⟩ (c_X8_within l x1 4 _ hw) (va_cwS 2 hts gX8_come_X8_within rfl rfl rfl (by decide +kernel) ⟨Nat.le_of_ble_eq_true rfl, Nat.le_of_ble_eq_true rfl⟩) (psS hN) rfl rfl hl.1 rfl (lv_room (Nat.le_of_ble_eq_true rfl)) dX8_come_2 ⟨Nat.zero_le _, Nat.zero_le _⟩)) (fun r1 hw => ?_)
  refine lv_if_eq (tgt := 28) hx hb dX8_come_5 (by decide) (fun hc => ?_) (fun hc => ?_)
  · have hw := hw.1 hc
    refine lv_iconst (v := (-1)) hx hb dX8_come_28 (by decide) ?_
    exact W.iret (v := (-1)) hx hb hr (fun t ht hW => ⟨⟨(-1), u, rfl, hw, by show va_P D vwCl _ t.heap; rw [ht]; exact hP⟩, hS.F ht⟩) hS.2.2 dX8_come_29
  · have hw := hw.2 hc
    refine lv_aload_n hx hb dX8_come_8 rfl (lv_at hl 0 rfl) ?_
    refine va_get (D := D) (ci := 8) (v := .ref (q 2)) (C := RX8) (T := TX8) (N := 8) hx hb hts hiX8 hown hK hP 0 rfl rfl 1 (by decide) hf19 (fun _ h9 => h9) rfl dX8_come_9 ?_
    refine lv_iload_n hx hb dX8_come_12 rfl (lv_at hl 2 rfl) ?_
    refine vp_callSi (va_Run.run (va_runV (As := [.int x2]) (rest := []) ⟨hx, hb, hml, hown, hts⟩ (c_X5_has l D q cI cJ cZ u x2 _ hw) (cwV 1 hts gX8_come_X5_has rfl rfl rfl (by decide +kernel) ⟨Nat.le_of_ble_eq_true rfl, Nat.le_of_ble_eq_true rfl⟩) (pvR (va_recv hK hP (ci := 5) (q0 := 2) (q := (RX5, TX5, 6)) rfl rfl) hK hP hN) rfl rfl hl.1 rfl (lv_room (Nat.le_of_ble_eq_true rfl)) dX8_come_13 ⟨Nat.zero_le _, Nat.zero_le _⟩)) (fun r2 hw => ?_)
    refine lv_if_eq (tgt := 28) hx hb dX8_come_16 (by decide) (fun hc => ?_) (fun hc => ?_)
    · have hw := hw.1 hc
      refine lv_iconst (v := (-1)) hx hb dX8_come_28 (by decide) ?_
      exact W.iret (v := (-1)) hx hb hr (fun t ht hW => ⟨⟨(-1), u, rfl, hw, by show va_P D vwCl _ t.heap; rw [ht]; exact hP⟩, hS.F ht⟩) hS.2.2 dX8_come_29
    · have hw := hw.2 hc
      refine lv_iload_n hx hb dX8_come_19 rfl (lv_at hl 3 rfl) ?_
      refine lv_bipush (v := 8) hx hb dX8_come_20 (by decide) ?_
      refine vp_callSi (va_Run.run (va_runS (As := [.int x3, .int 8]) (rest := []) ⟨hx, hb, hml, hown, hts⟩ (c_X8_within l x3 8 _ hw) (va_cwS 2 hts gX8_come_X8_within rfl rfl rfl (by decide +kernel) ⟨Nat.le_of_ble_eq_true rfl, Nat.le_of_ble_eq_true rfl⟩) (psS hN) rfl rfl hl.1 rfl (lv_room (Nat.le_of_ble_eq_true rfl)) dX8_come_22 ⟨Nat.zero_le _, Nat.zero_le _⟩)) (fun r3 hw => ?_)
      refine lv_if_ne (tgt := 30) hx hb dX8_come_25 (by decide) (fun hc => ?_) (fun hc => ?_)
      · have hw := hw.1 hc
        refine lv_aload_n hx hb dX8_come_30 rfl (lv_at hl 0 rfl) ?_
        refine va_get (D := D) (ci := 8) (v := .ref (q 5)) (C := RX8) (T := TX8) (N := 8) hx hb hts hiX8 hown hK hP 0 rfl rfl 4 (by decide) hf42 (fun _ h9 => h9) rfl dX8_come_31 ?_
        refine lv_iload_n hx hb dX8_come_34 rfl (lv_at hl 1 rfl) ?_
        refine lv_aload_n hx hb dX8_come_35 rfl (lv_at hl 0 rfl) ?_
        refine va_get (D := D) (ci := 8) (v := .ref (q 2)) (C := RX8) (T := TX8) (N := 8) hx hb hts hiX8 hown hK hP 0 rfl rfl 1 (by decide) hf19 (fun _ h9 => h9) rfl dX8_come_36 ?_
        refine va_getN (D := D) (ci := 5) (v := .ref (q 14)) (C := RX5) (T := TX5) (N := 6) hx hb hts hiX5 hown hK hP 2 rfl rfl 2 (by decide) (va_Nw.use rfl (nf_RX8_115 hN)) (fun _ h9 => h9) rfl dX8_come_39 ?_
        refine lv_aload_n hx hb dX8_come_42 rfl (lv_at hl 0 rfl) ?_
        refine va_get (D := D) (ci := 8) (v := .ref (q 3)) (C := RX8) (T := TX8) (N := 8) hx hb hts hiX8 hown hK hP 0 rfl rfl 2 (by decide) hf26 (fun _ h9 => h9) rfl dX8_come_43 ?_
        refine va_getN (D := D) (ci := 3) (v := .long (u.2 6 0)) (C := RX3) (T := TX3) (N := 9) hx hb hts hiX3 hown hK hP 3 rfl rfl 4 (by decide) (va_Nw.use rfl (nf_RX8_122 hN)) (fun _ h9 => h9) rfl dX8_come_46 ?_
        refine cMv (sh_wX q cI cJ cZ) (u := u) (va_runV (As := [.int x1, .ref (q 14), .long (u.2 6 0)]) (rest := []) ⟨hx, hb, hml, hown, hts⟩ (c_X2_run_c14 l D q cI cJ cZ _ u x1 (u.2 6 0) _ hw) (cwV 3 hts gX8_come_X2_run rfl rfl rfl (by decide +kernel) ⟨Nat.le_of_ble_eq_true rfl, Nat.le_of_ble_eq_true rfl⟩) (pvM (va_recv hK hP (ci := 2) (q0 := 5) (q := (RX2, TX2, 5)) rfl rfl) hK hP hD hN) rfl rfl hl.1 rfl (lv_room (Nat.le_of_ble_eq_true rfl)) dX8_come_49 ⟨Nat.zero_le _, Nat.zero_le _⟩) hA hD hS (fun u4 H locs hw hP hD hS => ?_)
        refine lv_aload_n hx hb dX8_come_52 rfl (lv_at hl 0 rfl) ?_
        refine va_get (D := D) (ci := 8) (v := .ref (q 5)) (C := RX8) (T := TX8) (N := 8) hx hb hts hiX8 hown hK hP 0 rfl rfl 4 (by decide) hf42 (fun _ h9 => h9) rfl dX8_come_53 ?_
        refine va_getN (D := D) (ci := 2) (v := .ref (q 27)) (C := RX2) (T := TX2) (N := 5) hx hb hts hiX2 hown hK hP 5 rfl rfl 3 (by decide) (va_Nw.use rfl (nf_RX8_158 hN)) (fun _ h9 => h9) rfl dX8_come_56 ?_
        refine lv_iload_n hx hb dX8_come_59 rfl (lv_at hl 2 rfl) ?_
        obtain ⟨hin, hw⟩ := hw
        refine va_lald hx hb hK hP 27 1 rfl rfl hin dX8_come_60 ?_
        refine lv_iload_n hx hb dX8_come_61 rfl (lv_at hl 3 rfl) ?_
        refine lv_iconst (v := 0) hx hb dX8_come_62 (by decide) ?_
        refine vp_callSi (va_Run.run (va_runS (As := [.int x3, .int 0]) (rest := [.long (u4.2 4 x2.toNatClampNeg)]) ⟨hx, hb, hml, hown, hts⟩ (c_X8_pairOf l x3 0 _ hw) (va_cwS 2 hts gX8_come_X8_pairOf rfl rfl rfl (by decide +kernel) ⟨Nat.le_of_ble_eq_true rfl, Nat.le_of_ble_eq_true rfl⟩) (psS hN) rfl rfl hl.1 rfl (lv_room (Nat.le_of_ble_eq_true rfl)) dX8_come_63 ⟨Nat.zero_le _, Nat.zero_le _⟩)) (fun r5 hw => ?_)
        refine lv_lushr (v := jushr (u4.2 4 x2.toNatClampNeg) r5) hx hb dX8_come_66 rfl ?_
        refine lv_l2i (v := (jushr (u4.2 4 x2.toNatClampNeg) r5).toInt32) hx hb dX8_come_67 rfl ?_
        refine lv_sipush (v := 255) hx hb dX8_come_68 (by decide) ?_
        refine lv_iand hx hb dX8_come_71 ?_
        exact W.iret (v := ((jushr (u4.2 4 x2.toNatClampNeg) r5).toInt32) &&& 255) hx hb hr (fun t ht hW => ⟨⟨((jushr (u4.2 4 x2.toNatClampNeg) r5).toInt32) &&& 255, u4, rfl, hw, by show va_P D vwCl _ t.heap; rw [ht]; exact hP⟩, hS.F ht⟩) hS.2.2 dX8_come_72
      · have hw := hw.2 hc
        refine lv_iconst (v := (-1)) hx hb dX8_come_28 (by decide) ?_
        exact W.iret (v := (-1)) hx hb hr (fun t ht hW => ⟨⟨(-1), u, rfl, hw, by show va_P D vwCl _ t.heap; rw [ht]; exact hP⟩, hS.F ht⟩) hS.2.2 dX8_come_29
set_option maxHeartbeats 4000000 in
set_option maxRecDepth 100000 in
theorem c_X9_isShipping (l : Launch) (x0 : Int32) (post : Int32 → Prop) (hw : wp_X9_isShipping x0 post) : Met l yX9_isShipping wsX9_isShipping rm_X9_isShipping (va_Pc [.int x0] NW) (vp_Si post) 0 0 (fun _ => False) := by
  refine Met.ofW (cc := cX9_isShipping) (maxL := 1) (ret := (some .boolean)) (by decide) rfl ?_
  intro p e s m args below meth c s₁ B hml hv
  obtain ⟨hargs, hN⟩ := hv
  have hx := B.exec
  have hb := B.bytes
  have hr := B.returns
  have hts := atoms_spec (ws := wsX9_isShipping) B.pre
  have hown : s.vm.findClass RX9 = some m.cls := findClass_of_methodNamed B.named
  have hlocks := B.notSynchronized
  have hent := lg_entry_eq m ([.int x0]) 1
  rw [← hargs] at hent
  rw [hent]
  have hl := lv_entry ([.int x0]) (n := 1) (Nat.le_of_ble_eq_true rfl)
  generalize (lg_sl ([.int x0]) ++ List.replicate (1 - (lg_sl ([.int x0])).length) Slot.unset).toArray = ls at hl ⊢
  have hl : lv_has ls 1 [(0, .int x0)] := hl
  unfold wp_X9_isShipping at hw
  refine lv_iload_n hx hb dX9_isShipping_0 rfl (lv_at hl 0 rfl) ?_
  refine lv_iconst (v := 0) hx hb dX9_isShipping_1 (by decide) ?_
  refine lv_iconst (v := 3) hx hb dX9_isShipping_2 (by decide) ?_
  refine vp_callSi (va_Run.run (va_runS (As := [.int x0, .int 0, .int 3]) (rest := []) ⟨hx, hb, hml, hown, hts⟩ (c_X9_lies l x0 0 3 _ hw) (va_cwS 3 hts gX9_isShipping_X9_lies rfl rfl rfl (by decide +kernel) ⟨Nat.le_of_ble_eq_true rfl, Nat.le_of_ble_eq_true rfl⟩) (psS hN) rfl rfl hl.1 rfl (lv_room (Nat.le_of_ble_eq_true rfl)) dX9_isShipping_3 ⟨Nat.zero_le _, Nat.zero_le _⟩)) (fun r1 hw => ?_)
  obtain ⟨hn, hw⟩ := hw
  exact W.zret (v := r1) hx hb hr hn (fun t ht hW => ⟨r1, rfl, hw, ht⟩) (fun _ h => by cases h) dX9_isShipping_6
