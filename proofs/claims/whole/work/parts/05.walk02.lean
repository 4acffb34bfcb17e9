set_option maxHeartbeats 4000000 in
set_option maxRecDepth 100000 in
theorem c_X9_part (l : Launch) (D : va_G) (q : Nat → Nat) (cI cJ cZ : ClassId) (sz : Nat) (u : WU) (x1 : Int32) (x2 : Int32) (x3 : Int32) (post : Int32 → WU → Prop) (hw : wp_X9_part x1 x2 x3 u post) : Met l yX9_part wsX9_part rm_X9_part (va_Pc [.ref (q 0), .int x1, .int x2, .int x3] (MW D (ty3 cI cJ cZ) (wM q cI cJ cZ u) sz)) (va_Qi post (fun u' t => va_P D vwCl (wM q cI cJ cZ u') t.heap) (va_A (wM q cI cJ cZ u00) sz)) 0 0 (va_A (wM q cI cJ cZ u00) sz) := by
  refine Met.ofW (cc := cX9_part) (maxL := 4) (ret := (some .int)) (by decide) rfl ?_
  intro p e s m args below meth c s₁ B hml hv
  obtain ⟨hargs, hsz, hP, hK, hD0, hN⟩ := hv
  have hx := B.exec
  have hb := B.bytes
  have hr := B.returns
  have hts := atoms_spec (ws := wsX9_part) B.pre
  have hown : s.vm.findClass RX9 = some m.cls := findClass_of_methodNamed B.named
  have hlocks := B.notSynchronized
  subst hsz
  have hD := shw_self (sz := s.heap.size) (sh_wM q cI cJ cZ) hD0
  have hA : ∀ a : Nat, s.heap.size ≤ a → va_A (wM q cI cJ cZ u00) s.heap.size a := fun _ h => Or.inr h
  have hS : va_S (va_A (wM q cI cJ cZ u00) s.heap.size) s.heap s.heap [] := va_S.rf
  have hiX9 : ∀ w ∈ u_ws RX9 TX9 30, w ∈ wsX9_part := by decide +kernel
  have hf20 := hts (.fieldLink RX9 20 "TermsDeskModel" "choice" "[I") (by decide +kernel)
  have hf23 := hts (.fieldLink RX9 23 "TermsDeskModel" "many" "[I") (by decide +kernel)
  have hf87 := hts (.fieldLink RX9 87 "TermsDeskModel" "parts" "I") (by decide +kernel)
  have J136 : ∀ (z1 : Int32) (z2 : Int32) (u : WU) (H : Heap) (locs : List Loc), wp_X9_part_J136 z1 z2 u post → va_P D vwCl (wM q cI cJ cZ u) H → va_D (va_A (wM q cI cJ cZ u00) s.heap.size) (wM q cI cJ cZ u) → va_S (va_A (wM q cI cJ cZ u00) s.heap.size) s.heap H locs → ∀ ls : Array Slot, lv_has ls 4 [(0, .ref (q 0))] → W p l e (headSpec wsX9_part rm_X9_part).room s m args below meth c H locs 0 0 (MQ below (va_Qi post (fun u' t => va_P D vwCl (wM q cI cJ cZ u') t.heap) (va_A (wM q cI cJ cZ u00) s.heap.size)) args s 0 0 (va_A (wM q cI cJ cZ u00) s.heap.size)) (F0 m 136 ls [.int z2, .int z1, .ref (q 5)]) := by
    intro z1 z2 u H locs hw hP hD hS ls hl 
    unfold wp_X9_part_J136 at hw
    obtain ⟨hin, hw⟩ := hw
    refine sIast (w := wM q cI cJ cZ) hx hb hK hP hD hS 5 0 3 rfl rfl (wMa_5 q cI cJ cZ u) hin dX9_part_136 (fun u6 H locs eu6 hP hD hS => ?_)
    have hw := hw u6 eu6
    refine lv_aload_n hx hb dX9_part_137 rfl (lv_at hl 0 rfl) ?_
    refine lv_dup hx hb dX9_part_138 rfl ?_
    refine va_get (D := D) (ci := 9) (v := .int (u6.1 21 0)) (C := RX9) (T := TX9) (N := 30) hx hb hts hiX9 hown hK hP 0 rfl rfl 3 (by decide) hf87 (fun _ h9 => h9) rfl dX9_part_139 ?_
    refine lv_iconst (v := 1) hx hb dX9_part_142 (by decide) ?_
    refine lv_iadd hx hb dX9_part_143 ?_
    refine va_put (D := D) (ci := 9) (v := .int ((u6.1 21 0) + 1)) (ty := .int) (C := RX9) (T := TX9) (N := 30) hx hb hts hiX9 tyX9 tyX9_ok nmX9 hown hK hP hD hS 0 rfl rfl 3 (by decide) hf87 (fun _ h9 => h9) rfl (by decide +kernel) rfl rfl (Nat.le_of_ble_eq_true rfl) dX9_part_144 (sPut (w := wM q cI cJ cZ) (uu := uI u6 21 (fun _ => (u6.1 21 0) + 1)) (wMs_X9_3 q cI cJ cZ u6 _) (fun u7 H locs eu7 hP hD hS => ?_))
    have hw := hw u7 eu7
    refine lv_aload_n hx hb dX9_part_147 rfl (lv_at hl 0 rfl) ?_
    refine va_get (D := D) (ci := 9) (v := .int (u7.1 21 0)) (C := RX9) (T := TX9) (N := 30) hx hb hts hiX9 hown hK hP 0 rfl rfl 3 (by decide) hf87 (fun _ h9 => h9) rfl dX9_part_148 ?_
    refine lv_iconst (v := 1) hx hb dX9_part_151 (by decide) ?_
    refine lv_isub hx hb dX9_part_152 ?_
    exact W.iret (v := (u7.1 21 0) - 1) hx hb hr (fun t ht hW => ⟨⟨(u7.1 21 0) - 1, u7, rfl, hw, by show va_P D vwCl _ t.heap; rw [ht]; exact hP⟩, hS.F ht⟩) hS.2.2 dX9_part_153
  have J69 : ∀ (x1 : Int32) (x2 : Int32) (x3 : Int32) (u : WU) (H : Heap) (locs : List Loc), wp_X9_part_J69 x1 x2 x3 u post → va_P D vwCl (wM q cI cJ cZ u) H → va_D (va_A (wM q cI cJ cZ u00) s.heap.size) (wM q cI cJ cZ u) → va_S (va_A (wM q cI cJ cZ u00) s.heap.size) s.heap H locs → ∀ ls : Array Slot, lv_has ls 4 [(0, .ref (q 0)), (1, .int x1), (2, .int x2), (3, .int x3)] → W p l e (headSpec wsX9_part rm_X9_part).room s m args below meth c H locs 0 0 (MQ below (va_Qi post (fun u' t => va_P D vwCl (wM q cI cJ cZ u') t.heap) (va_A (wM q cI cJ cZ u00) s.heap.size)) args s 0 0 (va_A (wM q cI cJ cZ u00) s.heap.size)) (F0 m 69 ls []) := by
    intro x1 x2 x3 u H locs hw hP hD hS ls hl 
    unfold wp_X9_part_J69 at hw
    refine lv_aload_n hx hb dX9_part_69 rfl (lv_at hl 0 rfl) ?_
    refine va_get (D := D) (ci := 9) (v := .ref (q 4)) (C := RX9) (T := TX9) (N := 30) hx hb hts hiX9 hown hK hP 0 rfl rfl 5 (by decide) hf20 (fun _ h9 => h9) rfl dX9_part_70 ?_
    refine lv_iconst (v := 3) hx hb dX9_part_73 (by decide) ?_
    refine lv_aload_n hx hb dX9_part_74 rfl (lv_at hl 0 rfl) ?_
    refine va_get (D := D) (ci := 9) (v := .int (u.1 21 0)) (C := RX9) (T := TX9) (N := 30) hx hb hts hiX9 hown hK hP 0 rfl rfl 3 (by decide) hf87 (fun _ h9 => h9) rfl dX9_part_75 ?_
    refine lv_imul hx hb dX9_part_78 ?_
    refine lv_iload_n hx hb dX9_part_79 rfl (lv_at hl 1 rfl) ?_
    obtain ⟨hin, hw⟩ := hw
    refine sIast (w := wM q cI cJ cZ) hx hb hK hP hD hS 4 0 2 rfl rfl (wMa_4 q cI cJ cZ u) hin dX9_part_80 (fun u3 H locs eu3 hP hD hS => ?_)
    have hw := hw u3 eu3
    refine lv_aload_n hx hb dX9_part_81 rfl (lv_at hl 0 rfl) ?_
    refine va_get (D := D) (ci := 9) (v := .ref (q 4)) (C := RX9) (T := TX9) (N := 30) hx hb hts hiX9 hown hK hP 0 rfl rfl 5 (by decide) hf20 (fun _ h9 => h9) rfl dX9_part_82 ?_
    refine lv_iconst (v := 3) hx hb dX9_part_85 (by decide) ?_
    refine lv_aload_n hx hb dX9_part_86 rfl (lv_at hl 0 rfl) ?_
    refine va_get (D := D) (ci := 9) (v := .int (u3.1 21 0)) (C := RX9) (T := TX9) (N := 30) hx hb hts hiX9 hown hK hP 0 rfl rfl 3 (by decide) hf87 (fun _ h9 => h9) rfl dX9_part_87 ?_
    refine lv_imul hx hb dX9_part_90 ?_
    refine lv_iconst (v := 1) hx hb dX9_part_91 (by decide) ?_
    refine lv_iadd hx hb dX9_part_92 ?_
    refine lv_iload_n hx hb dX9_part_93 rfl (lv_at hl 2 rfl) ?_
    obtain ⟨hin, hw⟩ := hw
    refine sIast (w := wM q cI cJ cZ) hx hb hK hP hD hS 4 0 2 rfl rfl (wMa_4 q cI cJ cZ u3) hin dX9_part_94 (fun u4 H locs eu4 hP hD hS => ?_)
    have hw := hw u4 eu4
    refine lv_aload_n hx hb dX9_part_95 rfl (lv_at hl 0 rfl) ?_
    refine va_get (D := D) (ci := 9) (v := .ref (q 4)) (C := RX9) (T := TX9) (N := 30) hx hb hts hiX9 hown hK hP 0 rfl rfl 5 (by decide) hf20 (fun _ h9 => h9) rfl dX9_part_96 ?_
    refine lv_iconst (v := 3) hx hb dX9_part_99 (by decide) ?_
    refine lv_aload_n hx hb dX9_part_100 rfl (lv_at hl 0 rfl) ?_
    refine va_get (D := D) (ci := 9) (v := .int (u4.1 21 0)) (C := RX9) (T := TX9) (N := 30) hx hb hts hiX9 hown hK hP 0 rfl rfl 3 (by decide) hf87 (fun _ h9 => h9) rfl dX9_part_101 ?_
    refine lv_imul hx hb dX9_part_104 ?_
    refine lv_iconst (v := 2) hx hb dX9_part_105 (by decide) ?_
    refine lv_iadd hx hb dX9_part_106 ?_
    refine lv_iload_n hx hb dX9_part_107 rfl (lv_at hl 3 rfl) ?_
    obtain ⟨hin, hw⟩ := hw
    refine sIast (w := wM q cI cJ cZ) hx hb hK hP hD hS 4 0 2 rfl rfl (wMa_4 q cI cJ cZ u4) hin dX9_part_108 (fun u5 H locs eu5 hP hD hS => ?_)
    have hw := hw u5 eu5
    refine lv_aload_n hx hb dX9_part_109 rfl (lv_at hl 0 rfl) ?_
    refine va_get (D := D) (ci := 9) (v := .ref (q 5)) (C := RX9) (T := TX9) (N := 30) hx hb hts hiX9 hown hK hP 0 rfl rfl 6 (by decide) hf23 (fun _ h9 => h9) rfl dX9_part_110 ?_
    refine lv_aload_n hx hb dX9_part_113 rfl (lv_at hl 0 rfl) ?_
    refine va_get (D := D) (ci := 9) (v := .int (u5.1 21 0)) (C := RX9) (T := TX9) (N := 30) hx hb hts hiX9 hown hK hP 0 rfl rfl 3 (by decide) hf87 (fun _ h9 => h9) rfl dX9_part_114 ?_
    refine lv_iload_n hx hb dX9_part_117 rfl (lv_at hl 2 rfl) ?_
    refine lv_iconst (v := (-1)) hx hb dX9_part_118 (by decide) ?_
    refine lv_icmp_ne (tgt := 126) hx hb dX9_part_119 (by decide) (fun hc => ?_) (fun hc => ?_)
    · have hw := hw.1 hc
      refine lv_iload_n hx hb dX9_part_126 rfl (lv_at hl 3 rfl) ?_
      refine lv_iconst (v := (-1)) hx hb dX9_part_127 (by decide) ?_
      refine lv_icmp_ne (tgt := 135) hx hb dX9_part_128 (by decide) (fun hc => ?_) (fun hc => ?_)
      · have hw := hw.1 hc
        refine lv_iconst (v := 3) hx hb dX9_part_135 (by decide) ?_
        refine J136 (u5.1 21 0) 3 u5 _ _ hw hP hD hS ls (lv_sub hl [0] rfl)
      · have hw := hw.2 hc
        refine lv_iconst (v := 2) hx hb dX9_part_131 (by decide) ?_
        refine lv_goto (tgt := 136) hx hb dX9_part_132 (by decide) ?_
        refine J136 (u5.1 21 0) 2 u5 _ _ hw hP hD hS ls (lv_sub hl [0] rfl)
    · have hw := hw.2 hc
      refine lv_iconst (v := 1) hx hb dX9_part_122 (by decide) ?_
      refine lv_goto (tgt := 136) hx hb dX9_part_123 (by decide) ?_
      refine J136 (u5.1 21 0) 1 u5 _ _ hw hP hD hS ls (lv_sub hl [0] rfl)
  have J45 : ∀ (x1 : Int32) (x2 : Int32) (x3 : Int32) (u : WU) (H : Heap) (locs : List Loc), wp_X9_part_J45 x1 x2 x3 u post → va_P D vwCl (wM q cI cJ cZ u) H → va_D (va_A (wM q cI cJ cZ u00) s.heap.size) (wM q cI cJ cZ u) → va_S (va_A (wM q cI cJ cZ u00) s.heap.size) s.heap H locs → ∀ ls : Array Slot, lv_has ls 4 [(0, .ref (q 0)), (1, .int x1), (2, .int x2), (3, .int x3)] → W p l e (headSpec wsX9_part rm_X9_part).room s m args below meth c H locs 0 0 (MQ below (va_Qi post (fun u' t => va_P D vwCl (wM q cI cJ cZ u') t.heap) (va_A (wM q cI cJ cZ u00) s.heap.size)) args s 0 0 (va_A (wM q cI cJ cZ u00) s.heap.size)) (F0 m 45 ls []) := by
    intro x1 x2 x3 u H locs hw hP hD hS ls hl 
    unfold wp_X9_part_J45 at hw
    refine lv_iload_n hx hb dX9_part_45 rfl (lv_at hl 3 rfl) ?_
    refine lv_iconst (v := (-1)) hx hb dX9_part_46 (by decide) ?_
    refine lv_icmp_eq (tgt := 69) hx hb dX9_part_47 (by decide) (fun hc => ?_) (fun hc => ?_)
    · have hw := hw.1 hc
      refine J69 x1 x2 x3 u _ _ hw hP hD hS ls (lv_sub hl [0, 1, 2, 3] rfl)
    · have hw := hw.2 hc
      refine lv_iload_n hx hb dX9_part_50 rfl (lv_at hl 3 rfl) ?_
      refine vp_callSi (va_Run.run (va_runS (As := [.int x3]) (rest := []) ⟨hx, hb, hml, hown, hts⟩ (c_X9_isLicence l x3 _ hw) (va_cwS 1 hts gX9_part_X9_isLicence rfl rfl rfl (by decide +kernel) ⟨Nat.le_of_ble_eq_true rfl, Nat.le_of_ble_eq_true rfl⟩) (psS hN) rfl rfl hl.1 rfl (lv_room (Nat.le_of_ble_eq_true rfl)) dX9_part_51 ⟨Nat.zero_le _, Nat.zero_le _⟩)) (fun r2 hw => ?_)
      refine lv_if_eq (tgt := 67) hx hb dX9_part_54 (by decide) (fun hc => ?_) (fun hc => ?_)
      · have hw := hw.1 hc
        refine lv_iconst (v := (-1)) hx hb dX9_part_67 (by decide) ?_
        exact W.iret (v := (-1)) hx hb hr (fun t ht hW => ⟨⟨(-1), u, rfl, hw, by show va_P D vwCl _ t.heap; rw [ht]; exact hP⟩, hS.F ht⟩) hS.2.2 dX9_part_68
      · have hw := hw.2 hc
        refine lv_iload_n hx hb dX9_part_57 rfl (lv_at hl 3 rfl) ?_
        refine lv_iload_n hx hb dX9_part_58 rfl (lv_at hl 1 rfl) ?_
        refine lv_icmp_eq (tgt := 67) hx hb dX9_part_59 (by decide) (fun hc => ?_) (fun hc => ?_)
        · have hw := hw.1 hc
          refine lv_iconst (v := (-1)) hx hb dX9_part_67 (by decide) ?_
          exact W.iret (v := (-1)) hx hb hr (fun t ht hW => ⟨⟨(-1), u, rfl, hw, by show va_P D vwCl _ t.heap; rw [ht]; exact hP⟩, hS.F ht⟩) hS.2.2 dX9_part_68
        · have hw := hw.2 hc
          refine lv_iload_n hx hb dX9_part_62 rfl (lv_at hl 3 rfl) ?_
          refine lv_iload_n hx hb dX9_part_63 rfl (lv_at hl 2 rfl) ?_
          refine lv_icmp_ne (tgt := 69) hx hb dX9_part_64 (by decide) (fun hc => ?_) (fun hc => ?_)
          · have hw := hw.1 hc
            refine J69 x1 x2 x3 u _ _ hw hP hD hS ls (lv_sub hl [0, 1, 2, 3] rfl)
          · have hw := hw.2 hc
            refine lv_iconst (v := (-1)) hx hb dX9_part_67 (by decide) ?_
            exact W.iret (v := (-1)) hx hb hr (fun t ht hW => ⟨⟨(-1), u, rfl, hw, by show va_P D vwCl _ t.heap; rw [ht]; exact hP⟩, hS.F ht⟩) hS.2.2 dX9_part_68
  have J28 : ∀ (x1 : Int32) (x2 : Int32) (x3 : Int32) (u : WU) (H : Heap) (locs : List Loc), wp_X9_part_J28 x1 x2 x3 u post → va_P D vwCl (wM q cI cJ cZ u) H → va_D (va_A (wM q cI cJ cZ u00) s.heap.size) (wM q cI cJ cZ u) → va_S (va_A (wM q cI cJ cZ u00) s.heap.size) s.heap H locs → ∀ ls : Array Slot, lv_has ls 4 [(0, .ref (q 0)), (1, .int x1), (2, .int x2), (3, .int x3)] → W p l e (headSpec wsX9_part rm_X9_part).room s m args below meth c H locs 0 0 (MQ below (va_Qi post (fun u' t => va_P D vwCl (wM q cI cJ cZ u') t.heap) (va_A (wM q cI cJ cZ u00) s.heap.size)) args s 0 0 (va_A (wM q cI cJ cZ u00) s.heap.size)) (F0 m 28 ls []) := by
    intro x1 x2 x3 u H locs hw hP hD hS ls hl 
    unfold wp_X9_part_J28 at hw
    refine lv_iload_n hx hb dX9_part_28 rfl (lv_at hl 2 rfl) ?_
    refine lv_iconst (v := (-1)) hx hb dX9_part_29 (by decide) ?_
    refine lv_icmp_eq (tgt := 45) hx hb dX9_part_30 (by decide) (fun hc => ?_) (fun hc => ?_)
    · have hw := hw.1 hc
      refine J45 x1 x2 x3 u _ _ hw hP hD hS ls (lv_sub hl [0, 1, 2, 3] rfl)
    · have hw := hw.2 hc
      refine lv_iload_n hx hb dX9_part_33 rfl (lv_at hl 2 rfl) ?_
      refine vp_callSi (va_Run.run (va_runS (As := [.int x2]) (rest := []) ⟨hx, hb, hml, hown, hts⟩ (c_X9_isLicence l x2 _ hw) (va_cwS 1 hts gX9_part_X9_isLicence rfl rfl rfl (by decide +kernel) ⟨Nat.le_of_ble_eq_true rfl, Nat.le_of_ble_eq_true rfl⟩) (psS hN) rfl rfl hl.1 rfl (lv_room (Nat.le_of_ble_eq_true rfl)) dX9_part_34 ⟨Nat.zero_le _, Nat.zero_le _⟩)) (fun r1 hw => ?_)
      refine lv_if_eq (tgt := 67) hx hb dX9_part_37 (by decide) (fun hc => ?_) (fun hc => ?_)
      · have hw := hw.1 hc
        refine lv_iconst (v := (-1)) hx hb dX9_part_67 (by decide) ?_
        exact W.iret (v := (-1)) hx hb hr (fun t ht hW => ⟨⟨(-1), u, rfl, hw, by show va_P D vwCl _ t.heap; rw [ht]; exact hP⟩, hS.F ht⟩) hS.2.2 dX9_part_68
      · have hw := hw.2 hc
        refine lv_iload_n hx hb dX9_part_40 rfl (lv_at hl 2 rfl) ?_
        refine lv_iload_n hx hb dX9_part_41 rfl (lv_at hl 1 rfl) ?_
        refine lv_icmp_eq (tgt := 67) hx hb dX9_part_42 (by decide) (fun hc => ?_) (fun hc => ?_)
        · have hw := hw.1 hc
          refine lv_iconst (v := (-1)) hx hb dX9_part_67 (by decide) ?_
          exact W.iret (v := (-1)) hx hb hr (fun t ht hW => ⟨⟨(-1), u, rfl, hw, by show va_P D vwCl _ t.heap; rw [ht]; exact hP⟩, hS.F ht⟩) hS.2.2 dX9_part_68
        · have hw := hw.2 hc
          refine J45 x1 x2 x3 u _ _ hw hP hD hS ls (lv_sub hl [0, 1, 2, 3] rfl)
  have hent := lg_entry_eq m ([.ref (q 0), .int x1, .int x2, .int x3]) 4
  rw [← hargs] at hent
  rw [hent]
  have hl := lv_entry ([.ref (q 0), .int x1, .int x2, .int x3]) (n := 4) (Nat.le_of_ble_eq_true rfl)
  generalize (lg_sl ([.ref (q 0), .int x1, .int x2, .int x3]) ++ List.replicate (4 - (lg_sl ([.ref (q 0), .int x1, .int x2, .int x3])).length) Slot.unset).toArray = ls at hl ⊢
  have hl : lv_has ls 4 [(0, .ref (q 0)), (1, .int x1), (2, .int x2), (3, .int x3)] := hl
  unfold wp_X9_part at hw
  refine lv_aload_n hx hb dX9_part_0 rfl (lv_at hl 0 rfl) ?_
  refine va_get (D := D) (ci := 9) (v := .int (u.1 21 0)) (C := RX9) (T := TX9) (N := 30) hx hb hts hiX9 hown hK hP 0 rfl rfl 3 (by decide) hf87 (fun _ h9 => h9) rfl dX9_part_1 ?_
  refine lv_bipush (v := 24) hx hb dX9_part_4 (by decide) ?_
  refine lv_icmp_eq (tgt := 26) hx hb dX9_part_6 (by decide) (fun hc => ?_) (fun hc => ?_)
  · have hw := hw.1 hc
    refine lv_iconst (v := (-1)) hx hb dX9_part_26 (by decide) ?_
    exact W.iret (v := (-1)) hx hb hr (fun t ht hW => ⟨⟨(-1), u, rfl, hw, by show va_P D vwCl _ t.heap; rw [ht]; exact hP⟩, hS.F ht⟩) hS.2.2 dX9_part_27
  · have hw := hw.2 hc
    refine lv_iload_n hx hb dX9_part_9 rfl (lv_at hl 1 rfl) ?_
    refine vp_callSi (va_Run.run (va_runS (As := [.int x1]) (rest := []) ⟨hx, hb, hml, hown, hts⟩ (c_X9_isLicence l x1 _ hw) (va_cwS 1 hts gX9_part_X9_isLicence rfl rfl rfl (by decide +kernel) ⟨Nat.le_of_ble_eq_true rfl, Nat.le_of_ble_eq_true rfl⟩) (psS hN) rfl rfl hl.1 rfl (lv_room (Nat.le_of_ble_eq_true rfl)) dX9_part_10 ⟨Nat.zero_le _, Nat.zero_le _⟩)) (fun r8 hw => ?_)
    refine lv_if_eq (tgt := 26) hx hb dX9_part_13 (by decide) (fun hc => ?_) (fun hc => ?_)
    · have hw := hw.1 hc
      refine lv_iconst (v := (-1)) hx hb dX9_part_26 (by decide) ?_
      exact W.iret (v := (-1)) hx hb hr (fun t ht hW => ⟨⟨(-1), u, rfl, hw, by show va_P D vwCl _ t.heap; rw [ht]; exact hP⟩, hS.F ht⟩) hS.2.2 dX9_part_27
    · have hw := hw.2 hc
      refine lv_iload_n hx hb dX9_part_16 rfl (lv_at hl 2 rfl) ?_
      refine lv_iconst (v := (-1)) hx hb dX9_part_17 (by decide) ?_
      refine lv_icmp_ne (tgt := 28) hx hb dX9_part_18 (by decide) (fun hc => ?_) (fun hc => ?_)
      · have hw := hw.1 hc
        refine J28 x1 x2 x3 u _ _ hw hP hD hS ls (lv_sub hl [0, 1, 2, 3] rfl)
      · have hw := hw.2 hc
        refine lv_iload_n hx hb dX9_part_21 rfl (lv_at hl 3 rfl) ?_
        refine lv_iconst (v := (-1)) hx hb dX9_part_22 (by decide) ?_
        refine lv_icmp_eq (tgt := 28) hx hb dX9_part_23 (by decide) (fun hc => ?_) (fun hc => ?_)
        · have hw := hw.1 hc
          refine J28 x1 x2 x3 u _ _ hw hP hD hS ls (lv_sub hl [0, 1, 2, 3] rfl)
        · have hw := hw.2 hc
          refine lv_iconst (v := (-1)) hx hb dX9_part_26 (by decide) ?_
          exact W.iret (v := (-1)) hx hb hr (fun t ht hW => ⟨⟨(-1), u, rfl, hw, by show va_P D vwCl _ t.heap; rw [ht]; exact hP⟩, hS.F ht⟩) hS.2.2 dX9_part_27
set_option maxHeartbeats 4000000 in
set_option maxRecDepth 100000 in
theorem c_X5_has (l : Launch) (D : va_G) (q : Nat → Nat) (cI cJ cZ : ClassId) (u : WU) (x1 : Int32) (post : Int32 → Prop) (hw : wp_X5_has x1 u post) : Met l yX5_has wsX5_has rm_X5_has (va_Pc [.ref (q 2), .int x1] (RW D (ty3 cI cJ cZ) (wX q cI cJ cZ u))) (vp_Si post) 0 0 (fun _ => False) := by
  refine Met.ofW (cc := cX5_has) (maxL := 2) (ret := (some .boolean)) (by decide) rfl ?_
  intro p e s m args below meth c s₁ B hml hv
  obtain ⟨hargs, hP, hK, hN⟩ := hv
  have hx := B.exec
  have hb := B.bytes
  have hr := B.returns
  have hts := atoms_spec (ws := wsX5_has) B.pre
  have hown : s.vm.findClass RX5 = some m.cls := findClass_of_methodNamed B.named
  have hlocks := B.notSynchronized
  have hiX5 : ∀ w ∈ u_ws RX5 TX5 6, w ∈ wsX5_has := by decide +kernel
  have hf25 := hts (.fieldLink RX5 25 "TermsDesk$Parts" "told" "I") (by decide +kernel)
  have hi_RX8 := hts (.initialized RX8) (by decide +kernel)
  have hs_X8_within := hts (.static yX8_within) (by decide +kernel)
  have hent := lg_entry_eq m ([.ref (q 2), .int x1]) 2
  rw [← hargs] at hent
  rw [hent]
  have hl := lv_entry ([.ref (q 2), .int x1]) (n := 2) (Nat.le_of_ble_eq_true rfl)
  generalize (lg_sl ([.ref (q 2), .int x1]) ++ List.replicate (2 - (lg_sl ([.ref (q 2), .int x1])).length) Slot.unset).toArray = ls at hl ⊢
  have hl : lv_has ls 2 [(0, .ref (q 2)), (1, .int x1)] := hl
  unfold wp_X5_has at hw
  refine lv_iload_n hx hb dX5_has_0 rfl (lv_at hl 1 rfl) ?_
  refine lv_aload_n hx hb dX5_has_1 rfl (lv_at hl 0 rfl) ?_
  refine va_get (D := D) (ci := 5) (v := .int (u.1 20 0)) (C := RX5) (T := TX5) (N := 6) hx hb hts hiX5 hown hK hP 2 rfl rfl 4 (by decide) hf25 (fun _ h9 => h9) rfl dX5_has_2 ?_
  refine vp_callSi (va_Run.run (va_runSN (As := [.int x1, .int (u.1 20 0)]) (rest := []) ⟨hx, hb, hml, hown, hts⟩ (c_X8_within l x1 (u.1 20 0) _ hw) ⟨va_cnB 2 hts ggX5_has_X8_within rfl rfl rfl (nm_RX5_29 hN) hi_RX8 (by decide +kernel) ⟨Nat.le_of_ble_eq_true rfl, Nat.le_of_ble_eq_true rfl⟩, hs_X8_within, trivial⟩ (psS hN) rfl rfl hl.1 rfl (lv_room (Nat.le_of_ble_eq_true rfl)) dX5_has_5 ⟨Nat.zero_le _, Nat.zero_le _⟩)) (fun r1 hw => ?_)
  obtain ⟨hn, hw⟩ := hw
  exact W.zret (v := r1) hx hb hr hn (fun t ht hW => ⟨r1, rfl, hw, ht⟩) (fun _ h => by cases h) dX5_has_8
set_option maxHeartbeats 4000000 in
set_option maxRecDepth 100000 in
theorem c_X5_choiceOf (l : Launch) (D : va_G) (q : Nat → Nat) (cI cJ cZ : ClassId) (u : WU) (x1 : Int32) (x2 : Int32) (post : Int32 → Prop) (hw : wp_X5_choiceOf x1 x2 u post) : Met l yX5_choiceOf wsX5_choiceOf rm_X5_choiceOf (va_Pc [.ref (q 2), .int x1, .int x2] (RW D (ty3 cI cJ cZ) (wX q cI cJ cZ u))) (vp_Si post) 0 0 (fun _ => False) := by
  refine Met.ofW (cc := cX5_choiceOf) (maxL := 3) (ret := (some .int)) (by decide) rfl ?_
  intro p e s m args below meth c s₁ B hml hv
  obtain ⟨hargs, hP, hK, hN⟩ := hv
  have hx := B.exec
  have hb := B.bytes
  have hr := B.returns
  have hts := atoms_spec (ws := wsX5_choiceOf) B.pre
  have hown : s.vm.findClass RX5 = some m.cls := findClass_of_methodNamed B.named
  have hlocks := B.notSynchronized
  have hiX5 : ∀ w ∈ u_ws RX5 TX5 6, w ∈ wsX5_choiceOf := by decide +kernel
  have hf9 := hts (.fieldLink RX5 9 "TermsDesk$Parts" "choices" "[I") (by decide +kernel)
  have hent := lg_entry_eq m ([.ref (q 2), .int x1, .int x2]) 3
  rw [← hargs] at hent
  rw [hent]
  have hl := lv_entry ([.ref (q 2), .int x1, .int x2]) (n := 3) (Nat.le_of_ble_eq_true rfl)
  generalize (lg_sl ([.ref (q 2), .int x1, .int x2]) ++ List.replicate (3 - (lg_sl ([.ref (q 2), .int x1, .int x2])).length) Slot.unset).toArray = ls at hl ⊢
  have hl : lv_has ls 3 [(0, .ref (q 2)), (1, .int x1), (2, .int x2)] := hl
  unfold wp_X5_choiceOf at hw
  refine lv_aload_n hx hb dX5_choiceOf_0 rfl (lv_at hl 0 rfl) ?_
  refine va_get (D := D) (ci := 5) (v := .ref (q 12)) (C := RX5) (T := TX5) (N := 6) hx hb hts hiX5 hown hK hP 2 rfl rfl 0 (by decide) hf9 (fun _ h9 => h9) rfl dX5_choiceOf_1 ?_
  refine lv_iload_n hx hb dX5_choiceOf_4 rfl (lv_at hl 1 rfl) ?_
  refine lv_iconst (v := 3) hx hb dX5_choiceOf_5 (by decide) ?_
  refine lv_imul hx hb dX5_choiceOf_6 ?_
  refine lv_iload_n hx hb dX5_choiceOf_7 rfl (lv_at hl 2 rfl) ?_
  refine lv_iadd hx hb dX5_choiceOf_8 ?_
  obtain ⟨hin, hw⟩ := hw
  refine va_iald hx hb hK hP 12 0 rfl rfl hin dX5_choiceOf_9 ?_
  exact W.iret (v := u.1 0 ((x1 * 3) + x2).toNatClampNeg) hx hb hr (fun t ht hW => ⟨u.1 0 ((x1 * 3) + x2).toNatClampNeg, rfl, hw, ht⟩) (fun _ h => by cases h) dX5_choiceOf_10
set_option maxHeartbeats 4000000 in
set_option maxRecDepth 100000 in
theorem c_X8_take (l : Launch) (D : va_G) (q : Nat → Nat) (cI cJ cZ : ClassId) (sz : Nat) (u : WU) (x1 : Int32) (x2 : Int32) (post : Int32 → WU → Prop) (hw : wp_X8_take x1 x2 u post) : Met l yX8_take wsX8_take rm_X8_take (va_Pc [.ref (q 0), .int x1, .int x2] (MW D (ty3 cI cJ cZ) (wX q cI cJ cZ u) sz)) (va_Qi post (fun u' t => va_P D vwCl (wX q cI cJ cZ u') t.heap) (va_A (wX q cI cJ cZ u00) sz)) 0 0 (va_A (wX q cI cJ cZ u00) sz) := by
  refine Met.ofW (cc := cX8_take) (maxL := 4) (ret := (some .boolean)) (by decide) rfl ?_
  intro p e s m args below meth c s₁ B hml hv
  obtain ⟨hargs, hsz, hP, hK, hD0, hN⟩ := hv
  have hx := B.exec
  have hb := B.bytes
  have hr := B.returns
  have hts := atoms_spec (ws := wsX8_take) B.pre
  have hown : s.vm.findClass RX8 = some m.cls := findClass_of_methodNamed B.named
  have hlocks := B.notSynchronized
  subst hsz
  have hD := shw_self (sz := s.heap.size) (sh_wX q cI cJ cZ) hD0
  have hA : ∀ a : Nat, s.heap.size ≤ a → va_A (wX q cI cJ cZ u00) s.heap.size a := fun _ h => Or.inr h
  have hS : va_S (va_A (wX q cI cJ cZ u00) s.heap.size) s.heap s.heap [] := va_S.rf
  have hiX5 : ∀ w ∈ u_ws RX5 TX5 6, w ∈ wsX8_take := by decide +kernel
  have hiX8 : ∀ w ∈ u_ws RX8 TX8 8, w ∈ wsX8_take := by decide +kernel
  have hf19 := hts (.fieldLink RX8 19 "TermsDesk" "parts" "LTermsDesk$Parts;") (by decide +kernel)
  have hent := lg_entry_eq m ([.ref (q 0), .int x1, .int x2]) 4
  rw [← hargs] at hent
  rw [hent]
  have hl := lv_entry ([.ref (q 0), .int x1, .int x2]) (n := 4) (Nat.le_of_ble_eq_true rfl)
  generalize (lg_sl ([.ref (q 0), .int x1, .int x2]) ++ List.replicate (4 - (lg_sl ([.ref (q 0), .int x1, .int x2])).length) Slot.unset).toArray = ls at hl ⊢
  have hl : lv_has ls 4 [(0, .ref (q 0)), (1, .int x1), (2, .int x2)] := hl
  unfold wp_X8_take at hw
  refine lv_aload_n hx hb dX8_take_0 rfl (lv_at hl 0 rfl) ?_
  refine va_get (D := D) (ci := 8) (v := .ref (q 2)) (C := RX8) (T := TX8) (N := 8) hx hb hts hiX8 hown hK hP 0 rfl rfl 1 (by decide) hf19 (fun _ h9 => h9) rfl dX8_take_1 ?_
  refine lv_iload_n hx hb dX8_take_4 rfl (lv_at hl 1 rfl) ?_
  refine vp_callSi (va_Run.run (va_runV (As := [.int x1]) (rest := []) ⟨hx, hb, hml, hown, hts⟩ (c_X5_has l D q cI cJ cZ u x1 _ hw) (cwV 1 hts gX8_take_X5_has rfl rfl rfl (by decide +kernel) ⟨Nat.le_of_ble_eq_true rfl, Nat.le_of_ble_eq_true rfl⟩) (pvR (va_recv hK hP (ci := 5) (q0 := 2) (q := (RX5, TX5, 6)) rfl rfl) hK hP hN) rfl rfl hl.1 rfl (lv_room (Nat.le_of_ble_eq_true rfl)) dX8_take_5 ⟨Nat.zero_le _, Nat.zero_le _⟩)) (fun r1 hw => ?_)
  refine lv_if_eq (tgt := 27) hx hb dX8_take_8 (by decide) (fun hc => ?_) (fun hc => ?_)
  · have hw := hw.1 hc
    refine lv_iconst (v := 0) hx hb dX8_take_27 (by decide) ?_
    exact W.zret (v := 0) hx hb hr rfl (fun t ht hW => ⟨⟨0, u, rfl, hw, by show va_P D vwCl _ t.heap; rw [ht]; exact hP⟩, hS.F ht⟩) hS.2.2 dX8_take_28
  · have hw := hw.2 hc
    refine lv_iload_n hx hb dX8_take_11 rfl (lv_at hl 2 rfl) ?_
    refine lv_aload_n hx hb dX8_take_12 rfl (lv_at hl 0 rfl) ?_
    refine va_get (D := D) (ci := 8) (v := .ref (q 2)) (C := RX8) (T := TX8) (N := 8) hx hb hts hiX8 hown hK hP 0 rfl rfl 1 (by decide) hf19 (fun _ h9 => h9) rfl dX8_take_13 ?_
    refine va_getN (D := D) (ci := 5) (v := .ref (q 13)) (C := RX5) (T := TX5) (N := 6) hx hb hts hiX5 hown hK hP 2 rfl rfl 1 (by decide) (va_Nw.use rfl (nf_RX8_108 hN)) (fun _ h9 => h9) rfl dX8_take_16 ?_
    refine lv_iload_n hx hb dX8_take_19 rfl (lv_at hl 1 rfl) ?_
    obtain ⟨hin, hw⟩ := hw
    refine va_iald hx hb hK hP 13 0 rfl rfl hin dX8_take_20 ?_
    refine vp_callSi (va_Run.run (va_runS (As := [.int x2, .int (u.1 1 x1.toNatClampNeg)]) (rest := []) ⟨hx, hb, hml, hown, hts⟩ (c_X8_within l x2 (u.1 1 x1.toNatClampNeg) _ hw) (va_cwS 2 hts gX8_take_X8_within rfl rfl rfl (by decide +kernel) ⟨Nat.le_of_ble_eq_true rfl, Nat.le_of_ble_eq_true rfl⟩) (psS hN) rfl rfl hl.1 rfl (lv_room (Nat.le_of_ble_eq_true rfl)) dX8_take_21 ⟨Nat.zero_le _, Nat.zero_le _⟩)) (fun r2 hw => ?_)
    refine lv_if_ne (tgt := 29) hx hb dX8_take_24 (by decide) (fun hc => ?_) (fun hc => ?_)
    · have hw := hw.1 hc
      refine lv_aload_n hx hb dX8_take_29 rfl (lv_at hl 0 rfl) ?_
      refine va_get (D := D) (ci := 8) (v := .ref (q 2)) (C := RX8) (T := TX8) (N := 8) hx hb hts hiX8 hown hK hP 0 rfl rfl 1 (by decide) hf19 (fun _ h9 => h9) rfl dX8_take_30 ?_
      refine lv_iload_n hx hb dX8_take_33 rfl (lv_at hl 1 rfl) ?_
      refine lv_iload_n hx hb dX8_take_34 rfl (lv_at hl 2 rfl) ?_
      refine vp_callSi (va_Run.run (va_runV (As := [.int x1, .int x2]) (rest := []) ⟨hx, hb, hml, hown, hts⟩ (c_X5_choiceOf l D q cI cJ cZ u x1 x2 _ hw) (cwV 2 hts gX8_take_X5_choiceOf rfl rfl rfl (by decide +kernel) ⟨Nat.le_of_ble_eq_true rfl, Nat.le_of_ble_eq_true rfl⟩) (pvR (va_recv hK hP (ci := 5) (q0 := 2) (q := (RX5, TX5, 6)) rfl rfl) hK hP hN) rfl rfl hl.1 rfl (lv_room (Nat.le_of_ble_eq_true rfl)) dX8_take_35 ⟨Nat.zero_le _, Nat.zero_le _⟩)) (fun r3 hw => ?_)
      refine lv_istore_n (lv' := [(3, .int r3), (0, .ref (q 0)), (1, .int x1), (2, .int x2)]) hx hb dX8_take_38 rfl hl (by decide) rfl (fun ls hl => ?_)
      refine lv_aload_n hx hb dX8_take_39 rfl (lv_at hl 1 rfl) ?_
      refine va_get (D := D) (ci := 8) (v := .ref (q 2)) (C := RX8) (T := TX8) (N := 8) hx hb hts hiX8 hown hK hP 0 rfl rfl 1 (by decide) hf19 (fun _ h9 => h9) rfl dX8_take_40 ?_
      refine va_getN (D := D) (ci := 5) (v := .ref (q 14)) (C := RX5) (T := TX5) (N := 6) hx hb hts hiX5 hown hK hP 2 rfl rfl 2 (by decide) (va_Nw.use rfl (nf_RX8_115 hN)) (fun _ h9 => h9) rfl dX8_take_43 ?_
      refine lv_iload_n hx hb dX8_take_46 rfl (lv_at hl 2 rfl) ?_
      obtain ⟨hin, hw⟩ := hw
      refine va_iald hx hb hK hP 14 0 rfl rfl hin dX8_take_47 ?_
      refine lv_iload_n hx hb dX8_take_48 rfl (lv_at hl 0 rfl) ?_
      refine lv_icmp_ne (tgt := 54) hx hb dX8_take_49 (by decide) (fun hc => ?_) (fun hc => ?_)
      · have hw := hw.1 hc
        refine lv_aload_n hx hb dX8_take_54 rfl (lv_at hl 1 rfl) ?_
        refine va_get (D := D) (ci := 8) (v := .ref (q 2)) (C := RX8) (T := TX8) (N := 8) hx hb hts hiX8 hown hK hP 0 rfl rfl 1 (by decide) hf19 (fun _ h9 => h9) rfl dX8_take_55 ?_
        refine va_getN (D := D) (ci := 5) (v := .ref (q 14)) (C := RX5) (T := TX5) (N := 6) hx hb hts hiX5 hown hK hP 2 rfl rfl 2 (by decide) (va_Nw.use rfl (nf_RX8_115 hN)) (fun _ h9 => h9) rfl dX8_take_58 ?_
        refine lv_iload_n hx hb dX8_take_61 rfl (lv_at hl 2 rfl) ?_
        refine lv_iload_n hx hb dX8_take_62 rfl (lv_at hl 0 rfl) ?_
        obtain ⟨hin, hw⟩ := hw
        refine sIast (w := wX q cI cJ cZ) hx hb hK hP hD hS 14 0 2 rfl rfl (wXa_14 q cI cJ cZ u) hin dX8_take_63 (fun u4 H locs eu4 hP hD hS => ?_)
        have hw := hw u4 eu4
        refine lv_iconst (v := 1) hx hb dX8_take_64 (by decide) ?_
        exact W.zret (v := 1) hx hb hr rfl (fun t ht hW => ⟨⟨1, u4, rfl, hw, by show va_P D vwCl _ t.heap; rw [ht]; exact hP⟩, hS.F ht⟩) hS.2.2 dX8_take_65
      · have hw := hw.2 hc
        refine lv_iconst (v := 0) hx hb dX8_take_52 (by decide) ?_
        exact W.zret (v := 0) hx hb hr rfl (fun t ht hW => ⟨⟨0, u, rfl, hw, by show va_P D vwCl _ t.heap; rw [ht]; exact hP⟩, hS.F ht⟩) hS.2.2 dX8_take_53
    · have hw := hw.2 hc
      refine lv_iconst (v := 0) hx hb dX8_take_27 (by decide) ?_
      exact W.zret (v := 0) hx hb hr rfl (fun t ht hW => ⟨⟨0, u, rfl, hw, by show va_P D vwCl _ t.heap; rw [ht]; exact hP⟩, hS.F ht⟩) hS.2.2 dX8_take_28
set_option maxHeartbeats 4000000 in
set_option maxRecDepth 100000 in
theorem c_X9_isPart (l : Launch) (D : va_G) (q : Nat → Nat) (cI cJ cZ : ClassId) (u : WU) (x1 : Int32) (post : Int32 → Prop) (hw : wp_X9_isPart x1 u post) : Met l yX9_isPart wsX9_isPart rm_X9_isPart (va_Pc [.ref (q 0), .int x1] (RW D (ty3 cI cJ cZ) (wM q cI cJ cZ u))) (vp_Si post) 0 0 (fun _ => False) := by
  refine Met.ofW (cc := cX9_isPart) (maxL := 2) (ret := (some .boolean)) (by decide) rfl ?_
  intro p e s m args below meth c s₁ B hml hv
  obtain ⟨hargs, hP, hK, hN⟩ := hv
  have hx := B.exec
  have hb := B.bytes
  have hr := B.returns
  have hts := atoms_spec (ws := wsX9_isPart) B.pre
  have hown : s.vm.findClass RX9 = some m.cls := findClass_of_methodNamed B.named
  have hlocks := B.notSynchronized
  have hiX9 : ∀ w ∈ u_ws RX9 TX9 30, w ∈ wsX9_isPart := by decide +kernel
  have hf87 := hts (.fieldLink RX9 87 "TermsDeskModel" "parts" "I") (by decide +kernel)
  have hent := lg_entry_eq m ([.ref (q 0), .int x1]) 2
  rw [← hargs] at hent
  rw [hent]
  have hl := lv_entry ([.ref (q 0), .int x1]) (n := 2) (Nat.le_of_ble_eq_true rfl)
  generalize (lg_sl ([.ref (q 0), .int x1]) ++ List.replicate (2 - (lg_sl ([.ref (q 0), .int x1])).length) Slot.unset).toArray = ls at hl ⊢
  have hl : lv_has ls 2 [(0, .ref (q 0)), (1, .int x1)] := hl
  unfold wp_X9_isPart at hw
  refine lv_iload_n hx hb dX9_isPart_0 rfl (lv_at hl 1 rfl) ?_
  refine lv_iconst (v := 0) hx hb dX9_isPart_1 (by decide) ?_
  refine lv_aload_n hx hb dX9_isPart_2 rfl (lv_at hl 0 rfl) ?_
  refine va_get (D := D) (ci := 9) (v := .int (u.1 21 0)) (C := RX9) (T := TX9) (N := 30) hx hb hts hiX9 hown hK hP 0 rfl rfl 3 (by decide) hf87 (fun _ h9 => h9) rfl dX9_isPart_3 ?_
  refine lv_iconst (v := 1) hx hb dX9_isPart_6 (by decide) ?_
  refine lv_isub hx hb dX9_isPart_7 ?_
  refine vp_callSi (va_Run.run (va_runS (As := [.int x1, .int 0, .int ((u.1 21 0) - 1)]) (rest := []) ⟨hx, hb, hml, hown, hts⟩ (c_X9_lies l x1 0 ((u.1 21 0) - 1) _ hw) (va_cwS 3 hts gX9_isPart_X9_lies rfl rfl rfl (by decide +kernel) ⟨Nat.le_of_ble_eq_true rfl, Nat.le_of_ble_eq_true rfl⟩) (psS hN) rfl rfl hl.1 rfl (lv_room (Nat.le_of_ble_eq_true rfl)) dX9_isPart_8 ⟨Nat.zero_le _, Nat.zero_le _⟩)) (fun r1 hw => ?_)
  obtain ⟨hn, hw⟩ := hw
  exact W.zret (v := r1) hx hb hr hn (fun t ht hW => ⟨r1, rfl, hw, ht⟩) (fun _ h => by cases h) dX9_isPart_11
set_option maxHeartbeats 4000000 in
set_option maxRecDepth 100000 in
theorem c_X9_take (l : Launch) (D : va_G) (q : Nat → Nat) (cI cJ cZ : ClassId) (sz : Nat) (u : WU) (x1 : Int32) (x2 : Int32) (post : Int32 → WU → Prop) (hw : wp_X9_take x1 x2 u post) : Met l yX9_take wsX9_take rm_X9_take (va_Pc [.ref (q 0), .int x1, .int x2] (MW D (ty3 cI cJ cZ) (wM q cI cJ cZ u) sz)) (va_Qi post (fun u' t => va_P D vwCl (wM q cI cJ cZ u') t.heap) (va_A (wM q cI cJ cZ u00) sz)) 0 0 (va_A (wM q cI cJ cZ u00) sz) := by
  refine Met.ofW (cc := cX9_take) (maxL := 3) (ret := (some .boolean)) (by decide) rfl ?_
  intro p e s m args below meth c s₁ B hml hv
  obtain ⟨hargs, hsz, hP, hK, hD0, hN⟩ := hv
  have hx := B.exec
  have hb := B.bytes
  have hr := B.returns
  have hts := atoms_spec (ws := wsX9_take) B.pre
  have hown : s.vm.findClass RX9 = some m.cls := findClass_of_methodNamed B.named
  have hlocks := B.notSynchronized
  subst hsz
  have hD := shw_self (sz := s.heap.size) (sh_wM q cI cJ cZ) hD0
  have hA : ∀ a : Nat, s.heap.size ≤ a → va_A (wM q cI cJ cZ u00) s.heap.size a := fun _ h => Or.inr h
  have hS : va_S (va_A (wM q cI cJ cZ u00) s.heap.size) s.heap s.heap [] := va_S.rf
  have hiX9 : ∀ w ∈ u_ws RX9 TX9 30, w ∈ wsX9_take := by decide +kernel
  have hf23 := hts (.fieldLink RX9 23 "TermsDeskModel" "many" "[I") (by decide +kernel)
  have hf26 := hts (.fieldLink RX9 26 "TermsDeskModel" "taken" "[I") (by decide +kernel)
  have hent := lg_entry_eq m ([.ref (q 0), .int x1, .int x2]) 3
  rw [← hargs] at hent
  rw [hent]
  have hl := lv_entry ([.ref (q 0), .int x1, .int x2]) (n := 3) (Nat.le_of_ble_eq_true rfl)
  generalize (lg_sl ([.ref (q 0), .int x1, .int x2]) ++ List.replicate (3 - (lg_sl ([.ref (q 0), .int x1, .int x2])).length) Slot.unset).toArray = ls at hl ⊢
  have hl : lv_has ls 3 [(0, .ref (q 0)), (1, .int x1), (2, .int x2)] := hl
  unfold wp_X9_take at hw
  refine lv_aload_n hx hb dX9_take_0 rfl (lv_at hl 0 rfl) ?_
  refine lv_iload_n hx hb dX9_take_1 rfl (lv_at hl 1 rfl) ?_
  refine vp_callSi (va_Run.run (va_runV (As := [.int x1]) (rest := []) ⟨hx, hb, hml, hown, hts⟩ (c_X9_isPart l D q cI cJ cZ u x1 _ hw) (cwV 1 hts gX9_take_X9_isPart rfl rfl rfl (by decide +kernel) ⟨Nat.le_of_ble_eq_true rfl, Nat.le_of_ble_eq_true rfl⟩) (pvR (va_recv hK hP (ci := 9) (q0 := 0) (q := (RX9, TX9, 30)) rfl rfl) hK hP hN) rfl rfl hl.1 rfl (lv_room (Nat.le_of_ble_eq_true rfl)) dX9_take_2 ⟨Nat.zero_le _, Nat.zero_le _⟩)) (fun r1 hw => ?_)
  refine lv_if_eq (tgt := 34) hx hb dX9_take_5 (by decide) (fun hc => ?_) (fun hc => ?_)
  · have hw := hw.1 hc
    refine lv_iconst (v := 0) hx hb dX9_take_34 (by decide) ?_
    exact W.zret (v := 0) hx hb hr rfl (fun t ht hW => ⟨⟨0, u, rfl, hw, by show va_P D vwCl _ t.heap; rw [ht]; exact hP⟩, hS.F ht⟩) hS.2.2 dX9_take_35
  · have hw := hw.2 hc
    refine lv_iload_n hx hb dX9_take_8 rfl (lv_at hl 2 rfl) ?_
    refine lv_iconst (v := 0) hx hb dX9_take_9 (by decide) ?_
    refine lv_aload_n hx hb dX9_take_10 rfl (lv_at hl 0 rfl) ?_
    refine va_get (D := D) (ci := 9) (v := .ref (q 5)) (C := RX9) (T := TX9) (N := 30) hx hb hts hiX9 hown hK hP 0 rfl rfl 6 (by decide) hf23 (fun _ h9 => h9) rfl dX9_take_11 ?_
    refine lv_iload_n hx hb dX9_take_14 rfl (lv_at hl 1 rfl) ?_
    obtain ⟨hin, hw⟩ := hw
    refine va_iald hx hb hK hP 5 0 rfl rfl hin dX9_take_15 ?_
    refine lv_iconst (v := 1) hx hb dX9_take_16 (by decide) ?_
    refine lv_isub hx hb dX9_take_17 ?_
    refine vp_callSi (va_Run.run (va_runS (As := [.int x2, .int 0, .int ((u.1 3 x1.toNatClampNeg) - 1)]) (rest := []) ⟨hx, hb, hml, hown, hts⟩ (c_X9_lies l x2 0 ((u.1 3 x1.toNatClampNeg) - 1) _ hw) (va_cwS 3 hts gX9_take_X9_lies rfl rfl rfl (by decide +kernel) ⟨Nat.le_of_ble_eq_true rfl, Nat.le_of_ble_eq_true rfl⟩) (psS hN) rfl rfl hl.1 rfl (lv_room (Nat.le_of_ble_eq_true rfl)) dX9_take_18 ⟨Nat.zero_le _, Nat.zero_le _⟩)) (fun r2 hw => ?_)
    refine lv_if_eq (tgt := 34) hx hb dX9_take_21 (by decide) (fun hc => ?_) (fun hc => ?_)
    · have hw := hw.1 hc
      refine lv_iconst (v := 0) hx hb dX9_take_34 (by decide) ?_
      exact W.zret (v := 0) hx hb hr rfl (fun t ht hW => ⟨⟨0, u, rfl, hw, by show va_P D vwCl _ t.heap; rw [ht]; exact hP⟩, hS.F ht⟩) hS.2.2 dX9_take_35
    · have hw := hw.2 hc
      refine lv_aload_n hx hb dX9_take_24 rfl (lv_at hl 0 rfl) ?_
      refine va_get (D := D) (ci := 9) (v := .ref (q 6)) (C := RX9) (T := TX9) (N := 30) hx hb hts hiX9 hown hK hP 0 rfl rfl 7 (by decide) hf26 (fun _ h9 => h9) rfl dX9_take_25 ?_
      refine lv_iload_n hx hb dX9_take_28 rfl (lv_at hl 1 rfl) ?_
      obtain ⟨hin, hw⟩ := hw
      refine va_iald hx hb hK hP 6 0 rfl rfl hin dX9_take_29 ?_
      refine lv_iload_n hx hb dX9_take_30 rfl (lv_at hl 2 rfl) ?_
      refine lv_icmp_ne (tgt := 36) hx hb dX9_take_31 (by decide) (fun hc => ?_) (fun hc => ?_)
      · have hw := hw.1 hc
        refine lv_aload_n hx hb dX9_take_36 rfl (lv_at hl 0 rfl) ?_
        refine va_get (D := D) (ci := 9) (v := .ref (q 6)) (C := RX9) (T := TX9) (N := 30) hx hb hts hiX9 hown hK hP 0 rfl rfl 7 (by decide) hf26 (fun _ h9 => h9) rfl dX9_take_37 ?_
        refine lv_iload_n hx hb dX9_take_40 rfl (lv_at hl 1 rfl) ?_
        refine lv_iload_n hx hb dX9_take_41 rfl (lv_at hl 2 rfl) ?_
        obtain ⟨hin, hw⟩ := hw
        refine sIast (w := wM q cI cJ cZ) hx hb hK hP hD hS 6 0 4 rfl rfl (wMa_6 q cI cJ cZ u) hin dX9_take_42 (fun u3 H locs eu3 hP hD hS => ?_)
        have hw := hw u3 eu3
        refine lv_iconst (v := 1) hx hb dX9_take_43 (by decide) ?_
        exact W.zret (v := 1) hx hb hr rfl (fun t ht hW => ⟨⟨1, u3, rfl, hw, by show va_P D vwCl _ t.heap; rw [ht]; exact hP⟩, hS.F ht⟩) hS.2.2 dX9_take_44
      · have hw := hw.2 hc
        refine lv_iconst (v := 0) hx hb dX9_take_34 (by decide) ?_
        exact W.zret (v := 0) hx hb hr rfl (fun t ht hW => ⟨⟨0, u, rfl, hw, by show va_P D vwCl _ t.heap; rw [ht]; exact hP⟩, hS.F ht⟩) hS.2.2 dX9_take_35
set_option maxHeartbeats 4000000 in
set_option maxRecDepth 100000 in
theorem c_X3_leads (l : Launch) (D : va_G) (q : Nat → Nat) (cI cJ cZ : ClassId) (u : WU) (x1 : Int32) (x2 : Int32) (post : Int32 → Prop) (hw : wp_X3_leads x1 x2 u post) : Met l yX3_leads wsX3_leads rm_X3_leads (va_Pc [.ref (q 3), .int x1, .int x2] (RW D (ty3 cI cJ cZ) (wX q cI cJ cZ u))) (vp_Si post) 0 0 (fun _ => False) := by
  refine Met.ofW (cc := cX3_leads) (maxL := 4) (ret := (some .boolean)) (by decide) rfl ?_
  intro p e s m args below meth c s₁ B hml hv
  obtain ⟨hargs, hP, hK, hN⟩ := hv
  have hx := B.exec
  have hb := B.bytes
  have hr := B.returns
  have hts := atoms_spec (ws := wsX3_leads) B.pre
  have hown : s.vm.findClass RX3 = some m.cls := findClass_of_methodNamed B.named
  have hlocks := B.notSynchronized
  have hiX3 : ∀ w ∈ u_ws RX3 TX3 9, w ∈ wsX3_leads := by decide +kernel
  have hf24 := hts (.fieldLink RX3 24 "TermsDesk$Joins" "sorted" "[I") (by decide +kernel)
  have hf27 := hts (.fieldLink RX3 27 "TermsDesk$Joins" "begin" "[I") (by decide +kernel)
  have hf30 := hts (.fieldLink RX3 30 "TermsDesk$Joins" "end" "[I") (by decide +kernel)
  have hf9 := hts (.fieldLink RX3 9 "TermsDesk$Joins" "from" "[I") (by decide +kernel)
  have L7 : ∀ (x1 : Int32) (x2 : Int32) (n : Nat) (x3 : Int32) (_ : Unit), wp_X3_leads_L7 x1 x2 u post n x3 → ∀ ls : Array Slot, lv_has ls 4 [(0, .ref (q 3)), (1, .int x1), (2, .int x2), (3, .int x3)] → W p l e (headSpec wsX3_leads rm_X3_leads).room s m args below meth c s.heap [] 0 0 (MQ below (vp_Si post) args s 0 0 (fun _ => False)) (F0 m 7 ls []) := by
    intro x1 x2 n
    induction n with
    | zero =>
      intro x3 _ hw
      exact hw.elim
    | succ n ih =>
      intro x3 _ hw ls hl 
      unfold wp_X3_leads_L7 at hw
      refine lv_iload_n hx hb dX3_leads_7 rfl (lv_at hl 3 rfl) ?_
      refine lv_aload_n hx hb dX3_leads_8 rfl (lv_at hl 0 rfl) ?_
      refine va_get (D := D) (ci := 3) (v := .ref (q 22)) (C := RX3) (T := TX3) (N := 9) hx hb hts hiX3 hown hK hP 3 rfl rfl 8 (by decide) hf30 (fun _ h9 => h9) rfl dX3_leads_9 ?_
      refine lv_iload_n hx hb dX3_leads_12 rfl (lv_at hl 2 rfl) ?_
      obtain ⟨hin, hw⟩ := hw
      refine va_iald hx hb hK hP 22 0 rfl rfl hin dX3_leads_13 ?_
      refine lv_icmp_ge (tgt := 40) hx hb dX3_leads_14 (by decide) (fun hc => ?_) (fun hc => ?_)
      · have hw := hw.1 hc
        refine lv_iconst (v := 0) hx hb dX3_leads_40 (by decide) ?_
        exact W.zret (v := 0) hx hb hr rfl (fun t ht hW => ⟨0, rfl, hw, ht⟩) (fun _ h => by cases h) dX3_leads_41
      · have hw := hw.2 hc
        refine lv_aload_n hx hb dX3_leads_17 rfl (lv_at hl 0 rfl) ?_
        refine va_get (D := D) (ci := 3) (v := .ref (q 16)) (C := RX3) (T := TX3) (N := 9) hx hb hts hiX3 hown hK hP 3 rfl rfl 0 (by decide) hf9 (fun _ h9 => h9) rfl dX3_leads_18 ?_
        refine lv_aload_n hx hb dX3_leads_21 rfl (lv_at hl 0 rfl) ?_
        refine va_get (D := D) (ci := 3) (v := .ref (q 20)) (C := RX3) (T := TX3) (N := 9) hx hb hts hiX3 hown hK hP 3 rfl rfl 6 (by decide) hf24 (fun _ h9 => h9) rfl dX3_leads_22 ?_
        refine lv_iload_n hx hb dX3_leads_25 rfl (lv_at hl 3 rfl) ?_
        obtain ⟨hin, hw⟩ := hw
        refine va_iald hx hb hK hP 20 0 rfl rfl hin dX3_leads_26 ?_
        obtain ⟨hin, hw⟩ := hw
        refine va_iald hx hb hK hP 16 0 rfl rfl hin dX3_leads_27 ?_
        refine lv_iload_n hx hb dX3_leads_28 rfl (lv_at hl 1 rfl) ?_
        refine lv_icmp_ne (tgt := 34) hx hb dX3_leads_29 (by decide) (fun hc => ?_) (fun hc => ?_)
        · have hw := hw.1 hc
          obtain ⟨y1, ey1⟩ : ∃ z : Int32, z = x3 + 1 := ⟨_, rfl⟩
          have hw := hw y1 ey1
          refine lv_iinc (v := y1) (lv' := [(3, .int y1), (0, .ref (q 3)), (1, .int x1), (2, .int x2)]) hx hb dX3_leads_34 hl (k := 3) rfl (by rw [ey1]; rfl) (by decide) rfl (fun ls hl => ?_)
          refine lv_goto (tgt := 7) hx hb dX3_leads_37 (by decide) ?_
          exact ih y1 () hw ls (lv_sub hl [1, 2, 3, 0] rfl)
        · have hw := hw.2 hc
          refine lv_iconst (v := 1) hx hb dX3_leads_32 (by decide) ?_
          exact W.zret (v := 1) hx hb hr rfl (fun t ht hW => ⟨1, rfl, hw, ht⟩) (fun _ h => by cases h) dX3_leads_33
  have hent := lg_entry_eq m ([.ref (q 3), .int x1, .int x2]) 4
  rw [← hargs] at hent
  rw [hent]
  have hl := lv_entry ([.ref (q 3), .int x1, .int x2]) (n := 4) (Nat.le_of_ble_eq_true rfl)
  generalize (lg_sl ([.ref (q 3), .int x1, .int x2]) ++ List.replicate (4 - (lg_sl ([.ref (q 3), .int x1, .int x2])).length) Slot.unset).toArray = ls at hl ⊢
  have hl : lv_has ls 4 [(0, .ref (q 3)), (1, .int x1), (2, .int x2)] := hl
  unfold wp_X3_leads at hw
  refine lv_aload_n hx hb dX3_leads_0 rfl (lv_at hl 0 rfl) ?_
  refine va_get (D := D) (ci := 3) (v := .ref (q 21)) (C := RX3) (T := TX3) (N := 9) hx hb hts hiX3 hown hK hP 3 rfl rfl 7 (by decide) hf27 (fun _ h9 => h9) rfl dX3_leads_1 ?_
  refine lv_iload_n hx hb dX3_leads_4 rfl (lv_at hl 2 rfl) ?_
  obtain ⟨hin, hw⟩ := hw
  refine va_iald hx hb hK hP 21 0 rfl rfl hin dX3_leads_5 ?_
  refine lv_topi (fun y2 ey2 => ?_)
  have hw := hw y2 ey2
  refine lv_istore_n (lv' := [(3, .int y2), (0, .ref (q 3)), (1, .int x1), (2, .int x2)]) hx hb dX3_leads_6 rfl hl (by decide) rfl (fun ls hl => ?_)
  obtain ⟨nn, hw⟩ := hw
  refine L7 x1 x2 nn y2 () hw ls (lv_sub hl [1, 2, 3, 0] rfl)
