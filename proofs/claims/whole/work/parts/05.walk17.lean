set_option maxHeartbeats 4000000 in
set_option maxRecDepth 100000 in
theorem c_X9_notice (l : Launch) (D : va_G) (q : Nat → Nat) (cI cJ cZ : ClassId) (sz : Nat) (u : WU) (x1 : Int32) (x2 : Int32) (post : Int32 → WU → Prop) (hw : wp_X9_notice x1 x2 u post) : Met l yX9_notice wsX9_notice rm_X9_notice (va_Pc [.ref (q 0), .int x1, .int x2] (MW D (ty3 cI cJ cZ) (wM q cI cJ cZ u) sz)) (va_Qi post (fun u' t => va_P D vwCl (wM q cI cJ cZ u') t.heap) (va_A (wM q cI cJ cZ u00) sz)) 0 0 (va_A (wM q cI cJ cZ u00) sz) := by
  refine Met.ofW (cc := cX9_notice) (maxL := 5) (ret := (some .int)) (by decide) rfl ?_
  intro p e s m args below meth c s₁ B hml hv
  obtain ⟨hargs, hsz, hP, hK, hD0, hN⟩ := hv
  have hx := B.exec
  have hb := B.bytes
  have hr := B.returns
  have hts := atoms_spec (ws := wsX9_notice) B.pre
  have hown : s.vm.findClass RX9 = some m.cls := findClass_of_methodNamed B.named
  have hlocks := B.notSynchronized
  subst hsz
  have hD := shw_self (sz := s.heap.size) (sh_wM q cI cJ cZ) hD0
  have hA : ∀ a : Nat, s.heap.size ≤ a → va_A (wM q cI cJ cZ u00) s.heap.size a := fun _ h => Or.inr h
  have hS : va_S (va_A (wM q cI cJ cZ u00) s.heap.size) s.heap s.heap [] := va_S.rf
  have hiX9 : ∀ w ∈ u_ws RX9 TX9 30, w ∈ wsX9_notice := by decide +kernel
  have hf118 := hts (.fieldLink RX9 118 "TermsDeskModel" "product" "I") (by decide +kernel)
  have hf63 := hts (.fieldLink RX9 63 "TermsDeskModel" "has" "[I") (by decide +kernel)
  have hf81 := hts (.fieldLink RX9 81 "TermsDeskModel" "far" "[I") (by decide +kernel)
  have hf87 := hts (.fieldLink RX9 87 "TermsDeskModel" "parts" "I") (by decide +kernel)
  have J94 : ∀ {K22 : Int32 → Int32 → WU → Prop} (x1 : Int32) (x2 : Int32) (x3 : Int32) (x4 : Int32) (u : WU) (H : Heap) (locs : List Loc), wp_X9_notice_J94 x1 x2 x3 x4 u post K22 → va_P D vwCl (wM q cI cJ cZ u) H → va_D (va_A (wM q cI cJ cZ u00) s.heap.size) (wM q cI cJ cZ u) → va_S (va_A (wM q cI cJ cZ u00) s.heap.size) s.heap H locs → ∀ ls : Array Slot, lv_has ls 5 [(0, .ref (q 0)), (1, .int x1), (2, .int x2), (3, .int x3), (4, .int x4)] → (∀ (x3 : Int32) (x4 : Int32) (u : WU) (H : Heap) (locs : List Loc), K22 x3 x4 u → va_P D vwCl (wM q cI cJ cZ u) H → va_D (va_A (wM q cI cJ cZ u00) s.heap.size) (wM q cI cJ cZ u) → va_S (va_A (wM q cI cJ cZ u00) s.heap.size) s.heap H locs → ∀ ls : Array Slot, lv_has ls 5 [(0, .ref (q 0)), (1, .int x1), (2, .int x2), (3, .int x3), (4, .int x4)] → W p l e (headSpec wsX9_notice rm_X9_notice).room s m args below meth c H locs 0 0 (MQ below (va_Qi post (fun u' t => va_P D vwCl (wM q cI cJ cZ u') t.heap) (va_A (wM q cI cJ cZ u00) s.heap.size)) args s 0 0 (va_A (wM q cI cJ cZ u00) s.heap.size)) (F0 m 22 ls [])) → W p l e (headSpec wsX9_notice rm_X9_notice).room s m args below meth c H locs 0 0 (MQ below (va_Qi post (fun u' t => va_P D vwCl (wM q cI cJ cZ u') t.heap) (va_A (wM q cI cJ cZ u00) s.heap.size)) args s 0 0 (va_A (wM q cI cJ cZ u00) s.heap.size)) (F0 m 94 ls []) := by
    intro K22 x1 x2 x3 x4 u H locs hw hP hD hS ls hl k22
    unfold wp_X9_notice_J94 at hw
    obtain ⟨y13, ey13⟩ : ∃ z : Int32, z = x4 + 1 := ⟨_, rfl⟩
    have hw := hw y13 ey13
    refine lv_iinc (v := y13) (lv' := [(4, .int y13), (0, .ref (q 0)), (1, .int x1), (2, .int x2), (3, .int x3)]) hx hb dX9_notice_94 hl (k := 4) rfl (by rw [ey13]; rfl) (by decide) rfl (fun ls hl => ?_)
    refine lv_goto (tgt := 22) hx hb dX9_notice_97 (by decide) ?_
    exact k22 x3 y13 u _ _ hw hP hD hS ls (lv_sub hl [1, 2, 3, 4, 0] rfl)
  have L22 : ∀ (x1 : Int32) (x2 : Int32) (n : Nat) (x3 : Int32) (x4 : Int32) (u : WU) (H : Heap) (locs : List Loc), wp_X9_notice_L22 x1 x2 post n x3 x4 u → va_P D vwCl (wM q cI cJ cZ u) H → va_D (va_A (wM q cI cJ cZ u00) s.heap.size) (wM q cI cJ cZ u) → va_S (va_A (wM q cI cJ cZ u00) s.heap.size) s.heap H locs → ∀ ls : Array Slot, lv_has ls 5 [(0, .ref (q 0)), (1, .int x1), (2, .int x2), (3, .int x3), (4, .int x4)] → W p l e (headSpec wsX9_notice rm_X9_notice).room s m args below meth c H locs 0 0 (MQ below (va_Qi post (fun u' t => va_P D vwCl (wM q cI cJ cZ u') t.heap) (va_A (wM q cI cJ cZ u00) s.heap.size)) args s 0 0 (va_A (wM q cI cJ cZ u00) s.heap.size)) (F0 m 22 ls []) := by
    intro x1 x2 n
    induction n with
    | zero =>
      intro x3 x4 u H locs hw
      exact hw.elim
    | succ n ih =>
      intro x3 x4 u H locs hw hP hD hS ls hl 
      unfold wp_X9_notice_L22 at hw
      refine lv_iload hx hb dX9_notice_22 (lv_at hl 4 rfl) ?_
      refine lv_aload_n hx hb dX9_notice_24 rfl (lv_at hl 0 rfl) ?_
      refine va_get (D := D) (ci := 9) (v := .int (u.1 21 0)) (C := RX9) (T := TX9) (N := 30) hx hb hts hiX9 hown hK hP 0 rfl rfl 3 (by decide) hf87 (fun _ h9 => h9) rfl dX9_notice_25 ?_
      refine lv_icmp_ge (tgt := 100) hx hb dX9_notice_28 (by decide) (fun hc => ?_) (fun hc => ?_)
      · have hw := hw.1 hc
        refine lv_iconst (v := (-1)) hx hb dX9_notice_100 (by decide) ?_
        exact W.iret (v := (-1)) hx hb hr (fun t ht hW => ⟨⟨(-1), u, rfl, hw, by show va_P D vwCl _ t.heap; rw [ht]; exact hP⟩, hS.F ht⟩) hS.2.2 dX9_notice_101
      · have hw := hw.2 hc
        refine lv_aload_n hx hb dX9_notice_31 rfl (lv_at hl 0 rfl) ?_
        refine lv_iload_n hx hb dX9_notice_32 rfl (lv_at hl 1 rfl) ?_
        refine lv_iload hx hb dX9_notice_33 (lv_at hl 4 rfl) ?_
        refine lv_aload_n hx hb dX9_notice_35 rfl (lv_at hl 0 rfl) ?_
        refine va_get (D := D) (ci := 9) (v := .ref (q 18)) (C := RX9) (T := TX9) (N := 30) hx hb hts hiX9 hown hK hP 0 rfl rfl 21 (by decide) hf63 (fun _ h9 => h9) rfl dX9_notice_36 ?_
        refine lv_iload hx hb dX9_notice_39 (lv_at hl 4 rfl) ?_
        obtain ⟨hin, hw⟩ := hw
        refine va_iald hx hb hK hP 18 0 rfl rfl hin dX9_notice_41 ?_
        refine lv_iconst (v := 0) hx hb dX9_notice_42 (by decide) ?_
        refine vp_callSi (va_Run.run (va_runV (As := [.int x1, .int x4, .int (u.1 15 x4.toNatClampNeg), .int 0]) (rest := []) ⟨hx, hb, hml, hown, hts⟩ (c_X9_hasBrought l D q cI cJ cZ u x1 x4 (u.1 15 x4.toNatClampNeg) 0 _ hw) (cwV 4 hts gX9_notice_X9_hasBrought rfl rfl rfl (by decide +kernel) ⟨Nat.le_of_ble_eq_true rfl, Nat.le_of_ble_eq_true rfl⟩) (pvR (va_recv hK hP (ci := 9) (q0 := 0) (q := (RX9, TX9, 30)) rfl rfl) hK hP hN) rfl rfl hl.1 rfl (lv_room (Nat.le_of_ble_eq_true rfl)) dX9_notice_43 ⟨Nat.zero_le _, Nat.zero_le _⟩)) (fun r1 hw => ?_)
        refine lv_if_ne (tgt := 52) hx hb dX9_notice_46 (by decide) (fun hc => ?_) (fun hc => ?_)
        · have hw := hw.1 hc
          refine lv_aload_n hx hb dX9_notice_52 rfl (lv_at hl 0 rfl) ?_
          refine lv_aload_n hx hb dX9_notice_53 rfl (lv_at hl 0 rfl) ?_
          refine va_get (D := D) (ci := 9) (v := .ref (q 18)) (C := RX9) (T := TX9) (N := 30) hx hb hts hiX9 hown hK hP 0 rfl rfl 21 (by decide) hf63 (fun _ h9 => h9) rfl dX9_notice_54 ?_
          refine lv_iload hx hb dX9_notice_57 (lv_at hl 4 rfl) ?_
          obtain ⟨hin, hw⟩ := hw
          refine va_iald hx hb hK hP 18 0 rfl rfl hin dX9_notice_59 ?_
          refine lv_iconst (v := 0) hx hb dX9_notice_60 (by decide) ?_
          refine lv_aload_n hx hb dX9_notice_61 rfl (lv_at hl 0 rfl) ?_
          refine va_get (D := D) (ci := 9) (v := .int (u.1 22 0)) (C := RX9) (T := TX9) (N := 30) hx hb hts hiX9 hown hK hP 0 rfl rfl 4 (by decide) hf118 (fun _ h9 => h9) rfl dX9_notice_62 ?_
          refine cMv (sh_wM q cI cJ cZ) (u := u) (va_runV (As := [.int (u.1 15 x4.toNatClampNeg), .int 0, .int (u.1 22 0)]) (rest := []) ⟨hx, hb, hml, hown, hts⟩ (c_X9_measures l D q cI cJ cZ _ u (u.1 15 x4.toNatClampNeg) 0 (u.1 22 0) _ hw) (cwV 3 hts gX9_notice_X9_measures rfl rfl rfl (by decide +kernel) ⟨Nat.le_of_ble_eq_true rfl, Nat.le_of_ble_eq_true rfl⟩) (pvM (va_recv hK hP (ci := 9) (q0 := 0) (q := (RX9, TX9, 30)) rfl rfl) hK hP hD hN) rfl rfl hl.1 rfl (lv_room (Nat.le_of_ble_eq_true rfl)) dX9_notice_65 ⟨Nat.zero_le _, Nat.zero_le _⟩) hA hD hS (fun u2 H locs hw hP hD hS => ?_)
          refine lv_aload_n hx hb dX9_notice_68 rfl (lv_at hl 0 rfl) ?_
          refine va_get (D := D) (ci := 9) (v := .ref (q 24)) (C := RX9) (T := TX9) (N := 30) hx hb hts hiX9 hown hK hP 0 rfl rfl 28 (by decide) hf81 (fun _ h9 => h9) rfl dX9_notice_69 ?_
          refine lv_iload hx hb dX9_notice_72 (lv_at hl 4 rfl) ?_
          obtain ⟨hin, hw⟩ := hw
          refine va_iald hx hb hK hP 24 0 rfl rfl hin dX9_notice_74 ?_
          refine lv_bipush (v := 100) hx hb dX9_notice_75 (by decide) ?_
          refine lv_icmp_ne (tgt := 83) hx hb dX9_notice_77 (by decide) (fun hc => ?_) (fun hc => ?_)
          · have hw := hw.1 hc
            refine lv_iload_n hx hb dX9_notice_83 rfl (lv_at hl 3 rfl) ?_
            refine lv_iload_n hx hb dX9_notice_84 rfl (lv_at hl 2 rfl) ?_
            refine lv_icmp_ne (tgt := 91) hx hb dX9_notice_85 (by decide) (fun hc => ?_) (fun hc => ?_)
            · have hw := hw.1 hc
              obtain ⟨y3, ey3⟩ : ∃ z : Int32, z = x3 + 1 := ⟨_, rfl⟩
              have hw := hw y3 ey3
              refine lv_iinc (v := y3) (lv' := [(3, .int y3), (0, .ref (q 0)), (1, .int x1), (2, .int x2), (4, .int x4)]) hx hb dX9_notice_91 hl (k := 3) rfl (by rw [ey3]; rfl) (by decide) rfl (fun ls hl => ?_)
              refine J94 x1 x2 y3 x4 u2 _ _ hw hP hD hS ls (lv_sub hl [1, 2, 3, 0, 4] rfl) (fun y4 y5 u6 H locs hw hP hD hS ls hl => ?_)
              exact ih y4 y5 u6 _ _ hw hP hD hS ls (lv_sub hl [0, 1, 2, 3, 4] rfl)
            · have hw := hw.2 hc
              refine lv_iload hx hb dX9_notice_88 (lv_at hl 4 rfl) ?_
              exact W.iret (v := x4) hx hb hr (fun t ht hW => ⟨⟨x4, u2, rfl, hw, by show va_P D vwCl _ t.heap; rw [ht]; exact hP⟩, hS.F ht⟩) hS.2.2 dX9_notice_90
          · have hw := hw.2 hc
            refine lv_goto (tgt := 94) hx hb dX9_notice_80 (by decide) ?_
            refine J94 x1 x2 x3 x4 u2 _ _ hw hP hD hS ls (lv_sub hl [0, 1, 2, 3, 4] rfl) (fun y7 y8 u9 H locs hw hP hD hS ls hl => ?_)
            exact ih y7 y8 u9 _ _ hw hP hD hS ls (lv_sub hl [0, 1, 2, 3, 4] rfl)
        · have hw := hw.2 hc
          refine lv_goto (tgt := 94) hx hb dX9_notice_49 (by decide) ?_
          refine J94 x1 x2 x3 x4 u _ _ hw hP hD hS ls (lv_sub hl [0, 1, 2, 3, 4] rfl) (fun y10 y11 u12 H locs hw hP hD hS ls hl => ?_)
          exact ih y10 y11 u12 _ _ hw hP hD hS ls (lv_sub hl [0, 1, 2, 3, 4] rfl)
  have hent := lg_entry_eq m ([.ref (q 0), .int x1, .int x2]) 5
  rw [← hargs] at hent
  rw [hent]
  have hl := lv_entry ([.ref (q 0), .int x1, .int x2]) (n := 5) (Nat.le_of_ble_eq_true rfl)
  generalize (lg_sl ([.ref (q 0), .int x1, .int x2]) ++ List.replicate (5 - (lg_sl ([.ref (q 0), .int x1, .int x2])).length) Slot.unset).toArray = ls at hl ⊢
  have hl : lv_has ls 5 [(0, .ref (q 0)), (1, .int x1), (2, .int x2)] := hl
  unfold wp_X9_notice at hw
  refine lv_iload_n hx hb dX9_notice_0 rfl (lv_at hl 1 rfl) ?_
  refine vp_callSi (va_Run.run (va_runS (As := [.int x1]) (rest := []) ⟨hx, hb, hml, hown, hts⟩ (c_X9_isShipping l x1 _ hw) (va_cwS 1 hts gX9_notice_X9_isShipping rfl rfl rfl (by decide +kernel) ⟨Nat.le_of_ble_eq_true rfl, Nat.le_of_ble_eq_true rfl⟩) (psS hN) rfl rfl hl.1 rfl (lv_room (Nat.le_of_ble_eq_true rfl)) dX9_notice_1 ⟨Nat.zero_le _, Nat.zero_le _⟩)) (fun r14 hw => ?_)
  refine lv_if_eq (tgt := 11) hx hb dX9_notice_4 (by decide) (fun hc => ?_) (fun hc => ?_)
  · have hw := hw.1 hc
    refine lv_iconst (v := (-1)) hx hb dX9_notice_11 (by decide) ?_
    exact W.iret (v := (-1)) hx hb hr (fun t ht hW => ⟨⟨(-1), u, rfl, hw, by show va_P D vwCl _ t.heap; rw [ht]; exact hP⟩, hS.F ht⟩) hS.2.2 dX9_notice_12
  · have hw := hw.2 hc
    refine lv_iload_n hx hb dX9_notice_7 rfl (lv_at hl 2 rfl) ?_
    refine lv_if_ge (tgt := 13) hx hb dX9_notice_8 (by decide) (fun hc => ?_) (fun hc => ?_)
    · have hw := hw.1 hc
      refine lv_aload_n hx hb dX9_notice_13 rfl (lv_at hl 0 rfl) ?_
      refine cMv (sh_wM q cI cJ cZ) (u := u) (va_runV (As := []) (rest := []) ⟨hx, hb, hml, hown, hts⟩ (c_X9_asItIs l D q cI cJ cZ _ u _ hw) (cwV 0 hts gX9_notice_X9_asItIs rfl rfl rfl (by decide +kernel) ⟨Nat.le_of_ble_eq_true rfl, Nat.le_of_ble_eq_true rfl⟩) (pvM (va_recv hK hP (ci := 9) (q0 := 0) (q := (RX9, TX9, 30)) rfl rfl) hK hP hD hN) rfl rfl hl.1 rfl (lv_room (Nat.le_of_ble_eq_true rfl)) dX9_notice_14 ⟨Nat.zero_le _, Nat.zero_le _⟩) hA hD hS (fun u15 H locs hw hP hD hS => ?_)
      refine lv_iconst (v := 0) hx hb dX9_notice_17 (by decide) ?_
      refine lv_istore_n (lv' := [(3, .int 0), (0, .ref (q 0)), (1, .int x1), (2, .int x2)]) hx hb dX9_notice_18 rfl hl (by decide) rfl (fun ls hl => ?_)
      refine lv_iconst (v := 0) hx hb dX9_notice_19 (by decide) ?_
      refine lv_istore (lv' := [(4, .int 0), (3, .int 0), (0, .ref (q 0)), (1, .int x1), (2, .int x2)]) hx hb dX9_notice_20 hl (by decide) rfl (fun ls hl => ?_)
      obtain ⟨nn, hw⟩ := hw
      refine L22 x1 x2 nn 0 0 u15 _ _ hw hP hD hS ls (lv_sub hl [2, 3, 4, 1, 0] rfl)
    · have hw := hw.2 hc
      refine lv_iconst (v := (-1)) hx hb dX9_notice_11 (by decide) ?_
      exact W.iret (v := (-1)) hx hb hr (fun t ht hW => ⟨⟨(-1), u, rfl, hw, by show va_P D vwCl _ t.heap; rw [ht]; exact hP⟩, hS.F ht⟩) hS.2.2 dX9_notice_12
set_option maxHeartbeats 4000000 in
set_option maxRecDepth 100000 in
theorem c_X2_unlike (l : Launch) (D : va_G) (q : Nat → Nat) (cI cJ cZ : ClassId) (sz : Nat) (u : WU) (x1 : Int32) (x2 : Int32) (post : Int32 → WU → Prop) (hw : wp_X2_unlike x1 x2 u post) : Met l yX2_unlike wsX2_unlike rm_X2_unlike (va_Pc [.ref (q 5), .int x1, .int x2] (MW D (ty3 cI cJ cZ) (wX q cI cJ cZ u) sz)) (va_Qi post (fun u' t => va_P D vwCl (wX q cI cJ cZ u') t.heap) (va_A (wX q cI cJ cZ u00) sz)) 0 0 (va_A (wX q cI cJ cZ u00) sz) := by
  refine Met.ofW (cc := cX2_unlike) (maxL := 5) (ret := (some .int)) (by decide) rfl ?_
  intro p e s m args below meth c s₁ B hml hv
  obtain ⟨hargs, hsz, hP, hK, hD0, hN⟩ := hv
  have hx := B.exec
  have hb := B.bytes
  have hr := B.returns
  have hts := atoms_spec (ws := wsX2_unlike) B.pre
  have hown : s.vm.findClass RX2 = some m.cls := findClass_of_methodNamed B.named
  have hlocks := B.notSynchronized
  subst hsz
  have hD := shw_self (sz := s.heap.size) (sh_wX q cI cJ cZ) hD0
  have hA : ∀ a : Nat, s.heap.size ≤ a → va_A (wX q cI cJ cZ u00) s.heap.size a := fun _ h => Or.inr h
  have hS : va_S (va_A (wX q cI cJ cZ u00) s.heap.size) s.heap s.heap [] := va_S.rf
  have hiX2 : ∀ w ∈ u_ws RX2 TX2 5, w ∈ wsX2_unlike := by decide +kernel
  have hiX3 : ∀ w ∈ u_ws RX3 TX3 9, w ∈ wsX2_unlike := by decide +kernel
  have hiX5 : ∀ w ∈ u_ws RX5 TX5 6, w ∈ wsX2_unlike := by decide +kernel
  have hf15 := hts (.fieldLink RX2 15 "TermsDesk$Flow" "earlier" "[J") (by decide +kernel)
  have hf22 := hts (.fieldLink RX2 22 "TermsDesk$Flow" "parts" "LTermsDesk$Parts;") (by decide +kernel)
  have hf26 := hts (.fieldLink RX2 26 "TermsDesk$Flow" "joins" "LTermsDesk$Joins;") (by decide +kernel)
  have hf9 := hts (.fieldLink RX2 9 "TermsDesk$Flow" "arrived" "[J") (by decide +kernel)
  have hl124 := hts (.methodLink RX2 124 arraycopyName) (by decide +kernel)
  have hyI := hts (.initialized "java/lang/System") (by decide +kernel)
  have hyN := hts (.native arraycopyName) (by decide +kernel)
  have hyS := hts (.static arraycopyName) (by decide +kernel)
  have J90 : ∀ {K58 : Int32 → Int32 → WU → Prop} (x3 : Int32) (x4 : Int32) (u : WU) (H : Heap) (locs : List Loc), wp_X2_unlike_J90 x3 x4 u post K58 → va_P D vwCl (wX q cI cJ cZ u) H → va_D (va_A (wX q cI cJ cZ u00) s.heap.size) (wX q cI cJ cZ u) → va_S (va_A (wX q cI cJ cZ u00) s.heap.size) s.heap H locs → ∀ ls : Array Slot, lv_has ls 5 [(0, .ref (q 5)), (3, .int x3), (4, .int x4)] → (∀ (x3 : Int32) (x4 : Int32) (u : WU) (H : Heap) (locs : List Loc), K58 x3 x4 u → va_P D vwCl (wX q cI cJ cZ u) H → va_D (va_A (wX q cI cJ cZ u00) s.heap.size) (wX q cI cJ cZ u) → va_S (va_A (wX q cI cJ cZ u00) s.heap.size) s.heap H locs → ∀ ls : Array Slot, lv_has ls 5 [(0, .ref (q 5)), (3, .int x3), (4, .int x4)] → W p l e (headSpec wsX2_unlike rm_X2_unlike).room s m args below meth c H locs 0 0 (MQ below (va_Qi post (fun u' t => va_P D vwCl (wX q cI cJ cZ u') t.heap) (va_A (wX q cI cJ cZ u00) s.heap.size)) args s 0 0 (va_A (wX q cI cJ cZ u00) s.heap.size)) (F0 m 58 ls [])) → W p l e (headSpec wsX2_unlike rm_X2_unlike).room s m args below meth c H locs 0 0 (MQ below (va_Qi post (fun u' t => va_P D vwCl (wX q cI cJ cZ u') t.heap) (va_A (wX q cI cJ cZ u00) s.heap.size)) args s 0 0 (va_A (wX q cI cJ cZ u00) s.heap.size)) (F0 m 90 ls []) := by
    intro K58 x3 x4 u H locs hw hP hD hS ls hl k58
    unfold wp_X2_unlike_J90 at hw
    obtain ⟨y9, ey9⟩ : ∃ z : Int32, z = x4 + 1 := ⟨_, rfl⟩
    have hw := hw y9 ey9
    refine lv_iinc (v := y9) (lv' := [(4, .int y9), (0, .ref (q 5)), (3, .int x3)]) hx hb dX2_unlike_90 hl (k := 2) rfl (by rw [ey9]; rfl) (by decide) rfl (fun ls hl => ?_)
    refine lv_goto (tgt := 58) hx hb dX2_unlike_93 (by decide) ?_
    exact k58 x3 y9 u _ _ hw hP hD hS ls (lv_sub hl [1, 2, 0] rfl)
  have L58 : ∀ (n : Nat) (x3 : Int32) (x4 : Int32) (u : WU) (H : Heap) (locs : List Loc), wp_X2_unlike_L58 post n x3 x4 u → va_P D vwCl (wX q cI cJ cZ u) H → va_D (va_A (wX q cI cJ cZ u00) s.heap.size) (wX q cI cJ cZ u) → va_S (va_A (wX q cI cJ cZ u00) s.heap.size) s.heap H locs → ∀ ls : Array Slot, lv_has ls 5 [(0, .ref (q 5)), (3, .int x3), (4, .int x4)] → W p l e (headSpec wsX2_unlike rm_X2_unlike).room s m args below meth c H locs 0 0 (MQ below (va_Qi post (fun u' t => va_P D vwCl (wX q cI cJ cZ u') t.heap) (va_A (wX q cI cJ cZ u00) s.heap.size)) args s 0 0 (va_A (wX q cI cJ cZ u00) s.heap.size)) (F0 m 58 ls []) := by
    intro  n
    induction n with
    | zero =>
      intro x3 x4 u H locs hw
      exact hw.elim
    | succ n ih =>
      intro x3 x4 u H locs hw hP hD hS ls hl 
      unfold wp_X2_unlike_L58 at hw
      refine lv_iload hx hb dX2_unlike_58 (lv_at hl 2 rfl) ?_
      refine lv_bipush (v := 24) hx hb dX2_unlike_60 (by decide) ?_
      refine lv_icmp_ge (tgt := 96) hx hb dX2_unlike_62 (by decide) (fun hc => ?_) (fun hc => ?_)
      · have hw := hw.1 hc
        refine lv_iload_n hx hb dX2_unlike_96 rfl (lv_at hl 1 rfl) ?_
        refine lv_aload_n hx hb dX2_unlike_97 rfl (lv_at hl 0 rfl) ?_
        refine lv_aload_n hx hb dX2_unlike_98 rfl (lv_at hl 0 rfl) ?_
        refine va_get (D := D) (ci := 2) (v := .ref (q 3)) (C := RX2) (T := TX2) (N := 5) hx hb hts hiX2 hown hK hP 5 rfl rfl 2 (by decide) hf26 (fun _ h9 => h9) rfl dX2_unlike_99 ?_
        refine va_getN (D := D) (ci := 3) (v := .long (u.2 6 0)) (C := RX3) (T := TX3) (N := 9) hx hb hts hiX3 hown hK hP 3 rfl rfl 4 (by decide) (va_Nw.use rfl (nf_RX2_109 hN)) (fun _ h9 => h9) rfl dX2_unlike_102 ?_
        refine vp_callSi (va_Run.run (va_runV (As := [.long (u.2 6 0)]) (rest := [.int x3]) ⟨hx, hb, hml, hown, hts⟩ (c_X2_ofProduct l D q cI cJ cZ u (u.2 6 0) _ hw) (cwV 1 hts gX2_unlike_X2_ofProduct rfl rfl rfl (by decide +kernel) ⟨Nat.le_of_ble_eq_true rfl, Nat.le_of_ble_eq_true rfl⟩) (pvR (va_recv hK hP (ci := 2) (q0 := 5) (q := (RX2, TX2, 5)) rfl rfl) hK hP hN) rfl rfl hl.1 rfl (lv_room (Nat.le_of_ble_eq_true rfl)) dX2_unlike_105 ⟨Nat.zero_le _, Nat.zero_le _⟩)) (fun r1 hw => ?_)
        refine lv_iand hx hb dX2_unlike_108 ?_
        exact W.iret (v := x3 &&& r1) hx hb hr (fun t ht hW => ⟨⟨x3 &&& r1, u, rfl, hw, by show va_P D vwCl _ t.heap; rw [ht]; exact hP⟩, hS.F ht⟩) hS.2.2 dX2_unlike_109
      · have hw := hw.2 hc
        refine lv_aload_n hx hb dX2_unlike_65 rfl (lv_at hl 0 rfl) ?_
        refine va_get (D := D) (ci := 2) (v := .ref (q 27)) (C := RX2) (T := TX2) (N := 5) hx hb hts hiX2 hown hK hP 5 rfl rfl 3 (by decide) hf9 (fun _ h9 => h9) rfl dX2_unlike_66 ?_
        refine lv_iload hx hb dX2_unlike_69 (lv_at hl 2 rfl) ?_
        obtain ⟨hin, hw⟩ := hw
        refine va_lald hx hb hK hP 27 1 rfl rfl hin dX2_unlike_71 ?_
        refine lv_aload_n hx hb dX2_unlike_72 rfl (lv_at hl 0 rfl) ?_
        refine va_get (D := D) (ci := 2) (v := .ref (q 28)) (C := RX2) (T := TX2) (N := 5) hx hb hts hiX2 hown hK hP 5 rfl rfl 4 (by decide) hf15 (fun _ h9 => h9) rfl dX2_unlike_73 ?_
        refine lv_iload hx hb dX2_unlike_76 (lv_at hl 2 rfl) ?_
        obtain ⟨hin, hw⟩ := hw
        refine va_lald hx hb hK hP 28 1 rfl rfl hin dX2_unlike_78 ?_
        refine W.lcmp hx hb dX2_unlike_79 ?_
        refine lv_if_eq (tgt := 90) hx hb dX2_unlike_80 (by decide) (fun hc => ?_) (fun hc => ?_)
        · have hw := hw.1 hc
          refine J90 x3 x4 u _ _ hw hP hD hS ls (lv_sub hl [0, 1, 2] rfl) (fun y2 y3 u4 H locs hw hP hD hS ls hl => ?_)
          exact ih y2 y3 u4 _ _ hw hP hD hS ls (lv_sub hl [0, 1, 2] rfl)
        · have hw := hw.2 hc
          refine lv_iload_n hx hb dX2_unlike_83 rfl (lv_at hl 1 rfl) ?_
          refine lv_iconst (v := 1) hx hb dX2_unlike_84 (by decide) ?_
          refine lv_iload hx hb dX2_unlike_85 (lv_at hl 2 rfl) ?_
          refine lv_ishl hx hb dX2_unlike_87 ?_
          refine lv_ior hx hb dX2_unlike_88 ?_
          refine lv_topi (fun y5 ey5 => ?_)
          have hw := hw y5 ey5
          refine lv_istore_n (lv' := [(3, .int y5), (0, .ref (q 5)), (4, .int x4)]) hx hb dX2_unlike_89 rfl hl (by decide) rfl (fun ls hl => ?_)
          refine J90 y5 x4 u _ _ hw hP hD hS ls (lv_sub hl [1, 0, 2] rfl) (fun y6 y7 u8 H locs hw hP hD hS ls hl => ?_)
          exact ih y6 y7 u8 _ _ hw hP hD hS ls (lv_sub hl [0, 1, 2] rfl)
  have hent := lg_entry_eq m ([.ref (q 5), .int x1, .int x2]) 5
  rw [← hargs] at hent
  rw [hent]
  have hl := lv_entry ([.ref (q 5), .int x1, .int x2]) (n := 5) (Nat.le_of_ble_eq_true rfl)
  generalize (lg_sl ([.ref (q 5), .int x1, .int x2]) ++ List.replicate (5 - (lg_sl ([.ref (q 5), .int x1, .int x2])).length) Slot.unset).toArray = ls at hl ⊢
  have hl : lv_has ls 5 [(0, .ref (q 5)), (1, .int x1), (2, .int x2)] := hl
  unfold wp_X2_unlike at hw
  refine lv_aload_n hx hb dX2_unlike_0 rfl (lv_at hl 0 rfl) ?_
  refine lv_iload_n hx hb dX2_unlike_1 rfl (lv_at hl 1 rfl) ?_
  refine lv_aload_n hx hb dX2_unlike_2 rfl (lv_at hl 0 rfl) ?_
  refine va_get (D := D) (ci := 2) (v := .ref (q 2)) (C := RX2) (T := TX2) (N := 5) hx hb hts hiX2 hown hK hP 5 rfl rfl 1 (by decide) hf22 (fun _ h9 => h9) rfl dX2_unlike_3 ?_
  refine va_getN (D := D) (ci := 5) (v := .ref (q 14)) (C := RX5) (T := TX5) (N := 6) hx hb hts hiX5 hown hK hP 2 rfl rfl 2 (by decide) (va_Nw.use rfl (nf_RX2_113 hN)) (fun _ h9 => h9) rfl dX2_unlike_6 ?_
  refine lv_aload_n hx hb dX2_unlike_9 rfl (lv_at hl 0 rfl) ?_
  refine va_get (D := D) (ci := 2) (v := .ref (q 3)) (C := RX2) (T := TX2) (N := 5) hx hb hts hiX2 hown hK hP 5 rfl rfl 2 (by decide) hf26 (fun _ h9 => h9) rfl dX2_unlike_10 ?_
  refine va_getN (D := D) (ci := 3) (v := .long (u.2 6 0)) (C := RX3) (T := TX3) (N := 9) hx hb hts hiX3 hown hK hP 3 rfl rfl 4 (by decide) (va_Nw.use rfl (nf_RX2_109 hN)) (fun _ h9 => h9) rfl dX2_unlike_13 ?_
  refine cMv (sh_wX q cI cJ cZ) (u := u) (va_runV (As := [.int x1, .ref (q 14), .long (u.2 6 0)]) (rest := []) ⟨hx, hb, hml, hown, hts⟩ (c_X2_run_c14 l D q cI cJ cZ _ u x1 (u.2 6 0) _ hw) (cwV 3 hts gX2_unlike_X2_run rfl rfl rfl (by decide +kernel) ⟨Nat.le_of_ble_eq_true rfl, Nat.le_of_ble_eq_true rfl⟩) (pvM (va_recv hK hP (ci := 2) (q0 := 5) (q := (RX2, TX2, 5)) rfl rfl) hK hP hD hN) rfl rfl hl.1 rfl (lv_room (Nat.le_of_ble_eq_true rfl)) dX2_unlike_16 ⟨Nat.zero_le _, Nat.zero_le _⟩) hA hD hS (fun u10 H locs hw hP hD hS => ?_)
  refine lv_aload_n hx hb dX2_unlike_19 rfl (lv_at hl 0 rfl) ?_
  refine va_get (D := D) (ci := 2) (v := .ref (q 27)) (C := RX2) (T := TX2) (N := 5) hx hb hts hiX2 hown hK hP 5 rfl rfl 3 (by decide) hf9 (fun _ h9 => h9) rfl dX2_unlike_20 ?_
  refine lv_iconst (v := 0) hx hb dX2_unlike_23 (by decide) ?_
  refine lv_aload_n hx hb dX2_unlike_24 rfl (lv_at hl 0 rfl) ?_
  refine va_get (D := D) (ci := 2) (v := .ref (q 28)) (C := RX2) (T := TX2) (N := 5) hx hb hts hiX2 hown hK hP 5 rfl rfl 4 (by decide) hf15 (fun _ h9 => h9) rfl dX2_unlike_25 ?_
  refine lv_iconst (v := 0) hx hb dX2_unlike_28 (by decide) ?_
  refine lv_bipush (v := 24) hx hb dX2_unlike_29 (by decide) ?_
  refine va_copyl hx hb (hml.trans hl.1.symm) hown hl124 hyN hyS hyI hK hP hD hS 27 28 1 1 rfl rfl rfl rfl rfl (by decide) (by decide) (by decide) (by decide) (by decide) (fun _ _ => rfl) (Nat.le_of_ble_eq_true rfl) (by decide +kernel) dX2_unlike_31 (sPut (w := wX q cI cJ cZ) (uu := uJ u10 5 (va_cpy (u10.2 4) (u10.2 5) (0 : Int32).toNatClampNeg (0 : Int32).toNatClampNeg (24 : Int32).toNatClampNeg)) (wXa_28 q cI cJ cZ u10 _) (fun u11 H locs eu11 hP hD hS => ?_))
  have hw := hw u11 eu11
  refine lv_aload_n hx hb dX2_unlike_34 rfl (lv_at hl 0 rfl) ?_
  refine lv_iload_n hx hb dX2_unlike_35 rfl (lv_at hl 2 rfl) ?_
  refine lv_aload_n hx hb dX2_unlike_36 rfl (lv_at hl 0 rfl) ?_
  refine va_get (D := D) (ci := 2) (v := .ref (q 2)) (C := RX2) (T := TX2) (N := 5) hx hb hts hiX2 hown hK hP 5 rfl rfl 1 (by decide) hf22 (fun _ h9 => h9) rfl dX2_unlike_37 ?_
  refine va_getN (D := D) (ci := 5) (v := .ref (q 14)) (C := RX5) (T := TX5) (N := 6) hx hb hts hiX5 hown hK hP 2 rfl rfl 2 (by decide) (va_Nw.use rfl (nf_RX2_113 hN)) (fun _ h9 => h9) rfl dX2_unlike_40 ?_
  refine lv_aload_n hx hb dX2_unlike_43 rfl (lv_at hl 0 rfl) ?_
  refine va_get (D := D) (ci := 2) (v := .ref (q 3)) (C := RX2) (T := TX2) (N := 5) hx hb hts hiX2 hown hK hP 5 rfl rfl 2 (by decide) hf26 (fun _ h9 => h9) rfl dX2_unlike_44 ?_
  refine va_getN (D := D) (ci := 3) (v := .long (u11.2 6 0)) (C := RX3) (T := TX3) (N := 9) hx hb hts hiX3 hown hK hP 3 rfl rfl 4 (by decide) (va_Nw.use rfl (nf_RX2_109 hN)) (fun _ h9 => h9) rfl dX2_unlike_47 ?_
  refine cMv (sh_wX q cI cJ cZ) (u := u11) (va_runV (As := [.int x2, .ref (q 14), .long (u11.2 6 0)]) (rest := []) ⟨hx, hb, hml, hown, hts⟩ (c_X2_run_c14 l D q cI cJ cZ _ u11 x2 (u11.2 6 0) _ hw) (cwV 3 hts gX2_unlike_X2_run rfl rfl rfl (by decide +kernel) ⟨Nat.le_of_ble_eq_true rfl, Nat.le_of_ble_eq_true rfl⟩) (pvM (va_recv hK hP (ci := 2) (q0 := 5) (q := (RX2, TX2, 5)) rfl rfl) hK hP hD hN) rfl rfl hl.1 rfl (lv_room (Nat.le_of_ble_eq_true rfl)) dX2_unlike_50 ⟨Nat.zero_le _, Nat.zero_le _⟩) hA hD hS (fun u12 H locs hw hP hD hS => ?_)
  refine lv_iconst (v := 0) hx hb dX2_unlike_53 (by decide) ?_
  refine lv_istore_n (lv' := [(3, .int 0), (0, .ref (q 5)), (1, .int x1), (2, .int x2)]) hx hb dX2_unlike_54 rfl hl (by decide) rfl (fun ls hl => ?_)
  refine lv_iconst (v := 0) hx hb dX2_unlike_55 (by decide) ?_
  refine lv_istore (lv' := [(4, .int 0), (3, .int 0), (0, .ref (q 5)), (1, .int x1), (2, .int x2)]) hx hb dX2_unlike_56 hl (by decide) rfl (fun ls hl => ?_)
  obtain ⟨nn, hw⟩ := hw
  refine L58 nn 0 0 u12 _ _ hw hP hD hS ls (lv_sub hl [2, 1, 0] rfl)
set_option maxHeartbeats 4000000 in
set_option maxRecDepth 100000 in
theorem c_X8_differ (l : Launch) (D : va_G) (q : Nat → Nat) (cI cJ cZ : ClassId) (sz : Nat) (u : WU) (x1 : Int32) (x2 : Int32) (x3 : Int32) (post : Int32 → WU → Prop) (hw : wp_X8_differ x1 x2 x3 u post) : Met l yX8_differ wsX8_differ rm_X8_differ (va_Pc [.ref (q 0), .int x1, .int x2, .int x3] (MW D (ty3 cI cJ cZ) (wX q cI cJ cZ u) sz)) (va_Qi post (fun u' t => va_P D vwCl (wX q cI cJ cZ u') t.heap) (va_A (wX q cI cJ cZ u00) sz)) 0 0 (va_A (wX q cI cJ cZ u00) sz) := by
  refine Met.ofW (cc := cX8_differ) (maxL := 4) (ret := (some .int)) (by decide) rfl ?_
  intro p e s m args below meth c s₁ B hml hv
  obtain ⟨hargs, hsz, hP, hK, hD0, hN⟩ := hv
  have hx := B.exec
  have hb := B.bytes
  have hr := B.returns
  have hts := atoms_spec (ws := wsX8_differ) B.pre
  have hown : s.vm.findClass RX8 = some m.cls := findClass_of_methodNamed B.named
  have hlocks := B.notSynchronized
  subst hsz
  have hD := shw_self (sz := s.heap.size) (sh_wX q cI cJ cZ) hD0
  have hA : ∀ a : Nat, s.heap.size ≤ a → va_A (wX q cI cJ cZ u00) s.heap.size a := fun _ h => Or.inr h
  have hS : va_S (va_A (wX q cI cJ cZ u00) s.heap.size) s.heap s.heap [] := va_S.rf
  have hiX8 : ∀ w ∈ u_ws RX8 TX8 8, w ∈ wsX8_differ := by decide +kernel
  have hf42 := hts (.fieldLink RX8 42 "TermsDesk" "flow" "LTermsDesk$Flow;") (by decide +kernel)
  have hent := lg_entry_eq m ([.ref (q 0), .int x1, .int x2, .int x3]) 4
  rw [← hargs] at hent
  rw [hent]
  have hl := lv_entry ([.ref (q 0), .int x1, .int x2, .int x3]) (n := 4) (Nat.le_of_ble_eq_true rfl)
  generalize (lg_sl ([.ref (q 0), .int x1, .int x2, .int x3]) ++ List.replicate (4 - (lg_sl ([.ref (q 0), .int x1, .int x2, .int x3])).length) Slot.unset).toArray = ls at hl ⊢
  have hl : lv_has ls 4 [(0, .ref (q 0)), (1, .int x1), (2, .int x2), (3, .int x3)] := hl
  unfold wp_X8_differ at hw
  refine lv_iload_n hx hb dX8_differ_0 rfl (lv_at hl 1 rfl) ?_
  refine lv_iconst (v := 4) hx hb dX8_differ_1 (by decide) ?_
  refine vp_callSi (va_Run.run (va_runS (As := [.int x1, .int 4]) (rest := []) ⟨hx, hb, hml, hown, hts⟩ (c_X8_within l x1 4 _ hw) (va_cwS 2 hts gX8_differ_X8_within rfl rfl rfl (by decide +kernel) ⟨Nat.le_of_ble_eq_true rfl, Nat.le_of_ble_eq_true rfl⟩) (psS hN) rfl rfl hl.1 rfl (lv_room (Nat.le_of_ble_eq_true rfl)) dX8_differ_2 ⟨Nat.zero_le _, Nat.zero_le _⟩)) (fun r1 hw => ?_)
  refine lv_if_eq (tgt := 16) hx hb dX8_differ_5 (by decide) (fun hc => ?_) (fun hc => ?_)
  · have hw := hw.1 hc
    refine lv_iconst (v := (-1)) hx hb dX8_differ_16 (by decide) ?_
    exact W.iret (v := (-1)) hx hb hr (fun t ht hW => ⟨⟨(-1), u, rfl, hw, by show va_P D vwCl _ t.heap; rw [ht]; exact hP⟩, hS.F ht⟩) hS.2.2 dX8_differ_17
  · have hw := hw.2 hc
    refine lv_iload_n hx hb dX8_differ_8 rfl (lv_at hl 2 rfl) ?_
    refine lv_iconst (v := 4) hx hb dX8_differ_9 (by decide) ?_
    refine vp_callSi (va_Run.run (va_runS (As := [.int x2, .int 4]) (rest := []) ⟨hx, hb, hml, hown, hts⟩ (c_X8_within l x2 4 _ hw) (va_cwS 2 hts gX8_differ_X8_within rfl rfl rfl (by decide +kernel) ⟨Nat.le_of_ble_eq_true rfl, Nat.le_of_ble_eq_true rfl⟩) (psS hN) rfl rfl hl.1 rfl (lv_room (Nat.le_of_ble_eq_true rfl)) dX8_differ_10 ⟨Nat.zero_le _, Nat.zero_le _⟩)) (fun r2 hw => ?_)
    refine lv_if_ne (tgt := 18) hx hb dX8_differ_13 (by decide) (fun hc => ?_) (fun hc => ?_)
    · have hw := hw.1 hc
      refine lv_aload_n hx hb dX8_differ_18 rfl (lv_at hl 0 rfl) ?_
      refine va_get (D := D) (ci := 8) (v := .ref (q 5)) (C := RX8) (T := TX8) (N := 8) hx hb hts hiX8 hown hK hP 0 rfl rfl 4 (by decide) hf42 (fun _ h9 => h9) rfl dX8_differ_19 ?_
      refine lv_iload_n hx hb dX8_differ_22 rfl (lv_at hl 1 rfl) ?_
      refine lv_iload_n hx hb dX8_differ_23 rfl (lv_at hl 2 rfl) ?_
      refine cMi (sh_wX q cI cJ cZ) (u := u) (va_runV (As := [.int x1, .int x2]) (rest := []) ⟨hx, hb, hml, hown, hts⟩ (c_X2_unlike l D q cI cJ cZ _ u x1 x2 _ hw) (cwV 2 hts gX8_differ_X2_unlike rfl rfl rfl (by decide +kernel) ⟨Nat.le_of_ble_eq_true rfl, Nat.le_of_ble_eq_true rfl⟩) (pvM (va_recv hK hP (ci := 2) (q0 := 5) (q := (RX2, TX2, 5)) rfl rfl) hK hP hD hN) rfl rfl hl.1 rfl (lv_room (Nat.le_of_ble_eq_true rfl)) dX8_differ_24 ⟨Nat.zero_le _, Nat.zero_le _⟩) hA hD hS (fun r4 u3 H locs hw hP hD hS => ?_)
      refine lv_iload_n hx hb dX8_differ_27 rfl (lv_at hl 3 rfl) ?_
      refine vp_callSi (va_Run.run (va_runS (As := [.int r4, .int x3]) (rest := []) ⟨hx, hb, hml, hown, hts⟩ (c_X8_memberAt l r4 x3 _ hw) (va_cwS 2 hts gX8_differ_X8_memberAt rfl rfl rfl (by decide +kernel) ⟨Nat.le_of_ble_eq_true rfl, Nat.le_of_ble_eq_true rfl⟩) (psS hN) rfl rfl hl.1 rfl (lv_room (Nat.le_of_ble_eq_true rfl)) dX8_differ_28 ⟨Nat.zero_le _, Nat.zero_le _⟩)) (fun r5 hw => ?_)
      exact W.iret (v := r5) hx hb hr (fun t ht hW => ⟨⟨r5, u3, rfl, hw, by show va_P D vwCl _ t.heap; rw [ht]; exact hP⟩, hS.F ht⟩) hS.2.2 dX8_differ_31
    · have hw := hw.2 hc
      refine lv_iconst (v := (-1)) hx hb dX8_differ_16 (by decide) ?_
      exact W.iret (v := (-1)) hx hb hr (fun t ht hW => ⟨⟨(-1), u, rfl, hw, by show va_P D vwCl _ t.heap; rw [ht]; exact hP⟩, hS.F ht⟩) hS.2.2 dX8_differ_17
set_option maxHeartbeats 4000000 in
set_option maxRecDepth 100000 in
theorem c_X9_differ (l : Launch) (D : va_G) (q : Nat → Nat) (cI cJ cZ : ClassId) (sz : Nat) (u : WU) (x1 : Int32) (x2 : Int32) (x3 : Int32) (post : Int32 → WU → Prop) (hw : wp_X9_differ x1 x2 x3 u post) : Met l yX9_differ wsX9_differ rm_X9_differ (va_Pc [.ref (q 0), .int x1, .int x2, .int x3] (MW D (ty3 cI cJ cZ) (wM q cI cJ cZ u) sz)) (va_Qi post (fun u' t => va_P D vwCl (wM q cI cJ cZ u') t.heap) (va_A (wM q cI cJ cZ u00) sz)) 0 0 (va_A (wM q cI cJ cZ u00) sz) := by
  refine Met.ofW (cc := cX9_differ) (maxL := 6) (ret := (some .int)) (by decide) rfl ?_
  intro p e s m args below meth c s₁ B hml hv
  obtain ⟨hargs, hsz, hP, hK, hD0, hN⟩ := hv
  have hx := B.exec
  have hb := B.bytes
  have hr := B.returns
  have hts := atoms_spec (ws := wsX9_differ) B.pre
  have hown : s.vm.findClass RX9 = some m.cls := findClass_of_methodNamed B.named
  have hlocks := B.notSynchronized
  subst hsz
  have hD := shw_self (sz := s.heap.size) (sh_wM q cI cJ cZ) hD0
  have hA : ∀ a : Nat, s.heap.size ≤ a → va_A (wM q cI cJ cZ u00) s.heap.size a := fun _ h => Or.inr h
  have hS : va_S (va_A (wM q cI cJ cZ u00) s.heap.size) s.heap s.heap [] := va_S.rf
  have hiX9 : ∀ w ∈ u_ws RX9 TX9 30, w ∈ wsX9_differ := by decide +kernel
  have hf57 := hts (.fieldLink RX9 57 "TermsDeskModel" "isReached" "[Z") (by decide +kernel)
  have hf66 := hts (.fieldLink RX9 66 "TermsDeskModel" "come" "[J") (by decide +kernel)
  have hf84 := hts (.fieldLink RX9 84 "TermsDeskModel" "other" "[J") (by decide +kernel)
  have hf87 := hts (.fieldLink RX9 87 "TermsDeskModel" "parts" "I") (by decide +kernel)
  have L28 : ∀ {K57 : WU → Prop} (x1 : Int32) (x3 : Int32) (n : Nat) (x4 : Int32) (u : WU) (H : Heap) (locs : List Loc), wp_X9_differ_L28 x1 x3 post K57 n x4 u → va_P D vwCl (wM q cI cJ cZ u) H → va_D (va_A (wM q cI cJ cZ u00) s.heap.size) (wM q cI cJ cZ u) → va_S (va_A (wM q cI cJ cZ u00) s.heap.size) s.heap H locs → ∀ ls : Array Slot, lv_has ls 6 [(0, .ref (q 0)), (1, .int x1), (3, .int x3), (4, .int x4)] → (∀ (u : WU) (H : Heap) (locs : List Loc), K57 u → va_P D vwCl (wM q cI cJ cZ u) H → va_D (va_A (wM q cI cJ cZ u00) s.heap.size) (wM q cI cJ cZ u) → va_S (va_A (wM q cI cJ cZ u00) s.heap.size) s.heap H locs → ∀ ls : Array Slot, lv_has ls 6 [(0, .ref (q 0)), (1, .int x1), (3, .int x3)] → W p l e (headSpec wsX9_differ rm_X9_differ).room s m args below meth c H locs 0 0 (MQ below (va_Qi post (fun u' t => va_P D vwCl (wM q cI cJ cZ u') t.heap) (va_A (wM q cI cJ cZ u00) s.heap.size)) args s 0 0 (va_A (wM q cI cJ cZ u00) s.heap.size)) (F0 m 57 ls [])) → W p l e (headSpec wsX9_differ rm_X9_differ).room s m args below meth c H locs 0 0 (MQ below (va_Qi post (fun u' t => va_P D vwCl (wM q cI cJ cZ u') t.heap) (va_A (wM q cI cJ cZ u00) s.heap.size)) args s 0 0 (va_A (wM q cI cJ cZ u00) s.heap.size)) (F0 m 28 ls []) := by
    intro K57 x1 x3 n
    induction n with
    | zero =>
      intro x4 u H locs hw
      exact hw.elim
    | succ n ih =>
      intro x4 u H locs hw hP hD hS ls hl k57
      unfold wp_X9_differ_L28 at hw
      refine lv_iload hx hb dX9_differ_28 (lv_at hl 3 rfl) ?_
      refine lv_aload_n hx hb dX9_differ_30 rfl (lv_at hl 0 rfl) ?_
      refine va_get (D := D) (ci := 9) (v := .int (u.1 21 0)) (C := RX9) (T := TX9) (N := 30) hx hb hts hiX9 hown hK hP 0 rfl rfl 3 (by decide) hf87 (fun _ h9 => h9) rfl dX9_differ_31 ?_
      refine lv_icmp_ge (tgt := 57) hx hb dX9_differ_34 (by decide) (fun hc => ?_) (fun hc => ?_)
      · have hw := hw.1 hc
        exact k57 u _ _ hw hP hD hS ls (lv_sub hl [0, 1, 2] rfl)
      · have hw := hw.2 hc
        refine lv_aload_n hx hb dX9_differ_37 rfl (lv_at hl 0 rfl) ?_
        refine va_get (D := D) (ci := 9) (v := .ref (q 25)) (C := RX9) (T := TX9) (N := 30) hx hb hts hiX9 hown hK hP 0 rfl rfl 29 (by decide) hf84 (fun _ h9 => h9) rfl dX9_differ_38 ?_
        refine lv_iload hx hb dX9_differ_41 (lv_at hl 3 rfl) ?_
        refine lv_aload_n hx hb dX9_differ_43 rfl (lv_at hl 0 rfl) ?_
        refine va_get (D := D) (ci := 9) (v := .ref (q 19)) (C := RX9) (T := TX9) (N := 30) hx hb hts hiX9 hown hK hP 0 rfl rfl 22 (by decide) hf66 (fun _ h9 => h9) rfl dX9_differ_44 ?_
        refine lv_iload hx hb dX9_differ_47 (lv_at hl 3 rfl) ?_
        obtain ⟨hin, hw⟩ := hw
        refine va_lald hx hb hK hP 19 1 rfl rfl hin dX9_differ_49 ?_
        obtain ⟨hin, hw⟩ := hw
        refine sLast (w := wM q cI cJ cZ) hx hb hK hP hD hS 25 1 3 rfl rfl (wMa_25 q cI cJ cZ u) hin dX9_differ_50 (fun u1 H locs eu1 hP hD hS => ?_)
        have hw := hw u1 eu1
        obtain ⟨y2, ey2⟩ : ∃ z : Int32, z = x4 + 1 := ⟨_, rfl⟩
        have hw := hw y2 ey2
        refine lv_iinc (v := y2) (lv' := [(4, .int y2), (0, .ref (q 0)), (1, .int x1), (3, .int x3)]) hx hb dX9_differ_51 hl (k := 3) rfl (by rw [ey2]; rfl) (by decide) rfl (fun ls hl => ?_)
        refine lv_goto (tgt := 28) hx hb dX9_differ_54 (by decide) ?_
        exact ih y2 u1 _ _ hw hP hD hS ls (lv_sub hl [1, 2, 3, 0] rfl) k57
  have J120 : ∀ {K68 : Int32 → Int32 → WU → Prop} (x3 : Int32) (x4 : Int32) (x5 : Int32) (u : WU) (H : Heap) (locs : List Loc), wp_X9_differ_J120 x3 x4 x5 u post K68 → va_P D vwCl (wM q cI cJ cZ u) H → va_D (va_A (wM q cI cJ cZ u00) s.heap.size) (wM q cI cJ cZ u) → va_S (va_A (wM q cI cJ cZ u00) s.heap.size) s.heap H locs → ∀ ls : Array Slot, lv_has ls 6 [(0, .ref (q 0)), (3, .int x3), (4, .int x4), (5, .int x5)] → (∀ (x4 : Int32) (x5 : Int32) (u : WU) (H : Heap) (locs : List Loc), K68 x4 x5 u → va_P D vwCl (wM q cI cJ cZ u) H → va_D (va_A (wM q cI cJ cZ u00) s.heap.size) (wM q cI cJ cZ u) → va_S (va_A (wM q cI cJ cZ u00) s.heap.size) s.heap H locs → ∀ ls : Array Slot, lv_has ls 6 [(0, .ref (q 0)), (3, .int x3), (4, .int x4), (5, .int x5)] → W p l e (headSpec wsX9_differ rm_X9_differ).room s m args below meth c H locs 0 0 (MQ below (va_Qi post (fun u' t => va_P D vwCl (wM q cI cJ cZ u') t.heap) (va_A (wM q cI cJ cZ u00) s.heap.size)) args s 0 0 (va_A (wM q cI cJ cZ u00) s.heap.size)) (F0 m 68 ls [])) → W p l e (headSpec wsX9_differ rm_X9_differ).room s m args below meth c H locs 0 0 (MQ below (va_Qi post (fun u' t => va_P D vwCl (wM q cI cJ cZ u') t.heap) (va_A (wM q cI cJ cZ u00) s.heap.size)) args s 0 0 (va_A (wM q cI cJ cZ u00) s.heap.size)) (F0 m 120 ls []) := by
    intro K68 x3 x4 x5 u H locs hw hP hD hS ls hl k68
    unfold wp_X9_differ_J120 at hw
    obtain ⟨y13, ey13⟩ : ∃ z : Int32, z = x5 + 1 := ⟨_, rfl⟩
    have hw := hw y13 ey13
    refine lv_iinc (v := y13) (lv' := [(5, .int y13), (0, .ref (q 0)), (3, .int x3), (4, .int x4)]) hx hb dX9_differ_120 hl (k := 3) rfl (by rw [ey13]; rfl) (by decide) rfl (fun ls hl => ?_)
    refine lv_goto (tgt := 68) hx hb dX9_differ_123 (by decide) ?_
    exact k68 x4 y13 u _ _ hw hP hD hS ls (lv_sub hl [1, 2, 3, 0] rfl)
  have L68 : ∀ (x3 : Int32) (n : Nat) (x4 : Int32) (x5 : Int32) (u : WU) (H : Heap) (locs : List Loc), wp_X9_differ_L68 x3 post n x4 x5 u → va_P D vwCl (wM q cI cJ cZ u) H → va_D (va_A (wM q cI cJ cZ u00) s.heap.size) (wM q cI cJ cZ u) → va_S (va_A (wM q cI cJ cZ u00) s.heap.size) s.heap H locs → ∀ ls : Array Slot, lv_has ls 6 [(0, .ref (q 0)), (3, .int x3), (4, .int x4), (5, .int x5)] → W p l e (headSpec wsX9_differ rm_X9_differ).room s m args below meth c H locs 0 0 (MQ below (va_Qi post (fun u' t => va_P D vwCl (wM q cI cJ cZ u') t.heap) (va_A (wM q cI cJ cZ u00) s.heap.size)) args s 0 0 (va_A (wM q cI cJ cZ u00) s.heap.size)) (F0 m 68 ls []) := by
    intro x3 n
    induction n with
    | zero =>
      intro x4 x5 u H locs hw
      exact hw.elim
    | succ n ih =>
      intro x4 x5 u H locs hw hP hD hS ls hl 
      unfold wp_X9_differ_L68 at hw
      refine lv_iload hx hb dX9_differ_68 (lv_at hl 3 rfl) ?_
      refine lv_aload_n hx hb dX9_differ_70 rfl (lv_at hl 0 rfl) ?_
      refine va_get (D := D) (ci := 9) (v := .int (u.1 21 0)) (C := RX9) (T := TX9) (N := 30) hx hb hts hiX9 hown hK hP 0 rfl rfl 3 (by decide) hf87 (fun _ h9 => h9) rfl dX9_differ_71 ?_
      refine lv_icmp_ge (tgt := 126) hx hb dX9_differ_74 (by decide) (fun hc => ?_) (fun hc => ?_)
      · have hw := hw.1 hc
        refine lv_iconst (v := (-1)) hx hb dX9_differ_126 (by decide) ?_
        exact W.iret (v := (-1)) hx hb hr (fun t ht hW => ⟨⟨(-1), u, rfl, hw, by show va_P D vwCl _ t.heap; rw [ht]; exact hP⟩, hS.F ht⟩) hS.2.2 dX9_differ_127
      · have hw := hw.2 hc
        refine lv_aload_n hx hb dX9_differ_77 rfl (lv_at hl 0 rfl) ?_
        refine va_get (D := D) (ci := 9) (v := .ref (q 16)) (C := RX9) (T := TX9) (N := 30) hx hb hts hiX9 hown hK hP 0 rfl rfl 19 (by decide) hf57 (fun _ h9 => h9) rfl dX9_differ_78 ?_
        refine lv_iload hx hb dX9_differ_81 (lv_at hl 3 rfl) ?_
        obtain ⟨hin, hw⟩ := hw
        refine va_zald hx hb hK hP 16 2 rfl rfl hin dX9_differ_83 ?_
        refine lv_if_eq (tgt := 120) hx hb dX9_differ_84 (by decide) (fun hc => ?_) (fun hc => ?_)
        · have hw := hw.1 hc
          refine J120 x3 x4 x5 u _ _ hw hP hD hS ls (lv_sub hl [0, 1, 2, 3] rfl) (fun y3 y4 u5 H locs hw hP hD hS ls hl => ?_)
          exact ih y3 y4 u5 _ _ hw hP hD hS ls (lv_sub hl [0, 1, 2, 3] rfl)
        · have hw := hw.2 hc
          refine lv_aload_n hx hb dX9_differ_87 rfl (lv_at hl 0 rfl) ?_
          refine va_get (D := D) (ci := 9) (v := .ref (q 19)) (C := RX9) (T := TX9) (N := 30) hx hb hts hiX9 hown hK hP 0 rfl rfl 22 (by decide) hf66 (fun _ h9 => h9) rfl dX9_differ_88 ?_
          refine lv_iload hx hb dX9_differ_91 (lv_at hl 3 rfl) ?_
          obtain ⟨hin, hw⟩ := hw
          refine va_lald hx hb hK hP 19 1 rfl rfl hin dX9_differ_93 ?_
          refine lv_aload_n hx hb dX9_differ_94 rfl (lv_at hl 0 rfl) ?_
          refine va_get (D := D) (ci := 9) (v := .ref (q 25)) (C := RX9) (T := TX9) (N := 30) hx hb hts hiX9 hown hK hP 0 rfl rfl 29 (by decide) hf84 (fun _ h9 => h9) rfl dX9_differ_95 ?_
          refine lv_iload hx hb dX9_differ_98 (lv_at hl 3 rfl) ?_
          obtain ⟨hin, hw⟩ := hw
          refine va_lald hx hb hK hP 25 1 rfl rfl hin dX9_differ_100 ?_
          refine W.lcmp hx hb dX9_differ_101 ?_
          refine lv_if_ne (tgt := 108) hx hb dX9_differ_102 (by decide) (fun hc => ?_) (fun hc => ?_)
          · have hw := hw.1 hc
            refine lv_iload hx hb dX9_differ_108 (lv_at hl 2 rfl) ?_
            refine lv_iload_n hx hb dX9_differ_110 rfl (lv_at hl 1 rfl) ?_
            refine lv_icmp_ne (tgt := 117) hx hb dX9_differ_111 (by decide) (fun hc => ?_) (fun hc => ?_)
            · have hw := hw.1 hc
              obtain ⟨y6, ey6⟩ : ∃ z : Int32, z = x4 + 1 := ⟨_, rfl⟩
              have hw := hw y6 ey6
              refine lv_iinc (v := y6) (lv' := [(4, .int y6), (0, .ref (q 0)), (3, .int x3), (5, .int x5)]) hx hb dX9_differ_117 hl (k := 2) rfl (by rw [ey6]; rfl) (by decide) rfl (fun ls hl => ?_)
              refine J120 x3 y6 x5 u _ _ hw hP hD hS ls (lv_sub hl [1, 2, 0, 3] rfl) (fun y7 y8 u9 H locs hw hP hD hS ls hl => ?_)
              exact ih y7 y8 u9 _ _ hw hP hD hS ls (lv_sub hl [0, 1, 2, 3] rfl)
            · have hw := hw.2 hc
              refine lv_iload hx hb dX9_differ_114 (lv_at hl 3 rfl) ?_
              exact W.iret (v := x5) hx hb hr (fun t ht hW => ⟨⟨x5, u, rfl, hw, by show va_P D vwCl _ t.heap; rw [ht]; exact hP⟩, hS.F ht⟩) hS.2.2 dX9_differ_116
          · have hw := hw.2 hc
            refine lv_goto (tgt := 120) hx hb dX9_differ_105 (by decide) ?_
            refine J120 x3 x4 x5 u _ _ hw hP hD hS ls (lv_sub hl [0, 1, 2, 3] rfl) (fun y10 y11 u12 H locs hw hP hD hS ls hl => ?_)
            exact ih y10 y11 u12 _ _ hw hP hD hS ls (lv_sub hl [0, 1, 2, 3] rfl)
  have hent := lg_entry_eq m ([.ref (q 0), .int x1, .int x2, .int x3]) 6
  rw [← hargs] at hent
  rw [hent]
  have hl := lv_entry ([.ref (q 0), .int x1, .int x2, .int x3]) (n := 6) (Nat.le_of_ble_eq_true rfl)
  generalize (lg_sl ([.ref (q 0), .int x1, .int x2, .int x3]) ++ List.replicate (6 - (lg_sl ([.ref (q 0), .int x1, .int x2, .int x3])).length) Slot.unset).toArray = ls at hl ⊢
  have hl : lv_has ls 6 [(0, .ref (q 0)), (1, .int x1), (2, .int x2), (3, .int x3)] := hl
  unfold wp_X9_differ at hw
  refine lv_iload_n hx hb dX9_differ_0 rfl (lv_at hl 1 rfl) ?_
  refine vp_callSi (va_Run.run (va_runS (As := [.int x1]) (rest := []) ⟨hx, hb, hml, hown, hts⟩ (c_X9_isShipping l x1 _ hw) (va_cwS 1 hts gX9_differ_X9_isShipping rfl rfl rfl (by decide +kernel) ⟨Nat.le_of_ble_eq_true rfl, Nat.le_of_ble_eq_true rfl⟩) (psS hN) rfl rfl hl.1 rfl (lv_room (Nat.le_of_ble_eq_true rfl)) dX9_differ_1 ⟨Nat.zero_le _, Nat.zero_le _⟩)) (fun r14 hw => ?_)
  refine lv_if_eq (tgt := 18) hx hb dX9_differ_4 (by decide) (fun hc => ?_) (fun hc => ?_)
  · have hw := hw.1 hc
    refine lv_iconst (v := (-1)) hx hb dX9_differ_18 (by decide) ?_
    exact W.iret (v := (-1)) hx hb hr (fun t ht hW => ⟨⟨(-1), u, rfl, hw, by show va_P D vwCl _ t.heap; rw [ht]; exact hP⟩, hS.F ht⟩) hS.2.2 dX9_differ_19
  · have hw := hw.2 hc
    refine lv_iload_n hx hb dX9_differ_7 rfl (lv_at hl 2 rfl) ?_
    refine vp_callSi (va_Run.run (va_runS (As := [.int x2]) (rest := []) ⟨hx, hb, hml, hown, hts⟩ (c_X9_isShipping l x2 _ hw) (va_cwS 1 hts gX9_differ_X9_isShipping rfl rfl rfl (by decide +kernel) ⟨Nat.le_of_ble_eq_true rfl, Nat.le_of_ble_eq_true rfl⟩) (psS hN) rfl rfl hl.1 rfl (lv_room (Nat.le_of_ble_eq_true rfl)) dX9_differ_8 ⟨Nat.zero_le _, Nat.zero_le _⟩)) (fun r15 hw => ?_)
    refine lv_if_eq (tgt := 18) hx hb dX9_differ_11 (by decide) (fun hc => ?_) (fun hc => ?_)
    · have hw := hw.1 hc
      refine lv_iconst (v := (-1)) hx hb dX9_differ_18 (by decide) ?_
      exact W.iret (v := (-1)) hx hb hr (fun t ht hW => ⟨⟨(-1), u, rfl, hw, by show va_P D vwCl _ t.heap; rw [ht]; exact hP⟩, hS.F ht⟩) hS.2.2 dX9_differ_19
    · have hw := hw.2 hc
      refine lv_iload_n hx hb dX9_differ_14 rfl (lv_at hl 3 rfl) ?_
      refine lv_if_ge (tgt := 20) hx hb dX9_differ_15 (by decide) (fun hc => ?_) (fun hc => ?_)
      · have hw := hw.1 hc
        refine lv_aload_n hx hb dX9_differ_20 rfl (lv_at hl 0 rfl) ?_
        refine lv_iload_n hx hb dX9_differ_21 rfl (lv_at hl 2 rfl) ?_
        refine cMv (sh_wM q cI cJ cZ) (u := u) (va_runV (As := [.int x2]) (rest := []) ⟨hx, hb, hml, hown, hts⟩ (c_X9_works l D q cI cJ cZ _ u x2 _ hw) (cwV 1 hts gX9_differ_X9_works rfl rfl rfl (by decide +kernel) ⟨Nat.le_of_ble_eq_true rfl, Nat.le_of_ble_eq_true rfl⟩) (pvM (va_recv hK hP (ci := 9) (q0 := 0) (q := (RX9, TX9, 30)) rfl rfl) hK hP hD hN) rfl rfl hl.1 rfl (lv_room (Nat.le_of_ble_eq_true rfl)) dX9_differ_22 ⟨Nat.zero_le _, Nat.zero_le _⟩) hA hD hS (fun u16 H locs hw hP hD hS => ?_)
        refine lv_iconst (v := 0) hx hb dX9_differ_25 (by decide) ?_
        refine lv_istore (lv' := [(4, .int 0), (0, .ref (q 0)), (1, .int x1), (2, .int x2), (3, .int x3)]) hx hb dX9_differ_26 hl (by decide) rfl (fun ls hl => ?_)
        obtain ⟨nn, hw⟩ := hw
        refine L28 x1 x3 nn 0 u16 _ _ hw hP hD hS ls (lv_sub hl [1, 2, 4, 0] rfl) (fun  u17 H locs hw hP hD hS ls hl => ?_)
        refine lv_aload_n hx hb dX9_differ_57 rfl (lv_at hl 0 rfl) ?_
        refine lv_iload_n hx hb dX9_differ_58 rfl (lv_at hl 1 rfl) ?_
        refine cMv (sh_wM q cI cJ cZ) (u := u17) (va_runV (As := [.int x1]) (rest := []) ⟨hx, hb, hml, hown, hts⟩ (c_X9_works l D q cI cJ cZ _ u17 x1 _ hw) (cwV 1 hts gX9_differ_X9_works rfl rfl rfl (by decide +kernel) ⟨Nat.le_of_ble_eq_true rfl, Nat.le_of_ble_eq_true rfl⟩) (pvM (va_recv hK hP (ci := 9) (q0 := 0) (q := (RX9, TX9, 30)) rfl rfl) hK hP hD hN) rfl rfl hl.1 rfl (lv_room (Nat.le_of_ble_eq_true rfl)) dX9_differ_59 ⟨Nat.zero_le _, Nat.zero_le _⟩) hA hD hS (fun u18 H locs hw hP hD hS => ?_)
        refine lv_iconst (v := 0) hx hb dX9_differ_62 (by decide) ?_
        refine lv_istore (lv' := [(4, .int 0), (0, .ref (q 0)), (1, .int x1), (3, .int x3)]) hx hb dX9_differ_63 hl (by decide) rfl (fun ls hl => ?_)
        refine lv_iconst (v := 0) hx hb dX9_differ_65 (by decide) ?_
        refine lv_istore (lv' := [(5, .int 0), (4, .int 0), (0, .ref (q 0)), (1, .int x1), (3, .int x3)]) hx hb dX9_differ_66 hl (by decide) rfl (fun ls hl => ?_)
        obtain ⟨nn, hw⟩ := hw
        refine L68 x3 nn 0 0 u18 _ _ hw hP hD hS ls (lv_sub hl [2, 4, 1, 0] rfl)
      · have hw := hw.2 hc
        refine lv_iconst (v := (-1)) hx hb dX9_differ_18 (by decide) ?_
        exact W.iret (v := (-1)) hx hb hr (fun t ht hW => ⟨⟨(-1), u, rfl, hw, by show va_P D vwCl _ t.heap; rw [ht]; exact hP⟩, hS.F ht⟩) hS.2.2 dX9_differ_19
set_option maxHeartbeats 4000000 in
set_option maxRecDepth 100000 in
theorem c_X3_countInto (l : Launch) (D : va_G) (q : Nat → Nat) (cI cJ cZ : ClassId) (u : WU) (x1 : Int32) (post : Int32 → Prop) (hw : wp_X3_countInto x1 u post) : Met l yX3_countInto wsX3_countInto rm_X3_countInto (va_Pc [.ref (q 3), .int x1] (RW D (ty3 cI cJ cZ) (wX q cI cJ cZ u))) (vp_Si post) 0 0 (fun _ => False) := by
  refine Met.ofW (cc := cX3_countInto) (maxL := 2) (ret := (some .int)) (by decide) rfl ?_
  intro p e s m args below meth c s₁ B hml hv
  obtain ⟨hargs, hP, hK, hN⟩ := hv
  have hx := B.exec
  have hb := B.bytes
  have hr := B.returns
  have hts := atoms_spec (ws := wsX3_countInto) B.pre
  have hown : s.vm.findClass RX3 = some m.cls := findClass_of_methodNamed B.named
  have hlocks := B.notSynchronized
  have hiX3 : ∀ w ∈ u_ws RX3 TX3 9, w ∈ wsX3_countInto := by decide +kernel
  have hf27 := hts (.fieldLink RX3 27 "TermsDesk$Joins" "begin" "[I") (by decide +kernel)
  have hf30 := hts (.fieldLink RX3 30 "TermsDesk$Joins" "end" "[I") (by decide +kernel)
  have hent := lg_entry_eq m ([.ref (q 3), .int x1]) 2
  rw [← hargs] at hent
  rw [hent]
  have hl := lv_entry ([.ref (q 3), .int x1]) (n := 2) (Nat.le_of_ble_eq_true rfl)
  generalize (lg_sl ([.ref (q 3), .int x1]) ++ List.replicate (2 - (lg_sl ([.ref (q 3), .int x1])).length) Slot.unset).toArray = ls at hl ⊢
  have hl : lv_has ls 2 [(0, .ref (q 3)), (1, .int x1)] := hl
  unfold wp_X3_countInto at hw
  refine lv_aload_n hx hb dX3_countInto_0 rfl (lv_at hl 0 rfl) ?_
  refine va_get (D := D) (ci := 3) (v := .ref (q 22)) (C := RX3) (T := TX3) (N := 9) hx hb hts hiX3 hown hK hP 3 rfl rfl 8 (by decide) hf30 (fun _ h9 => h9) rfl dX3_countInto_1 ?_
  refine lv_iload_n hx hb dX3_countInto_4 rfl (lv_at hl 1 rfl) ?_
  obtain ⟨hin, hw⟩ := hw
  refine va_iald hx hb hK hP 22 0 rfl rfl hin dX3_countInto_5 ?_
  refine lv_aload_n hx hb dX3_countInto_6 rfl (lv_at hl 0 rfl) ?_
  refine va_get (D := D) (ci := 3) (v := .ref (q 21)) (C := RX3) (T := TX3) (N := 9) hx hb hts hiX3 hown hK hP 3 rfl rfl 7 (by decide) hf27 (fun _ h9 => h9) rfl dX3_countInto_7 ?_
  refine lv_iload_n hx hb dX3_countInto_10 rfl (lv_at hl 1 rfl) ?_
  obtain ⟨hin, hw⟩ := hw
  refine va_iald hx hb hK hP 21 0 rfl rfl hin dX3_countInto_11 ?_
  refine lv_isub hx hb dX3_countInto_12 ?_
  exact W.iret (v := (u.1 9 x1.toNatClampNeg) - (u.1 8 x1.toNatClampNeg)) hx hb hr (fun t ht hW => ⟨(u.1 9 x1.toNatClampNeg) - (u.1 8 x1.toNatClampNeg), rfl, hw, ht⟩) (fun _ h => by cases h) dX3_countInto_13
set_option maxHeartbeats 4000000 in
set_option maxRecDepth 100000 in
theorem c_X3_countOutOf (l : Launch) (D : va_G) (q : Nat → Nat) (cI cJ cZ : ClassId) (u : WU) (x1 : Int32) (post : Int32 → Prop) (hw : wp_X3_countOutOf x1 u post) : Met l yX3_countOutOf wsX3_countOutOf rm_X3_countOutOf (va_Pc [.ref (q 3), .int x1] (RW D (ty3 cI cJ cZ) (wX q cI cJ cZ u))) (vp_Si post) 0 0 (fun _ => False) := by
  refine Met.ofW (cc := cX3_countOutOf) (maxL := 4) (ret := (some .int)) (by decide) rfl ?_
  intro p e s m args below meth c s₁ B hml hv
  obtain ⟨hargs, hP, hK, hN⟩ := hv
  have hx := B.exec
  have hb := B.bytes
  have hr := B.returns
  have hts := atoms_spec (ws := wsX3_countOutOf) B.pre
  have hown : s.vm.findClass RX3 = some m.cls := findClass_of_methodNamed B.named
  have hlocks := B.notSynchronized
  have hiX3 : ∀ w ∈ u_ws RX3 TX3 9, w ∈ wsX3_countOutOf := by decide +kernel
  have hf33 := hts (.fieldLink RX3 33 "TermsDesk$Joins" "told" "I") (by decide +kernel)
  have hf41 := hts (.fieldLink RX3 41 "TermsDesk$Joins" "there" "J") (by decide +kernel)
  have hf9 := hts (.fieldLink RX3 9 "TermsDesk$Joins" "from" "[I") (by decide +kernel)
  have hi_RX8 := hts (.initialized RX8) (by decide +kernel)
  have hs_X8_holds := hts (.static yX8_holds) (by decide +kernel)
  have J36 : ∀ {K4 : Int32 → Int32 → Prop} (x1 : Int32) (x2 : Int32) (x3 : Int32) (_ : Unit), wp_X3_countOutOf_J36 x1 x2 x3 u post K4 → ∀ ls : Array Slot, lv_has ls 4 [(0, .ref (q 3)), (1, .int x1), (2, .int x2), (3, .int x3)] → (∀ (x2 : Int32) (x3 : Int32), K4 x2 x3 → ∀ ls : Array Slot, lv_has ls 4 [(0, .ref (q 3)), (1, .int x1), (2, .int x2), (3, .int x3)] → W p l e (headSpec wsX3_countOutOf rm_X3_countOutOf).room s m args below meth c s.heap [] 0 0 (MQ below (vp_Si post) args s 0 0 (fun _ => False)) (F0 m 4 ls [])) → W p l e (headSpec wsX3_countOutOf rm_X3_countOutOf).room s m args below meth c s.heap [] 0 0 (MQ below (vp_Si post) args s 0 0 (fun _ => False)) (F0 m 36 ls []) := by
    intro K4 x1 x2 x3 _ hw ls hl k4
    unfold wp_X3_countOutOf_J36 at hw
    obtain ⟨y9, ey9⟩ : ∃ z : Int32, z = x3 + 1 := ⟨_, rfl⟩
    have hw := hw y9 ey9
    refine lv_iinc (v := y9) (lv' := [(3, .int y9), (0, .ref (q 3)), (1, .int x1), (2, .int x2)]) hx hb dX3_countOutOf_36 hl (k := 3) rfl (by rw [ey9]; rfl) (by decide) rfl (fun ls hl => ?_)
    refine lv_goto (tgt := 4) hx hb dX3_countOutOf_39 (by decide) ?_
    exact k4 x2 y9 hw ls (lv_sub hl [1, 2, 3, 0] rfl)
  have L4 : ∀ (x1 : Int32) (n : Nat) (x2 : Int32) (x3 : Int32) (_ : Unit), wp_X3_countOutOf_L4 x1 u post n x2 x3 → ∀ ls : Array Slot, lv_has ls 4 [(0, .ref (q 3)), (1, .int x1), (2, .int x2), (3, .int x3)] → W p l e (headSpec wsX3_countOutOf rm_X3_countOutOf).room s m args below meth c s.heap [] 0 0 (MQ below (vp_Si post) args s 0 0 (fun _ => False)) (F0 m 4 ls []) := by
    intro x1 n
    induction n with
    | zero =>
      intro x2 x3 _ hw
      exact hw.elim
    | succ n ih =>
      intro x2 x3 _ hw ls hl 
      unfold wp_X3_countOutOf_L4 at hw
      refine lv_iload_n hx hb dX3_countOutOf_4 rfl (lv_at hl 3 rfl) ?_
      refine lv_aload_n hx hb dX3_countOutOf_5 rfl (lv_at hl 0 rfl) ?_
      refine va_get (D := D) (ci := 3) (v := .int (u.1 22 0)) (C := RX3) (T := TX3) (N := 9) hx hb hts hiX3 hown hK hP 3 rfl rfl 3 (by decide) hf33 (fun _ h9 => h9) rfl dX3_countOutOf_6 ?_
      refine lv_icmp_ge (tgt := 42) hx hb dX3_countOutOf_9 (by decide) (fun hc => ?_) (fun hc => ?_)
      · have hw := hw.1 hc
        refine lv_iload_n hx hb dX3_countOutOf_42 rfl (lv_at hl 2 rfl) ?_
        exact W.iret (v := x2) hx hb hr (fun t ht hW => ⟨x2, rfl, hw, ht⟩) (fun _ h => by cases h) dX3_countOutOf_43
      · have hw := hw.2 hc
        refine lv_aload_n hx hb dX3_countOutOf_12 rfl (lv_at hl 0 rfl) ?_
        refine va_get (D := D) (ci := 3) (v := .ref (q 16)) (C := RX3) (T := TX3) (N := 9) hx hb hts hiX3 hown hK hP 3 rfl rfl 0 (by decide) hf9 (fun _ h9 => h9) rfl dX3_countOutOf_13 ?_
        refine lv_iload_n hx hb dX3_countOutOf_16 rfl (lv_at hl 3 rfl) ?_
        obtain ⟨hin, hw⟩ := hw
        refine va_iald hx hb hK hP 16 0 rfl rfl hin dX3_countOutOf_17 ?_
        refine lv_iload_n hx hb dX3_countOutOf_18 rfl (lv_at hl 1 rfl) ?_
        refine lv_icmp_ne (tgt := 36) hx hb dX3_countOutOf_19 (by decide) (fun hc => ?_) (fun hc => ?_)
        · have hw := hw.1 hc
          refine J36 x1 x2 x3 () hw ls (lv_sub hl [0, 1, 2, 3] rfl) (fun y1 y2 hw ls hl => ?_)
          exact ih y1 y2 () hw ls (lv_sub hl [0, 1, 2, 3] rfl)
        · have hw := hw.2 hc
          refine lv_aload_n hx hb dX3_countOutOf_22 rfl (lv_at hl 0 rfl) ?_
          refine va_get (D := D) (ci := 3) (v := .long (u.2 6 0)) (C := RX3) (T := TX3) (N := 9) hx hb hts hiX3 hown hK hP 3 rfl rfl 4 (by decide) hf41 (fun _ h9 => h9) rfl dX3_countOutOf_23 ?_
          refine lv_iload_n hx hb dX3_countOutOf_26 rfl (lv_at hl 3 rfl) ?_
          refine vp_callSi (va_Run.run (va_runSN (As := [.long (u.2 6 0), .int x3]) (rest := []) ⟨hx, hb, hml, hown, hts⟩ (c_X8_holds l (u.2 6 0) x3 _ hw) ⟨va_cnB 2 hts ggX3_countOutOf_X8_holds rfl rfl rfl (nm_RX3_45 hN) hi_RX8 (by decide +kernel) ⟨Nat.le_of_ble_eq_true rfl, Nat.le_of_ble_eq_true rfl⟩, hs_X8_holds, trivial⟩ (psS hN) rfl rfl hl.1 rfl (lv_room (Nat.le_of_ble_eq_true rfl)) dX3_countOutOf_27 ⟨Nat.zero_le _, Nat.zero_le _⟩)) (fun r3 hw => ?_)
          refine lv_if_eq (tgt := 36) hx hb dX3_countOutOf_30 (by decide) (fun hc => ?_) (fun hc => ?_)
          · have hw := hw.1 hc
            refine J36 x1 x2 x3 () hw ls (lv_sub hl [0, 1, 2, 3] rfl) (fun y4 y5 hw ls hl => ?_)
            exact ih y4 y5 () hw ls (lv_sub hl [0, 1, 2, 3] rfl)
          · have hw := hw.2 hc
            obtain ⟨y6, ey6⟩ : ∃ z : Int32, z = x2 + 1 := ⟨_, rfl⟩
            have hw := hw y6 ey6
            refine lv_iinc (v := y6) (lv' := [(2, .int y6), (0, .ref (q 3)), (1, .int x1), (3, .int x3)]) hx hb dX3_countOutOf_33 hl (k := 2) rfl (by rw [ey6]; rfl) (by decide) rfl (fun ls hl => ?_)
            refine J36 x1 y6 x3 () hw ls (lv_sub hl [1, 2, 0, 3] rfl) (fun y7 y8 hw ls hl => ?_)
            exact ih y7 y8 () hw ls (lv_sub hl [0, 1, 2, 3] rfl)
  have hent := lg_entry_eq m ([.ref (q 3), .int x1]) 4
  rw [← hargs] at hent
  rw [hent]
  have hl := lv_entry ([.ref (q 3), .int x1]) (n := 4) (Nat.le_of_ble_eq_true rfl)
  generalize (lg_sl ([.ref (q 3), .int x1]) ++ List.replicate (4 - (lg_sl ([.ref (q 3), .int x1])).length) Slot.unset).toArray = ls at hl ⊢
  have hl : lv_has ls 4 [(0, .ref (q 3)), (1, .int x1)] := hl
  unfold wp_X3_countOutOf at hw
  refine lv_iconst (v := 0) hx hb dX3_countOutOf_0 (by decide) ?_
  refine lv_istore_n (lv' := [(2, .int 0), (0, .ref (q 3)), (1, .int x1)]) hx hb dX3_countOutOf_1 rfl hl (by decide) rfl (fun ls hl => ?_)
  refine lv_iconst (v := 0) hx hb dX3_countOutOf_2 (by decide) ?_
  refine lv_istore_n (lv' := [(3, .int 0), (2, .int 0), (0, .ref (q 3)), (1, .int x1)]) hx hb dX3_countOutOf_3 rfl hl (by decide) rfl (fun ls hl => ?_)
  obtain ⟨nn, hw⟩ := hw
  refine L4 x1 nn 0 0 () hw ls (lv_sub hl [2, 3, 1, 0] rfl)
set_option maxHeartbeats 4000000 in
set_option maxRecDepth 100000 in
theorem c_X8_choiceOrNone (l : Launch) (D : va_G) (q : Nat → Nat) (cI cJ cZ : ClassId) (u : WU) (x1 : Int32) (x2 : Int32) (post : Int32 → Prop) (hw : wp_X8_choiceOrNone x1 x2 u post) : Met l yX8_choiceOrNone wsX8_choiceOrNone rm_X8_choiceOrNone (va_Pc [.ref (q 0), .int x1, .int x2] (RW D (ty3 cI cJ cZ) (wX q cI cJ cZ u))) (vp_Si post) 0 0 (fun _ => False) := by
  refine Met.ofW (cc := cX8_choiceOrNone) (maxL := 3) (ret := (some .int)) (by decide) rfl ?_
  intro p e s m args below meth c s₁ B hml hv
  obtain ⟨hargs, hP, hK, hN⟩ := hv
  have hx := B.exec
  have hb := B.bytes
  have hr := B.returns
  have hts := atoms_spec (ws := wsX8_choiceOrNone) B.pre
  have hown : s.vm.findClass RX8 = some m.cls := findClass_of_methodNamed B.named
  have hlocks := B.notSynchronized
  have hiX5 : ∀ w ∈ u_ws RX5 TX5 6, w ∈ wsX8_choiceOrNone := by decide +kernel
  have hiX8 : ∀ w ∈ u_ws RX8 TX8 8, w ∈ wsX8_choiceOrNone := by decide +kernel
  have hf19 := hts (.fieldLink RX8 19 "TermsDesk" "parts" "LTermsDesk$Parts;") (by decide +kernel)
  have hent := lg_entry_eq m ([.ref (q 0), .int x1, .int x2]) 3
  rw [← hargs] at hent
  rw [hent]
  have hl := lv_entry ([.ref (q 0), .int x1, .int x2]) (n := 3) (Nat.le_of_ble_eq_true rfl)
  generalize (lg_sl ([.ref (q 0), .int x1, .int x2]) ++ List.replicate (3 - (lg_sl ([.ref (q 0), .int x1, .int x2])).length) Slot.unset).toArray = ls at hl ⊢
  have hl : lv_has ls 3 [(0, .ref (q 0)), (1, .int x1), (2, .int x2)] := hl
  unfold wp_X8_choiceOrNone at hw
  refine lv_iload_n hx hb dX8_choiceOrNone_0 rfl (lv_at hl 2 rfl) ?_
  refine lv_iconst (v := 5) hx hb dX8_choiceOrNone_1 (by decide) ?_
  refine lv_icmp_lt (tgt := 20) hx hb dX8_choiceOrNone_2 (by decide) (fun hc => ?_) (fun hc => ?_)
  · have hw := hw.1 hc
    refine lv_iconst (v := (-1)) hx hb dX8_choiceOrNone_20 (by decide) ?_
    exact W.iret (v := (-1)) hx hb hr (fun t ht hW => ⟨(-1), rfl, hw, ht⟩) (fun _ h => by cases h) dX8_choiceOrNone_21
  · have hw := hw.2 hc
    refine lv_iload_n hx hb dX8_choiceOrNone_5 rfl (lv_at hl 2 rfl) ?_
    refine lv_iconst (v := 5) hx hb dX8_choiceOrNone_6 (by decide) ?_
    refine lv_isub hx hb dX8_choiceOrNone_7 ?_
    refine lv_aload_n hx hb dX8_choiceOrNone_8 rfl (lv_at hl 0 rfl) ?_
    refine va_get (D := D) (ci := 8) (v := .ref (q 2)) (C := RX8) (T := TX8) (N := 8) hx hb hts hiX8 hown hK hP 0 rfl rfl 1 (by decide) hf19 (fun _ h9 => h9) rfl dX8_choiceOrNone_9 ?_
    refine va_getN (D := D) (ci := 5) (v := .ref (q 13)) (C := RX5) (T := TX5) (N := 6) hx hb hts hiX5 hown hK hP 2 rfl rfl 1 (by decide) (va_Nw.use rfl (nf_RX8_108 hN)) (fun _ h9 => h9) rfl dX8_choiceOrNone_12 ?_
    refine lv_iload_n hx hb dX8_choiceOrNone_15 rfl (lv_at hl 1 rfl) ?_
    obtain ⟨hin, hw⟩ := hw
    refine va_iald hx hb hK hP 13 0 rfl rfl hin dX8_choiceOrNone_16 ?_
    refine lv_icmp_lt (tgt := 22) hx hb dX8_choiceOrNone_17 (by decide) (fun hc => ?_) (fun hc => ?_)
    · have hw := hw.1 hc
      refine lv_aload_n hx hb dX8_choiceOrNone_22 rfl (lv_at hl 0 rfl) ?_
      refine va_get (D := D) (ci := 8) (v := .ref (q 2)) (C := RX8) (T := TX8) (N := 8) hx hb hts hiX8 hown hK hP 0 rfl rfl 1 (by decide) hf19 (fun _ h9 => h9) rfl dX8_choiceOrNone_23 ?_
      refine lv_iload_n hx hb dX8_choiceOrNone_26 rfl (lv_at hl 1 rfl) ?_
      refine lv_iload_n hx hb dX8_choiceOrNone_27 rfl (lv_at hl 2 rfl) ?_
      refine lv_iconst (v := 5) hx hb dX8_choiceOrNone_28 (by decide) ?_
      refine lv_isub hx hb dX8_choiceOrNone_29 ?_
      refine vp_callSi (va_Run.run (va_runV (As := [.int x1, .int (x2 - 5)]) (rest := []) ⟨hx, hb, hml, hown, hts⟩ (c_X5_choiceOf l D q cI cJ cZ u x1 (x2 - 5) _ hw) (cwV 2 hts gX8_choiceOrNone_X5_choiceOf rfl rfl rfl (by decide +kernel) ⟨Nat.le_of_ble_eq_true rfl, Nat.le_of_ble_eq_true rfl⟩) (pvR (va_recv hK hP (ci := 5) (q0 := 2) (q := (RX5, TX5, 6)) rfl rfl) hK hP hN) rfl rfl hl.1 rfl (lv_room (Nat.le_of_ble_eq_true rfl)) dX8_choiceOrNone_30 ⟨Nat.zero_le _, Nat.zero_le _⟩)) (fun r1 hw => ?_)
      exact W.iret (v := r1) hx hb hr (fun t ht hW => ⟨r1, rfl, hw, ht⟩) (fun _ h => by cases h) dX8_choiceOrNone_33
    · have hw := hw.2 hc
      refine lv_iconst (v := (-1)) hx hb dX8_choiceOrNone_20 (by decide) ?_
      exact W.iret (v := (-1)) hx hb hr (fun t ht hW => ⟨(-1), rfl, hw, ht⟩) (fun _ h => by cases h) dX8_choiceOrNone_21
