set_option maxHeartbeats 4000000 in
set_option maxRecDepth 100000 in
theorem c_X9_way (l : Launch) (D : va_G) (q : Nat → Nat) (cI cJ cZ : ClassId) (sz : Nat) (u : WU) (x1 : Int32) (x2 : Int32) (x3 : Int32) (x4 : Int32) (x5 : Int32) (post : Int32 → WU → Prop) (hw : wp_X9_way x1 x2 x3 x4 x5 u post) : Met l yX9_way wsX9_way rm_X9_way (va_Pc [.ref (q 0), .int x1, .int x2, .int x3, .int x4, .int x5] (MW D (ty3 cI cJ cZ) (wM q cI cJ cZ u) sz)) (va_Qi post (fun u' t => va_P D vwCl (wM q cI cJ cZ u') t.heap) (va_A (wM q cI cJ cZ u00) sz)) 0 0 (va_A (wM q cI cJ cZ u00) sz) := by
  refine Met.ofW (cc := cX9_way) (maxL := 10) (ret := (some .int)) (by decide) rfl ?_
  intro p e s m args below meth c s₁ B hml hv
  obtain ⟨hargs, hsz, hP, hK, hD0, hN⟩ := hv
  have hx := B.exec
  have hb := B.bytes
  have hr := B.returns
  have hts := atoms_spec (ws := wsX9_way) B.pre
  have hown : s.vm.findClass RX9 = some m.cls := findClass_of_methodNamed B.named
  have hlocks := B.notSynchronized
  subst hsz
  have hD := shw_self (sz := s.heap.size) (sh_wM q cI cJ cZ) hD0
  have hA : ∀ a : Nat, s.heap.size ≤ a → va_A (wM q cI cJ cZ u00) s.heap.size a := fun _ h => Or.inr h
  have hS : va_S (va_A (wM q cI cJ cZ u00) s.heap.size) s.heap s.heap [] := va_S.rf
  have hiX9 : ∀ w ∈ u_ws RX9 TX9 30, w ∈ wsX9_way := by decide +kernel
  have hf108 := hts (.fieldLink RX9 108 "TermsDeskModel" "joins" "I") (by decide +kernel)
  have hf13 := hts (.fieldLink RX9 13 "TermsDeskModel" "along" "[J") (by decide +kernel)
  have hf32 := hts (.fieldLink RX9 32 "TermsDeskModel" "from" "[I") (by decide +kernel)
  have hf35 := hts (.fieldLink RX9 35 "TermsDeskModel" "to" "[I") (by decide +kernel)
  have hf38 := hts (.fieldLink RX9 38 "TermsDeskModel" "kind" "[I") (by decide +kernel)
  have hf60 := hts (.fieldLink RX9 60 "TermsDeskModel" "isGone" "[Z") (by decide +kernel)
  have hf81 := hts (.fieldLink RX9 81 "TermsDeskModel" "far" "[I") (by decide +kernel)
  have hf87 := hts (.fieldLink RX9 87 "TermsDeskModel" "parts" "I") (by decide +kernel)
  have J118 : ∀ {K58 : Int32 → Int32 → WU → Prop} (x1 : Int32) (x2 : Int32) (x3 : Int32) (x5 : Int32) (x6 : Int32) (x7 : Int32) (u : WU) (H : Heap) (locs : List Loc), wp_X9_way_J118 x1 x2 x3 x5 x6 x7 u post K58 → va_P D vwCl (wM q cI cJ cZ u) H → va_D (va_A (wM q cI cJ cZ u00) s.heap.size) (wM q cI cJ cZ u) → va_S (va_A (wM q cI cJ cZ u00) s.heap.size) s.heap H locs → ∀ ls : Array Slot, lv_has ls 10 [(0, .ref (q 0)), (1, .int x1), (2, .int x2), (3, .int x3), (5, .int x5), (6, .int x6), (7, .int x7)] → (∀ (x6 : Int32) (x7 : Int32) (u : WU) (H : Heap) (locs : List Loc), K58 x6 x7 u → va_P D vwCl (wM q cI cJ cZ u) H → va_D (va_A (wM q cI cJ cZ u00) s.heap.size) (wM q cI cJ cZ u) → va_S (va_A (wM q cI cJ cZ u00) s.heap.size) s.heap H locs → ∀ ls : Array Slot, lv_has ls 10 [(0, .ref (q 0)), (1, .int x1), (2, .int x2), (3, .int x3), (5, .int x5), (6, .int x6), (7, .int x7)] → W p l e (headSpec wsX9_way rm_X9_way).room s m args below meth c H locs 0 0 (MQ below (va_Qi post (fun u' t => va_P D vwCl (wM q cI cJ cZ u') t.heap) (va_A (wM q cI cJ cZ u00) s.heap.size)) args s 0 0 (va_A (wM q cI cJ cZ u00) s.heap.size)) (F0 m 58 ls [])) → W p l e (headSpec wsX9_way rm_X9_way).room s m args below meth c H locs 0 0 (MQ below (va_Qi post (fun u' t => va_P D vwCl (wM q cI cJ cZ u') t.heap) (va_A (wM q cI cJ cZ u00) s.heap.size)) args s 0 0 (va_A (wM q cI cJ cZ u00) s.heap.size)) (F0 m 118 ls []) := by
    intro K58 x1 x2 x3 x5 x6 x7 u H locs hw hP hD hS ls hl k58
    unfold wp_X9_way_J118 at hw
    obtain ⟨y43, ey43⟩ : ∃ z : Int32, z = x7 + 1 := ⟨_, rfl⟩
    have hw := hw y43 ey43
    refine lv_iinc (v := y43) (lv' := [(7, .int y43), (0, .ref (q 0)), (1, .int x1), (2, .int x2), (3, .int x3), (5, .int x5), (6, .int x6)]) hx hb dX9_way_118 hl (k := 6) rfl (by rw [ey43]; rfl) (by decide) rfl (fun ls hl => ?_)
    refine lv_goto (tgt := 58) hx hb dX9_way_121 (by decide) ?_
    exact k58 x6 y43 u _ _ hw hP hD hS ls (lv_sub hl [1, 2, 3, 4, 5, 6, 0] rfl)
  have J114 : ∀ {K58 : Int32 → Int32 → WU → Prop} (x1 : Int32) (x2 : Int32) (x3 : Int32) (x5 : Int32) (x7 : Int32) (u : WU) (H : Heap) (locs : List Loc), wp_X9_way_J114 x1 x2 x3 x5 x7 u post K58 → va_P D vwCl (wM q cI cJ cZ u) H → va_D (va_A (wM q cI cJ cZ u00) s.heap.size) (wM q cI cJ cZ u) → va_S (va_A (wM q cI cJ cZ u00) s.heap.size) s.heap H locs → ∀ ls : Array Slot, lv_has ls 10 [(0, .ref (q 0)), (1, .int x1), (2, .int x2), (3, .int x3), (5, .int x5), (7, .int x7)] → (∀ (x6 : Int32) (x7 : Int32) (u : WU) (H : Heap) (locs : List Loc), K58 x6 x7 u → va_P D vwCl (wM q cI cJ cZ u) H → va_D (va_A (wM q cI cJ cZ u00) s.heap.size) (wM q cI cJ cZ u) → va_S (va_A (wM q cI cJ cZ u00) s.heap.size) s.heap H locs → ∀ ls : Array Slot, lv_has ls 10 [(0, .ref (q 0)), (1, .int x1), (2, .int x2), (3, .int x3), (5, .int x5), (6, .int x6), (7, .int x7)] → W p l e (headSpec wsX9_way rm_X9_way).room s m args below meth c H locs 0 0 (MQ below (va_Qi post (fun u' t => va_P D vwCl (wM q cI cJ cZ u') t.heap) (va_A (wM q cI cJ cZ u00) s.heap.size)) args s 0 0 (va_A (wM q cI cJ cZ u00) s.heap.size)) (F0 m 58 ls [])) → W p l e (headSpec wsX9_way rm_X9_way).room s m args below meth c H locs 0 0 (MQ below (va_Qi post (fun u' t => va_P D vwCl (wM q cI cJ cZ u') t.heap) (va_A (wM q cI cJ cZ u00) s.heap.size)) args s 0 0 (va_A (wM q cI cJ cZ u00) s.heap.size)) (F0 m 114 ls []) := by
    intro K58 x1 x2 x3 x5 x7 u H locs hw hP hD hS ls hl k58
    unfold wp_X9_way_J114 at hw
    refine lv_iload hx hb dX9_way_114 (lv_at hl 5 rfl) ?_
    refine lv_istore (lv' := [(6, .int x7), (0, .ref (q 0)), (1, .int x1), (2, .int x2), (3, .int x3), (5, .int x5), (7, .int x7)]) hx hb dX9_way_116 hl (by decide) rfl (fun ls hl => ?_)
    refine J118 x1 x2 x3 x5 x7 x7 u _ _ hw hP hD hS ls (lv_sub hl [1, 2, 3, 4, 5, 0, 6] rfl) (fun y40 y41 u42 H locs hw hP hD hS ls hl => ?_)
    exact k58 y40 y41 u42 _ _ hw hP hD hS ls (lv_sub hl [0, 1, 2, 3, 4, 5, 6] rfl)
  have L58 : ∀ {K124 : Int32 → WU → Prop} (x1 : Int32) (x2 : Int32) (x3 : Int32) (x5 : Int32) (n : Nat) (x6 : Int32) (x7 : Int32) (u : WU) (H : Heap) (locs : List Loc), wp_X9_way_L58 x1 x2 x3 x5 post K124 n x6 x7 u → va_P D vwCl (wM q cI cJ cZ u) H → va_D (va_A (wM q cI cJ cZ u00) s.heap.size) (wM q cI cJ cZ u) → va_S (va_A (wM q cI cJ cZ u00) s.heap.size) s.heap H locs → ∀ ls : Array Slot, lv_has ls 10 [(0, .ref (q 0)), (1, .int x1), (2, .int x2), (3, .int x3), (5, .int x5), (6, .int x6), (7, .int x7)] → (∀ (x6 : Int32) (u : WU) (H : Heap) (locs : List Loc), K124 x6 u → va_P D vwCl (wM q cI cJ cZ u) H → va_D (va_A (wM q cI cJ cZ u00) s.heap.size) (wM q cI cJ cZ u) → va_S (va_A (wM q cI cJ cZ u00) s.heap.size) s.heap H locs → ∀ ls : Array Slot, lv_has ls 10 [(0, .ref (q 0)), (2, .int x2), (3, .int x3), (5, .int x5), (6, .int x6)] → W p l e (headSpec wsX9_way rm_X9_way).room s m args below meth c H locs 0 0 (MQ below (va_Qi post (fun u' t => va_P D vwCl (wM q cI cJ cZ u') t.heap) (va_A (wM q cI cJ cZ u00) s.heap.size)) args s 0 0 (va_A (wM q cI cJ cZ u00) s.heap.size)) (F0 m 124 ls [])) → W p l e (headSpec wsX9_way rm_X9_way).room s m args below meth c H locs 0 0 (MQ below (va_Qi post (fun u' t => va_P D vwCl (wM q cI cJ cZ u') t.heap) (va_A (wM q cI cJ cZ u00) s.heap.size)) args s 0 0 (va_A (wM q cI cJ cZ u00) s.heap.size)) (F0 m 58 ls []) := by
    intro K124 x1 x2 x3 x5 n
    induction n with
    | zero =>
      intro x6 x7 u H locs hw
      exact hw.elim
    | succ n ih =>
      intro x6 x7 u H locs hw hP hD hS ls hl k124
      unfold wp_X9_way_L58 at hw
      refine lv_iload hx hb dX9_way_58 (lv_at hl 6 rfl) ?_
      refine lv_aload_n hx hb dX9_way_60 rfl (lv_at hl 0 rfl) ?_
      refine va_get (D := D) (ci := 9) (v := .int (u.1 21 0)) (C := RX9) (T := TX9) (N := 30) hx hb hts hiX9 hown hK hP 0 rfl rfl 3 (by decide) hf87 (fun _ h9 => h9) rfl dX9_way_61 ?_
      refine lv_icmp_ge (tgt := 124) hx hb dX9_way_64 (by decide) (fun hc => ?_) (fun hc => ?_)
      · have hw := hw.1 hc
        exact k124 x6 u _ _ hw hP hD hS ls (lv_sub hl [0, 2, 3, 4, 5] rfl)
      · have hw := hw.2 hc
        refine lv_aload_n hx hb dX9_way_67 rfl (lv_at hl 0 rfl) ?_
        refine lv_iload_n hx hb dX9_way_68 rfl (lv_at hl 1 rfl) ?_
        refine lv_iload hx hb dX9_way_69 (lv_at hl 6 rfl) ?_
        refine lv_iload_n hx hb dX9_way_71 rfl (lv_at hl 2 rfl) ?_
        refine lv_iload_n hx hb dX9_way_72 rfl (lv_at hl 3 rfl) ?_
        refine vp_callSi (va_Run.run (va_runV (As := [.int x1, .int x7, .int x2, .int x3]) (rest := []) ⟨hx, hb, hml, hown, hts⟩ (c_X9_hasBrought l D q cI cJ cZ u x1 x7 x2 x3 _ hw) (cwV 4 hts gX9_way_X9_hasBrought rfl rfl rfl (by decide +kernel) ⟨Nat.le_of_ble_eq_true rfl, Nat.le_of_ble_eq_true rfl⟩) (pvR (va_recv hK hP (ci := 9) (q0 := 0) (q := (RX9, TX9, 30)) rfl rfl) hK hP hN) rfl rfl hl.1 rfl (lv_room (Nat.le_of_ble_eq_true rfl)) dX9_way_73 ⟨Nat.zero_le _, Nat.zero_le _⟩)) (fun r1 hw => ?_)
        refine lv_if_eq (tgt := 118) hx hb dX9_way_76 (by decide) (fun hc => ?_) (fun hc => ?_)
        · have hw := hw.1 hc
          refine J118 x1 x2 x3 x5 x6 x7 u _ _ hw hP hD hS ls (lv_sub hl [0, 1, 2, 3, 4, 5, 6] rfl) (fun y2 y3 u4 H locs hw hP hD hS ls hl => ?_)
          exact ih y2 y3 u4 _ _ hw hP hD hS ls (lv_sub hl [0, 1, 2, 3, 4, 5, 6] rfl) k124
        · have hw := hw.2 hc
          refine lv_aload_n hx hb dX9_way_79 rfl (lv_at hl 0 rfl) ?_
          refine va_get (D := D) (ci := 9) (v := .ref (q 24)) (C := RX9) (T := TX9) (N := 30) hx hb hts hiX9 hown hK hP 0 rfl rfl 28 (by decide) hf81 (fun _ h9 => h9) rfl dX9_way_80 ?_
          refine lv_iload hx hb dX9_way_83 (lv_at hl 6 rfl) ?_
          obtain ⟨hin, hw⟩ := hw
          refine va_iald hx hb hK hP 24 0 rfl rfl hin dX9_way_85 ?_
          refine lv_bipush (v := 100) hx hb dX9_way_86 (by decide) ?_
          refine lv_icmp_ge (tgt := 118) hx hb dX9_way_88 (by decide) (fun hc => ?_) (fun hc => ?_)
          · have hw := hw.1 hc
            refine J118 x1 x2 x3 x5 x6 x7 u _ _ hw hP hD hS ls (lv_sub hl [0, 1, 2, 3, 4, 5, 6] rfl) (fun y5 y6 u7 H locs hw hP hD hS ls hl => ?_)
            exact ih y5 y6 u7 _ _ hw hP hD hS ls (lv_sub hl [0, 1, 2, 3, 4, 5, 6] rfl) k124
          · have hw := hw.2 hc
            refine lv_iload hx hb dX9_way_91 (lv_at hl 5 rfl) ?_
            refine lv_iconst (v := (-1)) hx hb dX9_way_93 (by decide) ?_
            refine lv_icmp_eq (tgt := 114) hx hb dX9_way_94 (by decide) (fun hc => ?_) (fun hc => ?_)
            · have hw := hw.1 hc
              refine J114 x1 x2 x3 x5 x7 u _ _ hw hP hD hS ls (lv_sub hl [0, 1, 2, 3, 4, 6] rfl) (fun y8 y9 u10 H locs hw hP hD hS ls hl => ?_)
              exact ih y8 y9 u10 _ _ hw hP hD hS ls (lv_sub hl [0, 1, 2, 3, 4, 5, 6] rfl) k124
            · have hw := hw.2 hc
              refine lv_aload_n hx hb dX9_way_97 rfl (lv_at hl 0 rfl) ?_
              refine va_get (D := D) (ci := 9) (v := .ref (q 24)) (C := RX9) (T := TX9) (N := 30) hx hb hts hiX9 hown hK hP 0 rfl rfl 28 (by decide) hf81 (fun _ h9 => h9) rfl dX9_way_98 ?_
              refine lv_iload hx hb dX9_way_101 (lv_at hl 6 rfl) ?_
              obtain ⟨hin, hw⟩ := hw
              refine va_iald hx hb hK hP 24 0 rfl rfl hin dX9_way_103 ?_
              refine lv_aload_n hx hb dX9_way_104 rfl (lv_at hl 0 rfl) ?_
              refine va_get (D := D) (ci := 9) (v := .ref (q 24)) (C := RX9) (T := TX9) (N := 30) hx hb hts hiX9 hown hK hP 0 rfl rfl 28 (by decide) hf81 (fun _ h9 => h9) rfl dX9_way_105 ?_
              refine lv_iload hx hb dX9_way_108 (lv_at hl 5 rfl) ?_
              obtain ⟨hin, hw⟩ := hw
              refine va_iald hx hb hK hP 24 0 rfl rfl hin dX9_way_110 ?_
              refine lv_icmp_ge (tgt := 118) hx hb dX9_way_111 (by decide) (fun hc => ?_) (fun hc => ?_)
              · have hw := hw.1 hc
                refine J118 x1 x2 x3 x5 x6 x7 u _ _ hw hP hD hS ls (lv_sub hl [0, 1, 2, 3, 4, 5, 6] rfl) (fun y11 y12 u13 H locs hw hP hD hS ls hl => ?_)
                exact ih y11 y12 u13 _ _ hw hP hD hS ls (lv_sub hl [0, 1, 2, 3, 4, 5, 6] rfl) k124
              · have hw := hw.2 hc
                refine J114 x1 x2 x3 x5 x7 u _ _ hw hP hD hS ls (lv_sub hl [0, 1, 2, 3, 4, 6] rfl) (fun y14 y15 u16 H locs hw hP hD hS ls hl => ?_)
                exact ih y14 y15 u16 _ _ hw hP hD hS ls (lv_sub hl [0, 1, 2, 3, 4, 5, 6] rfl) k124
  have J260 : ∀ {K161 : Int32 → Int32 → WU → Prop} (x2 : Int32) (x3 : Int32) (x5 : Int32) (x6 : Int32) (x7 : Int32) (x8 : Int32) (x9 : Int32) (u : WU) (H : Heap) (locs : List Loc), wp_X9_way_J260 x2 x3 x5 x6 x7 x8 x9 u post K161 → va_P D vwCl (wM q cI cJ cZ u) H → va_D (va_A (wM q cI cJ cZ u00) s.heap.size) (wM q cI cJ cZ u) → va_S (va_A (wM q cI cJ cZ u00) s.heap.size) s.heap H locs → ∀ ls : Array Slot, lv_has ls 10 [(0, .ref (q 0)), (2, .int x2), (3, .int x3), (5, .int x5), (6, .int x6), (7, .int x7), (8, .int x8), (9, .int x9)] → (∀ (x8 : Int32) (x9 : Int32) (u : WU) (H : Heap) (locs : List Loc), K161 x8 x9 u → va_P D vwCl (wM q cI cJ cZ u) H → va_D (va_A (wM q cI cJ cZ u00) s.heap.size) (wM q cI cJ cZ u) → va_S (va_A (wM q cI cJ cZ u00) s.heap.size) s.heap H locs → ∀ ls : Array Slot, lv_has ls 10 [(0, .ref (q 0)), (2, .int x2), (3, .int x3), (5, .int x5), (6, .int x6), (7, .int x7), (8, .int x8), (9, .int x9)] → W p l e (headSpec wsX9_way rm_X9_way).room s m args below meth c H locs 0 0 (MQ below (va_Qi post (fun u' t => va_P D vwCl (wM q cI cJ cZ u') t.heap) (va_A (wM q cI cJ cZ u00) s.heap.size)) args s 0 0 (va_A (wM q cI cJ cZ u00) s.heap.size)) (F0 m 161 ls [])) → W p l e (headSpec wsX9_way rm_X9_way).room s m args below meth c H locs 0 0 (MQ below (va_Qi post (fun u' t => va_P D vwCl (wM q cI cJ cZ u') t.heap) (va_A (wM q cI cJ cZ u00) s.heap.size)) args s 0 0 (va_A (wM q cI cJ cZ u00) s.heap.size)) (F0 m 260 ls []) := by
    intro K161 x2 x3 x5 x6 x7 x8 x9 u H locs hw hP hD hS ls hl k161
    unfold wp_X9_way_J260 at hw
    obtain ⟨y44, ey44⟩ : ∃ z : Int32, z = x9 + 1 := ⟨_, rfl⟩
    have hw := hw y44 ey44
    refine lv_iinc (v := y44) (lv' := [(9, .int y44), (0, .ref (q 0)), (2, .int x2), (3, .int x3), (5, .int x5), (6, .int x6), (7, .int x7), (8, .int x8)]) hx hb dX9_way_260 hl (k := 7) rfl (by rw [ey44]; rfl) (by decide) rfl (fun ls hl => ?_)
    refine lv_goto (tgt := 161) hx hb dX9_way_263 (by decide) ?_
    exact k161 x8 y44 u _ _ hw hP hD hS ls (lv_sub hl [1, 2, 3, 4, 5, 6, 7, 0] rfl)
  have L161 : ∀ {K266 : Int32 → WU → Prop} (x2 : Int32) (x3 : Int32) (x5 : Int32) (x6 : Int32) (x7 : Int32) (n : Nat) (x8 : Int32) (x9 : Int32) (u : WU) (H : Heap) (locs : List Loc), wp_X9_way_L161 x2 x3 x5 x6 x7 post K266 n x8 x9 u → va_P D vwCl (wM q cI cJ cZ u) H → va_D (va_A (wM q cI cJ cZ u00) s.heap.size) (wM q cI cJ cZ u) → va_S (va_A (wM q cI cJ cZ u00) s.heap.size) s.heap H locs → ∀ ls : Array Slot, lv_has ls 10 [(0, .ref (q 0)), (2, .int x2), (3, .int x3), (5, .int x5), (6, .int x6), (7, .int x7), (8, .int x8), (9, .int x9)] → (∀ (x8 : Int32) (u : WU) (H : Heap) (locs : List Loc), K266 x8 u → va_P D vwCl (wM q cI cJ cZ u) H → va_D (va_A (wM q cI cJ cZ u00) s.heap.size) (wM q cI cJ cZ u) → va_S (va_A (wM q cI cJ cZ u00) s.heap.size) s.heap H locs → ∀ ls : Array Slot, lv_has ls 10 [(0, .ref (q 0)), (2, .int x2), (3, .int x3), (5, .int x5), (7, .int x7), (8, .int x8)] → W p l e (headSpec wsX9_way rm_X9_way).room s m args below meth c H locs 0 0 (MQ below (va_Qi post (fun u' t => va_P D vwCl (wM q cI cJ cZ u') t.heap) (va_A (wM q cI cJ cZ u00) s.heap.size)) args s 0 0 (va_A (wM q cI cJ cZ u00) s.heap.size)) (F0 m 266 ls [])) → W p l e (headSpec wsX9_way rm_X9_way).room s m args below meth c H locs 0 0 (MQ below (va_Qi post (fun u' t => va_P D vwCl (wM q cI cJ cZ u') t.heap) (va_A (wM q cI cJ cZ u00) s.heap.size)) args s 0 0 (va_A (wM q cI cJ cZ u00) s.heap.size)) (F0 m 161 ls []) := by
    intro K266 x2 x3 x5 x6 x7 n
    induction n with
    | zero =>
      intro x8 x9 u H locs hw
      exact hw.elim
    | succ n ih =>
      intro x8 x9 u H locs hw hP hD hS ls hl k266
      unfold wp_X9_way_L161 at hw
      refine lv_iload hx hb dX9_way_161 (lv_at hl 7 rfl) ?_
      refine lv_aload_n hx hb dX9_way_163 rfl (lv_at hl 0 rfl) ?_
      refine va_get (D := D) (ci := 9) (v := .int (u.1 23 0)) (C := RX9) (T := TX9) (N := 30) hx hb hts hiX9 hown hK hP 0 rfl rfl 9 (by decide) hf108 (fun _ h9 => h9) rfl dX9_way_164 ?_
      refine lv_icmp_ge (tgt := 266) hx hb dX9_way_167 (by decide) (fun hc => ?_) (fun hc => ?_)
      · have hw := hw.1 hc
        exact k266 x8 u _ _ hw hP hD hS ls (lv_sub hl [0, 1, 2, 3, 5, 6] rfl)
      · have hw := hw.2 hc
        refine lv_aload_n hx hb dX9_way_170 rfl (lv_at hl 0 rfl) ?_
        refine va_get (D := D) (ci := 9) (v := .ref (q 17)) (C := RX9) (T := TX9) (N := 30) hx hb hts hiX9 hown hK hP 0 rfl rfl 20 (by decide) hf60 (fun _ h9 => h9) rfl dX9_way_171 ?_
        refine lv_iload hx hb dX9_way_174 (lv_at hl 7 rfl) ?_
        obtain ⟨hin, hw⟩ := hw
        refine va_zald hx hb hK hP 17 2 rfl rfl hin dX9_way_176 ?_
        refine lv_if_ne (tgt := 260) hx hb dX9_way_177 (by decide) (fun hc => ?_) (fun hc => ?_)
        · have hw := hw.1 hc
          refine J260 x2 x3 x5 x6 x7 x8 x9 u _ _ hw hP hD hS ls (lv_sub hl [0, 1, 2, 3, 4, 5, 6, 7] rfl) (fun y20 y21 u22 H locs hw hP hD hS ls hl => ?_)
          exact ih y20 y21 u22 _ _ hw hP hD hS ls (lv_sub hl [0, 1, 2, 3, 4, 5, 6, 7] rfl) k266
        · have hw := hw.2 hc
          refine lv_aload_n hx hb dX9_way_180 rfl (lv_at hl 0 rfl) ?_
          refine va_get (D := D) (ci := 9) (v := .ref (q 8)) (C := RX9) (T := TX9) (N := 30) hx hb hts hiX9 hown hK hP 0 rfl rfl 10 (by decide) hf32 (fun _ h9 => h9) rfl dX9_way_181 ?_
          refine lv_iload hx hb dX9_way_184 (lv_at hl 7 rfl) ?_
          obtain ⟨hin, hw⟩ := hw
          refine va_iald hx hb hK hP 8 0 rfl rfl hin dX9_way_186 ?_
          refine lv_iload hx hb dX9_way_187 (lv_at hl 4 rfl) ?_
          refine lv_icmp_ne (tgt := 260) hx hb dX9_way_189 (by decide) (fun hc => ?_) (fun hc => ?_)
          · have hw := hw.1 hc
            refine J260 x2 x3 x5 x6 x7 x8 x9 u _ _ hw hP hD hS ls (lv_sub hl [0, 1, 2, 3, 4, 5, 6, 7] rfl) (fun y23 y24 u25 H locs hw hP hD hS ls hl => ?_)
            exact ih y23 y24 u25 _ _ hw hP hD hS ls (lv_sub hl [0, 1, 2, 3, 4, 5, 6, 7] rfl) k266
          · have hw := hw.2 hc
            refine lv_aload_n hx hb dX9_way_192 rfl (lv_at hl 0 rfl) ?_
            refine va_get (D := D) (ci := 9) (v := .ref (q 2)) (C := RX9) (T := TX9) (N := 30) hx hb hts hiX9 hown hK hP 0 rfl rfl 1 (by decide) hf13 (fun _ h9 => h9) rfl dX9_way_193 ?_
            refine lv_aload_n hx hb dX9_way_196 rfl (lv_at hl 0 rfl) ?_
            refine va_get (D := D) (ci := 9) (v := .ref (q 10)) (C := RX9) (T := TX9) (N := 30) hx hb hts hiX9 hown hK hP 0 rfl rfl 12 (by decide) hf38 (fun _ h9 => h9) rfl dX9_way_197 ?_
            refine lv_iload hx hb dX9_way_200 (lv_at hl 7 rfl) ?_
            obtain ⟨hin, hw⟩ := hw
            refine va_iald hx hb hK hP 10 0 rfl rfl hin dX9_way_202 ?_
            obtain ⟨hin, hw⟩ := hw
            refine va_lald hx hb hK hP 2 1 rfl rfl hin dX9_way_203 ?_
            refine lv_iload_n hx hb dX9_way_204 rfl (lv_at hl 1 rfl) ?_
            refine lv_iload_n hx hb dX9_way_205 rfl (lv_at hl 2 rfl) ?_
            refine vp_callSl (va_Run.run (va_runS (As := [.int x2, .int x3]) (rest := [.long (u.2 0 (u.1 7 x9.toNatClampNeg).toNatClampNeg)]) ⟨hx, hb, hml, hown, hts⟩ (c_X9_bit l x2 x3 _ hw) (va_cwS 2 hts gX9_way_X9_bit rfl rfl rfl (by decide +kernel) ⟨Nat.le_of_ble_eq_true rfl, Nat.le_of_ble_eq_true rfl⟩) (psS hN) rfl rfl hl.1 rfl (lv_room (Nat.le_of_ble_eq_true rfl)) dX9_way_206 ⟨Nat.zero_le _, Nat.zero_le _⟩)) (fun r26 hw => ?_)
            refine lv_land hx hb dX9_way_209 ?_
            refine lv_lconst (v := 0) hx hb dX9_way_210 (by decide) ?_
            refine W.lcmp hx hb dX9_way_211 ?_
            refine lv_if_eq (tgt := 260) hx hb dX9_way_212 (by decide) (fun hc => ?_) (fun hc => ?_)
            · have hw := hw.1 hc
              refine J260 x2 x3 x5 x6 x7 x8 x9 u _ _ hw hP hD hS ls (lv_sub hl [0, 1, 2, 3, 4, 5, 6, 7] rfl) (fun y27 y28 u29 H locs hw hP hD hS ls hl => ?_)
              exact ih y27 y28 u29 _ _ hw hP hD hS ls (lv_sub hl [0, 1, 2, 3, 4, 5, 6, 7] rfl) k266
            · have hw := hw.2 hc
              refine lv_aload_n hx hb dX9_way_215 rfl (lv_at hl 0 rfl) ?_
              refine va_get (D := D) (ci := 9) (v := .ref (q 24)) (C := RX9) (T := TX9) (N := 30) hx hb hts hiX9 hown hK hP 0 rfl rfl 28 (by decide) hf81 (fun _ h9 => h9) rfl dX9_way_216 ?_
              refine lv_aload_n hx hb dX9_way_219 rfl (lv_at hl 0 rfl) ?_
              refine va_get (D := D) (ci := 9) (v := .ref (q 9)) (C := RX9) (T := TX9) (N := 30) hx hb hts hiX9 hown hK hP 0 rfl rfl 11 (by decide) hf35 (fun _ h9 => h9) rfl dX9_way_220 ?_
              refine lv_iload hx hb dX9_way_223 (lv_at hl 7 rfl) ?_
              obtain ⟨hin, hw⟩ := hw
              refine va_iald hx hb hK hP 9 0 rfl rfl hin dX9_way_225 ?_
              obtain ⟨hin, hw⟩ := hw
              refine va_iald hx hb hK hP 24 0 rfl rfl hin dX9_way_226 ?_
              refine lv_aload_n hx hb dX9_way_227 rfl (lv_at hl 0 rfl) ?_
              refine va_get (D := D) (ci := 9) (v := .ref (q 24)) (C := RX9) (T := TX9) (N := 30) hx hb hts hiX9 hown hK hP 0 rfl rfl 28 (by decide) hf81 (fun _ h9 => h9) rfl dX9_way_228 ?_
              refine lv_iload hx hb dX9_way_231 (lv_at hl 4 rfl) ?_
              obtain ⟨hin, hw⟩ := hw
              refine va_iald hx hb hK hP 24 0 rfl rfl hin dX9_way_233 ?_
              refine lv_iconst (v := 1) hx hb dX9_way_234 (by decide) ?_
              refine lv_isub hx hb dX9_way_235 ?_
              refine lv_icmp_ne (tgt := 260) hx hb dX9_way_236 (by decide) (fun hc => ?_) (fun hc => ?_)
              · have hw := hw.1 hc
                refine J260 x2 x3 x5 x6 x7 x8 x9 u _ _ hw hP hD hS ls (lv_sub hl [0, 1, 2, 3, 4, 5, 6, 7] rfl) (fun y30 y31 u32 H locs hw hP hD hS ls hl => ?_)
                exact ih y30 y31 u32 _ _ hw hP hD hS ls (lv_sub hl [0, 1, 2, 3, 4, 5, 6, 7] rfl) k266
              · have hw := hw.2 hc
                refine lv_aload_n hx hb dX9_way_239 rfl (lv_at hl 0 rfl) ?_
                refine va_get (D := D) (ci := 9) (v := .ref (q 9)) (C := RX9) (T := TX9) (N := 30) hx hb hts hiX9 hown hK hP 0 rfl rfl 11 (by decide) hf35 (fun _ h9 => h9) rfl dX9_way_240 ?_
                refine lv_iload hx hb dX9_way_243 (lv_at hl 7 rfl) ?_
                obtain ⟨hin, hw⟩ := hw
                refine va_iald hx hb hK hP 9 0 rfl rfl hin dX9_way_245 ?_
                refine lv_iload hx hb dX9_way_246 (lv_at hl 6 rfl) ?_
                refine lv_icmp_ge (tgt := 260) hx hb dX9_way_248 (by decide) (fun hc => ?_) (fun hc => ?_)
                · have hw := hw.1 hc
                  refine J260 x2 x3 x5 x6 x7 x8 x9 u _ _ hw hP hD hS ls (lv_sub hl [0, 1, 2, 3, 4, 5, 6, 7] rfl) (fun y33 y34 u35 H locs hw hP hD hS ls hl => ?_)
                  exact ih y33 y34 u35 _ _ hw hP hD hS ls (lv_sub hl [0, 1, 2, 3, 4, 5, 6, 7] rfl) k266
                · have hw := hw.2 hc
                  refine lv_aload_n hx hb dX9_way_251 rfl (lv_at hl 0 rfl) ?_
                  refine va_get (D := D) (ci := 9) (v := .ref (q 9)) (C := RX9) (T := TX9) (N := 30) hx hb hts hiX9 hown hK hP 0 rfl rfl 11 (by decide) hf35 (fun _ h9 => h9) rfl dX9_way_252 ?_
                  refine lv_iload hx hb dX9_way_255 (lv_at hl 7 rfl) ?_
                  obtain ⟨hin, hw⟩ := hw
                  refine va_iald hx hb hK hP 9 0 rfl rfl hin dX9_way_257 ?_
                  refine lv_topi (fun y36 ey36 => ?_)
                  have hw := hw y36 ey36
                  refine lv_istore (lv' := [(8, .int y36), (0, .ref (q 0)), (2, .int x2), (3, .int x3), (5, .int x5), (6, .int x6), (7, .int x7), (9, .int x9)]) hx hb dX9_way_258 hl (by decide) rfl (fun ls hl => ?_)
                  refine J260 x2 x3 x5 x6 x7 y36 x9 u _ _ hw hP hD hS ls (lv_sub hl [1, 2, 3, 4, 5, 6, 0, 7] rfl) (fun y37 y38 u39 H locs hw hP hD hS ls hl => ?_)
                  exact ih y37 y38 u39 _ _ hw hP hD hS ls (lv_sub hl [0, 1, 2, 3, 4, 5, 6, 7] rfl) k266
  have L147 : ∀ (x2 : Int32) (x3 : Int32) (x5 : Int32) (n : Nat) (x6 : Int32) (x7 : Int32) (u : WU) (H : Heap) (locs : List Loc), wp_X9_way_L147 x2 x3 x5 post n x6 x7 u → va_P D vwCl (wM q cI cJ cZ u) H → va_D (va_A (wM q cI cJ cZ u00) s.heap.size) (wM q cI cJ cZ u) → va_S (va_A (wM q cI cJ cZ u00) s.heap.size) s.heap H locs → ∀ ls : Array Slot, lv_has ls 10 [(0, .ref (q 0)), (2, .int x2), (3, .int x3), (5, .int x5), (6, .int x6), (7, .int x7)] → W p l e (headSpec wsX9_way rm_X9_way).room s m args below meth c H locs 0 0 (MQ below (va_Qi post (fun u' t => va_P D vwCl (wM q cI cJ cZ u') t.heap) (va_A (wM q cI cJ cZ u00) s.heap.size)) args s 0 0 (va_A (wM q cI cJ cZ u00) s.heap.size)) (F0 m 147 ls []) := by
    intro x2 x3 x5 n
    induction n with
    | zero =>
      intro x6 x7 u H locs hw
      exact hw.elim
    | succ n ih =>
      intro x6 x7 u H locs hw hP hD hS ls hl 
      unfold wp_X9_way_L147 at hw
      refine lv_iload hx hb dX9_way_147 (lv_at hl 5 rfl) ?_
      refine lv_iload hx hb dX9_way_149 (lv_at hl 3 rfl) ?_
      refine lv_icmp_ge (tgt := 276) hx hb dX9_way_151 (by decide) (fun hc => ?_) (fun hc => ?_)
      · have hw := hw.1 hc
        refine lv_iload hx hb dX9_way_276 (lv_at hl 4 rfl) ?_
        exact W.iret (v := x6) hx hb hr (fun t ht hW => ⟨⟨x6, u, rfl, hw, by show va_P D vwCl _ t.heap; rw [ht]; exact hP⟩, hS.F ht⟩) hS.2.2 dX9_way_278
      · have hw := hw.2 hc
        refine lv_bipush (v := 24) hx hb dX9_way_154 (by decide) ?_
        refine lv_istore (lv' := [(8, .int 24), (0, .ref (q 0)), (2, .int x2), (3, .int x3), (5, .int x5), (6, .int x6), (7, .int x7)]) hx hb dX9_way_156 hl (by decide) rfl (fun ls hl => ?_)
        refine lv_iconst (v := 0) hx hb dX9_way_158 (by decide) ?_
        refine lv_istore (lv' := [(9, .int 0), (8, .int 24), (0, .ref (q 0)), (2, .int x2), (3, .int x3), (5, .int x5), (6, .int x6), (7, .int x7)]) hx hb dX9_way_159 hl (by decide) rfl (fun ls hl => ?_)
        obtain ⟨nn, hw⟩ := hw
        refine L161 x2 x3 x5 x6 x7 nn 24 0 u _ _ hw hP hD hS ls (lv_sub hl [2, 3, 4, 5, 6, 7, 1, 0] rfl) (fun y17 u18 H locs hw hP hD hS ls hl => ?_)
        refine lv_iload hx hb dX9_way_266 (lv_at hl 5 rfl) ?_
        refine lv_istore (lv' := [(6, .int y17), (0, .ref (q 0)), (2, .int x2), (3, .int x3), (5, .int x5), (7, .int x7), (8, .int y17)]) hx hb dX9_way_268 hl (by decide) rfl (fun ls hl => ?_)
        obtain ⟨y19, ey19⟩ : ∃ z : Int32, z = x7 + 1 := ⟨_, rfl⟩
        have hw := hw y19 ey19
        refine lv_iinc (v := y19) (lv' := [(7, .int y19), (6, .int y17), (0, .ref (q 0)), (2, .int x2), (3, .int x3), (5, .int x5), (8, .int y17)]) hx hb dX9_way_270 hl (k := 5) rfl (by rw [ey19]; rfl) (by decide) rfl (fun ls hl => ?_)
        refine lv_goto (tgt := 147) hx hb dX9_way_273 (by decide) ?_
        exact ih y17 y19 u18 _ _ hw hP hD hS ls (lv_sub hl [2, 3, 4, 5, 1, 0] rfl)
  have hent := lg_entry_eq m ([.ref (q 0), .int x1, .int x2, .int x3, .int x4, .int x5]) 10
  rw [← hargs] at hent
  rw [hent]
  have hl := lv_entry ([.ref (q 0), .int x1, .int x2, .int x3, .int x4, .int x5]) (n := 10) (Nat.le_of_ble_eq_true rfl)
  generalize (lg_sl ([.ref (q 0), .int x1, .int x2, .int x3, .int x4, .int x5]) ++ List.replicate (10 - (lg_sl ([.ref (q 0), .int x1, .int x2, .int x3, .int x4, .int x5])).length) Slot.unset).toArray = ls at hl ⊢
  have hl : lv_has ls 10 [(0, .ref (q 0)), (1, .int x1), (2, .int x2), (3, .int x3), (4, .int x4), (5, .int x5)] := hl
  unfold wp_X9_way at hw
  refine lv_iload_n hx hb dX9_way_0 rfl (lv_at hl 1 rfl) ?_
  refine vp_callSi (va_Run.run (va_runS (As := [.int x1]) (rest := []) ⟨hx, hb, hml, hown, hts⟩ (c_X9_isShipping l x1 _ hw) (va_cwS 1 hts gX9_way_X9_isShipping rfl rfl rfl (by decide +kernel) ⟨Nat.le_of_ble_eq_true rfl, Nat.le_of_ble_eq_true rfl⟩) (psS hN) rfl rfl hl.1 rfl (lv_room (Nat.le_of_ble_eq_true rfl)) dX9_way_1 ⟨Nat.zero_le _, Nat.zero_le _⟩)) (fun r45 hw => ?_)
  refine lv_if_eq (tgt := 38) hx hb dX9_way_4 (by decide) (fun hc => ?_) (fun hc => ?_)
  · have hw := hw.1 hc
    refine lv_iconst (v := (-1)) hx hb dX9_way_38 (by decide) ?_
    exact W.iret (v := (-1)) hx hb hr (fun t ht hW => ⟨⟨(-1), u, rfl, hw, by show va_P D vwCl _ t.heap; rw [ht]; exact hP⟩, hS.F ht⟩) hS.2.2 dX9_way_39
  · have hw := hw.2 hc
    refine lv_iload_n hx hb dX9_way_7 rfl (lv_at hl 2 rfl) ?_
    refine vp_callSi (va_Run.run (va_runS (As := [.int x2]) (rest := []) ⟨hx, hb, hml, hown, hts⟩ (c_X9_isLicence l x2 _ hw) (va_cwS 1 hts gX9_way_X9_isLicence rfl rfl rfl (by decide +kernel) ⟨Nat.le_of_ble_eq_true rfl, Nat.le_of_ble_eq_true rfl⟩) (psS hN) rfl rfl hl.1 rfl (lv_room (Nat.le_of_ble_eq_true rfl)) dX9_way_8 ⟨Nat.zero_le _, Nat.zero_le _⟩)) (fun r46 hw => ?_)
    refine lv_if_eq (tgt := 38) hx hb dX9_way_11 (by decide) (fun hc => ?_) (fun hc => ?_)
    · have hw := hw.1 hc
      refine lv_iconst (v := (-1)) hx hb dX9_way_38 (by decide) ?_
      exact W.iret (v := (-1)) hx hb hr (fun t ht hW => ⟨⟨(-1), u, rfl, hw, by show va_P D vwCl _ t.heap; rw [ht]; exact hP⟩, hS.F ht⟩) hS.2.2 dX9_way_39
    · have hw := hw.2 hc
      refine lv_iload_n hx hb dX9_way_14 rfl (lv_at hl 3 rfl) ?_
      refine lv_iconst (v := 0) hx hb dX9_way_15 (by decide) ?_
      refine lv_bipush (v := 7) hx hb dX9_way_16 (by decide) ?_
      refine vp_callSi (va_Run.run (va_runS (As := [.int x3, .int 0, .int 7]) (rest := []) ⟨hx, hb, hml, hown, hts⟩ (c_X9_lies l x3 0 7 _ hw) (va_cwS 3 hts gX9_way_X9_lies rfl rfl rfl (by decide +kernel) ⟨Nat.le_of_ble_eq_true rfl, Nat.le_of_ble_eq_true rfl⟩) (psS hN) rfl rfl hl.1 rfl (lv_room (Nat.le_of_ble_eq_true rfl)) dX9_way_18 ⟨Nat.zero_le _, Nat.zero_le _⟩)) (fun r47 hw => ?_)
      refine lv_if_eq (tgt := 38) hx hb dX9_way_21 (by decide) (fun hc => ?_) (fun hc => ?_)
      · have hw := hw.1 hc
        refine lv_iconst (v := (-1)) hx hb dX9_way_38 (by decide) ?_
        exact W.iret (v := (-1)) hx hb hr (fun t ht hW => ⟨⟨(-1), u, rfl, hw, by show va_P D vwCl _ t.heap; rw [ht]; exact hP⟩, hS.F ht⟩) hS.2.2 dX9_way_39
      · have hw := hw.2 hc
        refine lv_aload_n hx hb dX9_way_24 rfl (lv_at hl 0 rfl) ?_
        refine lv_iload hx hb dX9_way_25 (lv_at hl 4 rfl) ?_
        refine vp_callSi (va_Run.run (va_runV (As := [.int x4]) (rest := []) ⟨hx, hb, hml, hown, hts⟩ (c_X9_isPart l D q cI cJ cZ u x4 _ hw) (cwV 1 hts gX9_way_X9_isPart rfl rfl rfl (by decide +kernel) ⟨Nat.le_of_ble_eq_true rfl, Nat.le_of_ble_eq_true rfl⟩) (pvR (va_recv hK hP (ci := 9) (q0 := 0) (q := (RX9, TX9, 30)) rfl rfl) hK hP hN) rfl rfl hl.1 rfl (lv_room (Nat.le_of_ble_eq_true rfl)) dX9_way_27 ⟨Nat.zero_le _, Nat.zero_le _⟩)) (fun r48 hw => ?_)
        refine lv_if_eq (tgt := 38) hx hb dX9_way_30 (by decide) (fun hc => ?_) (fun hc => ?_)
        · have hw := hw.1 hc
          refine lv_iconst (v := (-1)) hx hb dX9_way_38 (by decide) ?_
          exact W.iret (v := (-1)) hx hb hr (fun t ht hW => ⟨⟨(-1), u, rfl, hw, by show va_P D vwCl _ t.heap; rw [ht]; exact hP⟩, hS.F ht⟩) hS.2.2 dX9_way_39
        · have hw := hw.2 hc
          refine lv_iload hx hb dX9_way_33 (lv_at hl 5 rfl) ?_
          refine lv_if_ge (tgt := 40) hx hb dX9_way_35 (by decide) (fun hc => ?_) (fun hc => ?_)
          · have hw := hw.1 hc
            refine lv_aload_n hx hb dX9_way_40 rfl (lv_at hl 0 rfl) ?_
            refine cMv (sh_wM q cI cJ cZ) (u := u) (va_runV (As := []) (rest := []) ⟨hx, hb, hml, hown, hts⟩ (c_X9_asItIs l D q cI cJ cZ _ u _ hw) (cwV 0 hts gX9_way_X9_asItIs rfl rfl rfl (by decide +kernel) ⟨Nat.le_of_ble_eq_true rfl, Nat.le_of_ble_eq_true rfl⟩) (pvM (va_recv hK hP (ci := 9) (q0 := 0) (q := (RX9, TX9, 30)) rfl rfl) hK hP hD hN) rfl rfl hl.1 rfl (lv_room (Nat.le_of_ble_eq_true rfl)) dX9_way_41 ⟨Nat.zero_le _, Nat.zero_le _⟩) hA hD hS (fun u49 H locs hw hP hD hS => ?_)
            refine lv_aload_n hx hb dX9_way_44 rfl (lv_at hl 0 rfl) ?_
            refine lv_iload_n hx hb dX9_way_45 rfl (lv_at hl 2 rfl) ?_
            refine lv_iload_n hx hb dX9_way_46 rfl (lv_at hl 3 rfl) ?_
            refine lv_iload hx hb dX9_way_47 (lv_at hl 4 rfl) ?_
            refine cMv (sh_wM q cI cJ cZ) (u := u49) (va_runV (As := [.int x2, .int x3, .int x4]) (rest := []) ⟨hx, hb, hml, hown, hts⟩ (c_X9_measures l D q cI cJ cZ _ u49 x2 x3 x4 _ hw) (cwV 3 hts gX9_way_X9_measures rfl rfl rfl (by decide +kernel) ⟨Nat.le_of_ble_eq_true rfl, Nat.le_of_ble_eq_true rfl⟩) (pvM (va_recv hK hP (ci := 9) (q0 := 0) (q := (RX9, TX9, 30)) rfl rfl) hK hP hD hN) rfl rfl hl.1 rfl (lv_room (Nat.le_of_ble_eq_true rfl)) dX9_way_49 ⟨Nat.zero_le _, Nat.zero_le _⟩) hA hD hS (fun u50 H locs hw hP hD hS => ?_)
            refine lv_iconst (v := (-1)) hx hb dX9_way_52 (by decide) ?_
            refine lv_istore (lv' := [(6, .int (-1)), (0, .ref (q 0)), (1, .int x1), (2, .int x2), (3, .int x3), (4, .int x4), (5, .int x5)]) hx hb dX9_way_53 hl (by decide) rfl (fun ls hl => ?_)
            refine lv_iconst (v := 0) hx hb dX9_way_55 (by decide) ?_
            refine lv_istore (lv' := [(7, .int 0), (6, .int (-1)), (0, .ref (q 0)), (1, .int x1), (2, .int x2), (3, .int x3), (4, .int x4), (5, .int x5)]) hx hb dX9_way_56 hl (by decide) rfl (fun ls hl => ?_)
            obtain ⟨nn, hw⟩ := hw
            refine L58 x1 x2 x3 x5 nn (-1) 0 u50 _ _ hw hP hD hS ls (lv_sub hl [2, 3, 4, 5, 7, 1, 0] rfl) (fun y51 u52 H locs hw hP hD hS ls hl => ?_)
            refine lv_iload hx hb dX9_way_124 (lv_at hl 4 rfl) ?_
            refine lv_iconst (v := (-1)) hx hb dX9_way_126 (by decide) ?_
            refine lv_icmp_eq (tgt := 142) hx hb dX9_way_127 (by decide) (fun hc => ?_) (fun hc => ?_)
            · have hw := hw.1 hc
              refine lv_iconst (v := (-1)) hx hb dX9_way_142 (by decide) ?_
              exact W.iret (v := (-1)) hx hb hr (fun t ht hW => ⟨⟨(-1), u52, rfl, hw, by show va_P D vwCl _ t.heap; rw [ht]; exact hP⟩, hS.F ht⟩) hS.2.2 dX9_way_143
            · have hw := hw.2 hc
              refine lv_iload hx hb dX9_way_130 (lv_at hl 3 rfl) ?_
              refine lv_aload_n hx hb dX9_way_132 rfl (lv_at hl 0 rfl) ?_
              refine va_get (D := D) (ci := 9) (v := .ref (q 24)) (C := RX9) (T := TX9) (N := 30) hx hb hts hiX9 hown hK hP 0 rfl rfl 28 (by decide) hf81 (fun _ h9 => h9) rfl dX9_way_133 ?_
              refine lv_iload hx hb dX9_way_136 (lv_at hl 4 rfl) ?_
              obtain ⟨hin, hw⟩ := hw
              refine va_iald hx hb hK hP 24 0 rfl rfl hin dX9_way_138 ?_
              refine lv_icmp_le (tgt := 144) hx hb dX9_way_139 (by decide) (fun hc => ?_) (fun hc => ?_)
              · have hw := hw.1 hc
                refine lv_iconst (v := 0) hx hb dX9_way_144 (by decide) ?_
                refine lv_istore (lv' := [(7, .int 0), (0, .ref (q 0)), (2, .int x2), (3, .int x3), (5, .int x5), (6, .int y51)]) hx hb dX9_way_145 hl (by decide) rfl (fun ls hl => ?_)
                obtain ⟨nn, hw⟩ := hw
                refine L147 x2 x3 x5 nn y51 0 u52 _ _ hw hP hD hS ls (lv_sub hl [1, 2, 3, 4, 5, 0] rfl)
              · have hw := hw.2 hc
                refine lv_iconst (v := (-1)) hx hb dX9_way_142 (by decide) ?_
                exact W.iret (v := (-1)) hx hb hr (fun t ht hW => ⟨⟨(-1), u52, rfl, hw, by show va_P D vwCl _ t.heap; rw [ht]; exact hP⟩, hS.F ht⟩) hS.2.2 dX9_way_143
          · have hw := hw.2 hc
            refine lv_iconst (v := (-1)) hx hb dX9_way_38 (by decide) ?_
            exact W.iret (v := (-1)) hx hb hr (fun t ht hW => ⟨⟨(-1), u, rfl, hw, by show va_P D vwCl _ t.heap; rw [ht]; exact hP⟩, hS.F ht⟩) hS.2.2 dX9_way_39
set_option maxHeartbeats 4000000 in
set_option maxRecDepth 100000 in
theorem c_X7_noticed (l : Launch) (D : va_G) (q : Nat → Nat) (cI cJ cZ : ClassId) (sz : Nat) (u : WU) (x1 : Int32) (post : Int32 → WU → Prop) (hw : wp_X7_noticed x1 u post) : Met l yX7_noticed wsX7_noticed rm_X7_noticed (va_Pc [.ref (q 8), .int x1] (MW D (ty3 cI cJ cZ) (wX q cI cJ cZ u) sz)) (va_Qi post (fun u' t => va_P D vwCl (wX q cI cJ cZ u') t.heap) (va_A (wX q cI cJ cZ u00) sz)) 0 0 (va_A (wX q cI cJ cZ u00) sz) := by
  refine Met.ofW (cc := cX7_noticed) (maxL := 6) (ret := (some .int)) (by decide) rfl ?_
  intro p e s m args below meth c s₁ B hml hv
  obtain ⟨hargs, hsz, hP, hK, hD0, hN⟩ := hv
  have hx := B.exec
  have hb := B.bytes
  have hr := B.returns
  have hts := atoms_spec (ws := wsX7_noticed) B.pre
  have hown : s.vm.findClass RX7 = some m.cls := findClass_of_methodNamed B.named
  have hlocks := B.notSynchronized
  subst hsz
  have hD := shw_self (sz := s.heap.size) (sh_wX q cI cJ cZ) hD0
  have hA : ∀ a : Nat, s.heap.size ≤ a → va_A (wX q cI cJ cZ u00) s.heap.size a := fun _ h => Or.inr h
  have hS : va_S (va_A (wX q cI cJ cZ u00) s.heap.size) s.heap s.heap [] := va_S.rf
  have hiX5 : ∀ w ∈ u_ws RX5 TX5 6, w ∈ wsX7_noticed := by decide +kernel
  have hiX7 : ∀ w ∈ u_ws RX7 TX7 5, w ∈ wsX7_noticed := by decide +kernel
  have hf19 := hts (.fieldLink RX7 19 "TermsDesk$Tracer" "parts" "LTermsDesk$Parts;") (by decide +kernel)
  have hf9 := hts (.fieldLink RX7 9 "TermsDesk$Tracer" "steps" "[I") (by decide +kernel)
  have hi_RX8 := hts (.initialized RX8) (by decide +kernel)
  have hs_X8_pairOf := hts (.static yX8_pairOf) (by decide +kernel)
  have J75 : ∀ {K33 : Int32 → Int32 → WU → Prop} (x1 : Int32) (x2 : Int32) (x3 : Int32) (x4 : Int32) (x5 : Int32) (u : WU) (H : Heap) (locs : List Loc), wp_X7_noticed_J75 x1 x2 x3 x4 x5 u post K33 → va_P D vwCl (wX q cI cJ cZ u) H → va_D (va_A (wX q cI cJ cZ u00) s.heap.size) (wX q cI cJ cZ u) → va_S (va_A (wX q cI cJ cZ u00) s.heap.size) s.heap H locs → ∀ ls : Array Slot, lv_has ls 6 [(0, .ref (q 8)), (1, .int x1), (2, .int x2), (3, .int x3), (4, .int x4), (5, .int x5)] → (∀ (x2 : Int32) (x5 : Int32) (u : WU) (H : Heap) (locs : List Loc), K33 x2 x5 u → va_P D vwCl (wX q cI cJ cZ u) H → va_D (va_A (wX q cI cJ cZ u00) s.heap.size) (wX q cI cJ cZ u) → va_S (va_A (wX q cI cJ cZ u00) s.heap.size) s.heap H locs → ∀ ls : Array Slot, lv_has ls 6 [(0, .ref (q 8)), (1, .int x1), (2, .int x2), (3, .int x3), (4, .int x4), (5, .int x5)] → W p l e (headSpec wsX7_noticed rm_X7_noticed).room s m args below meth c H locs 0 0 (MQ below (va_Qi post (fun u' t => va_P D vwCl (wX q cI cJ cZ u') t.heap) (va_A (wX q cI cJ cZ u00) s.heap.size)) args s 0 0 (va_A (wX q cI cJ cZ u00) s.heap.size)) (F0 m 33 ls [])) → W p l e (headSpec wsX7_noticed rm_X7_noticed).room s m args below meth c H locs 0 0 (MQ below (va_Qi post (fun u' t => va_P D vwCl (wX q cI cJ cZ u') t.heap) (va_A (wX q cI cJ cZ u00) s.heap.size)) args s 0 0 (va_A (wX q cI cJ cZ u00) s.heap.size)) (F0 m 75 ls []) := by
    intro K33 x1 x2 x3 x4 x5 u H locs hw hP hD hS ls hl k33
    unfold wp_X7_noticed_J75 at hw
    obtain ⟨y17, ey17⟩ : ∃ z : Int32, z = x5 + 1 := ⟨_, rfl⟩
    have hw := hw y17 ey17
    refine lv_iinc (v := y17) (lv' := [(5, .int y17), (0, .ref (q 8)), (1, .int x1), (2, .int x2), (3, .int x3), (4, .int x4)]) hx hb dX7_noticed_75 hl (k := 5) rfl (by rw [ey17]; rfl) (by decide) rfl (fun ls hl => ?_)
    refine lv_goto (tgt := 33) hx hb dX7_noticed_78 (by decide) ?_
    exact k33 x2 y17 u _ _ hw hP hD hS ls (lv_sub hl [1, 2, 3, 4, 5, 0] rfl)
  have L33 : ∀ {K81 : Int32 → WU → Prop} (x1 : Int32) (x3 : Int32) (x4 : Int32) (n : Nat) (x2 : Int32) (x5 : Int32) (u : WU) (H : Heap) (locs : List Loc), wp_X7_noticed_L33 x1 x3 x4 post K81 n x2 x5 u → va_P D vwCl (wX q cI cJ cZ u) H → va_D (va_A (wX q cI cJ cZ u00) s.heap.size) (wX q cI cJ cZ u) → va_S (va_A (wX q cI cJ cZ u00) s.heap.size) s.heap H locs → ∀ ls : Array Slot, lv_has ls 6 [(0, .ref (q 8)), (1, .int x1), (2, .int x2), (3, .int x3), (4, .int x4), (5, .int x5)] → (∀ (x2 : Int32) (u : WU) (H : Heap) (locs : List Loc), K81 x2 u → va_P D vwCl (wX q cI cJ cZ u) H → va_D (va_A (wX q cI cJ cZ u00) s.heap.size) (wX q cI cJ cZ u) → va_S (va_A (wX q cI cJ cZ u00) s.heap.size) s.heap H locs → ∀ ls : Array Slot, lv_has ls 6 [(0, .ref (q 8)), (1, .int x1), (2, .int x2), (3, .int x3)] → W p l e (headSpec wsX7_noticed rm_X7_noticed).room s m args below meth c H locs 0 0 (MQ below (va_Qi post (fun u' t => va_P D vwCl (wX q cI cJ cZ u') t.heap) (va_A (wX q cI cJ cZ u00) s.heap.size)) args s 0 0 (va_A (wX q cI cJ cZ u00) s.heap.size)) (F0 m 81 ls [])) → W p l e (headSpec wsX7_noticed rm_X7_noticed).room s m args below meth c H locs 0 0 (MQ below (va_Qi post (fun u' t => va_P D vwCl (wX q cI cJ cZ u') t.heap) (va_A (wX q cI cJ cZ u00) s.heap.size)) args s 0 0 (va_A (wX q cI cJ cZ u00) s.heap.size)) (F0 m 33 ls []) := by
    intro K81 x1 x3 x4 n
    induction n with
    | zero =>
      intro x2 x5 u H locs hw
      exact hw.elim
    | succ n ih =>
      intro x2 x5 u H locs hw hP hD hS ls hl k81
      unfold wp_X7_noticed_L33 at hw
      refine lv_iload hx hb dX7_noticed_33 (lv_at hl 5 rfl) ?_
      refine lv_aload_n hx hb dX7_noticed_35 rfl (lv_at hl 0 rfl) ?_
      refine va_get (D := D) (ci := 7) (v := .ref (q 2)) (C := RX7) (T := TX7) (N := 5) hx hb hts hiX7 hown hK hP 8 rfl rfl 1 (by decide) hf19 (fun _ h9 => h9) rfl dX7_noticed_36 ?_
      refine va_getN (D := D) (ci := 5) (v := .int (u.1 20 0)) (C := RX5) (T := TX5) (N := 6) hx hb hts hiX5 hown hK hP 2 rfl rfl 4 (by decide) (va_Nw.use rfl (nf_RX7_51 hN)) (fun _ h9 => h9) rfl dX7_noticed_39 ?_
      refine lv_icmp_ge (tgt := 81) hx hb dX7_noticed_42 (by decide) (fun hc => ?_) (fun hc => ?_)
      · have hw := hw.1 hc
        exact k81 x2 u _ _ hw hP hD hS ls (lv_sub hl [0, 1, 2, 3] rfl)
      · have hw := hw.2 hc
        refine lv_aload_n hx hb dX7_noticed_45 rfl (lv_at hl 0 rfl) ?_
        refine va_get (D := D) (ci := 7) (v := .ref (q 34)) (C := RX7) (T := TX7) (N := 5) hx hb hts hiX7 hown hK hP 8 rfl rfl 4 (by decide) hf9 (fun _ h9 => h9) rfl dX7_noticed_46 ?_
        refine lv_iload hx hb dX7_noticed_49 (lv_at hl 5 rfl) ?_
        obtain ⟨hin, hw⟩ := hw
        refine va_iald hx hb hK hP 34 0 rfl rfl hin dX7_noticed_51 ?_
        refine lv_iconst (v := (-1)) hx hb dX7_noticed_52 (by decide) ?_
        refine lv_icmp_eq (tgt := 75) hx hb dX7_noticed_53 (by decide) (fun hc => ?_) (fun hc => ?_)
        · have hw := hw.1 hc
          refine J75 x1 x2 x3 x4 x5 u _ _ hw hP hD hS ls (lv_sub hl [0, 1, 2, 3, 4, 5] rfl) (fun y6 y7 u8 H locs hw hP hD hS ls hl => ?_)
          exact ih y6 y7 u8 _ _ hw hP hD hS ls (lv_sub hl [0, 1, 2, 3, 4, 5] rfl) k81
        · have hw := hw.2 hc
          refine lv_aload_n hx hb dX7_noticed_56 rfl (lv_at hl 0 rfl) ?_
          refine lv_iload_n hx hb dX7_noticed_57 rfl (lv_at hl 1 rfl) ?_
          refine lv_iload hx hb dX7_noticed_58 (lv_at hl 5 rfl) ?_
          refine lv_iload hx hb dX7_noticed_60 (lv_at hl 4 rfl) ?_
          refine vp_callSi (va_Run.run (va_runV (As := [.int x1, .int x5, .int x4]) (rest := []) ⟨hx, hb, hml, hown, hts⟩ (c_X7_brings l D q cI cJ cZ u x1 x5 x4 _ hw) (cwV 3 hts gX7_noticed_X7_brings rfl rfl rfl (by decide +kernel) ⟨Nat.le_of_ble_eq_true rfl, Nat.le_of_ble_eq_true rfl⟩) (pvR (va_recv hK hP (ci := 7) (q0 := 8) (q := (RX7, TX7, 5)) rfl rfl) hK hP hN) rfl rfl hl.1 rfl (lv_room (Nat.le_of_ble_eq_true rfl)) dX7_noticed_62 ⟨Nat.zero_le _, Nat.zero_le _⟩)) (fun r9 hw => ?_)
          refine lv_if_eq (tgt := 75) hx hb dX7_noticed_65 (by decide) (fun hc => ?_) (fun hc => ?_)
          · have hw := hw.1 hc
            refine J75 x1 x2 x3 x4 x5 u _ _ hw hP hD hS ls (lv_sub hl [0, 1, 2, 3, 4, 5] rfl) (fun y10 y11 u12 H locs hw hP hD hS ls hl => ?_)
            exact ih y10 y11 u12 _ _ hw hP hD hS ls (lv_sub hl [0, 1, 2, 3, 4, 5] rfl) k81
          · have hw := hw.2 hc
            refine lv_iload_n hx hb dX7_noticed_68 rfl (lv_at hl 2 rfl) ?_
            refine lv_iconst (v := 1) hx hb dX7_noticed_69 (by decide) ?_
            refine lv_iload hx hb dX7_noticed_70 (lv_at hl 5 rfl) ?_
            refine lv_ishl hx hb dX7_noticed_72 ?_
            refine lv_ior hx hb dX7_noticed_73 ?_
            refine lv_topi (fun y13 ey13 => ?_)
            have hw := hw y13 ey13
            refine lv_istore_n (lv' := [(2, .int y13), (0, .ref (q 8)), (1, .int x1), (3, .int x3), (4, .int x4), (5, .int x5)]) hx hb dX7_noticed_74 rfl hl (by decide) rfl (fun ls hl => ?_)
            refine J75 x1 y13 x3 x4 x5 u _ _ hw hP hD hS ls (lv_sub hl [1, 2, 0, 3, 4, 5] rfl) (fun y14 y15 u16 H locs hw hP hD hS ls hl => ?_)
            exact ih y14 y15 u16 _ _ hw hP hD hS ls (lv_sub hl [0, 1, 2, 3, 4, 5] rfl) k81
  have L4 : ∀ (x1 : Int32) (n : Nat) (x2 : Int32) (x3 : Int32) (u : WU) (H : Heap) (locs : List Loc), wp_X7_noticed_L4 x1 post n x2 x3 u → va_P D vwCl (wX q cI cJ cZ u) H → va_D (va_A (wX q cI cJ cZ u00) s.heap.size) (wX q cI cJ cZ u) → va_S (va_A (wX q cI cJ cZ u00) s.heap.size) s.heap H locs → ∀ ls : Array Slot, lv_has ls 6 [(0, .ref (q 8)), (1, .int x1), (2, .int x2), (3, .int x3)] → W p l e (headSpec wsX7_noticed rm_X7_noticed).room s m args below meth c H locs 0 0 (MQ below (va_Qi post (fun u' t => va_P D vwCl (wX q cI cJ cZ u') t.heap) (va_A (wX q cI cJ cZ u00) s.heap.size)) args s 0 0 (va_A (wX q cI cJ cZ u00) s.heap.size)) (F0 m 4 ls []) := by
    intro x1 n
    induction n with
    | zero =>
      intro x2 x3 u H locs hw
      exact hw.elim
    | succ n ih =>
      intro x2 x3 u H locs hw hP hD hS ls hl 
      unfold wp_X7_noticed_L4 at hw
      refine lv_iload_n hx hb dX7_noticed_4 rfl (lv_at hl 3 rfl) ?_
      refine lv_bipush (v := 8) hx hb dX7_noticed_5 (by decide) ?_
      refine lv_icmp_ge (tgt := 87) hx hb dX7_noticed_7 (by decide) (fun hc => ?_) (fun hc => ?_)
      · have hw := hw.1 hc
        refine lv_iload_n hx hb dX7_noticed_87 rfl (lv_at hl 2 rfl) ?_
        exact W.iret (v := x2) hx hb hr (fun t ht hW => ⟨⟨x2, u, rfl, hw, by show va_P D vwCl _ t.heap; rw [ht]; exact hP⟩, hS.F ht⟩) hS.2.2 dX7_noticed_88
      · have hw := hw.2 hc
        refine lv_iload_n hx hb dX7_noticed_10 rfl (lv_at hl 3 rfl) ?_
        refine lv_iconst (v := 0) hx hb dX7_noticed_11 (by decide) ?_
        refine vp_callSi (va_Run.run (va_runSN (As := [.int x3, .int 0]) (rest := []) ⟨hx, hb, hml, hown, hts⟩ (c_X8_pairOf l x3 0 _ hw) ⟨va_cnB 2 hts ggX7_noticed_X8_pairOf rfl rfl rfl (nm_RX7_42 hN) hi_RX8 (by decide +kernel) ⟨Nat.le_of_ble_eq_true rfl, Nat.le_of_ble_eq_true rfl⟩, hs_X8_pairOf, trivial⟩ (psS hN) rfl rfl hl.1 rfl (lv_room (Nat.le_of_ble_eq_true rfl)) dX7_noticed_12 ⟨Nat.zero_le _, Nat.zero_le _⟩)) (fun r1 hw => ?_)
        refine lv_istore (lv' := [(4, .int r1), (0, .ref (q 8)), (1, .int x1), (2, .int x2), (3, .int x3)]) hx hb dX7_noticed_15 hl (by decide) rfl (fun ls hl => ?_)
        refine lv_aload_n hx hb dX7_noticed_17 rfl (lv_at hl 1 rfl) ?_
        refine lv_iload hx hb dX7_noticed_18 (lv_at hl 0 rfl) ?_
        refine lv_aload_n hx hb dX7_noticed_20 rfl (lv_at hl 1 rfl) ?_
        refine va_get (D := D) (ci := 7) (v := .ref (q 2)) (C := RX7) (T := TX7) (N := 5) hx hb hts hiX7 hown hK hP 8 rfl rfl 1 (by decide) hf19 (fun _ h9 => h9) rfl dX7_noticed_21 ?_
        refine va_getN (D := D) (ci := 5) (v := .int (u.1 21 0)) (C := RX5) (T := TX5) (N := 6) hx hb hts hiX5 hown hK hP 2 rfl rfl 5 (by decide) (va_Nw.use rfl (nf_RX7_45 hN)) (fun _ h9 => h9) rfl dX7_noticed_24 ?_
        refine cMv (sh_wX q cI cJ cZ) (u := u) (va_runV (As := [.int r1, .int (u.1 21 0)]) (rest := []) ⟨hx, hb, hml, hown, hts⟩ (c_X7_measure l D q cI cJ cZ _ u r1 (u.1 21 0) _ hw) (cwV 2 hts gX7_noticed_X7_measure rfl rfl rfl (by decide +kernel) ⟨Nat.le_of_ble_eq_true rfl, Nat.le_of_ble_eq_true rfl⟩) (pvM (va_recv hK hP (ci := 7) (q0 := 8) (q := (RX7, TX7, 5)) rfl rfl) hK hP hD hN) rfl rfl hl.1 rfl (lv_room (Nat.le_of_ble_eq_true rfl)) dX7_noticed_27 ⟨Nat.zero_le _, Nat.zero_le _⟩) hA hD hS (fun u2 H locs hw hP hD hS => ?_)
        refine lv_iconst (v := 0) hx hb dX7_noticed_30 (by decide) ?_
        refine lv_istore (lv' := [(5, .int 0), (4, .int r1), (0, .ref (q 8)), (1, .int x1), (2, .int x2), (3, .int x3)]) hx hb dX7_noticed_31 hl (by decide) rfl (fun ls hl => ?_)
        obtain ⟨nn, hw⟩ := hw
        refine L33 x1 x3 r1 nn x2 0 u2 _ _ hw hP hD hS ls (lv_sub hl [2, 3, 4, 5, 1, 0] rfl) (fun y3 u4 H locs hw hP hD hS ls hl => ?_)
        obtain ⟨y5, ey5⟩ : ∃ z : Int32, z = x3 + 1 := ⟨_, rfl⟩
        have hw := hw y5 ey5
        refine lv_iinc (v := y5) (lv' := [(3, .int y5), (0, .ref (q 8)), (1, .int x1), (2, .int y3)]) hx hb dX7_noticed_81 hl (k := 3) rfl (by rw [ey5]; rfl) (by decide) rfl (fun ls hl => ?_)
        refine lv_goto (tgt := 4) hx hb dX7_noticed_84 (by decide) ?_
        exact ih y3 y5 u4 _ _ hw hP hD hS ls (lv_sub hl [1, 2, 3, 0] rfl)
  have hent := lg_entry_eq m ([.ref (q 8), .int x1]) 6
  rw [← hargs] at hent
  rw [hent]
  have hl := lv_entry ([.ref (q 8), .int x1]) (n := 6) (Nat.le_of_ble_eq_true rfl)
  generalize (lg_sl ([.ref (q 8), .int x1]) ++ List.replicate (6 - (lg_sl ([.ref (q 8), .int x1])).length) Slot.unset).toArray = ls at hl ⊢
  have hl : lv_has ls 6 [(0, .ref (q 8)), (1, .int x1)] := hl
  unfold wp_X7_noticed at hw
  refine lv_iconst (v := 0) hx hb dX7_noticed_0 (by decide) ?_
  refine lv_istore_n (lv' := [(2, .int 0), (0, .ref (q 8)), (1, .int x1)]) hx hb dX7_noticed_1 rfl hl (by decide) rfl (fun ls hl => ?_)
  refine lv_iconst (v := 0) hx hb dX7_noticed_2 (by decide) ?_
  refine lv_istore_n (lv' := [(3, .int 0), (2, .int 0), (0, .ref (q 8)), (1, .int x1)]) hx hb dX7_noticed_3 rfl hl (by decide) rfl (fun ls hl => ?_)
  obtain ⟨nn, hw⟩ := hw
  refine L4 x1 nn 0 0 u _ _ hw hP hD hS ls (lv_sub hl [2, 3, 1, 0] rfl)
set_option maxHeartbeats 4000000 in
set_option maxRecDepth 100000 in
theorem c_X8_memberAt (l : Launch) (x0 : Int32) (x1 : Int32) (post : Int32 → Prop) (hw : wp_X8_memberAt x0 x1 post) : Met l yX8_memberAt wsX8_memberAt rm_X8_memberAt (va_Pc [.int x0, .int x1] NW) (vp_Si post) 0 0 (fun _ => False) := by
  refine Met.ofW (cc := cX8_memberAt) (maxL := 4) (ret := (some .int)) (by decide) rfl ?_
  intro p e s m args below meth c s₁ B hml hv
  obtain ⟨hargs, hN⟩ := hv
  have hx := B.exec
  have hb := B.bytes
  have hr := B.returns
  have hts := atoms_spec (ws := wsX8_memberAt) B.pre
  have hown : s.vm.findClass RX8 = some m.cls := findClass_of_methodNamed B.named
  have hlocks := B.notSynchronized
  have J29 : ∀ {K4 : Int32 → Int32 → Prop} (x0 : Int32) (x1 : Int32) (x2 : Int32) (x3 : Int32) (_ : Unit), wp_X8_memberAt_J29 x0 x1 x2 x3 post K4 → ∀ ls : Array Slot, lv_has ls 4 [(0, .int x0), (1, .int x1), (2, .int x2), (3, .int x3)] → (∀ (x2 : Int32) (x3 : Int32), K4 x2 x3 → ∀ ls : Array Slot, lv_has ls 4 [(0, .int x0), (1, .int x1), (2, .int x2), (3, .int x3)] → W p l e (headSpec wsX8_memberAt rm_X8_memberAt).room s m args below meth c s.heap [] 0 0 (MQ below (vp_Si post) args s 0 0 (fun _ => False)) (F0 m 4 ls [])) → W p l e (headSpec wsX8_memberAt rm_X8_memberAt).room s m args below meth c s.heap [] 0 0 (MQ below (vp_Si post) args s 0 0 (fun _ => False)) (F0 m 29 ls []) := by
    intro K4 x0 x1 x2 x3 _ hw ls hl k4
    unfold wp_X8_memberAt_J29 at hw
    obtain ⟨y7, ey7⟩ : ∃ z : Int32, z = x3 + 1 := ⟨_, rfl⟩
    have hw := hw y7 ey7
    refine lv_iinc (v := y7) (lv' := [(3, .int y7), (0, .int x0), (1, .int x1), (2, .int x2)]) hx hb dX8_memberAt_29 hl (k := 3) rfl (by rw [ey7]; rfl) (by decide) rfl (fun ls hl => ?_)
    refine lv_goto (tgt := 4) hx hb dX8_memberAt_32 (by decide) ?_
    exact k4 x2 y7 hw ls (lv_sub hl [1, 2, 3, 0] rfl)
  have L4 : ∀ (x0 : Int32) (x1 : Int32) (n : Nat) (x2 : Int32) (x3 : Int32) (_ : Unit), wp_X8_memberAt_L4 x0 x1 post n x2 x3 → ∀ ls : Array Slot, lv_has ls 4 [(0, .int x0), (1, .int x1), (2, .int x2), (3, .int x3)] → W p l e (headSpec wsX8_memberAt rm_X8_memberAt).room s m args below meth c s.heap [] 0 0 (MQ below (vp_Si post) args s 0 0 (fun _ => False)) (F0 m 4 ls []) := by
    intro x0 x1 n
    induction n with
    | zero =>
      intro x2 x3 _ hw
      exact hw.elim
    | succ n ih =>
      intro x2 x3 _ hw ls hl 
      unfold wp_X8_memberAt_L4 at hw
      refine lv_iload_n hx hb dX8_memberAt_4 rfl (lv_at hl 3 rfl) ?_
      refine lv_bipush (v := 24) hx hb dX8_memberAt_5 (by decide) ?_
      refine lv_icmp_ge (tgt := 35) hx hb dX8_memberAt_7 (by decide) (fun hc => ?_) (fun hc => ?_)
      · have hw := hw.1 hc
        refine lv_iconst (v := (-1)) hx hb dX8_memberAt_35 (by decide) ?_
        exact W.iret (v := (-1)) hx hb hr (fun t ht hW => ⟨(-1), rfl, hw, ht⟩) (fun _ h => by cases h) dX8_memberAt_36
      · have hw := hw.2 hc
        refine lv_iload_n hx hb dX8_memberAt_10 rfl (lv_at hl 0 rfl) ?_
        refine lv_i2l (v := x0.toInt64) hx hb dX8_memberAt_11 rfl ?_
        refine lv_iload_n hx hb dX8_memberAt_12 rfl (lv_at hl 3 rfl) ?_
        refine vp_callSi (va_Run.run (va_runS (As := [.long x0.toInt64, .int x3]) (rest := []) ⟨hx, hb, hml, hown, hts⟩ (c_X8_holds l x0.toInt64 x3 _ hw) (va_cwS 2 hts gX8_memberAt_X8_holds rfl rfl rfl (by decide +kernel) ⟨Nat.le_of_ble_eq_true rfl, Nat.le_of_ble_eq_true rfl⟩) (psS hN) rfl rfl hl.1 rfl (lv_room (Nat.le_of_ble_eq_true rfl)) dX8_memberAt_13 ⟨Nat.zero_le _, Nat.zero_le _⟩)) (fun r1 hw => ?_)
        refine lv_if_eq (tgt := 29) hx hb dX8_memberAt_16 (by decide) (fun hc => ?_) (fun hc => ?_)
        · have hw := hw.1 hc
          refine J29 x0 x1 x2 x3 () hw ls (lv_sub hl [0, 1, 2, 3] rfl) (fun y2 y3 hw ls hl => ?_)
          exact ih y2 y3 () hw ls (lv_sub hl [0, 1, 2, 3] rfl)
        · have hw := hw.2 hc
          refine lv_iload_n hx hb dX8_memberAt_19 rfl (lv_at hl 2 rfl) ?_
          refine lv_iload_n hx hb dX8_memberAt_20 rfl (lv_at hl 1 rfl) ?_
          refine lv_icmp_ne (tgt := 26) hx hb dX8_memberAt_21 (by decide) (fun hc => ?_) (fun hc => ?_)
          · have hw := hw.1 hc
            obtain ⟨y4, ey4⟩ : ∃ z : Int32, z = x2 + 1 := ⟨_, rfl⟩
            have hw := hw y4 ey4
            refine lv_iinc (v := y4) (lv' := [(2, .int y4), (0, .int x0), (1, .int x1), (3, .int x3)]) hx hb dX8_memberAt_26 hl (k := 2) rfl (by rw [ey4]; rfl) (by decide) rfl (fun ls hl => ?_)
            refine J29 x0 x1 y4 x3 () hw ls (lv_sub hl [1, 2, 0, 3] rfl) (fun y5 y6 hw ls hl => ?_)
            exact ih y5 y6 () hw ls (lv_sub hl [0, 1, 2, 3] rfl)
          · have hw := hw.2 hc
            refine lv_iload_n hx hb dX8_memberAt_24 rfl (lv_at hl 3 rfl) ?_
            exact W.iret (v := x3) hx hb hr (fun t ht hW => ⟨x3, rfl, hw, ht⟩) (fun _ h => by cases h) dX8_memberAt_25
  have hent := lg_entry_eq m ([.int x0, .int x1]) 4
  rw [← hargs] at hent
  rw [hent]
  have hl := lv_entry ([.int x0, .int x1]) (n := 4) (Nat.le_of_ble_eq_true rfl)
  generalize (lg_sl ([.int x0, .int x1]) ++ List.replicate (4 - (lg_sl ([.int x0, .int x1])).length) Slot.unset).toArray = ls at hl ⊢
  have hl : lv_has ls 4 [(0, .int x0), (1, .int x1)] := hl
  unfold wp_X8_memberAt at hw
  refine lv_iconst (v := 0) hx hb dX8_memberAt_0 (by decide) ?_
  refine lv_istore_n (lv' := [(2, .int 0), (0, .int x0), (1, .int x1)]) hx hb dX8_memberAt_1 rfl hl (by decide) rfl (fun ls hl => ?_)
  refine lv_iconst (v := 0) hx hb dX8_memberAt_2 (by decide) ?_
  refine lv_istore_n (lv' := [(3, .int 0), (2, .int 0), (0, .int x0), (1, .int x1)]) hx hb dX8_memberAt_3 rfl hl (by decide) rfl (fun ls hl => ?_)
  obtain ⟨nn, hw⟩ := hw
  refine L4 x0 x1 nn 0 0 () hw ls (lv_sub hl [2, 3, 1, 0] rfl)
set_option maxHeartbeats 4000000 in
set_option maxRecDepth 100000 in
theorem c_X8_notice (l : Launch) (D : va_G) (q : Nat → Nat) (cI cJ cZ : ClassId) (sz : Nat) (u : WU) (x1 : Int32) (x2 : Int32) (post : Int32 → WU → Prop) (hw : wp_X8_notice x1 x2 u post) : Met l yX8_notice wsX8_notice rm_X8_notice (va_Pc [.ref (q 0), .int x1, .int x2] (MW D (ty3 cI cJ cZ) (wX q cI cJ cZ u) sz)) (va_Qi post (fun u' t => va_P D vwCl (wX q cI cJ cZ u') t.heap) (va_A (wX q cI cJ cZ u00) sz)) 0 0 (va_A (wX q cI cJ cZ u00) sz) := by
  refine Met.ofW (cc := cX8_notice) (maxL := 3) (ret := (some .int)) (by decide) rfl ?_
  intro p e s m args below meth c s₁ B hml hv
  obtain ⟨hargs, hsz, hP, hK, hD0, hN⟩ := hv
  have hx := B.exec
  have hb := B.bytes
  have hr := B.returns
  have hts := atoms_spec (ws := wsX8_notice) B.pre
  have hown : s.vm.findClass RX8 = some m.cls := findClass_of_methodNamed B.named
  have hlocks := B.notSynchronized
  subst hsz
  have hD := shw_self (sz := s.heap.size) (sh_wX q cI cJ cZ) hD0
  have hA : ∀ a : Nat, s.heap.size ≤ a → va_A (wX q cI cJ cZ u00) s.heap.size a := fun _ h => Or.inr h
  have hS : va_S (va_A (wX q cI cJ cZ u00) s.heap.size) s.heap s.heap [] := va_S.rf
  have hiX5 : ∀ w ∈ u_ws RX5 TX5 6, w ∈ wsX8_notice := by decide +kernel
  have hiX8 : ∀ w ∈ u_ws RX8 TX8 8, w ∈ wsX8_notice := by decide +kernel
  have hf19 := hts (.fieldLink RX8 19 "TermsDesk" "parts" "LTermsDesk$Parts;") (by decide +kernel)
  have hf69 := hts (.fieldLink RX8 69 "TermsDesk" "tracer" "LTermsDesk$Tracer;") (by decide +kernel)
  have hent := lg_entry_eq m ([.ref (q 0), .int x1, .int x2]) 3
  rw [← hargs] at hent
  rw [hent]
  have hl := lv_entry ([.ref (q 0), .int x1, .int x2]) (n := 3) (Nat.le_of_ble_eq_true rfl)
  generalize (lg_sl ([.ref (q 0), .int x1, .int x2]) ++ List.replicate (3 - (lg_sl ([.ref (q 0), .int x1, .int x2])).length) Slot.unset).toArray = ls at hl ⊢
  have hl : lv_has ls 3 [(0, .ref (q 0)), (1, .int x1), (2, .int x2)] := hl
  unfold wp_X8_notice at hw
  refine lv_iload_n hx hb dX8_notice_0 rfl (lv_at hl 1 rfl) ?_
  refine lv_iconst (v := 4) hx hb dX8_notice_1 (by decide) ?_
  refine vp_callSi (va_Run.run (va_runS (As := [.int x1, .int 4]) (rest := []) ⟨hx, hb, hml, hown, hts⟩ (c_X8_within l x1 4 _ hw) (va_cwS 2 hts gX8_notice_X8_within rfl rfl rfl (by decide +kernel) ⟨Nat.le_of_ble_eq_true rfl, Nat.le_of_ble_eq_true rfl⟩) (psS hN) rfl rfl hl.1 rfl (lv_room (Nat.le_of_ble_eq_true rfl)) dX8_notice_2 ⟨Nat.zero_le _, Nat.zero_le _⟩)) (fun r1 hw => ?_)
  refine lv_if_eq (tgt := 18) hx hb dX8_notice_5 (by decide) (fun hc => ?_) (fun hc => ?_)
  · have hw := hw.1 hc
    refine lv_iconst (v := (-1)) hx hb dX8_notice_18 (by decide) ?_
    exact W.iret (v := (-1)) hx hb hr (fun t ht hW => ⟨⟨(-1), u, rfl, hw, by show va_P D vwCl _ t.heap; rw [ht]; exact hP⟩, hS.F ht⟩) hS.2.2 dX8_notice_19
  · have hw := hw.2 hc
    refine lv_aload_n hx hb dX8_notice_8 rfl (lv_at hl 0 rfl) ?_
    refine va_get (D := D) (ci := 8) (v := .ref (q 2)) (C := RX8) (T := TX8) (N := 8) hx hb hts hiX8 hown hK hP 0 rfl rfl 1 (by decide) hf19 (fun _ h9 => h9) rfl dX8_notice_9 ?_
    refine va_getN (D := D) (ci := 5) (v := .int (u.1 20 0)) (C := RX5) (T := TX5) (N := 6) hx hb hts hiX5 hown hK hP 2 rfl rfl 4 (by decide) (va_Nw.use rfl (nf_RX8_96 hN)) (fun _ h9 => h9) rfl dX8_notice_12 ?_
    refine lv_if_ne (tgt := 20) hx hb dX8_notice_15 (by decide) (fun hc => ?_) (fun hc => ?_)
    · have hw := hw.1 hc
      refine lv_aload_n hx hb dX8_notice_20 rfl (lv_at hl 0 rfl) ?_
      refine va_get (D := D) (ci := 8) (v := .ref (q 8)) (C := RX8) (T := TX8) (N := 8) hx hb hts hiX8 hown hK hP 0 rfl rfl 7 (by decide) hf69 (fun _ h9 => h9) rfl dX8_notice_21 ?_
      refine lv_iload_n hx hb dX8_notice_24 rfl (lv_at hl 1 rfl) ?_
      refine cMi (sh_wX q cI cJ cZ) (u := u) (va_runV (As := [.int x1]) (rest := []) ⟨hx, hb, hml, hown, hts⟩ (c_X7_noticed l D q cI cJ cZ _ u x1 _ hw) (cwV 1 hts gX8_notice_X7_noticed rfl rfl rfl (by decide +kernel) ⟨Nat.le_of_ble_eq_true rfl, Nat.le_of_ble_eq_true rfl⟩) (pvM (va_recv hK hP (ci := 7) (q0 := 8) (q := (RX7, TX7, 5)) rfl rfl) hK hP hD hN) rfl rfl hl.1 rfl (lv_room (Nat.le_of_ble_eq_true rfl)) dX8_notice_25 ⟨Nat.zero_le _, Nat.zero_le _⟩) hA hD hS (fun r3 u2 H locs hw hP hD hS => ?_)
      refine lv_iload_n hx hb dX8_notice_28 rfl (lv_at hl 2 rfl) ?_
      refine vp_callSi (va_Run.run (va_runS (As := [.int r3, .int x2]) (rest := []) ⟨hx, hb, hml, hown, hts⟩ (c_X8_memberAt l r3 x2 _ hw) (va_cwS 2 hts gX8_notice_X8_memberAt rfl rfl rfl (by decide +kernel) ⟨Nat.le_of_ble_eq_true rfl, Nat.le_of_ble_eq_true rfl⟩) (psS hN) rfl rfl hl.1 rfl (lv_room (Nat.le_of_ble_eq_true rfl)) dX8_notice_29 ⟨Nat.zero_le _, Nat.zero_le _⟩)) (fun r4 hw => ?_)
      exact W.iret (v := r4) hx hb hr (fun t ht hW => ⟨⟨r4, u2, rfl, hw, by show va_P D vwCl _ t.heap; rw [ht]; exact hP⟩, hS.F ht⟩) hS.2.2 dX8_notice_32
    · have hw := hw.2 hc
      refine lv_iconst (v := (-1)) hx hb dX8_notice_18 (by decide) ?_
      exact W.iret (v := (-1)) hx hb hr (fun t ht hW => ⟨⟨(-1), u, rfl, hw, by show va_P D vwCl _ t.heap; rw [ht]; exact hP⟩, hS.F ht⟩) hS.2.2 dX8_notice_19
