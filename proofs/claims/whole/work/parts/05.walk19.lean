set_option maxHeartbeats 4000000 in
set_option maxRecDepth 100000 in
theorem c_X9_count (l : Launch) (D : va_G) (q : Nat → Nat) (cI cJ cZ : ClassId) (sz : Nat) (u : WU) (x1 : Int32) (post : Int32 → WU → Prop) (hw : wp_X9_count x1 u post) : Met l yX9_count wsX9_count rm_X9_count (va_Pc [.ref (q 0), .int x1] (MW D (ty3 cI cJ cZ) (wM q cI cJ cZ u) sz)) (va_Qi post (fun u' t => va_P D vwCl (wM q cI cJ cZ u') t.heap) (va_A (wM q cI cJ cZ u00) sz)) 0 0 (va_A (wM q cI cJ cZ u00) sz) := by
  refine Met.ofW (cc := cX9_count) (maxL := 4) (ret := (some .int)) (by decide) rfl ?_
  intro p e s m args below meth c s₁ B hml hv
  obtain ⟨hargs, hsz, hP, hK, hD0, hN⟩ := hv
  have hx := B.exec
  have hb := B.bytes
  have hr := B.returns
  have hts := atoms_spec (ws := wsX9_count) B.pre
  have hown : s.vm.findClass RX9 = some m.cls := findClass_of_methodNamed B.named
  have hlocks := B.notSynchronized
  subst hsz
  have hD := shw_self (sz := s.heap.size) (sh_wM q cI cJ cZ) hD0
  have hA : ∀ a : Nat, s.heap.size ≤ a → va_A (wM q cI cJ cZ u00) s.heap.size a := fun _ h => Or.inr h
  have hS : va_S (va_A (wM q cI cJ cZ u00) s.heap.size) s.heap s.heap [] := va_S.rf
  have hiX9 : ∀ w ∈ u_ws RX9 TX9 30, w ∈ wsX9_count := by decide +kernel
  have hf108 := hts (.fieldLink RX9 108 "TermsDeskModel" "joins" "I") (by decide +kernel)
  have hf118 := hts (.fieldLink RX9 118 "TermsDeskModel" "product" "I") (by decide +kernel)
  have hf121 := hts (.fieldLink RX9 121 "TermsDeskModel" "changes" "I") (by decide +kernel)
  have hf41 := hts (.fieldLink RX9 41 "TermsDeskModel" "isCut" "[Z") (by decide +kernel)
  have hf57 := hts (.fieldLink RX9 57 "TermsDeskModel" "isReached" "[Z") (by decide +kernel)
  have hf87 := hts (.fieldLink RX9 87 "TermsDeskModel" "parts" "I") (by decide +kernel)
  have J79 : ∀ {K56 : Int32 → Int32 → WU → Prop} (x3 : Int32) (z0 : Int32) (z1 : Int32) (u : WU) (H : Heap) (locs : List Loc), wp_X9_count_J79 x3 z0 z1 u post K56 → va_P D vwCl (wM q cI cJ cZ u) H → va_D (va_A (wM q cI cJ cZ u00) s.heap.size) (wM q cI cJ cZ u) → va_S (va_A (wM q cI cJ cZ u00) s.heap.size) s.heap H locs → ∀ ls : Array Slot, lv_has ls 4 [(0, .ref (q 0)), (3, .int x3)] → (∀ (x2 : Int32) (x3 : Int32) (u : WU) (H : Heap) (locs : List Loc), K56 x2 x3 u → va_P D vwCl (wM q cI cJ cZ u) H → va_D (va_A (wM q cI cJ cZ u00) s.heap.size) (wM q cI cJ cZ u) → va_S (va_A (wM q cI cJ cZ u00) s.heap.size) s.heap H locs → ∀ ls : Array Slot, lv_has ls 4 [(0, .ref (q 0)), (2, .int x2), (3, .int x3)] → W p l e (headSpec wsX9_count rm_X9_count).room s m args below meth c H locs 0 0 (MQ below (va_Qi post (fun u' t => va_P D vwCl (wM q cI cJ cZ u') t.heap) (va_A (wM q cI cJ cZ u00) s.heap.size)) args s 0 0 (va_A (wM q cI cJ cZ u00) s.heap.size)) (F0 m 56 ls [])) → W p l e (headSpec wsX9_count rm_X9_count).room s m args below meth c H locs 0 0 (MQ below (va_Qi post (fun u' t => va_P D vwCl (wM q cI cJ cZ u') t.heap) (va_A (wM q cI cJ cZ u00) s.heap.size)) args s 0 0 (va_A (wM q cI cJ cZ u00) s.heap.size)) (F0 m 79 ls [.int z1, .int z0]) := by
    intro K56 x3 z0 z1 u H locs hw hP hD hS ls hl k56
    unfold wp_X9_count_J79 at hw
    refine lv_iadd hx hb dX9_count_79 ?_
    refine lv_topi (fun y13 ey13 => ?_)
    have hw := hw y13 ey13
    refine lv_istore_n (lv' := [(2, .int y13), (0, .ref (q 0)), (3, .int x3)]) hx hb dX9_count_80 rfl hl (by decide) rfl (fun ls hl => ?_)
    obtain ⟨y14, ey14⟩ : ∃ z : Int32, z = x3 + 1 := ⟨_, rfl⟩
    have hw := hw y14 ey14
    refine lv_iinc (v := y14) (lv' := [(3, .int y14), (2, .int y13), (0, .ref (q 0))]) hx hb dX9_count_81 hl (k := 2) rfl (by rw [ey14]; rfl) (by decide) rfl (fun ls hl => ?_)
    refine lv_goto (tgt := 56) hx hb dX9_count_84 (by decide) ?_
    exact k56 y13 y14 u _ _ hw hP hD hS ls (lv_sub hl [2, 1, 0] rfl)
  have L56 : ∀ (n : Nat) (x2 : Int32) (x3 : Int32) (u : WU) (H : Heap) (locs : List Loc), wp_X9_count_L56 post n x2 x3 u → va_P D vwCl (wM q cI cJ cZ u) H → va_D (va_A (wM q cI cJ cZ u00) s.heap.size) (wM q cI cJ cZ u) → va_S (va_A (wM q cI cJ cZ u00) s.heap.size) s.heap H locs → ∀ ls : Array Slot, lv_has ls 4 [(0, .ref (q 0)), (2, .int x2), (3, .int x3)] → W p l e (headSpec wsX9_count rm_X9_count).room s m args below meth c H locs 0 0 (MQ below (va_Qi post (fun u' t => va_P D vwCl (wM q cI cJ cZ u') t.heap) (va_A (wM q cI cJ cZ u00) s.heap.size)) args s 0 0 (va_A (wM q cI cJ cZ u00) s.heap.size)) (F0 m 56 ls []) := by
    intro  n
    induction n with
    | zero =>
      intro x2 x3 u H locs hw
      exact hw.elim
    | succ n ih =>
      intro x2 x3 u H locs hw hP hD hS ls hl 
      unfold wp_X9_count_L56 at hw
      refine lv_iload_n hx hb dX9_count_56 rfl (lv_at hl 2 rfl) ?_
      refine lv_aload_n hx hb dX9_count_57 rfl (lv_at hl 0 rfl) ?_
      refine va_get (D := D) (ci := 9) (v := .int (u.1 23 0)) (C := RX9) (T := TX9) (N := 30) hx hb hts hiX9 hown hK hP 0 rfl rfl 9 (by decide) hf108 (fun _ h9 => h9) rfl dX9_count_58 ?_
      refine lv_icmp_ge (tgt := 87) hx hb dX9_count_61 (by decide) (fun hc => ?_) (fun hc => ?_)
      · have hw := hw.1 hc
        refine lv_iload_n hx hb dX9_count_87 rfl (lv_at hl 1 rfl) ?_
        exact W.iret (v := x2) hx hb hr (fun t ht hW => ⟨⟨x2, u, rfl, hw, by show va_P D vwCl _ t.heap; rw [ht]; exact hP⟩, hS.F ht⟩) hS.2.2 dX9_count_88
      · have hw := hw.2 hc
        refine lv_iload_n hx hb dX9_count_64 rfl (lv_at hl 1 rfl) ?_
        refine lv_aload_n hx hb dX9_count_65 rfl (lv_at hl 0 rfl) ?_
        refine va_get (D := D) (ci := 9) (v := .ref (q 11)) (C := RX9) (T := TX9) (N := 30) hx hb hts hiX9 hown hK hP 0 rfl rfl 13 (by decide) hf41 (fun _ h9 => h9) rfl dX9_count_66 ?_
        refine lv_iload_n hx hb dX9_count_69 rfl (lv_at hl 2 rfl) ?_
        obtain ⟨hin, hw⟩ := hw
        refine va_zald hx hb hK hP 11 2 rfl rfl hin dX9_count_70 ?_
        refine lv_if_eq (tgt := 78) hx hb dX9_count_71 (by decide) (fun hc => ?_) (fun hc => ?_)
        · have hw := hw.1 hc
          refine lv_iconst (v := 1) hx hb dX9_count_78 (by decide) ?_
          refine J79 x3 x2 1 u _ _ hw hP hD hS ls (lv_sub hl [0, 2] rfl) (fun y1 y2 u3 H locs hw hP hD hS ls hl => ?_)
          exact ih y1 y2 u3 _ _ hw hP hD hS ls (lv_sub hl [0, 1, 2] rfl)
        · have hw := hw.2 hc
          refine lv_iconst (v := 0) hx hb dX9_count_74 (by decide) ?_
          refine lv_goto (tgt := 79) hx hb dX9_count_75 (by decide) ?_
          refine J79 x3 x2 0 u _ _ hw hP hD hS ls (lv_sub hl [0, 2] rfl) (fun y4 y5 u6 H locs hw hP hD hS ls hl => ?_)
          exact ih y4 y5 u6 _ _ hw hP hD hS ls (lv_sub hl [0, 1, 2] rfl)
  have J126 : ∀ {K103 : Int32 → Int32 → WU → Prop} (x3 : Int32) (z0 : Int32) (z1 : Int32) (u : WU) (H : Heap) (locs : List Loc), wp_X9_count_J126 x3 z0 z1 u post K103 → va_P D vwCl (wM q cI cJ cZ u) H → va_D (va_A (wM q cI cJ cZ u00) s.heap.size) (wM q cI cJ cZ u) → va_S (va_A (wM q cI cJ cZ u00) s.heap.size) s.heap H locs → ∀ ls : Array Slot, lv_has ls 4 [(0, .ref (q 0)), (3, .int x3)] → (∀ (x2 : Int32) (x3 : Int32) (u : WU) (H : Heap) (locs : List Loc), K103 x2 x3 u → va_P D vwCl (wM q cI cJ cZ u) H → va_D (va_A (wM q cI cJ cZ u00) s.heap.size) (wM q cI cJ cZ u) → va_S (va_A (wM q cI cJ cZ u00) s.heap.size) s.heap H locs → ∀ ls : Array Slot, lv_has ls 4 [(0, .ref (q 0)), (2, .int x2), (3, .int x3)] → W p l e (headSpec wsX9_count rm_X9_count).room s m args below meth c H locs 0 0 (MQ below (va_Qi post (fun u' t => va_P D vwCl (wM q cI cJ cZ u') t.heap) (va_A (wM q cI cJ cZ u00) s.heap.size)) args s 0 0 (va_A (wM q cI cJ cZ u00) s.heap.size)) (F0 m 103 ls [])) → W p l e (headSpec wsX9_count rm_X9_count).room s m args below meth c H locs 0 0 (MQ below (va_Qi post (fun u' t => va_P D vwCl (wM q cI cJ cZ u') t.heap) (va_A (wM q cI cJ cZ u00) s.heap.size)) args s 0 0 (va_A (wM q cI cJ cZ u00) s.heap.size)) (F0 m 126 ls [.int z1, .int z0]) := by
    intro K103 x3 z0 z1 u H locs hw hP hD hS ls hl k103
    unfold wp_X9_count_J126 at hw
    refine lv_iadd hx hb dX9_count_126 ?_
    refine lv_topi (fun y15 ey15 => ?_)
    have hw := hw y15 ey15
    refine lv_istore_n (lv' := [(2, .int y15), (0, .ref (q 0)), (3, .int x3)]) hx hb dX9_count_127 rfl hl (by decide) rfl (fun ls hl => ?_)
    obtain ⟨y16, ey16⟩ : ∃ z : Int32, z = x3 + 1 := ⟨_, rfl⟩
    have hw := hw y16 ey16
    refine lv_iinc (v := y16) (lv' := [(3, .int y16), (2, .int y15), (0, .ref (q 0))]) hx hb dX9_count_128 hl (k := 2) rfl (by rw [ey16]; rfl) (by decide) rfl (fun ls hl => ?_)
    refine lv_goto (tgt := 103) hx hb dX9_count_131 (by decide) ?_
    exact k103 y15 y16 u _ _ hw hP hD hS ls (lv_sub hl [2, 1, 0] rfl)
  have L103 : ∀ (n : Nat) (x2 : Int32) (x3 : Int32) (u : WU) (H : Heap) (locs : List Loc), wp_X9_count_L103 post n x2 x3 u → va_P D vwCl (wM q cI cJ cZ u) H → va_D (va_A (wM q cI cJ cZ u00) s.heap.size) (wM q cI cJ cZ u) → va_S (va_A (wM q cI cJ cZ u00) s.heap.size) s.heap H locs → ∀ ls : Array Slot, lv_has ls 4 [(0, .ref (q 0)), (2, .int x2), (3, .int x3)] → W p l e (headSpec wsX9_count rm_X9_count).room s m args below meth c H locs 0 0 (MQ below (va_Qi post (fun u' t => va_P D vwCl (wM q cI cJ cZ u') t.heap) (va_A (wM q cI cJ cZ u00) s.heap.size)) args s 0 0 (va_A (wM q cI cJ cZ u00) s.heap.size)) (F0 m 103 ls []) := by
    intro  n
    induction n with
    | zero =>
      intro x2 x3 u H locs hw
      exact hw.elim
    | succ n ih =>
      intro x2 x3 u H locs hw hP hD hS ls hl 
      unfold wp_X9_count_L103 at hw
      refine lv_iload_n hx hb dX9_count_103 rfl (lv_at hl 2 rfl) ?_
      refine lv_aload_n hx hb dX9_count_104 rfl (lv_at hl 0 rfl) ?_
      refine va_get (D := D) (ci := 9) (v := .int (u.1 21 0)) (C := RX9) (T := TX9) (N := 30) hx hb hts hiX9 hown hK hP 0 rfl rfl 3 (by decide) hf87 (fun _ h9 => h9) rfl dX9_count_105 ?_
      refine lv_icmp_ge (tgt := 134) hx hb dX9_count_108 (by decide) (fun hc => ?_) (fun hc => ?_)
      · have hw := hw.1 hc
        refine lv_iload_n hx hb dX9_count_134 rfl (lv_at hl 1 rfl) ?_
        exact W.iret (v := x2) hx hb hr (fun t ht hW => ⟨⟨x2, u, rfl, hw, by show va_P D vwCl _ t.heap; rw [ht]; exact hP⟩, hS.F ht⟩) hS.2.2 dX9_count_135
      · have hw := hw.2 hc
        refine lv_iload_n hx hb dX9_count_111 rfl (lv_at hl 1 rfl) ?_
        refine lv_aload_n hx hb dX9_count_112 rfl (lv_at hl 0 rfl) ?_
        refine va_get (D := D) (ci := 9) (v := .ref (q 16)) (C := RX9) (T := TX9) (N := 30) hx hb hts hiX9 hown hK hP 0 rfl rfl 19 (by decide) hf57 (fun _ h9 => h9) rfl dX9_count_113 ?_
        refine lv_iload_n hx hb dX9_count_116 rfl (lv_at hl 2 rfl) ?_
        obtain ⟨hin, hw⟩ := hw
        refine va_zald hx hb hK hP 16 2 rfl rfl hin dX9_count_117 ?_
        refine lv_if_eq (tgt := 125) hx hb dX9_count_118 (by decide) (fun hc => ?_) (fun hc => ?_)
        · have hw := hw.1 hc
          refine lv_iconst (v := 0) hx hb dX9_count_125 (by decide) ?_
          refine J126 x3 x2 0 u _ _ hw hP hD hS ls (lv_sub hl [0, 2] rfl) (fun y7 y8 u9 H locs hw hP hD hS ls hl => ?_)
          exact ih y7 y8 u9 _ _ hw hP hD hS ls (lv_sub hl [0, 1, 2] rfl)
        · have hw := hw.2 hc
          refine lv_iconst (v := 1) hx hb dX9_count_121 (by decide) ?_
          refine lv_goto (tgt := 126) hx hb dX9_count_122 (by decide) ?_
          refine J126 x3 x2 1 u _ _ hw hP hD hS ls (lv_sub hl [0, 2] rfl) (fun y10 y11 u12 H locs hw hP hD hS ls hl => ?_)
          exact ih y10 y11 u12 _ _ hw hP hD hS ls (lv_sub hl [0, 1, 2] rfl)
  have hent := lg_entry_eq m ([.ref (q 0), .int x1]) 4
  rw [← hargs] at hent
  rw [hent]
  have hl := lv_entry ([.ref (q 0), .int x1]) (n := 4) (Nat.le_of_ble_eq_true rfl)
  generalize (lg_sl ([.ref (q 0), .int x1]) ++ List.replicate (4 - (lg_sl ([.ref (q 0), .int x1])).length) Slot.unset).toArray = ls at hl ⊢
  have hl : lv_has ls 4 [(0, .ref (q 0)), (1, .int x1)] := hl
  unfold wp_X9_count at hw
  refine lv_iconst (v := 0) hx hb dX9_count_0 (by decide) ?_
  refine lv_istore_n (lv' := [(2, .int 0), (0, .ref (q 0)), (1, .int x1)]) hx hb dX9_count_1 rfl hl (by decide) rfl (fun ls hl => ?_)
  refine lv_iload_n hx hb dX9_count_2 rfl (lv_at hl 2 rfl) ?_
  by_cases hc0 : x1 = 0
  · have hw := hw.1 hc0
    refine lv_tableIn (tgt := 44) hx hb dX9_count_3 (by rw [hc0]; decide) (by rw [hc0]; decide) (by rw [hc0]; rfl) (by decide) ?_
    refine lv_aload_n hx hb dX9_count_44 rfl (lv_at hl 1 rfl) ?_
    refine va_get (D := D) (ci := 9) (v := .int (u.1 21 0)) (C := RX9) (T := TX9) (N := 30) hx hb hts hiX9 hown hK hP 0 rfl rfl 3 (by decide) hf87 (fun _ h9 => h9) rfl dX9_count_45 ?_
    exact W.iret (v := u.1 21 0) hx hb hr (fun t ht hW => ⟨⟨u.1 21 0, u, rfl, hw, by show va_P D vwCl _ t.heap; rw [ht]; exact hP⟩, hS.F ht⟩) hS.2.2 dX9_count_48
  by_cases hc1 : x1 = 1
  · have hw := hw.2.1 hc1
    refine lv_tableIn (tgt := 49) hx hb dX9_count_3 (by rw [hc1]; decide) (by rw [hc1]; decide) (by rw [hc1]; rfl) (by decide) ?_
    refine lv_aload_n hx hb dX9_count_49 rfl (lv_at hl 1 rfl) ?_
    refine va_get (D := D) (ci := 9) (v := .int (u.1 23 0)) (C := RX9) (T := TX9) (N := 30) hx hb hts hiX9 hown hK hP 0 rfl rfl 9 (by decide) hf108 (fun _ h9 => h9) rfl dX9_count_50 ?_
    exact W.iret (v := u.1 23 0) hx hb hr (fun t ht hW => ⟨⟨u.1 23 0, u, rfl, hw, by show va_P D vwCl _ t.heap; rw [ht]; exact hP⟩, hS.F ht⟩) hS.2.2 dX9_count_53
  by_cases hc2 : x1 = 2
  · have hw := hw.2.2.1 hc2
    refine lv_tableIn (tgt := 54) hx hb dX9_count_3 (by rw [hc2]; decide) (by rw [hc2]; decide) (by rw [hc2]; rfl) (by decide) ?_
    refine lv_iconst (v := 0) hx hb dX9_count_54 (by decide) ?_
    refine lv_istore_n (lv' := [(3, .int 0), (2, .int 0), (0, .ref (q 0)), (1, .int x1)]) hx hb dX9_count_55 rfl hl (by decide) rfl (fun ls hl => ?_)
    obtain ⟨nn, hw⟩ := hw
    refine L56 nn 0 0 u _ _ hw hP hD hS ls (lv_sub hl [2, 1, 0] rfl)
  by_cases hc3 : x1 = 3
  · have hw := hw.2.2.2.1 hc3
    refine lv_tableIn (tgt := 89) hx hb dX9_count_3 (by rw [hc3]; decide) (by rw [hc3]; decide) (by rw [hc3]; rfl) (by decide) ?_
    refine lv_aload_n hx hb dX9_count_89 rfl (lv_at hl 1 rfl) ?_
    refine cMv (sh_wM q cI cJ cZ) (u := u) (va_runV (As := []) (rest := []) ⟨hx, hb, hml, hown, hts⟩ (c_X9_asItIs l D q cI cJ cZ _ u _ hw) (cwV 0 hts gX9_count_X9_asItIs rfl rfl rfl (by decide +kernel) ⟨Nat.le_of_ble_eq_true rfl, Nat.le_of_ble_eq_true rfl⟩) (pvM (va_recv hK hP (ci := 9) (q0 := 0) (q := (RX9, TX9, 30)) rfl rfl) hK hP hD hN) rfl rfl hl.1 rfl (lv_room (Nat.le_of_ble_eq_true rfl)) dX9_count_90 ⟨Nat.zero_le _, Nat.zero_le _⟩) hA hD hS (fun u17 H locs hw hP hD hS => ?_)
    refine lv_aload_n hx hb dX9_count_93 rfl (lv_at hl 1 rfl) ?_
    refine lv_aload_n hx hb dX9_count_94 rfl (lv_at hl 1 rfl) ?_
    refine va_get (D := D) (ci := 9) (v := .int (u17.1 22 0)) (C := RX9) (T := TX9) (N := 30) hx hb hts hiX9 hown hK hP 0 rfl rfl 4 (by decide) hf118 (fun _ h9 => h9) rfl dX9_count_95 ?_
    refine cMv (sh_wM q cI cJ cZ) (u := u17) (va_runV (As := [.int (u17.1 22 0)]) (rest := []) ⟨hx, hb, hml, hown, hts⟩ (c_X9_reaches l D q cI cJ cZ _ u17 (u17.1 22 0) _ hw) (cwV 1 hts gX9_count_X9_reaches rfl rfl rfl (by decide +kernel) ⟨Nat.le_of_ble_eq_true rfl, Nat.le_of_ble_eq_true rfl⟩) (pvM (va_recv hK hP (ci := 9) (q0 := 0) (q := (RX9, TX9, 30)) rfl rfl) hK hP hD hN) rfl rfl hl.1 rfl (lv_room (Nat.le_of_ble_eq_true rfl)) dX9_count_98 ⟨Nat.zero_le _, Nat.zero_le _⟩) hA hD hS (fun u18 H locs hw hP hD hS => ?_)
    refine lv_iconst (v := 0) hx hb dX9_count_101 (by decide) ?_
    refine lv_istore_n (lv' := [(3, .int 0), (2, .int 0), (0, .ref (q 0)), (1, .int x1)]) hx hb dX9_count_102 rfl hl (by decide) rfl (fun ls hl => ?_)
    obtain ⟨nn, hw⟩ := hw
    refine L103 nn 0 0 u18 _ _ hw hP hD hS ls (lv_sub hl [2, 1, 0] rfl)
  by_cases hc4 : x1 = 4
  · have hw := hw.2.2.2.2.1 hc4
    refine lv_tableIn (tgt := 136) hx hb dX9_count_3 (by rw [hc4]; decide) (by rw [hc4]; decide) (by rw [hc4]; rfl) (by decide) ?_
    refine lv_aload_n hx hb dX9_count_136 rfl (lv_at hl 1 rfl) ?_
    refine va_get (D := D) (ci := 9) (v := .int (u.1 24 0)) (C := RX9) (T := TX9) (N := 30) hx hb hts hiX9 hown hK hP 0 rfl rfl 14 (by decide) hf121 (fun _ h9 => h9) rfl dX9_count_137 ?_
    exact W.iret (v := u.1 24 0) hx hb hr (fun t ht hW => ⟨⟨u.1 24 0, u, rfl, hw, by show va_P D vwCl _ t.heap; rw [ht]; exact hP⟩, hS.F ht⟩) hS.2.2 dX9_count_140
  by_cases hc5 : x1 = 5
  · have hw := hw.2.2.2.2.2.1 hc5
    refine lv_tableIn (tgt := 141) hx hb dX9_count_3 (by rw [hc5]; decide) (by rw [hc5]; decide) (by rw [hc5]; rfl) (by decide) ?_
    refine lv_aload_n hx hb dX9_count_141 rfl (lv_at hl 1 rfl) ?_
    refine va_get (D := D) (ci := 9) (v := .int (u.1 22 0)) (C := RX9) (T := TX9) (N := 30) hx hb hts hiX9 hown hK hP 0 rfl rfl 4 (by decide) hf118 (fun _ h9 => h9) rfl dX9_count_142 ?_
    exact W.iret (v := u.1 22 0) hx hb hr (fun t ht hW => ⟨⟨u.1 22 0, u, rfl, hw, by show va_P D vwCl _ t.heap; rw [ht]; exact hP⟩, hS.F ht⟩) hS.2.2 dX9_count_145
  by_cases hc6 : x1 = 6
  · have hw := hw.2.2.2.2.2.2.1 hc6
    refine lv_tableIn (tgt := 146) hx hb dX9_count_3 (by rw [hc6]; decide) (by rw [hc6]; decide) (by rw [hc6]; rfl) (by decide) ?_
    refine lv_aload_n hx hb dX9_count_146 rfl (lv_at hl 1 rfl) ?_
    refine cMi (sh_wM q cI cJ cZ) (u := u) (va_runV (As := []) (rest := []) ⟨hx, hb, hml, hown, hts⟩ (c_X9_ways l D q cI cJ cZ _ u _ hw) (cwV 0 hts gX9_count_X9_ways rfl rfl rfl (by decide +kernel) ⟨Nat.le_of_ble_eq_true rfl, Nat.le_of_ble_eq_true rfl⟩) (pvM (va_recv hK hP (ci := 9) (q0 := 0) (q := (RX9, TX9, 30)) rfl rfl) hK hP hD hN) rfl rfl hl.1 rfl (lv_room (Nat.le_of_ble_eq_true rfl)) dX9_count_147 ⟨Nat.zero_le _, Nat.zero_le _⟩) hA hD hS (fun r20 u19 H locs hw hP hD hS => ?_)
    exact W.iret (v := r20) hx hb hr (fun t ht hW => ⟨⟨r20, u19, rfl, hw, by show va_P D vwCl _ t.heap; rw [ht]; exact hP⟩, hS.F ht⟩) hS.2.2 dX9_count_150
  have hw := hw.2.2.2.2.2.2.2 hc0 hc1 hc2 hc3 hc4 hc5 hc6
  refine lv_tableOut (tgt := 151) hx hb dX9_count_3 (sw_out 6 (fun k hk => by rcases (show k = 0 ∨ k = 1 ∨ k = 2 ∨ k = 3 ∨ k = 4 ∨ k = 5 ∨ k = 6 by omega) with rfl | rfl | rfl | rfl | rfl | rfl | rfl <;> assumption)) (by decide) ?_
  refine lv_iconst (v := (-1)) hx hb dX9_count_151 (by decide) ?_
  exact W.iret (v := (-1)) hx hb hr (fun t ht hW => ⟨⟨(-1), u, rfl, hw, by show va_P D vwCl _ t.heap; rw [ht]; exact hP⟩, hS.F ht⟩) hS.2.2 dX9_count_152
