set_option maxHeartbeats 4000000 in
set_option maxRecDepth 100000 in
theorem c_X9_orders (l : Launch) (D : va_G) (q : Nat → Nat) (cI cJ cZ : ClassId) (sz : Nat) (u : WU) (post : WU → Prop) (hw : wp_X9_orders u post) : Met l yX9_orders wsX9_orders rm_X9_orders (va_Pc [.ref (q 0)] (MW D (ty3 cI cJ cZ) (wM q cI cJ cZ u) sz)) (va_Qv post (fun u' t => va_P D vwCl (wM q cI cJ cZ u') t.heap) (va_A (wM q cI cJ cZ u00) sz)) 0 0 (va_A (wM q cI cJ cZ u00) sz) := by
  refine Met.ofW (cc := cX9_orders) (maxL := 3) (ret := none) (by decide) rfl ?_
  intro p e s m args below meth c s₁ B hml hv
  obtain ⟨hargs, hsz, hP, hK, hD0, hN⟩ := hv
  have hx := B.exec
  have hb := B.bytes
  have hr := B.returns
  have hts := atoms_spec (ws := wsX9_orders) B.pre
  have hown : s.vm.findClass RX9 = some m.cls := findClass_of_methodNamed B.named
  have hlocks := B.notSynchronized
  subst hsz
  have hD := shw_self (sz := s.heap.size) (sh_wM q cI cJ cZ) hD0
  have hA : ∀ a : Nat, s.heap.size ≤ a → va_A (wM q cI cJ cZ u00) s.heap.size a := fun _ h => Or.inr h
  have hS : va_S (va_A (wM q cI cJ cZ u00) s.heap.size) s.heap s.heap [] := va_S.rf
  have hiX9 : ∀ w ∈ u_ws RX9 TX9 30, w ∈ wsX9_orders := by decide +kernel
  have hf108 := hts (.fieldLink RX9 108 "TermsDeskModel" "joins" "I") (by decide +kernel)
  have hf125 := hts (.fieldLink RX9 125 "TermsDeskModel" "orderMany" "I") (by decide +kernel)
  have hf32 := hts (.fieldLink RX9 32 "TermsDeskModel" "from" "[I") (by decide +kernel)
  have hf35 := hts (.fieldLink RX9 35 "TermsDeskModel" "to" "[I") (by decide +kernel)
  have hf60 := hts (.fieldLink RX9 60 "TermsDeskModel" "isGone" "[Z") (by decide +kernel)
  have hf69 := hts (.fieldLink RX9 69 "TermsDeskModel" "order" "[I") (by decide +kernel)
  have hf72 := hts (.fieldLink RX9 72 "TermsDeskModel" "level" "[I") (by decide +kernel)
  have hf87 := hts (.fieldLink RX9 87 "TermsDeskModel" "parts" "I") (by decide +kernel)
  have L2 : ∀ {K21 : WU → Prop} (n : Nat) (x1 : Int32) (u : WU) (H : Heap) (locs : List Loc), wp_X9_orders_L2 post K21 n x1 u → va_P D vwCl (wM q cI cJ cZ u) H → va_D (va_A (wM q cI cJ cZ u00) s.heap.size) (wM q cI cJ cZ u) → va_S (va_A (wM q cI cJ cZ u00) s.heap.size) s.heap H locs → ∀ ls : Array Slot, lv_has ls 3 [(0, .ref (q 0)), (1, .int x1)] → (∀ (u : WU) (H : Heap) (locs : List Loc), K21 u → va_P D vwCl (wM q cI cJ cZ u) H → va_D (va_A (wM q cI cJ cZ u00) s.heap.size) (wM q cI cJ cZ u) → va_S (va_A (wM q cI cJ cZ u00) s.heap.size) s.heap H locs → ∀ ls : Array Slot, lv_has ls 3 [(0, .ref (q 0))] → W p l e (headSpec wsX9_orders rm_X9_orders).room s m args below meth c H locs 0 0 (MQ below (va_Qv post (fun u' t => va_P D vwCl (wM q cI cJ cZ u') t.heap) (va_A (wM q cI cJ cZ u00) s.heap.size)) args s 0 0 (va_A (wM q cI cJ cZ u00) s.heap.size)) (F0 m 21 ls [])) → W p l e (headSpec wsX9_orders rm_X9_orders).room s m args below meth c H locs 0 0 (MQ below (va_Qv post (fun u' t => va_P D vwCl (wM q cI cJ cZ u') t.heap) (va_A (wM q cI cJ cZ u00) s.heap.size)) args s 0 0 (va_A (wM q cI cJ cZ u00) s.heap.size)) (F0 m 2 ls []) := by
    intro K21 n
    induction n with
    | zero =>
      intro x1 u H locs hw
      exact hw.elim
    | succ n ih =>
      intro x1 u H locs hw hP hD hS ls hl k21
      unfold wp_X9_orders_L2 at hw
      refine lv_iload_n hx hb dX9_orders_2 rfl (lv_at hl 1 rfl) ?_
      refine lv_bipush (v := 24) hx hb dX9_orders_3 (by decide) ?_
      refine lv_icmp_ge (tgt := 21) hx hb dX9_orders_5 (by decide) (fun hc => ?_) (fun hc => ?_)
      · have hw := hw.1 hc
        exact k21 u _ _ hw hP hD hS ls (lv_sub hl [0] rfl)
      · have hw := hw.2 hc
        refine lv_aload_n hx hb dX9_orders_8 rfl (lv_at hl 0 rfl) ?_
        refine va_get (D := D) (ci := 9) (v := .ref (q 21)) (C := RX9) (T := TX9) (N := 30) hx hb hts hiX9 hown hK hP 0 rfl rfl 25 (by decide) hf72 (fun _ h9 => h9) rfl dX9_orders_9 ?_
        refine lv_iload_n hx hb dX9_orders_12 rfl (lv_at hl 1 rfl) ?_
        refine lv_iconst (v := 0) hx hb dX9_orders_13 (by decide) ?_
        obtain ⟨hin, hw⟩ := hw
        refine sIast (w := wM q cI cJ cZ) hx hb hK hP hD hS 21 0 17 rfl rfl (wMa_21 q cI cJ cZ u) hin dX9_orders_14 (fun u1 H locs eu1 hP hD hS => ?_)
        have hw := hw u1 eu1
        obtain ⟨y2, ey2⟩ : ∃ z : Int32, z = x1 + 1 := ⟨_, rfl⟩
        have hw := hw y2 ey2
        refine lv_iinc (v := y2) (lv' := [(1, .int y2), (0, .ref (q 0))]) hx hb dX9_orders_15 hl (k := 1) rfl (by rw [ey2]; rfl) (by decide) rfl (fun ls hl => ?_)
        refine lv_goto (tgt := 2) hx hb dX9_orders_18 (by decide) ?_
        exact ih y2 u1 _ _ hw hP hD hS ls (lv_sub hl [1, 0] rfl) k21
  have J101 : ∀ {K33 : Int32 → WU → Prop} (x1 : Int32) (x2 : Int32) (u : WU) (H : Heap) (locs : List Loc), wp_X9_orders_J101 x1 x2 u post K33 → va_P D vwCl (wM q cI cJ cZ u) H → va_D (va_A (wM q cI cJ cZ u00) s.heap.size) (wM q cI cJ cZ u) → va_S (va_A (wM q cI cJ cZ u00) s.heap.size) s.heap H locs → ∀ ls : Array Slot, lv_has ls 3 [(0, .ref (q 0)), (1, .int x1), (2, .int x2)] → (∀ (x2 : Int32) (u : WU) (H : Heap) (locs : List Loc), K33 x2 u → va_P D vwCl (wM q cI cJ cZ u) H → va_D (va_A (wM q cI cJ cZ u00) s.heap.size) (wM q cI cJ cZ u) → va_S (va_A (wM q cI cJ cZ u00) s.heap.size) s.heap H locs → ∀ ls : Array Slot, lv_has ls 3 [(0, .ref (q 0)), (1, .int x1), (2, .int x2)] → W p l e (headSpec wsX9_orders rm_X9_orders).room s m args below meth c H locs 0 0 (MQ below (va_Qv post (fun u' t => va_P D vwCl (wM q cI cJ cZ u') t.heap) (va_A (wM q cI cJ cZ u00) s.heap.size)) args s 0 0 (va_A (wM q cI cJ cZ u00) s.heap.size)) (F0 m 33 ls [])) → W p l e (headSpec wsX9_orders rm_X9_orders).room s m args below meth c H locs 0 0 (MQ below (va_Qv post (fun u' t => va_P D vwCl (wM q cI cJ cZ u') t.heap) (va_A (wM q cI cJ cZ u00) s.heap.size)) args s 0 0 (va_A (wM q cI cJ cZ u00) s.heap.size)) (F0 m 101 ls []) := by
    intro K33 x1 x2 u H locs hw hP hD hS ls hl k33
    unfold wp_X9_orders_J101 at hw
    obtain ⟨y22, ey22⟩ : ∃ z : Int32, z = x2 + 1 := ⟨_, rfl⟩
    have hw := hw y22 ey22
    refine lv_iinc (v := y22) (lv' := [(2, .int y22), (0, .ref (q 0)), (1, .int x1)]) hx hb dX9_orders_101 hl (k := 2) rfl (by rw [ey22]; rfl) (by decide) rfl (fun ls hl => ?_)
    refine lv_goto (tgt := 33) hx hb dX9_orders_104 (by decide) ?_
    exact k33 y22 u _ _ hw hP hD hS ls (lv_sub hl [1, 2, 0] rfl)
  have L33 : ∀ {K107 : WU → Prop} (x1 : Int32) (n : Nat) (x2 : Int32) (u : WU) (H : Heap) (locs : List Loc), wp_X9_orders_L33 x1 post K107 n x2 u → va_P D vwCl (wM q cI cJ cZ u) H → va_D (va_A (wM q cI cJ cZ u00) s.heap.size) (wM q cI cJ cZ u) → va_S (va_A (wM q cI cJ cZ u00) s.heap.size) s.heap H locs → ∀ ls : Array Slot, lv_has ls 3 [(0, .ref (q 0)), (1, .int x1), (2, .int x2)] → (∀ (u : WU) (H : Heap) (locs : List Loc), K107 u → va_P D vwCl (wM q cI cJ cZ u) H → va_D (va_A (wM q cI cJ cZ u00) s.heap.size) (wM q cI cJ cZ u) → va_S (va_A (wM q cI cJ cZ u00) s.heap.size) s.heap H locs → ∀ ls : Array Slot, lv_has ls 3 [(0, .ref (q 0)), (1, .int x1)] → W p l e (headSpec wsX9_orders rm_X9_orders).room s m args below meth c H locs 0 0 (MQ below (va_Qv post (fun u' t => va_P D vwCl (wM q cI cJ cZ u') t.heap) (va_A (wM q cI cJ cZ u00) s.heap.size)) args s 0 0 (va_A (wM q cI cJ cZ u00) s.heap.size)) (F0 m 107 ls [])) → W p l e (headSpec wsX9_orders rm_X9_orders).room s m args below meth c H locs 0 0 (MQ below (va_Qv post (fun u' t => va_P D vwCl (wM q cI cJ cZ u') t.heap) (va_A (wM q cI cJ cZ u00) s.heap.size)) args s 0 0 (va_A (wM q cI cJ cZ u00) s.heap.size)) (F0 m 33 ls []) := by
    intro K107 x1 n
    induction n with
    | zero =>
      intro x2 u H locs hw
      exact hw.elim
    | succ n ih =>
      intro x2 u H locs hw hP hD hS ls hl k107
      unfold wp_X9_orders_L33 at hw
      refine lv_iload_n hx hb dX9_orders_33 rfl (lv_at hl 2 rfl) ?_
      refine lv_aload_n hx hb dX9_orders_34 rfl (lv_at hl 0 rfl) ?_
      refine va_get (D := D) (ci := 9) (v := .int (u.1 23 0)) (C := RX9) (T := TX9) (N := 30) hx hb hts hiX9 hown hK hP 0 rfl rfl 9 (by decide) hf108 (fun _ h9 => h9) rfl dX9_orders_35 ?_
      refine lv_icmp_ge (tgt := 107) hx hb dX9_orders_38 (by decide) (fun hc => ?_) (fun hc => ?_)
      · have hw := hw.1 hc
        exact k107 u _ _ hw hP hD hS ls (lv_sub hl [0, 1] rfl)
      · have hw := hw.2 hc
        refine lv_aload_n hx hb dX9_orders_41 rfl (lv_at hl 0 rfl) ?_
        refine va_get (D := D) (ci := 9) (v := .ref (q 17)) (C := RX9) (T := TX9) (N := 30) hx hb hts hiX9 hown hK hP 0 rfl rfl 20 (by decide) hf60 (fun _ h9 => h9) rfl dX9_orders_42 ?_
        refine lv_iload_n hx hb dX9_orders_45 rfl (lv_at hl 2 rfl) ?_
        obtain ⟨hin, hw⟩ := hw
        refine va_zald hx hb hK hP 17 2 rfl rfl hin dX9_orders_46 ?_
        refine lv_if_ne (tgt := 101) hx hb dX9_orders_47 (by decide) (fun hc => ?_) (fun hc => ?_)
        · have hw := hw.1 hc
          refine J101 x1 x2 u _ _ hw hP hD hS ls (lv_sub hl [0, 1, 2] rfl) (fun y5 u6 H locs hw hP hD hS ls hl => ?_)
          exact ih y5 u6 _ _ hw hP hD hS ls (lv_sub hl [0, 1, 2] rfl) k107
        · have hw := hw.2 hc
          refine lv_aload_n hx hb dX9_orders_50 rfl (lv_at hl 0 rfl) ?_
          refine va_get (D := D) (ci := 9) (v := .ref (q 21)) (C := RX9) (T := TX9) (N := 30) hx hb hts hiX9 hown hK hP 0 rfl rfl 25 (by decide) hf72 (fun _ h9 => h9) rfl dX9_orders_51 ?_
          refine lv_aload_n hx hb dX9_orders_54 rfl (lv_at hl 0 rfl) ?_
          refine va_get (D := D) (ci := 9) (v := .ref (q 9)) (C := RX9) (T := TX9) (N := 30) hx hb hts hiX9 hown hK hP 0 rfl rfl 11 (by decide) hf35 (fun _ h9 => h9) rfl dX9_orders_55 ?_
          refine lv_iload_n hx hb dX9_orders_58 rfl (lv_at hl 2 rfl) ?_
          obtain ⟨hin, hw⟩ := hw
          refine va_iald hx hb hK hP 9 0 rfl rfl hin dX9_orders_59 ?_
          obtain ⟨hin, hw⟩ := hw
          refine va_iald hx hb hK hP 21 0 rfl rfl hin dX9_orders_60 ?_
          refine lv_aload_n hx hb dX9_orders_61 rfl (lv_at hl 0 rfl) ?_
          refine va_get (D := D) (ci := 9) (v := .ref (q 21)) (C := RX9) (T := TX9) (N := 30) hx hb hts hiX9 hown hK hP 0 rfl rfl 25 (by decide) hf72 (fun _ h9 => h9) rfl dX9_orders_62 ?_
          refine lv_aload_n hx hb dX9_orders_65 rfl (lv_at hl 0 rfl) ?_
          refine va_get (D := D) (ci := 9) (v := .ref (q 8)) (C := RX9) (T := TX9) (N := 30) hx hb hts hiX9 hown hK hP 0 rfl rfl 10 (by decide) hf32 (fun _ h9 => h9) rfl dX9_orders_66 ?_
          refine lv_iload_n hx hb dX9_orders_69 rfl (lv_at hl 2 rfl) ?_
          obtain ⟨hin, hw⟩ := hw
          refine va_iald hx hb hK hP 8 0 rfl rfl hin dX9_orders_70 ?_
          obtain ⟨hin, hw⟩ := hw
          refine va_iald hx hb hK hP 21 0 rfl rfl hin dX9_orders_71 ?_
          refine lv_iconst (v := 1) hx hb dX9_orders_72 (by decide) ?_
          refine lv_iadd hx hb dX9_orders_73 ?_
          refine lv_icmp_ge (tgt := 101) hx hb dX9_orders_74 (by decide) (fun hc => ?_) (fun hc => ?_)
          · have hw := hw.1 hc
            refine J101 x1 x2 u _ _ hw hP hD hS ls (lv_sub hl [0, 1, 2] rfl) (fun y7 u8 H locs hw hP hD hS ls hl => ?_)
            exact ih y7 u8 _ _ hw hP hD hS ls (lv_sub hl [0, 1, 2] rfl) k107
          · have hw := hw.2 hc
            refine lv_aload_n hx hb dX9_orders_77 rfl (lv_at hl 0 rfl) ?_
            refine va_get (D := D) (ci := 9) (v := .ref (q 21)) (C := RX9) (T := TX9) (N := 30) hx hb hts hiX9 hown hK hP 0 rfl rfl 25 (by decide) hf72 (fun _ h9 => h9) rfl dX9_orders_78 ?_
            refine lv_aload_n hx hb dX9_orders_81 rfl (lv_at hl 0 rfl) ?_
            refine va_get (D := D) (ci := 9) (v := .ref (q 9)) (C := RX9) (T := TX9) (N := 30) hx hb hts hiX9 hown hK hP 0 rfl rfl 11 (by decide) hf35 (fun _ h9 => h9) rfl dX9_orders_82 ?_
            refine lv_iload_n hx hb dX9_orders_85 rfl (lv_at hl 2 rfl) ?_
            obtain ⟨hin, hw⟩ := hw
            refine va_iald hx hb hK hP 9 0 rfl rfl hin dX9_orders_86 ?_
            refine lv_aload_n hx hb dX9_orders_87 rfl (lv_at hl 0 rfl) ?_
            refine va_get (D := D) (ci := 9) (v := .ref (q 21)) (C := RX9) (T := TX9) (N := 30) hx hb hts hiX9 hown hK hP 0 rfl rfl 25 (by decide) hf72 (fun _ h9 => h9) rfl dX9_orders_88 ?_
            refine lv_aload_n hx hb dX9_orders_91 rfl (lv_at hl 0 rfl) ?_
            refine va_get (D := D) (ci := 9) (v := .ref (q 8)) (C := RX9) (T := TX9) (N := 30) hx hb hts hiX9 hown hK hP 0 rfl rfl 10 (by decide) hf32 (fun _ h9 => h9) rfl dX9_orders_92 ?_
            refine lv_iload_n hx hb dX9_orders_95 rfl (lv_at hl 2 rfl) ?_
            obtain ⟨hin, hw⟩ := hw
            refine va_iald hx hb hK hP 8 0 rfl rfl hin dX9_orders_96 ?_
            obtain ⟨hin, hw⟩ := hw
            refine va_iald hx hb hK hP 21 0 rfl rfl hin dX9_orders_97 ?_
            refine lv_iconst (v := 1) hx hb dX9_orders_98 (by decide) ?_
            refine lv_iadd hx hb dX9_orders_99 ?_
            obtain ⟨hin, hw⟩ := hw
            refine sIast (w := wM q cI cJ cZ) hx hb hK hP hD hS 21 0 17 rfl rfl (wMa_21 q cI cJ cZ u) hin dX9_orders_100 (fun u9 H locs eu9 hP hD hS => ?_)
            have hw := hw u9 eu9
            refine J101 x1 x2 u9 _ _ hw hP hD hS ls (lv_sub hl [0, 1, 2] rfl) (fun y10 u11 H locs hw hP hD hS ls hl => ?_)
            exact ih y10 u11 _ _ hw hP hD hS ls (lv_sub hl [0, 1, 2] rfl) k107
  have L23 : ∀ {K113 : WU → Prop} (n : Nat) (x1 : Int32) (u : WU) (H : Heap) (locs : List Loc), wp_X9_orders_L23 post K113 n x1 u → va_P D vwCl (wM q cI cJ cZ u) H → va_D (va_A (wM q cI cJ cZ u00) s.heap.size) (wM q cI cJ cZ u) → va_S (va_A (wM q cI cJ cZ u00) s.heap.size) s.heap H locs → ∀ ls : Array Slot, lv_has ls 3 [(0, .ref (q 0)), (1, .int x1)] → (∀ (u : WU) (H : Heap) (locs : List Loc), K113 u → va_P D vwCl (wM q cI cJ cZ u) H → va_D (va_A (wM q cI cJ cZ u00) s.heap.size) (wM q cI cJ cZ u) → va_S (va_A (wM q cI cJ cZ u00) s.heap.size) s.heap H locs → ∀ ls : Array Slot, lv_has ls 3 [(0, .ref (q 0))] → W p l e (headSpec wsX9_orders rm_X9_orders).room s m args below meth c H locs 0 0 (MQ below (va_Qv post (fun u' t => va_P D vwCl (wM q cI cJ cZ u') t.heap) (va_A (wM q cI cJ cZ u00) s.heap.size)) args s 0 0 (va_A (wM q cI cJ cZ u00) s.heap.size)) (F0 m 113 ls [])) → W p l e (headSpec wsX9_orders rm_X9_orders).room s m args below meth c H locs 0 0 (MQ below (va_Qv post (fun u' t => va_P D vwCl (wM q cI cJ cZ u') t.heap) (va_A (wM q cI cJ cZ u00) s.heap.size)) args s 0 0 (va_A (wM q cI cJ cZ u00) s.heap.size)) (F0 m 23 ls []) := by
    intro K113 n
    induction n with
    | zero =>
      intro x1 u H locs hw
      exact hw.elim
    | succ n ih =>
      intro x1 u H locs hw hP hD hS ls hl k113
      unfold wp_X9_orders_L23 at hw
      refine lv_iload_n hx hb dX9_orders_23 rfl (lv_at hl 1 rfl) ?_
      refine lv_aload_n hx hb dX9_orders_24 rfl (lv_at hl 0 rfl) ?_
      refine va_get (D := D) (ci := 9) (v := .int (u.1 21 0)) (C := RX9) (T := TX9) (N := 30) hx hb hts hiX9 hown hK hP 0 rfl rfl 3 (by decide) hf87 (fun _ h9 => h9) rfl dX9_orders_25 ?_
      refine lv_icmp_ge (tgt := 113) hx hb dX9_orders_28 (by decide) (fun hc => ?_) (fun hc => ?_)
      · have hw := hw.1 hc
        exact k113 u _ _ hw hP hD hS ls (lv_sub hl [0] rfl)
      · have hw := hw.2 hc
        refine lv_iconst (v := 0) hx hb dX9_orders_31 (by decide) ?_
        refine lv_istore_n (lv' := [(2, .int 0), (0, .ref (q 0)), (1, .int x1)]) hx hb dX9_orders_32 rfl hl (by decide) rfl (fun ls hl => ?_)
        obtain ⟨nn, hw⟩ := hw
        refine L33 x1 nn 0 u _ _ hw hP hD hS ls (lv_sub hl [1, 2, 0] rfl) (fun  u3 H locs hw hP hD hS ls hl => ?_)
        obtain ⟨y4, ey4⟩ : ∃ z : Int32, z = x1 + 1 := ⟨_, rfl⟩
        have hw := hw y4 ey4
        refine lv_iinc (v := y4) (lv' := [(1, .int y4), (0, .ref (q 0))]) hx hb dX9_orders_107 hl (k := 1) rfl (by rw [ey4]; rfl) (by decide) rfl (fun ls hl => ?_)
        refine lv_goto (tgt := 23) hx hb dX9_orders_110 (by decide) ?_
        exact ih y4 u3 _ _ hw hP hD hS ls (lv_sub hl [1, 0] rfl) k113
  have J183 : ∀ {K128 : Int32 → WU → Prop} (x1 : Int32) (x2 : Int32) (u : WU) (H : Heap) (locs : List Loc), wp_X9_orders_J183 x1 x2 u post K128 → va_P D vwCl (wM q cI cJ cZ u) H → va_D (va_A (wM q cI cJ cZ u00) s.heap.size) (wM q cI cJ cZ u) → va_S (va_A (wM q cI cJ cZ u00) s.heap.size) s.heap H locs → ∀ ls : Array Slot, lv_has ls 3 [(0, .ref (q 0)), (1, .int x1), (2, .int x2)] → (∀ (x2 : Int32) (u : WU) (H : Heap) (locs : List Loc), K128 x2 u → va_P D vwCl (wM q cI cJ cZ u) H → va_D (va_A (wM q cI cJ cZ u00) s.heap.size) (wM q cI cJ cZ u) → va_S (va_A (wM q cI cJ cZ u00) s.heap.size) s.heap H locs → ∀ ls : Array Slot, lv_has ls 3 [(0, .ref (q 0)), (1, .int x1), (2, .int x2)] → W p l e (headSpec wsX9_orders rm_X9_orders).room s m args below meth c H locs 0 0 (MQ below (va_Qv post (fun u' t => va_P D vwCl (wM q cI cJ cZ u') t.heap) (va_A (wM q cI cJ cZ u00) s.heap.size)) args s 0 0 (va_A (wM q cI cJ cZ u00) s.heap.size)) (F0 m 128 ls [])) → W p l e (headSpec wsX9_orders rm_X9_orders).room s m args below meth c H locs 0 0 (MQ below (va_Qv post (fun u' t => va_P D vwCl (wM q cI cJ cZ u') t.heap) (va_A (wM q cI cJ cZ u00) s.heap.size)) args s 0 0 (va_A (wM q cI cJ cZ u00) s.heap.size)) (F0 m 183 ls []) := by
    intro K128 x1 x2 u H locs hw hP hD hS ls hl k128
    unfold wp_X9_orders_J183 at hw
    obtain ⟨y23, ey23⟩ : ∃ z : Int32, z = x2 + 1 := ⟨_, rfl⟩
    have hw := hw y23 ey23
    refine lv_iinc (v := y23) (lv' := [(2, .int y23), (0, .ref (q 0)), (1, .int x1)]) hx hb dX9_orders_183 hl (k := 2) rfl (by rw [ey23]; rfl) (by decide) rfl (fun ls hl => ?_)
    refine lv_goto (tgt := 128) hx hb dX9_orders_186 (by decide) ?_
    exact k128 y23 u _ _ hw hP hD hS ls (lv_sub hl [1, 2, 0] rfl)
  have L128 : ∀ {K189 : WU → Prop} (x1 : Int32) (n : Nat) (x2 : Int32) (u : WU) (H : Heap) (locs : List Loc), wp_X9_orders_L128 x1 post K189 n x2 u → va_P D vwCl (wM q cI cJ cZ u) H → va_D (va_A (wM q cI cJ cZ u00) s.heap.size) (wM q cI cJ cZ u) → va_S (va_A (wM q cI cJ cZ u00) s.heap.size) s.heap H locs → ∀ ls : Array Slot, lv_has ls 3 [(0, .ref (q 0)), (1, .int x1), (2, .int x2)] → (∀ (u : WU) (H : Heap) (locs : List Loc), K189 u → va_P D vwCl (wM q cI cJ cZ u) H → va_D (va_A (wM q cI cJ cZ u00) s.heap.size) (wM q cI cJ cZ u) → va_S (va_A (wM q cI cJ cZ u00) s.heap.size) s.heap H locs → ∀ ls : Array Slot, lv_has ls 3 [(0, .ref (q 0)), (1, .int x1)] → W p l e (headSpec wsX9_orders rm_X9_orders).room s m args below meth c H locs 0 0 (MQ below (va_Qv post (fun u' t => va_P D vwCl (wM q cI cJ cZ u') t.heap) (va_A (wM q cI cJ cZ u00) s.heap.size)) args s 0 0 (va_A (wM q cI cJ cZ u00) s.heap.size)) (F0 m 189 ls [])) → W p l e (headSpec wsX9_orders rm_X9_orders).room s m args below meth c H locs 0 0 (MQ below (va_Qv post (fun u' t => va_P D vwCl (wM q cI cJ cZ u') t.heap) (va_A (wM q cI cJ cZ u00) s.heap.size)) args s 0 0 (va_A (wM q cI cJ cZ u00) s.heap.size)) (F0 m 128 ls []) := by
    intro K189 x1 n
    induction n with
    | zero =>
      intro x2 u H locs hw
      exact hw.elim
    | succ n ih =>
      intro x2 u H locs hw hP hD hS ls hl k189
      unfold wp_X9_orders_L128 at hw
      refine lv_iload_n hx hb dX9_orders_128 rfl (lv_at hl 2 rfl) ?_
      refine lv_aload_n hx hb dX9_orders_129 rfl (lv_at hl 0 rfl) ?_
      refine va_get (D := D) (ci := 9) (v := .int (u.1 23 0)) (C := RX9) (T := TX9) (N := 30) hx hb hts hiX9 hown hK hP 0 rfl rfl 9 (by decide) hf108 (fun _ h9 => h9) rfl dX9_orders_130 ?_
      refine lv_icmp_ge (tgt := 189) hx hb dX9_orders_133 (by decide) (fun hc => ?_) (fun hc => ?_)
      · have hw := hw.1 hc
        exact k189 u _ _ hw hP hD hS ls (lv_sub hl [0, 1] rfl)
      · have hw := hw.2 hc
        refine lv_aload_n hx hb dX9_orders_136 rfl (lv_at hl 0 rfl) ?_
        refine va_get (D := D) (ci := 9) (v := .ref (q 17)) (C := RX9) (T := TX9) (N := 30) hx hb hts hiX9 hown hK hP 0 rfl rfl 20 (by decide) hf60 (fun _ h9 => h9) rfl dX9_orders_137 ?_
        refine lv_iload_n hx hb dX9_orders_140 rfl (lv_at hl 2 rfl) ?_
        obtain ⟨hin, hw⟩ := hw
        refine va_zald hx hb hK hP 17 2 rfl rfl hin dX9_orders_141 ?_
        refine lv_if_ne (tgt := 183) hx hb dX9_orders_142 (by decide) (fun hc => ?_) (fun hc => ?_)
        · have hw := hw.1 hc
          refine J183 x1 x2 u _ _ hw hP hD hS ls (lv_sub hl [0, 1, 2] rfl) (fun y14 u15 H locs hw hP hD hS ls hl => ?_)
          exact ih y14 u15 _ _ hw hP hD hS ls (lv_sub hl [0, 1, 2] rfl) k189
        · have hw := hw.2 hc
          refine lv_aload_n hx hb dX9_orders_145 rfl (lv_at hl 0 rfl) ?_
          refine va_get (D := D) (ci := 9) (v := .ref (q 21)) (C := RX9) (T := TX9) (N := 30) hx hb hts hiX9 hown hK hP 0 rfl rfl 25 (by decide) hf72 (fun _ h9 => h9) rfl dX9_orders_146 ?_
          refine lv_aload_n hx hb dX9_orders_149 rfl (lv_at hl 0 rfl) ?_
          refine va_get (D := D) (ci := 9) (v := .ref (q 8)) (C := RX9) (T := TX9) (N := 30) hx hb hts hiX9 hown hK hP 0 rfl rfl 10 (by decide) hf32 (fun _ h9 => h9) rfl dX9_orders_150 ?_
          refine lv_iload_n hx hb dX9_orders_153 rfl (lv_at hl 2 rfl) ?_
          obtain ⟨hin, hw⟩ := hw
          refine va_iald hx hb hK hP 8 0 rfl rfl hin dX9_orders_154 ?_
          obtain ⟨hin, hw⟩ := hw
          refine va_iald hx hb hK hP 21 0 rfl rfl hin dX9_orders_155 ?_
          refine lv_iload_n hx hb dX9_orders_156 rfl (lv_at hl 1 rfl) ?_
          refine lv_icmp_eq (tgt := 163) hx hb dX9_orders_157 (by decide) (fun hc => ?_) (fun hc => ?_)
          · have hw := hw.1 hc
            refine lv_aload_n hx hb dX9_orders_163 rfl (lv_at hl 0 rfl) ?_
            refine va_get (D := D) (ci := 9) (v := .ref (q 20)) (C := RX9) (T := TX9) (N := 30) hx hb hts hiX9 hown hK hP 0 rfl rfl 24 (by decide) hf69 (fun _ h9 => h9) rfl dX9_orders_164 ?_
            refine lv_aload_n hx hb dX9_orders_167 rfl (lv_at hl 0 rfl) ?_
            refine va_get (D := D) (ci := 9) (v := .int (u.1 25 0)) (C := RX9) (T := TX9) (N := 30) hx hb hts hiX9 hown hK hP 0 rfl rfl 23 (by decide) hf125 (fun _ h9 => h9) rfl dX9_orders_168 ?_
            refine lv_iload_n hx hb dX9_orders_171 rfl (lv_at hl 2 rfl) ?_
            obtain ⟨hin, hw⟩ := hw
            refine sIast (w := wM q cI cJ cZ) hx hb hK hP hD hS 20 0 16 rfl rfl (wMa_20 q cI cJ cZ u) hin dX9_orders_172 (fun u16 H locs eu16 hP hD hS => ?_)
            have hw := hw u16 eu16
            refine lv_aload_n hx hb dX9_orders_173 rfl (lv_at hl 0 rfl) ?_
            refine lv_dup hx hb dX9_orders_174 rfl ?_
            refine va_get (D := D) (ci := 9) (v := .int (u16.1 25 0)) (C := RX9) (T := TX9) (N := 30) hx hb hts hiX9 hown hK hP 0 rfl rfl 23 (by decide) hf125 (fun _ h9 => h9) rfl dX9_orders_175 ?_
            refine lv_iconst (v := 1) hx hb dX9_orders_178 (by decide) ?_
            refine lv_iadd hx hb dX9_orders_179 ?_
            refine va_put (D := D) (ci := 9) (v := .int ((u16.1 25 0) + 1)) (ty := .int) (C := RX9) (T := TX9) (N := 30) hx hb hts hiX9 tyX9 tyX9_ok nmX9 hown hK hP hD hS 0 rfl rfl 23 (by decide) hf125 (fun _ h9 => h9) rfl (by decide +kernel) rfl rfl (Nat.le_of_ble_eq_true rfl) dX9_orders_180 (sPut (w := wM q cI cJ cZ) (uu := uI u16 25 (fun _ => (u16.1 25 0) + 1)) (wMs_X9_23 q cI cJ cZ u16 _) (fun u17 H locs eu17 hP hD hS => ?_))
            have hw := hw u17 eu17
            refine J183 x1 x2 u17 _ _ hw hP hD hS ls (lv_sub hl [0, 1, 2] rfl) (fun y18 u19 H locs hw hP hD hS ls hl => ?_)
            exact ih y18 u19 _ _ hw hP hD hS ls (lv_sub hl [0, 1, 2] rfl) k189
          · have hw := hw.2 hc
            refine lv_goto (tgt := 183) hx hb dX9_orders_160 (by decide) ?_
            refine J183 x1 x2 u _ _ hw hP hD hS ls (lv_sub hl [0, 1, 2] rfl) (fun y20 u21 H locs hw hP hD hS ls hl => ?_)
            exact ih y20 u21 _ _ hw hP hD hS ls (lv_sub hl [0, 1, 2] rfl) k189
  have L120 : ∀ (n : Nat) (x1 : Int32) (u : WU) (H : Heap) (locs : List Loc), wp_X9_orders_L120 post n x1 u → va_P D vwCl (wM q cI cJ cZ u) H → va_D (va_A (wM q cI cJ cZ u00) s.heap.size) (wM q cI cJ cZ u) → va_S (va_A (wM q cI cJ cZ u00) s.heap.size) s.heap H locs → ∀ ls : Array Slot, lv_has ls 3 [(0, .ref (q 0)), (1, .int x1)] → W p l e (headSpec wsX9_orders rm_X9_orders).room s m args below meth c H locs 0 0 (MQ below (va_Qv post (fun u' t => va_P D vwCl (wM q cI cJ cZ u') t.heap) (va_A (wM q cI cJ cZ u00) s.heap.size)) args s 0 0 (va_A (wM q cI cJ cZ u00) s.heap.size)) (F0 m 120 ls []) := by
    intro  n
    induction n with
    | zero =>
      intro x1 u H locs hw
      exact hw.elim
    | succ n ih =>
      intro x1 u H locs hw hP hD hS ls hl 
      unfold wp_X9_orders_L120 at hw
      refine lv_iload_n hx hb dX9_orders_120 rfl (lv_at hl 1 rfl) ?_
      refine lv_bipush (v := 24) hx hb dX9_orders_121 (by decide) ?_
      refine lv_icmp_ge (tgt := 195) hx hb dX9_orders_123 (by decide) (fun hc => ?_) (fun hc => ?_)
      · have hw := hw.1 hc
        exact W.vret hx hb hr (fun t ht hW => ⟨⟨u, rfl, hw, by show va_P D vwCl _ t.heap; rw [ht]; exact hP⟩, hS.F ht⟩) hS.2.2 dX9_orders_195
      · have hw := hw.2 hc
        refine lv_iconst (v := 0) hx hb dX9_orders_126 (by decide) ?_
        refine lv_istore_n (lv' := [(2, .int 0), (0, .ref (q 0)), (1, .int x1)]) hx hb dX9_orders_127 rfl hl (by decide) rfl (fun ls hl => ?_)
        obtain ⟨nn, hw⟩ := hw
        refine L128 x1 nn 0 u _ _ hw hP hD hS ls (lv_sub hl [1, 2, 0] rfl) (fun  u12 H locs hw hP hD hS ls hl => ?_)
        obtain ⟨y13, ey13⟩ : ∃ z : Int32, z = x1 + 1 := ⟨_, rfl⟩
        have hw := hw y13 ey13
        refine lv_iinc (v := y13) (lv' := [(1, .int y13), (0, .ref (q 0))]) hx hb dX9_orders_189 hl (k := 1) rfl (by rw [ey13]; rfl) (by decide) rfl (fun ls hl => ?_)
        refine lv_goto (tgt := 120) hx hb dX9_orders_192 (by decide) ?_
        exact ih y13 u12 _ _ hw hP hD hS ls (lv_sub hl [1, 0] rfl)
  have hent := lg_entry_eq m ([.ref (q 0)]) 3
  rw [← hargs] at hent
  rw [hent]
  have hl := lv_entry ([.ref (q 0)]) (n := 3) (Nat.le_of_ble_eq_true rfl)
  generalize (lg_sl ([.ref (q 0)]) ++ List.replicate (3 - (lg_sl ([.ref (q 0)])).length) Slot.unset).toArray = ls at hl ⊢
  have hl : lv_has ls 3 [(0, .ref (q 0))] := hl
  unfold wp_X9_orders at hw
  refine lv_iconst (v := 0) hx hb dX9_orders_0 (by decide) ?_
  refine lv_istore_n (lv' := [(1, .int 0), (0, .ref (q 0))]) hx hb dX9_orders_1 rfl hl (by decide) rfl (fun ls hl => ?_)
  obtain ⟨nn, hw⟩ := hw
  refine L2 nn 0 u _ _ hw hP hD hS ls (lv_sub hl [1, 0] rfl) (fun  u24 H locs hw hP hD hS ls hl => ?_)
  refine lv_iconst (v := 0) hx hb dX9_orders_21 (by decide) ?_
  refine lv_istore_n (lv' := [(1, .int 0), (0, .ref (q 0))]) hx hb dX9_orders_22 rfl hl (by decide) rfl (fun ls hl => ?_)
  obtain ⟨nn, hw⟩ := hw
  refine L23 nn 0 u24 _ _ hw hP hD hS ls (lv_sub hl [1, 0] rfl) (fun  u25 H locs hw hP hD hS ls hl => ?_)
  refine lv_aload_n hx hb dX9_orders_113 rfl (lv_at hl 0 rfl) ?_
  refine lv_iconst (v := 0) hx hb dX9_orders_114 (by decide) ?_
  refine va_put (D := D) (ci := 9) (v := .int 0) (ty := .int) (C := RX9) (T := TX9) (N := 30) hx hb hts hiX9 tyX9 tyX9_ok nmX9 hown hK hP hD hS 0 rfl rfl 23 (by decide) hf125 (fun _ h9 => h9) rfl (by decide +kernel) rfl rfl (Nat.le_of_ble_eq_true rfl) dX9_orders_115 (sPut (w := wM q cI cJ cZ) (uu := uI u25 25 (fun _ => 0)) (wMs_X9_23 q cI cJ cZ u25 _) (fun u26 H locs eu26 hP hD hS => ?_))
  have hw := hw u26 eu26
  refine lv_iconst (v := 0) hx hb dX9_orders_118 (by decide) ?_
  refine lv_istore_n (lv' := [(1, .int 0), (0, .ref (q 0))]) hx hb dX9_orders_119 rfl hl (by decide) rfl (fun ls hl => ?_)
  obtain ⟨nn, hw⟩ := hw
  refine L120 nn 0 u26 _ _ hw hP hD hS ls (lv_sub hl [1, 0] rfl)
set_option maxHeartbeats 4000000 in
set_option maxRecDepth 100000 in
theorem c_X9_brings (l : Launch) (D : va_G) (q : Nat → Nat) (cI cJ cZ : ClassId) (u : WU) (x1 : Int32) (x2 : Int32) (post : Int64 → Prop) (hw : wp_X9_brings x1 x2 u post) : Met l yX9_brings wsX9_brings rm_X9_brings (va_Pc [.ref (q 0), .int x1, .int x2] (RW D (ty3 cI cJ cZ) (wM q cI cJ cZ u))) (vp_Sl post) 0 0 (fun _ => False) := by
  refine Met.ofW (cc := cX9_brings) (maxL := 3) (ret := (some .long)) (by decide) rfl ?_
  intro p e s m args below meth c s₁ B hml hv
  obtain ⟨hargs, hP, hK, hN⟩ := hv
  have hx := B.exec
  have hb := B.bytes
  have hr := B.returns
  have hts := atoms_spec (ws := wsX9_brings) B.pre
  have hown : s.vm.findClass RX9 = some m.cls := findClass_of_methodNamed B.named
  have hlocks := B.notSynchronized
  have hiX9 : ∀ w ∈ u_ws RX9 TX9 30, w ∈ wsX9_brings := by decide +kernel
  have hc103 := hts (.constantLong RX9 103 (-1)) (by decide +kernel)
  have hf29 := hts (.fieldLink RX9 29 "TermsDeskModel" "lifted" "[J") (by decide +kernel)
  have hf63 := hts (.fieldLink RX9 63 "TermsDeskModel" "has" "[I") (by decide +kernel)
  have hf7 := hts (.fieldLink RX9 7 "TermsDeskModel" "asked" "[I") (by decide +kernel)
  have hent := lg_entry_eq m ([.ref (q 0), .int x1, .int x2]) 3
  rw [← hargs] at hent
  rw [hent]
  have hl := lv_entry ([.ref (q 0), .int x1, .int x2]) (n := 3) (Nat.le_of_ble_eq_true rfl)
  generalize (lg_sl ([.ref (q 0), .int x1, .int x2]) ++ List.replicate (3 - (lg_sl ([.ref (q 0), .int x1, .int x2])).length) Slot.unset).toArray = ls at hl ⊢
  have hl : lv_has ls 3 [(0, .ref (q 0)), (1, .int x1), (2, .int x2)] := hl
  unfold wp_X9_brings at hw
  refine lv_aload_n hx hb dX9_brings_0 rfl (lv_at hl 0 rfl) ?_
  refine va_get (D := D) (ci := 9) (v := .ref (q 1)) (C := RX9) (T := TX9) (N := 30) hx hb hts hiX9 hown hK hP 0 rfl rfl 0 (by decide) hf7 (fun _ h9 => h9) rfl dX9_brings_1 ?_
  refine lv_iconst (v := 4) hx hb dX9_brings_4 (by decide) ?_
  refine lv_aload_n hx hb dX9_brings_5 rfl (lv_at hl 0 rfl) ?_
  refine va_get (D := D) (ci := 9) (v := .ref (q 18)) (C := RX9) (T := TX9) (N := 30) hx hb hts hiX9 hown hK hP 0 rfl rfl 21 (by decide) hf63 (fun _ h9 => h9) rfl dX9_brings_6 ?_
  refine lv_iload_n hx hb dX9_brings_9 rfl (lv_at hl 2 rfl) ?_
  obtain ⟨hin, hw⟩ := hw
  refine va_iald hx hb hK hP 18 0 rfl rfl hin dX9_brings_10 ?_
  refine lv_imul hx hb dX9_brings_11 ?_
  refine lv_iload_n hx hb dX9_brings_12 rfl (lv_at hl 1 rfl) ?_
  refine lv_iadd hx hb dX9_brings_13 ?_
  obtain ⟨hin, hw⟩ := hw
  refine va_iald hx hb hK hP 1 0 rfl rfl hin dX9_brings_14 ?_
  refine lv_i2l (v := (u.1 0 ((4 * (u.1 15 x2.toNatClampNeg)) + x1).toNatClampNeg).toInt64) hx hb dX9_brings_15 rfl ?_
  refine lv_bipush (v := 8) hx hb dX9_brings_16 (by decide) ?_
  refine lv_aload_n hx hb dX9_brings_18 rfl (lv_at hl 0 rfl) ?_
  refine va_get (D := D) (ci := 9) (v := .ref (q 18)) (C := RX9) (T := TX9) (N := 30) hx hb hts hiX9 hown hK hP 0 rfl rfl 21 (by decide) hf63 (fun _ h9 => h9) rfl dX9_brings_19 ?_
  refine lv_iload_n hx hb dX9_brings_22 rfl (lv_at hl 2 rfl) ?_
  obtain ⟨hin, hw⟩ := hw
  refine va_iald hx hb hK hP 18 0 rfl rfl hin dX9_brings_23 ?_
  refine lv_imul hx hb dX9_brings_24 ?_
  refine lv_lshl (v := jshl ((u.1 0 ((4 * (u.1 15 x2.toNatClampNeg)) + x1).toNatClampNeg).toInt64) (8 * (u.1 15 x2.toNatClampNeg))) hx hb dX9_brings_25 rfl ?_
  refine lv_aload_n hx hb dX9_brings_26 rfl (lv_at hl 0 rfl) ?_
  refine va_get (D := D) (ci := 9) (v := .ref (q 7)) (C := RX9) (T := TX9) (N := 30) hx hb hts hiX9 hown hK hP 0 rfl rfl 8 (by decide) hf29 (fun _ h9 => h9) rfl dX9_brings_27 ?_
  refine lv_iload_n hx hb dX9_brings_30 rfl (lv_at hl 2 rfl) ?_
  obtain ⟨hin, hw⟩ := hw
  refine va_lald hx hb hK hP 7 1 rfl rfl hin dX9_brings_31 ?_
  refine lv_ldc2 (v := (-1)) hx hb hown hc103 dX9_brings_32 ?_
  refine lv_lxor hx hb dX9_brings_35 ?_
  refine lv_land hx hb dX9_brings_36 ?_
  exact W.lret (v := (jshl ((u.1 0 ((4 * (u.1 15 x2.toNatClampNeg)) + x1).toNatClampNeg).toInt64) (8 * (u.1 15 x2.toNatClampNeg))) &&& ((u.2 1 x2.toNatClampNeg) ^^^ (-1))) hx hb hr (fun t ht hW => ⟨(jshl ((u.1 0 ((4 * (u.1 15 x2.toNatClampNeg)) + x1).toNatClampNeg).toInt64) (8 * (u.1 15 x2.toNatClampNeg))) &&& ((u.2 1 x2.toNatClampNeg) ^^^ (-1)), rfl, hw, ht⟩) (fun _ h => by cases h) dX9_brings_37
set_option maxHeartbeats 4000000 in
set_option maxRecDepth 100000 in
theorem c_X9_comes (l : Launch) (D : va_G) (q : Nat → Nat) (cI cJ cZ : ClassId) (sz : Nat) (u : WU) (x1 : Int32) (post : WU → Prop) (hw : wp_X9_comes x1 u post) : Met l yX9_comes wsX9_comes rm_X9_comes (va_Pc [.ref (q 0), .int x1] (MW D (ty3 cI cJ cZ) (wM q cI cJ cZ u) sz)) (va_Qv post (fun u' t => va_P D vwCl (wM q cI cJ cZ u') t.heap) (va_A (wM q cI cJ cZ u00) sz)) 0 0 (va_A (wM q cI cJ cZ u00) sz) := by
  refine Met.ofW (cc := cX9_comes) (maxL := 4) (ret := none) (by decide) rfl ?_
  intro p e s m args below meth c s₁ B hml hv
  obtain ⟨hargs, hsz, hP, hK, hD0, hN⟩ := hv
  have hx := B.exec
  have hb := B.bytes
  have hr := B.returns
  have hts := atoms_spec (ws := wsX9_comes) B.pre
  have hown : s.vm.findClass RX9 = some m.cls := findClass_of_methodNamed B.named
  have hlocks := B.notSynchronized
  subst hsz
  have hD := shw_self (sz := s.heap.size) (sh_wM q cI cJ cZ) hD0
  have hA : ∀ a : Nat, s.heap.size ≤ a → va_A (wM q cI cJ cZ u00) s.heap.size a := fun _ h => Or.inr h
  have hS : va_S (va_A (wM q cI cJ cZ u00) s.heap.size) s.heap s.heap [] := va_S.rf
  have hiX9 : ∀ w ∈ u_ws RX9 TX9 30, w ∈ wsX9_comes := by decide +kernel
  have hf125 := hts (.fieldLink RX9 125 "TermsDeskModel" "orderMany" "I") (by decide +kernel)
  have hf13 := hts (.fieldLink RX9 13 "TermsDeskModel" "along" "[J") (by decide +kernel)
  have hf32 := hts (.fieldLink RX9 32 "TermsDeskModel" "from" "[I") (by decide +kernel)
  have hf35 := hts (.fieldLink RX9 35 "TermsDeskModel" "to" "[I") (by decide +kernel)
  have hf38 := hts (.fieldLink RX9 38 "TermsDeskModel" "kind" "[I") (by decide +kernel)
  have hf66 := hts (.fieldLink RX9 66 "TermsDeskModel" "come" "[J") (by decide +kernel)
  have hf69 := hts (.fieldLink RX9 69 "TermsDeskModel" "order" "[I") (by decide +kernel)
  have hf87 := hts (.fieldLink RX9 87 "TermsDeskModel" "parts" "I") (by decide +kernel)
  have L2 : ∀ {K28 : WU → Prop} (x1 : Int32) (n : Nat) (x2 : Int32) (u : WU) (H : Heap) (locs : List Loc), wp_X9_comes_L2 x1 post K28 n x2 u → va_P D vwCl (wM q cI cJ cZ u) H → va_D (va_A (wM q cI cJ cZ u00) s.heap.size) (wM q cI cJ cZ u) → va_S (va_A (wM q cI cJ cZ u00) s.heap.size) s.heap H locs → ∀ ls : Array Slot, lv_has ls 4 [(0, .ref (q 0)), (1, .int x1), (2, .int x2)] → (∀ (u : WU) (H : Heap) (locs : List Loc), K28 u → va_P D vwCl (wM q cI cJ cZ u) H → va_D (va_A (wM q cI cJ cZ u00) s.heap.size) (wM q cI cJ cZ u) → va_S (va_A (wM q cI cJ cZ u00) s.heap.size) s.heap H locs → ∀ ls : Array Slot, lv_has ls 4 [(0, .ref (q 0))] → W p l e (headSpec wsX9_comes rm_X9_comes).room s m args below meth c H locs 0 0 (MQ below (va_Qv post (fun u' t => va_P D vwCl (wM q cI cJ cZ u') t.heap) (va_A (wM q cI cJ cZ u00) s.heap.size)) args s 0 0 (va_A (wM q cI cJ cZ u00) s.heap.size)) (F0 m 28 ls [])) → W p l e (headSpec wsX9_comes rm_X9_comes).room s m args below meth c H locs 0 0 (MQ below (va_Qv post (fun u' t => va_P D vwCl (wM q cI cJ cZ u') t.heap) (va_A (wM q cI cJ cZ u00) s.heap.size)) args s 0 0 (va_A (wM q cI cJ cZ u00) s.heap.size)) (F0 m 2 ls []) := by
    intro K28 x1 n
    induction n with
    | zero =>
      intro x2 u H locs hw
      exact hw.elim
    | succ n ih =>
      intro x2 u H locs hw hP hD hS ls hl k28
      unfold wp_X9_comes_L2 at hw
      refine lv_iload_n hx hb dX9_comes_2 rfl (lv_at hl 2 rfl) ?_
      refine lv_aload_n hx hb dX9_comes_3 rfl (lv_at hl 0 rfl) ?_
      refine va_get (D := D) (ci := 9) (v := .int (u.1 21 0)) (C := RX9) (T := TX9) (N := 30) hx hb hts hiX9 hown hK hP 0 rfl rfl 3 (by decide) hf87 (fun _ h9 => h9) rfl dX9_comes_4 ?_
      refine lv_icmp_ge (tgt := 28) hx hb dX9_comes_7 (by decide) (fun hc => ?_) (fun hc => ?_)
      · have hw := hw.1 hc
        exact k28 u _ _ hw hP hD hS ls (lv_sub hl [0] rfl)
      · have hw := hw.2 hc
        refine lv_aload_n hx hb dX9_comes_10 rfl (lv_at hl 0 rfl) ?_
        refine va_get (D := D) (ci := 9) (v := .ref (q 19)) (C := RX9) (T := TX9) (N := 30) hx hb hts hiX9 hown hK hP 0 rfl rfl 22 (by decide) hf66 (fun _ h9 => h9) rfl dX9_comes_11 ?_
        refine lv_iload_n hx hb dX9_comes_14 rfl (lv_at hl 2 rfl) ?_
        refine lv_aload_n hx hb dX9_comes_15 rfl (lv_at hl 0 rfl) ?_
        refine lv_iload_n hx hb dX9_comes_16 rfl (lv_at hl 1 rfl) ?_
        refine lv_iload_n hx hb dX9_comes_17 rfl (lv_at hl 2 rfl) ?_
        refine vp_callSl (va_Run.run (va_runV (As := [.int x1, .int x2]) (rest := [.int x2, .ref (q 19)]) ⟨hx, hb, hml, hown, hts⟩ (c_X9_brings l D q cI cJ cZ u x1 x2 _ hw) (cwV 2 hts gX9_comes_X9_brings rfl rfl rfl (by decide +kernel) ⟨Nat.le_of_ble_eq_true rfl, Nat.le_of_ble_eq_true rfl⟩) (pvR (va_recv hK hP (ci := 9) (q0 := 0) (q := (RX9, TX9, 30)) rfl rfl) hK hP hN) rfl rfl hl.1 rfl (lv_room (Nat.le_of_ble_eq_true rfl)) dX9_comes_18 ⟨Nat.zero_le _, Nat.zero_le _⟩)) (fun r1 hw => ?_)
        obtain ⟨hin, hw⟩ := hw
        refine sLast (w := wM q cI cJ cZ) hx hb hK hP hD hS 19 1 2 rfl rfl (wMa_19 q cI cJ cZ u) hin dX9_comes_21 (fun u2 H locs eu2 hP hD hS => ?_)
        have hw := hw u2 eu2
        obtain ⟨y3, ey3⟩ : ∃ z : Int32, z = x2 + 1 := ⟨_, rfl⟩
        have hw := hw y3 ey3
        refine lv_iinc (v := y3) (lv' := [(2, .int y3), (0, .ref (q 0)), (1, .int x1)]) hx hb dX9_comes_22 hl (k := 2) rfl (by rw [ey3]; rfl) (by decide) rfl (fun ls hl => ?_)
        refine lv_goto (tgt := 2) hx hb dX9_comes_25 (by decide) ?_
        exact ih y3 u2 _ _ hw hP hD hS ls (lv_sub hl [1, 2, 0] rfl) k28
  have L30 : ∀ (n : Nat) (x2 : Int32) (u : WU) (H : Heap) (locs : List Loc), wp_X9_comes_L30 post n x2 u → va_P D vwCl (wM q cI cJ cZ u) H → va_D (va_A (wM q cI cJ cZ u00) s.heap.size) (wM q cI cJ cZ u) → va_S (va_A (wM q cI cJ cZ u00) s.heap.size) s.heap H locs → ∀ ls : Array Slot, lv_has ls 4 [(0, .ref (q 0)), (2, .int x2)] → W p l e (headSpec wsX9_comes rm_X9_comes).room s m args below meth c H locs 0 0 (MQ below (va_Qv post (fun u' t => va_P D vwCl (wM q cI cJ cZ u') t.heap) (va_A (wM q cI cJ cZ u00) s.heap.size)) args s 0 0 (va_A (wM q cI cJ cZ u00) s.heap.size)) (F0 m 30 ls []) := by
    intro  n
    induction n with
    | zero =>
      intro x2 u H locs hw
      exact hw.elim
    | succ n ih =>
      intro x2 u H locs hw hP hD hS ls hl 
      unfold wp_X9_comes_L30 at hw
      refine lv_iload_n hx hb dX9_comes_30 rfl (lv_at hl 1 rfl) ?_
      refine lv_aload_n hx hb dX9_comes_31 rfl (lv_at hl 0 rfl) ?_
      refine va_get (D := D) (ci := 9) (v := .int (u.1 25 0)) (C := RX9) (T := TX9) (N := 30) hx hb hts hiX9 hown hK hP 0 rfl rfl 23 (by decide) hf125 (fun _ h9 => h9) rfl dX9_comes_32 ?_
      refine lv_icmp_ge (tgt := 88) hx hb dX9_comes_35 (by decide) (fun hc => ?_) (fun hc => ?_)
      · have hw := hw.1 hc
        exact W.vret hx hb hr (fun t ht hW => ⟨⟨u, rfl, hw, by show va_P D vwCl _ t.heap; rw [ht]; exact hP⟩, hS.F ht⟩) hS.2.2 dX9_comes_88
      · have hw := hw.2 hc
        refine lv_aload_n hx hb dX9_comes_38 rfl (lv_at hl 0 rfl) ?_
        refine va_get (D := D) (ci := 9) (v := .ref (q 20)) (C := RX9) (T := TX9) (N := 30) hx hb hts hiX9 hown hK hP 0 rfl rfl 24 (by decide) hf69 (fun _ h9 => h9) rfl dX9_comes_39 ?_
        refine lv_iload_n hx hb dX9_comes_42 rfl (lv_at hl 1 rfl) ?_
        obtain ⟨hin, hw⟩ := hw
        refine va_iald hx hb hK hP 20 0 rfl rfl hin dX9_comes_43 ?_
        refine lv_topi (fun y4 ey4 => ?_)
        have hw := hw y4 ey4
        refine lv_istore_n (lv' := [(3, .int y4), (0, .ref (q 0)), (2, .int x2)]) hx hb dX9_comes_44 rfl hl (by decide) rfl (fun ls hl => ?_)
        refine lv_aload_n hx hb dX9_comes_45 rfl (lv_at hl 1 rfl) ?_
        refine va_get (D := D) (ci := 9) (v := .ref (q 19)) (C := RX9) (T := TX9) (N := 30) hx hb hts hiX9 hown hK hP 0 rfl rfl 22 (by decide) hf66 (fun _ h9 => h9) rfl dX9_comes_46 ?_
        refine lv_aload_n hx hb dX9_comes_49 rfl (lv_at hl 1 rfl) ?_
        refine va_get (D := D) (ci := 9) (v := .ref (q 9)) (C := RX9) (T := TX9) (N := 30) hx hb hts hiX9 hown hK hP 0 rfl rfl 11 (by decide) hf35 (fun _ h9 => h9) rfl dX9_comes_50 ?_
        refine lv_iload_n hx hb dX9_comes_53 rfl (lv_at hl 0 rfl) ?_
        obtain ⟨hin, hw⟩ := hw
        refine va_iald hx hb hK hP 9 0 rfl rfl hin dX9_comes_54 ?_
        refine lv_dup2_11 hx hb dX9_comes_55 rfl rfl ?_
        obtain ⟨hin, hw⟩ := hw
        refine va_lald hx hb hK hP 19 1 rfl rfl hin dX9_comes_56 ?_
        refine lv_aload_n hx hb dX9_comes_57 rfl (lv_at hl 1 rfl) ?_
        refine va_get (D := D) (ci := 9) (v := .ref (q 19)) (C := RX9) (T := TX9) (N := 30) hx hb hts hiX9 hown hK hP 0 rfl rfl 22 (by decide) hf66 (fun _ h9 => h9) rfl dX9_comes_58 ?_
        refine lv_aload_n hx hb dX9_comes_61 rfl (lv_at hl 1 rfl) ?_
        refine va_get (D := D) (ci := 9) (v := .ref (q 8)) (C := RX9) (T := TX9) (N := 30) hx hb hts hiX9 hown hK hP 0 rfl rfl 10 (by decide) hf32 (fun _ h9 => h9) rfl dX9_comes_62 ?_
        refine lv_iload_n hx hb dX9_comes_65 rfl (lv_at hl 0 rfl) ?_
        obtain ⟨hin, hw⟩ := hw
        refine va_iald hx hb hK hP 8 0 rfl rfl hin dX9_comes_66 ?_
        obtain ⟨hin, hw⟩ := hw
        refine va_lald hx hb hK hP 19 1 rfl rfl hin dX9_comes_67 ?_
        refine lv_aload_n hx hb dX9_comes_68 rfl (lv_at hl 1 rfl) ?_
        refine va_get (D := D) (ci := 9) (v := .ref (q 2)) (C := RX9) (T := TX9) (N := 30) hx hb hts hiX9 hown hK hP 0 rfl rfl 1 (by decide) hf13 (fun _ h9 => h9) rfl dX9_comes_69 ?_
        refine lv_aload_n hx hb dX9_comes_72 rfl (lv_at hl 1 rfl) ?_
        refine va_get (D := D) (ci := 9) (v := .ref (q 10)) (C := RX9) (T := TX9) (N := 30) hx hb hts hiX9 hown hK hP 0 rfl rfl 12 (by decide) hf38 (fun _ h9 => h9) rfl dX9_comes_73 ?_
        refine lv_iload_n hx hb dX9_comes_76 rfl (lv_at hl 0 rfl) ?_
        obtain ⟨hin, hw⟩ := hw
        refine va_iald hx hb hK hP 10 0 rfl rfl hin dX9_comes_77 ?_
        obtain ⟨hin, hw⟩ := hw
        refine va_lald hx hb hK hP 2 1 rfl rfl hin dX9_comes_78 ?_
        refine lv_land hx hb dX9_comes_79 ?_
        refine lv_lor hx hb dX9_comes_80 ?_
        obtain ⟨hin, hw⟩ := hw
        refine sLast (w := wM q cI cJ cZ) hx hb hK hP hD hS 19 1 2 rfl rfl (wMa_19 q cI cJ cZ u) hin dX9_comes_81 (fun u5 H locs eu5 hP hD hS => ?_)
        have hw := hw u5 eu5
        obtain ⟨y6, ey6⟩ : ∃ z : Int32, z = x2 + 1 := ⟨_, rfl⟩
        have hw := hw y6 ey6
        refine lv_iinc (v := y6) (lv' := [(2, .int y6), (3, .int y4), (0, .ref (q 0))]) hx hb dX9_comes_82 hl (k := 2) rfl (by rw [ey6]; rfl) (by decide) rfl (fun ls hl => ?_)
        refine lv_goto (tgt := 30) hx hb dX9_comes_85 (by decide) ?_
        exact ih y6 u5 _ _ hw hP hD hS ls (lv_sub hl [2, 0] rfl)
  have hent := lg_entry_eq m ([.ref (q 0), .int x1]) 4
  rw [← hargs] at hent
  rw [hent]
  have hl := lv_entry ([.ref (q 0), .int x1]) (n := 4) (Nat.le_of_ble_eq_true rfl)
  generalize (lg_sl ([.ref (q 0), .int x1]) ++ List.replicate (4 - (lg_sl ([.ref (q 0), .int x1])).length) Slot.unset).toArray = ls at hl ⊢
  have hl : lv_has ls 4 [(0, .ref (q 0)), (1, .int x1)] := hl
  unfold wp_X9_comes at hw
  refine lv_iconst (v := 0) hx hb dX9_comes_0 (by decide) ?_
  refine lv_istore_n (lv' := [(2, .int 0), (0, .ref (q 0)), (1, .int x1)]) hx hb dX9_comes_1 rfl hl (by decide) rfl (fun ls hl => ?_)
  obtain ⟨nn, hw⟩ := hw
  refine L2 x1 nn 0 u _ _ hw hP hD hS ls (lv_sub hl [1, 2, 0] rfl) (fun  u7 H locs hw hP hD hS ls hl => ?_)
  refine lv_iconst (v := 0) hx hb dX9_comes_28 (by decide) ?_
  refine lv_istore_n (lv' := [(2, .int 0), (0, .ref (q 0))]) hx hb dX9_comes_29 rfl hl (by decide) rfl (fun ls hl => ?_)
  obtain ⟨nn, hw⟩ := hw
  refine L30 nn 0 u7 _ _ hw hP hD hS ls (lv_sub hl [1, 0] rfl)
set_option maxHeartbeats 4000000 in
set_option maxRecDepth 100000 in
theorem c_X9_works (l : Launch) (D : va_G) (q : Nat → Nat) (cI cJ cZ : ClassId) (sz : Nat) (u : WU) (x1 : Int32) (post : WU → Prop) (hw : wp_X9_works x1 u post) : Met l yX9_works wsX9_works rm_X9_works (va_Pc [.ref (q 0), .int x1] (MW D (ty3 cI cJ cZ) (wM q cI cJ cZ u) sz)) (va_Qv post (fun u' t => va_P D vwCl (wM q cI cJ cZ u') t.heap) (va_A (wM q cI cJ cZ u00) sz)) 0 0 (va_A (wM q cI cJ cZ u00) sz) := by
  refine Met.ofW (cc := cX9_works) (maxL := 2) (ret := none) (by decide) rfl ?_
  intro p e s m args below meth c s₁ B hml hv
  obtain ⟨hargs, hsz, hP, hK, hD0, hN⟩ := hv
  have hx := B.exec
  have hb := B.bytes
  have hr := B.returns
  have hts := atoms_spec (ws := wsX9_works) B.pre
  have hown : s.vm.findClass RX9 = some m.cls := findClass_of_methodNamed B.named
  have hlocks := B.notSynchronized
  subst hsz
  have hD := shw_self (sz := s.heap.size) (sh_wM q cI cJ cZ) hD0
  have hA : ∀ a : Nat, s.heap.size ≤ a → va_A (wM q cI cJ cZ u00) s.heap.size a := fun _ h => Or.inr h
  have hS : va_S (va_A (wM q cI cJ cZ u00) s.heap.size) s.heap s.heap [] := va_S.rf
  have hiX9 : ∀ w ∈ u_ws RX9 TX9 30, w ∈ wsX9_works := by decide +kernel
  have hf118 := hts (.fieldLink RX9 118 "TermsDeskModel" "product" "I") (by decide +kernel)
  have hent := lg_entry_eq m ([.ref (q 0), .int x1]) 2
  rw [← hargs] at hent
  rw [hent]
  have hl := lv_entry ([.ref (q 0), .int x1]) (n := 2) (Nat.le_of_ble_eq_true rfl)
  generalize (lg_sl ([.ref (q 0), .int x1]) ++ List.replicate (2 - (lg_sl ([.ref (q 0), .int x1])).length) Slot.unset).toArray = ls at hl ⊢
  have hl : lv_has ls 2 [(0, .ref (q 0)), (1, .int x1)] := hl
  unfold wp_X9_works at hw
  refine lv_aload_n hx hb dX9_works_0 rfl (lv_at hl 0 rfl) ?_
  refine cMv (sh_wM q cI cJ cZ) (u := u) (va_runV (As := []) (rest := []) ⟨hx, hb, hml, hown, hts⟩ (c_X9_asItIs l D q cI cJ cZ _ u _ hw) (cwV 0 hts gX9_works_X9_asItIs rfl rfl rfl (by decide +kernel) ⟨Nat.le_of_ble_eq_true rfl, Nat.le_of_ble_eq_true rfl⟩) (pvM (va_recv hK hP (ci := 9) (q0 := 0) (q := (RX9, TX9, 30)) rfl rfl) hK hP hD hN) rfl rfl hl.1 rfl (lv_room (Nat.le_of_ble_eq_true rfl)) dX9_works_1 ⟨Nat.zero_le _, Nat.zero_le _⟩) hA hD hS (fun u1 H locs hw hP hD hS => ?_)
  refine lv_aload_n hx hb dX9_works_4 rfl (lv_at hl 0 rfl) ?_
  refine cMv (sh_wM q cI cJ cZ) (u := u1) (va_runV (As := []) (rest := []) ⟨hx, hb, hml, hown, hts⟩ (c_X9_orders l D q cI cJ cZ _ u1 _ hw) (cwV 0 hts gX9_works_X9_orders rfl rfl rfl (by decide +kernel) ⟨Nat.le_of_ble_eq_true rfl, Nat.le_of_ble_eq_true rfl⟩) (pvM (va_recv hK hP (ci := 9) (q0 := 0) (q := (RX9, TX9, 30)) rfl rfl) hK hP hD hN) rfl rfl hl.1 rfl (lv_room (Nat.le_of_ble_eq_true rfl)) dX9_works_5 ⟨Nat.zero_le _, Nat.zero_le _⟩) hA hD hS (fun u2 H locs hw hP hD hS => ?_)
  refine lv_aload_n hx hb dX9_works_8 rfl (lv_at hl 0 rfl) ?_
  refine lv_aload_n hx hb dX9_works_9 rfl (lv_at hl 0 rfl) ?_
  refine va_get (D := D) (ci := 9) (v := .int (u2.1 22 0)) (C := RX9) (T := TX9) (N := 30) hx hb hts hiX9 hown hK hP 0 rfl rfl 4 (by decide) hf118 (fun _ h9 => h9) rfl dX9_works_10 ?_
  refine cMv (sh_wM q cI cJ cZ) (u := u2) (va_runV (As := [.int (u2.1 22 0)]) (rest := []) ⟨hx, hb, hml, hown, hts⟩ (c_X9_reaches l D q cI cJ cZ _ u2 (u2.1 22 0) _ hw) (cwV 1 hts gX9_works_X9_reaches rfl rfl rfl (by decide +kernel) ⟨Nat.le_of_ble_eq_true rfl, Nat.le_of_ble_eq_true rfl⟩) (pvM (va_recv hK hP (ci := 9) (q0 := 0) (q := (RX9, TX9, 30)) rfl rfl) hK hP hD hN) rfl rfl hl.1 rfl (lv_room (Nat.le_of_ble_eq_true rfl)) dX9_works_13 ⟨Nat.zero_le _, Nat.zero_le _⟩) hA hD hS (fun u3 H locs hw hP hD hS => ?_)
  refine lv_aload_n hx hb dX9_works_16 rfl (lv_at hl 0 rfl) ?_
  refine lv_iload_n hx hb dX9_works_17 rfl (lv_at hl 1 rfl) ?_
  refine cMv (sh_wM q cI cJ cZ) (u := u3) (va_runV (As := [.int x1]) (rest := []) ⟨hx, hb, hml, hown, hts⟩ (c_X9_comes l D q cI cJ cZ _ u3 x1 _ hw) (cwV 1 hts gX9_works_X9_comes rfl rfl rfl (by decide +kernel) ⟨Nat.le_of_ble_eq_true rfl, Nat.le_of_ble_eq_true rfl⟩) (pvM (va_recv hK hP (ci := 9) (q0 := 0) (q := (RX9, TX9, 30)) rfl rfl) hK hP hD hN) rfl rfl hl.1 rfl (lv_room (Nat.le_of_ble_eq_true rfl)) dX9_works_18 ⟨Nat.zero_le _, Nat.zero_le _⟩) hA hD hS (fun u4 H locs hw hP hD hS => ?_)
  exact W.vret hx hb hr (fun t ht hW => ⟨⟨u4, rfl, hw, by show va_P D vwCl _ t.heap; rw [ht]; exact hP⟩, hS.F ht⟩) hS.2.2 dX9_works_21
set_option maxHeartbeats 4000000 in
set_option maxRecDepth 100000 in
theorem c_X9_come (l : Launch) (D : va_G) (q : Nat → Nat) (cI cJ cZ : ClassId) (sz : Nat) (u : WU) (x1 : Int32) (x2 : Int32) (x3 : Int32) (post : Int32 → WU → Prop) (hw : wp_X9_come x1 x2 x3 u post) : Met l yX9_come wsX9_come rm_X9_come (va_Pc [.ref (q 0), .int x1, .int x2, .int x3] (MW D (ty3 cI cJ cZ) (wM q cI cJ cZ u) sz)) (va_Qi post (fun u' t => va_P D vwCl (wM q cI cJ cZ u') t.heap) (va_A (wM q cI cJ cZ u00) sz)) 0 0 (va_A (wM q cI cJ cZ u00) sz) := by
  refine Met.ofW (cc := cX9_come) (maxL := 4) (ret := (some .int)) (by decide) rfl ?_
  intro p e s m args below meth c s₁ B hml hv
  obtain ⟨hargs, hsz, hP, hK, hD0, hN⟩ := hv
  have hx := B.exec
  have hb := B.bytes
  have hr := B.returns
  have hts := atoms_spec (ws := wsX9_come) B.pre
  have hown : s.vm.findClass RX9 = some m.cls := findClass_of_methodNamed B.named
  have hlocks := B.notSynchronized
  subst hsz
  have hD := shw_self (sz := s.heap.size) (sh_wM q cI cJ cZ) hD0
  have hA : ∀ a : Nat, s.heap.size ≤ a → va_A (wM q cI cJ cZ u00) s.heap.size a := fun _ h => Or.inr h
  have hS : va_S (va_A (wM q cI cJ cZ u00) s.heap.size) s.heap s.heap [] := va_S.rf
  have hiX9 : ∀ w ∈ u_ws RX9 TX9 30, w ∈ wsX9_come := by decide +kernel
  have hc151 := hts (.constantLong RX9 151 (255)) (by decide +kernel)
  have hf66 := hts (.fieldLink RX9 66 "TermsDeskModel" "come" "[J") (by decide +kernel)
  have hent := lg_entry_eq m ([.ref (q 0), .int x1, .int x2, .int x3]) 4
  rw [← hargs] at hent
  rw [hent]
  have hl := lv_entry ([.ref (q 0), .int x1, .int x2, .int x3]) (n := 4) (Nat.le_of_ble_eq_true rfl)
  generalize (lg_sl ([.ref (q 0), .int x1, .int x2, .int x3]) ++ List.replicate (4 - (lg_sl ([.ref (q 0), .int x1, .int x2, .int x3])).length) Slot.unset).toArray = ls at hl ⊢
  have hl : lv_has ls 4 [(0, .ref (q 0)), (1, .int x1), (2, .int x2), (3, .int x3)] := hl
  unfold wp_X9_come at hw
  refine lv_iload_n hx hb dX9_come_0 rfl (lv_at hl 1 rfl) ?_
  refine vp_callSi (va_Run.run (va_runS (As := [.int x1]) (rest := []) ⟨hx, hb, hml, hown, hts⟩ (c_X9_isShipping l x1 _ hw) (va_cwS 1 hts gX9_come_X9_isShipping rfl rfl rfl (by decide +kernel) ⟨Nat.le_of_ble_eq_true rfl, Nat.le_of_ble_eq_true rfl⟩) (psS hN) rfl rfl hl.1 rfl (lv_room (Nat.le_of_ble_eq_true rfl)) dX9_come_1 ⟨Nat.zero_le _, Nat.zero_le _⟩)) (fun r1 hw => ?_)
  refine lv_if_eq (tgt := 22) hx hb dX9_come_4 (by decide) (fun hc => ?_) (fun hc => ?_)
  · have hw := hw.1 hc
    refine lv_iconst (v := (-1)) hx hb dX9_come_22 (by decide) ?_
    exact W.iret (v := (-1)) hx hb hr (fun t ht hW => ⟨⟨(-1), u, rfl, hw, by show va_P D vwCl _ t.heap; rw [ht]; exact hP⟩, hS.F ht⟩) hS.2.2 dX9_come_23
  · have hw := hw.2 hc
    refine lv_aload_n hx hb dX9_come_7 rfl (lv_at hl 0 rfl) ?_
    refine lv_iload_n hx hb dX9_come_8 rfl (lv_at hl 2 rfl) ?_
    refine vp_callSi (va_Run.run (va_runV (As := [.int x2]) (rest := []) ⟨hx, hb, hml, hown, hts⟩ (c_X9_isPart l D q cI cJ cZ u x2 _ hw) (cwV 1 hts gX9_come_X9_isPart rfl rfl rfl (by decide +kernel) ⟨Nat.le_of_ble_eq_true rfl, Nat.le_of_ble_eq_true rfl⟩) (pvR (va_recv hK hP (ci := 9) (q0 := 0) (q := (RX9, TX9, 30)) rfl rfl) hK hP hN) rfl rfl hl.1 rfl (lv_room (Nat.le_of_ble_eq_true rfl)) dX9_come_9 ⟨Nat.zero_le _, Nat.zero_le _⟩)) (fun r2 hw => ?_)
    refine lv_if_eq (tgt := 22) hx hb dX9_come_12 (by decide) (fun hc => ?_) (fun hc => ?_)
    · have hw := hw.1 hc
      refine lv_iconst (v := (-1)) hx hb dX9_come_22 (by decide) ?_
      exact W.iret (v := (-1)) hx hb hr (fun t ht hW => ⟨⟨(-1), u, rfl, hw, by show va_P D vwCl _ t.heap; rw [ht]; exact hP⟩, hS.F ht⟩) hS.2.2 dX9_come_23
    · have hw := hw.2 hc
      refine lv_iload_n hx hb dX9_come_15 rfl (lv_at hl 3 rfl) ?_
      refine vp_callSi (va_Run.run (va_runS (As := [.int x3]) (rest := []) ⟨hx, hb, hml, hown, hts⟩ (c_X9_isLicence l x3 _ hw) (va_cwS 1 hts gX9_come_X9_isLicence rfl rfl rfl (by decide +kernel) ⟨Nat.le_of_ble_eq_true rfl, Nat.le_of_ble_eq_true rfl⟩) (psS hN) rfl rfl hl.1 rfl (lv_room (Nat.le_of_ble_eq_true rfl)) dX9_come_16 ⟨Nat.zero_le _, Nat.zero_le _⟩)) (fun r3 hw => ?_)
      refine lv_if_ne (tgt := 24) hx hb dX9_come_19 (by decide) (fun hc => ?_) (fun hc => ?_)
      · have hw := hw.1 hc
        refine lv_aload_n hx hb dX9_come_24 rfl (lv_at hl 0 rfl) ?_
        refine lv_iload_n hx hb dX9_come_25 rfl (lv_at hl 1 rfl) ?_
        refine cMv (sh_wM q cI cJ cZ) (u := u) (va_runV (As := [.int x1]) (rest := []) ⟨hx, hb, hml, hown, hts⟩ (c_X9_works l D q cI cJ cZ _ u x1 _ hw) (cwV 1 hts gX9_come_X9_works rfl rfl rfl (by decide +kernel) ⟨Nat.le_of_ble_eq_true rfl, Nat.le_of_ble_eq_true rfl⟩) (pvM (va_recv hK hP (ci := 9) (q0 := 0) (q := (RX9, TX9, 30)) rfl rfl) hK hP hD hN) rfl rfl hl.1 rfl (lv_room (Nat.le_of_ble_eq_true rfl)) dX9_come_26 ⟨Nat.zero_le _, Nat.zero_le _⟩) hA hD hS (fun u4 H locs hw hP hD hS => ?_)
        refine lv_aload_n hx hb dX9_come_29 rfl (lv_at hl 0 rfl) ?_
        refine va_get (D := D) (ci := 9) (v := .ref (q 19)) (C := RX9) (T := TX9) (N := 30) hx hb hts hiX9 hown hK hP 0 rfl rfl 22 (by decide) hf66 (fun _ h9 => h9) rfl dX9_come_30 ?_
        refine lv_iload_n hx hb dX9_come_33 rfl (lv_at hl 2 rfl) ?_
        obtain ⟨hin, hw⟩ := hw
        refine va_lald hx hb hK hP 19 1 rfl rfl hin dX9_come_34 ?_
        refine lv_bipush (v := 8) hx hb dX9_come_35 (by decide) ?_
        refine lv_iload_n hx hb dX9_come_37 rfl (lv_at hl 3 rfl) ?_
        refine lv_imul hx hb dX9_come_38 ?_
        refine lv_lshr (v := jshr (u4.2 2 x2.toNatClampNeg) (8 * x3)) hx hb dX9_come_39 rfl ?_
        refine lv_ldc2 (v := 255) hx hb hown hc151 dX9_come_40 ?_
        refine lv_land hx hb dX9_come_43 ?_
        refine lv_l2i (v := ((jshr (u4.2 2 x2.toNatClampNeg) (8 * x3)) &&& 255).toInt32) hx hb dX9_come_44 rfl ?_
        exact W.iret (v := ((jshr (u4.2 2 x2.toNatClampNeg) (8 * x3)) &&& 255).toInt32) hx hb hr (fun t ht hW => ⟨⟨((jshr (u4.2 2 x2.toNatClampNeg) (8 * x3)) &&& 255).toInt32, u4, rfl, hw, by show va_P D vwCl _ t.heap; rw [ht]; exact hP⟩, hS.F ht⟩) hS.2.2 dX9_come_45
      · have hw := hw.2 hc
        refine lv_iconst (v := (-1)) hx hb dX9_come_22 (by decide) ?_
        exact W.iret (v := (-1)) hx hb hr (fun t ht hW => ⟨⟨(-1), u, rfl, hw, by show va_P D vwCl _ t.heap; rw [ht]; exact hP⟩, hS.F ht⟩) hS.2.2 dX9_come_23
set_option maxHeartbeats 4000000 in
set_option maxRecDepth 100000 in
theorem c_X2_foughtAt (l : Launch) (D : va_G) (q : Nat → Nat) (cI cJ cZ : ClassId) (u : WU) (x1 : Int32) (x2 : Int32) (post : Int64 → Prop) (hw : wp_X2_foughtAt x1 x2 u post) : Met l yX2_foughtAt wsX2_foughtAt rm_X2_foughtAt (va_Pc [.ref (q 5), .int x1, .int x2] (RW D (ty3 cI cJ cZ) (wX q cI cJ cZ u))) (vp_Sl post) 0 0 (fun _ => False) := by
  refine Met.ofW (cc := cX2_foughtAt) (maxL := 3) (ret := (some .long)) (by decide) rfl ?_
  intro p e s m args below meth c s₁ B hml hv
  obtain ⟨hargs, hP, hK, hN⟩ := hv
  have hx := B.exec
  have hb := B.bytes
  have hr := B.returns
  have hts := atoms_spec (ws := wsX2_foughtAt) B.pre
  have hown : s.vm.findClass RX2 = some m.cls := findClass_of_methodNamed B.named
  have hlocks := B.notSynchronized
  have hiX2 : ∀ w ∈ u_ws RX2 TX2 5, w ∈ wsX2_foughtAt := by decide +kernel
  have hiX6 : ∀ w ∈ u_ws RX6 TX6 3, w ∈ wsX2_foughtAt := by decide +kernel
  have hf18 := hts (.fieldLink RX2 18 "TermsDesk$Flow" "terms" "LTermsDesk$Terms;") (by decide +kernel)
  have hf9 := hts (.fieldLink RX2 9 "TermsDesk$Flow" "arrived" "[J") (by decide +kernel)
  have hent := lg_entry_eq m ([.ref (q 5), .int x1, .int x2]) 3
  rw [← hargs] at hent
  rw [hent]
  have hl := lv_entry ([.ref (q 5), .int x1, .int x2]) (n := 3) (Nat.le_of_ble_eq_true rfl)
  generalize (lg_sl ([.ref (q 5), .int x1, .int x2]) ++ List.replicate (3 - (lg_sl ([.ref (q 5), .int x1, .int x2])).length) Slot.unset).toArray = ls at hl ⊢
  have hl : lv_has ls 3 [(0, .ref (q 5)), (1, .int x1), (2, .int x2)] := hl
  unfold wp_X2_foughtAt at hw
  refine lv_aload_n hx hb dX2_foughtAt_0 rfl (lv_at hl 0 rfl) ?_
  refine va_get (D := D) (ci := 2) (v := .ref (q 27)) (C := RX2) (T := TX2) (N := 5) hx hb hts hiX2 hown hK hP 5 rfl rfl 3 (by decide) hf9 (fun _ h9 => h9) rfl dX2_foughtAt_1 ?_
  refine lv_iload_n hx hb dX2_foughtAt_4 rfl (lv_at hl 1 rfl) ?_
  obtain ⟨hin, hw⟩ := hw
  refine va_lald hx hb hK hP 27 1 rfl rfl hin dX2_foughtAt_5 ?_
  refine lv_aload_n hx hb dX2_foughtAt_6 rfl (lv_at hl 0 rfl) ?_
  refine va_get (D := D) (ci := 2) (v := .ref (q 1)) (C := RX2) (T := TX2) (N := 5) hx hb hts hiX2 hown hK hP 5 rfl rfl 0 (by decide) hf18 (fun _ h9 => h9) rfl dX2_foughtAt_7 ?_
  refine va_getN (D := D) (ci := 6) (v := .ref (q 11)) (C := RX6) (T := TX6) (N := 3) hx hb hts hiX6 hown hK hP 1 rfl rfl 2 (by decide) (va_Nw.use rfl (nf_RX2_82 hN)) (fun _ h9 => h9) rfl dX2_foughtAt_10 ?_
  refine lv_iload_n hx hb dX2_foughtAt_13 rfl (lv_at hl 2 rfl) ?_
  obtain ⟨hin, hw⟩ := hw
  refine va_lald hx hb hK hP 11 1 rfl rfl hin dX2_foughtAt_14 ?_
  refine lv_land hx hb dX2_foughtAt_15 ?_
  exact W.lret (v := (u.2 4 x1.toNatClampNeg) &&& (u.2 2 x2.toNatClampNeg)) hx hb hr (fun t ht hW => ⟨(u.2 4 x1.toNatClampNeg) &&& (u.2 2 x2.toNatClampNeg), rfl, hw, ht⟩) (fun _ h => by cases h) dX2_foughtAt_16
