set_option maxHeartbeats 4000000 in
set_option maxRecDepth 100000 in
theorem c_X7_next (l : Launch) (D : va_G) (q : Nat → Nat) (cI cJ cZ : ClassId) (u : WU) (x1 : Int32) (x2 : Int32) (post : Int32 → Prop) (hw : wp_X7_next x1 x2 u post) : Met l yX7_next wsX7_next rm_X7_next (va_Pc [.ref (q 8), .int x1, .int x2] (RW D (ty3 cI cJ cZ) (wX q cI cJ cZ u))) (vp_Si post) 0 0 (fun _ => False) := by
  refine Met.ofW (cc := cX7_next) (maxL := 7) (ret := (some .int)) (by decide) rfl ?_
  intro p e s m args below meth c s₁ B hml hv
  obtain ⟨hargs, hP, hK, hN⟩ := hv
  have hx := B.exec
  have hb := B.bytes
  have hr := B.returns
  have hts := atoms_spec (ws := wsX7_next) B.pre
  have hown : s.vm.findClass RX7 = some m.cls := findClass_of_methodNamed B.named
  have hlocks := B.notSynchronized
  have hiX3 : ∀ w ∈ u_ws RX3 TX3 9, w ∈ wsX7_next := by decide +kernel
  have hiX7 : ∀ w ∈ u_ws RX7 TX7 5, w ∈ wsX7_next := by decide +kernel
  have hf23 := hts (.fieldLink RX7 23 "TermsDesk$Tracer" "joins" "LTermsDesk$Joins;") (by decide +kernel)
  have hf9 := hts (.fieldLink RX7 9 "TermsDesk$Tracer" "steps" "[I") (by decide +kernel)
  have J109 : ∀ {K5 : Int32 → Int32 → Prop} (x1 : Int32) (x2 : Int32) (x3 : Int32) (x4 : Int32) (_ : Unit), wp_X7_next_J109 x1 x2 x3 x4 u post K5 → ∀ ls : Array Slot, lv_has ls 7 [(0, .ref (q 8)), (1, .int x1), (2, .int x2), (3, .int x3), (4, .int x4)] → (∀ (x3 : Int32) (x4 : Int32), K5 x3 x4 → ∀ ls : Array Slot, lv_has ls 7 [(0, .ref (q 8)), (1, .int x1), (2, .int x2), (3, .int x3), (4, .int x4)] → W p l e (headSpec wsX7_next rm_X7_next).room s m args below meth c s.heap [] 0 0 (MQ below (vp_Si post) args s 0 0 (fun _ => False)) (F0 m 5 ls [])) → W p l e (headSpec wsX7_next rm_X7_next).room s m args below meth c s.heap [] 0 0 (MQ below (vp_Si post) args s 0 0 (fun _ => False)) (F0 m 109 ls []) := by
    intro K5 x1 x2 x3 x4 _ hw ls hl k5
    unfold wp_X7_next_J109 at hw
    obtain ⟨y26, ey26⟩ : ∃ z : Int32, z = x4 + 1 := ⟨_, rfl⟩
    have hw := hw y26 ey26
    refine lv_iinc (v := y26) (lv' := [(4, .int y26), (0, .ref (q 8)), (1, .int x1), (2, .int x2), (3, .int x3)]) hx hb dX7_next_109 hl (k := 4) rfl (by rw [ey26]; rfl) (by decide) rfl (fun ls hl => ?_)
    refine lv_goto (tgt := 5) hx hb dX7_next_112 (by decide) ?_
    exact k5 x3 y26 hw ls (lv_sub hl [1, 2, 3, 4, 0] rfl)
  have J106 : ∀ {K5 : Int32 → Int32 → Prop} (x1 : Int32) (x2 : Int32) (x4 : Int32) (x5 : Int32) (_ : Unit), wp_X7_next_J106 x1 x2 x4 x5 u post K5 → ∀ ls : Array Slot, lv_has ls 7 [(0, .ref (q 8)), (1, .int x1), (2, .int x2), (4, .int x4), (5, .int x5)] → (∀ (x3 : Int32) (x4 : Int32), K5 x3 x4 → ∀ ls : Array Slot, lv_has ls 7 [(0, .ref (q 8)), (1, .int x1), (2, .int x2), (3, .int x3), (4, .int x4)] → W p l e (headSpec wsX7_next rm_X7_next).room s m args below meth c s.heap [] 0 0 (MQ below (vp_Si post) args s 0 0 (fun _ => False)) (F0 m 5 ls [])) → W p l e (headSpec wsX7_next rm_X7_next).room s m args below meth c s.heap [] 0 0 (MQ below (vp_Si post) args s 0 0 (fun _ => False)) (F0 m 106 ls []) := by
    intro K5 x1 x2 x4 x5 _ hw ls hl k5
    unfold wp_X7_next_J106 at hw
    refine lv_iload hx hb dX7_next_106 (lv_at hl 4 rfl) ?_
    refine lv_istore_n (lv' := [(3, .int x5), (0, .ref (q 8)), (1, .int x1), (2, .int x2), (4, .int x4), (5, .int x5)]) hx hb dX7_next_108 rfl hl (by decide) rfl (fun ls hl => ?_)
    refine J109 x1 x2 x5 x4 () hw ls (lv_sub hl [1, 2, 3, 0, 4] rfl) (fun y24 y25 hw ls hl => ?_)
    exact k5 y24 y25 hw ls (lv_sub hl [0, 1, 2, 3, 4] rfl)
  have J88 : ∀ {K5 : Int32 → Int32 → Prop} (x1 : Int32) (x2 : Int32) (x3 : Int32) (x4 : Int32) (x5 : Int32) (z0 : Int32) (_ : Unit), wp_X7_next_J88 x1 x2 x3 x4 x5 z0 u post K5 → ∀ ls : Array Slot, lv_has ls 7 [(0, .ref (q 8)), (1, .int x1), (2, .int x2), (3, .int x3), (4, .int x4), (5, .int x5)] → (∀ (x3 : Int32) (x4 : Int32), K5 x3 x4 → ∀ ls : Array Slot, lv_has ls 7 [(0, .ref (q 8)), (1, .int x1), (2, .int x2), (3, .int x3), (4, .int x4)] → W p l e (headSpec wsX7_next rm_X7_next).room s m args below meth c s.heap [] 0 0 (MQ below (vp_Si post) args s 0 0 (fun _ => False)) (F0 m 5 ls [])) → W p l e (headSpec wsX7_next rm_X7_next).room s m args below meth c s.heap [] 0 0 (MQ below (vp_Si post) args s 0 0 (fun _ => False)) (F0 m 88 ls [.int z0]) := by
    intro K5 x1 x2 x3 x4 x5 z0 _ hw ls hl k5
    unfold wp_X7_next_J88 at hw
    refine lv_istore (lv' := [(6, .int z0), (0, .ref (q 8)), (1, .int x1), (2, .int x2), (3, .int x3), (4, .int x4), (5, .int x5)]) hx hb dX7_next_88 hl (by decide) rfl (fun ls hl => ?_)
    refine lv_iload hx hb dX7_next_90 (lv_at hl 0 rfl) ?_
    refine lv_if_eq (tgt := 109) hx hb dX7_next_92 (by decide) (fun hc => ?_) (fun hc => ?_)
    · have hw := hw.1 hc
      refine J109 x1 x2 x3 x4 () hw ls (lv_sub hl [1, 2, 3, 4, 5] rfl) (fun y16 y17 hw ls hl => ?_)
      exact k5 y16 y17 hw ls (lv_sub hl [0, 1, 2, 3, 4] rfl)
    · have hw := hw.2 hc
      refine lv_iload_n hx hb dX7_next_95 rfl (lv_at hl 4 rfl) ?_
      refine lv_iconst (v := (-1)) hx hb dX7_next_96 (by decide) ?_
      refine lv_icmp_eq (tgt := 106) hx hb dX7_next_97 (by decide) (fun hc => ?_) (fun hc => ?_)
      · have hw := hw.1 hc
        refine J106 x1 x2 x4 x5 () hw ls (lv_sub hl [1, 2, 3, 5, 6] rfl) (fun y18 y19 hw ls hl => ?_)
        exact k5 y18 y19 hw ls (lv_sub hl [0, 1, 2, 3, 4] rfl)
      · have hw := hw.2 hc
        refine lv_iload hx hb dX7_next_100 (lv_at hl 6 rfl) ?_
        refine lv_iload_n hx hb dX7_next_102 rfl (lv_at hl 4 rfl) ?_
        refine lv_icmp_ge (tgt := 109) hx hb dX7_next_103 (by decide) (fun hc => ?_) (fun hc => ?_)
        · have hw := hw.1 hc
          refine J109 x1 x2 x3 x4 () hw ls (lv_sub hl [1, 2, 3, 4, 5] rfl) (fun y20 y21 hw ls hl => ?_)
          exact k5 y20 y21 hw ls (lv_sub hl [0, 1, 2, 3, 4] rfl)
        · have hw := hw.2 hc
          refine J106 x1 x2 x4 x5 () hw ls (lv_sub hl [1, 2, 3, 5, 6] rfl) (fun y22 y23 hw ls hl => ?_)
          exact k5 y22 y23 hw ls (lv_sub hl [0, 1, 2, 3, 4] rfl)
  have J87 : ∀ {K5 : Int32 → Int32 → Prop} (x1 : Int32) (x2 : Int32) (x3 : Int32) (x4 : Int32) (x5 : Int32) (_ : Unit), wp_X7_next_J87 x1 x2 x3 x4 x5 u post K5 → ∀ ls : Array Slot, lv_has ls 7 [(0, .ref (q 8)), (1, .int x1), (2, .int x2), (3, .int x3), (4, .int x4), (5, .int x5)] → (∀ (x3 : Int32) (x4 : Int32), K5 x3 x4 → ∀ ls : Array Slot, lv_has ls 7 [(0, .ref (q 8)), (1, .int x1), (2, .int x2), (3, .int x3), (4, .int x4)] → W p l e (headSpec wsX7_next rm_X7_next).room s m args below meth c s.heap [] 0 0 (MQ below (vp_Si post) args s 0 0 (fun _ => False)) (F0 m 5 ls [])) → W p l e (headSpec wsX7_next rm_X7_next).room s m args below meth c s.heap [] 0 0 (MQ below (vp_Si post) args s 0 0 (fun _ => False)) (F0 m 87 ls []) := by
    intro K5 x1 x2 x3 x4 x5 _ hw ls hl k5
    unfold wp_X7_next_J87 at hw
    refine lv_iconst (v := 0) hx hb dX7_next_87 (by decide) ?_
    refine J88 x1 x2 x3 x4 x5 0 () hw ls (lv_sub hl [0, 1, 2, 3, 4, 5] rfl) (fun y14 y15 hw ls hl => ?_)
    exact k5 y14 y15 hw ls (lv_sub hl [0, 1, 2, 3, 4] rfl)
  have L5 : ∀ (x1 : Int32) (x2 : Int32) (n : Nat) (x3 : Int32) (x4 : Int32) (_ : Unit), wp_X7_next_L5 x1 x2 u post n x3 x4 → ∀ ls : Array Slot, lv_has ls 7 [(0, .ref (q 8)), (1, .int x1), (2, .int x2), (3, .int x3), (4, .int x4)] → W p l e (headSpec wsX7_next rm_X7_next).room s m args below meth c s.heap [] 0 0 (MQ below (vp_Si post) args s 0 0 (fun _ => False)) (F0 m 5 ls []) := by
    intro x1 x2 n
    induction n with
    | zero =>
      intro x3 x4 _ hw
      exact hw.elim
    | succ n ih =>
      intro x3 x4 _ hw ls hl 
      unfold wp_X7_next_L5 at hw
      refine lv_iload hx hb dX7_next_5 (lv_at hl 4 rfl) ?_
      refine lv_aload_n hx hb dX7_next_7 rfl (lv_at hl 0 rfl) ?_
      refine va_get (D := D) (ci := 7) (v := .ref (q 3)) (C := RX7) (T := TX7) (N := 5) hx hb hts hiX7 hown hK hP 8 rfl rfl 2 (by decide) hf23 (fun _ h9 => h9) rfl dX7_next_8 ?_
      refine va_getN (D := D) (ci := 3) (v := .int (u.1 22 0)) (C := RX3) (T := TX3) (N := 9) hx hb hts hiX3 hown hK hP 3 rfl rfl 3 (by decide) (va_Nw.use rfl (nf_RX7_104 hN)) (fun _ h9 => h9) rfl dX7_next_11 ?_
      refine lv_icmp_ge (tgt := 115) hx hb dX7_next_14 (by decide) (fun hc => ?_) (fun hc => ?_)
      · have hw := hw.1 hc
        refine lv_iload_n hx hb dX7_next_115 rfl (lv_at hl 3 rfl) ?_
        exact W.iret (v := x3) hx hb hr (fun t ht hW => ⟨x3, rfl, hw, ht⟩) (fun _ h => by cases h) dX7_next_116
      · have hw := hw.2 hc
        refine lv_aload_n hx hb dX7_next_17 rfl (lv_at hl 0 rfl) ?_
        refine va_get (D := D) (ci := 7) (v := .ref (q 3)) (C := RX7) (T := TX7) (N := 5) hx hb hts hiX7 hown hK hP 8 rfl rfl 2 (by decide) hf23 (fun _ h9 => h9) rfl dX7_next_18 ?_
        refine va_getN (D := D) (ci := 3) (v := .ref (q 17)) (C := RX3) (T := TX3) (N := 9) hx hb hts hiX3 hown hK hP 3 rfl rfl 1 (by decide) (va_Nw.use rfl (nf_RX7_105 hN)) (fun _ h9 => h9) rfl dX7_next_21 ?_
        refine lv_iload hx hb dX7_next_24 (lv_at hl 4 rfl) ?_
        obtain ⟨hin, hw⟩ := hw
        refine va_iald hx hb hK hP 17 0 rfl rfl hin dX7_next_26 ?_
        refine lv_topi (fun y1 ey1 => ?_)
        have hw := hw y1 ey1
        refine lv_istore (lv' := [(5, .int y1), (0, .ref (q 8)), (1, .int x1), (2, .int x2), (3, .int x3), (4, .int x4)]) hx hb dX7_next_27 hl (by decide) rfl (fun ls hl => ?_)
        refine lv_aload_n hx hb dX7_next_29 rfl (lv_at hl 1 rfl) ?_
        refine va_get (D := D) (ci := 7) (v := .ref (q 3)) (C := RX7) (T := TX7) (N := 5) hx hb hts hiX7 hown hK hP 8 rfl rfl 2 (by decide) hf23 (fun _ h9 => h9) rfl dX7_next_30 ?_
        refine lv_iload hx hb dX7_next_33 (lv_at hl 5 rfl) ?_
        refine vp_callSi (va_Run.run (va_runV (As := [.int x4]) (rest := []) ⟨hx, hb, hml, hown, hts⟩ (c_X3_isThere l D q cI cJ cZ u x4 _ hw) (cwV 1 hts gX7_next_X3_isThere rfl rfl rfl (by decide +kernel) ⟨Nat.le_of_ble_eq_true rfl, Nat.le_of_ble_eq_true rfl⟩) (pvR (va_recv hK hP (ci := 3) (q0 := 3) (q := (RX3, TX3, 9)) rfl rfl) hK hP hN) rfl rfl hl.1 rfl (lv_room (Nat.le_of_ble_eq_true rfl)) dX7_next_35 ⟨Nat.zero_le _, Nat.zero_le _⟩)) (fun r2 hw => ?_)
        refine lv_if_eq (tgt := 87) hx hb dX7_next_38 (by decide) (fun hc => ?_) (fun hc => ?_)
        · have hw := hw.1 hc
          refine J87 x1 x2 x3 x4 y1 () hw ls (lv_sub hl [1, 2, 3, 4, 5, 0] rfl) (fun y3 y4 hw ls hl => ?_)
          exact ih y3 y4 () hw ls (lv_sub hl [0, 1, 2, 3, 4] rfl)
        · have hw := hw.2 hc
          refine lv_aload_n hx hb dX7_next_41 rfl (lv_at hl 1 rfl) ?_
          refine va_get (D := D) (ci := 7) (v := .ref (q 3)) (C := RX7) (T := TX7) (N := 5) hx hb hts hiX7 hown hK hP 8 rfl rfl 2 (by decide) hf23 (fun _ h9 => h9) rfl dX7_next_42 ?_
          refine va_getN (D := D) (ci := 3) (v := .ref (q 16)) (C := RX3) (T := TX3) (N := 9) hx hb hts hiX3 hown hK hP 3 rfl rfl 0 (by decide) (va_Nw.use rfl (nf_RX7_97 hN)) (fun _ h9 => h9) rfl dX7_next_45 ?_
          refine lv_iload hx hb dX7_next_48 (lv_at hl 5 rfl) ?_
          obtain ⟨hin, hw⟩ := hw
          refine va_iald hx hb hK hP 16 0 rfl rfl hin dX7_next_50 ?_
          refine lv_iload_n hx hb dX7_next_51 rfl (lv_at hl 3 rfl) ?_
          refine lv_icmp_ne (tgt := 87) hx hb dX7_next_52 (by decide) (fun hc => ?_) (fun hc => ?_)
          · have hw := hw.1 hc
            refine J87 x1 x2 x3 x4 y1 () hw ls (lv_sub hl [1, 2, 3, 4, 5, 0] rfl) (fun y5 y6 hw ls hl => ?_)
            exact ih y5 y6 () hw ls (lv_sub hl [0, 1, 2, 3, 4] rfl)
          · have hw := hw.2 hc
            refine lv_aload_n hx hb dX7_next_55 rfl (lv_at hl 1 rfl) ?_
            refine lv_iload_n hx hb dX7_next_56 rfl (lv_at hl 2 rfl) ?_
            refine lv_iload hx hb dX7_next_57 (lv_at hl 5 rfl) ?_
            refine vp_callSi (va_Run.run (va_runV (As := [.int x1, .int x4]) (rest := []) ⟨hx, hb, hml, hown, hts⟩ (c_X7_goes l D q cI cJ cZ u x1 x4 _ hw) (cwV 2 hts gX7_next_X7_goes rfl rfl rfl (by decide +kernel) ⟨Nat.le_of_ble_eq_true rfl, Nat.le_of_ble_eq_true rfl⟩) (pvR (va_recv hK hP (ci := 7) (q0 := 8) (q := (RX7, TX7, 5)) rfl rfl) hK hP hN) rfl rfl hl.1 rfl (lv_room (Nat.le_of_ble_eq_true rfl)) dX7_next_59 ⟨Nat.zero_le _, Nat.zero_le _⟩)) (fun r7 hw => ?_)
            refine lv_if_eq (tgt := 87) hx hb dX7_next_62 (by decide) (fun hc => ?_) (fun hc => ?_)
            · have hw := hw.1 hc
              refine J87 x1 x2 x3 x4 y1 () hw ls (lv_sub hl [1, 2, 3, 4, 5, 0] rfl) (fun y8 y9 hw ls hl => ?_)
              exact ih y8 y9 () hw ls (lv_sub hl [0, 1, 2, 3, 4] rfl)
            · have hw := hw.2 hc
              refine lv_aload_n hx hb dX7_next_65 rfl (lv_at hl 1 rfl) ?_
              refine va_get (D := D) (ci := 7) (v := .ref (q 34)) (C := RX7) (T := TX7) (N := 5) hx hb hts hiX7 hown hK hP 8 rfl rfl 4 (by decide) hf9 (fun _ h9 => h9) rfl dX7_next_66 ?_
              refine lv_iload hx hb dX7_next_69 (lv_at hl 0 rfl) ?_
              obtain ⟨hin, hw⟩ := hw
              refine va_iald hx hb hK hP 34 0 rfl rfl hin dX7_next_71 ?_
              refine lv_aload_n hx hb dX7_next_72 rfl (lv_at hl 1 rfl) ?_
              refine va_get (D := D) (ci := 7) (v := .ref (q 34)) (C := RX7) (T := TX7) (N := 5) hx hb hts hiX7 hown hK hP 8 rfl rfl 4 (by decide) hf9 (fun _ h9 => h9) rfl dX7_next_73 ?_
              refine lv_iload_n hx hb dX7_next_76 rfl (lv_at hl 3 rfl) ?_
              obtain ⟨hin, hw⟩ := hw
              refine va_iald hx hb hK hP 34 0 rfl rfl hin dX7_next_77 ?_
              refine lv_iconst (v := 1) hx hb dX7_next_78 (by decide) ?_
              refine lv_isub hx hb dX7_next_79 ?_
              refine lv_icmp_ne (tgt := 87) hx hb dX7_next_80 (by decide) (fun hc => ?_) (fun hc => ?_)
              · have hw := hw.1 hc
                refine J87 x1 x2 x3 x4 y1 () hw ls (lv_sub hl [1, 2, 3, 4, 5, 0] rfl) (fun y10 y11 hw ls hl => ?_)
                exact ih y10 y11 () hw ls (lv_sub hl [0, 1, 2, 3, 4] rfl)
              · have hw := hw.2 hc
                refine lv_iconst (v := 1) hx hb dX7_next_83 (by decide) ?_
                refine lv_goto (tgt := 88) hx hb dX7_next_84 (by decide) ?_
                refine J88 x1 x2 x3 x4 y1 1 () hw ls (lv_sub hl [1, 2, 3, 4, 5, 0] rfl) (fun y12 y13 hw ls hl => ?_)
                exact ih y12 y13 () hw ls (lv_sub hl [0, 1, 2, 3, 4] rfl)
  have hent := lg_entry_eq m ([.ref (q 8), .int x1, .int x2]) 7
  rw [← hargs] at hent
  rw [hent]
  have hl := lv_entry ([.ref (q 8), .int x1, .int x2]) (n := 7) (Nat.le_of_ble_eq_true rfl)
  generalize (lg_sl ([.ref (q 8), .int x1, .int x2]) ++ List.replicate (7 - (lg_sl ([.ref (q 8), .int x1, .int x2])).length) Slot.unset).toArray = ls at hl ⊢
  have hl : lv_has ls 7 [(0, .ref (q 8)), (1, .int x1), (2, .int x2)] := hl
  unfold wp_X7_next at hw
  refine lv_iconst (v := (-1)) hx hb dX7_next_0 (by decide) ?_
  refine lv_istore_n (lv' := [(3, .int (-1)), (0, .ref (q 8)), (1, .int x1), (2, .int x2)]) hx hb dX7_next_1 rfl hl (by decide) rfl (fun ls hl => ?_)
  refine lv_iconst (v := 0) hx hb dX7_next_2 (by decide) ?_
  refine lv_istore (lv' := [(4, .int 0), (3, .int (-1)), (0, .ref (q 8)), (1, .int x1), (2, .int x2)]) hx hb dX7_next_3 hl (by decide) rfl (fun ls hl => ?_)
  obtain ⟨nn, hw⟩ := hw
  refine L5 x1 x2 nn (-1) 0 () hw ls (lv_sub hl [2, 3, 4, 1, 0] rfl)
set_option maxHeartbeats 4000000 in
set_option maxRecDepth 100000 in
theorem c_X7_measureInto (l : Launch) (D : va_G) (q : Nat → Nat) (cI cJ cZ : ClassId) (sz : Nat) (u : WU) (x1 : Int32) (x2 : Int32) (post : WU → Prop) (hw : wp_X7_measureInto x1 x2 u post) : Met l yX7_measureInto wsX7_measureInto rm_X7_measureInto (va_Pc [.ref (q 8), .int x1, .int x2] (MW D (ty3 cI cJ cZ) (wX q cI cJ cZ u) sz)) (va_Qv post (fun u' t => va_P D vwCl (wX q cI cJ cZ u') t.heap) (va_A (wX q cI cJ cZ u00) sz)) 0 0 (va_A (wX q cI cJ cZ u00) sz) := by
  refine Met.ofW (cc := cX7_measureInto) (maxL := 7) (ret := none) (by decide) rfl ?_
  intro p e s m args below meth c s₁ B hml hv
  obtain ⟨hargs, hsz, hP, hK, hD0, hN⟩ := hv
  have hx := B.exec
  have hb := B.bytes
  have hr := B.returns
  have hts := atoms_spec (ws := wsX7_measureInto) B.pre
  have hown : s.vm.findClass RX7 = some m.cls := findClass_of_methodNamed B.named
  have hlocks := B.notSynchronized
  subst hsz
  have hD := shw_self (sz := s.heap.size) (sh_wX q cI cJ cZ) hD0
  have hA : ∀ a : Nat, s.heap.size ≤ a → va_A (wX q cI cJ cZ u00) s.heap.size a := fun _ h => Or.inr h
  have hS : va_S (va_A (wX q cI cJ cZ u00) s.heap.size) s.heap s.heap [] := va_S.rf
  have hiX3 : ∀ w ∈ u_ws RX3 TX3 9, w ∈ wsX7_measureInto := by decide +kernel
  have hiX7 : ∀ w ∈ u_ws RX7 TX7 5, w ∈ wsX7_measureInto := by decide +kernel
  have hf23 := hts (.fieldLink RX7 23 "TermsDesk$Tracer" "joins" "LTermsDesk$Joins;") (by decide +kernel)
  have hf9 := hts (.fieldLink RX7 9 "TermsDesk$Tracer" "steps" "[I") (by decide +kernel)
  have J98 : ∀ {K20 : Int32 → WU → Prop} (x1 : Int32) (x2 : Int32) (x3 : Int32) (x4 : Int32) (u : WU) (H : Heap) (locs : List Loc), wp_X7_measureInto_J98 x1 x2 x3 x4 u post K20 → va_P D vwCl (wX q cI cJ cZ u) H → va_D (va_A (wX q cI cJ cZ u00) s.heap.size) (wX q cI cJ cZ u) → va_S (va_A (wX q cI cJ cZ u00) s.heap.size) s.heap H locs → ∀ ls : Array Slot, lv_has ls 7 [(0, .ref (q 8)), (1, .int x1), (2, .int x2), (3, .int x3), (4, .int x4)] → (∀ (x4 : Int32) (u : WU) (H : Heap) (locs : List Loc), K20 x4 u → va_P D vwCl (wX q cI cJ cZ u) H → va_D (va_A (wX q cI cJ cZ u00) s.heap.size) (wX q cI cJ cZ u) → va_S (va_A (wX q cI cJ cZ u00) s.heap.size) s.heap H locs → ∀ ls : Array Slot, lv_has ls 7 [(0, .ref (q 8)), (1, .int x1), (2, .int x2), (3, .int x3), (4, .int x4)] → W p l e (headSpec wsX7_measureInto rm_X7_measureInto).room s m args below meth c H locs 0 0 (MQ below (va_Qv post (fun u' t => va_P D vwCl (wX q cI cJ cZ u') t.heap) (va_A (wX q cI cJ cZ u00) s.heap.size)) args s 0 0 (va_A (wX q cI cJ cZ u00) s.heap.size)) (F0 m 20 ls [])) → W p l e (headSpec wsX7_measureInto rm_X7_measureInto).room s m args below meth c H locs 0 0 (MQ below (va_Qv post (fun u' t => va_P D vwCl (wX q cI cJ cZ u') t.heap) (va_A (wX q cI cJ cZ u00) s.heap.size)) args s 0 0 (va_A (wX q cI cJ cZ u00) s.heap.size)) (F0 m 98 ls []) := by
    intro K20 x1 x2 x3 x4 u H locs hw hP hD hS ls hl k20
    unfold wp_X7_measureInto_J98 at hw
    obtain ⟨y15, ey15⟩ : ∃ z : Int32, z = x4 + 1 := ⟨_, rfl⟩
    have hw := hw y15 ey15
    refine lv_iinc (v := y15) (lv' := [(4, .int y15), (0, .ref (q 8)), (1, .int x1), (2, .int x2), (3, .int x3)]) hx hb dX7_measureInto_98 hl (k := 4) rfl (by rw [ey15]; rfl) (by decide) rfl (fun ls hl => ?_)
    refine lv_goto (tgt := 20) hx hb dX7_measureInto_101 (by decide) ?_
    exact k20 y15 u _ _ hw hP hD hS ls (lv_sub hl [1, 2, 3, 4, 0] rfl)
  have J90 : ∀ {K20 : Int32 → WU → Prop} (x1 : Int32) (x2 : Int32) (x3 : Int32) (x4 : Int32) (x6 : Int32) (u : WU) (H : Heap) (locs : List Loc), wp_X7_measureInto_J90 x1 x2 x3 x4 x6 u post K20 → va_P D vwCl (wX q cI cJ cZ u) H → va_D (va_A (wX q cI cJ cZ u00) s.heap.size) (wX q cI cJ cZ u) → va_S (va_A (wX q cI cJ cZ u00) s.heap.size) s.heap H locs → ∀ ls : Array Slot, lv_has ls 7 [(0, .ref (q 8)), (1, .int x1), (2, .int x2), (3, .int x3), (4, .int x4), (6, .int x6)] → (∀ (x4 : Int32) (u : WU) (H : Heap) (locs : List Loc), K20 x4 u → va_P D vwCl (wX q cI cJ cZ u) H → va_D (va_A (wX q cI cJ cZ u00) s.heap.size) (wX q cI cJ cZ u) → va_S (va_A (wX q cI cJ cZ u00) s.heap.size) s.heap H locs → ∀ ls : Array Slot, lv_has ls 7 [(0, .ref (q 8)), (1, .int x1), (2, .int x2), (3, .int x3), (4, .int x4)] → W p l e (headSpec wsX7_measureInto rm_X7_measureInto).room s m args below meth c H locs 0 0 (MQ below (va_Qv post (fun u' t => va_P D vwCl (wX q cI cJ cZ u') t.heap) (va_A (wX q cI cJ cZ u00) s.heap.size)) args s 0 0 (va_A (wX q cI cJ cZ u00) s.heap.size)) (F0 m 20 ls [])) → W p l e (headSpec wsX7_measureInto rm_X7_measureInto).room s m args below meth c H locs 0 0 (MQ below (va_Qv post (fun u' t => va_P D vwCl (wX q cI cJ cZ u') t.heap) (va_A (wX q cI cJ cZ u00) s.heap.size)) args s 0 0 (va_A (wX q cI cJ cZ u00) s.heap.size)) (F0 m 90 ls []) := by
    intro K20 x1 x2 x3 x4 x6 u H locs hw hP hD hS ls hl k20
    unfold wp_X7_measureInto_J90 at hw
    refine lv_aload_n hx hb dX7_measureInto_90 rfl (lv_at hl 0 rfl) ?_
    refine va_get (D := D) (ci := 7) (v := .ref (q 34)) (C := RX7) (T := TX7) (N := 5) hx hb hts hiX7 hown hK hP 8 rfl rfl 4 (by decide) hf9 (fun _ h9 => h9) rfl dX7_measureInto_91 ?_
    refine lv_iload hx hb dX7_measureInto_94 (lv_at hl 5 rfl) ?_
    refine lv_iload_n hx hb dX7_measureInto_96 rfl (lv_at hl 3 rfl) ?_
    obtain ⟨hin, hw⟩ := hw
    refine sIast (w := wX q cI cJ cZ) hx hb hK hP hD hS 34 0 19 rfl rfl (wXa_34 q cI cJ cZ u) hin dX7_measureInto_97 (fun u12 H locs eu12 hP hD hS => ?_)
    have hw := hw u12 eu12
    refine J98 x1 x2 x3 x4 u12 _ _ hw hP hD hS ls (lv_sub hl [0, 1, 2, 3, 4] rfl) (fun y13 u14 H locs hw hP hD hS ls hl => ?_)
    exact k20 y13 u14 _ _ hw hP hD hS ls (lv_sub hl [0, 1, 2, 3, 4] rfl)
  have L20 : ∀ (x1 : Int32) (x2 : Int32) (x3 : Int32) (n : Nat) (x4 : Int32) (u : WU) (H : Heap) (locs : List Loc), wp_X7_measureInto_L20 x1 x2 x3 post n x4 u → va_P D vwCl (wX q cI cJ cZ u) H → va_D (va_A (wX q cI cJ cZ u00) s.heap.size) (wX q cI cJ cZ u) → va_S (va_A (wX q cI cJ cZ u00) s.heap.size) s.heap H locs → ∀ ls : Array Slot, lv_has ls 7 [(0, .ref (q 8)), (1, .int x1), (2, .int x2), (3, .int x3), (4, .int x4)] → W p l e (headSpec wsX7_measureInto rm_X7_measureInto).room s m args below meth c H locs 0 0 (MQ below (va_Qv post (fun u' t => va_P D vwCl (wX q cI cJ cZ u') t.heap) (va_A (wX q cI cJ cZ u00) s.heap.size)) args s 0 0 (va_A (wX q cI cJ cZ u00) s.heap.size)) (F0 m 20 ls []) := by
    intro x1 x2 x3 n
    induction n with
    | zero =>
      intro x4 u H locs hw
      exact hw.elim
    | succ n ih =>
      intro x4 u H locs hw hP hD hS ls hl 
      unfold wp_X7_measureInto_L20 at hw
      refine lv_iload hx hb dX7_measureInto_20 (lv_at hl 4 rfl) ?_
      refine lv_aload_n hx hb dX7_measureInto_22 rfl (lv_at hl 0 rfl) ?_
      refine va_get (D := D) (ci := 7) (v := .ref (q 3)) (C := RX7) (T := TX7) (N := 5) hx hb hts hiX7 hown hK hP 8 rfl rfl 2 (by decide) hf23 (fun _ h9 => h9) rfl dX7_measureInto_23 ?_
      refine va_getN (D := D) (ci := 3) (v := .ref (q 22)) (C := RX3) (T := TX3) (N := 9) hx hb hts hiX3 hown hK hP 3 rfl rfl 8 (by decide) (va_Nw.use rfl (nf_RX7_91 hN)) (fun _ h9 => h9) rfl dX7_measureInto_26 ?_
      refine lv_iload_n hx hb dX7_measureInto_29 rfl (lv_at hl 2 rfl) ?_
      obtain ⟨hin, hw⟩ := hw
      refine va_iald hx hb hK hP 22 0 rfl rfl hin dX7_measureInto_30 ?_
      refine lv_icmp_ge (tgt := 104) hx hb dX7_measureInto_31 (by decide) (fun hc => ?_) (fun hc => ?_)
      · have hw := hw.1 hc
        exact W.vret hx hb hr (fun t ht hW => ⟨⟨u, rfl, hw, by show va_P D vwCl _ t.heap; rw [ht]; exact hP⟩, hS.F ht⟩) hS.2.2 dX7_measureInto_104
      · have hw := hw.2 hc
        refine lv_aload_n hx hb dX7_measureInto_34 rfl (lv_at hl 0 rfl) ?_
        refine va_get (D := D) (ci := 7) (v := .ref (q 3)) (C := RX7) (T := TX7) (N := 5) hx hb hts hiX7 hown hK hP 8 rfl rfl 2 (by decide) hf23 (fun _ h9 => h9) rfl dX7_measureInto_35 ?_
        refine va_getN (D := D) (ci := 3) (v := .ref (q 20)) (C := RX3) (T := TX3) (N := 9) hx hb hts hiX3 hown hK hP 3 rfl rfl 6 (by decide) (va_Nw.use rfl (nf_RX7_94 hN)) (fun _ h9 => h9) rfl dX7_measureInto_38 ?_
        refine lv_iload hx hb dX7_measureInto_41 (lv_at hl 4 rfl) ?_
        obtain ⟨hin, hw⟩ := hw
        refine va_iald hx hb hK hP 20 0 rfl rfl hin dX7_measureInto_43 ?_
        refine lv_topi (fun y1 ey1 => ?_)
        have hw := hw y1 ey1
        refine lv_istore (lv' := [(5, .int y1), (0, .ref (q 8)), (1, .int x1), (2, .int x2), (3, .int x3), (4, .int x4)]) hx hb dX7_measureInto_44 hl (by decide) rfl (fun ls hl => ?_)
        refine lv_aload_n hx hb dX7_measureInto_46 rfl (lv_at hl 1 rfl) ?_
        refine va_get (D := D) (ci := 7) (v := .ref (q 3)) (C := RX7) (T := TX7) (N := 5) hx hb hts hiX7 hown hK hP 8 rfl rfl 2 (by decide) hf23 (fun _ h9 => h9) rfl dX7_measureInto_47 ?_
        refine va_getN (D := D) (ci := 3) (v := .ref (q 16)) (C := RX3) (T := TX3) (N := 9) hx hb hts hiX3 hown hK hP 3 rfl rfl 0 (by decide) (va_Nw.use rfl (nf_RX7_97 hN)) (fun _ h9 => h9) rfl dX7_measureInto_50 ?_
        refine lv_iload hx hb dX7_measureInto_53 (lv_at hl 0 rfl) ?_
        obtain ⟨hin, hw⟩ := hw
        refine va_iald hx hb hK hP 16 0 rfl rfl hin dX7_measureInto_55 ?_
        refine lv_topi (fun y2 ey2 => ?_)
        have hw := hw y2 ey2
        refine lv_istore (lv' := [(6, .int y2), (5, .int y1), (0, .ref (q 8)), (1, .int x1), (2, .int x2), (3, .int x3), (4, .int x4)]) hx hb dX7_measureInto_56 hl (by decide) rfl (fun ls hl => ?_)
        refine lv_aload_n hx hb dX7_measureInto_58 rfl (lv_at hl 2 rfl) ?_
        refine lv_iload_n hx hb dX7_measureInto_59 rfl (lv_at hl 3 rfl) ?_
        refine lv_iload hx hb dX7_measureInto_60 (lv_at hl 1 rfl) ?_
        refine vp_callSi (va_Run.run (va_runV (As := [.int x1, .int y1]) (rest := []) ⟨hx, hb, hml, hown, hts⟩ (c_X7_goes l D q cI cJ cZ u x1 y1 _ hw) (cwV 2 hts gX7_measureInto_X7_goes rfl rfl rfl (by decide +kernel) ⟨Nat.le_of_ble_eq_true rfl, Nat.le_of_ble_eq_true rfl⟩) (pvR (va_recv hK hP (ci := 7) (q0 := 8) (q := (RX7, TX7, 5)) rfl rfl) hK hP hN) rfl rfl hl.1 rfl (lv_room (Nat.le_of_ble_eq_true rfl)) dX7_measureInto_62 ⟨Nat.zero_le _, Nat.zero_le _⟩)) (fun r3 hw => ?_)
        refine lv_if_eq (tgt := 98) hx hb dX7_measureInto_65 (by decide) (fun hc => ?_) (fun hc => ?_)
        · have hw := hw.1 hc
          refine J98 x1 x2 x3 x4 u _ _ hw hP hD hS ls (lv_sub hl [2, 3, 4, 5, 6] rfl) (fun y4 u5 H locs hw hP hD hS ls hl => ?_)
          exact ih y4 u5 _ _ hw hP hD hS ls (lv_sub hl [0, 1, 2, 3, 4] rfl)
        · have hw := hw.2 hc
          refine lv_aload_n hx hb dX7_measureInto_68 rfl (lv_at hl 2 rfl) ?_
          refine va_get (D := D) (ci := 7) (v := .ref (q 34)) (C := RX7) (T := TX7) (N := 5) hx hb hts hiX7 hown hK hP 8 rfl rfl 4 (by decide) hf9 (fun _ h9 => h9) rfl dX7_measureInto_69 ?_
          refine lv_iload hx hb dX7_measureInto_72 (lv_at hl 0 rfl) ?_
          obtain ⟨hin, hw⟩ := hw
          refine va_iald hx hb hK hP 34 0 rfl rfl hin dX7_measureInto_74 ?_
          refine lv_iconst (v := (-1)) hx hb dX7_measureInto_75 (by decide) ?_
          refine lv_icmp_eq (tgt := 90) hx hb dX7_measureInto_76 (by decide) (fun hc => ?_) (fun hc => ?_)
          · have hw := hw.1 hc
            refine J90 x1 x2 x3 x4 y2 u _ _ hw hP hD hS ls (lv_sub hl [2, 3, 4, 5, 6, 0] rfl) (fun y6 u7 H locs hw hP hD hS ls hl => ?_)
            exact ih y6 u7 _ _ hw hP hD hS ls (lv_sub hl [0, 1, 2, 3, 4] rfl)
          · have hw := hw.2 hc
            refine lv_aload_n hx hb dX7_measureInto_79 rfl (lv_at hl 2 rfl) ?_
            refine va_get (D := D) (ci := 7) (v := .ref (q 34)) (C := RX7) (T := TX7) (N := 5) hx hb hts hiX7 hown hK hP 8 rfl rfl 4 (by decide) hf9 (fun _ h9 => h9) rfl dX7_measureInto_80 ?_
            refine lv_iload hx hb dX7_measureInto_83 (lv_at hl 0 rfl) ?_
            obtain ⟨hin, hw⟩ := hw
            refine va_iald hx hb hK hP 34 0 rfl rfl hin dX7_measureInto_85 ?_
            refine lv_iload_n hx hb dX7_measureInto_86 rfl (lv_at hl 5 rfl) ?_
            refine lv_icmp_le (tgt := 98) hx hb dX7_measureInto_87 (by decide) (fun hc => ?_) (fun hc => ?_)
            · have hw := hw.1 hc
              refine J98 x1 x2 x3 x4 u _ _ hw hP hD hS ls (lv_sub hl [2, 3, 4, 5, 6] rfl) (fun y8 u9 H locs hw hP hD hS ls hl => ?_)
              exact ih y8 u9 _ _ hw hP hD hS ls (lv_sub hl [0, 1, 2, 3, 4] rfl)
            · have hw := hw.2 hc
              refine J90 x1 x2 x3 x4 y2 u _ _ hw hP hD hS ls (lv_sub hl [2, 3, 4, 5, 6, 0] rfl) (fun y10 u11 H locs hw hP hD hS ls hl => ?_)
              exact ih y10 u11 _ _ hw hP hD hS ls (lv_sub hl [0, 1, 2, 3, 4] rfl)
  have hent := lg_entry_eq m ([.ref (q 8), .int x1, .int x2]) 7
  rw [← hargs] at hent
  rw [hent]
  have hl := lv_entry ([.ref (q 8), .int x1, .int x2]) (n := 7) (Nat.le_of_ble_eq_true rfl)
  generalize (lg_sl ([.ref (q 8), .int x1, .int x2]) ++ List.replicate (7 - (lg_sl ([.ref (q 8), .int x1, .int x2])).length) Slot.unset).toArray = ls at hl ⊢
  have hl : lv_has ls 7 [(0, .ref (q 8)), (1, .int x1), (2, .int x2)] := hl
  unfold wp_X7_measureInto at hw
  refine lv_aload_n hx hb dX7_measureInto_0 rfl (lv_at hl 0 rfl) ?_
  refine va_get (D := D) (ci := 7) (v := .ref (q 34)) (C := RX7) (T := TX7) (N := 5) hx hb hts hiX7 hown hK hP 8 rfl rfl 4 (by decide) hf9 (fun _ h9 => h9) rfl dX7_measureInto_1 ?_
  refine lv_iload_n hx hb dX7_measureInto_4 rfl (lv_at hl 2 rfl) ?_
  obtain ⟨hin, hw⟩ := hw
  refine va_iald hx hb hK hP 34 0 rfl rfl hin dX7_measureInto_5 ?_
  refine lv_iconst (v := 1) hx hb dX7_measureInto_6 (by decide) ?_
  refine lv_iadd hx hb dX7_measureInto_7 ?_
  refine lv_topi (fun y16 ey16 => ?_)
  have hw := hw y16 ey16
  refine lv_istore_n (lv' := [(3, .int y16), (0, .ref (q 8)), (1, .int x1), (2, .int x2)]) hx hb dX7_measureInto_8 rfl hl (by decide) rfl (fun ls hl => ?_)
  refine lv_aload_n hx hb dX7_measureInto_9 rfl (lv_at hl 1 rfl) ?_
  refine va_get (D := D) (ci := 7) (v := .ref (q 3)) (C := RX7) (T := TX7) (N := 5) hx hb hts hiX7 hown hK hP 8 rfl rfl 2 (by decide) hf23 (fun _ h9 => h9) rfl dX7_measureInto_10 ?_
  refine va_getN (D := D) (ci := 3) (v := .ref (q 21)) (C := RX3) (T := TX3) (N := 9) hx hb hts hiX3 hown hK hP 3 rfl rfl 7 (by decide) (va_Nw.use rfl (nf_RX7_88 hN)) (fun _ h9 => h9) rfl dX7_measureInto_13 ?_
  refine lv_iload_n hx hb dX7_measureInto_16 rfl (lv_at hl 3 rfl) ?_
  obtain ⟨hin, hw⟩ := hw
  refine va_iald hx hb hK hP 21 0 rfl rfl hin dX7_measureInto_17 ?_
  refine lv_topi (fun y17 ey17 => ?_)
  have hw := hw y17 ey17
  refine lv_istore (lv' := [(4, .int y17), (3, .int y16), (0, .ref (q 8)), (1, .int x1), (2, .int x2)]) hx hb dX7_measureInto_18 hl (by decide) rfl (fun ls hl => ?_)
  obtain ⟨nn, hw⟩ := hw
  refine L20 x1 x2 y16 nn y17 u _ _ hw hP hD hS ls (lv_sub hl [2, 3, 4, 1, 0] rfl)
set_option maxHeartbeats 4000000 in
set_option maxRecDepth 100000 in
theorem c_X7_measure (l : Launch) (D : va_G) (q : Nat → Nat) (cI cJ cZ : ClassId) (sz : Nat) (u : WU) (x1 : Int32) (x2 : Int32) (post : WU → Prop) (hw : wp_X7_measure x1 x2 u post) : Met l yX7_measure wsX7_measure rm_X7_measure (va_Pc [.ref (q 8), .int x1, .int x2] (MW D (ty3 cI cJ cZ) (wX q cI cJ cZ u) sz)) (va_Qv post (fun u' t => va_P D vwCl (wX q cI cJ cZ u') t.heap) (va_A (wX q cI cJ cZ u00) sz)) 0 0 (va_A (wX q cI cJ cZ u00) sz) := by
  refine Met.ofW (cc := cX7_measure) (maxL := 5) (ret := none) (by decide) rfl ?_
  intro p e s m args below meth c s₁ B hml hv
  obtain ⟨hargs, hsz, hP, hK, hD0, hN⟩ := hv
  have hx := B.exec
  have hb := B.bytes
  have hr := B.returns
  have hts := atoms_spec (ws := wsX7_measure) B.pre
  have hown : s.vm.findClass RX7 = some m.cls := findClass_of_methodNamed B.named
  have hlocks := B.notSynchronized
  subst hsz
  have hD := shw_self (sz := s.heap.size) (sh_wX q cI cJ cZ) hD0
  have hA : ∀ a : Nat, s.heap.size ≤ a → va_A (wX q cI cJ cZ u00) s.heap.size a := fun _ h => Or.inr h
  have hS : va_S (va_A (wX q cI cJ cZ u00) s.heap.size) s.heap s.heap [] := va_S.rf
  have hiX3 : ∀ w ∈ u_ws RX3 TX3 9, w ∈ wsX7_measure := by decide +kernel
  have hiX7 : ∀ w ∈ u_ws RX7 TX7 5, w ∈ wsX7_measure := by decide +kernel
  have hf23 := hts (.fieldLink RX7 23 "TermsDesk$Tracer" "joins" "LTermsDesk$Joins;") (by decide +kernel)
  have hf9 := hts (.fieldLink RX7 9 "TermsDesk$Tracer" "steps" "[I") (by decide +kernel)
  have L2 : ∀ {K21 : WU → Prop} (x1 : Int32) (x2 : Int32) (n : Nat) (x3 : Int32) (u : WU) (H : Heap) (locs : List Loc), wp_X7_measure_L2 x1 x2 post K21 n x3 u → va_P D vwCl (wX q cI cJ cZ u) H → va_D (va_A (wX q cI cJ cZ u00) s.heap.size) (wX q cI cJ cZ u) → va_S (va_A (wX q cI cJ cZ u00) s.heap.size) s.heap H locs → ∀ ls : Array Slot, lv_has ls 5 [(0, .ref (q 8)), (1, .int x1), (2, .int x2), (3, .int x3)] → (∀ (u : WU) (H : Heap) (locs : List Loc), K21 u → va_P D vwCl (wX q cI cJ cZ u) H → va_D (va_A (wX q cI cJ cZ u00) s.heap.size) (wX q cI cJ cZ u) → va_S (va_A (wX q cI cJ cZ u00) s.heap.size) s.heap H locs → ∀ ls : Array Slot, lv_has ls 5 [(0, .ref (q 8)), (1, .int x1), (2, .int x2)] → W p l e (headSpec wsX7_measure rm_X7_measure).room s m args below meth c H locs 0 0 (MQ below (va_Qv post (fun u' t => va_P D vwCl (wX q cI cJ cZ u') t.heap) (va_A (wX q cI cJ cZ u00) s.heap.size)) args s 0 0 (va_A (wX q cI cJ cZ u00) s.heap.size)) (F0 m 21 ls [])) → W p l e (headSpec wsX7_measure rm_X7_measure).room s m args below meth c H locs 0 0 (MQ below (va_Qv post (fun u' t => va_P D vwCl (wX q cI cJ cZ u') t.heap) (va_A (wX q cI cJ cZ u00) s.heap.size)) args s 0 0 (va_A (wX q cI cJ cZ u00) s.heap.size)) (F0 m 2 ls []) := by
    intro K21 x1 x2 n
    induction n with
    | zero =>
      intro x3 u H locs hw
      exact hw.elim
    | succ n ih =>
      intro x3 u H locs hw hP hD hS ls hl k21
      unfold wp_X7_measure_L2 at hw
      refine lv_iload_n hx hb dX7_measure_2 rfl (lv_at hl 3 rfl) ?_
      refine lv_bipush (v := 24) hx hb dX7_measure_3 (by decide) ?_
      refine lv_icmp_ge (tgt := 21) hx hb dX7_measure_5 (by decide) (fun hc => ?_) (fun hc => ?_)
      · have hw := hw.1 hc
        exact k21 u _ _ hw hP hD hS ls (lv_sub hl [0, 1, 2] rfl)
      · have hw := hw.2 hc
        refine lv_aload_n hx hb dX7_measure_8 rfl (lv_at hl 0 rfl) ?_
        refine va_get (D := D) (ci := 7) (v := .ref (q 34)) (C := RX7) (T := TX7) (N := 5) hx hb hts hiX7 hown hK hP 8 rfl rfl 4 (by decide) hf9 (fun _ h9 => h9) rfl dX7_measure_9 ?_
        refine lv_iload_n hx hb dX7_measure_12 rfl (lv_at hl 3 rfl) ?_
        refine lv_iconst (v := (-1)) hx hb dX7_measure_13 (by decide) ?_
        obtain ⟨hin, hw⟩ := hw
        refine sIast (w := wX q cI cJ cZ) hx hb hK hP hD hS 34 0 19 rfl rfl (wXa_34 q cI cJ cZ u) hin dX7_measure_14 (fun u1 H locs eu1 hP hD hS => ?_)
        have hw := hw u1 eu1
        obtain ⟨y2, ey2⟩ : ∃ z : Int32, z = x3 + 1 := ⟨_, rfl⟩
        have hw := hw y2 ey2
        refine lv_iinc (v := y2) (lv' := [(3, .int y2), (0, .ref (q 8)), (1, .int x1), (2, .int x2)]) hx hb dX7_measure_15 hl (k := 3) rfl (by rw [ey2]; rfl) (by decide) rfl (fun ls hl => ?_)
        refine lv_goto (tgt := 2) hx hb dX7_measure_18 (by decide) ?_
        exact ih y2 u1 _ _ hw hP hD hS ls (lv_sub hl [1, 2, 3, 0] rfl) k21
  have J64 : ∀ {K31 : Int32 → WU → Prop} (x1 : Int32) (x3 : Int32) (u : WU) (H : Heap) (locs : List Loc), wp_X7_measure_J64 x1 x3 u post K31 → va_P D vwCl (wX q cI cJ cZ u) H → va_D (va_A (wX q cI cJ cZ u00) s.heap.size) (wX q cI cJ cZ u) → va_S (va_A (wX q cI cJ cZ u00) s.heap.size) s.heap H locs → ∀ ls : Array Slot, lv_has ls 5 [(0, .ref (q 8)), (1, .int x1), (3, .int x3)] → (∀ (x3 : Int32) (u : WU) (H : Heap) (locs : List Loc), K31 x3 u → va_P D vwCl (wX q cI cJ cZ u) H → va_D (va_A (wX q cI cJ cZ u00) s.heap.size) (wX q cI cJ cZ u) → va_S (va_A (wX q cI cJ cZ u00) s.heap.size) s.heap H locs → ∀ ls : Array Slot, lv_has ls 5 [(0, .ref (q 8)), (1, .int x1), (3, .int x3)] → W p l e (headSpec wsX7_measure rm_X7_measure).room s m args below meth c H locs 0 0 (MQ below (va_Qv post (fun u' t => va_P D vwCl (wX q cI cJ cZ u') t.heap) (va_A (wX q cI cJ cZ u00) s.heap.size)) args s 0 0 (va_A (wX q cI cJ cZ u00) s.heap.size)) (F0 m 31 ls [])) → W p l e (headSpec wsX7_measure rm_X7_measure).room s m args below meth c H locs 0 0 (MQ below (va_Qv post (fun u' t => va_P D vwCl (wX q cI cJ cZ u') t.heap) (va_A (wX q cI cJ cZ u00) s.heap.size)) args s 0 0 (va_A (wX q cI cJ cZ u00) s.heap.size)) (F0 m 64 ls []) := by
    intro K31 x1 x3 u H locs hw hP hD hS ls hl k31
    unfold wp_X7_measure_J64 at hw
    obtain ⟨y9, ey9⟩ : ∃ z : Int32, z = x3 + (-1) := ⟨_, rfl⟩
    have hw := hw y9 ey9
    refine lv_iinc (v := y9) (lv' := [(3, .int y9), (0, .ref (q 8)), (1, .int x1)]) hx hb dX7_measure_64 hl (k := 2) rfl (by rw [ey9]; rfl) (by decide) rfl (fun ls hl => ?_)
    refine lv_goto (tgt := 31) hx hb dX7_measure_67 (by decide) ?_
    exact k31 y9 u _ _ hw hP hD hS ls (lv_sub hl [1, 2, 0] rfl)
  have L31 : ∀ (x1 : Int32) (n : Nat) (x3 : Int32) (u : WU) (H : Heap) (locs : List Loc), wp_X7_measure_L31 x1 post n x3 u → va_P D vwCl (wX q cI cJ cZ u) H → va_D (va_A (wX q cI cJ cZ u00) s.heap.size) (wX q cI cJ cZ u) → va_S (va_A (wX q cI cJ cZ u00) s.heap.size) s.heap H locs → ∀ ls : Array Slot, lv_has ls 5 [(0, .ref (q 8)), (1, .int x1), (3, .int x3)] → W p l e (headSpec wsX7_measure rm_X7_measure).room s m args below meth c H locs 0 0 (MQ below (va_Qv post (fun u' t => va_P D vwCl (wX q cI cJ cZ u') t.heap) (va_A (wX q cI cJ cZ u00) s.heap.size)) args s 0 0 (va_A (wX q cI cJ cZ u00) s.heap.size)) (F0 m 31 ls []) := by
    intro x1 n
    induction n with
    | zero =>
      intro x3 u H locs hw
      exact hw.elim
    | succ n ih =>
      intro x3 u H locs hw hP hD hS ls hl 
      unfold wp_X7_measure_L31 at hw
      refine lv_iload_n hx hb dX7_measure_31 rfl (lv_at hl 2 rfl) ?_
      refine lv_if_lt (tgt := 70) hx hb dX7_measure_32 (by decide) (fun hc => ?_) (fun hc => ?_)
      · have hw := hw.1 hc
        exact W.vret hx hb hr (fun t ht hW => ⟨⟨u, rfl, hw, by show va_P D vwCl _ t.heap; rw [ht]; exact hP⟩, hS.F ht⟩) hS.2.2 dX7_measure_70
      · have hw := hw.2 hc
        refine lv_aload_n hx hb dX7_measure_35 rfl (lv_at hl 0 rfl) ?_
        refine va_get (D := D) (ci := 7) (v := .ref (q 3)) (C := RX7) (T := TX7) (N := 5) hx hb hts hiX7 hown hK hP 8 rfl rfl 2 (by decide) hf23 (fun _ h9 => h9) rfl dX7_measure_36 ?_
        refine va_getN (D := D) (ci := 3) (v := .ref (q 19)) (C := RX3) (T := TX3) (N := 9) hx hb hts hiX3 hown hK hP 3 rfl rfl 5 (by decide) (va_Nw.use rfl (nf_RX7_82 hN)) (fun _ h9 => h9) rfl dX7_measure_39 ?_
        refine lv_iload_n hx hb dX7_measure_42 rfl (lv_at hl 2 rfl) ?_
        obtain ⟨hin, hw⟩ := hw
        refine va_iald hx hb hK hP 19 0 rfl rfl hin dX7_measure_43 ?_
        refine lv_topi (fun y3 ey3 => ?_)
        have hw := hw y3 ey3
        refine lv_istore (lv' := [(4, .int y3), (0, .ref (q 8)), (1, .int x1), (3, .int x3)]) hx hb dX7_measure_44 hl (by decide) rfl (fun ls hl => ?_)
        refine lv_aload_n hx hb dX7_measure_46 rfl (lv_at hl 1 rfl) ?_
        refine va_get (D := D) (ci := 7) (v := .ref (q 34)) (C := RX7) (T := TX7) (N := 5) hx hb hts hiX7 hown hK hP 8 rfl rfl 4 (by decide) hf9 (fun _ h9 => h9) rfl dX7_measure_47 ?_
        refine lv_iload hx hb dX7_measure_50 (lv_at hl 0 rfl) ?_
        obtain ⟨hin, hw⟩ := hw
        refine va_iald hx hb hK hP 34 0 rfl rfl hin dX7_measure_52 ?_
        refine lv_iconst (v := (-1)) hx hb dX7_measure_53 (by decide) ?_
        refine lv_icmp_eq (tgt := 64) hx hb dX7_measure_54 (by decide) (fun hc => ?_) (fun hc => ?_)
        · have hw := hw.1 hc
          refine J64 x1 x3 u _ _ hw hP hD hS ls (lv_sub hl [1, 2, 3] rfl) (fun y4 u5 H locs hw hP hD hS ls hl => ?_)
          exact ih y4 u5 _ _ hw hP hD hS ls (lv_sub hl [0, 1, 2] rfl)
        · have hw := hw.2 hc
          refine lv_aload_n hx hb dX7_measure_57 rfl (lv_at hl 1 rfl) ?_
          refine lv_iload_n hx hb dX7_measure_58 rfl (lv_at hl 2 rfl) ?_
          refine lv_iload hx hb dX7_measure_59 (lv_at hl 0 rfl) ?_
          refine cMv (sh_wX q cI cJ cZ) (u := u) (va_runV (As := [.int x1, .int y3]) (rest := []) ⟨hx, hb, hml, hown, hts⟩ (c_X7_measureInto l D q cI cJ cZ _ u x1 y3 _ hw) (cwV 2 hts gX7_measure_X7_measureInto rfl rfl rfl (by decide +kernel) ⟨Nat.le_of_ble_eq_true rfl, Nat.le_of_ble_eq_true rfl⟩) (pvM (va_recv hK hP (ci := 7) (q0 := 8) (q := (RX7, TX7, 5)) rfl rfl) hK hP hD hN) rfl rfl hl.1 rfl (lv_room (Nat.le_of_ble_eq_true rfl)) dX7_measure_61 ⟨Nat.zero_le _, Nat.zero_le _⟩) hA hD hS (fun u6 H locs hw hP hD hS => ?_)
          refine J64 x1 x3 u6 _ _ hw hP hD hS ls (lv_sub hl [1, 2, 3] rfl) (fun y7 u8 H locs hw hP hD hS ls hl => ?_)
          exact ih y7 u8 _ _ hw hP hD hS ls (lv_sub hl [0, 1, 2] rfl)
  have hent := lg_entry_eq m ([.ref (q 8), .int x1, .int x2]) 5
  rw [← hargs] at hent
  rw [hent]
  have hl := lv_entry ([.ref (q 8), .int x1, .int x2]) (n := 5) (Nat.le_of_ble_eq_true rfl)
  generalize (lg_sl ([.ref (q 8), .int x1, .int x2]) ++ List.replicate (5 - (lg_sl ([.ref (q 8), .int x1, .int x2])).length) Slot.unset).toArray = ls at hl ⊢
  have hl : lv_has ls 5 [(0, .ref (q 8)), (1, .int x1), (2, .int x2)] := hl
  unfold wp_X7_measure at hw
  refine lv_iconst (v := 0) hx hb dX7_measure_0 (by decide) ?_
  refine lv_istore_n (lv' := [(3, .int 0), (0, .ref (q 8)), (1, .int x1), (2, .int x2)]) hx hb dX7_measure_1 rfl hl (by decide) rfl (fun ls hl => ?_)
  obtain ⟨nn, hw⟩ := hw
  refine L2 x1 x2 nn 0 u _ _ hw hP hD hS ls (lv_sub hl [1, 2, 3, 0] rfl) (fun  u10 H locs hw hP hD hS ls hl => ?_)
  refine lv_aload_n hx hb dX7_measure_21 rfl (lv_at hl 0 rfl) ?_
  refine va_get (D := D) (ci := 7) (v := .ref (q 34)) (C := RX7) (T := TX7) (N := 5) hx hb hts hiX7 hown hK hP 8 rfl rfl 4 (by decide) hf9 (fun _ h9 => h9) rfl dX7_measure_22 ?_
  refine lv_iload_n hx hb dX7_measure_25 rfl (lv_at hl 2 rfl) ?_
  refine lv_iconst (v := 0) hx hb dX7_measure_26 (by decide) ?_
  obtain ⟨hin, hw⟩ := hw
  refine sIast (w := wX q cI cJ cZ) hx hb hK hP hD hS 34 0 19 rfl rfl (wXa_34 q cI cJ cZ u10) hin dX7_measure_27 (fun u11 H locs eu11 hP hD hS => ?_)
  have hw := hw u11 eu11
  refine lv_bipush (v := 23) hx hb dX7_measure_28 (by decide) ?_
  refine lv_istore_n (lv' := [(3, .int 23), (0, .ref (q 8)), (1, .int x1), (2, .int x2)]) hx hb dX7_measure_30 rfl hl (by decide) rfl (fun ls hl => ?_)
  obtain ⟨nn, hw⟩ := hw
  refine L31 x1 nn 23 u11 _ _ hw hP hD hS ls (lv_sub hl [1, 2, 0] rfl)
set_option maxHeartbeats 4000000 in
set_option maxRecDepth 100000 in
theorem c_X7_brings (l : Launch) (D : va_G) (q : Nat → Nat) (cI cJ cZ : ClassId) (u : WU) (x1 : Int32) (x2 : Int32) (x3 : Int32) (post : Int32 → Prop) (hw : wp_X7_brings x1 x2 x3 u post) : Met l yX7_brings wsX7_brings rm_X7_brings (va_Pc [.ref (q 8), .int x1, .int x2, .int x3] (RW D (ty3 cI cJ cZ) (wX q cI cJ cZ u))) (vp_Si post) 0 0 (fun _ => False) := by
  refine Met.ofW (cc := cX7_brings) (maxL := 4) (ret := (some .boolean)) (by decide) rfl ?_
  intro p e s m args below meth c s₁ B hml hv
  obtain ⟨hargs, hP, hK, hN⟩ := hv
  have hx := B.exec
  have hb := B.bytes
  have hr := B.returns
  have hts := atoms_spec (ws := wsX7_brings) B.pre
  have hown : s.vm.findClass RX7 = some m.cls := findClass_of_methodNamed B.named
  have hlocks := B.notSynchronized
  have hiX5 : ∀ w ∈ u_ws RX5 TX5 6, w ∈ wsX7_brings := by decide +kernel
  have hiX7 : ∀ w ∈ u_ws RX7 TX7 5, w ∈ wsX7_brings := by decide +kernel
  have hf19 := hts (.fieldLink RX7 19 "TermsDesk$Tracer" "parts" "LTermsDesk$Parts;") (by decide +kernel)
  have hf27 := hts (.fieldLink RX7 27 "TermsDesk$Tracer" "flow" "LTermsDesk$Flow;") (by decide +kernel)
  have hi_RX8 := hts (.initialized RX8) (by decide +kernel)
  have hs_X8_holds := hts (.static yX8_holds) (by decide +kernel)
  have hent := lg_entry_eq m ([.ref (q 8), .int x1, .int x2, .int x3]) 4
  rw [← hargs] at hent
  rw [hent]
  have hl := lv_entry ([.ref (q 8), .int x1, .int x2, .int x3]) (n := 4) (Nat.le_of_ble_eq_true rfl)
  generalize (lg_sl ([.ref (q 8), .int x1, .int x2, .int x3]) ++ List.replicate (4 - (lg_sl ([.ref (q 8), .int x1, .int x2, .int x3])).length) Slot.unset).toArray = ls at hl ⊢
  have hl : lv_has ls 4 [(0, .ref (q 8)), (1, .int x1), (2, .int x2), (3, .int x3)] := hl
  unfold wp_X7_brings at hw
  refine lv_aload_n hx hb dX7_brings_0 rfl (lv_at hl 0 rfl) ?_
  refine va_get (D := D) (ci := 7) (v := .ref (q 5)) (C := RX7) (T := TX7) (N := 5) hx hb hts hiX7 hown hK hP 8 rfl rfl 3 (by decide) hf27 (fun _ h9 => h9) rfl dX7_brings_1 ?_
  refine lv_iload_n hx hb dX7_brings_4 rfl (lv_at hl 1 rfl) ?_
  refine lv_iload_n hx hb dX7_brings_5 rfl (lv_at hl 2 rfl) ?_
  refine lv_aload_n hx hb dX7_brings_6 rfl (lv_at hl 0 rfl) ?_
  refine va_get (D := D) (ci := 7) (v := .ref (q 2)) (C := RX7) (T := TX7) (N := 5) hx hb hts hiX7 hown hK hP 8 rfl rfl 1 (by decide) hf19 (fun _ h9 => h9) rfl dX7_brings_7 ?_
  refine va_getN (D := D) (ci := 5) (v := .ref (q 14)) (C := RX5) (T := TX5) (N := 6) hx hb hts hiX5 hown hK hP 2 rfl rfl 2 (by decide) (va_Nw.use rfl (nf_RX7_58 hN)) (fun _ h9 => h9) rfl dX7_brings_10 ?_
  refine lv_iload_n hx hb dX7_brings_13 rfl (lv_at hl 2 rfl) ?_
  obtain ⟨hin, hw⟩ := hw
  refine va_iald hx hb hK hP 14 0 rfl rfl hin dX7_brings_14 ?_
  refine vp_callSl (va_Run.run (va_runV (As := [.int x1, .int x2, .int (u.1 2 x2.toNatClampNeg)]) (rest := []) ⟨hx, hb, hml, hown, hts⟩ (c_X2_brought l D q cI cJ cZ u x1 x2 (u.1 2 x2.toNatClampNeg) _ hw) (cwV 3 hts gX7_brings_X2_brought rfl rfl rfl (by decide +kernel) ⟨Nat.le_of_ble_eq_true rfl, Nat.le_of_ble_eq_true rfl⟩) (pvR (va_recv hK hP (ci := 2) (q0 := 5) (q := (RX2, TX2, 5)) rfl rfl) hK hP hN) rfl rfl hl.1 rfl (lv_room (Nat.le_of_ble_eq_true rfl)) dX7_brings_15 ⟨Nat.zero_le _, Nat.zero_le _⟩)) (fun r1 hw => ?_)
  refine lv_iload_n hx hb dX7_brings_18 rfl (lv_at hl 3 rfl) ?_
  refine vp_callSi (va_Run.run (va_runSN (As := [.long r1, .int x3]) (rest := []) ⟨hx, hb, hml, hown, hts⟩ (c_X8_holds l r1 x3 _ hw) ⟨va_cnB 2 hts ggX7_brings_X8_holds rfl rfl rfl (nm_RX7_67 hN) hi_RX8 (by decide +kernel) ⟨Nat.le_of_ble_eq_true rfl, Nat.le_of_ble_eq_true rfl⟩, hs_X8_holds, trivial⟩ (psS hN) rfl rfl hl.1 rfl (lv_room (Nat.le_of_ble_eq_true rfl)) dX7_brings_19 ⟨Nat.zero_le _, Nat.zero_le _⟩)) (fun r2 hw => ?_)
  obtain ⟨hn, hw⟩ := hw
  exact W.zret (v := r2) hx hb hr hn (fun t ht hW => ⟨r2, rfl, hw, ht⟩) (fun _ h => by cases h) dX7_brings_22
set_option maxHeartbeats 4000000 in
set_option maxRecDepth 100000 in
theorem c_X7_source (l : Launch) (D : va_G) (q : Nat → Nat) (cI cJ cZ : ClassId) (u : WU) (x1 : Int32) (x2 : Int32) (post : Int32 → Prop) (hw : wp_X7_source x1 x2 u post) : Met l yX7_source wsX7_source rm_X7_source (va_Pc [.ref (q 8), .int x1, .int x2] (RW D (ty3 cI cJ cZ) (wX q cI cJ cZ u))) (vp_Si post) 0 0 (fun _ => False) := by
  refine Met.ofW (cc := cX7_source) (maxL := 6) (ret := (some .int)) (by decide) rfl ?_
  intro p e s m args below meth c s₁ B hml hv
  obtain ⟨hargs, hP, hK, hN⟩ := hv
  have hx := B.exec
  have hb := B.bytes
  have hr := B.returns
  have hts := atoms_spec (ws := wsX7_source) B.pre
  have hown : s.vm.findClass RX7 = some m.cls := findClass_of_methodNamed B.named
  have hlocks := B.notSynchronized
  have hiX5 : ∀ w ∈ u_ws RX5 TX5 6, w ∈ wsX7_source := by decide +kernel
  have hiX7 : ∀ w ∈ u_ws RX7 TX7 5, w ∈ wsX7_source := by decide +kernel
  have hf19 := hts (.fieldLink RX7 19 "TermsDesk$Tracer" "parts" "LTermsDesk$Parts;") (by decide +kernel)
  have hf9 := hts (.fieldLink RX7 9 "TermsDesk$Tracer" "steps" "[I") (by decide +kernel)
  have J75 : ∀ {K5 : Int32 → Int32 → Prop} (x1 : Int32) (x2 : Int32) (x3 : Int32) (x4 : Int32) (_ : Unit), wp_X7_source_J75 x1 x2 x3 x4 u post K5 → ∀ ls : Array Slot, lv_has ls 6 [(0, .ref (q 8)), (1, .int x1), (2, .int x2), (3, .int x3), (4, .int x4)] → (∀ (x3 : Int32) (x4 : Int32), K5 x3 x4 → ∀ ls : Array Slot, lv_has ls 6 [(0, .ref (q 8)), (1, .int x1), (2, .int x2), (3, .int x3), (4, .int x4)] → W p l e (headSpec wsX7_source rm_X7_source).room s m args below meth c s.heap [] 0 0 (MQ below (vp_Si post) args s 0 0 (fun _ => False)) (F0 m 5 ls [])) → W p l e (headSpec wsX7_source rm_X7_source).room s m args below meth c s.heap [] 0 0 (MQ below (vp_Si post) args s 0 0 (fun _ => False)) (F0 m 75 ls []) := by
    intro K5 x1 x2 x3 x4 _ hw ls hl k5
    unfold wp_X7_source_J75 at hw
    obtain ⟨y20, ey20⟩ : ∃ z : Int32, z = x4 + 1 := ⟨_, rfl⟩
    have hw := hw y20 ey20
    refine lv_iinc (v := y20) (lv' := [(4, .int y20), (0, .ref (q 8)), (1, .int x1), (2, .int x2), (3, .int x3)]) hx hb dX7_source_75 hl (k := 4) rfl (by rw [ey20]; rfl) (by decide) rfl (fun ls hl => ?_)
    refine lv_goto (tgt := 5) hx hb dX7_source_78 (by decide) ?_
    exact k5 x3 y20 hw ls (lv_sub hl [1, 2, 3, 4, 0] rfl)
  have J54 : ∀ {K5 : Int32 → Int32 → Prop} (x1 : Int32) (x2 : Int32) (x3 : Int32) (x4 : Int32) (z0 : Int32) (_ : Unit), wp_X7_source_J54 x1 x2 x3 x4 z0 u post K5 → ∀ ls : Array Slot, lv_has ls 6 [(0, .ref (q 8)), (1, .int x1), (2, .int x2), (3, .int x3), (4, .int x4)] → (∀ (x3 : Int32) (x4 : Int32), K5 x3 x4 → ∀ ls : Array Slot, lv_has ls 6 [(0, .ref (q 8)), (1, .int x1), (2, .int x2), (3, .int x3), (4, .int x4)] → W p l e (headSpec wsX7_source rm_X7_source).room s m args below meth c s.heap [] 0 0 (MQ below (vp_Si post) args s 0 0 (fun _ => False)) (F0 m 5 ls [])) → W p l e (headSpec wsX7_source rm_X7_source).room s m args below meth c s.heap [] 0 0 (MQ below (vp_Si post) args s 0 0 (fun _ => False)) (F0 m 54 ls [.int z0]) := by
    intro K5 x1 x2 x3 x4 z0 _ hw ls hl k5
    unfold wp_X7_source_J54 at hw
    refine lv_istore (lv' := [(5, .int z0), (0, .ref (q 8)), (1, .int x1), (2, .int x2), (3, .int x3), (4, .int x4)]) hx hb dX7_source_54 hl (by decide) rfl (fun ls hl => ?_)
    refine lv_iload hx hb dX7_source_56 (lv_at hl 0 rfl) ?_
    refine lv_if_eq (tgt := 75) hx hb dX7_source_58 (by decide) (fun hc => ?_) (fun hc => ?_)
    · have hw := hw.1 hc
      refine J75 x1 x2 x3 x4 () hw ls (lv_sub hl [1, 2, 3, 4, 5] rfl) (fun y13 y14 hw ls hl => ?_)
      exact k5 y13 y14 hw ls (lv_sub hl [0, 1, 2, 3, 4] rfl)
    · have hw := hw.2 hc
      refine lv_aload_n hx hb dX7_source_61 rfl (lv_at hl 1 rfl) ?_
      refine lv_iload_n hx hb dX7_source_62 rfl (lv_at hl 2 rfl) ?_
      refine lv_iload hx hb dX7_source_63 (lv_at hl 5 rfl) ?_
      refine lv_iload_n hx hb dX7_source_65 rfl (lv_at hl 3 rfl) ?_
      refine vp_callSi (va_Run.run (va_runV (As := [.int x1, .int x4, .int x2]) (rest := []) ⟨hx, hb, hml, hown, hts⟩ (c_X7_brings l D q cI cJ cZ u x1 x4 x2 _ hw) (cwV 3 hts gX7_source_X7_brings rfl rfl rfl (by decide +kernel) ⟨Nat.le_of_ble_eq_true rfl, Nat.le_of_ble_eq_true rfl⟩) (pvR (va_recv hK hP (ci := 7) (q0 := 8) (q := (RX7, TX7, 5)) rfl rfl) hK hP hN) rfl rfl hl.1 rfl (lv_room (Nat.le_of_ble_eq_true rfl)) dX7_source_66 ⟨Nat.zero_le _, Nat.zero_le _⟩)) (fun r15 hw => ?_)
      refine lv_if_eq (tgt := 75) hx hb dX7_source_69 (by decide) (fun hc => ?_) (fun hc => ?_)
      · have hw := hw.1 hc
        refine J75 x1 x2 x3 x4 () hw ls (lv_sub hl [1, 2, 3, 4, 5] rfl) (fun y16 y17 hw ls hl => ?_)
        exact k5 y16 y17 hw ls (lv_sub hl [0, 1, 2, 3, 4] rfl)
      · have hw := hw.2 hc
        refine lv_iload hx hb dX7_source_72 (lv_at hl 5 rfl) ?_
        refine lv_istore_n (lv' := [(3, .int x4), (5, .int z0), (0, .ref (q 8)), (1, .int x1), (2, .int x2), (4, .int x4)]) hx hb dX7_source_74 rfl hl (by decide) rfl (fun ls hl => ?_)
        refine J75 x1 x2 x4 x4 () hw ls (lv_sub hl [2, 3, 4, 0, 5] rfl) (fun y18 y19 hw ls hl => ?_)
        exact k5 y18 y19 hw ls (lv_sub hl [0, 1, 2, 3, 4] rfl)
  have J49 : ∀ {K5 : Int32 → Int32 → Prop} (x1 : Int32) (x2 : Int32) (x3 : Int32) (x4 : Int32) (_ : Unit), wp_X7_source_J49 x1 x2 x3 x4 u post K5 → ∀ ls : Array Slot, lv_has ls 6 [(0, .ref (q 8)), (1, .int x1), (2, .int x2), (3, .int x3), (4, .int x4)] → (∀ (x3 : Int32) (x4 : Int32), K5 x3 x4 → ∀ ls : Array Slot, lv_has ls 6 [(0, .ref (q 8)), (1, .int x1), (2, .int x2), (3, .int x3), (4, .int x4)] → W p l e (headSpec wsX7_source rm_X7_source).room s m args below meth c s.heap [] 0 0 (MQ below (vp_Si post) args s 0 0 (fun _ => False)) (F0 m 5 ls [])) → W p l e (headSpec wsX7_source rm_X7_source).room s m args below meth c s.heap [] 0 0 (MQ below (vp_Si post) args s 0 0 (fun _ => False)) (F0 m 49 ls []) := by
    intro K5 x1 x2 x3 x4 _ hw ls hl k5
    unfold wp_X7_source_J49 at hw
    refine lv_iconst (v := 1) hx hb dX7_source_49 (by decide) ?_
    refine lv_goto (tgt := 54) hx hb dX7_source_50 (by decide) ?_
    refine J54 x1 x2 x3 x4 1 () hw ls (lv_sub hl [0, 1, 2, 3, 4] rfl) (fun y9 y10 hw ls hl => ?_)
    exact k5 y9 y10 hw ls (lv_sub hl [0, 1, 2, 3, 4] rfl)
  have J53 : ∀ {K5 : Int32 → Int32 → Prop} (x1 : Int32) (x2 : Int32) (x3 : Int32) (x4 : Int32) (_ : Unit), wp_X7_source_J53 x1 x2 x3 x4 u post K5 → ∀ ls : Array Slot, lv_has ls 6 [(0, .ref (q 8)), (1, .int x1), (2, .int x2), (3, .int x3), (4, .int x4)] → (∀ (x3 : Int32) (x4 : Int32), K5 x3 x4 → ∀ ls : Array Slot, lv_has ls 6 [(0, .ref (q 8)), (1, .int x1), (2, .int x2), (3, .int x3), (4, .int x4)] → W p l e (headSpec wsX7_source rm_X7_source).room s m args below meth c s.heap [] 0 0 (MQ below (vp_Si post) args s 0 0 (fun _ => False)) (F0 m 5 ls [])) → W p l e (headSpec wsX7_source rm_X7_source).room s m args below meth c s.heap [] 0 0 (MQ below (vp_Si post) args s 0 0 (fun _ => False)) (F0 m 53 ls []) := by
    intro K5 x1 x2 x3 x4 _ hw ls hl k5
    unfold wp_X7_source_J53 at hw
    refine lv_iconst (v := 0) hx hb dX7_source_53 (by decide) ?_
    refine J54 x1 x2 x3 x4 0 () hw ls (lv_sub hl [0, 1, 2, 3, 4] rfl) (fun y11 y12 hw ls hl => ?_)
    exact k5 y11 y12 hw ls (lv_sub hl [0, 1, 2, 3, 4] rfl)
  have L5 : ∀ (x1 : Int32) (x2 : Int32) (n : Nat) (x3 : Int32) (x4 : Int32) (_ : Unit), wp_X7_source_L5 x1 x2 u post n x3 x4 → ∀ ls : Array Slot, lv_has ls 6 [(0, .ref (q 8)), (1, .int x1), (2, .int x2), (3, .int x3), (4, .int x4)] → W p l e (headSpec wsX7_source rm_X7_source).room s m args below meth c s.heap [] 0 0 (MQ below (vp_Si post) args s 0 0 (fun _ => False)) (F0 m 5 ls []) := by
    intro x1 x2 n
    induction n with
    | zero =>
      intro x3 x4 _ hw
      exact hw.elim
    | succ n ih =>
      intro x3 x4 _ hw ls hl 
      unfold wp_X7_source_L5 at hw
      refine lv_iload hx hb dX7_source_5 (lv_at hl 4 rfl) ?_
      refine lv_aload_n hx hb dX7_source_7 rfl (lv_at hl 0 rfl) ?_
      refine va_get (D := D) (ci := 7) (v := .ref (q 2)) (C := RX7) (T := TX7) (N := 5) hx hb hts hiX7 hown hK hP 8 rfl rfl 1 (by decide) hf19 (fun _ h9 => h9) rfl dX7_source_8 ?_
      refine va_getN (D := D) (ci := 5) (v := .int (u.1 20 0)) (C := RX5) (T := TX5) (N := 6) hx hb hts hiX5 hown hK hP 2 rfl rfl 4 (by decide) (va_Nw.use rfl (nf_RX7_51 hN)) (fun _ h9 => h9) rfl dX7_source_11 ?_
      refine lv_icmp_ge (tgt := 81) hx hb dX7_source_14 (by decide) (fun hc => ?_) (fun hc => ?_)
      · have hw := hw.1 hc
        refine lv_iload_n hx hb dX7_source_81 rfl (lv_at hl 3 rfl) ?_
        exact W.iret (v := x3) hx hb hr (fun t ht hW => ⟨x3, rfl, hw, ht⟩) (fun _ h => by cases h) dX7_source_82
      · have hw := hw.2 hc
        refine lv_aload_n hx hb dX7_source_17 rfl (lv_at hl 0 rfl) ?_
        refine va_get (D := D) (ci := 7) (v := .ref (q 34)) (C := RX7) (T := TX7) (N := 5) hx hb hts hiX7 hown hK hP 8 rfl rfl 4 (by decide) hf9 (fun _ h9 => h9) rfl dX7_source_18 ?_
        refine lv_iload hx hb dX7_source_21 (lv_at hl 4 rfl) ?_
        obtain ⟨hin, hw⟩ := hw
        refine va_iald hx hb hK hP 34 0 rfl rfl hin dX7_source_23 ?_
        refine lv_iconst (v := (-1)) hx hb dX7_source_24 (by decide) ?_
        refine lv_icmp_eq (tgt := 53) hx hb dX7_source_25 (by decide) (fun hc => ?_) (fun hc => ?_)
        · have hw := hw.1 hc
          refine J53 x1 x2 x3 x4 () hw ls (lv_sub hl [0, 1, 2, 3, 4] rfl) (fun y1 y2 hw ls hl => ?_)
          exact ih y1 y2 () hw ls (lv_sub hl [0, 1, 2, 3, 4] rfl)
        · have hw := hw.2 hc
          refine lv_iload_n hx hb dX7_source_28 rfl (lv_at hl 3 rfl) ?_
          refine lv_iconst (v := (-1)) hx hb dX7_source_29 (by decide) ?_
          refine lv_icmp_eq (tgt := 49) hx hb dX7_source_30 (by decide) (fun hc => ?_) (fun hc => ?_)
          · have hw := hw.1 hc
            refine J49 x1 x2 x3 x4 () hw ls (lv_sub hl [0, 1, 2, 3, 4] rfl) (fun y3 y4 hw ls hl => ?_)
            exact ih y3 y4 () hw ls (lv_sub hl [0, 1, 2, 3, 4] rfl)
          · have hw := hw.2 hc
            refine lv_aload_n hx hb dX7_source_33 rfl (lv_at hl 0 rfl) ?_
            refine va_get (D := D) (ci := 7) (v := .ref (q 34)) (C := RX7) (T := TX7) (N := 5) hx hb hts hiX7 hown hK hP 8 rfl rfl 4 (by decide) hf9 (fun _ h9 => h9) rfl dX7_source_34 ?_
            refine lv_iload hx hb dX7_source_37 (lv_at hl 4 rfl) ?_
            obtain ⟨hin, hw⟩ := hw
            refine va_iald hx hb hK hP 34 0 rfl rfl hin dX7_source_39 ?_
            refine lv_aload_n hx hb dX7_source_40 rfl (lv_at hl 0 rfl) ?_
            refine va_get (D := D) (ci := 7) (v := .ref (q 34)) (C := RX7) (T := TX7) (N := 5) hx hb hts hiX7 hown hK hP 8 rfl rfl 4 (by decide) hf9 (fun _ h9 => h9) rfl dX7_source_41 ?_
            refine lv_iload_n hx hb dX7_source_44 rfl (lv_at hl 3 rfl) ?_
            obtain ⟨hin, hw⟩ := hw
            refine va_iald hx hb hK hP 34 0 rfl rfl hin dX7_source_45 ?_
            refine lv_icmp_ge (tgt := 53) hx hb dX7_source_46 (by decide) (fun hc => ?_) (fun hc => ?_)
            · have hw := hw.1 hc
              refine J53 x1 x2 x3 x4 () hw ls (lv_sub hl [0, 1, 2, 3, 4] rfl) (fun y5 y6 hw ls hl => ?_)
              exact ih y5 y6 () hw ls (lv_sub hl [0, 1, 2, 3, 4] rfl)
            · have hw := hw.2 hc
              refine J49 x1 x2 x3 x4 () hw ls (lv_sub hl [0, 1, 2, 3, 4] rfl) (fun y7 y8 hw ls hl => ?_)
              exact ih y7 y8 () hw ls (lv_sub hl [0, 1, 2, 3, 4] rfl)
  have hent := lg_entry_eq m ([.ref (q 8), .int x1, .int x2]) 6
  rw [← hargs] at hent
  rw [hent]
  have hl := lv_entry ([.ref (q 8), .int x1, .int x2]) (n := 6) (Nat.le_of_ble_eq_true rfl)
  generalize (lg_sl ([.ref (q 8), .int x1, .int x2]) ++ List.replicate (6 - (lg_sl ([.ref (q 8), .int x1, .int x2])).length) Slot.unset).toArray = ls at hl ⊢
  have hl : lv_has ls 6 [(0, .ref (q 8)), (1, .int x1), (2, .int x2)] := hl
  unfold wp_X7_source at hw
  refine lv_iconst (v := (-1)) hx hb dX7_source_0 (by decide) ?_
  refine lv_istore_n (lv' := [(3, .int (-1)), (0, .ref (q 8)), (1, .int x1), (2, .int x2)]) hx hb dX7_source_1 rfl hl (by decide) rfl (fun ls hl => ?_)
  refine lv_iconst (v := 0) hx hb dX7_source_2 (by decide) ?_
  refine lv_istore (lv' := [(4, .int 0), (3, .int (-1)), (0, .ref (q 8)), (1, .int x1), (2, .int x2)]) hx hb dX7_source_3 hl (by decide) rfl (fun ls hl => ?_)
  obtain ⟨nn, hw⟩ := hw
  refine L5 x1 x2 nn (-1) 0 () hw ls (lv_sub hl [2, 3, 4, 1, 0] rfl)
set_option maxHeartbeats 4000000 in
set_option maxRecDepth 100000 in
theorem c_X7_partOnWay (l : Launch) (D : va_G) (q : Nat → Nat) (cI cJ cZ : ClassId) (sz : Nat) (u : WU) (x1 : Int32) (x2 : Int32) (x3 : Int32) (x4 : Int32) (post : Int32 → WU → Prop) (hw : wp_X7_partOnWay x1 x2 x3 x4 u post) : Met l yX7_partOnWay wsX7_partOnWay rm_X7_partOnWay (va_Pc [.ref (q 8), .int x1, .int x2, .int x3, .int x4] (MW D (ty3 cI cJ cZ) (wX q cI cJ cZ u) sz)) (va_Qi post (fun u' t => va_P D vwCl (wX q cI cJ cZ u') t.heap) (va_A (wX q cI cJ cZ u00) sz)) 0 0 (va_A (wX q cI cJ cZ u00) sz) := by
  refine Met.ofW (cc := cX7_partOnWay) (maxL := 7) (ret := (some .int)) (by decide) rfl ?_
  intro p e s m args below meth c s₁ B hml hv
  obtain ⟨hargs, hsz, hP, hK, hD0, hN⟩ := hv
  have hx := B.exec
  have hb := B.bytes
  have hr := B.returns
  have hts := atoms_spec (ws := wsX7_partOnWay) B.pre
  have hown : s.vm.findClass RX7 = some m.cls := findClass_of_methodNamed B.named
  have hlocks := B.notSynchronized
  subst hsz
  have hD := shw_self (sz := s.heap.size) (sh_wX q cI cJ cZ) hD0
  have hA : ∀ a : Nat, s.heap.size ≤ a → va_A (wX q cI cJ cZ u00) s.heap.size a := fun _ h => Or.inr h
  have hS : va_S (va_A (wX q cI cJ cZ u00) s.heap.size) s.heap s.heap [] := va_S.rf
  have hiX7 : ∀ w ∈ u_ws RX7 TX7 5, w ∈ wsX7_partOnWay := by decide +kernel
  have hf9 := hts (.fieldLink RX7 9 "TermsDesk$Tracer" "steps" "[I") (by decide +kernel)
  have L42 : ∀ (x2 : Int32) (x4 : Int32) (n : Nat) (x5 : Int32) (x6 : Int32) (u : WU) (H : Heap) (locs : List Loc), wp_X7_partOnWay_L42 x2 x4 post n x5 x6 u → va_P D vwCl (wX q cI cJ cZ u) H → va_D (va_A (wX q cI cJ cZ u00) s.heap.size) (wX q cI cJ cZ u) → va_S (va_A (wX q cI cJ cZ u00) s.heap.size) s.heap H locs → ∀ ls : Array Slot, lv_has ls 7 [(0, .ref (q 8)), (2, .int x2), (4, .int x4), (5, .int x5), (6, .int x6)] → W p l e (headSpec wsX7_partOnWay rm_X7_partOnWay).room s m args below meth c H locs 0 0 (MQ below (va_Qi post (fun u' t => va_P D vwCl (wX q cI cJ cZ u') t.heap) (va_A (wX q cI cJ cZ u00) s.heap.size)) args s 0 0 (va_A (wX q cI cJ cZ u00) s.heap.size)) (F0 m 42 ls []) := by
    intro x2 x4 n
    induction n with
    | zero =>
      intro x5 x6 u H locs hw
      exact hw.elim
    | succ n ih =>
      intro x5 x6 u H locs hw hP hD hS ls hl 
      unfold wp_X7_partOnWay_L42 at hw
      refine lv_iload hx hb dX7_partOnWay_42 (lv_at hl 4 rfl) ?_
      refine lv_iload hx hb dX7_partOnWay_44 (lv_at hl 2 rfl) ?_
      refine lv_icmp_ge (tgt := 70) hx hb dX7_partOnWay_46 (by decide) (fun hc => ?_) (fun hc => ?_)
      · have hw := hw.1 hc
        refine lv_iload hx hb dX7_partOnWay_70 (lv_at hl 3 rfl) ?_
        exact W.iret (v := x5) hx hb hr (fun t ht hW => ⟨⟨x5, u, rfl, hw, by show va_P D vwCl _ t.heap; rw [ht]; exact hP⟩, hS.F ht⟩) hS.2.2 dX7_partOnWay_72
      · have hw := hw.2 hc
        refine lv_iload hx hb dX7_partOnWay_49 (lv_at hl 3 rfl) ?_
        refine lv_iconst (v := (-1)) hx hb dX7_partOnWay_51 (by decide) ?_
        refine lv_icmp_eq (tgt := 70) hx hb dX7_partOnWay_52 (by decide) (fun hc => ?_) (fun hc => ?_)
        · have hw := hw.1 hc
          refine lv_iload hx hb dX7_partOnWay_70 (lv_at hl 3 rfl) ?_
          exact W.iret (v := x5) hx hb hr (fun t ht hW => ⟨⟨x5, u, rfl, hw, by show va_P D vwCl _ t.heap; rw [ht]; exact hP⟩, hS.F ht⟩) hS.2.2 dX7_partOnWay_72
        · have hw := hw.2 hc
          refine lv_aload_n hx hb dX7_partOnWay_55 rfl (lv_at hl 0 rfl) ?_
          refine lv_iload_n hx hb dX7_partOnWay_56 rfl (lv_at hl 1 rfl) ?_
          refine lv_iload hx hb dX7_partOnWay_57 (lv_at hl 3 rfl) ?_
          refine vp_callSi (va_Run.run (va_runV (As := [.int x2, .int x5]) (rest := []) ⟨hx, hb, hml, hown, hts⟩ (c_X7_next l D q cI cJ cZ u x2 x5 _ hw) (cwV 2 hts gX7_partOnWay_X7_next rfl rfl rfl (by decide +kernel) ⟨Nat.le_of_ble_eq_true rfl, Nat.le_of_ble_eq_true rfl⟩) (pvR (va_recv hK hP (ci := 7) (q0 := 8) (q := (RX7, TX7, 5)) rfl rfl) hK hP hN) rfl rfl hl.1 rfl (lv_room (Nat.le_of_ble_eq_true rfl)) dX7_partOnWay_59 ⟨Nat.zero_le _, Nat.zero_le _⟩)) (fun r1 hw => ?_)
          refine lv_istore (lv' := [(5, .int r1), (0, .ref (q 8)), (2, .int x2), (4, .int x4), (6, .int x6)]) hx hb dX7_partOnWay_62 hl (by decide) rfl (fun ls hl => ?_)
          obtain ⟨y2, ey2⟩ : ∃ z : Int32, z = x6 + 1 := ⟨_, rfl⟩
          have hw := hw y2 ey2
          refine lv_iinc (v := y2) (lv' := [(6, .int y2), (5, .int r1), (0, .ref (q 8)), (2, .int x2), (4, .int x4)]) hx hb dX7_partOnWay_64 hl (k := 4) rfl (by rw [ey2]; rfl) (by decide) rfl (fun ls hl => ?_)
          refine lv_goto (tgt := 42) hx hb dX7_partOnWay_67 (by decide) ?_
          exact ih r1 y2 u _ _ hw hP hD hS ls (lv_sub hl [2, 3, 4, 1, 0] rfl)
  have hent := lg_entry_eq m ([.ref (q 8), .int x1, .int x2, .int x3, .int x4]) 7
  rw [← hargs] at hent
  rw [hent]
  have hl := lv_entry ([.ref (q 8), .int x1, .int x2, .int x3, .int x4]) (n := 7) (Nat.le_of_ble_eq_true rfl)
  generalize (lg_sl ([.ref (q 8), .int x1, .int x2, .int x3, .int x4]) ++ List.replicate (7 - (lg_sl ([.ref (q 8), .int x1, .int x2, .int x3, .int x4])).length) Slot.unset).toArray = ls at hl ⊢
  have hl : lv_has ls 7 [(0, .ref (q 8)), (1, .int x1), (2, .int x2), (3, .int x3), (4, .int x4)] := hl
  unfold wp_X7_partOnWay at hw
  refine lv_aload_n hx hb dX7_partOnWay_0 rfl (lv_at hl 0 rfl) ?_
  refine lv_iload_n hx hb dX7_partOnWay_1 rfl (lv_at hl 2 rfl) ?_
  refine lv_iload_n hx hb dX7_partOnWay_2 rfl (lv_at hl 3 rfl) ?_
  refine cMv (sh_wX q cI cJ cZ) (u := u) (va_runV (As := [.int x2, .int x3]) (rest := []) ⟨hx, hb, hml, hown, hts⟩ (c_X7_measure l D q cI cJ cZ _ u x2 x3 _ hw) (cwV 2 hts gX7_partOnWay_X7_measure rfl rfl rfl (by decide +kernel) ⟨Nat.le_of_ble_eq_true rfl, Nat.le_of_ble_eq_true rfl⟩) (pvM (va_recv hK hP (ci := 7) (q0 := 8) (q := (RX7, TX7, 5)) rfl rfl) hK hP hD hN) rfl rfl hl.1 rfl (lv_room (Nat.le_of_ble_eq_true rfl)) dX7_partOnWay_3 ⟨Nat.zero_le _, Nat.zero_le _⟩) hA hD hS (fun u3 H locs hw hP hD hS => ?_)
  refine lv_aload_n hx hb dX7_partOnWay_6 rfl (lv_at hl 0 rfl) ?_
  refine lv_iload_n hx hb dX7_partOnWay_7 rfl (lv_at hl 1 rfl) ?_
  refine lv_iload_n hx hb dX7_partOnWay_8 rfl (lv_at hl 2 rfl) ?_
  refine vp_callSi (va_Run.run (va_runV (As := [.int x1, .int x2]) (rest := []) ⟨hx, hb, hml, hown, hts⟩ (c_X7_source l D q cI cJ cZ u3 x1 x2 _ hw) (cwV 2 hts gX7_partOnWay_X7_source rfl rfl rfl (by decide +kernel) ⟨Nat.le_of_ble_eq_true rfl, Nat.le_of_ble_eq_true rfl⟩) (pvR (va_recv hK hP (ci := 7) (q0 := 8) (q := (RX7, TX7, 5)) rfl rfl) hK hP hN) rfl rfl hl.1 rfl (lv_room (Nat.le_of_ble_eq_true rfl)) dX7_partOnWay_9 ⟨Nat.zero_le _, Nat.zero_le _⟩)) (fun r4 hw => ?_)
  refine lv_istore (lv' := [(5, .int r4), (0, .ref (q 8)), (1, .int x1), (2, .int x2), (3, .int x3), (4, .int x4)]) hx hb dX7_partOnWay_12 hl (by decide) rfl (fun ls hl => ?_)
  refine lv_iload hx hb dX7_partOnWay_14 (lv_at hl 0 rfl) ?_
  refine lv_iconst (v := (-1)) hx hb dX7_partOnWay_16 (by decide) ?_
  refine lv_icmp_eq (tgt := 37) hx hb dX7_partOnWay_17 (by decide) (fun hc => ?_) (fun hc => ?_)
  · have hw := hw.1 hc
    refine lv_iconst (v := (-1)) hx hb dX7_partOnWay_37 (by decide) ?_
    exact W.iret (v := (-1)) hx hb hr (fun t ht hW => ⟨⟨(-1), u3, rfl, hw, by show va_P D vwCl _ t.heap; rw [ht]; exact hP⟩, hS.F ht⟩) hS.2.2 dX7_partOnWay_38
  · have hw := hw.2 hc
    refine lv_iload hx hb dX7_partOnWay_20 (lv_at hl 5 rfl) ?_
    refine lv_if_lt (tgt := 37) hx hb dX7_partOnWay_22 (by decide) (fun hc => ?_) (fun hc => ?_)
    · have hw := hw.1 hc
      refine lv_iconst (v := (-1)) hx hb dX7_partOnWay_37 (by decide) ?_
      exact W.iret (v := (-1)) hx hb hr (fun t ht hW => ⟨⟨(-1), u3, rfl, hw, by show va_P D vwCl _ t.heap; rw [ht]; exact hP⟩, hS.F ht⟩) hS.2.2 dX7_partOnWay_38
    · have hw := hw.2 hc
      refine lv_iload hx hb dX7_partOnWay_25 (lv_at hl 5 rfl) ?_
      refine lv_aload_n hx hb dX7_partOnWay_27 rfl (lv_at hl 1 rfl) ?_
      refine va_get (D := D) (ci := 7) (v := .ref (q 34)) (C := RX7) (T := TX7) (N := 5) hx hb hts hiX7 hown hK hP 8 rfl rfl 4 (by decide) hf9 (fun _ h9 => h9) rfl dX7_partOnWay_28 ?_
      refine lv_iload hx hb dX7_partOnWay_31 (lv_at hl 0 rfl) ?_
      obtain ⟨hin, hw⟩ := hw
      refine va_iald hx hb hK hP 34 0 rfl rfl hin dX7_partOnWay_33 ?_
      refine lv_icmp_le (tgt := 39) hx hb dX7_partOnWay_34 (by decide) (fun hc => ?_) (fun hc => ?_)
      · have hw := hw.1 hc
        refine lv_iconst (v := 0) hx hb dX7_partOnWay_39 (by decide) ?_
        refine lv_istore (lv' := [(6, .int 0), (5, .int r4), (0, .ref (q 8)), (1, .int x1), (2, .int x2), (3, .int x3), (4, .int x4)]) hx hb dX7_partOnWay_40 hl (by decide) rfl (fun ls hl => ?_)
        obtain ⟨nn, hw⟩ := hw
        refine L42 x2 x4 nn r4 0 u3 _ _ hw hP hD hS ls (lv_sub hl [2, 4, 6, 1, 0] rfl)
      · have hw := hw.2 hc
        refine lv_iconst (v := (-1)) hx hb dX7_partOnWay_37 (by decide) ?_
        exact W.iret (v := (-1)) hx hb hr (fun t ht hW => ⟨⟨(-1), u3, rfl, hw, by show va_P D vwCl _ t.heap; rw [ht]; exact hP⟩, hS.F ht⟩) hS.2.2 dX7_partOnWay_38
