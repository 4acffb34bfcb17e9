set_option maxHeartbeats 4000000 in
set_option maxRecDepth 100000 in
theorem c_X1_isBetter (l : Launch) (D : va_G) (q : Nat → Nat) (cI cJ cZ : ClassId) (u : WU) (x1 : Int32) (x2 : Int32) (post : Int32 → Prop) (hw : wp_X1_isBetter x1 x2 u post) : Met l yX1_isBetter wsX1_isBetter rm_X1_isBetter (va_Pc [.ref (q 6), .int x1, .int x2] (RW D (ty3 cI cJ cZ) (wX q cI cJ cZ u))) (vp_Si post) 0 0 (fun _ => False) := by
  refine Met.ofW (cc := cX1_isBetter) (maxL := 4) (ret := (some .boolean)) (by decide) rfl ?_
  intro p e s m args below meth c s₁ B hml hv
  obtain ⟨hargs, hP, hK, hN⟩ := hv
  have hx := B.exec
  have hb := B.bytes
  have hr := B.returns
  have hts := atoms_spec (ws := wsX1_isBetter) B.pre
  have hown : s.vm.findClass RX1 = some m.cls := findClass_of_methodNamed B.named
  have hlocks := B.notSynchronized
  have hiX1 : ∀ w ∈ u_ws RX1 TX1 10, w ∈ wsX1_isBetter := by decide +kernel
  have hf15 := hts (.fieldLink RX1 15 "TermsDesk$Chooser" "place" "[I") (by decide +kernel)
  have hf18 := hts (.fieldLink RX1 18 "TermsDesk$Chooser" "bestPlace" "[I") (by decide +kernel)
  have hf52 := hts (.fieldLink RX1 52 "TermsDesk$Chooser" "bestQuarrels" "I") (by decide +kernel)
  have hf56 := hts (.fieldLink RX1 56 "TermsDesk$Chooser" "bestPairs" "I") (by decide +kernel)
  have L46 : ∀ {K67 : Int32 → Prop} (n : Nat) (x3 : Int32) (_ : Unit), wp_X1_isBetter_L46 u post K67 n x3 → ∀ ls : Array Slot, lv_has ls 4 [(0, .ref (q 6)), (3, .int x3)] → (∀ (x3 : Int32), K67 x3 → ∀ ls : Array Slot, lv_has ls 4 [(0, .ref (q 6)), (3, .int x3)] → W p l e (headSpec wsX1_isBetter rm_X1_isBetter).room s m args below meth c s.heap [] 0 0 (MQ below (vp_Si post) args s 0 0 (fun _ => False)) (F0 m 67 ls [])) → W p l e (headSpec wsX1_isBetter rm_X1_isBetter).room s m args below meth c s.heap [] 0 0 (MQ below (vp_Si post) args s 0 0 (fun _ => False)) (F0 m 46 ls []) := by
    intro K67 n
    induction n with
    | zero =>
      intro x3 _ hw
      exact hw.elim
    | succ n ih =>
      intro x3 _ hw ls hl k67
      unfold wp_X1_isBetter_L46 at hw
      refine lv_iload_n hx hb dX1_isBetter_46 rfl (lv_at hl 1 rfl) ?_
      refine lv_bipush (v := 24) hx hb dX1_isBetter_47 (by decide) ?_
      refine lv_icmp_ge (tgt := 94) hx hb dX1_isBetter_49 (by decide) (fun hc => ?_) (fun hc => ?_)
      · have hw := hw.1 hc
        refine lv_iconst (v := 0) hx hb dX1_isBetter_94 (by decide) ?_
        exact W.zret (v := 0) hx hb hr rfl (fun t ht hW => ⟨0, rfl, hw, ht⟩) (fun _ h => by cases h) dX1_isBetter_95
      · have hw := hw.2 hc
        refine lv_aload_n hx hb dX1_isBetter_52 rfl (lv_at hl 0 rfl) ?_
        refine va_get (D := D) (ci := 1) (v := .ref (q 30)) (C := RX1) (T := TX1) (N := 10) hx hb hts hiX1 hown hK hP 6 rfl rfl 5 (by decide) hf15 (fun _ h9 => h9) rfl dX1_isBetter_53 ?_
        refine lv_iload_n hx hb dX1_isBetter_56 rfl (lv_at hl 1 rfl) ?_
        obtain ⟨hin, hw⟩ := hw
        refine va_iald hx hb hK hP 30 0 rfl rfl hin dX1_isBetter_57 ?_
        refine lv_aload_n hx hb dX1_isBetter_58 rfl (lv_at hl 0 rfl) ?_
        refine va_get (D := D) (ci := 1) (v := .ref (q 31)) (C := RX1) (T := TX1) (N := 10) hx hb hts hiX1 hown hK hP 6 rfl rfl 6 (by decide) hf18 (fun _ h9 => h9) rfl dX1_isBetter_59 ?_
        refine lv_iload_n hx hb dX1_isBetter_62 rfl (lv_at hl 1 rfl) ?_
        obtain ⟨hin, hw⟩ := hw
        refine va_iald hx hb hK hP 31 0 rfl rfl hin dX1_isBetter_63 ?_
        refine lv_icmp_eq (tgt := 88) hx hb dX1_isBetter_64 (by decide) (fun hc => ?_) (fun hc => ?_)
        · have hw := hw.1 hc
          obtain ⟨y1, ey1⟩ : ∃ z : Int32, z = x3 + 1 := ⟨_, rfl⟩
          have hw := hw y1 ey1
          refine lv_iinc (v := y1) (lv' := [(3, .int y1), (0, .ref (q 6))]) hx hb dX1_isBetter_88 hl (k := 1) rfl (by rw [ey1]; rfl) (by decide) rfl (fun ls hl => ?_)
          refine lv_goto (tgt := 46) hx hb dX1_isBetter_91 (by decide) ?_
          exact ih y1 () hw ls (lv_sub hl [1, 0] rfl) k67
        · have hw := hw.2 hc
          exact k67 x3 hw ls (lv_sub hl [0, 1] rfl)
  have hent := lg_entry_eq m ([.ref (q 6), .int x1, .int x2]) 4
  rw [← hargs] at hent
  rw [hent]
  have hl := lv_entry ([.ref (q 6), .int x1, .int x2]) (n := 4) (Nat.le_of_ble_eq_true rfl)
  generalize (lg_sl ([.ref (q 6), .int x1, .int x2]) ++ List.replicate (4 - (lg_sl ([.ref (q 6), .int x1, .int x2])).length) Slot.unset).toArray = ls at hl ⊢
  have hl : lv_has ls 4 [(0, .ref (q 6)), (1, .int x1), (2, .int x2)] := hl
  unfold wp_X1_isBetter at hw
  refine lv_iload_n hx hb dX1_isBetter_0 rfl (lv_at hl 1 rfl) ?_
  refine lv_aload_n hx hb dX1_isBetter_1 rfl (lv_at hl 0 rfl) ?_
  refine va_get (D := D) (ci := 1) (v := .int (u.1 25 0)) (C := RX1) (T := TX1) (N := 10) hx hb hts hiX1 hown hK hP 6 rfl rfl 8 (by decide) hf52 (fun _ h9 => h9) rfl dX1_isBetter_2 ?_
  refine lv_icmp_eq (tgt := 22) hx hb dX1_isBetter_5 (by decide) (fun hc => ?_) (fun hc => ?_)
  · have hw := hw.1 hc
    refine lv_iload_n hx hb dX1_isBetter_22 rfl (lv_at hl 2 rfl) ?_
    refine lv_aload_n hx hb dX1_isBetter_23 rfl (lv_at hl 0 rfl) ?_
    refine va_get (D := D) (ci := 1) (v := .int (u.1 26 0)) (C := RX1) (T := TX1) (N := 10) hx hb hts hiX1 hown hK hP 6 rfl rfl 9 (by decide) hf56 (fun _ h9 => h9) rfl dX1_isBetter_24 ?_
    refine lv_icmp_eq (tgt := 44) hx hb dX1_isBetter_27 (by decide) (fun hc => ?_) (fun hc => ?_)
    · have hw := hw.1 hc
      refine lv_iconst (v := 0) hx hb dX1_isBetter_44 (by decide) ?_
      refine lv_istore_n (lv' := [(3, .int 0), (0, .ref (q 6)), (1, .int x1), (2, .int x2)]) hx hb dX1_isBetter_45 rfl hl (by decide) rfl (fun ls hl => ?_)
      obtain ⟨nn, hw⟩ := hw
      refine L46 nn 0 () hw ls (lv_sub hl [1, 0] rfl) (fun y2 hw ls hl => ?_)
      refine lv_aload_n hx hb dX1_isBetter_67 rfl (lv_at hl 0 rfl) ?_
      refine va_get (D := D) (ci := 1) (v := .ref (q 30)) (C := RX1) (T := TX1) (N := 10) hx hb hts hiX1 hown hK hP 6 rfl rfl 5 (by decide) hf15 (fun _ h9 => h9) rfl dX1_isBetter_68 ?_
      refine lv_iload_n hx hb dX1_isBetter_71 rfl (lv_at hl 1 rfl) ?_
      obtain ⟨hin, hw⟩ := hw
      refine va_iald hx hb hK hP 30 0 rfl rfl hin dX1_isBetter_72 ?_
      refine lv_aload_n hx hb dX1_isBetter_73 rfl (lv_at hl 0 rfl) ?_
      refine va_get (D := D) (ci := 1) (v := .ref (q 31)) (C := RX1) (T := TX1) (N := 10) hx hb hts hiX1 hown hK hP 6 rfl rfl 6 (by decide) hf18 (fun _ h9 => h9) rfl dX1_isBetter_74 ?_
      refine lv_iload_n hx hb dX1_isBetter_77 rfl (lv_at hl 1 rfl) ?_
      obtain ⟨hin, hw⟩ := hw
      refine va_iald hx hb hK hP 31 0 rfl rfl hin dX1_isBetter_78 ?_
      refine lv_icmp_ge (tgt := 86) hx hb dX1_isBetter_79 (by decide) (fun hc => ?_) (fun hc => ?_)
      · have hw := hw.1 hc
        refine lv_iconst (v := 0) hx hb dX1_isBetter_86 (by decide) ?_
        exact W.zret (v := 0) hx hb hr rfl (fun t ht hW => ⟨0, rfl, hw, ht⟩) (fun _ h => by cases h) dX1_isBetter_87
      · have hw := hw.2 hc
        refine lv_iconst (v := 1) hx hb dX1_isBetter_82 (by decide) ?_
        refine lv_goto (tgt := 87) hx hb dX1_isBetter_83 (by decide) ?_
        exact W.zret (v := 1) hx hb hr rfl (fun t ht hW => ⟨1, rfl, hw, ht⟩) (fun _ h => by cases h) dX1_isBetter_87
    · have hw := hw.2 hc
      refine lv_iload_n hx hb dX1_isBetter_30 rfl (lv_at hl 2 rfl) ?_
      refine lv_aload_n hx hb dX1_isBetter_31 rfl (lv_at hl 0 rfl) ?_
      refine va_get (D := D) (ci := 1) (v := .int (u.1 26 0)) (C := RX1) (T := TX1) (N := 10) hx hb hts hiX1 hown hK hP 6 rfl rfl 9 (by decide) hf56 (fun _ h9 => h9) rfl dX1_isBetter_32 ?_
      refine lv_icmp_ge (tgt := 42) hx hb dX1_isBetter_35 (by decide) (fun hc => ?_) (fun hc => ?_)
      · have hw := hw.1 hc
        refine lv_iconst (v := 0) hx hb dX1_isBetter_42 (by decide) ?_
        exact W.zret (v := 0) hx hb hr rfl (fun t ht hW => ⟨0, rfl, hw, ht⟩) (fun _ h => by cases h) dX1_isBetter_43
      · have hw := hw.2 hc
        refine lv_iconst (v := 1) hx hb dX1_isBetter_38 (by decide) ?_
        refine lv_goto (tgt := 43) hx hb dX1_isBetter_39 (by decide) ?_
        exact W.zret (v := 1) hx hb hr rfl (fun t ht hW => ⟨1, rfl, hw, ht⟩) (fun _ h => by cases h) dX1_isBetter_43
  · have hw := hw.2 hc
    refine lv_iload_n hx hb dX1_isBetter_8 rfl (lv_at hl 1 rfl) ?_
    refine lv_aload_n hx hb dX1_isBetter_9 rfl (lv_at hl 0 rfl) ?_
    refine va_get (D := D) (ci := 1) (v := .int (u.1 25 0)) (C := RX1) (T := TX1) (N := 10) hx hb hts hiX1 hown hK hP 6 rfl rfl 8 (by decide) hf52 (fun _ h9 => h9) rfl dX1_isBetter_10 ?_
    refine lv_icmp_ge (tgt := 20) hx hb dX1_isBetter_13 (by decide) (fun hc => ?_) (fun hc => ?_)
    · have hw := hw.1 hc
      refine lv_iconst (v := 0) hx hb dX1_isBetter_20 (by decide) ?_
      exact W.zret (v := 0) hx hb hr rfl (fun t ht hW => ⟨0, rfl, hw, ht⟩) (fun _ h => by cases h) dX1_isBetter_21
    · have hw := hw.2 hc
      refine lv_iconst (v := 1) hx hb dX1_isBetter_16 (by decide) ?_
      refine lv_goto (tgt := 21) hx hb dX1_isBetter_17 (by decide) ?_
      exact W.zret (v := 1) hx hb hr rfl (fun t ht hW => ⟨1, rfl, hw, ht⟩) (fun _ h => by cases h) dX1_isBetter_21
set_option maxHeartbeats 4000000 in
set_option maxRecDepth 100000 in
theorem c_X1_keepIfBetter (l : Launch) (D : va_G) (q : Nat → Nat) (cI cJ cZ : ClassId) (sz : Nat) (u : WU) (post : WU → Prop) (hw : wp_X1_keepIfBetter u post) : Met l yX1_keepIfBetter wsX1_keepIfBetter rm_X1_keepIfBetter (va_Pc [.ref (q 6)] (MW D (ty3 cI cJ cZ) (wX q cI cJ cZ u) sz)) (va_Qv post (fun u' t => va_P D vwCl (wX q cI cJ cZ u') t.heap) (va_A (wX q cI cJ cZ u00) sz)) 0 0 (va_A (wX q cI cJ cZ u00) sz) := by
  refine Met.ofW (cc := cX1_keepIfBetter) (maxL := 3) (ret := none) (by decide) rfl ?_
  intro p e s m args below meth c s₁ B hml hv
  obtain ⟨hargs, hsz, hP, hK, hD0, hN⟩ := hv
  have hx := B.exec
  have hb := B.bytes
  have hr := B.returns
  have hts := atoms_spec (ws := wsX1_keepIfBetter) B.pre
  have hown : s.vm.findClass RX1 = some m.cls := findClass_of_methodNamed B.named
  have hlocks := B.notSynchronized
  subst hsz
  have hD := shw_self (sz := s.heap.size) (sh_wX q cI cJ cZ) hD0
  have hA : ∀ a : Nat, s.heap.size ≤ a → va_A (wX q cI cJ cZ u00) s.heap.size a := fun _ h => Or.inr h
  have hS : va_S (va_A (wX q cI cJ cZ u00) s.heap.size) s.heap s.heap [] := va_S.rf
  have hiX1 : ∀ w ∈ u_ws RX1 TX1 10, w ∈ wsX1_keepIfBetter := by decide +kernel
  have hiX2 : ∀ w ∈ u_ws RX2 TX2 5, w ∈ wsX1_keepIfBetter := by decide +kernel
  have hiX5 : ∀ w ∈ u_ws RX5 TX5 6, w ∈ wsX1_keepIfBetter := by decide +kernel
  have hf15 := hts (.fieldLink RX1 15 "TermsDesk$Chooser" "place" "[I") (by decide +kernel)
  have hf18 := hts (.fieldLink RX1 18 "TermsDesk$Chooser" "bestPlace" "[I") (by decide +kernel)
  have hf21 := hts (.fieldLink RX1 21 "TermsDesk$Chooser" "quarrelsBefore" "[I") (by decide +kernel)
  have hf24 := hts (.fieldLink RX1 24 "TermsDesk$Chooser" "parts" "LTermsDesk$Parts;") (by decide +kernel)
  have hf32 := hts (.fieldLink RX1 32 "TermsDesk$Chooser" "flow" "LTermsDesk$Flow;") (by decide +kernel)
  have hf52 := hts (.fieldLink RX1 52 "TermsDesk$Chooser" "bestQuarrels" "I") (by decide +kernel)
  have hf56 := hts (.fieldLink RX1 56 "TermsDesk$Chooser" "bestPairs" "I") (by decide +kernel)
  have hf63 := hts (.fieldLink RX1 63 "TermsDesk$Chooser" "length" "I") (by decide +kernel)
  have hl124 := hts (.methodLink RX1 124 arraycopyName) (by decide +kernel)
  have hyI := hts (.initialized "java/lang/System") (by decide +kernel)
  have hyN := hts (.native arraycopyName) (by decide +kernel)
  have hyS := hts (.static arraycopyName) (by decide +kernel)
  have hent := lg_entry_eq m ([.ref (q 6)]) 3
  rw [← hargs] at hent
  rw [hent]
  have hl := lv_entry ([.ref (q 6)]) (n := 3) (Nat.le_of_ble_eq_true rfl)
  generalize (lg_sl ([.ref (q 6)]) ++ List.replicate (3 - (lg_sl ([.ref (q 6)])).length) Slot.unset).toArray = ls at hl ⊢
  have hl : lv_has ls 3 [(0, .ref (q 6))] := hl
  unfold wp_X1_keepIfBetter at hw
  refine lv_aload_n hx hb dX1_keepIfBetter_0 rfl (lv_at hl 0 rfl) ?_
  refine va_get (D := D) (ci := 1) (v := .ref (q 32)) (C := RX1) (T := TX1) (N := 10) hx hb hts hiX1 hown hK hP 6 rfl rfl 7 (by decide) hf21 (fun _ h9 => h9) rfl dX1_keepIfBetter_1 ?_
  refine lv_aload_n hx hb dX1_keepIfBetter_4 rfl (lv_at hl 0 rfl) ?_
  refine va_get (D := D) (ci := 1) (v := .int (u.1 24 0)) (C := RX1) (T := TX1) (N := 10) hx hb hts hiX1 hown hK hP 6 rfl rfl 4 (by decide) hf63 (fun _ h9 => h9) rfl dX1_keepIfBetter_5 ?_
  obtain ⟨hin, hw⟩ := hw
  refine va_iald hx hb hK hP 32 0 rfl rfl hin dX1_keepIfBetter_8 ?_
  refine lv_topi (fun y1 ey1 => ?_)
  have hw := hw y1 ey1
  refine lv_istore_n (lv' := [(1, .int y1), (0, .ref (q 6))]) hx hb dX1_keepIfBetter_9 rfl hl (by decide) rfl (fun ls hl => ?_)
  refine lv_aload_n hx hb dX1_keepIfBetter_10 rfl (lv_at hl 1 rfl) ?_
  refine va_get (D := D) (ci := 1) (v := .ref (q 5)) (C := RX1) (T := TX1) (N := 10) hx hb hts hiX1 hown hK hP 6 rfl rfl 2 (by decide) hf32 (fun _ h9 => h9) rfl dX1_keepIfBetter_11 ?_
  refine va_getN (D := D) (ci := 2) (v := .ref (q 27)) (C := RX2) (T := TX2) (N := 5) hx hb hts hiX2 hown hK hP 5 rfl rfl 3 (by decide) (va_Nw.use rfl (nf_RX1_113 hN)) (fun _ h9 => h9) rfl dX1_keepIfBetter_14 ?_
  refine lv_aload_n hx hb dX1_keepIfBetter_17 rfl (lv_at hl 1 rfl) ?_
  refine va_get (D := D) (ci := 1) (v := .ref (q 2)) (C := RX1) (T := TX1) (N := 10) hx hb hts hiX1 hown hK hP 6 rfl rfl 0 (by decide) hf24 (fun _ h9 => h9) rfl dX1_keepIfBetter_18 ?_
  refine va_getN (D := D) (ci := 5) (v := .int (u.1 21 0)) (C := RX5) (T := TX5) (N := 6) hx hb hts hiX5 hown hK hP 2 rfl rfl 5 (by decide) (va_Nw.use rfl (nf_RX1_117 hN)) (fun _ h9 => h9) rfl dX1_keepIfBetter_21 ?_
  obtain ⟨hin, hw⟩ := hw
  refine va_lald hx hb hK hP 27 1 rfl rfl hin dX1_keepIfBetter_24 ?_
  refine vp_callSi (va_Run.run (va_runS (As := [.long (u.2 4 (u.1 21 0).toNatClampNeg)]) (rest := []) ⟨hx, hb, hml, hown, hts⟩ (c_J13_bitCount_95d88 l (u.2 4 (u.1 21 0).toNatClampNeg) _ hw) (va_cwS 1 hts gX1_keepIfBetter_J13_bitCount_95d88 rfl rfl rfl (by decide +kernel) ⟨Nat.le_of_ble_eq_true rfl, Nat.le_of_ble_eq_true rfl⟩) (psS hN) rfl rfl hl.1 rfl (lv_room (Nat.le_of_ble_eq_true rfl)) dX1_keepIfBetter_25 ⟨Nat.zero_le _, Nat.zero_le _⟩)) (fun r2 hw => ?_)
  refine lv_istore_n (lv' := [(2, .int r2), (1, .int y1), (0, .ref (q 6))]) hx hb dX1_keepIfBetter_28 rfl hl (by decide) rfl (fun ls hl => ?_)
  refine lv_aload_n hx hb dX1_keepIfBetter_29 rfl (lv_at hl 2 rfl) ?_
  refine lv_iload_n hx hb dX1_keepIfBetter_30 rfl (lv_at hl 1 rfl) ?_
  refine lv_iload_n hx hb dX1_keepIfBetter_31 rfl (lv_at hl 0 rfl) ?_
  refine vp_callSi (va_Run.run (va_runV (As := [.int y1, .int r2]) (rest := []) ⟨hx, hb, hml, hown, hts⟩ (c_X1_isBetter l D q cI cJ cZ u y1 r2 _ hw) (cwV 2 hts gX1_keepIfBetter_X1_isBetter rfl rfl rfl (by decide +kernel) ⟨Nat.le_of_ble_eq_true rfl, Nat.le_of_ble_eq_true rfl⟩) (pvR (va_recv hK hP (ci := 1) (q0 := 6) (q := (RX1, TX1, 10)) rfl rfl) hK hP hN) rfl rfl hl.1 rfl (lv_room (Nat.le_of_ble_eq_true rfl)) dX1_keepIfBetter_32 ⟨Nat.zero_le _, Nat.zero_le _⟩)) (fun r3 hw => ?_)
  refine lv_if_eq (tgt := 63) hx hb dX1_keepIfBetter_35 (by decide) (fun hc => ?_) (fun hc => ?_)
  · have hw := hw.1 hc
    exact W.vret hx hb hr (fun t ht hW => ⟨⟨u, rfl, hw, by show va_P D vwCl _ t.heap; rw [ht]; exact hP⟩, hS.F ht⟩) hS.2.2 dX1_keepIfBetter_63
  · have hw := hw.2 hc
    refine lv_aload_n hx hb dX1_keepIfBetter_38 rfl (lv_at hl 2 rfl) ?_
    refine lv_iload_n hx hb dX1_keepIfBetter_39 rfl (lv_at hl 1 rfl) ?_
    refine va_put (D := D) (ci := 1) (v := .int y1) (ty := .int) (C := RX1) (T := TX1) (N := 10) hx hb hts hiX1 tyX1 tyX1_ok nmX1 hown hK hP hD hS 6 rfl rfl 8 (by decide) hf52 (fun _ h9 => h9) rfl (by decide +kernel) rfl rfl (Nat.le_of_ble_eq_true rfl) dX1_keepIfBetter_40 (sPut (w := wX q cI cJ cZ) (uu := uI u 25 (fun _ => y1)) (wXs_X1_8 q cI cJ cZ u _) (fun u4 H locs eu4 hP hD hS => ?_))
    have hw := hw u4 eu4
    refine lv_aload_n hx hb dX1_keepIfBetter_43 rfl (lv_at hl 2 rfl) ?_
    refine lv_iload_n hx hb dX1_keepIfBetter_44 rfl (lv_at hl 0 rfl) ?_
    refine va_put (D := D) (ci := 1) (v := .int r2) (ty := .int) (C := RX1) (T := TX1) (N := 10) hx hb hts hiX1 tyX1 tyX1_ok nmX1 hown hK hP hD hS 6 rfl rfl 9 (by decide) hf56 (fun _ h9 => h9) rfl (by decide +kernel) rfl rfl (Nat.le_of_ble_eq_true rfl) dX1_keepIfBetter_45 (sPut (w := wX q cI cJ cZ) (uu := uI u4 26 (fun _ => r2)) (wXs_X1_9 q cI cJ cZ u4 _) (fun u5 H locs eu5 hP hD hS => ?_))
    have hw := hw u5 eu5
    refine lv_aload_n hx hb dX1_keepIfBetter_48 rfl (lv_at hl 2 rfl) ?_
    refine va_get (D := D) (ci := 1) (v := .ref (q 30)) (C := RX1) (T := TX1) (N := 10) hx hb hts hiX1 hown hK hP 6 rfl rfl 5 (by decide) hf15 (fun _ h9 => h9) rfl dX1_keepIfBetter_49 ?_
    refine lv_iconst (v := 0) hx hb dX1_keepIfBetter_52 (by decide) ?_
    refine lv_aload_n hx hb dX1_keepIfBetter_53 rfl (lv_at hl 2 rfl) ?_
    refine va_get (D := D) (ci := 1) (v := .ref (q 31)) (C := RX1) (T := TX1) (N := 10) hx hb hts hiX1 hown hK hP 6 rfl rfl 6 (by decide) hf18 (fun _ h9 => h9) rfl dX1_keepIfBetter_54 ?_
    refine lv_iconst (v := 0) hx hb dX1_keepIfBetter_57 (by decide) ?_
    refine lv_bipush (v := 24) hx hb dX1_keepIfBetter_58 (by decide) ?_
    refine va_copyi hx hb (hml.trans hl.1.symm) hown hl124 hyN hyS hyI hK hP hD hS 30 31 0 0 rfl rfl rfl rfl rfl (by decide) (by decide) (by decide) (by decide) (by decide) (fun _ _ => rfl) (Nat.le_of_ble_eq_true rfl) (by decide +kernel) dX1_keepIfBetter_60 (sPut (w := wX q cI cJ cZ) (uu := uI u5 16 (va_cpy (u5.1 15) (u5.1 16) (0 : Int32).toNatClampNeg (0 : Int32).toNatClampNeg (24 : Int32).toNatClampNeg)) (wXa_31 q cI cJ cZ u5 _) (fun u6 H locs eu6 hP hD hS => ?_))
    have hw := hw u6 eu6
    exact W.vret hx hb hr (fun t ht hW => ⟨⟨u6, rfl, hw, by show va_P D vwCl _ t.heap; rw [ht]; exact hP⟩, hS.F ht⟩) hS.2.2 dX1_keepIfBetter_63
set_option maxHeartbeats 4000000 in
set_option maxRecDepth 100000 in
theorem c_X1_advance (l : Launch) (D : va_G) (q : Nat → Nat) (cI cJ cZ : ClassId) (sz : Nat) (u : WU) (x1 : Int32) (post : Int32 → WU → Prop) (hw : wp_X1_advance x1 u post) : Met l yX1_advance wsX1_advance rm_X1_advance (va_Pc [.ref (q 6), .int x1] (MW D (ty3 cI cJ cZ) (wX q cI cJ cZ u) sz)) (va_Qi post (fun u' t => va_P D vwCl (wX q cI cJ cZ u') t.heap) (va_A (wX q cI cJ cZ u00) sz)) 0 0 (va_A (wX q cI cJ cZ u00) sz) := by
  refine Met.ofW (cc := cX1_advance) (maxL := 4) (ret := (some .int)) (by decide) rfl ?_
  intro p e s m args below meth c s₁ B hml hv
  obtain ⟨hargs, hsz, hP, hK, hD0, hN⟩ := hv
  have hx := B.exec
  have hb := B.bytes
  have hr := B.returns
  have hts := atoms_spec (ws := wsX1_advance) B.pre
  have hown : s.vm.findClass RX1 = some m.cls := findClass_of_methodNamed B.named
  have hlocks := B.notSynchronized
  subst hsz
  have hD := shw_self (sz := s.heap.size) (sh_wX q cI cJ cZ) hD0
  have hA : ∀ a : Nat, s.heap.size ≤ a → va_A (wX q cI cJ cZ u00) s.heap.size a := fun _ h => Or.inr h
  have hS : va_S (va_A (wX q cI cJ cZ u00) s.heap.size) s.heap s.heap [] := va_S.rf
  have hiX1 : ∀ w ∈ u_ws RX1 TX1 10, w ∈ wsX1_advance := by decide +kernel
  have hiX5 : ∀ w ∈ u_ws RX5 TX5 6, w ∈ wsX1_advance := by decide +kernel
  have hf15 := hts (.fieldLink RX1 15 "TermsDesk$Chooser" "place" "[I") (by decide +kernel)
  have hf24 := hts (.fieldLink RX1 24 "TermsDesk$Chooser" "parts" "LTermsDesk$Parts;") (by decide +kernel)
  have hf9 := hts (.fieldLink RX1 9 "TermsDesk$Chooser" "line" "[I") (by decide +kernel)
  have L2 : ∀ (n : Nat) (x2 : Int32) (u : WU) (H : Heap) (locs : List Loc), wp_X1_advance_L2 post n x2 u → va_P D vwCl (wX q cI cJ cZ u) H → va_D (va_A (wX q cI cJ cZ u00) s.heap.size) (wX q cI cJ cZ u) → va_S (va_A (wX q cI cJ cZ u00) s.heap.size) s.heap H locs → ∀ ls : Array Slot, lv_has ls 4 [(0, .ref (q 6)), (2, .int x2)] → W p l e (headSpec wsX1_advance rm_X1_advance).room s m args below meth c H locs 0 0 (MQ below (va_Qi post (fun u' t => va_P D vwCl (wX q cI cJ cZ u') t.heap) (va_A (wX q cI cJ cZ u00) s.heap.size)) args s 0 0 (va_A (wX q cI cJ cZ u00) s.heap.size)) (F0 m 2 ls []) := by
    intro  n
    induction n with
    | zero =>
      intro x2 u H locs hw
      exact hw.elim
    | succ n ih =>
      intro x2 u H locs hw hP hD hS ls hl 
      unfold wp_X1_advance_L2 at hw
      refine lv_iload_n hx hb dX1_advance_2 rfl (lv_at hl 1 rfl) ?_
      refine lv_if_lt (tgt := 58) hx hb dX1_advance_3 (by decide) (fun hc => ?_) (fun hc => ?_)
      · have hw := hw.1 hc
        refine lv_iconst (v := (-1)) hx hb dX1_advance_58 (by decide) ?_
        exact W.iret (v := (-1)) hx hb hr (fun t ht hW => ⟨⟨(-1), u, rfl, hw, by show va_P D vwCl _ t.heap; rw [ht]; exact hP⟩, hS.F ht⟩) hS.2.2 dX1_advance_59
      · have hw := hw.2 hc
        refine lv_aload_n hx hb dX1_advance_6 rfl (lv_at hl 0 rfl) ?_
        refine va_get (D := D) (ci := 1) (v := .ref (q 29)) (C := RX1) (T := TX1) (N := 10) hx hb hts hiX1 hown hK hP 6 rfl rfl 3 (by decide) hf9 (fun _ h9 => h9) rfl dX1_advance_7 ?_
        refine lv_iload_n hx hb dX1_advance_10 rfl (lv_at hl 1 rfl) ?_
        obtain ⟨hin, hw⟩ := hw
        refine va_iald hx hb hK hP 29 0 rfl rfl hin dX1_advance_11 ?_
        refine lv_topi (fun y1 ey1 => ?_)
        have hw := hw y1 ey1
        refine lv_istore_n (lv' := [(3, .int y1), (0, .ref (q 6)), (2, .int x2)]) hx hb dX1_advance_12 rfl hl (by decide) rfl (fun ls hl => ?_)
        refine lv_aload_n hx hb dX1_advance_13 rfl (lv_at hl 1 rfl) ?_
        refine va_get (D := D) (ci := 1) (v := .ref (q 30)) (C := RX1) (T := TX1) (N := 10) hx hb hts hiX1 hown hK hP 6 rfl rfl 5 (by decide) hf15 (fun _ h9 => h9) rfl dX1_advance_14 ?_
        refine lv_iload_n hx hb dX1_advance_17 rfl (lv_at hl 0 rfl) ?_
        obtain ⟨hin, hw⟩ := hw
        refine va_iald hx hb hK hP 30 0 rfl rfl hin dX1_advance_18 ?_
        refine lv_iconst (v := 1) hx hb dX1_advance_19 (by decide) ?_
        refine lv_iadd hx hb dX1_advance_20 ?_
        refine lv_aload_n hx hb dX1_advance_21 rfl (lv_at hl 1 rfl) ?_
        refine va_get (D := D) (ci := 1) (v := .ref (q 2)) (C := RX1) (T := TX1) (N := 10) hx hb hts hiX1 hown hK hP 6 rfl rfl 0 (by decide) hf24 (fun _ h9 => h9) rfl dX1_advance_22 ?_
        refine va_getN (D := D) (ci := 5) (v := .ref (q 13)) (C := RX5) (T := TX5) (N := 6) hx hb hts hiX5 hown hK hP 2 rfl rfl 1 (by decide) (va_Nw.use rfl (nf_RX1_110 hN)) (fun _ h9 => h9) rfl dX1_advance_25 ?_
        refine lv_iload_n hx hb dX1_advance_28 rfl (lv_at hl 0 rfl) ?_
        obtain ⟨hin, hw⟩ := hw
        refine va_iald hx hb hK hP 13 0 rfl rfl hin dX1_advance_29 ?_
        refine lv_icmp_ge (tgt := 45) hx hb dX1_advance_30 (by decide) (fun hc => ?_) (fun hc => ?_)
        · have hw := hw.1 hc
          refine lv_aload_n hx hb dX1_advance_45 rfl (lv_at hl 1 rfl) ?_
          refine va_get (D := D) (ci := 1) (v := .ref (q 30)) (C := RX1) (T := TX1) (N := 10) hx hb hts hiX1 hown hK hP 6 rfl rfl 5 (by decide) hf15 (fun _ h9 => h9) rfl dX1_advance_46 ?_
          refine lv_iload_n hx hb dX1_advance_49 rfl (lv_at hl 0 rfl) ?_
          refine lv_iconst (v := 0) hx hb dX1_advance_50 (by decide) ?_
          obtain ⟨hin, hw⟩ := hw
          refine sIast (w := wX q cI cJ cZ) hx hb hK hP hD hS 30 0 15 rfl rfl (wXa_30 q cI cJ cZ u) hin dX1_advance_51 (fun u2 H locs eu2 hP hD hS => ?_)
          have hw := hw u2 eu2
          obtain ⟨y3, ey3⟩ : ∃ z : Int32, z = x2 + (-1) := ⟨_, rfl⟩
          have hw := hw y3 ey3
          refine lv_iinc (v := y3) (lv' := [(2, .int y3), (3, .int y1), (0, .ref (q 6))]) hx hb dX1_advance_52 hl (k := 2) rfl (by rw [ey3]; rfl) (by decide) rfl (fun ls hl => ?_)
          refine lv_goto (tgt := 2) hx hb dX1_advance_55 (by decide) ?_
          exact ih y3 u2 _ _ hw hP hD hS ls (lv_sub hl [2, 0] rfl)
        · have hw := hw.2 hc
          refine lv_aload_n hx hb dX1_advance_33 rfl (lv_at hl 1 rfl) ?_
          refine va_get (D := D) (ci := 1) (v := .ref (q 30)) (C := RX1) (T := TX1) (N := 10) hx hb hts hiX1 hown hK hP 6 rfl rfl 5 (by decide) hf15 (fun _ h9 => h9) rfl dX1_advance_34 ?_
          refine lv_iload_n hx hb dX1_advance_37 rfl (lv_at hl 0 rfl) ?_
          refine lv_dup2_11 hx hb dX1_advance_38 rfl rfl ?_
          obtain ⟨hin, hw⟩ := hw
          refine va_iald hx hb hK hP 30 0 rfl rfl hin dX1_advance_39 ?_
          refine lv_iconst (v := 1) hx hb dX1_advance_40 (by decide) ?_
          refine lv_iadd hx hb dX1_advance_41 ?_
          obtain ⟨hin, hw⟩ := hw
          refine sIast (w := wX q cI cJ cZ) hx hb hK hP hD hS 30 0 15 rfl rfl (wXa_30 q cI cJ cZ u) hin dX1_advance_42 (fun u4 H locs eu4 hP hD hS => ?_)
          have hw := hw u4 eu4
          refine lv_iload_n hx hb dX1_advance_43 rfl (lv_at hl 2 rfl) ?_
          exact W.iret (v := x2) hx hb hr (fun t ht hW => ⟨⟨x2, u4, rfl, hw, by show va_P D vwCl _ t.heap; rw [ht]; exact hP⟩, hS.F ht⟩) hS.2.2 dX1_advance_44
  have hent := lg_entry_eq m ([.ref (q 6), .int x1]) 4
  rw [← hargs] at hent
  rw [hent]
  have hl := lv_entry ([.ref (q 6), .int x1]) (n := 4) (Nat.le_of_ble_eq_true rfl)
  generalize (lg_sl ([.ref (q 6), .int x1]) ++ List.replicate (4 - (lg_sl ([.ref (q 6), .int x1])).length) Slot.unset).toArray = ls at hl ⊢
  have hl : lv_has ls 4 [(0, .ref (q 6)), (1, .int x1)] := hl
  unfold wp_X1_advance at hw
  refine lv_iload_n hx hb dX1_advance_0 rfl (lv_at hl 1 rfl) ?_
  refine lv_istore_n (lv' := [(2, .int x1), (0, .ref (q 6)), (1, .int x1)]) hx hb dX1_advance_1 rfl hl (by decide) rfl (fun ls hl => ?_)
  obtain ⟨nn, hw⟩ := hw
  refine L2 nn x1 u _ _ hw hP hD hS ls (lv_sub hl [1, 0] rfl)
set_option maxHeartbeats 4000000 in
set_option maxRecDepth 100000 in
theorem c_X1_takeKept (l : Launch) (D : va_G) (q : Nat → Nat) (cI cJ cZ : ClassId) (sz : Nat) (u : WU) (post : WU → Prop) (hw : wp_X1_takeKept u post) : Met l yX1_takeKept wsX1_takeKept rm_X1_takeKept (va_Pc [.ref (q 6)] (MW D (ty3 cI cJ cZ) (wX q cI cJ cZ u) sz)) (va_Qv post (fun u' t => va_P D vwCl (wX q cI cJ cZ u') t.heap) (va_A (wX q cI cJ cZ u00) sz)) 0 0 (va_A (wX q cI cJ cZ u00) sz) := by
  refine Met.ofW (cc := cX1_takeKept) (maxL := 3) (ret := none) (by decide) rfl ?_
  intro p e s m args below meth c s₁ B hml hv
  obtain ⟨hargs, hsz, hP, hK, hD0, hN⟩ := hv
  have hx := B.exec
  have hb := B.bytes
  have hr := B.returns
  have hts := atoms_spec (ws := wsX1_takeKept) B.pre
  have hown : s.vm.findClass RX1 = some m.cls := findClass_of_methodNamed B.named
  have hlocks := B.notSynchronized
  subst hsz
  have hD := shw_self (sz := s.heap.size) (sh_wX q cI cJ cZ) hD0
  have hA : ∀ a : Nat, s.heap.size ≤ a → va_A (wX q cI cJ cZ u00) s.heap.size a := fun _ h => Or.inr h
  have hS : va_S (va_A (wX q cI cJ cZ u00) s.heap.size) s.heap s.heap [] := va_S.rf
  have hiX1 : ∀ w ∈ u_ws RX1 TX1 10, w ∈ wsX1_takeKept := by decide +kernel
  have hiX5 : ∀ w ∈ u_ws RX5 TX5 6, w ∈ wsX1_takeKept := by decide +kernel
  have hf18 := hts (.fieldLink RX1 18 "TermsDesk$Chooser" "bestPlace" "[I") (by decide +kernel)
  have hf24 := hts (.fieldLink RX1 24 "TermsDesk$Chooser" "parts" "LTermsDesk$Parts;") (by decide +kernel)
  have hf63 := hts (.fieldLink RX1 63 "TermsDesk$Chooser" "length" "I") (by decide +kernel)
  have hf9 := hts (.fieldLink RX1 9 "TermsDesk$Chooser" "line" "[I") (by decide +kernel)
  have L2 : ∀ (n : Nat) (x1 : Int32) (u : WU) (H : Heap) (locs : List Loc), wp_X1_takeKept_L2 post n x1 u → va_P D vwCl (wX q cI cJ cZ u) H → va_D (va_A (wX q cI cJ cZ u00) s.heap.size) (wX q cI cJ cZ u) → va_S (va_A (wX q cI cJ cZ u00) s.heap.size) s.heap H locs → ∀ ls : Array Slot, lv_has ls 3 [(0, .ref (q 6)), (1, .int x1)] → W p l e (headSpec wsX1_takeKept rm_X1_takeKept).room s m args below meth c H locs 0 0 (MQ below (va_Qv post (fun u' t => va_P D vwCl (wX q cI cJ cZ u') t.heap) (va_A (wX q cI cJ cZ u00) s.heap.size)) args s 0 0 (va_A (wX q cI cJ cZ u00) s.heap.size)) (F0 m 2 ls []) := by
    intro  n
    induction n with
    | zero =>
      intro x1 u H locs hw
      exact hw.elim
    | succ n ih =>
      intro x1 u H locs hw hP hD hS ls hl 
      unfold wp_X1_takeKept_L2 at hw
      refine lv_iload_n hx hb dX1_takeKept_2 rfl (lv_at hl 1 rfl) ?_
      refine lv_aload_n hx hb dX1_takeKept_3 rfl (lv_at hl 0 rfl) ?_
      refine va_get (D := D) (ci := 1) (v := .int (u.1 24 0)) (C := RX1) (T := TX1) (N := 10) hx hb hts hiX1 hown hK hP 6 rfl rfl 4 (by decide) hf63 (fun _ h9 => h9) rfl dX1_takeKept_4 ?_
      refine lv_icmp_ge (tgt := 46) hx hb dX1_takeKept_7 (by decide) (fun hc => ?_) (fun hc => ?_)
      · have hw := hw.1 hc
        exact W.vret hx hb hr (fun t ht hW => ⟨⟨u, rfl, hw, by show va_P D vwCl _ t.heap; rw [ht]; exact hP⟩, hS.F ht⟩) hS.2.2 dX1_takeKept_46
      · have hw := hw.2 hc
        refine lv_aload_n hx hb dX1_takeKept_10 rfl (lv_at hl 0 rfl) ?_
        refine va_get (D := D) (ci := 1) (v := .ref (q 29)) (C := RX1) (T := TX1) (N := 10) hx hb hts hiX1 hown hK hP 6 rfl rfl 3 (by decide) hf9 (fun _ h9 => h9) rfl dX1_takeKept_11 ?_
        refine lv_iload_n hx hb dX1_takeKept_14 rfl (lv_at hl 1 rfl) ?_
        obtain ⟨hin, hw⟩ := hw
        refine va_iald hx hb hK hP 29 0 rfl rfl hin dX1_takeKept_15 ?_
        refine lv_topi (fun y1 ey1 => ?_)
        have hw := hw y1 ey1
        refine lv_istore_n (lv' := [(2, .int y1), (0, .ref (q 6)), (1, .int x1)]) hx hb dX1_takeKept_16 rfl hl (by decide) rfl (fun ls hl => ?_)
        refine lv_aload_n hx hb dX1_takeKept_17 rfl (lv_at hl 1 rfl) ?_
        refine va_get (D := D) (ci := 1) (v := .ref (q 2)) (C := RX1) (T := TX1) (N := 10) hx hb hts hiX1 hown hK hP 6 rfl rfl 0 (by decide) hf24 (fun _ h9 => h9) rfl dX1_takeKept_18 ?_
        refine va_getN (D := D) (ci := 5) (v := .ref (q 14)) (C := RX5) (T := TX5) (N := 6) hx hb hts hiX5 hown hK hP 2 rfl rfl 2 (by decide) (va_Nw.use rfl (nf_RX1_130 hN)) (fun _ h9 => h9) rfl dX1_takeKept_21 ?_
        refine lv_iload_n hx hb dX1_takeKept_24 rfl (lv_at hl 0 rfl) ?_
        refine lv_aload_n hx hb dX1_takeKept_25 rfl (lv_at hl 1 rfl) ?_
        refine va_get (D := D) (ci := 1) (v := .ref (q 2)) (C := RX1) (T := TX1) (N := 10) hx hb hts hiX1 hown hK hP 6 rfl rfl 0 (by decide) hf24 (fun _ h9 => h9) rfl dX1_takeKept_26 ?_
        refine lv_iload_n hx hb dX1_takeKept_29 rfl (lv_at hl 0 rfl) ?_
        refine lv_aload_n hx hb dX1_takeKept_30 rfl (lv_at hl 1 rfl) ?_
        refine va_get (D := D) (ci := 1) (v := .ref (q 31)) (C := RX1) (T := TX1) (N := 10) hx hb hts hiX1 hown hK hP 6 rfl rfl 6 (by decide) hf18 (fun _ h9 => h9) rfl dX1_takeKept_31 ?_
        refine lv_iload_n hx hb dX1_takeKept_34 rfl (lv_at hl 0 rfl) ?_
        obtain ⟨hin, hw⟩ := hw
        refine va_iald hx hb hK hP 31 0 rfl rfl hin dX1_takeKept_35 ?_
        refine vp_callSi (va_Run.run (va_runV (As := [.int y1, .int (u.1 16 y1.toNatClampNeg)]) (rest := [.int y1, .ref (q 14)]) ⟨hx, hb, hml, hown, hts⟩ (c_X5_choiceOf l D q cI cJ cZ u y1 (u.1 16 y1.toNatClampNeg) _ hw) (cwV 2 hts gX1_takeKept_X5_choiceOf rfl rfl rfl (by decide +kernel) ⟨Nat.le_of_ble_eq_true rfl, Nat.le_of_ble_eq_true rfl⟩) (pvR (va_recv hK hP (ci := 5) (q0 := 2) (q := (RX5, TX5, 6)) rfl rfl) hK hP hN) rfl rfl hl.1 rfl (lv_room (Nat.le_of_ble_eq_true rfl)) dX1_takeKept_36 ⟨Nat.zero_le _, Nat.zero_le _⟩)) (fun r2 hw => ?_)
        obtain ⟨hin, hw⟩ := hw
        refine sIast (w := wX q cI cJ cZ) hx hb hK hP hD hS 14 0 2 rfl rfl (wXa_14 q cI cJ cZ u) hin dX1_takeKept_39 (fun u3 H locs eu3 hP hD hS => ?_)
        have hw := hw u3 eu3
        obtain ⟨y4, ey4⟩ : ∃ z : Int32, z = x1 + 1 := ⟨_, rfl⟩
        have hw := hw y4 ey4
        refine lv_iinc (v := y4) (lv' := [(1, .int y4), (2, .int y1), (0, .ref (q 6))]) hx hb dX1_takeKept_40 hl (k := 2) rfl (by rw [ey4]; rfl) (by decide) rfl (fun ls hl => ?_)
        refine lv_goto (tgt := 2) hx hb dX1_takeKept_43 (by decide) ?_
        exact ih y4 u3 _ _ hw hP hD hS ls (lv_sub hl [2, 0] rfl)
  have hent := lg_entry_eq m ([.ref (q 6)]) 3
  rw [← hargs] at hent
  rw [hent]
  have hl := lv_entry ([.ref (q 6)]) (n := 3) (Nat.le_of_ble_eq_true rfl)
  generalize (lg_sl ([.ref (q 6)]) ++ List.replicate (3 - (lg_sl ([.ref (q 6)])).length) Slot.unset).toArray = ls at hl ⊢
  have hl : lv_has ls 3 [(0, .ref (q 6))] := hl
  unfold wp_X1_takeKept at hw
  refine lv_iconst (v := 0) hx hb dX1_takeKept_0 (by decide) ?_
  refine lv_istore_n (lv' := [(1, .int 0), (0, .ref (q 6))]) hx hb dX1_takeKept_1 rfl hl (by decide) rfl (fun ls hl => ?_)
  obtain ⟨nn, hw⟩ := hw
  refine L2 nn 0 u _ _ hw hP hD hS ls (lv_sub hl [1, 0] rfl)
set_option maxHeartbeats 4000000 in
set_option maxRecDepth 100000 in
theorem c_X1_lineUp (l : Launch) (D : va_G) (q : Nat → Nat) (cI cJ cZ : ClassId) (sz : Nat) (u : WU) (x1 : Int32) (post : WU → Prop) (hw : wp_X1_lineUp x1 u post) : Met l yX1_lineUp wsX1_lineUp rm_X1_lineUp (va_Pc [.ref (q 6), .int x1] (MW D (ty3 cI cJ cZ) (wX q cI cJ cZ u) sz)) (va_Qv post (fun u' t => va_P D vwCl (wX q cI cJ cZ u') t.heap) (va_A (wX q cI cJ cZ u00) sz)) 0 0 (va_A (wX q cI cJ cZ u00) sz) := by
  refine Met.ofW (cc := cX1_lineUp) (maxL := 4) (ret := none) (by decide) rfl ?_
  intro p e s m args below meth c s₁ B hml hv
  obtain ⟨hargs, hsz, hP, hK, hD0, hN⟩ := hv
  have hx := B.exec
  have hb := B.bytes
  have hr := B.returns
  have hts := atoms_spec (ws := wsX1_lineUp) B.pre
  have hown : s.vm.findClass RX1 = some m.cls := findClass_of_methodNamed B.named
  have hlocks := B.notSynchronized
  subst hsz
  have hD := shw_self (sz := s.heap.size) (sh_wX q cI cJ cZ) hD0
  have hA : ∀ a : Nat, s.heap.size ≤ a → va_A (wX q cI cJ cZ u00) s.heap.size a := fun _ h => Or.inr h
  have hS : va_S (va_A (wX q cI cJ cZ u00) s.heap.size) s.heap s.heap [] := va_S.rf
  have hiX1 : ∀ w ∈ u_ws RX1 TX1 10, w ∈ wsX1_lineUp := by decide +kernel
  have hiX3 : ∀ w ∈ u_ws RX3 TX3 9, w ∈ wsX1_lineUp := by decide +kernel
  have hf15 := hts (.fieldLink RX1 15 "TermsDesk$Chooser" "place" "[I") (by decide +kernel)
  have hf28 := hts (.fieldLink RX1 28 "TermsDesk$Chooser" "joins" "LTermsDesk$Joins;") (by decide +kernel)
  have hf63 := hts (.fieldLink RX1 63 "TermsDesk$Chooser" "length" "I") (by decide +kernel)
  have hf9 := hts (.fieldLink RX1 9 "TermsDesk$Chooser" "line" "[I") (by decide +kernel)
  have hi_RX8 := hts (.initialized RX8) (by decide +kernel)
  have hs_X8_holds := hts (.static yX8_holds) (by decide +kernel)
  have J68 : ∀ {K7 : Int32 → WU → Prop} (x1 : Int32) (x2 : Int32) (u : WU) (H : Heap) (locs : List Loc), wp_X1_lineUp_J68 x1 x2 u post K7 → va_P D vwCl (wX q cI cJ cZ u) H → va_D (va_A (wX q cI cJ cZ u00) s.heap.size) (wX q cI cJ cZ u) → va_S (va_A (wX q cI cJ cZ u00) s.heap.size) s.heap H locs → ∀ ls : Array Slot, lv_has ls 4 [(0, .ref (q 6)), (1, .int x1), (2, .int x2)] → (∀ (x2 : Int32) (u : WU) (H : Heap) (locs : List Loc), K7 x2 u → va_P D vwCl (wX q cI cJ cZ u) H → va_D (va_A (wX q cI cJ cZ u00) s.heap.size) (wX q cI cJ cZ u) → va_S (va_A (wX q cI cJ cZ u00) s.heap.size) s.heap H locs → ∀ ls : Array Slot, lv_has ls 4 [(0, .ref (q 6)), (1, .int x1), (2, .int x2)] → W p l e (headSpec wsX1_lineUp rm_X1_lineUp).room s m args below meth c H locs 0 0 (MQ below (va_Qv post (fun u' t => va_P D vwCl (wX q cI cJ cZ u') t.heap) (va_A (wX q cI cJ cZ u00) s.heap.size)) args s 0 0 (va_A (wX q cI cJ cZ u00) s.heap.size)) (F0 m 7 ls [])) → W p l e (headSpec wsX1_lineUp rm_X1_lineUp).room s m args below meth c H locs 0 0 (MQ below (va_Qv post (fun u' t => va_P D vwCl (wX q cI cJ cZ u') t.heap) (va_A (wX q cI cJ cZ u00) s.heap.size)) args s 0 0 (va_A (wX q cI cJ cZ u00) s.heap.size)) (F0 m 68 ls []) := by
    intro K7 x1 x2 u H locs hw hP hD hS ls hl k7
    unfold wp_X1_lineUp_J68 at hw
    obtain ⟨y12, ey12⟩ : ∃ z : Int32, z = x2 + 1 := ⟨_, rfl⟩
    have hw := hw y12 ey12
    refine lv_iinc (v := y12) (lv' := [(2, .int y12), (0, .ref (q 6)), (1, .int x1)]) hx hb dX1_lineUp_68 hl (k := 2) rfl (by rw [ey12]; rfl) (by decide) rfl (fun ls hl => ?_)
    refine lv_goto (tgt := 7) hx hb dX1_lineUp_71 (by decide) ?_
    exact k7 y12 u _ _ hw hP hD hS ls (lv_sub hl [1, 2, 0] rfl)
  have L7 : ∀ (x1 : Int32) (n : Nat) (x2 : Int32) (u : WU) (H : Heap) (locs : List Loc), wp_X1_lineUp_L7 x1 post n x2 u → va_P D vwCl (wX q cI cJ cZ u) H → va_D (va_A (wX q cI cJ cZ u00) s.heap.size) (wX q cI cJ cZ u) → va_S (va_A (wX q cI cJ cZ u00) s.heap.size) s.heap H locs → ∀ ls : Array Slot, lv_has ls 4 [(0, .ref (q 6)), (1, .int x1), (2, .int x2)] → W p l e (headSpec wsX1_lineUp rm_X1_lineUp).room s m args below meth c H locs 0 0 (MQ below (va_Qv post (fun u' t => va_P D vwCl (wX q cI cJ cZ u') t.heap) (va_A (wX q cI cJ cZ u00) s.heap.size)) args s 0 0 (va_A (wX q cI cJ cZ u00) s.heap.size)) (F0 m 7 ls []) := by
    intro x1 n
    induction n with
    | zero =>
      intro x2 u H locs hw
      exact hw.elim
    | succ n ih =>
      intro x2 u H locs hw hP hD hS ls hl 
      unfold wp_X1_lineUp_L7 at hw
      refine lv_iload_n hx hb dX1_lineUp_7 rfl (lv_at hl 2 rfl) ?_
      refine lv_bipush (v := 24) hx hb dX1_lineUp_8 (by decide) ?_
      refine lv_icmp_ge (tgt := 74) hx hb dX1_lineUp_10 (by decide) (fun hc => ?_) (fun hc => ?_)
      · have hw := hw.1 hc
        exact W.vret hx hb hr (fun t ht hW => ⟨⟨u, rfl, hw, by show va_P D vwCl _ t.heap; rw [ht]; exact hP⟩, hS.F ht⟩) hS.2.2 dX1_lineUp_74
      · have hw := hw.2 hc
        refine lv_aload_n hx hb dX1_lineUp_13 rfl (lv_at hl 0 rfl) ?_
        refine va_get (D := D) (ci := 1) (v := .ref (q 3)) (C := RX1) (T := TX1) (N := 10) hx hb hts hiX1 hown hK hP 6 rfl rfl 1 (by decide) hf28 (fun _ h9 => h9) rfl dX1_lineUp_14 ?_
        refine va_getN (D := D) (ci := 3) (v := .ref (q 19)) (C := RX3) (T := TX3) (N := 9) hx hb hts hiX3 hown hK hP 3 rfl rfl 5 (by decide) (va_Nw.use rfl (nf_RX1_81 hN)) (fun _ h9 => h9) rfl dX1_lineUp_17 ?_
        refine lv_iload_n hx hb dX1_lineUp_20 rfl (lv_at hl 2 rfl) ?_
        obtain ⟨hin, hw⟩ := hw
        refine va_iald hx hb hK hP 19 0 rfl rfl hin dX1_lineUp_21 ?_
        refine lv_topi (fun y1 ey1 => ?_)
        have hw := hw y1 ey1
        refine lv_istore_n (lv' := [(3, .int y1), (0, .ref (q 6)), (1, .int x1), (2, .int x2)]) hx hb dX1_lineUp_22 rfl hl (by decide) rfl (fun ls hl => ?_)
        refine lv_aload_n hx hb dX1_lineUp_23 rfl (lv_at hl 1 rfl) ?_
        refine va_get (D := D) (ci := 1) (v := .ref (q 30)) (C := RX1) (T := TX1) (N := 10) hx hb hts hiX1 hown hK hP 6 rfl rfl 5 (by decide) hf15 (fun _ h9 => h9) rfl dX1_lineUp_24 ?_
        refine lv_iload_n hx hb dX1_lineUp_27 rfl (lv_at hl 0 rfl) ?_
        refine lv_iconst (v := 0) hx hb dX1_lineUp_28 (by decide) ?_
        obtain ⟨hin, hw⟩ := hw
        refine sIast (w := wX q cI cJ cZ) hx hb hK hP hD hS 30 0 15 rfl rfl (wXa_30 q cI cJ cZ u) hin dX1_lineUp_29 (fun u2 H locs eu2 hP hD hS => ?_)
        have hw := hw u2 eu2
        refine lv_iload_n hx hb dX1_lineUp_30 rfl (lv_at hl 2 rfl) ?_
        refine lv_i2l (v := x1.toInt64) hx hb dX1_lineUp_31 rfl ?_
        refine lv_iload_n hx hb dX1_lineUp_32 rfl (lv_at hl 0 rfl) ?_
        refine vp_callSi (va_Run.run (va_runSN (As := [.long x1.toInt64, .int y1]) (rest := []) ⟨hx, hb, hml, hown, hts⟩ (c_X8_holds l x1.toInt64 y1 _ hw) ⟨va_cnB 2 hts ggX1_lineUp_X8_holds rfl rfl rfl (nm_RX1_84 hN) hi_RX8 (by decide +kernel) ⟨Nat.le_of_ble_eq_true rfl, Nat.le_of_ble_eq_true rfl⟩, hs_X8_holds, trivial⟩ (psS hN) rfl rfl hl.1 rfl (lv_room (Nat.le_of_ble_eq_true rfl)) dX1_lineUp_33 ⟨Nat.zero_le _, Nat.zero_le _⟩)) (fun r3 hw => ?_)
        refine lv_if_eq (tgt := 68) hx hb dX1_lineUp_36 (by decide) (fun hc => ?_) (fun hc => ?_)
        · have hw := hw.1 hc
          refine J68 x1 x2 u2 _ _ hw hP hD hS ls (lv_sub hl [1, 2, 3] rfl) (fun y4 u5 H locs hw hP hD hS ls hl => ?_)
          exact ih y4 u5 _ _ hw hP hD hS ls (lv_sub hl [0, 1, 2] rfl)
        · have hw := hw.2 hc
          refine lv_aload_n hx hb dX1_lineUp_39 rfl (lv_at hl 1 rfl) ?_
          refine va_get (D := D) (ci := 1) (v := .int (u2.1 24 0)) (C := RX1) (T := TX1) (N := 10) hx hb hts hiX1 hown hK hP 6 rfl rfl 4 (by decide) hf63 (fun _ h9 => h9) rfl dX1_lineUp_40 ?_
          refine lv_bipush (v := 24) hx hb dX1_lineUp_43 (by decide) ?_
          refine lv_icmp_ge (tgt := 68) hx hb dX1_lineUp_45 (by decide) (fun hc => ?_) (fun hc => ?_)
          · have hw := hw.1 hc
            refine J68 x1 x2 u2 _ _ hw hP hD hS ls (lv_sub hl [1, 2, 3] rfl) (fun y6 u7 H locs hw hP hD hS ls hl => ?_)
            exact ih y6 u7 _ _ hw hP hD hS ls (lv_sub hl [0, 1, 2] rfl)
          · have hw := hw.2 hc
            refine lv_aload_n hx hb dX1_lineUp_48 rfl (lv_at hl 1 rfl) ?_
            refine va_get (D := D) (ci := 1) (v := .ref (q 29)) (C := RX1) (T := TX1) (N := 10) hx hb hts hiX1 hown hK hP 6 rfl rfl 3 (by decide) hf9 (fun _ h9 => h9) rfl dX1_lineUp_49 ?_
            refine lv_aload_n hx hb dX1_lineUp_52 rfl (lv_at hl 1 rfl) ?_
            refine va_get (D := D) (ci := 1) (v := .int (u2.1 24 0)) (C := RX1) (T := TX1) (N := 10) hx hb hts hiX1 hown hK hP 6 rfl rfl 4 (by decide) hf63 (fun _ h9 => h9) rfl dX1_lineUp_53 ?_
            refine lv_iload_n hx hb dX1_lineUp_56 rfl (lv_at hl 0 rfl) ?_
            obtain ⟨hin, hw⟩ := hw
            refine sIast (w := wX q cI cJ cZ) hx hb hK hP hD hS 29 0 14 rfl rfl (wXa_29 q cI cJ cZ u2) hin dX1_lineUp_57 (fun u8 H locs eu8 hP hD hS => ?_)
            have hw := hw u8 eu8
            refine lv_aload_n hx hb dX1_lineUp_58 rfl (lv_at hl 1 rfl) ?_
            refine lv_dup hx hb dX1_lineUp_59 rfl ?_
            refine va_get (D := D) (ci := 1) (v := .int (u8.1 24 0)) (C := RX1) (T := TX1) (N := 10) hx hb hts hiX1 hown hK hP 6 rfl rfl 4 (by decide) hf63 (fun _ h9 => h9) rfl dX1_lineUp_60 ?_
            refine lv_iconst (v := 1) hx hb dX1_lineUp_63 (by decide) ?_
            refine lv_iadd hx hb dX1_lineUp_64 ?_
            refine va_put (D := D) (ci := 1) (v := .int ((u8.1 24 0) + 1)) (ty := .int) (C := RX1) (T := TX1) (N := 10) hx hb hts hiX1 tyX1 tyX1_ok nmX1 hown hK hP hD hS 6 rfl rfl 4 (by decide) hf63 (fun _ h9 => h9) rfl (by decide +kernel) rfl rfl (Nat.le_of_ble_eq_true rfl) dX1_lineUp_65 (sPut (w := wX q cI cJ cZ) (uu := uI u8 24 (fun _ => (u8.1 24 0) + 1)) (wXs_X1_4 q cI cJ cZ u8 _) (fun u9 H locs eu9 hP hD hS => ?_))
            have hw := hw u9 eu9
            refine J68 x1 x2 u9 _ _ hw hP hD hS ls (lv_sub hl [1, 2, 3] rfl) (fun y10 u11 H locs hw hP hD hS ls hl => ?_)
            exact ih y10 u11 _ _ hw hP hD hS ls (lv_sub hl [0, 1, 2] rfl)
  have hent := lg_entry_eq m ([.ref (q 6), .int x1]) 4
  rw [← hargs] at hent
  rw [hent]
  have hl := lv_entry ([.ref (q 6), .int x1]) (n := 4) (Nat.le_of_ble_eq_true rfl)
  generalize (lg_sl ([.ref (q 6), .int x1]) ++ List.replicate (4 - (lg_sl ([.ref (q 6), .int x1])).length) Slot.unset).toArray = ls at hl ⊢
  have hl : lv_has ls 4 [(0, .ref (q 6)), (1, .int x1)] := hl
  unfold wp_X1_lineUp at hw
  refine lv_aload_n hx hb dX1_lineUp_0 rfl (lv_at hl 0 rfl) ?_
  refine lv_iconst (v := 0) hx hb dX1_lineUp_1 (by decide) ?_
  refine va_put (D := D) (ci := 1) (v := .int 0) (ty := .int) (C := RX1) (T := TX1) (N := 10) hx hb hts hiX1 tyX1 tyX1_ok nmX1 hown hK hP hD hS 6 rfl rfl 4 (by decide) hf63 (fun _ h9 => h9) rfl (by decide +kernel) rfl rfl (Nat.le_of_ble_eq_true rfl) dX1_lineUp_2 (sPut (w := wX q cI cJ cZ) (uu := uI u 24 (fun _ => 0)) (wXs_X1_4 q cI cJ cZ u _) (fun u13 H locs eu13 hP hD hS => ?_))
  have hw := hw u13 eu13
  refine lv_iconst (v := 0) hx hb dX1_lineUp_5 (by decide) ?_
  refine lv_istore_n (lv' := [(2, .int 0), (0, .ref (q 6)), (1, .int x1)]) hx hb dX1_lineUp_6 rfl hl (by decide) rfl (fun ls hl => ?_)
  obtain ⟨nn, hw⟩ := hw
  refine L7 x1 nn 0 u13 _ _ hw hP hD hS ls (lv_sub hl [1, 2, 0] rfl)
set_option maxHeartbeats 4000000 in
set_option maxRecDepth 100000 in
theorem c_X1_takeBest (l : Launch) (D : va_G) (q : Nat → Nat) (cI cJ cZ : ClassId) (sz : Nat) (u : WU) (x1 : Int32) (post : Int32 → WU → Prop) (hw : wp_X1_takeBest x1 u post) : Met l yX1_takeBest wsX1_takeBest rm_X1_takeBest (va_Pc [.ref (q 6), .int x1] (MW D (ty3 cI cJ cZ) (wX q cI cJ cZ u) sz)) (va_Qi post (fun u' t => va_P D vwCl (wX q cI cJ cZ u') t.heap) (va_A (wX q cI cJ cZ u00) sz)) 0 0 (va_A (wX q cI cJ cZ u00) sz) := by
  refine Met.ofW (cc := cX1_takeBest) (maxL := 5) (ret := (some .int)) (by decide) rfl ?_
  intro p e s m args below meth c s₁ B hml hv
  obtain ⟨hargs, hsz, hP, hK, hD0, hN⟩ := hv
  have hx := B.exec
  have hb := B.bytes
  have hr := B.returns
  have hts := atoms_spec (ws := wsX1_takeBest) B.pre
  have hown : s.vm.findClass RX1 = some m.cls := findClass_of_methodNamed B.named
  have hlocks := B.notSynchronized
  subst hsz
  have hD := shw_self (sz := s.heap.size) (sh_wX q cI cJ cZ) hD0
  have hA : ∀ a : Nat, s.heap.size ≤ a → va_A (wX q cI cJ cZ u00) s.heap.size a := fun _ h => Or.inr h
  have hS : va_S (va_A (wX q cI cJ cZ u00) s.heap.size) s.heap s.heap [] := va_S.rf
  have hiX1 : ∀ w ∈ u_ws RX1 TX1 10, w ∈ wsX1_takeBest := by decide +kernel
  have hiX3 : ∀ w ∈ u_ws RX3 TX3 9, w ∈ wsX1_takeBest := by decide +kernel
  have hf28 := hts (.fieldLink RX1 28 "TermsDesk$Chooser" "joins" "LTermsDesk$Joins;") (by decide +kernel)
  have hf32 := hts (.fieldLink RX1 32 "TermsDesk$Chooser" "flow" "LTermsDesk$Flow;") (by decide +kernel)
  have hf52 := hts (.fieldLink RX1 52 "TermsDesk$Chooser" "bestQuarrels" "I") (by decide +kernel)
  have hf56 := hts (.fieldLink RX1 56 "TermsDesk$Chooser" "bestPairs" "I") (by decide +kernel)
  have hf63 := hts (.fieldLink RX1 63 "TermsDesk$Chooser" "length" "I") (by decide +kernel)
  have hl69 := hts (.methodLink RX1 69 Lib.Math.min.name) (by decide +kernel)
  have hmC := hts (.code Lib.Math.min.name Lib.Math.min.code 2 (some .int)) (by decide +kernel)
  have hmI := hts (.initialized "java/lang/Math") (by decide +kernel)
  have hmS := hts (.static Lib.Math.min.name) (by decide +kernel)
  have J69 : ∀ {K36 : Int32 → Int32 → WU → Prop} (x1 : Int32) (x3 : Int32) (x4 : Int32) (u : WU) (H : Heap) (locs : List Loc), wp_X1_takeBest_J69 x1 x3 x4 u post K36 → va_P D vwCl (wX q cI cJ cZ u) H → va_D (va_A (wX q cI cJ cZ u00) s.heap.size) (wX q cI cJ cZ u) → va_S (va_A (wX q cI cJ cZ u00) s.heap.size) s.heap H locs → ∀ ls : Array Slot, lv_has ls 5 [(0, .ref (q 6)), (1, .int x1), (3, .int x3), (4, .int x4)] → (∀ (x2 : Int32) (x3 : Int32) (u : WU) (H : Heap) (locs : List Loc), K36 x2 x3 u → va_P D vwCl (wX q cI cJ cZ u) H → va_D (va_A (wX q cI cJ cZ u00) s.heap.size) (wX q cI cJ cZ u) → va_S (va_A (wX q cI cJ cZ u00) s.heap.size) s.heap H locs → ∀ ls : Array Slot, lv_has ls 5 [(0, .ref (q 6)), (1, .int x1), (2, .int x2), (3, .int x3)] → W p l e (headSpec wsX1_takeBest rm_X1_takeBest).room s m args below meth c H locs 0 0 (MQ below (va_Qi post (fun u' t => va_P D vwCl (wX q cI cJ cZ u') t.heap) (va_A (wX q cI cJ cZ u00) s.heap.size)) args s 0 0 (va_A (wX q cI cJ cZ u00) s.heap.size)) (F0 m 36 ls [])) → W p l e (headSpec wsX1_takeBest rm_X1_takeBest).room s m args below meth c H locs 0 0 (MQ below (va_Qi post (fun u' t => va_P D vwCl (wX q cI cJ cZ u') t.heap) (va_A (wX q cI cJ cZ u00) s.heap.size)) args s 0 0 (va_A (wX q cI cJ cZ u00) s.heap.size)) (F0 m 69 ls []) := by
    intro K36 x1 x3 x4 u H locs hw hP hD hS ls hl k36
    unfold wp_X1_takeBest_J69 at hw
    refine lv_aload_n hx hb dX1_takeBest_69 rfl (lv_at hl 0 rfl) ?_
    refine lv_iload hx hb dX1_takeBest_70 (lv_at hl 3 rfl) ?_
    refine lv_aload_n hx hb dX1_takeBest_72 rfl (lv_at hl 0 rfl) ?_
    refine va_get (D := D) (ci := 1) (v := .int (u.1 24 0)) (C := RX1) (T := TX1) (N := 10) hx hb hts hiX1 hown hK hP 6 rfl rfl 4 (by decide) hf63 (fun _ h9 => h9) rfl dX1_takeBest_73 ?_
    refine lv_iconst (v := 1) hx hb dX1_takeBest_76 (by decide) ?_
    refine lv_isub hx hb dX1_takeBest_77 ?_
    refine va_mmin hx hb (hml.trans hl.1.symm) hown hl69 hmS hmI hmC (Nat.le_of_ble_eq_true rfl) (Nat.le_of_ble_eq_true rfl) (Nat.zero_le _) (Nat.zero_le _) dX1_takeBest_78 ?_
    refine cMi (sh_wX q cI cJ cZ) (u := u) (va_runV (As := [.int (if ((u.1 24 0) - 1) < x4 then ((u.1 24 0) - 1) else x4)]) (rest := []) ⟨hx, hb, hml, hown, hts⟩ (c_X1_advance l D q cI cJ cZ _ u (if ((u.1 24 0) - 1) < x4 then ((u.1 24 0) - 1) else x4) _ hw) (cwV 1 hts gX1_takeBest_X1_advance rfl rfl rfl (by decide +kernel) ⟨Nat.le_of_ble_eq_true rfl, Nat.le_of_ble_eq_true rfl⟩) (pvM (va_recv hK hP (ci := 1) (q0 := 6) (q := (RX1, TX1, 10)) rfl rfl) hK hP hD hN) rfl rfl hl.1 rfl (lv_room (Nat.le_of_ble_eq_true rfl)) dX1_takeBest_81 ⟨Nat.zero_le _, Nat.zero_le _⟩) hA hD hS (fun r11 u10 H locs hw hP hD hS => ?_)
    refine lv_istore_n (lv' := [(2, .int r11), (0, .ref (q 6)), (1, .int x1), (3, .int x3), (4, .int x4)]) hx hb dX1_takeBest_84 rfl hl (by decide) rfl (fun ls hl => ?_)
    obtain ⟨y12, ey12⟩ : ∃ z : Int32, z = x3 + 1 := ⟨_, rfl⟩
    have hw := hw y12 ey12
    refine lv_iinc (v := y12) (lv' := [(3, .int y12), (2, .int r11), (0, .ref (q 6)), (1, .int x1), (4, .int x4)]) hx hb dX1_takeBest_85 hl (k := 3) rfl (by rw [ey12]; rfl) (by decide) rfl (fun ls hl => ?_)
    refine lv_goto (tgt := 36) hx hb dX1_takeBest_88 (by decide) ?_
    exact k36 r11 y12 u10 _ _ hw hP hD hS ls (lv_sub hl [2, 3, 1, 0] rfl)
  have J91 : ∀ (u : WU) (H : Heap) (locs : List Loc), wp_X1_takeBest_J91 u post → va_P D vwCl (wX q cI cJ cZ u) H → va_D (va_A (wX q cI cJ cZ u00) s.heap.size) (wX q cI cJ cZ u) → va_S (va_A (wX q cI cJ cZ u00) s.heap.size) s.heap H locs → ∀ ls : Array Slot, lv_has ls 5 [(0, .ref (q 6))] → W p l e (headSpec wsX1_takeBest rm_X1_takeBest).room s m args below meth c H locs 0 0 (MQ below (va_Qi post (fun u' t => va_P D vwCl (wX q cI cJ cZ u') t.heap) (va_A (wX q cI cJ cZ u00) s.heap.size)) args s 0 0 (va_A (wX q cI cJ cZ u00) s.heap.size)) (F0 m 91 ls []) := by
    intro  u H locs hw hP hD hS ls hl 
    unfold wp_X1_takeBest_J91 at hw
    refine lv_aload_n hx hb dX1_takeBest_91 rfl (lv_at hl 0 rfl) ?_
    refine cMv (sh_wX q cI cJ cZ) (u := u) (va_runV (As := []) (rest := []) ⟨hx, hb, hml, hown, hts⟩ (c_X1_takeKept l D q cI cJ cZ _ u _ hw) (cwV 0 hts gX1_takeBest_X1_takeKept rfl rfl rfl (by decide +kernel) ⟨Nat.le_of_ble_eq_true rfl, Nat.le_of_ble_eq_true rfl⟩) (pvM (va_recv hK hP (ci := 1) (q0 := 6) (q := (RX1, TX1, 10)) rfl rfl) hK hP hD hN) rfl rfl hl.1 rfl (lv_room (Nat.le_of_ble_eq_true rfl)) dX1_takeBest_92 ⟨Nat.zero_le _, Nat.zero_le _⟩) hA hD hS (fun u13 H locs hw hP hD hS => ?_)
    refine lv_aload_n hx hb dX1_takeBest_95 rfl (lv_at hl 0 rfl) ?_
    refine va_get (D := D) (ci := 1) (v := .int (u13.1 25 0)) (C := RX1) (T := TX1) (N := 10) hx hb hts hiX1 hown hK hP 6 rfl rfl 8 (by decide) hf52 (fun _ h9 => h9) rfl dX1_takeBest_96 ?_
    exact W.iret (v := u13.1 25 0) hx hb hr (fun t ht hW => ⟨⟨u13.1 25 0, u13, rfl, hw, by show va_P D vwCl _ t.heap; rw [ht]; exact hP⟩, hS.F ht⟩) hS.2.2 dX1_takeBest_99
  have L36 : ∀ (x1 : Int32) (n : Nat) (x2 : Int32) (x3 : Int32) (u : WU) (H : Heap) (locs : List Loc), wp_X1_takeBest_L36 x1 post n x2 x3 u → va_P D vwCl (wX q cI cJ cZ u) H → va_D (va_A (wX q cI cJ cZ u00) s.heap.size) (wX q cI cJ cZ u) → va_S (va_A (wX q cI cJ cZ u00) s.heap.size) s.heap H locs → ∀ ls : Array Slot, lv_has ls 5 [(0, .ref (q 6)), (1, .int x1), (2, .int x2), (3, .int x3)] → W p l e (headSpec wsX1_takeBest rm_X1_takeBest).room s m args below meth c H locs 0 0 (MQ below (va_Qi post (fun u' t => va_P D vwCl (wX q cI cJ cZ u') t.heap) (va_A (wX q cI cJ cZ u00) s.heap.size)) args s 0 0 (va_A (wX q cI cJ cZ u00) s.heap.size)) (F0 m 36 ls []) := by
    intro x1 n
    induction n with
    | zero =>
      intro x2 x3 u H locs hw
      exact hw.elim
    | succ n ih =>
      intro x2 x3 u H locs hw hP hD hS ls hl 
      unfold wp_X1_takeBest_L36 at hw
      refine lv_iload_n hx hb dX1_takeBest_36 rfl (lv_at hl 3 rfl) ?_
      refine lv_sipush (v := 6561) hx hb dX1_takeBest_37 (by decide) ?_
      refine lv_icmp_ge (tgt := 91) hx hb dX1_takeBest_40 (by decide) (fun hc => ?_) (fun hc => ?_)
      · have hw := hw.1 hc
        refine J91 u _ _ hw hP hD hS ls (lv_sub hl [0] rfl)
      · have hw := hw.2 hc
        refine lv_iload_n hx hb dX1_takeBest_43 rfl (lv_at hl 2 rfl) ?_
        refine lv_iconst (v := (-1)) hx hb dX1_takeBest_44 (by decide) ?_
        refine lv_icmp_eq (tgt := 91) hx hb dX1_takeBest_45 (by decide) (fun hc => ?_) (fun hc => ?_)
        · have hw := hw.1 hc
          refine J91 u _ _ hw hP hD hS ls (lv_sub hl [0] rfl)
        · have hw := hw.2 hc
          refine lv_aload_n hx hb dX1_takeBest_48 rfl (lv_at hl 0 rfl) ?_
          refine lv_iload_n hx hb dX1_takeBest_49 rfl (lv_at hl 1 rfl) ?_
          refine lv_iload_n hx hb dX1_takeBest_50 rfl (lv_at hl 2 rfl) ?_
          refine cMi (sh_wX q cI cJ cZ) (u := u) (va_runV (As := [.int x1, .int x2]) (rest := []) ⟨hx, hb, hml, hown, hts⟩ (c_X1_settle l D q cI cJ cZ _ u x1 x2 _ hw) (cwV 2 hts gX1_takeBest_X1_settle rfl rfl rfl (by decide +kernel) ⟨Nat.le_of_ble_eq_true rfl, Nat.le_of_ble_eq_true rfl⟩) (pvM (va_recv hK hP (ci := 1) (q0 := 6) (q := (RX1, TX1, 10)) rfl rfl) hK hP hD hN) rfl rfl hl.1 rfl (lv_room (Nat.le_of_ble_eq_true rfl)) dX1_takeBest_51 ⟨Nat.zero_le _, Nat.zero_le _⟩) hA hD hS (fun r2 u1 H locs hw hP hD hS => ?_)
          refine lv_istore (lv' := [(4, .int r2), (0, .ref (q 6)), (1, .int x1), (2, .int x2), (3, .int x3)]) hx hb dX1_takeBest_54 hl (by decide) rfl (fun ls hl => ?_)
          refine lv_iload hx hb dX1_takeBest_56 (lv_at hl 0 rfl) ?_
          refine lv_aload_n hx hb dX1_takeBest_58 rfl (lv_at hl 1 rfl) ?_
          refine va_get (D := D) (ci := 1) (v := .int (u1.1 24 0)) (C := RX1) (T := TX1) (N := 10) hx hb hts hiX1 hown hK hP 6 rfl rfl 4 (by decide) hf63 (fun _ h9 => h9) rfl dX1_takeBest_59 ?_
          refine lv_icmp_ne (tgt := 69) hx hb dX1_takeBest_62 (by decide) (fun hc => ?_) (fun hc => ?_)
          · have hw := hw.1 hc
            refine J69 x1 x3 r2 u1 _ _ hw hP hD hS ls (lv_sub hl [1, 2, 4, 0] rfl) (fun y3 y4 u5 H locs hw hP hD hS ls hl => ?_)
            exact ih y3 y4 u5 _ _ hw hP hD hS ls (lv_sub hl [0, 1, 2, 3] rfl)
          · have hw := hw.2 hc
            refine lv_aload_n hx hb dX1_takeBest_65 rfl (lv_at hl 1 rfl) ?_
            refine cMv (sh_wX q cI cJ cZ) (u := u1) (va_runV (As := []) (rest := []) ⟨hx, hb, hml, hown, hts⟩ (c_X1_keepIfBetter l D q cI cJ cZ _ u1 _ hw) (cwV 0 hts gX1_takeBest_X1_keepIfBetter rfl rfl rfl (by decide +kernel) ⟨Nat.le_of_ble_eq_true rfl, Nat.le_of_ble_eq_true rfl⟩) (pvM (va_recv hK hP (ci := 1) (q0 := 6) (q := (RX1, TX1, 10)) rfl rfl) hK hP hD hN) rfl rfl hl.1 rfl (lv_room (Nat.le_of_ble_eq_true rfl)) dX1_takeBest_66 ⟨Nat.zero_le _, Nat.zero_le _⟩) hA hD hS (fun u6 H locs hw hP hD hS => ?_)
            refine J69 x1 x3 r2 u6 _ _ hw hP hD hS ls (lv_sub hl [1, 2, 4, 0] rfl) (fun y7 y8 u9 H locs hw hP hD hS ls hl => ?_)
            exact ih y7 y8 u9 _ _ hw hP hD hS ls (lv_sub hl [0, 1, 2, 3] rfl)
  have hent := lg_entry_eq m ([.ref (q 6), .int x1]) 5
  rw [← hargs] at hent
  rw [hent]
  have hl := lv_entry ([.ref (q 6), .int x1]) (n := 5) (Nat.le_of_ble_eq_true rfl)
  generalize (lg_sl ([.ref (q 6), .int x1]) ++ List.replicate (5 - (lg_sl ([.ref (q 6), .int x1])).length) Slot.unset).toArray = ls at hl ⊢
  have hl : lv_has ls 5 [(0, .ref (q 6)), (1, .int x1)] := hl
  unfold wp_X1_takeBest at hw
  refine lv_aload_n hx hb dX1_takeBest_0 rfl (lv_at hl 0 rfl) ?_
  refine lv_aload_n hx hb dX1_takeBest_1 rfl (lv_at hl 0 rfl) ?_
  refine va_get (D := D) (ci := 1) (v := .ref (q 5)) (C := RX1) (T := TX1) (N := 10) hx hb hts hiX1 hown hK hP 6 rfl rfl 2 (by decide) hf32 (fun _ h9 => h9) rfl dX1_takeBest_2 ?_
  refine lv_aload_n hx hb dX1_takeBest_5 rfl (lv_at hl 0 rfl) ?_
  refine va_get (D := D) (ci := 1) (v := .ref (q 3)) (C := RX1) (T := TX1) (N := 10) hx hb hts hiX1 hown hK hP 6 rfl rfl 1 (by decide) hf28 (fun _ h9 => h9) rfl dX1_takeBest_6 ?_
  refine va_getN (D := D) (ci := 3) (v := .long (u.2 6 0)) (C := RX3) (T := TX3) (N := 9) hx hb hts hiX3 hown hK hP 3 rfl rfl 4 (by decide) (va_Nw.use rfl (nf_RX1_36 hN)) (fun _ h9 => h9) rfl dX1_takeBest_9 ?_
  refine vp_callSi (va_Run.run (va_runV (As := [.long (u.2 6 0)]) (rest := [.ref (q 6)]) ⟨hx, hb, hml, hown, hts⟩ (c_X2_ofProduct l D q cI cJ cZ u (u.2 6 0) _ hw) (cwV 1 hts gX1_takeBest_X2_ofProduct rfl rfl rfl (by decide +kernel) ⟨Nat.le_of_ble_eq_true rfl, Nat.le_of_ble_eq_true rfl⟩) (pvR (va_recv hK hP (ci := 2) (q0 := 5) (q := (RX2, TX2, 5)) rfl rfl) hK hP hN) rfl rfl hl.1 rfl (lv_room (Nat.le_of_ble_eq_true rfl)) dX1_takeBest_12 ⟨Nat.zero_le _, Nat.zero_le _⟩)) (fun r14 hw => ?_)
  refine cMv (sh_wX q cI cJ cZ) (u := u) (va_runV (As := [.int r14]) (rest := []) ⟨hx, hb, hml, hown, hts⟩ (c_X1_lineUp l D q cI cJ cZ _ u r14 _ hw) (cwV 1 hts gX1_takeBest_X1_lineUp rfl rfl rfl (by decide +kernel) ⟨Nat.le_of_ble_eq_true rfl, Nat.le_of_ble_eq_true rfl⟩) (pvM (va_recv hK hP (ci := 1) (q0 := 6) (q := (RX1, TX1, 10)) rfl rfl) hK hP hD hN) rfl rfl hl.1 rfl (lv_room (Nat.le_of_ble_eq_true rfl)) dX1_takeBest_15 ⟨Nat.zero_le _, Nat.zero_le _⟩) hA hD hS (fun u15 H locs hw hP hD hS => ?_)
  refine lv_aload_n hx hb dX1_takeBest_18 rfl (lv_at hl 0 rfl) ?_
  refine lv_sipush (v := 1537) hx hb dX1_takeBest_19 (by decide) ?_
  refine va_put (D := D) (ci := 1) (v := .int 1537) (ty := .int) (C := RX1) (T := TX1) (N := 10) hx hb hts hiX1 tyX1 tyX1_ok nmX1 hown hK hP hD hS 6 rfl rfl 8 (by decide) hf52 (fun _ h9 => h9) rfl (by decide +kernel) rfl rfl (Nat.le_of_ble_eq_true rfl) dX1_takeBest_22 (sPut (w := wX q cI cJ cZ) (uu := uI u15 25 (fun _ => 1537)) (wXs_X1_8 q cI cJ cZ u15 _) (fun u16 H locs eu16 hP hD hS => ?_))
  have hw := hw u16 eu16
  refine lv_aload_n hx hb dX1_takeBest_25 rfl (lv_at hl 0 rfl) ?_
  refine lv_sipush (v := 1537) hx hb dX1_takeBest_26 (by decide) ?_
  refine va_put (D := D) (ci := 1) (v := .int 1537) (ty := .int) (C := RX1) (T := TX1) (N := 10) hx hb hts hiX1 tyX1 tyX1_ok nmX1 hown hK hP hD hS 6 rfl rfl 9 (by decide) hf56 (fun _ h9 => h9) rfl (by decide +kernel) rfl rfl (Nat.le_of_ble_eq_true rfl) dX1_takeBest_29 (sPut (w := wX q cI cJ cZ) (uu := uI u16 26 (fun _ => 1537)) (wXs_X1_9 q cI cJ cZ u16 _) (fun u17 H locs eu17 hP hD hS => ?_))
  have hw := hw u17 eu17
  refine lv_iconst (v := 0) hx hb dX1_takeBest_32 (by decide) ?_
  refine lv_istore_n (lv' := [(2, .int 0), (0, .ref (q 6)), (1, .int x1)]) hx hb dX1_takeBest_33 rfl hl (by decide) rfl (fun ls hl => ?_)
  refine lv_iconst (v := 0) hx hb dX1_takeBest_34 (by decide) ?_
  refine lv_istore_n (lv' := [(3, .int 0), (2, .int 0), (0, .ref (q 6)), (1, .int x1)]) hx hb dX1_takeBest_35 rfl hl (by decide) rfl (fun ls hl => ?_)
  obtain ⟨nn, hw⟩ := hw
  refine L36 x1 nn 0 0 u17 _ _ hw hP hD hS ls (lv_sub hl [2, 3, 1, 0] rfl)
