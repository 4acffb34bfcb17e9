def ord0 (n : Nat) : Nat → Int32 := fun j => if j < n then nI j else 0
theorem ord0_s {i : Nat} (h : i < 24) : upd (ord0 i) (nI i).toNatClampNeg (nI i) = ord0 (i + 1) := by
  funext j
  rw [nI_clamp (by omega)]
  unfold upd ord0
  by_cases h1 : j = i
  · subst h1; simp
  · by_cases h2 : j < i
    · simp [h1, h2, show j < i + 1 by omega]
    · simp [h1, h2, show ¬ j < i + 1 by omega]
def uX0 : WU := uI u00 6 (ord0 24)
section CY
variable {D : va_G} {cI cJ cZ cA : ClassId} {s : State}
theorem cy_I (hK : va_K D vwCl (ty3 cI cJ cZ ++ [(cA, .int)]) s) : cI = cA := Option.some.inj (Eq.trans (Eq.symm (show s.vm.findClass _ = some cI from (hK.2 0 (cI, .int) rfl).2)) (hK.2 3 (cA, .int) rfl).2)
theorem cy_J (hK : va_K D vwCl (ty3 cI cJ cZ ++ [(cA, .long)]) s) : cJ = cA := Option.some.inj (Eq.trans (Eq.symm (show s.vm.findClass _ = some cJ from (hK.2 1 (cJ, .long) rfl).2)) (hK.2 3 (cA, .long) rfl).2)
theorem cy_Z (hK : va_K D vwCl (ty3 cI cJ cZ ++ [(cA, .boolean)]) s) : cZ = cA := Option.some.inj (Eq.trans (Eq.symm (show s.vm.findClass _ = some cZ from (hK.2 2 (cZ, .boolean) rfl).2)) (hK.2 3 (cA, .boolean) rfl).2)
end CY
def kw_X6 (h0 : Nat) (cI cJ cZ : ClassId) (u : Nat × Nat × Nat) : va_W := [(h0, .inr (6, [.ref (u.1), .ref (u.2.1), .ref (u.2.2)])), (u.1, .inl (cJ, (4, .inr (.inl (fun _ => 0))))), (u.2.1, .inl (cJ, (4, .inr (.inl (fun _ => 0))))), (u.2.2, .inl (cJ, (8, .inr (.inl (fun _ => 0)))))]
abbrev rk_X6 : Room := { frames := 1, cells := 3, slots := 16, locals := 12 }
set_option maxHeartbeats 400000 in
set_option maxRecDepth 100000 in
theorem k_X6 (l : Launch) (D : va_G) (cI cJ cZ : ClassId) (h0 sz : Nat) : Met l yX6_init wsX6_init rk_X6 (va_Pc [.ref h0] (MW D (ty3 cI cJ cZ) [(h0, .inr (6, [.null, .null, .null]))] sz)) (va_Qv (fun _ : Nat × Nat × Nat => True) (fun u t => va_P D vwCl (kw_X6 h0 cI cJ cZ u) t.heap ∧ va_D (va_A [(h0, .inr (6, [.null, .null, .null]))] sz) (kw_X6 h0 cI cJ cZ u)) (va_A [(h0, .inr (6, [.null, .null, .null]))] sz)) 3 16 (va_A [(h0, .inr (6, [.null, .null, .null]))] sz) := by
  refine Met.ofW (cc := cX6_init) (maxL := 1) (ret := none) (by decide) rfl ?_
  intro p e s m args below meth c s₁ B hml hv
  obtain ⟨hargs, hsz, hP, hK, hD0, hN⟩ := hv
  have hx := B.exec
  have hb := B.bytes
  have hr := B.returns
  have hts := atoms_spec (ws := wsX6_init) B.pre
  have hown : s.vm.findClass RX6 = some m.cls := findClass_of_methodNamed B.named
  have hlocks := B.notSynchronized
  have hin : meth.name = "<init>" := (name_of_methodNamed B.named B.method).1
  subst hsz
  have hD := hD0.self (sz := s.heap.size)
  have hA : ∀ a : Nat, s.heap.size ≤ a → va_A [(h0, .inr (6, [.null, .null, .null]))] s.heap.size a := fun _ h => Or.inr h
  generalize hAe : va_A [(h0, .inr (6, [.null, .null, .null]))] s.heap.size = A at hD hA ⊢
  have hS : va_S A s.heap s.heap [] := va_S.rf
  have hiX6 : ∀ w ∈ u_ws RX6 TX6 3, w ∈ wsX6_init := by decide +kernel
  have hf15 := hts (.fieldLink RX6 15 "TermsDesk$Terms" "along" "[J") (by decide +kernel)
  have hf18 := hts (.fieldLink RX6 18 "TermsDesk$Terms" "fought" "[J") (by decide +kernel)
  have hf9 := hts (.fieldLink RX6 9 "TermsDesk$Terms" "asked" "[J") (by decide +kernel)
  have hyJ := hts (.arrayClass .long) (by decide +kernel)
  have hent := lg_entry_eq m ([.ref h0]) 1
  rw [← hargs] at hent
  rw [hent]
  have hl := lv_entry ([.ref h0]) (n := 1) (Nat.le_of_ble_eq_true rfl)
  generalize (lg_sl ([.ref h0]) ++ List.replicate (1 - (lg_sl ([.ref h0])).length) Slot.unset).toArray = ls at hl ⊢
  have hl : lv_has ls 1 [(0, .ref h0)] := hl
  refine lv_aload_n hx hb dX6_init_0 rfl (lv_at hl 0 rfl) ?_
  refine W.objInit hx hb hown (hts (.methodLink RX6 3 objectInit) (by decide +kernel)) (hts (.instanceMethod objectInit) (by decide +kernel)) (hts _ (List.mem_of_getElem? (i := 3) rfl)) rfl (by rw [hml]; exact hl.1) rfl dX6_init_1 (Nat.le_of_ble_eq_true rfl) (Nat.le_of_ble_eq_true rfl) ?_
  refine W.eq (g2 := F0 m 4 ls []) rfl ?_
  refine lv_aload_n hx hb dX6_init_4 rfl (lv_at hl 0 rfl) ?_
  refine lv_iconst (v := 4) hx hb dX6_init_5 (by decide) ?_
  refine va_newa (atype := .long) hx hb hyJ (ty := .long) rfl hK hP hD hS hA (a0 := (4, .inr (.inl (fun _ => 0)))) (fun _ => rfl) (by decide) (by decide) (by decide +kernel) (Nat.le_of_ble_eq_true rfl) (Nat.le_of_ble_eq_true rfl) dX6_init_6 (fun a1 cA H hK2 hP hD hS => ?_)
  have ecy := cy_J hK2
  subst ecy
  have hP : va_P D vwCl [(h0, .inr (6, [.null, .null, .null])), (a1, .inl (cJ, (4, .inr (.inl (fun _ => 0)))))] H := hP
  have hD : va_D A [(h0, .inr (6, [.null, .null, .null])), (a1, .inl (cJ, (4, .inr (.inl (fun _ => 0)))))] := hD
  refine W.widen (k := 1) (n := 4) (by decide) (by decide) ?_
  refine va_putF (D := D) (ci := 6) (v := .ref a1) (ty := .array .long) (C := RX6) (T := TX6) (N := 3) hx hb hts hiX6 tyX6 tyX6_ok nmX6 hown hK hP hD hS 0 rfl rfl 0 (by decide) hf9 (fun _ h9 => h9) rfl hin rfl (by decide +kernel) rfl rfl (Nat.le_of_ble_eq_true rfl) dX6_init_8 (fun H locs hP hD hS => ?_)
  have hP : va_P D vwCl [(h0, .inr (6, [.ref a1, .null, .null])), (a1, .inl (cJ, (4, .inr (.inl (fun _ => 0)))))] H := hP
  have hD : va_D A [(h0, .inr (6, [.ref a1, .null, .null])), (a1, .inl (cJ, (4, .inr (.inl (fun _ => 0)))))] := hD
  refine lv_aload_n hx hb dX6_init_11 rfl (lv_at hl 0 rfl) ?_
  refine lv_iconst (v := 4) hx hb dX6_init_12 (by decide) ?_
  refine va_newa (atype := .long) hx hb hyJ (ty := .long) rfl hK hP hD hS hA (a0 := (4, .inr (.inl (fun _ => 0)))) (fun _ => rfl) (by decide) (by decide) (by decide +kernel) (Nat.le_of_ble_eq_true rfl) (Nat.le_of_ble_eq_true rfl) dX6_init_13 (fun a2 cA H hK2 hP hD hS => ?_)
  have ecy := cy_J hK2
  subst ecy
  have hP : va_P D vwCl [(h0, .inr (6, [.ref a1, .null, .null])), (a1, .inl (cJ, (4, .inr (.inl (fun _ => 0))))), (a2, .inl (cJ, (4, .inr (.inl (fun _ => 0)))))] H := hP
  have hD : va_D A [(h0, .inr (6, [.ref a1, .null, .null])), (a1, .inl (cJ, (4, .inr (.inl (fun _ => 0))))), (a2, .inl (cJ, (4, .inr (.inl (fun _ => 0)))))] := hD
  refine W.widen (k := 2) (n := 8) (by decide) (by decide) ?_
  refine va_putF (D := D) (ci := 6) (v := .ref a2) (ty := .array .long) (C := RX6) (T := TX6) (N := 3) hx hb hts hiX6 tyX6 tyX6_ok nmX6 hown hK hP hD hS 0 rfl rfl 1 (by decide) hf15 (fun _ h9 => h9) rfl hin rfl (by decide +kernel) rfl rfl (Nat.le_of_ble_eq_true rfl) dX6_init_15 (fun H locs hP hD hS => ?_)
  have hP : va_P D vwCl [(h0, .inr (6, [.ref a1, .ref a2, .null])), (a1, .inl (cJ, (4, .inr (.inl (fun _ => 0))))), (a2, .inl (cJ, (4, .inr (.inl (fun _ => 0)))))] H := hP
  have hD : va_D A [(h0, .inr (6, [.ref a1, .ref a2, .null])), (a1, .inl (cJ, (4, .inr (.inl (fun _ => 0))))), (a2, .inl (cJ, (4, .inr (.inl (fun _ => 0)))))] := hD
  refine lv_aload_n hx hb dX6_init_18 rfl (lv_at hl 0 rfl) ?_
  refine lv_bipush (v := 8) hx hb dX6_init_19 (by decide) ?_
  refine va_newa (atype := .long) hx hb hyJ (ty := .long) rfl hK hP hD hS hA (a0 := (8, .inr (.inl (fun _ => 0)))) (fun _ => rfl) (by decide) (by decide) (by decide +kernel) (Nat.le_of_ble_eq_true rfl) (Nat.le_of_ble_eq_true rfl) dX6_init_21 (fun a3 cA H hK2 hP hD hS => ?_)
  have ecy := cy_J hK2
  subst ecy
  have hP : va_P D vwCl [(h0, .inr (6, [.ref a1, .ref a2, .null])), (a1, .inl (cJ, (4, .inr (.inl (fun _ => 0))))), (a2, .inl (cJ, (4, .inr (.inl (fun _ => 0))))), (a3, .inl (cJ, (8, .inr (.inl (fun _ => 0)))))] H := hP
  have hD : va_D A [(h0, .inr (6, [.ref a1, .ref a2, .null])), (a1, .inl (cJ, (4, .inr (.inl (fun _ => 0))))), (a2, .inl (cJ, (4, .inr (.inl (fun _ => 0))))), (a3, .inl (cJ, (8, .inr (.inl (fun _ => 0)))))] := hD
  refine W.widen (k := 3) (n := 16) (by decide) (by decide) ?_
  refine va_putF (D := D) (ci := 6) (v := .ref a3) (ty := .array .long) (C := RX6) (T := TX6) (N := 3) hx hb hts hiX6 tyX6 tyX6_ok nmX6 hown hK hP hD hS 0 rfl rfl 2 (by decide) hf18 (fun _ h9 => h9) rfl hin rfl (by decide +kernel) rfl rfl (Nat.le_of_ble_eq_true rfl) dX6_init_23 (fun H locs hP hD hS => ?_)
  have hP : va_P D vwCl [(h0, .inr (6, [.ref a1, .ref a2, .ref a3])), (a1, .inl (cJ, (4, .inr (.inl (fun _ => 0))))), (a2, .inl (cJ, (4, .inr (.inl (fun _ => 0))))), (a3, .inl (cJ, (8, .inr (.inl (fun _ => 0)))))] H := hP
  have hD : va_D A [(h0, .inr (6, [.ref a1, .ref a2, .ref a3])), (a1, .inl (cJ, (4, .inr (.inl (fun _ => 0))))), (a2, .inl (cJ, (4, .inr (.inl (fun _ => 0))))), (a3, .inl (cJ, (8, .inr (.inl (fun _ => 0)))))] := hD
  exact W.vret hx hb hr (fun t ht hW => ⟨⟨(a1, a2, a3), rfl, trivial, by show va_P D vwCl _ t.heap ∧ _; rw [ht]; exact ⟨hP, hD⟩⟩, hS.F ht⟩) hS.2.2 dX6_init_26
def kw_X5 (h0 : Nat) (cI cJ cZ : ClassId) (u : Nat × Nat × Nat × Nat) : va_W := [(h0, .inr (5, [.ref (u.1), .ref (u.2.1), .ref (u.2.2.1), .ref (u.2.2.2), .int 0, .int 0])), (u.1, .inl (cI, (72, .inl (fun _ => 0)))), (u.2.1, .inl (cI, (24, .inl (fun _ => 0)))), (u.2.2.1, .inl (cI, (24, .inl (fun _ => 0)))), (u.2.2.2, .inl (cJ, (24, .inr (.inl (fun _ => 0)))))]
abbrev rk_X5 : Room := { frames := 1, cells := 4, slots := 144, locals := 12 }
set_option maxHeartbeats 400000 in
set_option maxRecDepth 100000 in
theorem k_X5 (l : Launch) (D : va_G) (cI cJ cZ : ClassId) (h0 sz : Nat) : Met l yX5_init wsX5_init rk_X5 (va_Pc [.ref h0] (MW D (ty3 cI cJ cZ) [(h0, .inr (5, [.null, .null, .null, .null, .int 0, .int 0]))] sz)) (va_Qv (fun _ : Nat × Nat × Nat × Nat => True) (fun u t => va_P D vwCl (kw_X5 h0 cI cJ cZ u) t.heap ∧ va_D (va_A [(h0, .inr (5, [.null, .null, .null, .null, .int 0, .int 0]))] sz) (kw_X5 h0 cI cJ cZ u)) (va_A [(h0, .inr (5, [.null, .null, .null, .null, .int 0, .int 0]))] sz)) 4 144 (va_A [(h0, .inr (5, [.null, .null, .null, .null, .int 0, .int 0]))] sz) := by
  refine Met.ofW (cc := cX5_init) (maxL := 1) (ret := none) (by decide) rfl ?_
  intro p e s m args below meth c s₁ B hml hv
  obtain ⟨hargs, hsz, hP, hK, hD0, hN⟩ := hv
  have hx := B.exec
  have hb := B.bytes
  have hr := B.returns
  have hts := atoms_spec (ws := wsX5_init) B.pre
  have hown : s.vm.findClass RX5 = some m.cls := findClass_of_methodNamed B.named
  have hlocks := B.notSynchronized
  have hin : meth.name = "<init>" := (name_of_methodNamed B.named B.method).1
  subst hsz
  have hD := hD0.self (sz := s.heap.size)
  have hA : ∀ a : Nat, s.heap.size ≤ a → va_A [(h0, .inr (5, [.null, .null, .null, .null, .int 0, .int 0]))] s.heap.size a := fun _ h => Or.inr h
  generalize hAe : va_A [(h0, .inr (5, [.null, .null, .null, .null, .int 0, .int 0]))] s.heap.size = A at hD hA ⊢
  have hS : va_S A s.heap s.heap [] := va_S.rf
  have hiX5 : ∀ w ∈ u_ws RX5 TX5 6, w ∈ wsX5_init := by decide +kernel
  have hf15 := hts (.fieldLink RX5 15 "TermsDesk$Parts" "choiceCount" "[I") (by decide +kernel)
  have hf18 := hts (.fieldLink RX5 18 "TermsDesk$Parts" "licence" "[I") (by decide +kernel)
  have hf21 := hts (.fieldLink RX5 21 "TermsDesk$Parts" "lifted" "[J") (by decide +kernel)
  have hf9 := hts (.fieldLink RX5 9 "TermsDesk$Parts" "choices" "[I") (by decide +kernel)
  have hyI := hts (.arrayClass .int) (by decide +kernel)
  have hyJ := hts (.arrayClass .long) (by decide +kernel)
  have hent := lg_entry_eq m ([.ref h0]) 1
  rw [← hargs] at hent
  rw [hent]
  have hl := lv_entry ([.ref h0]) (n := 1) (Nat.le_of_ble_eq_true rfl)
  generalize (lg_sl ([.ref h0]) ++ List.replicate (1 - (lg_sl ([.ref h0])).length) Slot.unset).toArray = ls at hl ⊢
  have hl : lv_has ls 1 [(0, .ref h0)] := hl
  refine lv_aload_n hx hb dX5_init_0 rfl (lv_at hl 0 rfl) ?_
  refine W.objInit hx hb hown (hts (.methodLink RX5 3 objectInit) (by decide +kernel)) (hts (.instanceMethod objectInit) (by decide +kernel)) (hts _ (List.mem_of_getElem? (i := 3) rfl)) rfl (by rw [hml]; exact hl.1) rfl dX5_init_1 (Nat.le_of_ble_eq_true rfl) (Nat.le_of_ble_eq_true rfl) ?_
  refine W.eq (g2 := F0 m 4 ls []) rfl ?_
  refine lv_aload_n hx hb dX5_init_4 rfl (lv_at hl 0 rfl) ?_
  refine lv_bipush (v := 72) hx hb dX5_init_5 (by decide) ?_
  refine va_newa (atype := .int) hx hb hyI (ty := .int) rfl hK hP hD hS hA (a0 := (72, .inl (fun _ => 0))) (fun _ => rfl) (by decide) (by decide) (by decide +kernel) (Nat.le_of_ble_eq_true rfl) (Nat.le_of_ble_eq_true rfl) dX5_init_7 (fun a1 cA H hK2 hP hD hS => ?_)
  have ecy := cy_I hK2
  subst ecy
  have hP : va_P D vwCl [(h0, .inr (5, [.null, .null, .null, .null, .int 0, .int 0])), (a1, .inl (cI, (72, .inl (fun _ => 0))))] H := hP
  have hD : va_D A [(h0, .inr (5, [.null, .null, .null, .null, .int 0, .int 0])), (a1, .inl (cI, (72, .inl (fun _ => 0))))] := hD
  refine W.widen (k := 1) (n := 72) (by decide) (by decide) ?_
  refine va_putF (D := D) (ci := 5) (v := .ref a1) (ty := .array .int) (C := RX5) (T := TX5) (N := 6) hx hb hts hiX5 tyX5 tyX5_ok nmX5 hown hK hP hD hS 0 rfl rfl 0 (by decide) hf9 (fun _ h9 => h9) rfl hin rfl (by decide +kernel) rfl rfl (Nat.le_of_ble_eq_true rfl) dX5_init_9 (fun H locs hP hD hS => ?_)
  have hP : va_P D vwCl [(h0, .inr (5, [.ref a1, .null, .null, .null, .int 0, .int 0])), (a1, .inl (cI, (72, .inl (fun _ => 0))))] H := hP
  have hD : va_D A [(h0, .inr (5, [.ref a1, .null, .null, .null, .int 0, .int 0])), (a1, .inl (cI, (72, .inl (fun _ => 0))))] := hD
  refine lv_aload_n hx hb dX5_init_12 rfl (lv_at hl 0 rfl) ?_
  refine lv_bipush (v := 24) hx hb dX5_init_13 (by decide) ?_
  refine va_newa (atype := .int) hx hb hyI (ty := .int) rfl hK hP hD hS hA (a0 := (24, .inl (fun _ => 0))) (fun _ => rfl) (by decide) (by decide) (by decide +kernel) (Nat.le_of_ble_eq_true rfl) (Nat.le_of_ble_eq_true rfl) dX5_init_15 (fun a2 cA H hK2 hP hD hS => ?_)
  have ecy := cy_I hK2
  subst ecy
  have hP : va_P D vwCl [(h0, .inr (5, [.ref a1, .null, .null, .null, .int 0, .int 0])), (a1, .inl (cI, (72, .inl (fun _ => 0)))), (a2, .inl (cI, (24, .inl (fun _ => 0))))] H := hP
  have hD : va_D A [(h0, .inr (5, [.ref a1, .null, .null, .null, .int 0, .int 0])), (a1, .inl (cI, (72, .inl (fun _ => 0)))), (a2, .inl (cI, (24, .inl (fun _ => 0))))] := hD
  refine W.widen (k := 2) (n := 96) (by decide) (by decide) ?_
  refine va_putF (D := D) (ci := 5) (v := .ref a2) (ty := .array .int) (C := RX5) (T := TX5) (N := 6) hx hb hts hiX5 tyX5 tyX5_ok nmX5 hown hK hP hD hS 0 rfl rfl 1 (by decide) hf15 (fun _ h9 => h9) rfl hin rfl (by decide +kernel) rfl rfl (Nat.le_of_ble_eq_true rfl) dX5_init_17 (fun H locs hP hD hS => ?_)
  have hP : va_P D vwCl [(h0, .inr (5, [.ref a1, .ref a2, .null, .null, .int 0, .int 0])), (a1, .inl (cI, (72, .inl (fun _ => 0)))), (a2, .inl (cI, (24, .inl (fun _ => 0))))] H := hP
  have hD : va_D A [(h0, .inr (5, [.ref a1, .ref a2, .null, .null, .int 0, .int 0])), (a1, .inl (cI, (72, .inl (fun _ => 0)))), (a2, .inl (cI, (24, .inl (fun _ => 0))))] := hD
  refine lv_aload_n hx hb dX5_init_20 rfl (lv_at hl 0 rfl) ?_
  refine lv_bipush (v := 24) hx hb dX5_init_21 (by decide) ?_
  refine va_newa (atype := .int) hx hb hyI (ty := .int) rfl hK hP hD hS hA (a0 := (24, .inl (fun _ => 0))) (fun _ => rfl) (by decide) (by decide) (by decide +kernel) (Nat.le_of_ble_eq_true rfl) (Nat.le_of_ble_eq_true rfl) dX5_init_23 (fun a3 cA H hK2 hP hD hS => ?_)
  have ecy := cy_I hK2
  subst ecy
  have hP : va_P D vwCl [(h0, .inr (5, [.ref a1, .ref a2, .null, .null, .int 0, .int 0])), (a1, .inl (cI, (72, .inl (fun _ => 0)))), (a2, .inl (cI, (24, .inl (fun _ => 0)))), (a3, .inl (cI, (24, .inl (fun _ => 0))))] H := hP
  have hD : va_D A [(h0, .inr (5, [.ref a1, .ref a2, .null, .null, .int 0, .int 0])), (a1, .inl (cI, (72, .inl (fun _ => 0)))), (a2, .inl (cI, (24, .inl (fun _ => 0)))), (a3, .inl (cI, (24, .inl (fun _ => 0))))] := hD
  refine W.widen (k := 3) (n := 120) (by decide) (by decide) ?_
  refine va_putF (D := D) (ci := 5) (v := .ref a3) (ty := .array .int) (C := RX5) (T := TX5) (N := 6) hx hb hts hiX5 tyX5 tyX5_ok nmX5 hown hK hP hD hS 0 rfl rfl 2 (by decide) hf18 (fun _ h9 => h9) rfl hin rfl (by decide +kernel) rfl rfl (Nat.le_of_ble_eq_true rfl) dX5_init_25 (fun H locs hP hD hS => ?_)
  have hP : va_P D vwCl [(h0, .inr (5, [.ref a1, .ref a2, .ref a3, .null, .int 0, .int 0])), (a1, .inl (cI, (72, .inl (fun _ => 0)))), (a2, .inl (cI, (24, .inl (fun _ => 0)))), (a3, .inl (cI, (24, .inl (fun _ => 0))))] H := hP
  have hD : va_D A [(h0, .inr (5, [.ref a1, .ref a2, .ref a3, .null, .int 0, .int 0])), (a1, .inl (cI, (72, .inl (fun _ => 0)))), (a2, .inl (cI, (24, .inl (fun _ => 0)))), (a3, .inl (cI, (24, .inl (fun _ => 0))))] := hD
  refine lv_aload_n hx hb dX5_init_28 rfl (lv_at hl 0 rfl) ?_
  refine lv_bipush (v := 24) hx hb dX5_init_29 (by decide) ?_
  refine va_newa (atype := .long) hx hb hyJ (ty := .long) rfl hK hP hD hS hA (a0 := (24, .inr (.inl (fun _ => 0)))) (fun _ => rfl) (by decide) (by decide) (by decide +kernel) (Nat.le_of_ble_eq_true rfl) (Nat.le_of_ble_eq_true rfl) dX5_init_31 (fun a4 cA H hK2 hP hD hS => ?_)
  have ecy := cy_J hK2
  subst ecy
  have hP : va_P D vwCl [(h0, .inr (5, [.ref a1, .ref a2, .ref a3, .null, .int 0, .int 0])), (a1, .inl (cI, (72, .inl (fun _ => 0)))), (a2, .inl (cI, (24, .inl (fun _ => 0)))), (a3, .inl (cI, (24, .inl (fun _ => 0)))), (a4, .inl (cJ, (24, .inr (.inl (fun _ => 0)))))] H := hP
  have hD : va_D A [(h0, .inr (5, [.ref a1, .ref a2, .ref a3, .null, .int 0, .int 0])), (a1, .inl (cI, (72, .inl (fun _ => 0)))), (a2, .inl (cI, (24, .inl (fun _ => 0)))), (a3, .inl (cI, (24, .inl (fun _ => 0)))), (a4, .inl (cJ, (24, .inr (.inl (fun _ => 0)))))] := hD
  refine W.widen (k := 4) (n := 144) (by decide) (by decide) ?_
  refine va_putF (D := D) (ci := 5) (v := .ref a4) (ty := .array .long) (C := RX5) (T := TX5) (N := 6) hx hb hts hiX5 tyX5 tyX5_ok nmX5 hown hK hP hD hS 0 rfl rfl 3 (by decide) hf21 (fun _ h9 => h9) rfl hin rfl (by decide +kernel) rfl rfl (Nat.le_of_ble_eq_true rfl) dX5_init_33 (fun H locs hP hD hS => ?_)
  have hP : va_P D vwCl [(h0, .inr (5, [.ref a1, .ref a2, .ref a3, .ref a4, .int 0, .int 0])), (a1, .inl (cI, (72, .inl (fun _ => 0)))), (a2, .inl (cI, (24, .inl (fun _ => 0)))), (a3, .inl (cI, (24, .inl (fun _ => 0)))), (a4, .inl (cJ, (24, .inr (.inl (fun _ => 0)))))] H := hP
  have hD : va_D A [(h0, .inr (5, [.ref a1, .ref a2, .ref a3, .ref a4, .int 0, .int 0])), (a1, .inl (cI, (72, .inl (fun _ => 0)))), (a2, .inl (cI, (24, .inl (fun _ => 0)))), (a3, .inl (cI, (24, .inl (fun _ => 0)))), (a4, .inl (cJ, (24, .inr (.inl (fun _ => 0)))))] := hD
  exact W.vret hx hb hr (fun t ht hW => ⟨⟨(a1, a2, a3, a4), rfl, trivial, by show va_P D vwCl _ t.heap ∧ _; rw [ht]; exact ⟨hP, hD⟩⟩, hS.F ht⟩) hS.2.2 dX5_init_36
def kw_X3 (h0 : Nat) (cI cJ cZ : ClassId) (u : Nat × Nat × Nat × Nat × Nat × Nat × Nat) : va_W := [(h0, .inr (3, [.ref (u.1), .ref (u.2.1), .ref (u.2.2.1), .int 0, .long 0, .ref (u.2.2.2.1), .ref (u.2.2.2.2.1), .ref (u.2.2.2.2.2.1), .ref (u.2.2.2.2.2.2)])), (u.1, .inl (cI, (40, .inl (fun _ => 0)))), (u.2.1, .inl (cI, (40, .inl (fun _ => 0)))), (u.2.2.1, .inl (cI, (40, .inl (fun _ => 0)))), (u.2.2.2.1, .inl (cI, (24, .inl (ord0 24)))), (u.2.2.2.2.1, .inl (cI, (40, .inl (fun _ => 0)))), (u.2.2.2.2.2.1, .inl (cI, (24, .inl (fun _ => 0)))), (u.2.2.2.2.2.2, .inl (cI, (24, .inl (fun _ => 0))))]
abbrev rk_X3 : Room := { frames := 1, cells := 7, slots := 232, locals := 12 }
set_option maxHeartbeats 400000 in
set_option maxRecDepth 100000 in
theorem k_X3 (l : Launch) (D : va_G) (cI cJ cZ : ClassId) (h0 sz : Nat) : Met l yX3_init wsX3_init rk_X3 (va_Pc [.ref h0] (MW D (ty3 cI cJ cZ) [(h0, .inr (3, [.null, .null, .null, .int 0, .long 0, .null, .null, .null, .null]))] sz)) (va_Qv (fun _ : Nat × Nat × Nat × Nat × Nat × Nat × Nat => True) (fun u t => va_P D vwCl (kw_X3 h0 cI cJ cZ u) t.heap ∧ va_D (va_A [(h0, .inr (3, [.null, .null, .null, .int 0, .long 0, .null, .null, .null, .null]))] sz) (kw_X3 h0 cI cJ cZ u)) (va_A [(h0, .inr (3, [.null, .null, .null, .int 0, .long 0, .null, .null, .null, .null]))] sz)) 7 232 (va_A [(h0, .inr (3, [.null, .null, .null, .int 0, .long 0, .null, .null, .null, .null]))] sz) := by
  refine Met.ofW (cc := cX3_init) (maxL := 2) (ret := none) (by decide) rfl ?_
  intro p e s m args below meth c s₁ B hml hv
  obtain ⟨hargs, hsz, hP, hK, hD0, hN⟩ := hv
  have hx := B.exec
  have hb := B.bytes
  have hr := B.returns
  have hts := atoms_spec (ws := wsX3_init) B.pre
  have hown : s.vm.findClass RX3 = some m.cls := findClass_of_methodNamed B.named
  have hlocks := B.notSynchronized
  have hin : meth.name = "<init>" := (name_of_methodNamed B.named B.method).1
  subst hsz
  have hD := hD0.self (sz := s.heap.size)
  have hA : ∀ a : Nat, s.heap.size ≤ a → va_A [(h0, .inr (3, [.null, .null, .null, .int 0, .long 0, .null, .null, .null, .null]))] s.heap.size a := fun _ h => Or.inr h
  generalize hAe : va_A [(h0, .inr (3, [.null, .null, .null, .int 0, .long 0, .null, .null, .null, .null]))] s.heap.size = A at hD hA ⊢
  have hS : va_S A s.heap s.heap [] := va_S.rf
  have hiX3 : ∀ w ∈ u_ws RX3 TX3 9, w ∈ wsX3_init := by decide +kernel
  have hf15 := hts (.fieldLink RX3 15 "TermsDesk$Joins" "to" "[I") (by decide +kernel)
  have hf18 := hts (.fieldLink RX3 18 "TermsDesk$Joins" "kind" "[I") (by decide +kernel)
  have hf21 := hts (.fieldLink RX3 21 "TermsDesk$Joins" "order" "[I") (by decide +kernel)
  have hf24 := hts (.fieldLink RX3 24 "TermsDesk$Joins" "sorted" "[I") (by decide +kernel)
  have hf27 := hts (.fieldLink RX3 27 "TermsDesk$Joins" "begin" "[I") (by decide +kernel)
  have hf30 := hts (.fieldLink RX3 30 "TermsDesk$Joins" "end" "[I") (by decide +kernel)
  have hf9 := hts (.fieldLink RX3 9 "TermsDesk$Joins" "from" "[I") (by decide +kernel)
  have hyI := hts (.arrayClass .int) (by decide +kernel)
  have L62 : ∀ (n i : Nat) (a1 a2 a3 a4 a5 a6 a7 : Nat), i ≤ 24 → 24 - i < n → ∀ (H : Heap) (locs : List Loc), va_P D vwCl [(h0, .inr (3, [.ref a1, .ref a2, .ref a3, .int 0, .long 0, .ref a4, .ref a5, .ref a6, .ref a7])), (a1, .inl (cI, (40, .inl (fun _ => 0)))), (a2, .inl (cI, (40, .inl (fun _ => 0)))), (a3, .inl (cI, (40, .inl (fun _ => 0)))), (a4, .inl (cI, (24, .inl (ord0 i)))), (a5, .inl (cI, (40, .inl (fun _ => 0)))), (a6, .inl (cI, (24, .inl (fun _ => 0)))), (a7, .inl (cI, (24, .inl (fun _ => 0))))] H → va_D A [(h0, .inr (3, [.ref a1, .ref a2, .ref a3, .int 0, .long 0, .ref a4, .ref a5, .ref a6, .ref a7])), (a1, .inl (cI, (40, .inl (fun _ => 0)))), (a2, .inl (cI, (40, .inl (fun _ => 0)))), (a3, .inl (cI, (40, .inl (fun _ => 0)))), (a4, .inl (cI, (24, .inl (ord0 i)))), (a5, .inl (cI, (40, .inl (fun _ => 0)))), (a6, .inl (cI, (24, .inl (fun _ => 0)))), (a7, .inl (cI, (24, .inl (fun _ => 0))))] → va_S A s.heap H locs → ∀ ls : Array Slot, lv_has ls 2 [(0, .ref h0), (1, .int (nI i))] → W p l e (headSpec wsX3_init rk_X3).room s m args below meth c H locs 7 232 (MQ below (va_Qv (fun _ : Nat × Nat × Nat × Nat × Nat × Nat × Nat => True) (fun u t => va_P D vwCl (kw_X3 h0 cI cJ cZ u) t.heap ∧ va_D (A) (kw_X3 h0 cI cJ cZ u)) A) args s 7 232 A) (F0 m 62 ls []) := by
    intro n
    induction n with
    | zero => intro i a1 a2 a3 a4 a5 a6 a7 h1 h2; exact absurd h2 (by omega)
    | succ n ih =>
      intro i a1 a2 a3 a4 a5 a6 a7 h1 h2 H locs hP hD hS ls hl
      refine lv_iload_n hx hb dX3_init_62 rfl (lv_at hl 1 rfl) ?_
      refine lv_bipush (v := 24) hx hb dX3_init_63 (by decide) ?_
      refine lv_icmp_ge (tgt := 81) hx hb dX3_init_65 (by decide) (fun hc => ?_) (fun hc => ?_)
      · have hi24 : i = 24 := by
          rcases Nat.lt_or_ge i 24 with q | q
          · exact absurd hc (nI_ge (a := i) (b := 24) q (by decide))
          · omega
        subst hi24
        exact W.vret hx hb hr (fun t ht hW => ⟨⟨(a1, a2, a3, a4, a5, a6, a7), rfl, trivial, by show va_P D vwCl _ t.heap ∧ _; rw [ht]; exact ⟨hP, hD⟩⟩, hS.F ht⟩) hS.2.2 dX3_init_81
      · have hlt : i < 24 := by
          rcases Nat.lt_or_ge i 24 with q | q
          · exact q
          · exact absurd (nI_le (a := 24) (b := i) q (by omega)) hc
        refine lv_aload_n hx hb dX3_init_68 rfl (lv_at hl 0 rfl) ?_
        refine va_get (D := D) (ci := 3) (v := .ref a4) (C := RX3) (T := TX3) (N := 9) hx hb hts hiX3 hown hK hP 0 rfl rfl 5 (by decide) hf21 (fun _ h9 => h9) rfl dX3_init_69 ?_
        refine lv_iload_n hx hb dX3_init_72 rfl (lv_at hl 1 rfl) ?_
        refine lv_iload_n hx hb dX3_init_73 rfl (lv_at hl 1 rfl) ?_
        refine va_iast hx hb hK hP hD hS 4 0 rfl rfl (vp_in_nI hlt (by decide)) dX3_init_74 (fun H locs hP hD hS => ?_)
        have hP : va_P D vwCl [(h0, .inr (3, [.ref a1, .ref a2, .ref a3, .int 0, .long 0, .ref a4, .ref a5, .ref a6, .ref a7])), (a1, .inl (cI, (40, .inl (fun _ => 0)))), (a2, .inl (cI, (40, .inl (fun _ => 0)))), (a3, .inl (cI, (40, .inl (fun _ => 0)))), (a4, .inl (cI, (24, .inl (upd (ord0 i) (nI i).toNatClampNeg (nI i))))), (a5, .inl (cI, (40, .inl (fun _ => 0)))), (a6, .inl (cI, (24, .inl (fun _ => 0)))), (a7, .inl (cI, (24, .inl (fun _ => 0))))] H := hP
        have hD : va_D A [(h0, .inr (3, [.ref a1, .ref a2, .ref a3, .int 0, .long 0, .ref a4, .ref a5, .ref a6, .ref a7])), (a1, .inl (cI, (40, .inl (fun _ => 0)))), (a2, .inl (cI, (40, .inl (fun _ => 0)))), (a3, .inl (cI, (40, .inl (fun _ => 0)))), (a4, .inl (cI, (24, .inl (upd (ord0 i) (nI i).toNatClampNeg (nI i))))), (a5, .inl (cI, (40, .inl (fun _ => 0)))), (a6, .inl (cI, (24, .inl (fun _ => 0)))), (a7, .inl (cI, (24, .inl (fun _ => 0))))] := hD
        rw [ord0_s hlt] at hP hD
        refine lv_iinc (v := nI (i + 1)) (lv' := [(1, .int (nI (i + 1))), (0, .ref h0)]) hx hb dX3_init_75 hl (k := 1) rfl (by rw [← nI_1]; rfl) (by decide) rfl (fun ls hl => ?_)
        refine lv_goto (tgt := 62) hx hb dX3_init_78 (by decide) ?_
        exact ih (i + 1) a1 a2 a3 a4 a5 a6 a7 (by omega) (by omega) _ _ hP hD hS ls (lv_sub hl [1, 0] rfl)
  have hent := lg_entry_eq m ([.ref h0]) 2
  rw [← hargs] at hent
  rw [hent]
  have hl := lv_entry ([.ref h0]) (n := 2) (Nat.le_of_ble_eq_true rfl)
  generalize (lg_sl ([.ref h0]) ++ List.replicate (2 - (lg_sl ([.ref h0])).length) Slot.unset).toArray = ls at hl ⊢
  have hl : lv_has ls 2 [(0, .ref h0)] := hl
  refine lv_aload_n hx hb dX3_init_0 rfl (lv_at hl 0 rfl) ?_
  refine W.objInit hx hb hown (hts (.methodLink RX3 3 objectInit) (by decide +kernel)) (hts (.instanceMethod objectInit) (by decide +kernel)) (hts _ (List.mem_of_getElem? (i := 3) rfl)) rfl (by rw [hml]; exact hl.1) rfl dX3_init_1 (Nat.le_of_ble_eq_true rfl) (Nat.le_of_ble_eq_true rfl) ?_
  refine W.eq (g2 := F0 m 4 ls []) rfl ?_
  refine lv_aload_n hx hb dX3_init_4 rfl (lv_at hl 0 rfl) ?_
  refine lv_bipush (v := 40) hx hb dX3_init_5 (by decide) ?_
  refine va_newa (atype := .int) hx hb hyI (ty := .int) rfl hK hP hD hS hA (a0 := (40, .inl (fun _ => 0))) (fun _ => rfl) (by decide) (by decide) (by decide +kernel) (Nat.le_of_ble_eq_true rfl) (Nat.le_of_ble_eq_true rfl) dX3_init_7 (fun a1 cA H hK2 hP hD hS => ?_)
  have ecy := cy_I hK2
  subst ecy
  have hP : va_P D vwCl [(h0, .inr (3, [.null, .null, .null, .int 0, .long 0, .null, .null, .null, .null])), (a1, .inl (cI, (40, .inl (fun _ => 0))))] H := hP
  have hD : va_D A [(h0, .inr (3, [.null, .null, .null, .int 0, .long 0, .null, .null, .null, .null])), (a1, .inl (cI, (40, .inl (fun _ => 0))))] := hD
  refine W.widen (k := 1) (n := 40) (by decide) (by decide) ?_
  refine va_putF (D := D) (ci := 3) (v := .ref a1) (ty := .array .int) (C := RX3) (T := TX3) (N := 9) hx hb hts hiX3 tyX3 tyX3_ok nmX3 hown hK hP hD hS 0 rfl rfl 0 (by decide) hf9 (fun _ h9 => h9) rfl hin rfl (by decide +kernel) rfl rfl (Nat.le_of_ble_eq_true rfl) dX3_init_9 (fun H locs hP hD hS => ?_)
  have hP : va_P D vwCl [(h0, .inr (3, [.ref a1, .null, .null, .int 0, .long 0, .null, .null, .null, .null])), (a1, .inl (cI, (40, .inl (fun _ => 0))))] H := hP
  have hD : va_D A [(h0, .inr (3, [.ref a1, .null, .null, .int 0, .long 0, .null, .null, .null, .null])), (a1, .inl (cI, (40, .inl (fun _ => 0))))] := hD
  refine lv_aload_n hx hb dX3_init_12 rfl (lv_at hl 0 rfl) ?_
  refine lv_bipush (v := 40) hx hb dX3_init_13 (by decide) ?_
  refine va_newa (atype := .int) hx hb hyI (ty := .int) rfl hK hP hD hS hA (a0 := (40, .inl (fun _ => 0))) (fun _ => rfl) (by decide) (by decide) (by decide +kernel) (Nat.le_of_ble_eq_true rfl) (Nat.le_of_ble_eq_true rfl) dX3_init_15 (fun a2 cA H hK2 hP hD hS => ?_)
  have ecy := cy_I hK2
  subst ecy
  have hP : va_P D vwCl [(h0, .inr (3, [.ref a1, .null, .null, .int 0, .long 0, .null, .null, .null, .null])), (a1, .inl (cI, (40, .inl (fun _ => 0)))), (a2, .inl (cI, (40, .inl (fun _ => 0))))] H := hP
  have hD : va_D A [(h0, .inr (3, [.ref a1, .null, .null, .int 0, .long 0, .null, .null, .null, .null])), (a1, .inl (cI, (40, .inl (fun _ => 0)))), (a2, .inl (cI, (40, .inl (fun _ => 0))))] := hD
  refine W.widen (k := 2) (n := 80) (by decide) (by decide) ?_
  refine va_putF (D := D) (ci := 3) (v := .ref a2) (ty := .array .int) (C := RX3) (T := TX3) (N := 9) hx hb hts hiX3 tyX3 tyX3_ok nmX3 hown hK hP hD hS 0 rfl rfl 1 (by decide) hf15 (fun _ h9 => h9) rfl hin rfl (by decide +kernel) rfl rfl (Nat.le_of_ble_eq_true rfl) dX3_init_17 (fun H locs hP hD hS => ?_)
  have hP : va_P D vwCl [(h0, .inr (3, [.ref a1, .ref a2, .null, .int 0, .long 0, .null, .null, .null, .null])), (a1, .inl (cI, (40, .inl (fun _ => 0)))), (a2, .inl (cI, (40, .inl (fun _ => 0))))] H := hP
  have hD : va_D A [(h0, .inr (3, [.ref a1, .ref a2, .null, .int 0, .long 0, .null, .null, .null, .null])), (a1, .inl (cI, (40, .inl (fun _ => 0)))), (a2, .inl (cI, (40, .inl (fun _ => 0))))] := hD
  refine lv_aload_n hx hb dX3_init_20 rfl (lv_at hl 0 rfl) ?_
  refine lv_bipush (v := 40) hx hb dX3_init_21 (by decide) ?_
  refine va_newa (atype := .int) hx hb hyI (ty := .int) rfl hK hP hD hS hA (a0 := (40, .inl (fun _ => 0))) (fun _ => rfl) (by decide) (by decide) (by decide +kernel) (Nat.le_of_ble_eq_true rfl) (Nat.le_of_ble_eq_true rfl) dX3_init_23 (fun a3 cA H hK2 hP hD hS => ?_)
  have ecy := cy_I hK2
  subst ecy
  have hP : va_P D vwCl [(h0, .inr (3, [.ref a1, .ref a2, .null, .int 0, .long 0, .null, .null, .null, .null])), (a1, .inl (cI, (40, .inl (fun _ => 0)))), (a2, .inl (cI, (40, .inl (fun _ => 0)))), (a3, .inl (cI, (40, .inl (fun _ => 0))))] H := hP
  have hD : va_D A [(h0, .inr (3, [.ref a1, .ref a2, .null, .int 0, .long 0, .null, .null, .null, .null])), (a1, .inl (cI, (40, .inl (fun _ => 0)))), (a2, .inl (cI, (40, .inl (fun _ => 0)))), (a3, .inl (cI, (40, .inl (fun _ => 0))))] := hD
  refine W.widen (k := 3) (n := 120) (by decide) (by decide) ?_
  refine va_putF (D := D) (ci := 3) (v := .ref a3) (ty := .array .int) (C := RX3) (T := TX3) (N := 9) hx hb hts hiX3 tyX3 tyX3_ok nmX3 hown hK hP hD hS 0 rfl rfl 2 (by decide) hf18 (fun _ h9 => h9) rfl hin rfl (by decide +kernel) rfl rfl (Nat.le_of_ble_eq_true rfl) dX3_init_25 (fun H locs hP hD hS => ?_)
  have hP : va_P D vwCl [(h0, .inr (3, [.ref a1, .ref a2, .ref a3, .int 0, .long 0, .null, .null, .null, .null])), (a1, .inl (cI, (40, .inl (fun _ => 0)))), (a2, .inl (cI, (40, .inl (fun _ => 0)))), (a3, .inl (cI, (40, .inl (fun _ => 0))))] H := hP
  have hD : va_D A [(h0, .inr (3, [.ref a1, .ref a2, .ref a3, .int 0, .long 0, .null, .null, .null, .null])), (a1, .inl (cI, (40, .inl (fun _ => 0)))), (a2, .inl (cI, (40, .inl (fun _ => 0)))), (a3, .inl (cI, (40, .inl (fun _ => 0))))] := hD
  refine lv_aload_n hx hb dX3_init_28 rfl (lv_at hl 0 rfl) ?_
  refine lv_bipush (v := 24) hx hb dX3_init_29 (by decide) ?_
  refine va_newa (atype := .int) hx hb hyI (ty := .int) rfl hK hP hD hS hA (a0 := (24, .inl (fun _ => 0))) (fun _ => rfl) (by decide) (by decide) (by decide +kernel) (Nat.le_of_ble_eq_true rfl) (Nat.le_of_ble_eq_true rfl) dX3_init_31 (fun a4 cA H hK2 hP hD hS => ?_)
  have ecy := cy_I hK2
  subst ecy
  have hP : va_P D vwCl [(h0, .inr (3, [.ref a1, .ref a2, .ref a3, .int 0, .long 0, .null, .null, .null, .null])), (a1, .inl (cI, (40, .inl (fun _ => 0)))), (a2, .inl (cI, (40, .inl (fun _ => 0)))), (a3, .inl (cI, (40, .inl (fun _ => 0)))), (a4, .inl (cI, (24, .inl (fun _ => 0))))] H := hP
  have hD : va_D A [(h0, .inr (3, [.ref a1, .ref a2, .ref a3, .int 0, .long 0, .null, .null, .null, .null])), (a1, .inl (cI, (40, .inl (fun _ => 0)))), (a2, .inl (cI, (40, .inl (fun _ => 0)))), (a3, .inl (cI, (40, .inl (fun _ => 0)))), (a4, .inl (cI, (24, .inl (fun _ => 0))))] := hD
  refine W.widen (k := 4) (n := 144) (by decide) (by decide) ?_
  refine va_putF (D := D) (ci := 3) (v := .ref a4) (ty := .array .int) (C := RX3) (T := TX3) (N := 9) hx hb hts hiX3 tyX3 tyX3_ok nmX3 hown hK hP hD hS 0 rfl rfl 5 (by decide) hf21 (fun _ h9 => h9) rfl hin rfl (by decide +kernel) rfl rfl (Nat.le_of_ble_eq_true rfl) dX3_init_33 (fun H locs hP hD hS => ?_)
  have hP : va_P D vwCl [(h0, .inr (3, [.ref a1, .ref a2, .ref a3, .int 0, .long 0, .ref a4, .null, .null, .null])), (a1, .inl (cI, (40, .inl (fun _ => 0)))), (a2, .inl (cI, (40, .inl (fun _ => 0)))), (a3, .inl (cI, (40, .inl (fun _ => 0)))), (a4, .inl (cI, (24, .inl (fun _ => 0))))] H := hP
  have hD : va_D A [(h0, .inr (3, [.ref a1, .ref a2, .ref a3, .int 0, .long 0, .ref a4, .null, .null, .null])), (a1, .inl (cI, (40, .inl (fun _ => 0)))), (a2, .inl (cI, (40, .inl (fun _ => 0)))), (a3, .inl (cI, (40, .inl (fun _ => 0)))), (a4, .inl (cI, (24, .inl (fun _ => 0))))] := hD
  refine lv_aload_n hx hb dX3_init_36 rfl (lv_at hl 0 rfl) ?_
  refine lv_bipush (v := 40) hx hb dX3_init_37 (by decide) ?_
  refine va_newa (atype := .int) hx hb hyI (ty := .int) rfl hK hP hD hS hA (a0 := (40, .inl (fun _ => 0))) (fun _ => rfl) (by decide) (by decide) (by decide +kernel) (Nat.le_of_ble_eq_true rfl) (Nat.le_of_ble_eq_true rfl) dX3_init_39 (fun a5 cA H hK2 hP hD hS => ?_)
  have ecy := cy_I hK2
  subst ecy
  have hP : va_P D vwCl [(h0, .inr (3, [.ref a1, .ref a2, .ref a3, .int 0, .long 0, .ref a4, .null, .null, .null])), (a1, .inl (cI, (40, .inl (fun _ => 0)))), (a2, .inl (cI, (40, .inl (fun _ => 0)))), (a3, .inl (cI, (40, .inl (fun _ => 0)))), (a4, .inl (cI, (24, .inl (fun _ => 0)))), (a5, .inl (cI, (40, .inl (fun _ => 0))))] H := hP
  have hD : va_D A [(h0, .inr (3, [.ref a1, .ref a2, .ref a3, .int 0, .long 0, .ref a4, .null, .null, .null])), (a1, .inl (cI, (40, .inl (fun _ => 0)))), (a2, .inl (cI, (40, .inl (fun _ => 0)))), (a3, .inl (cI, (40, .inl (fun _ => 0)))), (a4, .inl (cI, (24, .inl (fun _ => 0)))), (a5, .inl (cI, (40, .inl (fun _ => 0))))] := hD
  refine W.widen (k := 5) (n := 184) (by decide) (by decide) ?_
  refine va_putF (D := D) (ci := 3) (v := .ref a5) (ty := .array .int) (C := RX3) (T := TX3) (N := 9) hx hb hts hiX3 tyX3 tyX3_ok nmX3 hown hK hP hD hS 0 rfl rfl 6 (by decide) hf24 (fun _ h9 => h9) rfl hin rfl (by decide +kernel) rfl rfl (Nat.le_of_ble_eq_true rfl) dX3_init_41 (fun H locs hP hD hS => ?_)
  have hP : va_P D vwCl [(h0, .inr (3, [.ref a1, .ref a2, .ref a3, .int 0, .long 0, .ref a4, .ref a5, .null, .null])), (a1, .inl (cI, (40, .inl (fun _ => 0)))), (a2, .inl (cI, (40, .inl (fun _ => 0)))), (a3, .inl (cI, (40, .inl (fun _ => 0)))), (a4, .inl (cI, (24, .inl (fun _ => 0)))), (a5, .inl (cI, (40, .inl (fun _ => 0))))] H := hP
  have hD : va_D A [(h0, .inr (3, [.ref a1, .ref a2, .ref a3, .int 0, .long 0, .ref a4, .ref a5, .null, .null])), (a1, .inl (cI, (40, .inl (fun _ => 0)))), (a2, .inl (cI, (40, .inl (fun _ => 0)))), (a3, .inl (cI, (40, .inl (fun _ => 0)))), (a4, .inl (cI, (24, .inl (fun _ => 0)))), (a5, .inl (cI, (40, .inl (fun _ => 0))))] := hD
  refine lv_aload_n hx hb dX3_init_44 rfl (lv_at hl 0 rfl) ?_
  refine lv_bipush (v := 24) hx hb dX3_init_45 (by decide) ?_
  refine va_newa (atype := .int) hx hb hyI (ty := .int) rfl hK hP hD hS hA (a0 := (24, .inl (fun _ => 0))) (fun _ => rfl) (by decide) (by decide) (by decide +kernel) (Nat.le_of_ble_eq_true rfl) (Nat.le_of_ble_eq_true rfl) dX3_init_47 (fun a6 cA H hK2 hP hD hS => ?_)
  have ecy := cy_I hK2
  subst ecy
  have hP : va_P D vwCl [(h0, .inr (3, [.ref a1, .ref a2, .ref a3, .int 0, .long 0, .ref a4, .ref a5, .null, .null])), (a1, .inl (cI, (40, .inl (fun _ => 0)))), (a2, .inl (cI, (40, .inl (fun _ => 0)))), (a3, .inl (cI, (40, .inl (fun _ => 0)))), (a4, .inl (cI, (24, .inl (fun _ => 0)))), (a5, .inl (cI, (40, .inl (fun _ => 0)))), (a6, .inl (cI, (24, .inl (fun _ => 0))))] H := hP
  have hD : va_D A [(h0, .inr (3, [.ref a1, .ref a2, .ref a3, .int 0, .long 0, .ref a4, .ref a5, .null, .null])), (a1, .inl (cI, (40, .inl (fun _ => 0)))), (a2, .inl (cI, (40, .inl (fun _ => 0)))), (a3, .inl (cI, (40, .inl (fun _ => 0)))), (a4, .inl (cI, (24, .inl (fun _ => 0)))), (a5, .inl (cI, (40, .inl (fun _ => 0)))), (a6, .inl (cI, (24, .inl (fun _ => 0))))] := hD
  refine W.widen (k := 6) (n := 208) (by decide) (by decide) ?_
  refine va_putF (D := D) (ci := 3) (v := .ref a6) (ty := .array .int) (C := RX3) (T := TX3) (N := 9) hx hb hts hiX3 tyX3 tyX3_ok nmX3 hown hK hP hD hS 0 rfl rfl 7 (by decide) hf27 (fun _ h9 => h9) rfl hin rfl (by decide +kernel) rfl rfl (Nat.le_of_ble_eq_true rfl) dX3_init_49 (fun H locs hP hD hS => ?_)
  have hP : va_P D vwCl [(h0, .inr (3, [.ref a1, .ref a2, .ref a3, .int 0, .long 0, .ref a4, .ref a5, .ref a6, .null])), (a1, .inl (cI, (40, .inl (fun _ => 0)))), (a2, .inl (cI, (40, .inl (fun _ => 0)))), (a3, .inl (cI, (40, .inl (fun _ => 0)))), (a4, .inl (cI, (24, .inl (fun _ => 0)))), (a5, .inl (cI, (40, .inl (fun _ => 0)))), (a6, .inl (cI, (24, .inl (fun _ => 0))))] H := hP
  have hD : va_D A [(h0, .inr (3, [.ref a1, .ref a2, .ref a3, .int 0, .long 0, .ref a4, .ref a5, .ref a6, .null])), (a1, .inl (cI, (40, .inl (fun _ => 0)))), (a2, .inl (cI, (40, .inl (fun _ => 0)))), (a3, .inl (cI, (40, .inl (fun _ => 0)))), (a4, .inl (cI, (24, .inl (fun _ => 0)))), (a5, .inl (cI, (40, .inl (fun _ => 0)))), (a6, .inl (cI, (24, .inl (fun _ => 0))))] := hD
  refine lv_aload_n hx hb dX3_init_52 rfl (lv_at hl 0 rfl) ?_
  refine lv_bipush (v := 24) hx hb dX3_init_53 (by decide) ?_
  refine va_newa (atype := .int) hx hb hyI (ty := .int) rfl hK hP hD hS hA (a0 := (24, .inl (fun _ => 0))) (fun _ => rfl) (by decide) (by decide) (by decide +kernel) (Nat.le_of_ble_eq_true rfl) (Nat.le_of_ble_eq_true rfl) dX3_init_55 (fun a7 cA H hK2 hP hD hS => ?_)
  have ecy := cy_I hK2
  subst ecy
  have hP : va_P D vwCl [(h0, .inr (3, [.ref a1, .ref a2, .ref a3, .int 0, .long 0, .ref a4, .ref a5, .ref a6, .null])), (a1, .inl (cI, (40, .inl (fun _ => 0)))), (a2, .inl (cI, (40, .inl (fun _ => 0)))), (a3, .inl (cI, (40, .inl (fun _ => 0)))), (a4, .inl (cI, (24, .inl (fun _ => 0)))), (a5, .inl (cI, (40, .inl (fun _ => 0)))), (a6, .inl (cI, (24, .inl (fun _ => 0)))), (a7, .inl (cI, (24, .inl (fun _ => 0))))] H := hP
  have hD : va_D A [(h0, .inr (3, [.ref a1, .ref a2, .ref a3, .int 0, .long 0, .ref a4, .ref a5, .ref a6, .null])), (a1, .inl (cI, (40, .inl (fun _ => 0)))), (a2, .inl (cI, (40, .inl (fun _ => 0)))), (a3, .inl (cI, (40, .inl (fun _ => 0)))), (a4, .inl (cI, (24, .inl (fun _ => 0)))), (a5, .inl (cI, (40, .inl (fun _ => 0)))), (a6, .inl (cI, (24, .inl (fun _ => 0)))), (a7, .inl (cI, (24, .inl (fun _ => 0))))] := hD
  refine W.widen (k := 7) (n := 232) (by decide) (by decide) ?_
  refine va_putF (D := D) (ci := 3) (v := .ref a7) (ty := .array .int) (C := RX3) (T := TX3) (N := 9) hx hb hts hiX3 tyX3 tyX3_ok nmX3 hown hK hP hD hS 0 rfl rfl 8 (by decide) hf30 (fun _ h9 => h9) rfl hin rfl (by decide +kernel) rfl rfl (Nat.le_of_ble_eq_true rfl) dX3_init_57 (fun H locs hP hD hS => ?_)
  have hP : va_P D vwCl [(h0, .inr (3, [.ref a1, .ref a2, .ref a3, .int 0, .long 0, .ref a4, .ref a5, .ref a6, .ref a7])), (a1, .inl (cI, (40, .inl (fun _ => 0)))), (a2, .inl (cI, (40, .inl (fun _ => 0)))), (a3, .inl (cI, (40, .inl (fun _ => 0)))), (a4, .inl (cI, (24, .inl (fun _ => 0)))), (a5, .inl (cI, (40, .inl (fun _ => 0)))), (a6, .inl (cI, (24, .inl (fun _ => 0)))), (a7, .inl (cI, (24, .inl (fun _ => 0))))] H := hP
  have hD : va_D A [(h0, .inr (3, [.ref a1, .ref a2, .ref a3, .int 0, .long 0, .ref a4, .ref a5, .ref a6, .ref a7])), (a1, .inl (cI, (40, .inl (fun _ => 0)))), (a2, .inl (cI, (40, .inl (fun _ => 0)))), (a3, .inl (cI, (40, .inl (fun _ => 0)))), (a4, .inl (cI, (24, .inl (fun _ => 0)))), (a5, .inl (cI, (40, .inl (fun _ => 0)))), (a6, .inl (cI, (24, .inl (fun _ => 0)))), (a7, .inl (cI, (24, .inl (fun _ => 0))))] := hD
  refine lv_iconst (v := 0) hx hb dX3_init_60 (by decide) ?_
  refine lv_istore_n (lv' := [(1, .int 0), (0, .ref h0)]) hx hb dX3_init_61 rfl hl (by decide) rfl (fun ls hl => ?_)
  have e0 : (fun _ => 0 : Nat → Int32) = ord0 0 := by funext j; simp [ord0]
  have hP : va_P D vwCl [(h0, .inr (3, [.ref a1, .ref a2, .ref a3, .int 0, .long 0, .ref a4, .ref a5, .ref a6, .ref a7])), (a1, .inl (cI, (40, .inl (fun _ => 0)))), (a2, .inl (cI, (40, .inl (fun _ => 0)))), (a3, .inl (cI, (40, .inl (fun _ => 0)))), (a4, .inl (cI, (24, .inl (ord0 0)))), (a5, .inl (cI, (40, .inl (fun _ => 0)))), (a6, .inl (cI, (24, .inl (fun _ => 0)))), (a7, .inl (cI, (24, .inl (fun _ => 0))))] H := by have h := hP; exact h.to (congrArg (fun f : Nat → Int32 => ([(h0, .inr (3, [.ref a1, .ref a2, .ref a3, .int 0, .long 0, .ref a4, .ref a5, .ref a6, .ref a7])), (a1, .inl (cI, (40, .inl (fun _ => 0)))), (a2, .inl (cI, (40, .inl (fun _ => 0)))), (a3, .inl (cI, (40, .inl (fun _ => 0)))), (a4, .inl (cI, (24, .inl (f)))), (a5, .inl (cI, (40, .inl (fun _ => 0)))), (a6, .inl (cI, (24, .inl (fun _ => 0)))), (a7, .inl (cI, (24, .inl (fun _ => 0))))] : va_W)) e0)
  have hD : va_D A [(h0, .inr (3, [.ref a1, .ref a2, .ref a3, .int 0, .long 0, .ref a4, .ref a5, .ref a6, .ref a7])), (a1, .inl (cI, (40, .inl (fun _ => 0)))), (a2, .inl (cI, (40, .inl (fun _ => 0)))), (a3, .inl (cI, (40, .inl (fun _ => 0)))), (a4, .inl (cI, (24, .inl (ord0 0)))), (a5, .inl (cI, (40, .inl (fun _ => 0)))), (a6, .inl (cI, (24, .inl (fun _ => 0)))), (a7, .inl (cI, (24, .inl (fun _ => 0))))] := by have h := hD; exact h.to (congrArg (fun f : Nat → Int32 => ([(h0, .inr (3, [.ref a1, .ref a2, .ref a3, .int 0, .long 0, .ref a4, .ref a5, .ref a6, .ref a7])), (a1, .inl (cI, (40, .inl (fun _ => 0)))), (a2, .inl (cI, (40, .inl (fun _ => 0)))), (a3, .inl (cI, (40, .inl (fun _ => 0)))), (a4, .inl (cI, (24, .inl (f)))), (a5, .inl (cI, (40, .inl (fun _ => 0)))), (a6, .inl (cI, (24, .inl (fun _ => 0)))), (a7, .inl (cI, (24, .inl (fun _ => 0))))] : va_W)) e0)
  exact L62 25 0 a1 a2 a3 a4 a5 a6 a7 (by omega) (by omega) _ _ hP hD hS ls (lv_sub hl [1, 0] rfl)
def kw_X0 (h0 : Nat) (cI cJ cZ : ClassId) (u : Nat × Nat × Nat × Nat) : va_W := [(h0, .inr (0, [.ref (u.1), .ref (u.2.1), .ref (u.2.2.1), .ref (u.2.2.2), .int 0])), (u.1, .inl (cI, (10, .inl (fun _ => 0)))), (u.2.1, .inl (cI, (10, .inl (fun _ => 0)))), (u.2.2.1, .inl (cI, (10, .inl (fun _ => 0)))), (u.2.2.2, .inl (cI, (10, .inl (fun _ => 0))))]
abbrev rk_X0 : Room := { frames := 1, cells := 4, slots := 40, locals := 12 }
set_option maxHeartbeats 400000 in
set_option maxRecDepth 100000 in
theorem k_X0 (l : Launch) (D : va_G) (cI cJ cZ : ClassId) (h0 sz : Nat) : Met l yX0_init wsX0_init rk_X0 (va_Pc [.ref h0] (MW D (ty3 cI cJ cZ) [(h0, .inr (0, [.null, .null, .null, .null, .int 0]))] sz)) (va_Qv (fun _ : Nat × Nat × Nat × Nat => True) (fun u t => va_P D vwCl (kw_X0 h0 cI cJ cZ u) t.heap ∧ va_D (va_A [(h0, .inr (0, [.null, .null, .null, .null, .int 0]))] sz) (kw_X0 h0 cI cJ cZ u)) (va_A [(h0, .inr (0, [.null, .null, .null, .null, .int 0]))] sz)) 4 40 (va_A [(h0, .inr (0, [.null, .null, .null, .null, .int 0]))] sz) := by
  refine Met.ofW (cc := cX0_init) (maxL := 1) (ret := none) (by decide) rfl ?_
  intro p e s m args below meth c s₁ B hml hv
  obtain ⟨hargs, hsz, hP, hK, hD0, hN⟩ := hv
  have hx := B.exec
  have hb := B.bytes
  have hr := B.returns
  have hts := atoms_spec (ws := wsX0_init) B.pre
  have hown : s.vm.findClass RX0 = some m.cls := findClass_of_methodNamed B.named
  have hlocks := B.notSynchronized
  have hin : meth.name = "<init>" := (name_of_methodNamed B.named B.method).1
  subst hsz
  have hD := hD0.self (sz := s.heap.size)
  have hA : ∀ a : Nat, s.heap.size ≤ a → va_A [(h0, .inr (0, [.null, .null, .null, .null, .int 0]))] s.heap.size a := fun _ h => Or.inr h
  generalize hAe : va_A [(h0, .inr (0, [.null, .null, .null, .null, .int 0]))] s.heap.size = A at hD hA ⊢
  have hS : va_S A s.heap s.heap [] := va_S.rf
  have hiX0 : ∀ w ∈ u_ws RX0 TX0 5, w ∈ wsX0_init := by decide +kernel
  have hf15 := hts (.fieldLink RX0 15 "TermsDesk$Changes" "which" "[I") (by decide +kernel)
  have hf18 := hts (.fieldLink RX0 18 "TermsDesk$Changes" "licence" "[I") (by decide +kernel)
  have hf21 := hts (.fieldLink RX0 21 "TermsDesk$Changes" "cost" "[I") (by decide +kernel)
  have hf9 := hts (.fieldLink RX0 9 "TermsDesk$Changes" "what" "[I") (by decide +kernel)
  have hyI := hts (.arrayClass .int) (by decide +kernel)
  have hent := lg_entry_eq m ([.ref h0]) 1
  rw [← hargs] at hent
  rw [hent]
  have hl := lv_entry ([.ref h0]) (n := 1) (Nat.le_of_ble_eq_true rfl)
  generalize (lg_sl ([.ref h0]) ++ List.replicate (1 - (lg_sl ([.ref h0])).length) Slot.unset).toArray = ls at hl ⊢
  have hl : lv_has ls 1 [(0, .ref h0)] := hl
  refine lv_aload_n hx hb dX0_init_0 rfl (lv_at hl 0 rfl) ?_
  refine W.objInit hx hb hown (hts (.methodLink RX0 3 objectInit) (by decide +kernel)) (hts (.instanceMethod objectInit) (by decide +kernel)) (hts _ (List.mem_of_getElem? (i := 3) rfl)) rfl (by rw [hml]; exact hl.1) rfl dX0_init_1 (Nat.le_of_ble_eq_true rfl) (Nat.le_of_ble_eq_true rfl) ?_
  refine W.eq (g2 := F0 m 4 ls []) rfl ?_
  refine lv_aload_n hx hb dX0_init_4 rfl (lv_at hl 0 rfl) ?_
  refine lv_bipush (v := 10) hx hb dX0_init_5 (by decide) ?_
  refine va_newa (atype := .int) hx hb hyI (ty := .int) rfl hK hP hD hS hA (a0 := (10, .inl (fun _ => 0))) (fun _ => rfl) (by decide) (by decide) (by decide +kernel) (Nat.le_of_ble_eq_true rfl) (Nat.le_of_ble_eq_true rfl) dX0_init_7 (fun a1 cA H hK2 hP hD hS => ?_)
  have ecy := cy_I hK2
  subst ecy
  have hP : va_P D vwCl [(h0, .inr (0, [.null, .null, .null, .null, .int 0])), (a1, .inl (cI, (10, .inl (fun _ => 0))))] H := hP
  have hD : va_D A [(h0, .inr (0, [.null, .null, .null, .null, .int 0])), (a1, .inl (cI, (10, .inl (fun _ => 0))))] := hD
  refine W.widen (k := 1) (n := 10) (by decide) (by decide) ?_
  refine va_putF (D := D) (ci := 0) (v := .ref a1) (ty := .array .int) (C := RX0) (T := TX0) (N := 5) hx hb hts hiX0 tyX0 tyX0_ok nmX0 hown hK hP hD hS 0 rfl rfl 0 (by decide) hf9 (fun _ h9 => h9) rfl hin rfl (by decide +kernel) rfl rfl (Nat.le_of_ble_eq_true rfl) dX0_init_9 (fun H locs hP hD hS => ?_)
  have hP : va_P D vwCl [(h0, .inr (0, [.ref a1, .null, .null, .null, .int 0])), (a1, .inl (cI, (10, .inl (fun _ => 0))))] H := hP
  have hD : va_D A [(h0, .inr (0, [.ref a1, .null, .null, .null, .int 0])), (a1, .inl (cI, (10, .inl (fun _ => 0))))] := hD
  refine lv_aload_n hx hb dX0_init_12 rfl (lv_at hl 0 rfl) ?_
  refine lv_bipush (v := 10) hx hb dX0_init_13 (by decide) ?_
  refine va_newa (atype := .int) hx hb hyI (ty := .int) rfl hK hP hD hS hA (a0 := (10, .inl (fun _ => 0))) (fun _ => rfl) (by decide) (by decide) (by decide +kernel) (Nat.le_of_ble_eq_true rfl) (Nat.le_of_ble_eq_true rfl) dX0_init_15 (fun a2 cA H hK2 hP hD hS => ?_)
  have ecy := cy_I hK2
  subst ecy
  have hP : va_P D vwCl [(h0, .inr (0, [.ref a1, .null, .null, .null, .int 0])), (a1, .inl (cI, (10, .inl (fun _ => 0)))), (a2, .inl (cI, (10, .inl (fun _ => 0))))] H := hP
  have hD : va_D A [(h0, .inr (0, [.ref a1, .null, .null, .null, .int 0])), (a1, .inl (cI, (10, .inl (fun _ => 0)))), (a2, .inl (cI, (10, .inl (fun _ => 0))))] := hD
  refine W.widen (k := 2) (n := 20) (by decide) (by decide) ?_
  refine va_putF (D := D) (ci := 0) (v := .ref a2) (ty := .array .int) (C := RX0) (T := TX0) (N := 5) hx hb hts hiX0 tyX0 tyX0_ok nmX0 hown hK hP hD hS 0 rfl rfl 1 (by decide) hf15 (fun _ h9 => h9) rfl hin rfl (by decide +kernel) rfl rfl (Nat.le_of_ble_eq_true rfl) dX0_init_17 (fun H locs hP hD hS => ?_)
  have hP : va_P D vwCl [(h0, .inr (0, [.ref a1, .ref a2, .null, .null, .int 0])), (a1, .inl (cI, (10, .inl (fun _ => 0)))), (a2, .inl (cI, (10, .inl (fun _ => 0))))] H := hP
  have hD : va_D A [(h0, .inr (0, [.ref a1, .ref a2, .null, .null, .int 0])), (a1, .inl (cI, (10, .inl (fun _ => 0)))), (a2, .inl (cI, (10, .inl (fun _ => 0))))] := hD
  refine lv_aload_n hx hb dX0_init_20 rfl (lv_at hl 0 rfl) ?_
  refine lv_bipush (v := 10) hx hb dX0_init_21 (by decide) ?_
  refine va_newa (atype := .int) hx hb hyI (ty := .int) rfl hK hP hD hS hA (a0 := (10, .inl (fun _ => 0))) (fun _ => rfl) (by decide) (by decide) (by decide +kernel) (Nat.le_of_ble_eq_true rfl) (Nat.le_of_ble_eq_true rfl) dX0_init_23 (fun a3 cA H hK2 hP hD hS => ?_)
  have ecy := cy_I hK2
  subst ecy
  have hP : va_P D vwCl [(h0, .inr (0, [.ref a1, .ref a2, .null, .null, .int 0])), (a1, .inl (cI, (10, .inl (fun _ => 0)))), (a2, .inl (cI, (10, .inl (fun _ => 0)))), (a3, .inl (cI, (10, .inl (fun _ => 0))))] H := hP
  have hD : va_D A [(h0, .inr (0, [.ref a1, .ref a2, .null, .null, .int 0])), (a1, .inl (cI, (10, .inl (fun _ => 0)))), (a2, .inl (cI, (10, .inl (fun _ => 0)))), (a3, .inl (cI, (10, .inl (fun _ => 0))))] := hD
  refine W.widen (k := 3) (n := 30) (by decide) (by decide) ?_
  refine va_putF (D := D) (ci := 0) (v := .ref a3) (ty := .array .int) (C := RX0) (T := TX0) (N := 5) hx hb hts hiX0 tyX0 tyX0_ok nmX0 hown hK hP hD hS 0 rfl rfl 2 (by decide) hf18 (fun _ h9 => h9) rfl hin rfl (by decide +kernel) rfl rfl (Nat.le_of_ble_eq_true rfl) dX0_init_25 (fun H locs hP hD hS => ?_)
  have hP : va_P D vwCl [(h0, .inr (0, [.ref a1, .ref a2, .ref a3, .null, .int 0])), (a1, .inl (cI, (10, .inl (fun _ => 0)))), (a2, .inl (cI, (10, .inl (fun _ => 0)))), (a3, .inl (cI, (10, .inl (fun _ => 0))))] H := hP
  have hD : va_D A [(h0, .inr (0, [.ref a1, .ref a2, .ref a3, .null, .int 0])), (a1, .inl (cI, (10, .inl (fun _ => 0)))), (a2, .inl (cI, (10, .inl (fun _ => 0)))), (a3, .inl (cI, (10, .inl (fun _ => 0))))] := hD
  refine lv_aload_n hx hb dX0_init_28 rfl (lv_at hl 0 rfl) ?_
  refine lv_bipush (v := 10) hx hb dX0_init_29 (by decide) ?_
  refine va_newa (atype := .int) hx hb hyI (ty := .int) rfl hK hP hD hS hA (a0 := (10, .inl (fun _ => 0))) (fun _ => rfl) (by decide) (by decide) (by decide +kernel) (Nat.le_of_ble_eq_true rfl) (Nat.le_of_ble_eq_true rfl) dX0_init_31 (fun a4 cA H hK2 hP hD hS => ?_)
  have ecy := cy_I hK2
  subst ecy
  have hP : va_P D vwCl [(h0, .inr (0, [.ref a1, .ref a2, .ref a3, .null, .int 0])), (a1, .inl (cI, (10, .inl (fun _ => 0)))), (a2, .inl (cI, (10, .inl (fun _ => 0)))), (a3, .inl (cI, (10, .inl (fun _ => 0)))), (a4, .inl (cI, (10, .inl (fun _ => 0))))] H := hP
  have hD : va_D A [(h0, .inr (0, [.ref a1, .ref a2, .ref a3, .null, .int 0])), (a1, .inl (cI, (10, .inl (fun _ => 0)))), (a2, .inl (cI, (10, .inl (fun _ => 0)))), (a3, .inl (cI, (10, .inl (fun _ => 0)))), (a4, .inl (cI, (10, .inl (fun _ => 0))))] := hD
  refine W.widen (k := 4) (n := 40) (by decide) (by decide) ?_
  refine va_putF (D := D) (ci := 0) (v := .ref a4) (ty := .array .int) (C := RX0) (T := TX0) (N := 5) hx hb hts hiX0 tyX0 tyX0_ok nmX0 hown hK hP hD hS 0 rfl rfl 3 (by decide) hf21 (fun _ h9 => h9) rfl hin rfl (by decide +kernel) rfl rfl (Nat.le_of_ble_eq_true rfl) dX0_init_33 (fun H locs hP hD hS => ?_)
  have hP : va_P D vwCl [(h0, .inr (0, [.ref a1, .ref a2, .ref a3, .ref a4, .int 0])), (a1, .inl (cI, (10, .inl (fun _ => 0)))), (a2, .inl (cI, (10, .inl (fun _ => 0)))), (a3, .inl (cI, (10, .inl (fun _ => 0)))), (a4, .inl (cI, (10, .inl (fun _ => 0))))] H := hP
  have hD : va_D A [(h0, .inr (0, [.ref a1, .ref a2, .ref a3, .ref a4, .int 0])), (a1, .inl (cI, (10, .inl (fun _ => 0)))), (a2, .inl (cI, (10, .inl (fun _ => 0)))), (a3, .inl (cI, (10, .inl (fun _ => 0)))), (a4, .inl (cI, (10, .inl (fun _ => 0))))] := hD
  exact W.vret hx hb hr (fun t ht hW => ⟨⟨(a1, a2, a3, a4), rfl, trivial, by show va_P D vwCl _ t.heap ∧ _; rw [ht]; exact ⟨hP, hD⟩⟩, hS.F ht⟩) hS.2.2 dX0_init_36
def kw_X2 (h0 : Nat) (cI cJ cZ : ClassId) (r1 : Nat) (r2 : Nat) (r3 : Nat) (u : Nat × Nat) : va_W := [(h0, .inr (2, [.ref r1, .ref r2, .ref r3, .ref (u.1), .ref (u.2)])), (u.1, .inl (cJ, (24, .inr (.inl (fun _ => 0))))), (u.2, .inl (cJ, (24, .inr (.inl (fun _ => 0)))))]
abbrev rk_X2 : Room := { frames := 1, cells := 2, slots := 48, locals := 12 }
set_option maxHeartbeats 400000 in
set_option maxRecDepth 100000 in
theorem k_X2 (l : Launch) (D : va_G) (cI cJ cZ : ClassId) (h0 sz : Nat) (r1 : Nat) (r2 : Nat) (r3 : Nat) : Met l yX2_init wsX2_init rk_X2 (va_Pc [.ref h0, .ref r1, .ref r2, .ref r3] (MW D (ty3 cI cJ cZ) [(h0, .inr (2, [.null, .null, .null, .null, .null]))] sz)) (va_Qv (fun _ : Nat × Nat => True) (fun u t => va_P D vwCl (kw_X2 h0 cI cJ cZ r1 r2 r3 u) t.heap ∧ va_D (va_A [(h0, .inr (2, [.null, .null, .null, .null, .null]))] sz) (kw_X2 h0 cI cJ cZ r1 r2 r3 u)) (va_A [(h0, .inr (2, [.null, .null, .null, .null, .null]))] sz)) 2 48 (va_A [(h0, .inr (2, [.null, .null, .null, .null, .null]))] sz) := by
  refine Met.ofW (cc := cX2_init) (maxL := 4) (ret := none) (by decide) rfl ?_
  intro p e s m args below meth c s₁ B hml hv
  obtain ⟨hargs, hsz, hP, hK, hD0, hN⟩ := hv
  have hx := B.exec
  have hb := B.bytes
  have hr := B.returns
  have hts := atoms_spec (ws := wsX2_init) B.pre
  have hown : s.vm.findClass RX2 = some m.cls := findClass_of_methodNamed B.named
  have hlocks := B.notSynchronized
  have hin : meth.name = "<init>" := (name_of_methodNamed B.named B.method).1
  subst hsz
  have hD := hD0.self (sz := s.heap.size)
  have hA : ∀ a : Nat, s.heap.size ≤ a → va_A [(h0, .inr (2, [.null, .null, .null, .null, .null]))] s.heap.size a := fun _ h => Or.inr h
  generalize hAe : va_A [(h0, .inr (2, [.null, .null, .null, .null, .null]))] s.heap.size = A at hD hA ⊢
  have hS : va_S A s.heap s.heap [] := va_S.rf
  have hiX2 : ∀ w ∈ u_ws RX2 TX2 5, w ∈ wsX2_init := by decide +kernel
  have hf15 := hts (.fieldLink RX2 15 "TermsDesk$Flow" "earlier" "[J") (by decide +kernel)
  have hf18 := hts (.fieldLink RX2 18 "TermsDesk$Flow" "terms" "LTermsDesk$Terms;") (by decide +kernel)
  have hf22 := hts (.fieldLink RX2 22 "TermsDesk$Flow" "parts" "LTermsDesk$Parts;") (by decide +kernel)
  have hf26 := hts (.fieldLink RX2 26 "TermsDesk$Flow" "joins" "LTermsDesk$Joins;") (by decide +kernel)
  have hf9 := hts (.fieldLink RX2 9 "TermsDesk$Flow" "arrived" "[J") (by decide +kernel)
  have hyJ := hts (.arrayClass .long) (by decide +kernel)
  have hent := lg_entry_eq m ([.ref h0, .ref r1, .ref r2, .ref r3]) 4
  rw [← hargs] at hent
  rw [hent]
  have hl := lv_entry ([.ref h0, .ref r1, .ref r2, .ref r3]) (n := 4) (Nat.le_of_ble_eq_true rfl)
  generalize (lg_sl ([.ref h0, .ref r1, .ref r2, .ref r3]) ++ List.replicate (4 - (lg_sl ([.ref h0, .ref r1, .ref r2, .ref r3])).length) Slot.unset).toArray = ls at hl ⊢
  have hl : lv_has ls 4 [(0, .ref h0), (1, .ref r1), (2, .ref r2), (3, .ref r3)] := hl
  refine lv_aload_n hx hb dX2_init_0 rfl (lv_at hl 0 rfl) ?_
  refine W.objInit hx hb hown (hts (.methodLink RX2 3 objectInit) (by decide +kernel)) (hts (.instanceMethod objectInit) (by decide +kernel)) (hts _ (List.mem_of_getElem? (i := 3) rfl)) rfl (by rw [hml]; exact hl.1) rfl dX2_init_1 (Nat.le_of_ble_eq_true rfl) (Nat.le_of_ble_eq_true rfl) ?_
  refine W.eq (g2 := F0 m 4 ls []) rfl ?_
  refine lv_aload_n hx hb dX2_init_4 rfl (lv_at hl 0 rfl) ?_
  refine lv_bipush (v := 24) hx hb dX2_init_5 (by decide) ?_
  refine va_newa (atype := .long) hx hb hyJ (ty := .long) rfl hK hP hD hS hA (a0 := (24, .inr (.inl (fun _ => 0)))) (fun _ => rfl) (by decide) (by decide) (by decide +kernel) (Nat.le_of_ble_eq_true rfl) (Nat.le_of_ble_eq_true rfl) dX2_init_7 (fun a1 cA H hK2 hP hD hS => ?_)
  have ecy := cy_J hK2
  subst ecy
  have hP : va_P D vwCl [(h0, .inr (2, [.null, .null, .null, .null, .null])), (a1, .inl (cJ, (24, .inr (.inl (fun _ => 0)))))] H := hP
  have hD : va_D A [(h0, .inr (2, [.null, .null, .null, .null, .null])), (a1, .inl (cJ, (24, .inr (.inl (fun _ => 0)))))] := hD
  refine W.widen (k := 1) (n := 24) (by decide) (by decide) ?_
  refine va_putF (D := D) (ci := 2) (v := .ref a1) (ty := .array .long) (C := RX2) (T := TX2) (N := 5) hx hb hts hiX2 tyX2 tyX2_ok nmX2 hown hK hP hD hS 0 rfl rfl 3 (by decide) hf9 (fun _ h9 => h9) rfl hin rfl (by decide +kernel) rfl rfl (Nat.le_of_ble_eq_true rfl) dX2_init_9 (fun H locs hP hD hS => ?_)
  have hP : va_P D vwCl [(h0, .inr (2, [.null, .null, .null, .ref a1, .null])), (a1, .inl (cJ, (24, .inr (.inl (fun _ => 0)))))] H := hP
  have hD : va_D A [(h0, .inr (2, [.null, .null, .null, .ref a1, .null])), (a1, .inl (cJ, (24, .inr (.inl (fun _ => 0)))))] := hD
  refine lv_aload_n hx hb dX2_init_12 rfl (lv_at hl 0 rfl) ?_
  refine lv_bipush (v := 24) hx hb dX2_init_13 (by decide) ?_
  refine va_newa (atype := .long) hx hb hyJ (ty := .long) rfl hK hP hD hS hA (a0 := (24, .inr (.inl (fun _ => 0)))) (fun _ => rfl) (by decide) (by decide) (by decide +kernel) (Nat.le_of_ble_eq_true rfl) (Nat.le_of_ble_eq_true rfl) dX2_init_15 (fun a2 cA H hK2 hP hD hS => ?_)
  have ecy := cy_J hK2
  subst ecy
  have hP : va_P D vwCl [(h0, .inr (2, [.null, .null, .null, .ref a1, .null])), (a1, .inl (cJ, (24, .inr (.inl (fun _ => 0))))), (a2, .inl (cJ, (24, .inr (.inl (fun _ => 0)))))] H := hP
  have hD : va_D A [(h0, .inr (2, [.null, .null, .null, .ref a1, .null])), (a1, .inl (cJ, (24, .inr (.inl (fun _ => 0))))), (a2, .inl (cJ, (24, .inr (.inl (fun _ => 0)))))] := hD
  refine W.widen (k := 2) (n := 48) (by decide) (by decide) ?_
  refine va_putF (D := D) (ci := 2) (v := .ref a2) (ty := .array .long) (C := RX2) (T := TX2) (N := 5) hx hb hts hiX2 tyX2 tyX2_ok nmX2 hown hK hP hD hS 0 rfl rfl 4 (by decide) hf15 (fun _ h9 => h9) rfl hin rfl (by decide +kernel) rfl rfl (Nat.le_of_ble_eq_true rfl) dX2_init_17 (fun H locs hP hD hS => ?_)
  have hP : va_P D vwCl [(h0, .inr (2, [.null, .null, .null, .ref a1, .ref a2])), (a1, .inl (cJ, (24, .inr (.inl (fun _ => 0))))), (a2, .inl (cJ, (24, .inr (.inl (fun _ => 0)))))] H := hP
  have hD : va_D A [(h0, .inr (2, [.null, .null, .null, .ref a1, .ref a2])), (a1, .inl (cJ, (24, .inr (.inl (fun _ => 0))))), (a2, .inl (cJ, (24, .inr (.inl (fun _ => 0)))))] := hD
  refine lv_aload_n hx hb dX2_init_20 rfl (lv_at hl 0 rfl) ?_
  refine lv_aload_n hx hb dX2_init_21 rfl (lv_at hl 1 rfl) ?_
  refine va_putF (D := D) (ci := 2) (v := .ref r1) (ty := .object "TermsDesk$Terms") (C := RX2) (T := TX2) (N := 5) hx hb hts hiX2 tyX2 tyX2_ok nmX2 hown hK hP hD hS 0 rfl rfl 0 (by decide) hf18 (fun _ h9 => h9) rfl hin rfl (by decide +kernel) rfl rfl (Nat.le_of_ble_eq_true rfl) dX2_init_22 (fun H locs hP hD hS => ?_)
  have hP : va_P D vwCl [(h0, .inr (2, [.ref r1, .null, .null, .ref a1, .ref a2])), (a1, .inl (cJ, (24, .inr (.inl (fun _ => 0))))), (a2, .inl (cJ, (24, .inr (.inl (fun _ => 0)))))] H := hP
  have hD : va_D A [(h0, .inr (2, [.ref r1, .null, .null, .ref a1, .ref a2])), (a1, .inl (cJ, (24, .inr (.inl (fun _ => 0))))), (a2, .inl (cJ, (24, .inr (.inl (fun _ => 0)))))] := hD
  refine lv_aload_n hx hb dX2_init_25 rfl (lv_at hl 0 rfl) ?_
  refine lv_aload_n hx hb dX2_init_26 rfl (lv_at hl 2 rfl) ?_
  refine va_putF (D := D) (ci := 2) (v := .ref r2) (ty := .object "TermsDesk$Parts") (C := RX2) (T := TX2) (N := 5) hx hb hts hiX2 tyX2 tyX2_ok nmX2 hown hK hP hD hS 0 rfl rfl 1 (by decide) hf22 (fun _ h9 => h9) rfl hin rfl (by decide +kernel) rfl rfl (Nat.le_of_ble_eq_true rfl) dX2_init_27 (fun H locs hP hD hS => ?_)
  have hP : va_P D vwCl [(h0, .inr (2, [.ref r1, .ref r2, .null, .ref a1, .ref a2])), (a1, .inl (cJ, (24, .inr (.inl (fun _ => 0))))), (a2, .inl (cJ, (24, .inr (.inl (fun _ => 0)))))] H := hP
  have hD : va_D A [(h0, .inr (2, [.ref r1, .ref r2, .null, .ref a1, .ref a2])), (a1, .inl (cJ, (24, .inr (.inl (fun _ => 0))))), (a2, .inl (cJ, (24, .inr (.inl (fun _ => 0)))))] := hD
  refine lv_aload_n hx hb dX2_init_30 rfl (lv_at hl 0 rfl) ?_
  refine lv_aload_n hx hb dX2_init_31 rfl (lv_at hl 3 rfl) ?_
  refine va_putF (D := D) (ci := 2) (v := .ref r3) (ty := .object "TermsDesk$Joins") (C := RX2) (T := TX2) (N := 5) hx hb hts hiX2 tyX2 tyX2_ok nmX2 hown hK hP hD hS 0 rfl rfl 2 (by decide) hf26 (fun _ h9 => h9) rfl hin rfl (by decide +kernel) rfl rfl (Nat.le_of_ble_eq_true rfl) dX2_init_32 (fun H locs hP hD hS => ?_)
  have hP : va_P D vwCl [(h0, .inr (2, [.ref r1, .ref r2, .ref r3, .ref a1, .ref a2])), (a1, .inl (cJ, (24, .inr (.inl (fun _ => 0))))), (a2, .inl (cJ, (24, .inr (.inl (fun _ => 0)))))] H := hP
  have hD : va_D A [(h0, .inr (2, [.ref r1, .ref r2, .ref r3, .ref a1, .ref a2])), (a1, .inl (cJ, (24, .inr (.inl (fun _ => 0))))), (a2, .inl (cJ, (24, .inr (.inl (fun _ => 0)))))] := hD
  exact W.vret hx hb hr (fun t ht hW => ⟨⟨(a1, a2), rfl, trivial, by show va_P D vwCl _ t.heap ∧ _; rw [ht]; exact ⟨hP, hD⟩⟩, hS.F ht⟩) hS.2.2 dX2_init_35
def kw_X1 (h0 : Nat) (cI cJ cZ : ClassId) (r1 : Nat) (r2 : Nat) (r3 : Nat) (u : Nat × Nat × Nat × Nat) : va_W := [(h0, .inr (1, [.ref r1, .ref r2, .ref r3, .ref (u.1), .int 0, .ref (u.2.1), .ref (u.2.2.1), .ref (u.2.2.2), .int 0, .int 0])), (u.1, .inl (cI, (24, .inl (fun _ => 0)))), (u.2.1, .inl (cI, (24, .inl (fun _ => 0)))), (u.2.2.1, .inl (cI, (24, .inl (fun _ => 0)))), (u.2.2.2, .inl (cI, (25, .inl (fun _ => 0))))]
abbrev rk_X1 : Room := { frames := 1, cells := 4, slots := 97, locals := 12 }
set_option maxHeartbeats 400000 in
set_option maxRecDepth 100000 in
theorem k_X1 (l : Launch) (D : va_G) (cI cJ cZ : ClassId) (h0 sz : Nat) (r1 : Nat) (r2 : Nat) (r3 : Nat) : Met l yX1_init wsX1_init rk_X1 (va_Pc [.ref h0, .ref r1, .ref r2, .ref r3] (MW D (ty3 cI cJ cZ) [(h0, .inr (1, [.null, .null, .null, .null, .int 0, .null, .null, .null, .int 0, .int 0]))] sz)) (va_Qv (fun _ : Nat × Nat × Nat × Nat => True) (fun u t => va_P D vwCl (kw_X1 h0 cI cJ cZ r1 r2 r3 u) t.heap ∧ va_D (va_A [(h0, .inr (1, [.null, .null, .null, .null, .int 0, .null, .null, .null, .int 0, .int 0]))] sz) (kw_X1 h0 cI cJ cZ r1 r2 r3 u)) (va_A [(h0, .inr (1, [.null, .null, .null, .null, .int 0, .null, .null, .null, .int 0, .int 0]))] sz)) 4 97 (va_A [(h0, .inr (1, [.null, .null, .null, .null, .int 0, .null, .null, .null, .int 0, .int 0]))] sz) := by
  refine Met.ofW (cc := cX1_init) (maxL := 4) (ret := none) (by decide) rfl ?_
  intro p e s m args below meth c s₁ B hml hv
  obtain ⟨hargs, hsz, hP, hK, hD0, hN⟩ := hv
  have hx := B.exec
  have hb := B.bytes
  have hr := B.returns
  have hts := atoms_spec (ws := wsX1_init) B.pre
  have hown : s.vm.findClass RX1 = some m.cls := findClass_of_methodNamed B.named
  have hlocks := B.notSynchronized
  have hin : meth.name = "<init>" := (name_of_methodNamed B.named B.method).1
  subst hsz
  have hD := hD0.self (sz := s.heap.size)
  have hA : ∀ a : Nat, s.heap.size ≤ a → va_A [(h0, .inr (1, [.null, .null, .null, .null, .int 0, .null, .null, .null, .int 0, .int 0]))] s.heap.size a := fun _ h => Or.inr h
  generalize hAe : va_A [(h0, .inr (1, [.null, .null, .null, .null, .int 0, .null, .null, .null, .int 0, .int 0]))] s.heap.size = A at hD hA ⊢
  have hS : va_S A s.heap s.heap [] := va_S.rf
  have hiX1 : ∀ w ∈ u_ws RX1 TX1 10, w ∈ wsX1_init := by decide +kernel
  have hf15 := hts (.fieldLink RX1 15 "TermsDesk$Chooser" "place" "[I") (by decide +kernel)
  have hf18 := hts (.fieldLink RX1 18 "TermsDesk$Chooser" "bestPlace" "[I") (by decide +kernel)
  have hf21 := hts (.fieldLink RX1 21 "TermsDesk$Chooser" "quarrelsBefore" "[I") (by decide +kernel)
  have hf24 := hts (.fieldLink RX1 24 "TermsDesk$Chooser" "parts" "LTermsDesk$Parts;") (by decide +kernel)
  have hf28 := hts (.fieldLink RX1 28 "TermsDesk$Chooser" "joins" "LTermsDesk$Joins;") (by decide +kernel)
  have hf32 := hts (.fieldLink RX1 32 "TermsDesk$Chooser" "flow" "LTermsDesk$Flow;") (by decide +kernel)
  have hf9 := hts (.fieldLink RX1 9 "TermsDesk$Chooser" "line" "[I") (by decide +kernel)
  have hyI := hts (.arrayClass .int) (by decide +kernel)
  have hent := lg_entry_eq m ([.ref h0, .ref r1, .ref r2, .ref r3]) 4
  rw [← hargs] at hent
  rw [hent]
  have hl := lv_entry ([.ref h0, .ref r1, .ref r2, .ref r3]) (n := 4) (Nat.le_of_ble_eq_true rfl)
  generalize (lg_sl ([.ref h0, .ref r1, .ref r2, .ref r3]) ++ List.replicate (4 - (lg_sl ([.ref h0, .ref r1, .ref r2, .ref r3])).length) Slot.unset).toArray = ls at hl ⊢
  have hl : lv_has ls 4 [(0, .ref h0), (1, .ref r1), (2, .ref r2), (3, .ref r3)] := hl
  refine lv_aload_n hx hb dX1_init_0 rfl (lv_at hl 0 rfl) ?_
  refine W.objInit hx hb hown (hts (.methodLink RX1 3 objectInit) (by decide +kernel)) (hts (.instanceMethod objectInit) (by decide +kernel)) (hts _ (List.mem_of_getElem? (i := 3) rfl)) rfl (by rw [hml]; exact hl.1) rfl dX1_init_1 (Nat.le_of_ble_eq_true rfl) (Nat.le_of_ble_eq_true rfl) ?_
  refine W.eq (g2 := F0 m 4 ls []) rfl ?_
  refine lv_aload_n hx hb dX1_init_4 rfl (lv_at hl 0 rfl) ?_
  refine lv_bipush (v := 24) hx hb dX1_init_5 (by decide) ?_
  refine va_newa (atype := .int) hx hb hyI (ty := .int) rfl hK hP hD hS hA (a0 := (24, .inl (fun _ => 0))) (fun _ => rfl) (by decide) (by decide) (by decide +kernel) (Nat.le_of_ble_eq_true rfl) (Nat.le_of_ble_eq_true rfl) dX1_init_7 (fun a1 cA H hK2 hP hD hS => ?_)
  have ecy := cy_I hK2
  subst ecy
  have hP : va_P D vwCl [(h0, .inr (1, [.null, .null, .null, .null, .int 0, .null, .null, .null, .int 0, .int 0])), (a1, .inl (cI, (24, .inl (fun _ => 0))))] H := hP
  have hD : va_D A [(h0, .inr (1, [.null, .null, .null, .null, .int 0, .null, .null, .null, .int 0, .int 0])), (a1, .inl (cI, (24, .inl (fun _ => 0))))] := hD
  refine W.widen (k := 1) (n := 24) (by decide) (by decide) ?_
  refine va_putF (D := D) (ci := 1) (v := .ref a1) (ty := .array .int) (C := RX1) (T := TX1) (N := 10) hx hb hts hiX1 tyX1 tyX1_ok nmX1 hown hK hP hD hS 0 rfl rfl 3 (by decide) hf9 (fun _ h9 => h9) rfl hin rfl (by decide +kernel) rfl rfl (Nat.le_of_ble_eq_true rfl) dX1_init_9 (fun H locs hP hD hS => ?_)
  have hP : va_P D vwCl [(h0, .inr (1, [.null, .null, .null, .ref a1, .int 0, .null, .null, .null, .int 0, .int 0])), (a1, .inl (cI, (24, .inl (fun _ => 0))))] H := hP
  have hD : va_D A [(h0, .inr (1, [.null, .null, .null, .ref a1, .int 0, .null, .null, .null, .int 0, .int 0])), (a1, .inl (cI, (24, .inl (fun _ => 0))))] := hD
  refine lv_aload_n hx hb dX1_init_12 rfl (lv_at hl 0 rfl) ?_
  refine lv_bipush (v := 24) hx hb dX1_init_13 (by decide) ?_
  refine va_newa (atype := .int) hx hb hyI (ty := .int) rfl hK hP hD hS hA (a0 := (24, .inl (fun _ => 0))) (fun _ => rfl) (by decide) (by decide) (by decide +kernel) (Nat.le_of_ble_eq_true rfl) (Nat.le_of_ble_eq_true rfl) dX1_init_15 (fun a2 cA H hK2 hP hD hS => ?_)
  have ecy := cy_I hK2
  subst ecy
  have hP : va_P D vwCl [(h0, .inr (1, [.null, .null, .null, .ref a1, .int 0, .null, .null, .null, .int 0, .int 0])), (a1, .inl (cI, (24, .inl (fun _ => 0)))), (a2, .inl (cI, (24, .inl (fun _ => 0))))] H := hP
  have hD : va_D A [(h0, .inr (1, [.null, .null, .null, .ref a1, .int 0, .null, .null, .null, .int 0, .int 0])), (a1, .inl (cI, (24, .inl (fun _ => 0)))), (a2, .inl (cI, (24, .inl (fun _ => 0))))] := hD
  refine W.widen (k := 2) (n := 48) (by decide) (by decide) ?_
  refine va_putF (D := D) (ci := 1) (v := .ref a2) (ty := .array .int) (C := RX1) (T := TX1) (N := 10) hx hb hts hiX1 tyX1 tyX1_ok nmX1 hown hK hP hD hS 0 rfl rfl 5 (by decide) hf15 (fun _ h9 => h9) rfl hin rfl (by decide +kernel) rfl rfl (Nat.le_of_ble_eq_true rfl) dX1_init_17 (fun H locs hP hD hS => ?_)
  have hP : va_P D vwCl [(h0, .inr (1, [.null, .null, .null, .ref a1, .int 0, .ref a2, .null, .null, .int 0, .int 0])), (a1, .inl (cI, (24, .inl (fun _ => 0)))), (a2, .inl (cI, (24, .inl (fun _ => 0))))] H := hP
  have hD : va_D A [(h0, .inr (1, [.null, .null, .null, .ref a1, .int 0, .ref a2, .null, .null, .int 0, .int 0])), (a1, .inl (cI, (24, .inl (fun _ => 0)))), (a2, .inl (cI, (24, .inl (fun _ => 0))))] := hD
  refine lv_aload_n hx hb dX1_init_20 rfl (lv_at hl 0 rfl) ?_
  refine lv_bipush (v := 24) hx hb dX1_init_21 (by decide) ?_
  refine va_newa (atype := .int) hx hb hyI (ty := .int) rfl hK hP hD hS hA (a0 := (24, .inl (fun _ => 0))) (fun _ => rfl) (by decide) (by decide) (by decide +kernel) (Nat.le_of_ble_eq_true rfl) (Nat.le_of_ble_eq_true rfl) dX1_init_23 (fun a3 cA H hK2 hP hD hS => ?_)
  have ecy := cy_I hK2
  subst ecy
  have hP : va_P D vwCl [(h0, .inr (1, [.null, .null, .null, .ref a1, .int 0, .ref a2, .null, .null, .int 0, .int 0])), (a1, .inl (cI, (24, .inl (fun _ => 0)))), (a2, .inl (cI, (24, .inl (fun _ => 0)))), (a3, .inl (cI, (24, .inl (fun _ => 0))))] H := hP
  have hD : va_D A [(h0, .inr (1, [.null, .null, .null, .ref a1, .int 0, .ref a2, .null, .null, .int 0, .int 0])), (a1, .inl (cI, (24, .inl (fun _ => 0)))), (a2, .inl (cI, (24, .inl (fun _ => 0)))), (a3, .inl (cI, (24, .inl (fun _ => 0))))] := hD
  refine W.widen (k := 3) (n := 72) (by decide) (by decide) ?_
  refine va_putF (D := D) (ci := 1) (v := .ref a3) (ty := .array .int) (C := RX1) (T := TX1) (N := 10) hx hb hts hiX1 tyX1 tyX1_ok nmX1 hown hK hP hD hS 0 rfl rfl 6 (by decide) hf18 (fun _ h9 => h9) rfl hin rfl (by decide +kernel) rfl rfl (Nat.le_of_ble_eq_true rfl) dX1_init_25 (fun H locs hP hD hS => ?_)
  have hP : va_P D vwCl [(h0, .inr (1, [.null, .null, .null, .ref a1, .int 0, .ref a2, .ref a3, .null, .int 0, .int 0])), (a1, .inl (cI, (24, .inl (fun _ => 0)))), (a2, .inl (cI, (24, .inl (fun _ => 0)))), (a3, .inl (cI, (24, .inl (fun _ => 0))))] H := hP
  have hD : va_D A [(h0, .inr (1, [.null, .null, .null, .ref a1, .int 0, .ref a2, .ref a3, .null, .int 0, .int 0])), (a1, .inl (cI, (24, .inl (fun _ => 0)))), (a2, .inl (cI, (24, .inl (fun _ => 0)))), (a3, .inl (cI, (24, .inl (fun _ => 0))))] := hD
  refine lv_aload_n hx hb dX1_init_28 rfl (lv_at hl 0 rfl) ?_
  refine lv_bipush (v := 25) hx hb dX1_init_29 (by decide) ?_
  refine va_newa (atype := .int) hx hb hyI (ty := .int) rfl hK hP hD hS hA (a0 := (25, .inl (fun _ => 0))) (fun _ => rfl) (by decide) (by decide) (by decide +kernel) (Nat.le_of_ble_eq_true rfl) (Nat.le_of_ble_eq_true rfl) dX1_init_31 (fun a4 cA H hK2 hP hD hS => ?_)
  have ecy := cy_I hK2
  subst ecy
  have hP : va_P D vwCl [(h0, .inr (1, [.null, .null, .null, .ref a1, .int 0, .ref a2, .ref a3, .null, .int 0, .int 0])), (a1, .inl (cI, (24, .inl (fun _ => 0)))), (a2, .inl (cI, (24, .inl (fun _ => 0)))), (a3, .inl (cI, (24, .inl (fun _ => 0)))), (a4, .inl (cI, (25, .inl (fun _ => 0))))] H := hP
  have hD : va_D A [(h0, .inr (1, [.null, .null, .null, .ref a1, .int 0, .ref a2, .ref a3, .null, .int 0, .int 0])), (a1, .inl (cI, (24, .inl (fun _ => 0)))), (a2, .inl (cI, (24, .inl (fun _ => 0)))), (a3, .inl (cI, (24, .inl (fun _ => 0)))), (a4, .inl (cI, (25, .inl (fun _ => 0))))] := hD
  refine W.widen (k := 4) (n := 97) (by decide) (by decide) ?_
  refine va_putF (D := D) (ci := 1) (v := .ref a4) (ty := .array .int) (C := RX1) (T := TX1) (N := 10) hx hb hts hiX1 tyX1 tyX1_ok nmX1 hown hK hP hD hS 0 rfl rfl 7 (by decide) hf21 (fun _ h9 => h9) rfl hin rfl (by decide +kernel) rfl rfl (Nat.le_of_ble_eq_true rfl) dX1_init_33 (fun H locs hP hD hS => ?_)
  have hP : va_P D vwCl [(h0, .inr (1, [.null, .null, .null, .ref a1, .int 0, .ref a2, .ref a3, .ref a4, .int 0, .int 0])), (a1, .inl (cI, (24, .inl (fun _ => 0)))), (a2, .inl (cI, (24, .inl (fun _ => 0)))), (a3, .inl (cI, (24, .inl (fun _ => 0)))), (a4, .inl (cI, (25, .inl (fun _ => 0))))] H := hP
  have hD : va_D A [(h0, .inr (1, [.null, .null, .null, .ref a1, .int 0, .ref a2, .ref a3, .ref a4, .int 0, .int 0])), (a1, .inl (cI, (24, .inl (fun _ => 0)))), (a2, .inl (cI, (24, .inl (fun _ => 0)))), (a3, .inl (cI, (24, .inl (fun _ => 0)))), (a4, .inl (cI, (25, .inl (fun _ => 0))))] := hD
  refine lv_aload_n hx hb dX1_init_36 rfl (lv_at hl 0 rfl) ?_
  refine lv_aload_n hx hb dX1_init_37 rfl (lv_at hl 1 rfl) ?_
  refine va_putF (D := D) (ci := 1) (v := .ref r1) (ty := .object "TermsDesk$Parts") (C := RX1) (T := TX1) (N := 10) hx hb hts hiX1 tyX1 tyX1_ok nmX1 hown hK hP hD hS 0 rfl rfl 0 (by decide) hf24 (fun _ h9 => h9) rfl hin rfl (by decide +kernel) rfl rfl (Nat.le_of_ble_eq_true rfl) dX1_init_38 (fun H locs hP hD hS => ?_)
  have hP : va_P D vwCl [(h0, .inr (1, [.ref r1, .null, .null, .ref a1, .int 0, .ref a2, .ref a3, .ref a4, .int 0, .int 0])), (a1, .inl (cI, (24, .inl (fun _ => 0)))), (a2, .inl (cI, (24, .inl (fun _ => 0)))), (a3, .inl (cI, (24, .inl (fun _ => 0)))), (a4, .inl (cI, (25, .inl (fun _ => 0))))] H := hP
  have hD : va_D A [(h0, .inr (1, [.ref r1, .null, .null, .ref a1, .int 0, .ref a2, .ref a3, .ref a4, .int 0, .int 0])), (a1, .inl (cI, (24, .inl (fun _ => 0)))), (a2, .inl (cI, (24, .inl (fun _ => 0)))), (a3, .inl (cI, (24, .inl (fun _ => 0)))), (a4, .inl (cI, (25, .inl (fun _ => 0))))] := hD
  refine lv_aload_n hx hb dX1_init_41 rfl (lv_at hl 0 rfl) ?_
  refine lv_aload_n hx hb dX1_init_42 rfl (lv_at hl 2 rfl) ?_
  refine va_putF (D := D) (ci := 1) (v := .ref r2) (ty := .object "TermsDesk$Joins") (C := RX1) (T := TX1) (N := 10) hx hb hts hiX1 tyX1 tyX1_ok nmX1 hown hK hP hD hS 0 rfl rfl 1 (by decide) hf28 (fun _ h9 => h9) rfl hin rfl (by decide +kernel) rfl rfl (Nat.le_of_ble_eq_true rfl) dX1_init_43 (fun H locs hP hD hS => ?_)
  have hP : va_P D vwCl [(h0, .inr (1, [.ref r1, .ref r2, .null, .ref a1, .int 0, .ref a2, .ref a3, .ref a4, .int 0, .int 0])), (a1, .inl (cI, (24, .inl (fun _ => 0)))), (a2, .inl (cI, (24, .inl (fun _ => 0)))), (a3, .inl (cI, (24, .inl (fun _ => 0)))), (a4, .inl (cI, (25, .inl (fun _ => 0))))] H := hP
  have hD : va_D A [(h0, .inr (1, [.ref r1, .ref r2, .null, .ref a1, .int 0, .ref a2, .ref a3, .ref a4, .int 0, .int 0])), (a1, .inl (cI, (24, .inl (fun _ => 0)))), (a2, .inl (cI, (24, .inl (fun _ => 0)))), (a3, .inl (cI, (24, .inl (fun _ => 0)))), (a4, .inl (cI, (25, .inl (fun _ => 0))))] := hD
  refine lv_aload_n hx hb dX1_init_46 rfl (lv_at hl 0 rfl) ?_
  refine lv_aload_n hx hb dX1_init_47 rfl (lv_at hl 3 rfl) ?_
  refine va_putF (D := D) (ci := 1) (v := .ref r3) (ty := .object "TermsDesk$Flow") (C := RX1) (T := TX1) (N := 10) hx hb hts hiX1 tyX1 tyX1_ok nmX1 hown hK hP hD hS 0 rfl rfl 2 (by decide) hf32 (fun _ h9 => h9) rfl hin rfl (by decide +kernel) rfl rfl (Nat.le_of_ble_eq_true rfl) dX1_init_48 (fun H locs hP hD hS => ?_)
  have hP : va_P D vwCl [(h0, .inr (1, [.ref r1, .ref r2, .ref r3, .ref a1, .int 0, .ref a2, .ref a3, .ref a4, .int 0, .int 0])), (a1, .inl (cI, (24, .inl (fun _ => 0)))), (a2, .inl (cI, (24, .inl (fun _ => 0)))), (a3, .inl (cI, (24, .inl (fun _ => 0)))), (a4, .inl (cI, (25, .inl (fun _ => 0))))] H := hP
  have hD : va_D A [(h0, .inr (1, [.ref r1, .ref r2, .ref r3, .ref a1, .int 0, .ref a2, .ref a3, .ref a4, .int 0, .int 0])), (a1, .inl (cI, (24, .inl (fun _ => 0)))), (a2, .inl (cI, (24, .inl (fun _ => 0)))), (a3, .inl (cI, (24, .inl (fun _ => 0)))), (a4, .inl (cI, (25, .inl (fun _ => 0))))] := hD
  exact W.vret hx hb hr (fun t ht hW => ⟨⟨(a1, a2, a3, a4), rfl, trivial, by show va_P D vwCl _ t.heap ∧ _; rw [ht]; exact ⟨hP, hD⟩⟩, hS.F ht⟩) hS.2.2 dX1_init_51
def kw_X4 (h0 : Nat) (cI cJ cZ : ClassId) (r1 : Nat) (r2 : Nat) (r3 : Nat) (r4 : Nat) (u : Nat) : va_W := [(h0, .inr (4, [.ref r1, .ref r2, .ref r3, .ref r4, .ref (u)])), (u, .inl (cI, (24, .inl (fun _ => 0))))]
abbrev rk_X4 : Room := { frames := 1, cells := 1, slots := 24, locals := 12 }
set_option maxHeartbeats 400000 in
set_option maxRecDepth 100000 in
theorem k_X4 (l : Launch) (D : va_G) (cI cJ cZ : ClassId) (h0 sz : Nat) (r1 : Nat) (r2 : Nat) (r3 : Nat) (r4 : Nat) : Met l yX4_init wsX4_init rk_X4 (va_Pc [.ref h0, .ref r1, .ref r2, .ref r3, .ref r4] (MW D (ty3 cI cJ cZ) [(h0, .inr (4, [.null, .null, .null, .null, .null]))] sz)) (va_Qv (fun _ : Nat => True) (fun u t => va_P D vwCl (kw_X4 h0 cI cJ cZ r1 r2 r3 r4 u) t.heap ∧ va_D (va_A [(h0, .inr (4, [.null, .null, .null, .null, .null]))] sz) (kw_X4 h0 cI cJ cZ r1 r2 r3 r4 u)) (va_A [(h0, .inr (4, [.null, .null, .null, .null, .null]))] sz)) 1 24 (va_A [(h0, .inr (4, [.null, .null, .null, .null, .null]))] sz) := by
  refine Met.ofW (cc := cX4_init) (maxL := 5) (ret := none) (by decide) rfl ?_
  intro p e s m args below meth c s₁ B hml hv
  obtain ⟨hargs, hsz, hP, hK, hD0, hN⟩ := hv
  have hx := B.exec
  have hb := B.bytes
  have hr := B.returns
  have hts := atoms_spec (ws := wsX4_init) B.pre
  have hown : s.vm.findClass RX4 = some m.cls := findClass_of_methodNamed B.named
  have hlocks := B.notSynchronized
  have hin : meth.name = "<init>" := (name_of_methodNamed B.named B.method).1
  subst hsz
  have hD := hD0.self (sz := s.heap.size)
  have hA : ∀ a : Nat, s.heap.size ≤ a → va_A [(h0, .inr (4, [.null, .null, .null, .null, .null]))] s.heap.size a := fun _ h => Or.inr h
  generalize hAe : va_A [(h0, .inr (4, [.null, .null, .null, .null, .null]))] s.heap.size = A at hD hA ⊢
  have hS : va_S A s.heap s.heap [] := va_S.rf
  have hiX4 : ∀ w ∈ u_ws RX4 TX4 5, w ∈ wsX4_init := by decide +kernel
  have hf15 := hts (.fieldLink RX4 15 "TermsDesk$Mender" "parts" "LTermsDesk$Parts;") (by decide +kernel)
  have hf19 := hts (.fieldLink RX4 19 "TermsDesk$Mender" "joins" "LTermsDesk$Joins;") (by decide +kernel)
  have hf23 := hts (.fieldLink RX4 23 "TermsDesk$Mender" "changes" "LTermsDesk$Changes;") (by decide +kernel)
  have hf27 := hts (.fieldLink RX4 27 "TermsDesk$Mender" "flow" "LTermsDesk$Flow;") (by decide +kernel)
  have hf9 := hts (.fieldLink RX4 9 "TermsDesk$Mender" "licence" "[I") (by decide +kernel)
  have hyI := hts (.arrayClass .int) (by decide +kernel)
  have hent := lg_entry_eq m ([.ref h0, .ref r1, .ref r2, .ref r3, .ref r4]) 5
  rw [← hargs] at hent
  rw [hent]
  have hl := lv_entry ([.ref h0, .ref r1, .ref r2, .ref r3, .ref r4]) (n := 5) (Nat.le_of_ble_eq_true rfl)
  generalize (lg_sl ([.ref h0, .ref r1, .ref r2, .ref r3, .ref r4]) ++ List.replicate (5 - (lg_sl ([.ref h0, .ref r1, .ref r2, .ref r3, .ref r4])).length) Slot.unset).toArray = ls at hl ⊢
  have hl : lv_has ls 5 [(0, .ref h0), (1, .ref r1), (2, .ref r2), (3, .ref r3), (4, .ref r4)] := hl
  refine lv_aload_n hx hb dX4_init_0 rfl (lv_at hl 0 rfl) ?_
  refine W.objInit hx hb hown (hts (.methodLink RX4 3 objectInit) (by decide +kernel)) (hts (.instanceMethod objectInit) (by decide +kernel)) (hts _ (List.mem_of_getElem? (i := 3) rfl)) rfl (by rw [hml]; exact hl.1) rfl dX4_init_1 (Nat.le_of_ble_eq_true rfl) (Nat.le_of_ble_eq_true rfl) ?_
  refine W.eq (g2 := F0 m 4 ls []) rfl ?_
  refine lv_aload_n hx hb dX4_init_4 rfl (lv_at hl 0 rfl) ?_
  refine lv_bipush (v := 24) hx hb dX4_init_5 (by decide) ?_
  refine va_newa (atype := .int) hx hb hyI (ty := .int) rfl hK hP hD hS hA (a0 := (24, .inl (fun _ => 0))) (fun _ => rfl) (by decide) (by decide) (by decide +kernel) (Nat.le_of_ble_eq_true rfl) (Nat.le_of_ble_eq_true rfl) dX4_init_7 (fun a1 cA H hK2 hP hD hS => ?_)
  have ecy := cy_I hK2
  subst ecy
  have hP : va_P D vwCl [(h0, .inr (4, [.null, .null, .null, .null, .null])), (a1, .inl (cI, (24, .inl (fun _ => 0))))] H := hP
  have hD : va_D A [(h0, .inr (4, [.null, .null, .null, .null, .null])), (a1, .inl (cI, (24, .inl (fun _ => 0))))] := hD
  refine W.widen (k := 1) (n := 24) (by decide) (by decide) ?_
  refine va_putF (D := D) (ci := 4) (v := .ref a1) (ty := .array .int) (C := RX4) (T := TX4) (N := 5) hx hb hts hiX4 tyX4 tyX4_ok nmX4 hown hK hP hD hS 0 rfl rfl 4 (by decide) hf9 (fun _ h9 => h9) rfl hin rfl (by decide +kernel) rfl rfl (Nat.le_of_ble_eq_true rfl) dX4_init_9 (fun H locs hP hD hS => ?_)
  have hP : va_P D vwCl [(h0, .inr (4, [.null, .null, .null, .null, .ref a1])), (a1, .inl (cI, (24, .inl (fun _ => 0))))] H := hP
  have hD : va_D A [(h0, .inr (4, [.null, .null, .null, .null, .ref a1])), (a1, .inl (cI, (24, .inl (fun _ => 0))))] := hD
  refine lv_aload_n hx hb dX4_init_12 rfl (lv_at hl 0 rfl) ?_
  refine lv_aload_n hx hb dX4_init_13 rfl (lv_at hl 1 rfl) ?_
  refine va_putF (D := D) (ci := 4) (v := .ref r1) (ty := .object "TermsDesk$Parts") (C := RX4) (T := TX4) (N := 5) hx hb hts hiX4 tyX4 tyX4_ok nmX4 hown hK hP hD hS 0 rfl rfl 0 (by decide) hf15 (fun _ h9 => h9) rfl hin rfl (by decide +kernel) rfl rfl (Nat.le_of_ble_eq_true rfl) dX4_init_14 (fun H locs hP hD hS => ?_)
  have hP : va_P D vwCl [(h0, .inr (4, [.ref r1, .null, .null, .null, .ref a1])), (a1, .inl (cI, (24, .inl (fun _ => 0))))] H := hP
  have hD : va_D A [(h0, .inr (4, [.ref r1, .null, .null, .null, .ref a1])), (a1, .inl (cI, (24, .inl (fun _ => 0))))] := hD
  refine lv_aload_n hx hb dX4_init_17 rfl (lv_at hl 0 rfl) ?_
  refine lv_aload_n hx hb dX4_init_18 rfl (lv_at hl 2 rfl) ?_
  refine va_putF (D := D) (ci := 4) (v := .ref r2) (ty := .object "TermsDesk$Joins") (C := RX4) (T := TX4) (N := 5) hx hb hts hiX4 tyX4 tyX4_ok nmX4 hown hK hP hD hS 0 rfl rfl 1 (by decide) hf19 (fun _ h9 => h9) rfl hin rfl (by decide +kernel) rfl rfl (Nat.le_of_ble_eq_true rfl) dX4_init_19 (fun H locs hP hD hS => ?_)
  have hP : va_P D vwCl [(h0, .inr (4, [.ref r1, .ref r2, .null, .null, .ref a1])), (a1, .inl (cI, (24, .inl (fun _ => 0))))] H := hP
  have hD : va_D A [(h0, .inr (4, [.ref r1, .ref r2, .null, .null, .ref a1])), (a1, .inl (cI, (24, .inl (fun _ => 0))))] := hD
  refine lv_aload_n hx hb dX4_init_22 rfl (lv_at hl 0 rfl) ?_
  refine lv_aload_n hx hb dX4_init_23 rfl (lv_at hl 3 rfl) ?_
  refine va_putF (D := D) (ci := 4) (v := .ref r3) (ty := .object "TermsDesk$Changes") (C := RX4) (T := TX4) (N := 5) hx hb hts hiX4 tyX4 tyX4_ok nmX4 hown hK hP hD hS 0 rfl rfl 2 (by decide) hf23 (fun _ h9 => h9) rfl hin rfl (by decide +kernel) rfl rfl (Nat.le_of_ble_eq_true rfl) dX4_init_24 (fun H locs hP hD hS => ?_)
  have hP : va_P D vwCl [(h0, .inr (4, [.ref r1, .ref r2, .ref r3, .null, .ref a1])), (a1, .inl (cI, (24, .inl (fun _ => 0))))] H := hP
  have hD : va_D A [(h0, .inr (4, [.ref r1, .ref r2, .ref r3, .null, .ref a1])), (a1, .inl (cI, (24, .inl (fun _ => 0))))] := hD
  refine lv_aload_n hx hb dX4_init_27 rfl (lv_at hl 0 rfl) ?_
  refine lv_aload hx hb dX4_init_28 (lv_at hl 4 rfl) ?_
  refine va_putF (D := D) (ci := 4) (v := .ref r4) (ty := .object "TermsDesk$Flow") (C := RX4) (T := TX4) (N := 5) hx hb hts hiX4 tyX4 tyX4_ok nmX4 hown hK hP hD hS 0 rfl rfl 3 (by decide) hf27 (fun _ h9 => h9) rfl hin rfl (by decide +kernel) rfl rfl (Nat.le_of_ble_eq_true rfl) dX4_init_30 (fun H locs hP hD hS => ?_)
  have hP : va_P D vwCl [(h0, .inr (4, [.ref r1, .ref r2, .ref r3, .ref r4, .ref a1])), (a1, .inl (cI, (24, .inl (fun _ => 0))))] H := hP
  have hD : va_D A [(h0, .inr (4, [.ref r1, .ref r2, .ref r3, .ref r4, .ref a1])), (a1, .inl (cI, (24, .inl (fun _ => 0))))] := hD
  exact W.vret hx hb hr (fun t ht hW => ⟨⟨(a1), rfl, trivial, by show va_P D vwCl _ t.heap ∧ _; rw [ht]; exact ⟨hP, hD⟩⟩, hS.F ht⟩) hS.2.2 dX4_init_33
def kw_X7 (h0 : Nat) (cI cJ cZ : ClassId) (r1 : Nat) (r2 : Nat) (r3 : Nat) (r4 : Nat) (u : Nat) : va_W := [(h0, .inr (7, [.ref r1, .ref r2, .ref r3, .ref r4, .ref (u)])), (u, .inl (cI, (24, .inl (fun _ => 0))))]
abbrev rk_X7 : Room := { frames := 1, cells := 1, slots := 24, locals := 12 }
set_option maxHeartbeats 400000 in
set_option maxRecDepth 100000 in
theorem k_X7 (l : Launch) (D : va_G) (cI cJ cZ : ClassId) (h0 sz : Nat) (r1 : Nat) (r2 : Nat) (r3 : Nat) (r4 : Nat) : Met l yX7_init wsX7_init rk_X7 (va_Pc [.ref h0, .ref r1, .ref r2, .ref r3, .ref r4] (MW D (ty3 cI cJ cZ) [(h0, .inr (7, [.null, .null, .null, .null, .null]))] sz)) (va_Qv (fun _ : Nat => True) (fun u t => va_P D vwCl (kw_X7 h0 cI cJ cZ r1 r2 r3 r4 u) t.heap ∧ va_D (va_A [(h0, .inr (7, [.null, .null, .null, .null, .null]))] sz) (kw_X7 h0 cI cJ cZ r1 r2 r3 r4 u)) (va_A [(h0, .inr (7, [.null, .null, .null, .null, .null]))] sz)) 1 24 (va_A [(h0, .inr (7, [.null, .null, .null, .null, .null]))] sz) := by
  refine Met.ofW (cc := cX7_init) (maxL := 5) (ret := none) (by decide) rfl ?_
  intro p e s m args below meth c s₁ B hml hv
  obtain ⟨hargs, hsz, hP, hK, hD0, hN⟩ := hv
  have hx := B.exec
  have hb := B.bytes
  have hr := B.returns
  have hts := atoms_spec (ws := wsX7_init) B.pre
  have hown : s.vm.findClass RX7 = some m.cls := findClass_of_methodNamed B.named
  have hlocks := B.notSynchronized
  have hin : meth.name = "<init>" := (name_of_methodNamed B.named B.method).1
  subst hsz
  have hD := hD0.self (sz := s.heap.size)
  have hA : ∀ a : Nat, s.heap.size ≤ a → va_A [(h0, .inr (7, [.null, .null, .null, .null, .null]))] s.heap.size a := fun _ h => Or.inr h
  generalize hAe : va_A [(h0, .inr (7, [.null, .null, .null, .null, .null]))] s.heap.size = A at hD hA ⊢
  have hS : va_S A s.heap s.heap [] := va_S.rf
  have hiX7 : ∀ w ∈ u_ws RX7 TX7 5, w ∈ wsX7_init := by decide +kernel
  have hf15 := hts (.fieldLink RX7 15 "TermsDesk$Tracer" "terms" "LTermsDesk$Terms;") (by decide +kernel)
  have hf19 := hts (.fieldLink RX7 19 "TermsDesk$Tracer" "parts" "LTermsDesk$Parts;") (by decide +kernel)
  have hf23 := hts (.fieldLink RX7 23 "TermsDesk$Tracer" "joins" "LTermsDesk$Joins;") (by decide +kernel)
  have hf27 := hts (.fieldLink RX7 27 "TermsDesk$Tracer" "flow" "LTermsDesk$Flow;") (by decide +kernel)
  have hf9 := hts (.fieldLink RX7 9 "TermsDesk$Tracer" "steps" "[I") (by decide +kernel)
  have hyI := hts (.arrayClass .int) (by decide +kernel)
  have hent := lg_entry_eq m ([.ref h0, .ref r1, .ref r2, .ref r3, .ref r4]) 5
  rw [← hargs] at hent
  rw [hent]
  have hl := lv_entry ([.ref h0, .ref r1, .ref r2, .ref r3, .ref r4]) (n := 5) (Nat.le_of_ble_eq_true rfl)
  generalize (lg_sl ([.ref h0, .ref r1, .ref r2, .ref r3, .ref r4]) ++ List.replicate (5 - (lg_sl ([.ref h0, .ref r1, .ref r2, .ref r3, .ref r4])).length) Slot.unset).toArray = ls at hl ⊢
  have hl : lv_has ls 5 [(0, .ref h0), (1, .ref r1), (2, .ref r2), (3, .ref r3), (4, .ref r4)] := hl
  refine lv_aload_n hx hb dX7_init_0 rfl (lv_at hl 0 rfl) ?_
  refine W.objInit hx hb hown (hts (.methodLink RX7 3 objectInit) (by decide +kernel)) (hts (.instanceMethod objectInit) (by decide +kernel)) (hts _ (List.mem_of_getElem? (i := 3) rfl)) rfl (by rw [hml]; exact hl.1) rfl dX7_init_1 (Nat.le_of_ble_eq_true rfl) (Nat.le_of_ble_eq_true rfl) ?_
  refine W.eq (g2 := F0 m 4 ls []) rfl ?_
  refine lv_aload_n hx hb dX7_init_4 rfl (lv_at hl 0 rfl) ?_
  refine lv_bipush (v := 24) hx hb dX7_init_5 (by decide) ?_
  refine va_newa (atype := .int) hx hb hyI (ty := .int) rfl hK hP hD hS hA (a0 := (24, .inl (fun _ => 0))) (fun _ => rfl) (by decide) (by decide) (by decide +kernel) (Nat.le_of_ble_eq_true rfl) (Nat.le_of_ble_eq_true rfl) dX7_init_7 (fun a1 cA H hK2 hP hD hS => ?_)
  have ecy := cy_I hK2
  subst ecy
  have hP : va_P D vwCl [(h0, .inr (7, [.null, .null, .null, .null, .null])), (a1, .inl (cI, (24, .inl (fun _ => 0))))] H := hP
  have hD : va_D A [(h0, .inr (7, [.null, .null, .null, .null, .null])), (a1, .inl (cI, (24, .inl (fun _ => 0))))] := hD
  refine W.widen (k := 1) (n := 24) (by decide) (by decide) ?_
  refine va_putF (D := D) (ci := 7) (v := .ref a1) (ty := .array .int) (C := RX7) (T := TX7) (N := 5) hx hb hts hiX7 tyX7 tyX7_ok nmX7 hown hK hP hD hS 0 rfl rfl 4 (by decide) hf9 (fun _ h9 => h9) rfl hin rfl (by decide +kernel) rfl rfl (Nat.le_of_ble_eq_true rfl) dX7_init_9 (fun H locs hP hD hS => ?_)
  have hP : va_P D vwCl [(h0, .inr (7, [.null, .null, .null, .null, .ref a1])), (a1, .inl (cI, (24, .inl (fun _ => 0))))] H := hP
  have hD : va_D A [(h0, .inr (7, [.null, .null, .null, .null, .ref a1])), (a1, .inl (cI, (24, .inl (fun _ => 0))))] := hD
  refine lv_aload_n hx hb dX7_init_12 rfl (lv_at hl 0 rfl) ?_
  refine lv_aload_n hx hb dX7_init_13 rfl (lv_at hl 1 rfl) ?_
  refine va_putF (D := D) (ci := 7) (v := .ref r1) (ty := .object "TermsDesk$Terms") (C := RX7) (T := TX7) (N := 5) hx hb hts hiX7 tyX7 tyX7_ok nmX7 hown hK hP hD hS 0 rfl rfl 0 (by decide) hf15 (fun _ h9 => h9) rfl hin rfl (by decide +kernel) rfl rfl (Nat.le_of_ble_eq_true rfl) dX7_init_14 (fun H locs hP hD hS => ?_)
  have hP : va_P D vwCl [(h0, .inr (7, [.ref r1, .null, .null, .null, .ref a1])), (a1, .inl (cI, (24, .inl (fun _ => 0))))] H := hP
  have hD : va_D A [(h0, .inr (7, [.ref r1, .null, .null, .null, .ref a1])), (a1, .inl (cI, (24, .inl (fun _ => 0))))] := hD
  refine lv_aload_n hx hb dX7_init_17 rfl (lv_at hl 0 rfl) ?_
  refine lv_aload_n hx hb dX7_init_18 rfl (lv_at hl 2 rfl) ?_
  refine va_putF (D := D) (ci := 7) (v := .ref r2) (ty := .object "TermsDesk$Parts") (C := RX7) (T := TX7) (N := 5) hx hb hts hiX7 tyX7 tyX7_ok nmX7 hown hK hP hD hS 0 rfl rfl 1 (by decide) hf19 (fun _ h9 => h9) rfl hin rfl (by decide +kernel) rfl rfl (Nat.le_of_ble_eq_true rfl) dX7_init_19 (fun H locs hP hD hS => ?_)
  have hP : va_P D vwCl [(h0, .inr (7, [.ref r1, .ref r2, .null, .null, .ref a1])), (a1, .inl (cI, (24, .inl (fun _ => 0))))] H := hP
  have hD : va_D A [(h0, .inr (7, [.ref r1, .ref r2, .null, .null, .ref a1])), (a1, .inl (cI, (24, .inl (fun _ => 0))))] := hD
  refine lv_aload_n hx hb dX7_init_22 rfl (lv_at hl 0 rfl) ?_
  refine lv_aload_n hx hb dX7_init_23 rfl (lv_at hl 3 rfl) ?_
  refine va_putF (D := D) (ci := 7) (v := .ref r3) (ty := .object "TermsDesk$Joins") (C := RX7) (T := TX7) (N := 5) hx hb hts hiX7 tyX7 tyX7_ok nmX7 hown hK hP hD hS 0 rfl rfl 2 (by decide) hf23 (fun _ h9 => h9) rfl hin rfl (by decide +kernel) rfl rfl (Nat.le_of_ble_eq_true rfl) dX7_init_24 (fun H locs hP hD hS => ?_)
  have hP : va_P D vwCl [(h0, .inr (7, [.ref r1, .ref r2, .ref r3, .null, .ref a1])), (a1, .inl (cI, (24, .inl (fun _ => 0))))] H := hP
  have hD : va_D A [(h0, .inr (7, [.ref r1, .ref r2, .ref r3, .null, .ref a1])), (a1, .inl (cI, (24, .inl (fun _ => 0))))] := hD
  refine lv_aload_n hx hb dX7_init_27 rfl (lv_at hl 0 rfl) ?_
  refine lv_aload hx hb dX7_init_28 (lv_at hl 4 rfl) ?_
  refine va_putF (D := D) (ci := 7) (v := .ref r4) (ty := .object "TermsDesk$Flow") (C := RX7) (T := TX7) (N := 5) hx hb hts hiX7 tyX7 tyX7_ok nmX7 hown hK hP hD hS 0 rfl rfl 3 (by decide) hf27 (fun _ h9 => h9) rfl hin rfl (by decide +kernel) rfl rfl (Nat.le_of_ble_eq_true rfl) dX7_init_30 (fun H locs hP hD hS => ?_)
  have hP : va_P D vwCl [(h0, .inr (7, [.ref r1, .ref r2, .ref r3, .ref r4, .ref a1])), (a1, .inl (cI, (24, .inl (fun _ => 0))))] H := hP
  have hD : va_D A [(h0, .inr (7, [.ref r1, .ref r2, .ref r3, .ref r4, .ref a1])), (a1, .inl (cI, (24, .inl (fun _ => 0))))] := hD
  exact W.vret hx hb hr (fun t ht hW => ⟨⟨(a1), rfl, trivial, by show va_P D vwCl _ t.heap ∧ _; rw [ht]; exact ⟨hP, hD⟩⟩, hS.F ht⟩) hS.2.2 dX7_init_33
