/-! ===== the pure picture: a world is its rows of ints and its rows of longs; the machine's worlds over it ===== -/
abbrev WU : Type := (Nat → Nat → Int32) × (Nat → Nat → Int64)
def u00 : WU := (fun _ _ => 0, fun _ _ => 0)
def uI (u : WU) (k : Nat) (f : Nat → Int32) : WU := (va_up u.1 k f, u.2)
def uJ (u : WU) (k : Nat) (f : Nat → Int64) : WU := (u.1, va_up u.2 k f)
def bl (r : Int32) : Prop := narrow .boolean (.int r) = .int r
def jushr (x : Int64) (y : Int32) : Int64 := (x.toUInt64 >>> (y.toInt64.toUInt64 &&& Int64.toUInt64 63)).toInt64
def jshl (x : Int64) (y : Int32) : Int64 := x <<< (y.toInt64 &&& 63)
def jshr (x : Int64) (y : Int32) : Int64 := x >>> (y.toInt64 &&& 63)
def jiushr (x y : Int32) : Int32 := (x.toUInt32 >>> (y.toUInt32 &&& Int32.toUInt32 31)).toInt32
abbrev ty3 (cI cJ cZ : ClassId) : List (ClassId × FieldType) := [(cI, .int), (cJ, .long), (cZ, .boolean)]
/-- the words of private members of nest mates -/
def nwF : List (String × Nat × String × String × String × String) := [(RX8, 108, "TermsDesk$Parts", "choiceCount", "[I", "TermsDesk"), (RX8, 115, "TermsDesk$Parts", "licence", "[I", "TermsDesk"), (RX8, 118, "TermsDesk$Joins", "told", "I", "TermsDesk"), (RX8, 122, "TermsDesk$Joins", "there", "J", "TermsDesk"), (RX8, 142, "TermsDesk$Parts", "lifted", "[J", "TermsDesk"), (RX8, 146, "TermsDesk$Parts", "top", "I", "TermsDesk"), (RX8, 150, "TermsDesk$Changes", "told", "I", "TermsDesk"), (RX8, 158, "TermsDesk$Flow", "arrived", "[J", "TermsDesk"), (RX8, 96, "TermsDesk$Parts", "told", "I", "TermsDesk"), (RX1, 110, "TermsDesk$Parts", "choiceCount", "[I", "TermsDesk"), (RX1, 113, "TermsDesk$Flow", "arrived", "[J", "TermsDesk"), (RX1, 117, "TermsDesk$Parts", "top", "I", "TermsDesk"), (RX1, 130, "TermsDesk$Parts", "licence", "[I", "TermsDesk"), (RX1, 36, "TermsDesk$Joins", "there", "J", "TermsDesk"), (RX1, 81, "TermsDesk$Joins", "order", "[I", "TermsDesk"), (RX2, 109, "TermsDesk$Joins", "there", "J", "TermsDesk"), (RX2, 113, "TermsDesk$Parts", "licence", "[I", "TermsDesk"), (RX2, 130, "TermsDesk$Parts", "choiceCount", "[I", "TermsDesk"), (RX2, 30, "TermsDesk$Terms", "asked", "[J", "TermsDesk"), (RX2, 39, "TermsDesk$Parts", "lifted", "[J", "TermsDesk"), (RX2, 46, "TermsDesk$Joins", "order", "[I", "TermsDesk"), (RX2, 60, "TermsDesk$Joins", "begin", "[I", "TermsDesk"), (RX2, 63, "TermsDesk$Joins", "end", "[I", "TermsDesk"), (RX2, 66, "TermsDesk$Joins", "sorted", "[I", "TermsDesk"), (RX2, 73, "TermsDesk$Joins", "from", "[I", "TermsDesk"), (RX2, 76, "TermsDesk$Terms", "along", "[J", "TermsDesk"), (RX2, 79, "TermsDesk$Joins", "kind", "[I", "TermsDesk"), (RX2, 82, "TermsDesk$Terms", "fought", "[J", "TermsDesk"), (RX2, 85, "TermsDesk$Parts", "told", "I", "TermsDesk"), (RX2, 89, "TermsDesk$Parts", "top", "I", "TermsDesk"), (RX4, 31, "TermsDesk$Changes", "told", "I", "TermsDesk"), (RX4, 44, "TermsDesk$Parts", "licence", "[I", "TermsDesk"), (RX4, 53, "TermsDesk$Joins", "there", "J", "TermsDesk"), (RX4, 63, "TermsDesk$Changes", "what", "[I", "TermsDesk"), (RX4, 66, "TermsDesk$Changes", "which", "[I", "TermsDesk"), (RX4, 69, "TermsDesk$Changes", "licence", "[I", "TermsDesk"), (RX7, 104, "TermsDesk$Joins", "told", "I", "TermsDesk"), (RX7, 105, "TermsDesk$Joins", "to", "[I", "TermsDesk"), (RX7, 45, "TermsDesk$Parts", "top", "I", "TermsDesk"), (RX7, 51, "TermsDesk$Parts", "told", "I", "TermsDesk"), (RX7, 58, "TermsDesk$Parts", "licence", "[I", "TermsDesk"), (RX7, 71, "TermsDesk$Terms", "along", "[J", "TermsDesk"), (RX7, 77, "TermsDesk$Joins", "kind", "[I", "TermsDesk"), (RX7, 82, "TermsDesk$Joins", "order", "[I", "TermsDesk"), (RX7, 88, "TermsDesk$Joins", "begin", "[I", "TermsDesk"), (RX7, 91, "TermsDesk$Joins", "end", "[I", "TermsDesk"), (RX7, 94, "TermsDesk$Joins", "sorted", "[I", "TermsDesk"), (RX7, 97, "TermsDesk$Joins", "from", "[I", "TermsDesk")]
def nwM : List (String × Nat × MethodName × String) := [(RX8, 11, yX6_init, "TermsDesk"), (RX8, 18, yX5_init, "TermsDesk"), (RX8, 32, yX0_init, "TermsDesk"), (RX0, 28, yX8_holds, "TermsDesk"), (RX1, 84, yX8_holds, "TermsDesk"), (RX2, 35, yX8_pairsOf, "TermsDesk"), (RX2, 69, yX8_holds, "TermsDesk"), (RX3, 37, yX8_within, "TermsDesk"), (RX3, 45, yX8_holds, "TermsDesk"), (RX4, 59, yX8_holds, "TermsDesk"), (RX5, 29, yX8_within, "TermsDesk"), (RX6, 27, yX8_holds, "TermsDesk"), (RX6, 31, yX8_pairOf, "TermsDesk"), (RX7, 42, yX8_pairOf, "TermsDesk"), (RX7, 67, yX8_holds, "TermsDesk")]
def NW (U : State) : Prop := (∀ q ∈ nwF, va_Nw (.fieldLinkNest q.1 q.2.1 q.2.2.1 q.2.2.2.1 q.2.2.2.2.1 q.2.2.2.2.2) U) ∧ ∀ q ∈ nwM, va_Nw (.methodLinkNest q.1 q.2.1 q.2.2.1 q.2.2.2) U
theorem NW.warm {s U : State} (hW : s.WarmedH U.vm) (h : NW s) : NW U := ⟨fun q hq => va_Nw.warmF hW (h.1 q hq), fun q hq => va_Nw.warmM hW (h.2 q hq)⟩
theorem NW.same {s U : State} (hv : s.vm = U.vm) (h : NW s) : NW U := ⟨fun q hq => va_Nw.same rfl hv (h.1 q hq), fun q hq => va_Nw.same rfl hv (h.2 q hq)⟩
def RW (D : va_G) (tys : List (ClassId × FieldType)) (ws : va_W) (U : State) : Prop := va_P D vwCl ws U.heap ∧ va_K D vwCl tys U ∧ NW U
def MW (D : va_G) (tys : List (ClassId × FieldType)) (ws : va_W) (sz : Nat) (U : State) : Prop := U.heap.size = sz ∧ va_P D vwCl ws U.heap ∧ va_K D vwCl tys U ∧ va_D (fun _ => True) ws ∧ NW U
/-- the addresses of a world don't hang on what it holds -/
def ShW (w : WU → va_W) : Prop := ∀ a b : WU, (w a).map Prod.fst = (w b).map Prod.fst
theorem shw_at {w : WU → va_W} (h : ShW w) (a b : WU) {k : Nat} {q : Nat × va_E} (hq : (w a)[k]? = some q) : ∃ e, (w b)[k]? = some (q.1, e) := by
  have e1 : ((w a).map Prod.fst)[k]? = some q.1 := by rw [List.getElem?_map, hq]; rfl
  rw [h a b, List.getElem?_map] at e1
  cases hb : (w b)[k]? with
  | none => rw [hb] at e1; cases e1
  | some z => rw [hb] at e1; exact ⟨z.2, by have := Option.some.inj e1; rw [← this]⟩
theorem shw_D {w : WU → va_W} (h : ShW w) {A : Nat → Prop} {a b : WU} (hD : va_D A (w a)) : va_D A (w b) := by
  refine ⟨fun i j p q hi hj e => ?_, fun k q hq => ?_⟩
  · obtain ⟨e1, h1⟩ := shw_at h b a hi
    obtain ⟨e2, h2⟩ := shw_at h b a hj
    exact hD.1 i j _ _ h1 h2 e
  · obtain ⟨e1, h1⟩ := shw_at h b a hq
    exact hD.2 k (q.1, e1) h1
theorem shw_self {w : WU → va_W} (h : ShW w) {u : WU} {sz : Nat} (hD : va_D (fun _ => True) (w u)) : va_D (va_A (w u00) sz) (w u) := ⟨hD.1, fun k q hq => by obtain ⟨e, he⟩ := shw_at h u u00 hq; exact Or.inl ⟨k, e, he⟩⟩
theorem va_P.to {D : va_G} {cl : List vw_C} {ws ws' : va_W} {H : Heap} (e : ws = ws') (h : va_P D cl ws H) : va_P D cl ws' H := e ▸ h
theorem va_D.to {A : Nat → Prop} {ws ws' : va_W} (e : ws = ws') (h : va_D A ws) : va_D A ws' := e ▸ h
section BASE
variable {p : Program} {l : Launch} {e : Env} {R : Room} {s : State} {m : MethodId} {args : Array Value} {below : List Frame} {meth : Method} {c : Code} {H : Heap} {locs : List Loc} {Q : State → Prop}
variable {cc : ByteArray} {pc : Nat} {ls : Array Slot} {rest st0 : List Value} {D : va_G} {A : Nat → Prop} {a : Nat} {tys : List (ClassId × FieldType)} {ws : va_W} {H0 : Heap} {cells slots : Nat}
theorem psS {As : List Value} (hN : NW s) : PreS s H (va_Pc As NW) As := ⟨fun _ U g mk q => ⟨q.1, NW.same (s := U) (U := U.calling g mk _) rfl q.2⟩, fun U _ hW => ⟨rfl, hN.warm hW⟩⟩
theorem psR {As : List Value} (hK : va_K D vwCl tys s) (hP : va_P D vwCl ws H) (hN : NW s) : PreS s H (va_Pc As (RW D tys ws)) As := ⟨fun _ U g mk q => ⟨q.1, q.2.1, va_K.moved (u := U) (U := U.calling g mk _) (Vm.Alike.refl U.vm) q.2.2.1, NW.same (s := U) (U := U.calling g mk _) rfl q.2.2.2⟩, fun U hU hW => ⟨rfl, by rw [hU]; exact hP, va_K.moved hW.alike hK, hN.warm hW⟩⟩
theorem psM {As : List Value} {B : Nat → Prop} (hK : va_K D vwCl tys s) (hP : va_P D vwCl ws H) (hD : va_D B ws) (hN : NW s) : PreS s H (va_Pc As (MW D tys ws H.size)) As := ⟨fun _ U g mk q => ⟨q.1, q.2.1, q.2.2.1, va_K.moved (u := U) (U := U.calling g mk _) (Vm.Alike.refl U.vm) q.2.2.2.1, q.2.2.2.2.1, NW.same (s := U) (U := U.calling g mk _) rfl q.2.2.2.2.2⟩, fun U hU hW => ⟨rfl, by rw [hU], by rw [hU]; exact hP, va_K.moved hW.alike hK, hD.weaken (fun _ _ _ _ => trivial), hN.warm hW⟩⟩
theorem pvR {As : List Value} {b : Nat} {C : String} (hr : ∃ cell : Cell, H[b]? = some cell ∧ cell.vm.isStatics = false ∧ s.vm.findClass C = some cell.cls) (hK : va_K D vwCl tys s) (hP : va_P D vwCl ws H) (hN : NW s) : PreV s H C b (va_Pc (.ref b :: As) (RW D tys ws)) As := ⟨(psR (As := .ref b :: As) hK hP hN).1, hr, (psR (As := .ref b :: As) hK hP hN).2⟩
theorem pvM {As : List Value} {b : Nat} {C : String} {B : Nat → Prop} (hr : ∃ cell : Cell, H[b]? = some cell ∧ cell.vm.isStatics = false ∧ s.vm.findClass C = some cell.cls) (hK : va_K D vwCl tys s) (hP : va_P D vwCl ws H) (hD : va_D B ws) (hN : NW s) : PreV s H C b (va_Pc (.ref b :: As) (MW D tys ws H.size)) As := ⟨(psM (As := .ref b :: As) hK hP hD hN).1, hr, (psM (As := .ref b :: As) hK hP hD hN).2⟩
theorem aw_le {w : WU → va_W} {A0 : Nat → Prop} {u : WU} (hsh : ShW w) (hD : va_D A0 (w u)) (hA : ∀ q : Nat, s.heap.size ≤ q → A0 q) (hS : va_S A0 s.heap H locs) : ∀ q : Nat, va_A (w u00) H.size q → A0 q := by
  intro q h
  rcases h with ⟨k, e1, hk⟩ | h
  · obtain ⟨e2, h2⟩ := shw_at hsh u00 u hk
    exact hD.2 k _ h2
  · exact hA q (Nat.le_trans hS.1 h)
theorem cMi {w : WU → va_W} (hsh : ShW w) {A0 : Nat → Prop} {u : WU} {post : Int32 → WU → Prop} {a0 : Array Value} (hr : va_Run p l e R s m args below meth c H locs 0 0 0 0 (F0 m pc ls st0) rest (va_Qi post (fun u' t => va_P D vwCl (w u') t.heap) (va_A (w u00) H.size) a0) (va_A (w u00) H.size)) (hA : ∀ q : Nat, s.heap.size ≤ q → A0 q) (hD : va_D A0 (w u)) (hS : va_S A0 s.heap H locs)
    (kk : ∀ (r : Int32) (u' : WU) (H1 : Heap) (locs1 : List Loc), post r u' → va_P D vwCl (w u') H1 → va_D A0 (w u') → va_S A0 s.heap H1 locs1 → W p l e R s m args below meth c H1 locs1 0 0 Q (F0 m (pc + 3) ls (.int r :: rest))) : W p l e R s m args below meth c H locs 0 0 Q (F0 m pc ls st0) :=
  va_calli hr hS (fun q _ h => aw_le hsh hD hA hS q h) (aw_le hsh hD hA hS) (fun r u' t H1 locs1 ht _ hp hB _ _ hS1 => kk r u' H1 locs1 hp (ht ▸ hB) (shw_D hsh hD) hS1)
theorem cMv {w : WU → va_W} (hsh : ShW w) {A0 : Nat → Prop} {u : WU} {post : WU → Prop} {a0 : Array Value} (hr : va_Run p l e R s m args below meth c H locs 0 0 0 0 (F0 m pc ls st0) rest (va_Qv post (fun u' t => va_P D vwCl (w u') t.heap) (va_A (w u00) H.size) a0) (va_A (w u00) H.size)) (hA : ∀ q : Nat, s.heap.size ≤ q → A0 q) (hD : va_D A0 (w u)) (hS : va_S A0 s.heap H locs)
    (kk : ∀ (u' : WU) (H1 : Heap) (locs1 : List Loc), post u' → va_P D vwCl (w u') H1 → va_D A0 (w u') → va_S A0 s.heap H1 locs1 → W p l e R s m args below meth c H1 locs1 0 0 Q (F0 m (pc + 3) ls rest)) : W p l e R s m args below meth c H locs 0 0 Q (F0 m pc ls st0) :=
  va_callv hr hS (fun q _ h => aw_le hsh hD hA hS q h) (aw_le hsh hD hA hS) (fun u' t H1 locs1 ht _ hp hB _ _ hS1 => kk u' H1 locs1 hp (ht ▸ hB) (shw_D hsh hD) hS1)
theorem sIast {w : WU → va_W} {u : WU} (hexec : p.tables.exec = Jvm.exec) (hb : c.code = cc) (hK : va_K D vwCl tys s) (hP : va_P D vwCl (w u) H) (hD : va_D A (w u)) (hS : va_S A H0 H locs) (q0 t0 k : Nat) {cA : ClassId} {n : Nat} (ha : (w u)[q0]? = some (a, .inl (cA, n, .inl (u.1 k)))) (ht : tys[t0]? = some (cA, .int)) (hset : ∀ f, (w u).set q0 (a, .inl (cA, n, .inl f)) = w (uI u k f)) {i x : Int32} (hin : vp_in i n) (hdg : decode cc pc = .ok (.iastore, 1))
    (kk : ∀ (u1 : WU) (H1 : Heap) (locs1 : List Loc), u1 = uI u k (upd (u.1 k) i.toNatClampNeg x) → va_P D vwCl (w u1) H1 → va_D A (w u1) → va_S A H0 H1 locs1 → W p l e R s m args below meth c H1 locs1 cells slots Q (F0 m (pc + 1) ls rest)) : W p l e R s m args below meth c H locs cells slots Q (F0 m pc ls (.int x :: .int i :: .ref a :: rest)) :=
  va_iast hexec hb hK hP hD hS q0 t0 ha ht hin hdg (fun H1 l1 hP1 hD1 hS1 => kk _ H1 l1 rfl (hP1.to (hset _)) (hD1.to (hset _)) hS1)
theorem sZast {w : WU → va_W} {u : WU} (hexec : p.tables.exec = Jvm.exec) (hb : c.code = cc) (hK : va_K D vwCl tys s) (hP : va_P D vwCl (w u) H) (hD : va_D A (w u)) (hS : va_S A H0 H locs) (q0 t0 k : Nat) {cA : ClassId} {n : Nat} (ha : (w u)[q0]? = some (a, .inl (cA, n, .inl (u.1 k)))) (ht : tys[t0]? = some (cA, .boolean)) (hset : ∀ f, (w u).set q0 (a, .inl (cA, n, .inl f)) = w (uI u k f)) {i x : Int32} (hin : vp_in i n) (hdg : decode cc pc = .ok (.bastore, 1))
    (kk : ∀ (u1 : WU) (H1 : Heap) (locs1 : List Loc), u1 = uI u k (upd (u.1 k) i.toNatClampNeg (vp_nar .boolean x)) → va_P D vwCl (w u1) H1 → va_D A (w u1) → va_S A H0 H1 locs1 → W p l e R s m args below meth c H1 locs1 cells slots Q (F0 m (pc + 1) ls rest)) : W p l e R s m args below meth c H locs cells slots Q (F0 m pc ls (.int x :: .int i :: .ref a :: rest)) :=
  va_zast hexec hb hK hP hD hS q0 t0 ha ht hin hdg (fun H1 l1 hP1 hD1 hS1 => kk _ H1 l1 rfl (hP1.to (hset _)) (hD1.to (hset _)) hS1)
theorem sLast {w : WU → va_W} {u : WU} (hexec : p.tables.exec = Jvm.exec) (hb : c.code = cc) (hK : va_K D vwCl tys s) (hP : va_P D vwCl (w u) H) (hD : va_D A (w u)) (hS : va_S A H0 H locs) (q0 t0 k : Nat) {cA : ClassId} {n : Nat} (ha : (w u)[q0]? = some (a, .inl (cA, n, .inr (.inl (u.2 k))))) (ht : tys[t0]? = some (cA, .long)) (hset : ∀ f, (w u).set q0 (a, .inl (cA, n, .inr (.inl f))) = w (uJ u k f)) {i : Int32} {x : Int64} (hin : vp_in i n) (hdg : decode cc pc = .ok (.lastore, 1))
    (kk : ∀ (u1 : WU) (H1 : Heap) (locs1 : List Loc), u1 = uJ u k (vp_updL (u.2 k) i.toNatClampNeg x) → va_P D vwCl (w u1) H1 → va_D A (w u1) → va_S A H0 H1 locs1 → W p l e R s m args below meth c H1 locs1 cells slots Q (F0 m (pc + 1) ls rest)) : W p l e R s m args below meth c H locs cells slots Q (F0 m pc ls (.long x :: .int i :: .ref a :: rest)) :=
  va_last hexec hb hK hP hD hS q0 t0 ha ht hin hdg (fun H1 l1 hP1 hD1 hS1 => kk _ H1 l1 rfl (hP1.to (hset _)) (hD1.to (hset _)) hS1)
/-- what follows a put: the world by its new picture -/
theorem sPut {w : WU → va_W} {ws1 : va_W} {uu : WU} (hset : ws1 = w uu) {g : JFrame} (kk : ∀ (u1 : WU) (H1 : Heap) (locs1 : List Loc), u1 = uu → va_P D vwCl (w u1) H1 → va_D A (w u1) → va_S A H0 H1 locs1 → W p l e R s m args below meth c H1 locs1 cells slots Q g) : ∀ (H1 : Heap) (locs1 : List Loc), va_P D vwCl ws1 H1 → va_D A ws1 → va_S A H0 H1 locs1 → W p l e R s m args below meth c H1 locs1 cells slots Q g := fun H1 l1 hP1 hD1 hS1 => kk uu H1 l1 rfl (hP1.to hset) (hD1.to hset) hS1
end BASE
theorem sw_out {x : Int32} (n : Nat) (h : ∀ k : Nat, k ≤ n → ¬ x = nI k) : x.toInt < 0 ∨ (n : Int) < x.toInt := by
  rcases Decidable.em (x.toInt < 0) with h0 | h0
  · exact Or.inl h0
  · refine Or.inr ?_
    rcases Decidable.em ((n : Int) < x.toInt) with h1 | h1
    · exact h1
    · exfalso
      have hb : x.toInt < 2 ^ 31 := by have := Int32.toInt_lt x; simpa using this
      have hk : x.toInt.toNat < 2 ^ 31 := by omega
      refine h x.toInt.toNat (by omega) ?_
      apply Int32.toInt_inj.mp
      rw [nI_toInt hk]
      omega
theorem nf_RX8_108 {U : State} (h : NW U) : va_Nw (.fieldLinkNest RX8 108 "TermsDesk$Parts" "choiceCount" "[I" "TermsDesk") U := h.1 (RX8, 108, "TermsDesk$Parts", "choiceCount", "[I", "TermsDesk") (List.mem_of_getElem? (i := 0) rfl)
theorem nf_RX8_115 {U : State} (h : NW U) : va_Nw (.fieldLinkNest RX8 115 "TermsDesk$Parts" "licence" "[I" "TermsDesk") U := h.1 (RX8, 115, "TermsDesk$Parts", "licence", "[I", "TermsDesk") (List.mem_of_getElem? (i := 1) rfl)
theorem nf_RX8_118 {U : State} (h : NW U) : va_Nw (.fieldLinkNest RX8 118 "TermsDesk$Joins" "told" "I" "TermsDesk") U := h.1 (RX8, 118, "TermsDesk$Joins", "told", "I", "TermsDesk") (List.mem_of_getElem? (i := 2) rfl)
theorem nf_RX8_122 {U : State} (h : NW U) : va_Nw (.fieldLinkNest RX8 122 "TermsDesk$Joins" "there" "J" "TermsDesk") U := h.1 (RX8, 122, "TermsDesk$Joins", "there", "J", "TermsDesk") (List.mem_of_getElem? (i := 3) rfl)
theorem nf_RX8_142 {U : State} (h : NW U) : va_Nw (.fieldLinkNest RX8 142 "TermsDesk$Parts" "lifted" "[J" "TermsDesk") U := h.1 (RX8, 142, "TermsDesk$Parts", "lifted", "[J", "TermsDesk") (List.mem_of_getElem? (i := 4) rfl)
theorem nf_RX8_146 {U : State} (h : NW U) : va_Nw (.fieldLinkNest RX8 146 "TermsDesk$Parts" "top" "I" "TermsDesk") U := h.1 (RX8, 146, "TermsDesk$Parts", "top", "I", "TermsDesk") (List.mem_of_getElem? (i := 5) rfl)
theorem nf_RX8_150 {U : State} (h : NW U) : va_Nw (.fieldLinkNest RX8 150 "TermsDesk$Changes" "told" "I" "TermsDesk") U := h.1 (RX8, 150, "TermsDesk$Changes", "told", "I", "TermsDesk") (List.mem_of_getElem? (i := 6) rfl)
theorem nf_RX8_158 {U : State} (h : NW U) : va_Nw (.fieldLinkNest RX8 158 "TermsDesk$Flow" "arrived" "[J" "TermsDesk") U := h.1 (RX8, 158, "TermsDesk$Flow", "arrived", "[J", "TermsDesk") (List.mem_of_getElem? (i := 7) rfl)
theorem nf_RX8_96 {U : State} (h : NW U) : va_Nw (.fieldLinkNest RX8 96 "TermsDesk$Parts" "told" "I" "TermsDesk") U := h.1 (RX8, 96, "TermsDesk$Parts", "told", "I", "TermsDesk") (List.mem_of_getElem? (i := 8) rfl)
theorem nf_RX1_110 {U : State} (h : NW U) : va_Nw (.fieldLinkNest RX1 110 "TermsDesk$Parts" "choiceCount" "[I" "TermsDesk") U := h.1 (RX1, 110, "TermsDesk$Parts", "choiceCount", "[I", "TermsDesk") (List.mem_of_getElem? (i := 9) rfl)
theorem nf_RX1_113 {U : State} (h : NW U) : va_Nw (.fieldLinkNest RX1 113 "TermsDesk$Flow" "arrived" "[J" "TermsDesk") U := h.1 (RX1, 113, "TermsDesk$Flow", "arrived", "[J", "TermsDesk") (List.mem_of_getElem? (i := 10) rfl)
theorem nf_RX1_117 {U : State} (h : NW U) : va_Nw (.fieldLinkNest RX1 117 "TermsDesk$Parts" "top" "I" "TermsDesk") U := h.1 (RX1, 117, "TermsDesk$Parts", "top", "I", "TermsDesk") (List.mem_of_getElem? (i := 11) rfl)
theorem nf_RX1_130 {U : State} (h : NW U) : va_Nw (.fieldLinkNest RX1 130 "TermsDesk$Parts" "licence" "[I" "TermsDesk") U := h.1 (RX1, 130, "TermsDesk$Parts", "licence", "[I", "TermsDesk") (List.mem_of_getElem? (i := 12) rfl)
theorem nf_RX1_36 {U : State} (h : NW U) : va_Nw (.fieldLinkNest RX1 36 "TermsDesk$Joins" "there" "J" "TermsDesk") U := h.1 (RX1, 36, "TermsDesk$Joins", "there", "J", "TermsDesk") (List.mem_of_getElem? (i := 13) rfl)
theorem nf_RX1_81 {U : State} (h : NW U) : va_Nw (.fieldLinkNest RX1 81 "TermsDesk$Joins" "order" "[I" "TermsDesk") U := h.1 (RX1, 81, "TermsDesk$Joins", "order", "[I", "TermsDesk") (List.mem_of_getElem? (i := 14) rfl)
theorem nf_RX2_109 {U : State} (h : NW U) : va_Nw (.fieldLinkNest RX2 109 "TermsDesk$Joins" "there" "J" "TermsDesk") U := h.1 (RX2, 109, "TermsDesk$Joins", "there", "J", "TermsDesk") (List.mem_of_getElem? (i := 15) rfl)
theorem nf_RX2_113 {U : State} (h : NW U) : va_Nw (.fieldLinkNest RX2 113 "TermsDesk$Parts" "licence" "[I" "TermsDesk") U := h.1 (RX2, 113, "TermsDesk$Parts", "licence", "[I", "TermsDesk") (List.mem_of_getElem? (i := 16) rfl)
theorem nf_RX2_130 {U : State} (h : NW U) : va_Nw (.fieldLinkNest RX2 130 "TermsDesk$Parts" "choiceCount" "[I" "TermsDesk") U := h.1 (RX2, 130, "TermsDesk$Parts", "choiceCount", "[I", "TermsDesk") (List.mem_of_getElem? (i := 17) rfl)
theorem nf_RX2_30 {U : State} (h : NW U) : va_Nw (.fieldLinkNest RX2 30 "TermsDesk$Terms" "asked" "[J" "TermsDesk") U := h.1 (RX2, 30, "TermsDesk$Terms", "asked", "[J", "TermsDesk") (List.mem_of_getElem? (i := 18) rfl)
theorem nf_RX2_39 {U : State} (h : NW U) : va_Nw (.fieldLinkNest RX2 39 "TermsDesk$Parts" "lifted" "[J" "TermsDesk") U := h.1 (RX2, 39, "TermsDesk$Parts", "lifted", "[J", "TermsDesk") (List.mem_of_getElem? (i := 19) rfl)
theorem nf_RX2_46 {U : State} (h : NW U) : va_Nw (.fieldLinkNest RX2 46 "TermsDesk$Joins" "order" "[I" "TermsDesk") U := h.1 (RX2, 46, "TermsDesk$Joins", "order", "[I", "TermsDesk") (List.mem_of_getElem? (i := 20) rfl)
theorem nf_RX2_60 {U : State} (h : NW U) : va_Nw (.fieldLinkNest RX2 60 "TermsDesk$Joins" "begin" "[I" "TermsDesk") U := h.1 (RX2, 60, "TermsDesk$Joins", "begin", "[I", "TermsDesk") (List.mem_of_getElem? (i := 21) rfl)
theorem nf_RX2_63 {U : State} (h : NW U) : va_Nw (.fieldLinkNest RX2 63 "TermsDesk$Joins" "end" "[I" "TermsDesk") U := h.1 (RX2, 63, "TermsDesk$Joins", "end", "[I", "TermsDesk") (List.mem_of_getElem? (i := 22) rfl)
theorem nf_RX2_66 {U : State} (h : NW U) : va_Nw (.fieldLinkNest RX2 66 "TermsDesk$Joins" "sorted" "[I" "TermsDesk") U := h.1 (RX2, 66, "TermsDesk$Joins", "sorted", "[I", "TermsDesk") (List.mem_of_getElem? (i := 23) rfl)
theorem nf_RX2_73 {U : State} (h : NW U) : va_Nw (.fieldLinkNest RX2 73 "TermsDesk$Joins" "from" "[I" "TermsDesk") U := h.1 (RX2, 73, "TermsDesk$Joins", "from", "[I", "TermsDesk") (List.mem_of_getElem? (i := 24) rfl)
theorem nf_RX2_76 {U : State} (h : NW U) : va_Nw (.fieldLinkNest RX2 76 "TermsDesk$Terms" "along" "[J" "TermsDesk") U := h.1 (RX2, 76, "TermsDesk$Terms", "along", "[J", "TermsDesk") (List.mem_of_getElem? (i := 25) rfl)
theorem nf_RX2_79 {U : State} (h : NW U) : va_Nw (.fieldLinkNest RX2 79 "TermsDesk$Joins" "kind" "[I" "TermsDesk") U := h.1 (RX2, 79, "TermsDesk$Joins", "kind", "[I", "TermsDesk") (List.mem_of_getElem? (i := 26) rfl)
theorem nf_RX2_82 {U : State} (h : NW U) : va_Nw (.fieldLinkNest RX2 82 "TermsDesk$Terms" "fought" "[J" "TermsDesk") U := h.1 (RX2, 82, "TermsDesk$Terms", "fought", "[J", "TermsDesk") (List.mem_of_getElem? (i := 27) rfl)
theorem nf_RX2_85 {U : State} (h : NW U) : va_Nw (.fieldLinkNest RX2 85 "TermsDesk$Parts" "told" "I" "TermsDesk") U := h.1 (RX2, 85, "TermsDesk$Parts", "told", "I", "TermsDesk") (List.mem_of_getElem? (i := 28) rfl)
theorem nf_RX2_89 {U : State} (h : NW U) : va_Nw (.fieldLinkNest RX2 89 "TermsDesk$Parts" "top" "I" "TermsDesk") U := h.1 (RX2, 89, "TermsDesk$Parts", "top", "I", "TermsDesk") (List.mem_of_getElem? (i := 29) rfl)
theorem nf_RX4_31 {U : State} (h : NW U) : va_Nw (.fieldLinkNest RX4 31 "TermsDesk$Changes" "told" "I" "TermsDesk") U := h.1 (RX4, 31, "TermsDesk$Changes", "told", "I", "TermsDesk") (List.mem_of_getElem? (i := 30) rfl)
theorem nf_RX4_44 {U : State} (h : NW U) : va_Nw (.fieldLinkNest RX4 44 "TermsDesk$Parts" "licence" "[I" "TermsDesk") U := h.1 (RX4, 44, "TermsDesk$Parts", "licence", "[I", "TermsDesk") (List.mem_of_getElem? (i := 31) rfl)
theorem nf_RX4_53 {U : State} (h : NW U) : va_Nw (.fieldLinkNest RX4 53 "TermsDesk$Joins" "there" "J" "TermsDesk") U := h.1 (RX4, 53, "TermsDesk$Joins", "there", "J", "TermsDesk") (List.mem_of_getElem? (i := 32) rfl)
theorem nf_RX4_63 {U : State} (h : NW U) : va_Nw (.fieldLinkNest RX4 63 "TermsDesk$Changes" "what" "[I" "TermsDesk") U := h.1 (RX4, 63, "TermsDesk$Changes", "what", "[I", "TermsDesk") (List.mem_of_getElem? (i := 33) rfl)
theorem nf_RX4_66 {U : State} (h : NW U) : va_Nw (.fieldLinkNest RX4 66 "TermsDesk$Changes" "which" "[I" "TermsDesk") U := h.1 (RX4, 66, "TermsDesk$Changes", "which", "[I", "TermsDesk") (List.mem_of_getElem? (i := 34) rfl)
theorem nf_RX4_69 {U : State} (h : NW U) : va_Nw (.fieldLinkNest RX4 69 "TermsDesk$Changes" "licence" "[I" "TermsDesk") U := h.1 (RX4, 69, "TermsDesk$Changes", "licence", "[I", "TermsDesk") (List.mem_of_getElem? (i := 35) rfl)
theorem nf_RX7_104 {U : State} (h : NW U) : va_Nw (.fieldLinkNest RX7 104 "TermsDesk$Joins" "told" "I" "TermsDesk") U := h.1 (RX7, 104, "TermsDesk$Joins", "told", "I", "TermsDesk") (List.mem_of_getElem? (i := 36) rfl)
theorem nf_RX7_105 {U : State} (h : NW U) : va_Nw (.fieldLinkNest RX7 105 "TermsDesk$Joins" "to" "[I" "TermsDesk") U := h.1 (RX7, 105, "TermsDesk$Joins", "to", "[I", "TermsDesk") (List.mem_of_getElem? (i := 37) rfl)
theorem nf_RX7_45 {U : State} (h : NW U) : va_Nw (.fieldLinkNest RX7 45 "TermsDesk$Parts" "top" "I" "TermsDesk") U := h.1 (RX7, 45, "TermsDesk$Parts", "top", "I", "TermsDesk") (List.mem_of_getElem? (i := 38) rfl)
theorem nf_RX7_51 {U : State} (h : NW U) : va_Nw (.fieldLinkNest RX7 51 "TermsDesk$Parts" "told" "I" "TermsDesk") U := h.1 (RX7, 51, "TermsDesk$Parts", "told", "I", "TermsDesk") (List.mem_of_getElem? (i := 39) rfl)
theorem nf_RX7_58 {U : State} (h : NW U) : va_Nw (.fieldLinkNest RX7 58 "TermsDesk$Parts" "licence" "[I" "TermsDesk") U := h.1 (RX7, 58, "TermsDesk$Parts", "licence", "[I", "TermsDesk") (List.mem_of_getElem? (i := 40) rfl)
theorem nf_RX7_71 {U : State} (h : NW U) : va_Nw (.fieldLinkNest RX7 71 "TermsDesk$Terms" "along" "[J" "TermsDesk") U := h.1 (RX7, 71, "TermsDesk$Terms", "along", "[J", "TermsDesk") (List.mem_of_getElem? (i := 41) rfl)
theorem nf_RX7_77 {U : State} (h : NW U) : va_Nw (.fieldLinkNest RX7 77 "TermsDesk$Joins" "kind" "[I" "TermsDesk") U := h.1 (RX7, 77, "TermsDesk$Joins", "kind", "[I", "TermsDesk") (List.mem_of_getElem? (i := 42) rfl)
theorem nf_RX7_82 {U : State} (h : NW U) : va_Nw (.fieldLinkNest RX7 82 "TermsDesk$Joins" "order" "[I" "TermsDesk") U := h.1 (RX7, 82, "TermsDesk$Joins", "order", "[I", "TermsDesk") (List.mem_of_getElem? (i := 43) rfl)
theorem nf_RX7_88 {U : State} (h : NW U) : va_Nw (.fieldLinkNest RX7 88 "TermsDesk$Joins" "begin" "[I" "TermsDesk") U := h.1 (RX7, 88, "TermsDesk$Joins", "begin", "[I", "TermsDesk") (List.mem_of_getElem? (i := 44) rfl)
theorem nf_RX7_91 {U : State} (h : NW U) : va_Nw (.fieldLinkNest RX7 91 "TermsDesk$Joins" "end" "[I" "TermsDesk") U := h.1 (RX7, 91, "TermsDesk$Joins", "end", "[I", "TermsDesk") (List.mem_of_getElem? (i := 45) rfl)
theorem nf_RX7_94 {U : State} (h : NW U) : va_Nw (.fieldLinkNest RX7 94 "TermsDesk$Joins" "sorted" "[I" "TermsDesk") U := h.1 (RX7, 94, "TermsDesk$Joins", "sorted", "[I", "TermsDesk") (List.mem_of_getElem? (i := 46) rfl)
theorem nf_RX7_97 {U : State} (h : NW U) : va_Nw (.fieldLinkNest RX7 97 "TermsDesk$Joins" "from" "[I" "TermsDesk") U := h.1 (RX7, 97, "TermsDesk$Joins", "from", "[I", "TermsDesk") (List.mem_of_getElem? (i := 47) rfl)
theorem nm_RX8_11 {U : State} (h : NW U) : va_Nw (.methodLinkNest RX8 11 yX6_init "TermsDesk") U := h.2 (RX8, 11, yX6_init, "TermsDesk") (List.mem_of_getElem? (i := 0) rfl)
theorem nm_RX8_18 {U : State} (h : NW U) : va_Nw (.methodLinkNest RX8 18 yX5_init "TermsDesk") U := h.2 (RX8, 18, yX5_init, "TermsDesk") (List.mem_of_getElem? (i := 1) rfl)
theorem nm_RX8_32 {U : State} (h : NW U) : va_Nw (.methodLinkNest RX8 32 yX0_init "TermsDesk") U := h.2 (RX8, 32, yX0_init, "TermsDesk") (List.mem_of_getElem? (i := 2) rfl)
theorem nm_RX0_28 {U : State} (h : NW U) : va_Nw (.methodLinkNest RX0 28 yX8_holds "TermsDesk") U := h.2 (RX0, 28, yX8_holds, "TermsDesk") (List.mem_of_getElem? (i := 3) rfl)
theorem nm_RX1_84 {U : State} (h : NW U) : va_Nw (.methodLinkNest RX1 84 yX8_holds "TermsDesk") U := h.2 (RX1, 84, yX8_holds, "TermsDesk") (List.mem_of_getElem? (i := 4) rfl)
theorem nm_RX2_35 {U : State} (h : NW U) : va_Nw (.methodLinkNest RX2 35 yX8_pairsOf "TermsDesk") U := h.2 (RX2, 35, yX8_pairsOf, "TermsDesk") (List.mem_of_getElem? (i := 5) rfl)
theorem nm_RX2_69 {U : State} (h : NW U) : va_Nw (.methodLinkNest RX2 69 yX8_holds "TermsDesk") U := h.2 (RX2, 69, yX8_holds, "TermsDesk") (List.mem_of_getElem? (i := 6) rfl)
theorem nm_RX3_37 {U : State} (h : NW U) : va_Nw (.methodLinkNest RX3 37 yX8_within "TermsDesk") U := h.2 (RX3, 37, yX8_within, "TermsDesk") (List.mem_of_getElem? (i := 7) rfl)
theorem nm_RX3_45 {U : State} (h : NW U) : va_Nw (.methodLinkNest RX3 45 yX8_holds "TermsDesk") U := h.2 (RX3, 45, yX8_holds, "TermsDesk") (List.mem_of_getElem? (i := 8) rfl)
theorem nm_RX4_59 {U : State} (h : NW U) : va_Nw (.methodLinkNest RX4 59 yX8_holds "TermsDesk") U := h.2 (RX4, 59, yX8_holds, "TermsDesk") (List.mem_of_getElem? (i := 9) rfl)
theorem nm_RX5_29 {U : State} (h : NW U) : va_Nw (.methodLinkNest RX5 29 yX8_within "TermsDesk") U := h.2 (RX5, 29, yX8_within, "TermsDesk") (List.mem_of_getElem? (i := 10) rfl)
theorem nm_RX6_27 {U : State} (h : NW U) : va_Nw (.methodLinkNest RX6 27 yX8_holds "TermsDesk") U := h.2 (RX6, 27, yX8_holds, "TermsDesk") (List.mem_of_getElem? (i := 11) rfl)
theorem nm_RX6_31 {U : State} (h : NW U) : va_Nw (.methodLinkNest RX6 31 yX8_pairOf "TermsDesk") U := h.2 (RX6, 31, yX8_pairOf, "TermsDesk") (List.mem_of_getElem? (i := 12) rfl)
theorem nm_RX7_42 {U : State} (h : NW U) : va_Nw (.methodLinkNest RX7 42 yX8_pairOf "TermsDesk") U := h.2 (RX7, 42, yX8_pairOf, "TermsDesk") (List.mem_of_getElem? (i := 13) rfl)
theorem nm_RX7_67 {U : State} (h : NW U) : va_Nw (.methodLinkNest RX7 67 yX8_holds "TermsDesk") U := h.2 (RX7, 67, yX8_holds, "TermsDesk") (List.mem_of_getElem? (i := 14) rfl)
/-- components: X6.asked J0, X6.along J1, X6.fought J2, X5.choices I0, X5.choiceCount I1, X5.licence I2, X5.lifted J3, X3.from I3, X3.to I4, X3.kind I5, X3.order I6, X3.sorted I7, X3.begin I8, X3.end I9, X0.what I10, X0.which I11, X0.licence I12, X0.cost I13, X2.arrived J4, X2.earlier J5, X1.line I14, X1.place I15, X1.bestPlace I16, X1.quarrelsBefore I17, X4.licence I18, X7.steps I19, X5.told I20, X5.top I21, X3.told I22, X3.there J6, X0.told I23, X1.length I24, X1.bestQuarrels I25, X1.bestPairs I26 -/
def wX (q : Nat → Nat) (cI cJ cZ : ClassId) (u : WU) : va_W := [(q 0, .inr (8, [.ref (q 1), .ref (q 2), .ref (q 3), .ref (q 4), .ref (q 5), .ref (q 6), .ref (q 7), .ref (q 8)])),
  (q 1, .inr (6, [.ref (q 9), .ref (q 10), .ref (q 11)])),
  (q 2, .inr (5, [.ref (q 12), .ref (q 13), .ref (q 14), .ref (q 15), .int (u.1 20 0), .int (u.1 21 0)])),
  (q 3, .inr (3, [.ref (q 16), .ref (q 17), .ref (q 18), .int (u.1 22 0), .long (u.2 6 0), .ref (q 19), .ref (q 20), .ref (q 21), .ref (q 22)])),
  (q 4, .inr (0, [.ref (q 23), .ref (q 24), .ref (q 25), .ref (q 26), .int (u.1 23 0)])),
  (q 5, .inr (2, [.ref (q 1), .ref (q 2), .ref (q 3), .ref (q 27), .ref (q 28)])),
  (q 6, .inr (1, [.ref (q 2), .ref (q 3), .ref (q 5), .ref (q 29), .int (u.1 24 0), .ref (q 30), .ref (q 31), .ref (q 32), .int (u.1 25 0), .int (u.1 26 0)])),
  (q 7, .inr (4, [.ref (q 2), .ref (q 3), .ref (q 4), .ref (q 5), .ref (q 33)])),
  (q 8, .inr (7, [.ref (q 1), .ref (q 2), .ref (q 3), .ref (q 5), .ref (q 34)])),
  (q 9, .inl (cJ, 4, .inr (.inl (u.2 0)))),
  (q 10, .inl (cJ, 4, .inr (.inl (u.2 1)))),
  (q 11, .inl (cJ, 8, .inr (.inl (u.2 2)))),
  (q 12, .inl (cI, 72, .inl (u.1 0))),
  (q 13, .inl (cI, 24, .inl (u.1 1))),
  (q 14, .inl (cI, 24, .inl (u.1 2))),
  (q 15, .inl (cJ, 24, .inr (.inl (u.2 3)))),
  (q 16, .inl (cI, 40, .inl (u.1 3))),
  (q 17, .inl (cI, 40, .inl (u.1 4))),
  (q 18, .inl (cI, 40, .inl (u.1 5))),
  (q 19, .inl (cI, 24, .inl (u.1 6))),
  (q 20, .inl (cI, 40, .inl (u.1 7))),
  (q 21, .inl (cI, 24, .inl (u.1 8))),
  (q 22, .inl (cI, 24, .inl (u.1 9))),
  (q 23, .inl (cI, 10, .inl (u.1 10))),
  (q 24, .inl (cI, 10, .inl (u.1 11))),
  (q 25, .inl (cI, 10, .inl (u.1 12))),
  (q 26, .inl (cI, 10, .inl (u.1 13))),
  (q 27, .inl (cJ, 24, .inr (.inl (u.2 4)))),
  (q 28, .inl (cJ, 24, .inr (.inl (u.2 5)))),
  (q 29, .inl (cI, 24, .inl (u.1 14))),
  (q 30, .inl (cI, 24, .inl (u.1 15))),
  (q 31, .inl (cI, 24, .inl (u.1 16))),
  (q 32, .inl (cI, 25, .inl (u.1 17))),
  (q 33, .inl (cI, 24, .inl (u.1 18))),
  (q 34, .inl (cI, 24, .inl (u.1 19)))]
theorem sh_wX (q : Nat → Nat) (cI cJ cZ : ClassId) : ShW (wX q cI cJ cZ) := fun _ _ => rfl
theorem wXa_9 (q : Nat → Nat) (cI cJ cZ : ClassId) (u : WU) (f : Nat → Int64) : (wX q cI cJ cZ u).set 9 (q 9, .inl (cJ, 4, .inr (.inl f))) = wX q cI cJ cZ (uJ u 0 f) := rfl
theorem wXa_10 (q : Nat → Nat) (cI cJ cZ : ClassId) (u : WU) (f : Nat → Int64) : (wX q cI cJ cZ u).set 10 (q 10, .inl (cJ, 4, .inr (.inl f))) = wX q cI cJ cZ (uJ u 1 f) := rfl
theorem wXa_11 (q : Nat → Nat) (cI cJ cZ : ClassId) (u : WU) (f : Nat → Int64) : (wX q cI cJ cZ u).set 11 (q 11, .inl (cJ, 8, .inr (.inl f))) = wX q cI cJ cZ (uJ u 2 f) := rfl
theorem wXa_12 (q : Nat → Nat) (cI cJ cZ : ClassId) (u : WU) (f : Nat → Int32) : (wX q cI cJ cZ u).set 12 (q 12, .inl (cI, 72, .inl f)) = wX q cI cJ cZ (uI u 0 f) := rfl
theorem wXa_13 (q : Nat → Nat) (cI cJ cZ : ClassId) (u : WU) (f : Nat → Int32) : (wX q cI cJ cZ u).set 13 (q 13, .inl (cI, 24, .inl f)) = wX q cI cJ cZ (uI u 1 f) := rfl
theorem wXa_14 (q : Nat → Nat) (cI cJ cZ : ClassId) (u : WU) (f : Nat → Int32) : (wX q cI cJ cZ u).set 14 (q 14, .inl (cI, 24, .inl f)) = wX q cI cJ cZ (uI u 2 f) := rfl
theorem wXa_15 (q : Nat → Nat) (cI cJ cZ : ClassId) (u : WU) (f : Nat → Int64) : (wX q cI cJ cZ u).set 15 (q 15, .inl (cJ, 24, .inr (.inl f))) = wX q cI cJ cZ (uJ u 3 f) := rfl
theorem wXa_16 (q : Nat → Nat) (cI cJ cZ : ClassId) (u : WU) (f : Nat → Int32) : (wX q cI cJ cZ u).set 16 (q 16, .inl (cI, 40, .inl f)) = wX q cI cJ cZ (uI u 3 f) := rfl
theorem wXa_17 (q : Nat → Nat) (cI cJ cZ : ClassId) (u : WU) (f : Nat → Int32) : (wX q cI cJ cZ u).set 17 (q 17, .inl (cI, 40, .inl f)) = wX q cI cJ cZ (uI u 4 f) := rfl
theorem wXa_18 (q : Nat → Nat) (cI cJ cZ : ClassId) (u : WU) (f : Nat → Int32) : (wX q cI cJ cZ u).set 18 (q 18, .inl (cI, 40, .inl f)) = wX q cI cJ cZ (uI u 5 f) := rfl
theorem wXa_19 (q : Nat → Nat) (cI cJ cZ : ClassId) (u : WU) (f : Nat → Int32) : (wX q cI cJ cZ u).set 19 (q 19, .inl (cI, 24, .inl f)) = wX q cI cJ cZ (uI u 6 f) := rfl
theorem wXa_20 (q : Nat → Nat) (cI cJ cZ : ClassId) (u : WU) (f : Nat → Int32) : (wX q cI cJ cZ u).set 20 (q 20, .inl (cI, 40, .inl f)) = wX q cI cJ cZ (uI u 7 f) := rfl
theorem wXa_21 (q : Nat → Nat) (cI cJ cZ : ClassId) (u : WU) (f : Nat → Int32) : (wX q cI cJ cZ u).set 21 (q 21, .inl (cI, 24, .inl f)) = wX q cI cJ cZ (uI u 8 f) := rfl
theorem wXa_22 (q : Nat → Nat) (cI cJ cZ : ClassId) (u : WU) (f : Nat → Int32) : (wX q cI cJ cZ u).set 22 (q 22, .inl (cI, 24, .inl f)) = wX q cI cJ cZ (uI u 9 f) := rfl
theorem wXa_23 (q : Nat → Nat) (cI cJ cZ : ClassId) (u : WU) (f : Nat → Int32) : (wX q cI cJ cZ u).set 23 (q 23, .inl (cI, 10, .inl f)) = wX q cI cJ cZ (uI u 10 f) := rfl
theorem wXa_24 (q : Nat → Nat) (cI cJ cZ : ClassId) (u : WU) (f : Nat → Int32) : (wX q cI cJ cZ u).set 24 (q 24, .inl (cI, 10, .inl f)) = wX q cI cJ cZ (uI u 11 f) := rfl
theorem wXa_25 (q : Nat → Nat) (cI cJ cZ : ClassId) (u : WU) (f : Nat → Int32) : (wX q cI cJ cZ u).set 25 (q 25, .inl (cI, 10, .inl f)) = wX q cI cJ cZ (uI u 12 f) := rfl
theorem wXa_26 (q : Nat → Nat) (cI cJ cZ : ClassId) (u : WU) (f : Nat → Int32) : (wX q cI cJ cZ u).set 26 (q 26, .inl (cI, 10, .inl f)) = wX q cI cJ cZ (uI u 13 f) := rfl
theorem wXa_27 (q : Nat → Nat) (cI cJ cZ : ClassId) (u : WU) (f : Nat → Int64) : (wX q cI cJ cZ u).set 27 (q 27, .inl (cJ, 24, .inr (.inl f))) = wX q cI cJ cZ (uJ u 4 f) := rfl
theorem wXa_28 (q : Nat → Nat) (cI cJ cZ : ClassId) (u : WU) (f : Nat → Int64) : (wX q cI cJ cZ u).set 28 (q 28, .inl (cJ, 24, .inr (.inl f))) = wX q cI cJ cZ (uJ u 5 f) := rfl
theorem wXa_29 (q : Nat → Nat) (cI cJ cZ : ClassId) (u : WU) (f : Nat → Int32) : (wX q cI cJ cZ u).set 29 (q 29, .inl (cI, 24, .inl f)) = wX q cI cJ cZ (uI u 14 f) := rfl
theorem wXa_30 (q : Nat → Nat) (cI cJ cZ : ClassId) (u : WU) (f : Nat → Int32) : (wX q cI cJ cZ u).set 30 (q 30, .inl (cI, 24, .inl f)) = wX q cI cJ cZ (uI u 15 f) := rfl
theorem wXa_31 (q : Nat → Nat) (cI cJ cZ : ClassId) (u : WU) (f : Nat → Int32) : (wX q cI cJ cZ u).set 31 (q 31, .inl (cI, 24, .inl f)) = wX q cI cJ cZ (uI u 16 f) := rfl
theorem wXa_32 (q : Nat → Nat) (cI cJ cZ : ClassId) (u : WU) (f : Nat → Int32) : (wX q cI cJ cZ u).set 32 (q 32, .inl (cI, 25, .inl f)) = wX q cI cJ cZ (uI u 17 f) := rfl
theorem wXa_33 (q : Nat → Nat) (cI cJ cZ : ClassId) (u : WU) (f : Nat → Int32) : (wX q cI cJ cZ u).set 33 (q 33, .inl (cI, 24, .inl f)) = wX q cI cJ cZ (uI u 18 f) := rfl
theorem wXa_34 (q : Nat → Nat) (cI cJ cZ : ClassId) (u : WU) (f : Nat → Int32) : (wX q cI cJ cZ u).set 34 (q 34, .inl (cI, 24, .inl f)) = wX q cI cJ cZ (uI u 19 f) := rfl
theorem wXs_X5_4 (q : Nat → Nat) (cI cJ cZ : ClassId) (u : WU) (x : Int32) : (wX q cI cJ cZ u).set 2 (q 2, .inr (5, ([.ref (q 12), .ref (q 13), .ref (q 14), .ref (q 15), .int (u.1 20 0), .int (u.1 21 0)] : List Value).set 4 (.int x))) = wX q cI cJ cZ (uI u 20 (fun _ => x)) := rfl
theorem wXs_X5_5 (q : Nat → Nat) (cI cJ cZ : ClassId) (u : WU) (x : Int32) : (wX q cI cJ cZ u).set 2 (q 2, .inr (5, ([.ref (q 12), .ref (q 13), .ref (q 14), .ref (q 15), .int (u.1 20 0), .int (u.1 21 0)] : List Value).set 5 (.int x))) = wX q cI cJ cZ (uI u 21 (fun _ => x)) := rfl
theorem wXs_X3_3 (q : Nat → Nat) (cI cJ cZ : ClassId) (u : WU) (x : Int32) : (wX q cI cJ cZ u).set 3 (q 3, .inr (3, ([.ref (q 16), .ref (q 17), .ref (q 18), .int (u.1 22 0), .long (u.2 6 0), .ref (q 19), .ref (q 20), .ref (q 21), .ref (q 22)] : List Value).set 3 (.int x))) = wX q cI cJ cZ (uI u 22 (fun _ => x)) := rfl
theorem wXs_X3_4 (q : Nat → Nat) (cI cJ cZ : ClassId) (u : WU) (x : Int64) : (wX q cI cJ cZ u).set 3 (q 3, .inr (3, ([.ref (q 16), .ref (q 17), .ref (q 18), .int (u.1 22 0), .long (u.2 6 0), .ref (q 19), .ref (q 20), .ref (q 21), .ref (q 22)] : List Value).set 4 (.long x))) = wX q cI cJ cZ (uJ u 6 (fun _ => x)) := rfl
theorem wXs_X0_4 (q : Nat → Nat) (cI cJ cZ : ClassId) (u : WU) (x : Int32) : (wX q cI cJ cZ u).set 4 (q 4, .inr (0, ([.ref (q 23), .ref (q 24), .ref (q 25), .ref (q 26), .int (u.1 23 0)] : List Value).set 4 (.int x))) = wX q cI cJ cZ (uI u 23 (fun _ => x)) := rfl
theorem wXs_X1_4 (q : Nat → Nat) (cI cJ cZ : ClassId) (u : WU) (x : Int32) : (wX q cI cJ cZ u).set 6 (q 6, .inr (1, ([.ref (q 2), .ref (q 3), .ref (q 5), .ref (q 29), .int (u.1 24 0), .ref (q 30), .ref (q 31), .ref (q 32), .int (u.1 25 0), .int (u.1 26 0)] : List Value).set 4 (.int x))) = wX q cI cJ cZ (uI u 24 (fun _ => x)) := rfl
theorem wXs_X1_8 (q : Nat → Nat) (cI cJ cZ : ClassId) (u : WU) (x : Int32) : (wX q cI cJ cZ u).set 6 (q 6, .inr (1, ([.ref (q 2), .ref (q 3), .ref (q 5), .ref (q 29), .int (u.1 24 0), .ref (q 30), .ref (q 31), .ref (q 32), .int (u.1 25 0), .int (u.1 26 0)] : List Value).set 8 (.int x))) = wX q cI cJ cZ (uI u 25 (fun _ => x)) := rfl
theorem wXs_X1_9 (q : Nat → Nat) (cI cJ cZ : ClassId) (u : WU) (x : Int32) : (wX q cI cJ cZ u).set 6 (q 6, .inr (1, ([.ref (q 2), .ref (q 3), .ref (q 5), .ref (q 29), .int (u.1 24 0), .ref (q 30), .ref (q 31), .ref (q 32), .int (u.1 25 0), .int (u.1 26 0)] : List Value).set 9 (.int x))) = wX q cI cJ cZ (uI u 26 (fun _ => x)) := rfl
/-- components: X9.asked I0, X9.along J0, X9.barred I1, X9.choice I2, X9.many I3, X9.taken I4, X9.lifted J1, X9.from I5, X9.to I6, X9.kind I7, X9.isCut I8, X9.sort I9, X9.which I10, X9.gets I11, X9.cost I12, X9.isReached I13, X9.isGone I14, X9.has I15, X9.come J2, X9.order I16, X9.level I17, X9.place I18, X9.best I19, X9.far I20, X9.other J3, X9.parts I21, X9.product I22, X9.joins I23, X9.changes I24, X9.orderMany I25 -/
def wM (q : Nat → Nat) (cI cJ cZ : ClassId) (u : WU) : va_W := [(q 0, .inr (9, [.ref (q 1), .ref (q 2), .ref (q 3), .int (u.1 21 0), .int (u.1 22 0), .ref (q 4), .ref (q 5), .ref (q 6), .ref (q 7), .int (u.1 23 0), .ref (q 8), .ref (q 9), .ref (q 10), .ref (q 11), .int (u.1 24 0), .ref (q 12), .ref (q 13), .ref (q 14), .ref (q 15), .ref (q 16), .ref (q 17), .ref (q 18), .ref (q 19), .int (u.1 25 0), .ref (q 20), .ref (q 21), .ref (q 22), .ref (q 23), .ref (q 24), .ref (q 25)])),
  (q 1, .inl (cI, 32, .inl (u.1 0))),
  (q 2, .inl (cJ, 4, .inr (.inl (u.2 0)))),
  (q 3, .inl (cI, 8, .inl (u.1 1))),
  (q 4, .inl (cI, 72, .inl (u.1 2))),
  (q 5, .inl (cI, 24, .inl (u.1 3))),
  (q 6, .inl (cI, 24, .inl (u.1 4))),
  (q 7, .inl (cJ, 24, .inr (.inl (u.2 1)))),
  (q 8, .inl (cI, 40, .inl (u.1 5))),
  (q 9, .inl (cI, 40, .inl (u.1 6))),
  (q 10, .inl (cI, 40, .inl (u.1 7))),
  (q 11, .inl (cZ, 40, .inl (u.1 8))),
  (q 12, .inl (cI, 10, .inl (u.1 9))),
  (q 13, .inl (cI, 10, .inl (u.1 10))),
  (q 14, .inl (cI, 10, .inl (u.1 11))),
  (q 15, .inl (cI, 10, .inl (u.1 12))),
  (q 16, .inl (cZ, 24, .inl (u.1 13))),
  (q 17, .inl (cZ, 40, .inl (u.1 14))),
  (q 18, .inl (cI, 24, .inl (u.1 15))),
  (q 19, .inl (cJ, 24, .inr (.inl (u.2 2)))),
  (q 20, .inl (cI, 40, .inl (u.1 16))),
  (q 21, .inl (cI, 24, .inl (u.1 17))),
  (q 22, .inl (cI, 24, .inl (u.1 18))),
  (q 23, .inl (cI, 24, .inl (u.1 19))),
  (q 24, .inl (cI, 24, .inl (u.1 20))),
  (q 25, .inl (cJ, 24, .inr (.inl (u.2 3))))]
theorem sh_wM (q : Nat → Nat) (cI cJ cZ : ClassId) : ShW (wM q cI cJ cZ) := fun _ _ => rfl
theorem wMa_1 (q : Nat → Nat) (cI cJ cZ : ClassId) (u : WU) (f : Nat → Int32) : (wM q cI cJ cZ u).set 1 (q 1, .inl (cI, 32, .inl f)) = wM q cI cJ cZ (uI u 0 f) := rfl
theorem wMa_2 (q : Nat → Nat) (cI cJ cZ : ClassId) (u : WU) (f : Nat → Int64) : (wM q cI cJ cZ u).set 2 (q 2, .inl (cJ, 4, .inr (.inl f))) = wM q cI cJ cZ (uJ u 0 f) := rfl
theorem wMa_3 (q : Nat → Nat) (cI cJ cZ : ClassId) (u : WU) (f : Nat → Int32) : (wM q cI cJ cZ u).set 3 (q 3, .inl (cI, 8, .inl f)) = wM q cI cJ cZ (uI u 1 f) := rfl
theorem wMa_4 (q : Nat → Nat) (cI cJ cZ : ClassId) (u : WU) (f : Nat → Int32) : (wM q cI cJ cZ u).set 4 (q 4, .inl (cI, 72, .inl f)) = wM q cI cJ cZ (uI u 2 f) := rfl
theorem wMa_5 (q : Nat → Nat) (cI cJ cZ : ClassId) (u : WU) (f : Nat → Int32) : (wM q cI cJ cZ u).set 5 (q 5, .inl (cI, 24, .inl f)) = wM q cI cJ cZ (uI u 3 f) := rfl
theorem wMa_6 (q : Nat → Nat) (cI cJ cZ : ClassId) (u : WU) (f : Nat → Int32) : (wM q cI cJ cZ u).set 6 (q 6, .inl (cI, 24, .inl f)) = wM q cI cJ cZ (uI u 4 f) := rfl
theorem wMa_7 (q : Nat → Nat) (cI cJ cZ : ClassId) (u : WU) (f : Nat → Int64) : (wM q cI cJ cZ u).set 7 (q 7, .inl (cJ, 24, .inr (.inl f))) = wM q cI cJ cZ (uJ u 1 f) := rfl
theorem wMa_8 (q : Nat → Nat) (cI cJ cZ : ClassId) (u : WU) (f : Nat → Int32) : (wM q cI cJ cZ u).set 8 (q 8, .inl (cI, 40, .inl f)) = wM q cI cJ cZ (uI u 5 f) := rfl
theorem wMa_9 (q : Nat → Nat) (cI cJ cZ : ClassId) (u : WU) (f : Nat → Int32) : (wM q cI cJ cZ u).set 9 (q 9, .inl (cI, 40, .inl f)) = wM q cI cJ cZ (uI u 6 f) := rfl
theorem wMa_10 (q : Nat → Nat) (cI cJ cZ : ClassId) (u : WU) (f : Nat → Int32) : (wM q cI cJ cZ u).set 10 (q 10, .inl (cI, 40, .inl f)) = wM q cI cJ cZ (uI u 7 f) := rfl
theorem wMa_11 (q : Nat → Nat) (cI cJ cZ : ClassId) (u : WU) (f : Nat → Int32) : (wM q cI cJ cZ u).set 11 (q 11, .inl (cZ, 40, .inl f)) = wM q cI cJ cZ (uI u 8 f) := rfl
theorem wMa_12 (q : Nat → Nat) (cI cJ cZ : ClassId) (u : WU) (f : Nat → Int32) : (wM q cI cJ cZ u).set 12 (q 12, .inl (cI, 10, .inl f)) = wM q cI cJ cZ (uI u 9 f) := rfl
theorem wMa_13 (q : Nat → Nat) (cI cJ cZ : ClassId) (u : WU) (f : Nat → Int32) : (wM q cI cJ cZ u).set 13 (q 13, .inl (cI, 10, .inl f)) = wM q cI cJ cZ (uI u 10 f) := rfl
theorem wMa_14 (q : Nat → Nat) (cI cJ cZ : ClassId) (u : WU) (f : Nat → Int32) : (wM q cI cJ cZ u).set 14 (q 14, .inl (cI, 10, .inl f)) = wM q cI cJ cZ (uI u 11 f) := rfl
theorem wMa_15 (q : Nat → Nat) (cI cJ cZ : ClassId) (u : WU) (f : Nat → Int32) : (wM q cI cJ cZ u).set 15 (q 15, .inl (cI, 10, .inl f)) = wM q cI cJ cZ (uI u 12 f) := rfl
theorem wMa_16 (q : Nat → Nat) (cI cJ cZ : ClassId) (u : WU) (f : Nat → Int32) : (wM q cI cJ cZ u).set 16 (q 16, .inl (cZ, 24, .inl f)) = wM q cI cJ cZ (uI u 13 f) := rfl
theorem wMa_17 (q : Nat → Nat) (cI cJ cZ : ClassId) (u : WU) (f : Nat → Int32) : (wM q cI cJ cZ u).set 17 (q 17, .inl (cZ, 40, .inl f)) = wM q cI cJ cZ (uI u 14 f) := rfl
theorem wMa_18 (q : Nat → Nat) (cI cJ cZ : ClassId) (u : WU) (f : Nat → Int32) : (wM q cI cJ cZ u).set 18 (q 18, .inl (cI, 24, .inl f)) = wM q cI cJ cZ (uI u 15 f) := rfl
theorem wMa_19 (q : Nat → Nat) (cI cJ cZ : ClassId) (u : WU) (f : Nat → Int64) : (wM q cI cJ cZ u).set 19 (q 19, .inl (cJ, 24, .inr (.inl f))) = wM q cI cJ cZ (uJ u 2 f) := rfl
theorem wMa_20 (q : Nat → Nat) (cI cJ cZ : ClassId) (u : WU) (f : Nat → Int32) : (wM q cI cJ cZ u).set 20 (q 20, .inl (cI, 40, .inl f)) = wM q cI cJ cZ (uI u 16 f) := rfl
theorem wMa_21 (q : Nat → Nat) (cI cJ cZ : ClassId) (u : WU) (f : Nat → Int32) : (wM q cI cJ cZ u).set 21 (q 21, .inl (cI, 24, .inl f)) = wM q cI cJ cZ (uI u 17 f) := rfl
theorem wMa_22 (q : Nat → Nat) (cI cJ cZ : ClassId) (u : WU) (f : Nat → Int32) : (wM q cI cJ cZ u).set 22 (q 22, .inl (cI, 24, .inl f)) = wM q cI cJ cZ (uI u 18 f) := rfl
theorem wMa_23 (q : Nat → Nat) (cI cJ cZ : ClassId) (u : WU) (f : Nat → Int32) : (wM q cI cJ cZ u).set 23 (q 23, .inl (cI, 24, .inl f)) = wM q cI cJ cZ (uI u 19 f) := rfl
theorem wMa_24 (q : Nat → Nat) (cI cJ cZ : ClassId) (u : WU) (f : Nat → Int32) : (wM q cI cJ cZ u).set 24 (q 24, .inl (cI, 24, .inl f)) = wM q cI cJ cZ (uI u 20 f) := rfl
theorem wMa_25 (q : Nat → Nat) (cI cJ cZ : ClassId) (u : WU) (f : Nat → Int64) : (wM q cI cJ cZ u).set 25 (q 25, .inl (cJ, 24, .inr (.inl f))) = wM q cI cJ cZ (uJ u 3 f) := rfl
theorem wMs_X9_3 (q : Nat → Nat) (cI cJ cZ : ClassId) (u : WU) (x : Int32) : (wM q cI cJ cZ u).set 0 (q 0, .inr (9, ([.ref (q 1), .ref (q 2), .ref (q 3), .int (u.1 21 0), .int (u.1 22 0), .ref (q 4), .ref (q 5), .ref (q 6), .ref (q 7), .int (u.1 23 0), .ref (q 8), .ref (q 9), .ref (q 10), .ref (q 11), .int (u.1 24 0), .ref (q 12), .ref (q 13), .ref (q 14), .ref (q 15), .ref (q 16), .ref (q 17), .ref (q 18), .ref (q 19), .int (u.1 25 0), .ref (q 20), .ref (q 21), .ref (q 22), .ref (q 23), .ref (q 24), .ref (q 25)] : List Value).set 3 (.int x))) = wM q cI cJ cZ (uI u 21 (fun _ => x)) := rfl
theorem wMs_X9_4 (q : Nat → Nat) (cI cJ cZ : ClassId) (u : WU) (x : Int32) : (wM q cI cJ cZ u).set 0 (q 0, .inr (9, ([.ref (q 1), .ref (q 2), .ref (q 3), .int (u.1 21 0), .int (u.1 22 0), .ref (q 4), .ref (q 5), .ref (q 6), .ref (q 7), .int (u.1 23 0), .ref (q 8), .ref (q 9), .ref (q 10), .ref (q 11), .int (u.1 24 0), .ref (q 12), .ref (q 13), .ref (q 14), .ref (q 15), .ref (q 16), .ref (q 17), .ref (q 18), .ref (q 19), .int (u.1 25 0), .ref (q 20), .ref (q 21), .ref (q 22), .ref (q 23), .ref (q 24), .ref (q 25)] : List Value).set 4 (.int x))) = wM q cI cJ cZ (uI u 22 (fun _ => x)) := rfl
theorem wMs_X9_9 (q : Nat → Nat) (cI cJ cZ : ClassId) (u : WU) (x : Int32) : (wM q cI cJ cZ u).set 0 (q 0, .inr (9, ([.ref (q 1), .ref (q 2), .ref (q 3), .int (u.1 21 0), .int (u.1 22 0), .ref (q 4), .ref (q 5), .ref (q 6), .ref (q 7), .int (u.1 23 0), .ref (q 8), .ref (q 9), .ref (q 10), .ref (q 11), .int (u.1 24 0), .ref (q 12), .ref (q 13), .ref (q 14), .ref (q 15), .ref (q 16), .ref (q 17), .ref (q 18), .ref (q 19), .int (u.1 25 0), .ref (q 20), .ref (q 21), .ref (q 22), .ref (q 23), .ref (q 24), .ref (q 25)] : List Value).set 9 (.int x))) = wM q cI cJ cZ (uI u 23 (fun _ => x)) := rfl
theorem wMs_X9_14 (q : Nat → Nat) (cI cJ cZ : ClassId) (u : WU) (x : Int32) : (wM q cI cJ cZ u).set 0 (q 0, .inr (9, ([.ref (q 1), .ref (q 2), .ref (q 3), .int (u.1 21 0), .int (u.1 22 0), .ref (q 4), .ref (q 5), .ref (q 6), .ref (q 7), .int (u.1 23 0), .ref (q 8), .ref (q 9), .ref (q 10), .ref (q 11), .int (u.1 24 0), .ref (q 12), .ref (q 13), .ref (q 14), .ref (q 15), .ref (q 16), .ref (q 17), .ref (q 18), .ref (q 19), .int (u.1 25 0), .ref (q 20), .ref (q 21), .ref (q 22), .ref (q 23), .ref (q 24), .ref (q 25)] : List Value).set 14 (.int x))) = wM q cI cJ cZ (uI u 24 (fun _ => x)) := rfl
theorem wMs_X9_23 (q : Nat → Nat) (cI cJ cZ : ClassId) (u : WU) (x : Int32) : (wM q cI cJ cZ u).set 0 (q 0, .inr (9, ([.ref (q 1), .ref (q 2), .ref (q 3), .int (u.1 21 0), .int (u.1 22 0), .ref (q 4), .ref (q 5), .ref (q 6), .ref (q 7), .int (u.1 23 0), .ref (q 8), .ref (q 9), .ref (q 10), .ref (q 11), .int (u.1 24 0), .ref (q 12), .ref (q 13), .ref (q 14), .ref (q 15), .ref (q 16), .ref (q 17), .ref (q 18), .ref (q 19), .int (u.1 25 0), .ref (q 20), .ref (q 21), .ref (q 22), .ref (q 23), .ref (q 24), .ref (q 25)] : List Value).set 23 (.int x))) = wM q cI cJ cZ (uI u 25 (fun _ => x)) := rfl
