set_option maxHeartbeats 8000000 in
set_option maxRecDepth 100000 in
theorem law_loop {p : Program} {l : Launch} {e : Env} {s : State} {m : MethodId} {below : List Frame} {meth : Method} {c : Code} {D : va_G} {cI cJ cZ : ClassId} {q q2 : Nat → Nat} {b L : Nat} {xs : Nat → Int32} (C0 : lw_At p s m meth c b L xs) (hN : NW s) (hK : va_K D vwCl (ty3 cI cJ cZ) s) (hdj : Dj (wX q cI cJ cZ) (wM q2 cI cJ cZ)) (hjd : Dj (wM q2 cI cJ cZ) (wX q cI cJ cZ)) :
    ∀ (n : Nat) (x3 : Int32) (u v : WU) (H : Heap) (locs : List Loc), wp_law_L18 L xs n x3 u v → va_P D vwCl (wX q cI cJ cZ u) H → va_P D vwCl (wM q2 cI cJ cZ v) H → va_D (fun q : Nat => s.heap.size ≤ q) (wX q cI cJ cZ u) → va_D (fun q : Nat => s.heap.size ≤ q) (wM q2 cI cJ cZ v) → va_S (fun q : Nat => s.heap.size ≤ q) s.heap H locs → ∀ ls : Array Slot, lv_has ls 4 [(0, .ref b), (1, .ref (q 0)), (2, .ref (q2 0)), (3, .int x3)] → W p l e room_1 s m #[Value.ref b] below meth c H locs 61 1371 (lw_Z below #[Value.ref b] s) (F0 m 18 ls []) := by
  obtain ⟨hx, hb, hr, hml, hown0, hts0, hX, hbl, hlocks, hgv⟩ := C0
  have hown : s.vm.findClass RL = some m.cls := hown0
  have hts : ∀ w ∈ wsL_law, w.before #[Value.ref b] s = true := fun w h => hts0 w (wsL_law_in w h)
  have hA : ∀ q : Nat, s.heap.size ≤ q → (fun q : Nat => s.heap.size ≤ q) q := fun _ h => h
  have hbA : ¬ (fun q : Nat => s.heap.size ≤ q) b := Nat.not_le.mpr hbl
  intro n
  induction n with
  | zero =>
    intro x3 u v H locs hw
    exact hw.elim
  | succ n ih =>
    intro x3 u v H locs hw hP1 hP2 hD1 hD2 hS ls hl
    unfold wp_law_L18 at hw
    refine lv_iload_n hx hb dL_law_18 rfl (lv_at hl 3 rfl) ?_
    refine lv_aload_n hx hb dL_law_19 rfl (lv_at hl 0 rfl) ?_
    refine va_slen hx hb hX hbl hbA hS dL_law_20 ?_
    refine lv_bipush (v := 6) hx hb dL_law_21 (by decide) ?_
    refine lv_isub hx hb dL_law_23 ?_
    refine lv_icmp_gt (tgt := 844) hx hb dL_law_24 (by decide) (fun hc => ?_) (fun hc => ?_)
    · have hw := hw.1 hc
      refine lv_iconst (v := 1) hx hb dL_law_844 (by decide) ?_
      refine va_forget (fun q hq => hS.2.2 q hq) ?_
      exact lw_ret hx hb hr hlocks dL_law_845
    · have hw := hw.2 hc
      refine lv_aload_n hx hb dL_law_27 rfl (lv_at hl 0 rfl) ?_
      refine lv_iload_n hx hb dL_law_28 rfl (lv_at hl 3 rfl) ?_
      obtain ⟨hin, hw⟩ := hw
      refine va_sld hx hb hX hbl hbA hS hin dL_law_29 ?_
      refine lv_bipush (v := 31) hx hb dL_law_30 (by decide) ?_
      refine lv_iand hx hb dL_law_32 ?_
      refine lv_topi (fun y1 ey1 => ?_)
      have hw := hw y1 ey1
      by_cases hc0 : y1 = 0
      · have hw := hw.1 hc0
        refine lv_tableIn (tgt := 128) hx hb dL_law_33 (by rw [hc0]; decide) (by rw [hc0]; decide) (by rw [hc0]; rfl) (by decide) ?_
        refine lv_aload_n hx hb dL_law_128 rfl (lv_at hl 1 rfl) ?_
        refine lv_aload_n hx hb dL_law_129 rfl (lv_at hl 0 rfl) ?_
        refine lv_iload_n hx hb dL_law_130 rfl (lv_at hl 3 rfl) ?_
        refine lv_iconst (v := 1) hx hb dL_law_131 (by decide) ?_
        refine lv_iadd hx hb dL_law_132 ?_
        obtain ⟨hin, hw⟩ := hw
        refine va_sld hx hb hX hbl hbA hS hin dL_law_133 ?_
        refine lv_aload_n hx hb dL_law_134 rfl (lv_at hl 0 rfl) ?_
        refine lv_iload_n hx hb dL_law_135 rfl (lv_at hl 3 rfl) ?_
        refine lv_iconst (v := 2) hx hb dL_law_136 (by decide) ?_
        refine lv_iadd hx hb dL_law_137 ?_
        obtain ⟨hin, hw⟩ := hw
        refine va_sld hx hb hX hbl hbA hS hin dL_law_138 ?_
        refine lv_aload_n hx hb dL_law_139 rfl (lv_at hl 0 rfl) ?_
        refine lv_iload_n hx hb dL_law_140 rfl (lv_at hl 3 rfl) ?_
        refine lv_iconst (v := 3) hx hb dL_law_141 (by decide) ?_
        refine lv_iadd hx hb dL_law_142 ?_
        obtain ⟨hin, hw⟩ := hw
        refine va_sld hx hb hX hbl hbA hS hin dL_law_143 ?_
        refine lv_aload_n hx hb dL_law_144 rfl (lv_at hl 0 rfl) ?_
        refine lv_iload_n hx hb dL_law_145 rfl (lv_at hl 3 rfl) ?_
        refine lv_iconst (v := 4) hx hb dL_law_146 (by decide) ?_
        refine lv_iadd hx hb dL_law_147 ?_
        obtain ⟨hin, hw⟩ := hw
        refine va_sld hx hb hX hbl hbA hS hin dL_law_148 ?_
        refine lawi (w1 := wX q cI cJ cZ) (w2 := wM q2 cI cJ cZ) (sh_wX q cI cJ cZ) hdj (u1 := u) (u2 := v) (va_runV (As := [.int (xs (x3 + 1).toNatClampNeg), .int (xs (x3 + 2).toNatClampNeg), .int (xs (x3 + 3).toNatClampNeg), .int (xs (x3 + 4).toNatClampNeg)]) (rest := []) ⟨hx, hb, hml, hown, hts⟩ (c_X8_asks l D q cI cJ cZ _ u (xs (x3 + 1).toNatClampNeg) (xs (x3 + 2).toNatClampNeg) (xs (x3 + 3).toNatClampNeg) (xs (x3 + 4).toNatClampNeg) _ hw) (cwV 4 hts gL_law_X8_asks rfl rfl rfl (by decide +kernel) ⟨Nat.le_of_ble_eq_true rfl, Nat.le_of_ble_eq_true rfl⟩) (pvM (va_recv hK hP1 (ci := 8) (q0 := 0) (q := (RX8, TX8, 8)) rfl rfl) hK hP1 hD1 hN) rfl rfl hl.1 rfl (lv_room (Nat.le_of_ble_eq_true rfl)) dL_law_149 ⟨Nat.le_of_ble_eq_true rfl, Nat.le_of_ble_eq_true rfl⟩) hA hP2 hD1 hD2 hS (fun r2 u3 H locs hw hP1 hP2 hD1 hS => ?_)
        refine lv_aload_n hx hb dL_law_152 rfl (lv_at hl 2 rfl) ?_
        refine lv_aload_n hx hb dL_law_153 rfl (lv_at hl 0 rfl) ?_
        refine lv_iload_n hx hb dL_law_154 rfl (lv_at hl 3 rfl) ?_
        refine lv_iconst (v := 1) hx hb dL_law_155 (by decide) ?_
        refine lv_iadd hx hb dL_law_156 ?_
        obtain ⟨hin, hw⟩ := hw
        refine va_sld hx hb hX hbl hbA hS hin dL_law_157 ?_
        refine lv_aload_n hx hb dL_law_158 rfl (lv_at hl 0 rfl) ?_
        refine lv_iload_n hx hb dL_law_159 rfl (lv_at hl 3 rfl) ?_
        refine lv_iconst (v := 2) hx hb dL_law_160 (by decide) ?_
        refine lv_iadd hx hb dL_law_161 ?_
        obtain ⟨hin, hw⟩ := hw
        refine va_sld hx hb hX hbl hbA hS hin dL_law_162 ?_
        refine lv_aload_n hx hb dL_law_163 rfl (lv_at hl 0 rfl) ?_
        refine lv_iload_n hx hb dL_law_164 rfl (lv_at hl 3 rfl) ?_
        refine lv_iconst (v := 3) hx hb dL_law_165 (by decide) ?_
        refine lv_iadd hx hb dL_law_166 ?_
        obtain ⟨hin, hw⟩ := hw
        refine va_sld hx hb hX hbl hbA hS hin dL_law_167 ?_
        refine lv_aload_n hx hb dL_law_168 rfl (lv_at hl 0 rfl) ?_
        refine lv_iload_n hx hb dL_law_169 rfl (lv_at hl 3 rfl) ?_
        refine lv_iconst (v := 4) hx hb dL_law_170 (by decide) ?_
        refine lv_iadd hx hb dL_law_171 ?_
        obtain ⟨hin, hw⟩ := hw
        refine va_sld hx hb hX hbl hbA hS hin dL_law_172 ?_
        refine lawi (w1 := wM q2 cI cJ cZ) (w2 := wX q cI cJ cZ) (sh_wM q2 cI cJ cZ) hjd (u1 := v) (u2 := u3) (va_runV (As := [.int (xs (x3 + 1).toNatClampNeg), .int (xs (x3 + 2).toNatClampNeg), .int (xs (x3 + 3).toNatClampNeg), .int (xs (x3 + 4).toNatClampNeg)]) (rest := [.int r2]) ⟨hx, hb, hml, hown, hts⟩ (c_X9_asks l D q2 cI cJ cZ _ v (xs (x3 + 1).toNatClampNeg) (xs (x3 + 2).toNatClampNeg) (xs (x3 + 3).toNatClampNeg) (xs (x3 + 4).toNatClampNeg) _ hw) (cwV 4 hts gL_law_X9_asks rfl rfl rfl (by decide +kernel) ⟨Nat.le_of_ble_eq_true rfl, Nat.le_of_ble_eq_true rfl⟩) (pvM (va_recv hK hP2 (ci := 9) (q0 := 0) (q := (RX9, TX9, 30)) rfl rfl) hK hP2 hD2 hN) rfl rfl hl.1 rfl (lv_room (Nat.le_of_ble_eq_true rfl)) dL_law_173 ⟨Nat.le_of_ble_eq_true rfl, Nat.le_of_ble_eq_true rfl⟩) hA hP1 hD2 hD1 hS (fun r4 v5 H locs hw hP2 hP1 hD2 hS => ?_)
        refine lv_icmp_eq (tgt := 838) hx hb dL_law_176 (by decide) (fun hc => ?_) (fun hc => ?_)
        · have hw := hw.1 hc
          obtain ⟨y6, ey6⟩ : ∃ z : Int32, z = x3 + 6 := ⟨_, rfl⟩
          have hw := hw y6 ey6
          refine lv_iinc (v := y6) (lv' := [(3, .int y6), (0, .ref b), (1, .ref (q 0)), (2, .ref (q2 0))]) hx hb dL_law_838 hl (k := 3) rfl (by rw [ey6]; rfl) (by decide) rfl (fun ls hl => ?_)
          refine lv_goto (tgt := 18) hx hb dL_law_841 (by decide) ?_
          exact ih y6 u3 v5 _ _ hw hP1 hP2 hD1 hD2 hS ls (lv_sub hl [1, 2, 3, 0] rfl)
        · have hw := hw.2 hc
          refine lv_iconst (v := 0) hx hb dL_law_179 (by decide) ?_
          exact hw.elim
      by_cases hc1 : y1 = 1
      · have hw := hw.2.1 hc1
        refine lv_tableIn (tgt := 181) hx hb dL_law_33 (by rw [hc1]; decide) (by rw [hc1]; decide) (by rw [hc1]; rfl) (by decide) ?_
        refine lv_aload_n hx hb dL_law_181 rfl (lv_at hl 1 rfl) ?_
        refine lv_aload_n hx hb dL_law_182 rfl (lv_at hl 0 rfl) ?_
        refine lv_iload_n hx hb dL_law_183 rfl (lv_at hl 3 rfl) ?_
        refine lv_iconst (v := 1) hx hb dL_law_184 (by decide) ?_
        refine lv_iadd hx hb dL_law_185 ?_
        obtain ⟨hin, hw⟩ := hw
        refine va_sld hx hb hX hbl hbA hS hin dL_law_186 ?_
        refine lv_aload_n hx hb dL_law_187 rfl (lv_at hl 0 rfl) ?_
        refine lv_iload_n hx hb dL_law_188 rfl (lv_at hl 3 rfl) ?_
        refine lv_iconst (v := 2) hx hb dL_law_189 (by decide) ?_
        refine lv_iadd hx hb dL_law_190 ?_
        obtain ⟨hin, hw⟩ := hw
        refine va_sld hx hb hX hbl hbA hS hin dL_law_191 ?_
        refine lawi (w1 := wX q cI cJ cZ) (w2 := wM q2 cI cJ cZ) (sh_wX q cI cJ cZ) hdj (u1 := u) (u2 := v) (va_runV (As := [.int (xs (x3 + 1).toNatClampNeg), .int (xs (x3 + 2).toNatClampNeg)]) (rest := []) ⟨hx, hb, hml, hown, hts⟩ (c_X8_bars l D q cI cJ cZ _ u (xs (x3 + 1).toNatClampNeg) (xs (x3 + 2).toNatClampNeg) _ hw) (cwV 2 hts gL_law_X8_bars rfl rfl rfl (by decide +kernel) ⟨Nat.le_of_ble_eq_true rfl, Nat.le_of_ble_eq_true rfl⟩) (pvM (va_recv hK hP1 (ci := 8) (q0 := 0) (q := (RX8, TX8, 8)) rfl rfl) hK hP1 hD1 hN) rfl rfl hl.1 rfl (lv_room (Nat.le_of_ble_eq_true rfl)) dL_law_192 ⟨Nat.le_of_ble_eq_true rfl, Nat.le_of_ble_eq_true rfl⟩) hA hP2 hD1 hD2 hS (fun r7 u8 H locs hw hP1 hP2 hD1 hS => ?_)
        refine lv_aload_n hx hb dL_law_195 rfl (lv_at hl 2 rfl) ?_
        refine lv_aload_n hx hb dL_law_196 rfl (lv_at hl 0 rfl) ?_
        refine lv_iload_n hx hb dL_law_197 rfl (lv_at hl 3 rfl) ?_
        refine lv_iconst (v := 1) hx hb dL_law_198 (by decide) ?_
        refine lv_iadd hx hb dL_law_199 ?_
        obtain ⟨hin, hw⟩ := hw
        refine va_sld hx hb hX hbl hbA hS hin dL_law_200 ?_
        refine lv_aload_n hx hb dL_law_201 rfl (lv_at hl 0 rfl) ?_
        refine lv_iload_n hx hb dL_law_202 rfl (lv_at hl 3 rfl) ?_
        refine lv_iconst (v := 2) hx hb dL_law_203 (by decide) ?_
        refine lv_iadd hx hb dL_law_204 ?_
        obtain ⟨hin, hw⟩ := hw
        refine va_sld hx hb hX hbl hbA hS hin dL_law_205 ?_
        refine lawi (w1 := wM q2 cI cJ cZ) (w2 := wX q cI cJ cZ) (sh_wM q2 cI cJ cZ) hjd (u1 := v) (u2 := u8) (va_runV (As := [.int (xs (x3 + 1).toNatClampNeg), .int (xs (x3 + 2).toNatClampNeg)]) (rest := [.int r7]) ⟨hx, hb, hml, hown, hts⟩ (c_X9_bars l D q2 cI cJ cZ _ v (xs (x3 + 1).toNatClampNeg) (xs (x3 + 2).toNatClampNeg) _ hw) (cwV 2 hts gL_law_X9_bars rfl rfl rfl (by decide +kernel) ⟨Nat.le_of_ble_eq_true rfl, Nat.le_of_ble_eq_true rfl⟩) (pvM (va_recv hK hP2 (ci := 9) (q0 := 0) (q := (RX9, TX9, 30)) rfl rfl) hK hP2 hD2 hN) rfl rfl hl.1 rfl (lv_room (Nat.le_of_ble_eq_true rfl)) dL_law_206 ⟨Nat.le_of_ble_eq_true rfl, Nat.le_of_ble_eq_true rfl⟩) hA hP1 hD2 hD1 hS (fun r9 v10 H locs hw hP2 hP1 hD2 hS => ?_)
        refine lv_icmp_eq (tgt := 838) hx hb dL_law_209 (by decide) (fun hc => ?_) (fun hc => ?_)
        · have hw := hw.1 hc
          obtain ⟨y11, ey11⟩ : ∃ z : Int32, z = x3 + 6 := ⟨_, rfl⟩
          have hw := hw y11 ey11
          refine lv_iinc (v := y11) (lv' := [(3, .int y11), (0, .ref b), (1, .ref (q 0)), (2, .ref (q2 0))]) hx hb dL_law_838 hl (k := 3) rfl (by rw [ey11]; rfl) (by decide) rfl (fun ls hl => ?_)
          refine lv_goto (tgt := 18) hx hb dL_law_841 (by decide) ?_
          exact ih y11 u8 v10 _ _ hw hP1 hP2 hD1 hD2 hS ls (lv_sub hl [1, 2, 3, 0] rfl)
        · have hw := hw.2 hc
          refine lv_iconst (v := 0) hx hb dL_law_212 (by decide) ?_
          exact hw.elim
      by_cases hc2 : y1 = 2
      · have hw := hw.2.2.1 hc2
        refine lv_tableIn (tgt := 214) hx hb dL_law_33 (by rw [hc2]; decide) (by rw [hc2]; decide) (by rw [hc2]; rfl) (by decide) ?_
        refine lv_aload_n hx hb dL_law_214 rfl (lv_at hl 1 rfl) ?_
        refine lv_aload_n hx hb dL_law_215 rfl (lv_at hl 0 rfl) ?_
        refine lv_iload_n hx hb dL_law_216 rfl (lv_at hl 3 rfl) ?_
        refine lv_iconst (v := 1) hx hb dL_law_217 (by decide) ?_
        refine lv_iadd hx hb dL_law_218 ?_
        obtain ⟨hin, hw⟩ := hw
        refine va_sld hx hb hX hbl hbA hS hin dL_law_219 ?_
        refine lv_aload_n hx hb dL_law_220 rfl (lv_at hl 0 rfl) ?_
        refine lv_iload_n hx hb dL_law_221 rfl (lv_at hl 3 rfl) ?_
        refine lv_iconst (v := 2) hx hb dL_law_222 (by decide) ?_
        refine lv_iadd hx hb dL_law_223 ?_
        obtain ⟨hin, hw⟩ := hw
        refine va_sld hx hb hX hbl hbA hS hin dL_law_224 ?_
        refine lv_aload_n hx hb dL_law_225 rfl (lv_at hl 0 rfl) ?_
        refine lv_iload_n hx hb dL_law_226 rfl (lv_at hl 3 rfl) ?_
        refine lv_iconst (v := 3) hx hb dL_law_227 (by decide) ?_
        refine lv_iadd hx hb dL_law_228 ?_
        obtain ⟨hin, hw⟩ := hw
        refine va_sld hx hb hX hbl hbA hS hin dL_law_229 ?_
        refine lawi (w1 := wX q cI cJ cZ) (w2 := wM q2 cI cJ cZ) (sh_wX q cI cJ cZ) hdj (u1 := u) (u2 := v) (va_runV (As := [.int (xs (x3 + 1).toNatClampNeg), .int (xs (x3 + 2).toNatClampNeg), .int (xs (x3 + 3).toNatClampNeg)]) (rest := []) ⟨hx, hb, hml, hown, hts⟩ (c_X8_part l D q cI cJ cZ _ u (xs (x3 + 1).toNatClampNeg) (xs (x3 + 2).toNatClampNeg) (xs (x3 + 3).toNatClampNeg) _ hw) (cwV 3 hts gL_law_X8_part rfl rfl rfl (by decide +kernel) ⟨Nat.le_of_ble_eq_true rfl, Nat.le_of_ble_eq_true rfl⟩) (pvM (va_recv hK hP1 (ci := 8) (q0 := 0) (q := (RX8, TX8, 8)) rfl rfl) hK hP1 hD1 hN) rfl rfl hl.1 rfl (lv_room (Nat.le_of_ble_eq_true rfl)) dL_law_230 ⟨Nat.le_of_ble_eq_true rfl, Nat.le_of_ble_eq_true rfl⟩) hA hP2 hD1 hD2 hS (fun r12 u13 H locs hw hP1 hP2 hD1 hS => ?_)
        refine lv_aload_n hx hb dL_law_233 rfl (lv_at hl 2 rfl) ?_
        refine lv_aload_n hx hb dL_law_234 rfl (lv_at hl 0 rfl) ?_
        refine lv_iload_n hx hb dL_law_235 rfl (lv_at hl 3 rfl) ?_
        refine lv_iconst (v := 1) hx hb dL_law_236 (by decide) ?_
        refine lv_iadd hx hb dL_law_237 ?_
        obtain ⟨hin, hw⟩ := hw
        refine va_sld hx hb hX hbl hbA hS hin dL_law_238 ?_
        refine lv_aload_n hx hb dL_law_239 rfl (lv_at hl 0 rfl) ?_
        refine lv_iload_n hx hb dL_law_240 rfl (lv_at hl 3 rfl) ?_
        refine lv_iconst (v := 2) hx hb dL_law_241 (by decide) ?_
        refine lv_iadd hx hb dL_law_242 ?_
        obtain ⟨hin, hw⟩ := hw
        refine va_sld hx hb hX hbl hbA hS hin dL_law_243 ?_
        refine lv_aload_n hx hb dL_law_244 rfl (lv_at hl 0 rfl) ?_
        refine lv_iload_n hx hb dL_law_245 rfl (lv_at hl 3 rfl) ?_
        refine lv_iconst (v := 3) hx hb dL_law_246 (by decide) ?_
        refine lv_iadd hx hb dL_law_247 ?_
        obtain ⟨hin, hw⟩ := hw
        refine va_sld hx hb hX hbl hbA hS hin dL_law_248 ?_
        refine lawi (w1 := wM q2 cI cJ cZ) (w2 := wX q cI cJ cZ) (sh_wM q2 cI cJ cZ) hjd (u1 := v) (u2 := u13) (va_runV (As := [.int (xs (x3 + 1).toNatClampNeg), .int (xs (x3 + 2).toNatClampNeg), .int (xs (x3 + 3).toNatClampNeg)]) (rest := [.int r12]) ⟨hx, hb, hml, hown, hts⟩ (c_X9_part l D q2 cI cJ cZ _ v (xs (x3 + 1).toNatClampNeg) (xs (x3 + 2).toNatClampNeg) (xs (x3 + 3).toNatClampNeg) _ hw) (cwV 3 hts gL_law_X9_part rfl rfl rfl (by decide +kernel) ⟨Nat.le_of_ble_eq_true rfl, Nat.le_of_ble_eq_true rfl⟩) (pvM (va_recv hK hP2 (ci := 9) (q0 := 0) (q := (RX9, TX9, 30)) rfl rfl) hK hP2 hD2 hN) rfl rfl hl.1 rfl (lv_room (Nat.le_of_ble_eq_true rfl)) dL_law_249 ⟨Nat.le_of_ble_eq_true rfl, Nat.le_of_ble_eq_true rfl⟩) hA hP1 hD2 hD1 hS (fun r14 v15 H locs hw hP2 hP1 hD2 hS => ?_)
        refine lv_icmp_eq (tgt := 838) hx hb dL_law_252 (by decide) (fun hc => ?_) (fun hc => ?_)
        · have hw := hw.1 hc
          obtain ⟨y16, ey16⟩ : ∃ z : Int32, z = x3 + 6 := ⟨_, rfl⟩
          have hw := hw y16 ey16
          refine lv_iinc (v := y16) (lv' := [(3, .int y16), (0, .ref b), (1, .ref (q 0)), (2, .ref (q2 0))]) hx hb dL_law_838 hl (k := 3) rfl (by rw [ey16]; rfl) (by decide) rfl (fun ls hl => ?_)
          refine lv_goto (tgt := 18) hx hb dL_law_841 (by decide) ?_
          exact ih y16 u13 v15 _ _ hw hP1 hP2 hD1 hD2 hS ls (lv_sub hl [1, 2, 3, 0] rfl)
        · have hw := hw.2 hc
          refine lv_iconst (v := 0) hx hb dL_law_255 (by decide) ?_
          exact hw.elim
      by_cases hc3 : y1 = 3
      · have hw := hw.2.2.2.1 hc3
        refine lv_tableIn (tgt := 257) hx hb dL_law_33 (by rw [hc3]; decide) (by rw [hc3]; decide) (by rw [hc3]; rfl) (by decide) ?_
        refine lv_aload_n hx hb dL_law_257 rfl (lv_at hl 1 rfl) ?_
        refine lv_aload_n hx hb dL_law_258 rfl (lv_at hl 0 rfl) ?_
        refine lv_iload_n hx hb dL_law_259 rfl (lv_at hl 3 rfl) ?_
        refine lv_iconst (v := 1) hx hb dL_law_260 (by decide) ?_
        refine lv_iadd hx hb dL_law_261 ?_
        obtain ⟨hin, hw⟩ := hw
        refine va_sld hx hb hX hbl hbA hS hin dL_law_262 ?_
        refine lv_aload_n hx hb dL_law_263 rfl (lv_at hl 0 rfl) ?_
        refine lv_iload_n hx hb dL_law_264 rfl (lv_at hl 3 rfl) ?_
        refine lv_iconst (v := 2) hx hb dL_law_265 (by decide) ?_
        refine lv_iadd hx hb dL_law_266 ?_
        obtain ⟨hin, hw⟩ := hw
        refine va_sld hx hb hX hbl hbA hS hin dL_law_267 ?_
        refine lawi (w1 := wX q cI cJ cZ) (w2 := wM q2 cI cJ cZ) (sh_wX q cI cJ cZ) hdj (u1 := u) (u2 := v) (va_runV (As := [.int (xs (x3 + 1).toNatClampNeg), .int (xs (x3 + 2).toNatClampNeg)]) (rest := []) ⟨hx, hb, hml, hown, hts⟩ (c_X8_take l D q cI cJ cZ _ u (xs (x3 + 1).toNatClampNeg) (xs (x3 + 2).toNatClampNeg) _ hw) (cwV 2 hts gL_law_X8_take rfl rfl rfl (by decide +kernel) ⟨Nat.le_of_ble_eq_true rfl, Nat.le_of_ble_eq_true rfl⟩) (pvM (va_recv hK hP1 (ci := 8) (q0 := 0) (q := (RX8, TX8, 8)) rfl rfl) hK hP1 hD1 hN) rfl rfl hl.1 rfl (lv_room (Nat.le_of_ble_eq_true rfl)) dL_law_268 ⟨Nat.le_of_ble_eq_true rfl, Nat.le_of_ble_eq_true rfl⟩) hA hP2 hD1 hD2 hS (fun r17 u18 H locs hw hP1 hP2 hD1 hS => ?_)
        refine lv_aload_n hx hb dL_law_271 rfl (lv_at hl 2 rfl) ?_
        refine lv_aload_n hx hb dL_law_272 rfl (lv_at hl 0 rfl) ?_
        refine lv_iload_n hx hb dL_law_273 rfl (lv_at hl 3 rfl) ?_
        refine lv_iconst (v := 1) hx hb dL_law_274 (by decide) ?_
        refine lv_iadd hx hb dL_law_275 ?_
        obtain ⟨hin, hw⟩ := hw
        refine va_sld hx hb hX hbl hbA hS hin dL_law_276 ?_
        refine lv_aload_n hx hb dL_law_277 rfl (lv_at hl 0 rfl) ?_
        refine lv_iload_n hx hb dL_law_278 rfl (lv_at hl 3 rfl) ?_
        refine lv_iconst (v := 2) hx hb dL_law_279 (by decide) ?_
        refine lv_iadd hx hb dL_law_280 ?_
        obtain ⟨hin, hw⟩ := hw
        refine va_sld hx hb hX hbl hbA hS hin dL_law_281 ?_
        refine lawi (w1 := wM q2 cI cJ cZ) (w2 := wX q cI cJ cZ) (sh_wM q2 cI cJ cZ) hjd (u1 := v) (u2 := u18) (va_runV (As := [.int (xs (x3 + 1).toNatClampNeg), .int (xs (x3 + 2).toNatClampNeg)]) (rest := [.int r17]) ⟨hx, hb, hml, hown, hts⟩ (c_X9_take l D q2 cI cJ cZ _ v (xs (x3 + 1).toNatClampNeg) (xs (x3 + 2).toNatClampNeg) _ hw) (cwV 2 hts gL_law_X9_take rfl rfl rfl (by decide +kernel) ⟨Nat.le_of_ble_eq_true rfl, Nat.le_of_ble_eq_true rfl⟩) (pvM (va_recv hK hP2 (ci := 9) (q0 := 0) (q := (RX9, TX9, 30)) rfl rfl) hK hP2 hD2 hN) rfl rfl hl.1 rfl (lv_room (Nat.le_of_ble_eq_true rfl)) dL_law_282 ⟨Nat.le_of_ble_eq_true rfl, Nat.le_of_ble_eq_true rfl⟩) hA hP1 hD2 hD1 hS (fun r19 v20 H locs hw hP2 hP1 hD2 hS => ?_)
        refine lv_icmp_eq (tgt := 838) hx hb dL_law_285 (by decide) (fun hc => ?_) (fun hc => ?_)
        · have hw := hw.1 hc
          obtain ⟨y21, ey21⟩ : ∃ z : Int32, z = x3 + 6 := ⟨_, rfl⟩
          have hw := hw y21 ey21
          refine lv_iinc (v := y21) (lv' := [(3, .int y21), (0, .ref b), (1, .ref (q 0)), (2, .ref (q2 0))]) hx hb dL_law_838 hl (k := 3) rfl (by rw [ey21]; rfl) (by decide) rfl (fun ls hl => ?_)
          refine lv_goto (tgt := 18) hx hb dL_law_841 (by decide) ?_
          exact ih y21 u18 v20 _ _ hw hP1 hP2 hD1 hD2 hS ls (lv_sub hl [1, 2, 3, 0] rfl)
        · have hw := hw.2 hc
          refine lv_iconst (v := 0) hx hb dL_law_288 (by decide) ?_
          exact hw.elim
      by_cases hc4 : y1 = 4
      · have hw := hw.2.2.2.2.1 hc4
        refine lv_tableIn (tgt := 290) hx hb dL_law_33 (by rw [hc4]; decide) (by rw [hc4]; decide) (by rw [hc4]; rfl) (by decide) ?_
        refine lv_aload_n hx hb dL_law_290 rfl (lv_at hl 1 rfl) ?_
        refine lv_aload_n hx hb dL_law_291 rfl (lv_at hl 0 rfl) ?_
        refine lv_iload_n hx hb dL_law_292 rfl (lv_at hl 3 rfl) ?_
        refine lv_iconst (v := 1) hx hb dL_law_293 (by decide) ?_
        refine lv_iadd hx hb dL_law_294 ?_
        obtain ⟨hin, hw⟩ := hw
        refine va_sld hx hb hX hbl hbA hS hin dL_law_295 ?_
        refine lv_aload_n hx hb dL_law_296 rfl (lv_at hl 0 rfl) ?_
        refine lv_iload_n hx hb dL_law_297 rfl (lv_at hl 3 rfl) ?_
        refine lv_iconst (v := 2) hx hb dL_law_298 (by decide) ?_
        refine lv_iadd hx hb dL_law_299 ?_
        obtain ⟨hin, hw⟩ := hw
        refine va_sld hx hb hX hbl hbA hS hin dL_law_300 ?_
        refine lv_aload_n hx hb dL_law_301 rfl (lv_at hl 0 rfl) ?_
        refine lv_iload_n hx hb dL_law_302 rfl (lv_at hl 3 rfl) ?_
        refine lv_iconst (v := 3) hx hb dL_law_303 (by decide) ?_
        refine lv_iadd hx hb dL_law_304 ?_
        obtain ⟨hin, hw⟩ := hw
        refine va_sld hx hb hX hbl hbA hS hin dL_law_305 ?_
        refine lawi (w1 := wX q cI cJ cZ) (w2 := wM q2 cI cJ cZ) (sh_wX q cI cJ cZ) hdj (u1 := u) (u2 := v) (va_runV (As := [.int (xs (x3 + 1).toNatClampNeg), .int (xs (x3 + 2).toNatClampNeg), .int (xs (x3 + 3).toNatClampNeg)]) (rest := []) ⟨hx, hb, hml, hown, hts⟩ (c_X8_join l D q cI cJ cZ _ u (xs (x3 + 1).toNatClampNeg) (xs (x3 + 2).toNatClampNeg) (xs (x3 + 3).toNatClampNeg) _ hw) (cwV 3 hts gL_law_X8_join rfl rfl rfl (by decide +kernel) ⟨Nat.le_of_ble_eq_true rfl, Nat.le_of_ble_eq_true rfl⟩) (pvM (va_recv hK hP1 (ci := 8) (q0 := 0) (q := (RX8, TX8, 8)) rfl rfl) hK hP1 hD1 hN) rfl rfl hl.1 rfl (lv_room (Nat.le_of_ble_eq_true rfl)) dL_law_306 ⟨Nat.le_of_ble_eq_true rfl, Nat.le_of_ble_eq_true rfl⟩) hA hP2 hD1 hD2 hS (fun r22 u23 H locs hw hP1 hP2 hD1 hS => ?_)
        refine lv_aload_n hx hb dL_law_309 rfl (lv_at hl 2 rfl) ?_
        refine lv_aload_n hx hb dL_law_310 rfl (lv_at hl 0 rfl) ?_
        refine lv_iload_n hx hb dL_law_311 rfl (lv_at hl 3 rfl) ?_
        refine lv_iconst (v := 1) hx hb dL_law_312 (by decide) ?_
        refine lv_iadd hx hb dL_law_313 ?_
        obtain ⟨hin, hw⟩ := hw
        refine va_sld hx hb hX hbl hbA hS hin dL_law_314 ?_
        refine lv_aload_n hx hb dL_law_315 rfl (lv_at hl 0 rfl) ?_
        refine lv_iload_n hx hb dL_law_316 rfl (lv_at hl 3 rfl) ?_
        refine lv_iconst (v := 2) hx hb dL_law_317 (by decide) ?_
        refine lv_iadd hx hb dL_law_318 ?_
        obtain ⟨hin, hw⟩ := hw
        refine va_sld hx hb hX hbl hbA hS hin dL_law_319 ?_
        refine lv_aload_n hx hb dL_law_320 rfl (lv_at hl 0 rfl) ?_
        refine lv_iload_n hx hb dL_law_321 rfl (lv_at hl 3 rfl) ?_
        refine lv_iconst (v := 3) hx hb dL_law_322 (by decide) ?_
        refine lv_iadd hx hb dL_law_323 ?_
        obtain ⟨hin, hw⟩ := hw
        refine va_sld hx hb hX hbl hbA hS hin dL_law_324 ?_
        refine lawi (w1 := wM q2 cI cJ cZ) (w2 := wX q cI cJ cZ) (sh_wM q2 cI cJ cZ) hjd (u1 := v) (u2 := u23) (va_runV (As := [.int (xs (x3 + 1).toNatClampNeg), .int (xs (x3 + 2).toNatClampNeg), .int (xs (x3 + 3).toNatClampNeg)]) (rest := [.int r22]) ⟨hx, hb, hml, hown, hts⟩ (c_X9_join l D q2 cI cJ cZ _ v (xs (x3 + 1).toNatClampNeg) (xs (x3 + 2).toNatClampNeg) (xs (x3 + 3).toNatClampNeg) _ hw) (cwV 3 hts gL_law_X9_join rfl rfl rfl (by decide +kernel) ⟨Nat.le_of_ble_eq_true rfl, Nat.le_of_ble_eq_true rfl⟩) (pvM (va_recv hK hP2 (ci := 9) (q0 := 0) (q := (RX9, TX9, 30)) rfl rfl) hK hP2 hD2 hN) rfl rfl hl.1 rfl (lv_room (Nat.le_of_ble_eq_true rfl)) dL_law_325 ⟨Nat.le_of_ble_eq_true rfl, Nat.le_of_ble_eq_true rfl⟩) hA hP1 hD2 hD1 hS (fun r24 v25 H locs hw hP2 hP1 hD2 hS => ?_)
        refine lv_icmp_eq (tgt := 838) hx hb dL_law_328 (by decide) (fun hc => ?_) (fun hc => ?_)
        · have hw := hw.1 hc
          obtain ⟨y26, ey26⟩ : ∃ z : Int32, z = x3 + 6 := ⟨_, rfl⟩
          have hw := hw y26 ey26
          refine lv_iinc (v := y26) (lv' := [(3, .int y26), (0, .ref b), (1, .ref (q 0)), (2, .ref (q2 0))]) hx hb dL_law_838 hl (k := 3) rfl (by rw [ey26]; rfl) (by decide) rfl (fun ls hl => ?_)
          refine lv_goto (tgt := 18) hx hb dL_law_841 (by decide) ?_
          exact ih y26 u23 v25 _ _ hw hP1 hP2 hD1 hD2 hS ls (lv_sub hl [1, 2, 3, 0] rfl)
        · have hw := hw.2 hc
          refine lv_iconst (v := 0) hx hb dL_law_331 (by decide) ?_
          exact hw.elim
      by_cases hc5 : y1 = 5
      · have hw := hw.2.2.2.2.2.1 hc5
        refine lv_tableIn (tgt := 333) hx hb dL_law_33 (by rw [hc5]; decide) (by rw [hc5]; decide) (by rw [hc5]; rfl) (by decide) ?_
        refine lv_aload_n hx hb dL_law_333 rfl (lv_at hl 1 rfl) ?_
        refine lv_aload_n hx hb dL_law_334 rfl (lv_at hl 0 rfl) ?_
        refine lv_iload_n hx hb dL_law_335 rfl (lv_at hl 3 rfl) ?_
        refine lv_iconst (v := 1) hx hb dL_law_336 (by decide) ?_
        refine lv_iadd hx hb dL_law_337 ?_
        obtain ⟨hin, hw⟩ := hw
        refine va_sld hx hb hX hbl hbA hS hin dL_law_338 ?_
        refine lawi (w1 := wX q cI cJ cZ) (w2 := wM q2 cI cJ cZ) (sh_wX q cI cJ cZ) hdj (u1 := u) (u2 := v) (va_runV (As := [.int (xs (x3 + 1).toNatClampNeg)]) (rest := []) ⟨hx, hb, hml, hown, hts⟩ (c_X8_cut l D q cI cJ cZ _ u (xs (x3 + 1).toNatClampNeg) _ hw) (cwV 1 hts gL_law_X8_cut rfl rfl rfl (by decide +kernel) ⟨Nat.le_of_ble_eq_true rfl, Nat.le_of_ble_eq_true rfl⟩) (pvM (va_recv hK hP1 (ci := 8) (q0 := 0) (q := (RX8, TX8, 8)) rfl rfl) hK hP1 hD1 hN) rfl rfl hl.1 rfl (lv_room (Nat.le_of_ble_eq_true rfl)) dL_law_339 ⟨Nat.le_of_ble_eq_true rfl, Nat.le_of_ble_eq_true rfl⟩) hA hP2 hD1 hD2 hS (fun r27 u28 H locs hw hP1 hP2 hD1 hS => ?_)
        refine lv_aload_n hx hb dL_law_342 rfl (lv_at hl 2 rfl) ?_
        refine lv_aload_n hx hb dL_law_343 rfl (lv_at hl 0 rfl) ?_
        refine lv_iload_n hx hb dL_law_344 rfl (lv_at hl 3 rfl) ?_
        refine lv_iconst (v := 1) hx hb dL_law_345 (by decide) ?_
        refine lv_iadd hx hb dL_law_346 ?_
        obtain ⟨hin, hw⟩ := hw
        refine va_sld hx hb hX hbl hbA hS hin dL_law_347 ?_
        refine lawi (w1 := wM q2 cI cJ cZ) (w2 := wX q cI cJ cZ) (sh_wM q2 cI cJ cZ) hjd (u1 := v) (u2 := u28) (va_runV (As := [.int (xs (x3 + 1).toNatClampNeg)]) (rest := [.int r27]) ⟨hx, hb, hml, hown, hts⟩ (c_X9_cut l D q2 cI cJ cZ _ v (xs (x3 + 1).toNatClampNeg) _ hw) (cwV 1 hts gL_law_X9_cut rfl rfl rfl (by decide +kernel) ⟨Nat.le_of_ble_eq_true rfl, Nat.le_of_ble_eq_true rfl⟩) (pvM (va_recv hK hP2 (ci := 9) (q0 := 0) (q := (RX9, TX9, 30)) rfl rfl) hK hP2 hD2 hN) rfl rfl hl.1 rfl (lv_room (Nat.le_of_ble_eq_true rfl)) dL_law_348 ⟨Nat.le_of_ble_eq_true rfl, Nat.le_of_ble_eq_true rfl⟩) hA hP1 hD2 hD1 hS (fun r29 v30 H locs hw hP2 hP1 hD2 hS => ?_)
        refine lv_icmp_eq (tgt := 838) hx hb dL_law_351 (by decide) (fun hc => ?_) (fun hc => ?_)
        · have hw := hw.1 hc
          obtain ⟨y31, ey31⟩ : ∃ z : Int32, z = x3 + 6 := ⟨_, rfl⟩
          have hw := hw y31 ey31
          refine lv_iinc (v := y31) (lv' := [(3, .int y31), (0, .ref b), (1, .ref (q 0)), (2, .ref (q2 0))]) hx hb dL_law_838 hl (k := 3) rfl (by rw [ey31]; rfl) (by decide) rfl (fun ls hl => ?_)
          refine lv_goto (tgt := 18) hx hb dL_law_841 (by decide) ?_
          exact ih y31 u28 v30 _ _ hw hP1 hP2 hD1 hD2 hS ls (lv_sub hl [1, 2, 3, 0] rfl)
        · have hw := hw.2 hc
          refine lv_iconst (v := 0) hx hb dL_law_354 (by decide) ?_
          exact hw.elim
      by_cases hc6 : y1 = 6
      · have hw := hw.2.2.2.2.2.2.1 hc6
        refine lv_tableIn (tgt := 356) hx hb dL_law_33 (by rw [hc6]; decide) (by rw [hc6]; decide) (by rw [hc6]; rfl) (by decide) ?_
        refine lv_aload_n hx hb dL_law_356 rfl (lv_at hl 1 rfl) ?_
        refine lv_aload_n hx hb dL_law_357 rfl (lv_at hl 0 rfl) ?_
        refine lv_iload_n hx hb dL_law_358 rfl (lv_at hl 3 rfl) ?_
        refine lv_iconst (v := 1) hx hb dL_law_359 (by decide) ?_
        refine lv_iadd hx hb dL_law_360 ?_
        obtain ⟨hin, hw⟩ := hw
        refine va_sld hx hb hX hbl hbA hS hin dL_law_361 ?_
        refine lv_aload_n hx hb dL_law_362 rfl (lv_at hl 0 rfl) ?_
        refine lv_iload_n hx hb dL_law_363 rfl (lv_at hl 3 rfl) ?_
        refine lv_iconst (v := 2) hx hb dL_law_364 (by decide) ?_
        refine lv_iadd hx hb dL_law_365 ?_
        obtain ⟨hin, hw⟩ := hw
        refine va_sld hx hb hX hbl hbA hS hin dL_law_366 ?_
        refine lv_aload_n hx hb dL_law_367 rfl (lv_at hl 0 rfl) ?_
        refine lv_iload_n hx hb dL_law_368 rfl (lv_at hl 3 rfl) ?_
        refine lv_iconst (v := 3) hx hb dL_law_369 (by decide) ?_
        refine lv_iadd hx hb dL_law_370 ?_
        obtain ⟨hin, hw⟩ := hw
        refine va_sld hx hb hX hbl hbA hS hin dL_law_371 ?_
        refine lawi (w1 := wX q cI cJ cZ) (w2 := wM q2 cI cJ cZ) (sh_wX q cI cJ cZ) hdj (u1 := u) (u2 := v) (va_runV (As := [.int (xs (x3 + 1).toNatClampNeg), .int (xs (x3 + 2).toNatClampNeg), .int (xs (x3 + 3).toNatClampNeg)]) (rest := []) ⟨hx, hb, hml, hown, hts⟩ (c_X8_except l D q cI cJ cZ _ u (xs (x3 + 1).toNatClampNeg) (xs (x3 + 2).toNatClampNeg) (xs (x3 + 3).toNatClampNeg) _ hw) (cwV 3 hts gL_law_X8_except rfl rfl rfl (by decide +kernel) ⟨Nat.le_of_ble_eq_true rfl, Nat.le_of_ble_eq_true rfl⟩) (pvM (va_recv hK hP1 (ci := 8) (q0 := 0) (q := (RX8, TX8, 8)) rfl rfl) hK hP1 hD1 hN) rfl rfl hl.1 rfl (lv_room (Nat.le_of_ble_eq_true rfl)) dL_law_372 ⟨Nat.le_of_ble_eq_true rfl, Nat.le_of_ble_eq_true rfl⟩) hA hP2 hD1 hD2 hS (fun r32 u33 H locs hw hP1 hP2 hD1 hS => ?_)
        refine lv_aload_n hx hb dL_law_375 rfl (lv_at hl 2 rfl) ?_
        refine lv_aload_n hx hb dL_law_376 rfl (lv_at hl 0 rfl) ?_
        refine lv_iload_n hx hb dL_law_377 rfl (lv_at hl 3 rfl) ?_
        refine lv_iconst (v := 1) hx hb dL_law_378 (by decide) ?_
        refine lv_iadd hx hb dL_law_379 ?_
        obtain ⟨hin, hw⟩ := hw
        refine va_sld hx hb hX hbl hbA hS hin dL_law_380 ?_
        refine lv_aload_n hx hb dL_law_381 rfl (lv_at hl 0 rfl) ?_
        refine lv_iload_n hx hb dL_law_382 rfl (lv_at hl 3 rfl) ?_
        refine lv_iconst (v := 2) hx hb dL_law_383 (by decide) ?_
        refine lv_iadd hx hb dL_law_384 ?_
        obtain ⟨hin, hw⟩ := hw
        refine va_sld hx hb hX hbl hbA hS hin dL_law_385 ?_
        refine lv_aload_n hx hb dL_law_386 rfl (lv_at hl 0 rfl) ?_
        refine lv_iload_n hx hb dL_law_387 rfl (lv_at hl 3 rfl) ?_
        refine lv_iconst (v := 3) hx hb dL_law_388 (by decide) ?_
        refine lv_iadd hx hb dL_law_389 ?_
        obtain ⟨hin, hw⟩ := hw
        refine va_sld hx hb hX hbl hbA hS hin dL_law_390 ?_
        refine lawi (w1 := wM q2 cI cJ cZ) (w2 := wX q cI cJ cZ) (sh_wM q2 cI cJ cZ) hjd (u1 := v) (u2 := u33) (va_runV (As := [.int (xs (x3 + 1).toNatClampNeg), .int (xs (x3 + 2).toNatClampNeg), .int (xs (x3 + 3).toNatClampNeg)]) (rest := [.int r32]) ⟨hx, hb, hml, hown, hts⟩ (c_X9_except l D q2 cI cJ cZ _ v (xs (x3 + 1).toNatClampNeg) (xs (x3 + 2).toNatClampNeg) (xs (x3 + 3).toNatClampNeg) _ hw) (cwV 3 hts gL_law_X9_except rfl rfl rfl (by decide +kernel) ⟨Nat.le_of_ble_eq_true rfl, Nat.le_of_ble_eq_true rfl⟩) (pvM (va_recv hK hP2 (ci := 9) (q0 := 0) (q := (RX9, TX9, 30)) rfl rfl) hK hP2 hD2 hN) rfl rfl hl.1 rfl (lv_room (Nat.le_of_ble_eq_true rfl)) dL_law_391 ⟨Nat.le_of_ble_eq_true rfl, Nat.le_of_ble_eq_true rfl⟩) hA hP1 hD2 hD1 hS (fun r34 v35 H locs hw hP2 hP1 hD2 hS => ?_)
        refine lv_icmp_eq (tgt := 838) hx hb dL_law_394 (by decide) (fun hc => ?_) (fun hc => ?_)
        · have hw := hw.1 hc
          obtain ⟨y36, ey36⟩ : ∃ z : Int32, z = x3 + 6 := ⟨_, rfl⟩
          have hw := hw y36 ey36
          refine lv_iinc (v := y36) (lv' := [(3, .int y36), (0, .ref b), (1, .ref (q 0)), (2, .ref (q2 0))]) hx hb dL_law_838 hl (k := 3) rfl (by rw [ey36]; rfl) (by decide) rfl (fun ls hl => ?_)
          refine lv_goto (tgt := 18) hx hb dL_law_841 (by decide) ?_
          exact ih y36 u33 v35 _ _ hw hP1 hP2 hD1 hD2 hS ls (lv_sub hl [1, 2, 3, 0] rfl)
        · have hw := hw.2 hc
          refine lv_iconst (v := 0) hx hb dL_law_397 (by decide) ?_
          exact hw.elim
      by_cases hc7 : y1 = 7
      · have hw := hw.2.2.2.2.2.2.2.1 hc7
        refine lv_tableIn (tgt := 399) hx hb dL_law_33 (by rw [hc7]; decide) (by rw [hc7]; decide) (by rw [hc7]; rfl) (by decide) ?_
        refine lv_aload_n hx hb dL_law_399 rfl (lv_at hl 1 rfl) ?_
        refine lv_aload_n hx hb dL_law_400 rfl (lv_at hl 0 rfl) ?_
        refine lv_iload_n hx hb dL_law_401 rfl (lv_at hl 3 rfl) ?_
        refine lv_iconst (v := 1) hx hb dL_law_402 (by decide) ?_
        refine lv_iadd hx hb dL_law_403 ?_
        obtain ⟨hin, hw⟩ := hw
        refine va_sld hx hb hX hbl hbA hS hin dL_law_404 ?_
        refine lawi (w1 := wX q cI cJ cZ) (w2 := wM q2 cI cJ cZ) (sh_wX q cI cJ cZ) hdj (u1 := u) (u2 := v) (va_runV (As := [.int (xs (x3 + 1).toNatClampNeg)]) (rest := []) ⟨hx, hb, hml, hown, hts⟩ (c_X8_product l D q cI cJ cZ _ u (xs (x3 + 1).toNatClampNeg) _ hw) (cwV 1 hts gL_law_X8_product rfl rfl rfl (by decide +kernel) ⟨Nat.le_of_ble_eq_true rfl, Nat.le_of_ble_eq_true rfl⟩) (pvM (va_recv hK hP1 (ci := 8) (q0 := 0) (q := (RX8, TX8, 8)) rfl rfl) hK hP1 hD1 hN) rfl rfl hl.1 rfl (lv_room (Nat.le_of_ble_eq_true rfl)) dL_law_405 ⟨Nat.le_of_ble_eq_true rfl, Nat.le_of_ble_eq_true rfl⟩) hA hP2 hD1 hD2 hS (fun r37 u38 H locs hw hP1 hP2 hD1 hS => ?_)
        refine lv_aload_n hx hb dL_law_408 rfl (lv_at hl 2 rfl) ?_
        refine lv_aload_n hx hb dL_law_409 rfl (lv_at hl 0 rfl) ?_
        refine lv_iload_n hx hb dL_law_410 rfl (lv_at hl 3 rfl) ?_
        refine lv_iconst (v := 1) hx hb dL_law_411 (by decide) ?_
        refine lv_iadd hx hb dL_law_412 ?_
        obtain ⟨hin, hw⟩ := hw
        refine va_sld hx hb hX hbl hbA hS hin dL_law_413 ?_
        refine lawi (w1 := wM q2 cI cJ cZ) (w2 := wX q cI cJ cZ) (sh_wM q2 cI cJ cZ) hjd (u1 := v) (u2 := u38) (va_runV (As := [.int (xs (x3 + 1).toNatClampNeg)]) (rest := [.int r37]) ⟨hx, hb, hml, hown, hts⟩ (c_X9_product l D q2 cI cJ cZ _ v (xs (x3 + 1).toNatClampNeg) _ hw) (cwV 1 hts gL_law_X9_product rfl rfl rfl (by decide +kernel) ⟨Nat.le_of_ble_eq_true rfl, Nat.le_of_ble_eq_true rfl⟩) (pvM (va_recv hK hP2 (ci := 9) (q0 := 0) (q := (RX9, TX9, 30)) rfl rfl) hK hP2 hD2 hN) rfl rfl hl.1 rfl (lv_room (Nat.le_of_ble_eq_true rfl)) dL_law_414 ⟨Nat.le_of_ble_eq_true rfl, Nat.le_of_ble_eq_true rfl⟩) hA hP1 hD2 hD1 hS (fun r39 v40 H locs hw hP2 hP1 hD2 hS => ?_)
        refine lv_icmp_eq (tgt := 838) hx hb dL_law_417 (by decide) (fun hc => ?_) (fun hc => ?_)
        · have hw := hw.1 hc
          obtain ⟨y41, ey41⟩ : ∃ z : Int32, z = x3 + 6 := ⟨_, rfl⟩
          have hw := hw y41 ey41
          refine lv_iinc (v := y41) (lv' := [(3, .int y41), (0, .ref b), (1, .ref (q 0)), (2, .ref (q2 0))]) hx hb dL_law_838 hl (k := 3) rfl (by rw [ey41]; rfl) (by decide) rfl (fun ls hl => ?_)
          refine lv_goto (tgt := 18) hx hb dL_law_841 (by decide) ?_
          exact ih y41 u38 v40 _ _ hw hP1 hP2 hD1 hD2 hS ls (lv_sub hl [1, 2, 3, 0] rfl)
        · have hw := hw.2 hc
          refine lv_iconst (v := 0) hx hb dL_law_420 (by decide) ?_
          exact hw.elim
      by_cases hc8 : y1 = 8
      · have hw := hw.2.2.2.2.2.2.2.2.1 hc8
        refine lv_tableIn (tgt := 422) hx hb dL_law_33 (by rw [hc8]; decide) (by rw [hc8]; decide) (by rw [hc8]; rfl) (by decide) ?_
        refine lv_aload_n hx hb dL_law_422 rfl (lv_at hl 1 rfl) ?_
        refine lv_aload_n hx hb dL_law_423 rfl (lv_at hl 0 rfl) ?_
        refine lv_iload_n hx hb dL_law_424 rfl (lv_at hl 3 rfl) ?_
        refine lv_iconst (v := 1) hx hb dL_law_425 (by decide) ?_
        refine lv_iadd hx hb dL_law_426 ?_
        obtain ⟨hin, hw⟩ := hw
        refine va_sld hx hb hX hbl hbA hS hin dL_law_427 ?_
        refine lv_aload_n hx hb dL_law_428 rfl (lv_at hl 0 rfl) ?_
        refine lv_iload_n hx hb dL_law_429 rfl (lv_at hl 3 rfl) ?_
        refine lv_iconst (v := 2) hx hb dL_law_430 (by decide) ?_
        refine lv_iadd hx hb dL_law_431 ?_
        obtain ⟨hin, hw⟩ := hw
        refine va_sld hx hb hX hbl hbA hS hin dL_law_432 ?_
        refine lv_aload_n hx hb dL_law_433 rfl (lv_at hl 0 rfl) ?_
        refine lv_iload_n hx hb dL_law_434 rfl (lv_at hl 3 rfl) ?_
        refine lv_iconst (v := 3) hx hb dL_law_435 (by decide) ?_
        refine lv_iadd hx hb dL_law_436 ?_
        obtain ⟨hin, hw⟩ := hw
        refine va_sld hx hb hX hbl hbA hS hin dL_law_437 ?_
        refine lv_aload_n hx hb dL_law_438 rfl (lv_at hl 0 rfl) ?_
        refine lv_iload_n hx hb dL_law_439 rfl (lv_at hl 3 rfl) ?_
        refine lv_iconst (v := 4) hx hb dL_law_440 (by decide) ?_
        refine lv_iadd hx hb dL_law_441 ?_
        obtain ⟨hin, hw⟩ := hw
        refine va_sld hx hb hX hbl hbA hS hin dL_law_442 ?_
        refine lawi (w1 := wX q cI cJ cZ) (w2 := wM q2 cI cJ cZ) (sh_wX q cI cJ cZ) hdj (u1 := u) (u2 := v) (va_runV (As := [.int (xs (x3 + 1).toNatClampNeg), .int (xs (x3 + 2).toNatClampNeg), .int (xs (x3 + 3).toNatClampNeg), .int (xs (x3 + 4).toNatClampNeg)]) (rest := []) ⟨hx, hb, hml, hown, hts⟩ (c_X8_change l D q cI cJ cZ _ u (xs (x3 + 1).toNatClampNeg) (xs (x3 + 2).toNatClampNeg) (xs (x3 + 3).toNatClampNeg) (xs (x3 + 4).toNatClampNeg) _ hw) (cwV 4 hts gL_law_X8_change rfl rfl rfl (by decide +kernel) ⟨Nat.le_of_ble_eq_true rfl, Nat.le_of_ble_eq_true rfl⟩) (pvM (va_recv hK hP1 (ci := 8) (q0 := 0) (q := (RX8, TX8, 8)) rfl rfl) hK hP1 hD1 hN) rfl rfl hl.1 rfl (lv_room (Nat.le_of_ble_eq_true rfl)) dL_law_443 ⟨Nat.le_of_ble_eq_true rfl, Nat.le_of_ble_eq_true rfl⟩) hA hP2 hD1 hD2 hS (fun r42 u43 H locs hw hP1 hP2 hD1 hS => ?_)
        refine lv_aload_n hx hb dL_law_446 rfl (lv_at hl 2 rfl) ?_
        refine lv_aload_n hx hb dL_law_447 rfl (lv_at hl 0 rfl) ?_
        refine lv_iload_n hx hb dL_law_448 rfl (lv_at hl 3 rfl) ?_
        refine lv_iconst (v := 1) hx hb dL_law_449 (by decide) ?_
        refine lv_iadd hx hb dL_law_450 ?_
        obtain ⟨hin, hw⟩ := hw
        refine va_sld hx hb hX hbl hbA hS hin dL_law_451 ?_
        refine lv_aload_n hx hb dL_law_452 rfl (lv_at hl 0 rfl) ?_
        refine lv_iload_n hx hb dL_law_453 rfl (lv_at hl 3 rfl) ?_
        refine lv_iconst (v := 2) hx hb dL_law_454 (by decide) ?_
        refine lv_iadd hx hb dL_law_455 ?_
        obtain ⟨hin, hw⟩ := hw
        refine va_sld hx hb hX hbl hbA hS hin dL_law_456 ?_
        refine lv_aload_n hx hb dL_law_457 rfl (lv_at hl 0 rfl) ?_
        refine lv_iload_n hx hb dL_law_458 rfl (lv_at hl 3 rfl) ?_
        refine lv_iconst (v := 3) hx hb dL_law_459 (by decide) ?_
        refine lv_iadd hx hb dL_law_460 ?_
        obtain ⟨hin, hw⟩ := hw
        refine va_sld hx hb hX hbl hbA hS hin dL_law_461 ?_
        refine lv_aload_n hx hb dL_law_462 rfl (lv_at hl 0 rfl) ?_
        refine lv_iload_n hx hb dL_law_463 rfl (lv_at hl 3 rfl) ?_
        refine lv_iconst (v := 4) hx hb dL_law_464 (by decide) ?_
        refine lv_iadd hx hb dL_law_465 ?_
        obtain ⟨hin, hw⟩ := hw
        refine va_sld hx hb hX hbl hbA hS hin dL_law_466 ?_
        refine lawi (w1 := wM q2 cI cJ cZ) (w2 := wX q cI cJ cZ) (sh_wM q2 cI cJ cZ) hjd (u1 := v) (u2 := u43) (va_runV (As := [.int (xs (x3 + 1).toNatClampNeg), .int (xs (x3 + 2).toNatClampNeg), .int (xs (x3 + 3).toNatClampNeg), .int (xs (x3 + 4).toNatClampNeg)]) (rest := [.int r42]) ⟨hx, hb, hml, hown, hts⟩ (c_X9_change l D q2 cI cJ cZ _ v (xs (x3 + 1).toNatClampNeg) (xs (x3 + 2).toNatClampNeg) (xs (x3 + 3).toNatClampNeg) (xs (x3 + 4).toNatClampNeg) _ hw) (cwV 4 hts gL_law_X9_change rfl rfl rfl (by decide +kernel) ⟨Nat.le_of_ble_eq_true rfl, Nat.le_of_ble_eq_true rfl⟩) (pvM (va_recv hK hP2 (ci := 9) (q0 := 0) (q := (RX9, TX9, 30)) rfl rfl) hK hP2 hD2 hN) rfl rfl hl.1 rfl (lv_room (Nat.le_of_ble_eq_true rfl)) dL_law_467 ⟨Nat.le_of_ble_eq_true rfl, Nat.le_of_ble_eq_true rfl⟩) hA hP1 hD2 hD1 hS (fun r44 v45 H locs hw hP2 hP1 hD2 hS => ?_)
        refine lv_icmp_eq (tgt := 838) hx hb dL_law_470 (by decide) (fun hc => ?_) (fun hc => ?_)
        · have hw := hw.1 hc
          obtain ⟨y46, ey46⟩ : ∃ z : Int32, z = x3 + 6 := ⟨_, rfl⟩
          have hw := hw y46 ey46
          refine lv_iinc (v := y46) (lv' := [(3, .int y46), (0, .ref b), (1, .ref (q 0)), (2, .ref (q2 0))]) hx hb dL_law_838 hl (k := 3) rfl (by rw [ey46]; rfl) (by decide) rfl (fun ls hl => ?_)
          refine lv_goto (tgt := 18) hx hb dL_law_841 (by decide) ?_
          exact ih y46 u43 v45 _ _ hw hP1 hP2 hD1 hD2 hS ls (lv_sub hl [1, 2, 3, 0] rfl)
        · have hw := hw.2 hc
          refine lv_iconst (v := 0) hx hb dL_law_473 (by decide) ?_
          exact hw.elim
      by_cases hc9 : y1 = 9
      · have hw := hw.2.2.2.2.2.2.2.2.2.1 hc9
        refine lv_tableIn (tgt := 475) hx hb dL_law_33 (by rw [hc9]; decide) (by rw [hc9]; decide) (by rw [hc9]; rfl) (by decide) ?_
        refine lv_aload_n hx hb dL_law_475 rfl (lv_at hl 1 rfl) ?_
        refine lv_aload_n hx hb dL_law_476 rfl (lv_at hl 0 rfl) ?_
        refine lv_iload_n hx hb dL_law_477 rfl (lv_at hl 3 rfl) ?_
        refine lv_iconst (v := 1) hx hb dL_law_478 (by decide) ?_
        refine lv_iadd hx hb dL_law_479 ?_
        obtain ⟨hin, hw⟩ := hw
        refine va_sld hx hb hX hbl hbA hS hin dL_law_480 ?_
        refine lv_aload_n hx hb dL_law_481 rfl (lv_at hl 0 rfl) ?_
        refine lv_iload_n hx hb dL_law_482 rfl (lv_at hl 3 rfl) ?_
        refine lv_iconst (v := 2) hx hb dL_law_483 (by decide) ?_
        refine lv_iadd hx hb dL_law_484 ?_
        obtain ⟨hin, hw⟩ := hw
        refine va_sld hx hb hX hbl hbA hS hin dL_law_485 ?_
        refine lv_aload_n hx hb dL_law_486 rfl (lv_at hl 0 rfl) ?_
        refine lv_iload_n hx hb dL_law_487 rfl (lv_at hl 3 rfl) ?_
        refine lv_iconst (v := 3) hx hb dL_law_488 (by decide) ?_
        refine lv_iadd hx hb dL_law_489 ?_
        obtain ⟨hin, hw⟩ := hw
        refine va_sld hx hb hX hbl hbA hS hin dL_law_490 ?_
        refine lawi (w1 := wX q cI cJ cZ) (w2 := wM q2 cI cJ cZ) (sh_wX q cI cJ cZ) hdj (u1 := u) (u2 := v) (va_runV (As := [.int (xs (x3 + 1).toNatClampNeg), .int (xs (x3 + 2).toNatClampNeg), .int (xs (x3 + 3).toNatClampNeg)]) (rest := []) ⟨hx, hb, hml, hown, hts⟩ (c_X8_come l D q cI cJ cZ _ u (xs (x3 + 1).toNatClampNeg) (xs (x3 + 2).toNatClampNeg) (xs (x3 + 3).toNatClampNeg) _ hw) (cwV 3 hts gL_law_X8_come rfl rfl rfl (by decide +kernel) ⟨Nat.le_of_ble_eq_true rfl, Nat.le_of_ble_eq_true rfl⟩) (pvM (va_recv hK hP1 (ci := 8) (q0 := 0) (q := (RX8, TX8, 8)) rfl rfl) hK hP1 hD1 hN) rfl rfl hl.1 rfl (lv_room (Nat.le_of_ble_eq_true rfl)) dL_law_491 ⟨Nat.le_of_ble_eq_true rfl, Nat.le_of_ble_eq_true rfl⟩) hA hP2 hD1 hD2 hS (fun r47 u48 H locs hw hP1 hP2 hD1 hS => ?_)
        refine lv_aload_n hx hb dL_law_494 rfl (lv_at hl 2 rfl) ?_
        refine lv_aload_n hx hb dL_law_495 rfl (lv_at hl 0 rfl) ?_
        refine lv_iload_n hx hb dL_law_496 rfl (lv_at hl 3 rfl) ?_
        refine lv_iconst (v := 1) hx hb dL_law_497 (by decide) ?_
        refine lv_iadd hx hb dL_law_498 ?_
        obtain ⟨hin, hw⟩ := hw
        refine va_sld hx hb hX hbl hbA hS hin dL_law_499 ?_
        refine lv_aload_n hx hb dL_law_500 rfl (lv_at hl 0 rfl) ?_
        refine lv_iload_n hx hb dL_law_501 rfl (lv_at hl 3 rfl) ?_
        refine lv_iconst (v := 2) hx hb dL_law_502 (by decide) ?_
        refine lv_iadd hx hb dL_law_503 ?_
        obtain ⟨hin, hw⟩ := hw
        refine va_sld hx hb hX hbl hbA hS hin dL_law_504 ?_
        refine lv_aload_n hx hb dL_law_505 rfl (lv_at hl 0 rfl) ?_
        refine lv_iload_n hx hb dL_law_506 rfl (lv_at hl 3 rfl) ?_
        refine lv_iconst (v := 3) hx hb dL_law_507 (by decide) ?_
        refine lv_iadd hx hb dL_law_508 ?_
        obtain ⟨hin, hw⟩ := hw
        refine va_sld hx hb hX hbl hbA hS hin dL_law_509 ?_
        refine lawi (w1 := wM q2 cI cJ cZ) (w2 := wX q cI cJ cZ) (sh_wM q2 cI cJ cZ) hjd (u1 := v) (u2 := u48) (va_runV (As := [.int (xs (x3 + 1).toNatClampNeg), .int (xs (x3 + 2).toNatClampNeg), .int (xs (x3 + 3).toNatClampNeg)]) (rest := [.int r47]) ⟨hx, hb, hml, hown, hts⟩ (c_X9_come l D q2 cI cJ cZ _ v (xs (x3 + 1).toNatClampNeg) (xs (x3 + 2).toNatClampNeg) (xs (x3 + 3).toNatClampNeg) _ hw) (cwV 3 hts gL_law_X9_come rfl rfl rfl (by decide +kernel) ⟨Nat.le_of_ble_eq_true rfl, Nat.le_of_ble_eq_true rfl⟩) (pvM (va_recv hK hP2 (ci := 9) (q0 := 0) (q := (RX9, TX9, 30)) rfl rfl) hK hP2 hD2 hN) rfl rfl hl.1 rfl (lv_room (Nat.le_of_ble_eq_true rfl)) dL_law_510 ⟨Nat.le_of_ble_eq_true rfl, Nat.le_of_ble_eq_true rfl⟩) hA hP1 hD2 hD1 hS (fun r49 v50 H locs hw hP2 hP1 hD2 hS => ?_)
        refine lv_icmp_eq (tgt := 838) hx hb dL_law_513 (by decide) (fun hc => ?_) (fun hc => ?_)
        · have hw := hw.1 hc
          obtain ⟨y51, ey51⟩ : ∃ z : Int32, z = x3 + 6 := ⟨_, rfl⟩
          have hw := hw y51 ey51
          refine lv_iinc (v := y51) (lv' := [(3, .int y51), (0, .ref b), (1, .ref (q 0)), (2, .ref (q2 0))]) hx hb dL_law_838 hl (k := 3) rfl (by rw [ey51]; rfl) (by decide) rfl (fun ls hl => ?_)
          refine lv_goto (tgt := 18) hx hb dL_law_841 (by decide) ?_
          exact ih y51 u48 v50 _ _ hw hP1 hP2 hD1 hD2 hS ls (lv_sub hl [1, 2, 3, 0] rfl)
        · have hw := hw.2 hc
          refine lv_iconst (v := 0) hx hb dL_law_516 (by decide) ?_
          exact hw.elim
      by_cases hc10 : y1 = 10
      · have hw := hw.2.2.2.2.2.2.2.2.2.2.1 hc10
        refine lv_tableIn (tgt := 518) hx hb dL_law_33 (by rw [hc10]; decide) (by rw [hc10]; decide) (by rw [hc10]; rfl) (by decide) ?_
        refine lv_aload_n hx hb dL_law_518 rfl (lv_at hl 1 rfl) ?_
        refine lv_aload_n hx hb dL_law_519 rfl (lv_at hl 0 rfl) ?_
        refine lv_iload_n hx hb dL_law_520 rfl (lv_at hl 3 rfl) ?_
        refine lv_iconst (v := 1) hx hb dL_law_521 (by decide) ?_
        refine lv_iadd hx hb dL_law_522 ?_
        obtain ⟨hin, hw⟩ := hw
        refine va_sld hx hb hX hbl hbA hS hin dL_law_523 ?_
        refine lawi (w1 := wX q cI cJ cZ) (w2 := wM q2 cI cJ cZ) (sh_wX q cI cJ cZ) hdj (u1 := u) (u2 := v) (va_runV (As := [.int (xs (x3 + 1).toNatClampNeg)]) (rest := []) ⟨hx, hb, hml, hown, hts⟩ (c_X8_quarrels l D q cI cJ cZ _ u (xs (x3 + 1).toNatClampNeg) _ hw) (cwV 1 hts gL_law_X8_quarrels rfl rfl rfl (by decide +kernel) ⟨Nat.le_of_ble_eq_true rfl, Nat.le_of_ble_eq_true rfl⟩) (pvM (va_recv hK hP1 (ci := 8) (q0 := 0) (q := (RX8, TX8, 8)) rfl rfl) hK hP1 hD1 hN) rfl rfl hl.1 rfl (lv_room (Nat.le_of_ble_eq_true rfl)) dL_law_524 ⟨Nat.le_of_ble_eq_true rfl, Nat.le_of_ble_eq_true rfl⟩) hA hP2 hD1 hD2 hS (fun r52 u53 H locs hw hP1 hP2 hD1 hS => ?_)
        refine lv_aload_n hx hb dL_law_527 rfl (lv_at hl 2 rfl) ?_
        refine lv_aload_n hx hb dL_law_528 rfl (lv_at hl 0 rfl) ?_
        refine lv_iload_n hx hb dL_law_529 rfl (lv_at hl 3 rfl) ?_
        refine lv_iconst (v := 1) hx hb dL_law_530 (by decide) ?_
        refine lv_iadd hx hb dL_law_531 ?_
        obtain ⟨hin, hw⟩ := hw
        refine va_sld hx hb hX hbl hbA hS hin dL_law_532 ?_
        refine lawi (w1 := wM q2 cI cJ cZ) (w2 := wX q cI cJ cZ) (sh_wM q2 cI cJ cZ) hjd (u1 := v) (u2 := u53) (va_runV (As := [.int (xs (x3 + 1).toNatClampNeg)]) (rest := [.int r52]) ⟨hx, hb, hml, hown, hts⟩ (c_X9_quarrels l D q2 cI cJ cZ _ v (xs (x3 + 1).toNatClampNeg) _ hw) (cwV 1 hts gL_law_X9_quarrels rfl rfl rfl (by decide +kernel) ⟨Nat.le_of_ble_eq_true rfl, Nat.le_of_ble_eq_true rfl⟩) (pvM (va_recv hK hP2 (ci := 9) (q0 := 0) (q := (RX9, TX9, 30)) rfl rfl) hK hP2 hD2 hN) rfl rfl hl.1 rfl (lv_room (Nat.le_of_ble_eq_true rfl)) dL_law_533 ⟨Nat.le_of_ble_eq_true rfl, Nat.le_of_ble_eq_true rfl⟩) hA hP1 hD2 hD1 hS (fun r54 v55 H locs hw hP2 hP1 hD2 hS => ?_)
        refine lv_icmp_eq (tgt := 838) hx hb dL_law_536 (by decide) (fun hc => ?_) (fun hc => ?_)
        · have hw := hw.1 hc
          obtain ⟨y56, ey56⟩ : ∃ z : Int32, z = x3 + 6 := ⟨_, rfl⟩
          have hw := hw y56 ey56
          refine lv_iinc (v := y56) (lv' := [(3, .int y56), (0, .ref b), (1, .ref (q 0)), (2, .ref (q2 0))]) hx hb dL_law_838 hl (k := 3) rfl (by rw [ey56]; rfl) (by decide) rfl (fun ls hl => ?_)
          refine lv_goto (tgt := 18) hx hb dL_law_841 (by decide) ?_
          exact ih y56 u53 v55 _ _ hw hP1 hP2 hD1 hD2 hS ls (lv_sub hl [1, 2, 3, 0] rfl)
        · have hw := hw.2 hc
          refine lv_iconst (v := 0) hx hb dL_law_539 (by decide) ?_
          exact hw.elim
      by_cases hc11 : y1 = 11
      · have hw := hw.2.2.2.2.2.2.2.2.2.2.2.1 hc11
        refine lv_tableIn (tgt := 541) hx hb dL_law_33 (by rw [hc11]; decide) (by rw [hc11]; decide) (by rw [hc11]; rfl) (by decide) ?_
        refine lv_aload_n hx hb dL_law_541 rfl (lv_at hl 1 rfl) ?_
        refine lv_aload_n hx hb dL_law_542 rfl (lv_at hl 0 rfl) ?_
        refine lv_iload_n hx hb dL_law_543 rfl (lv_at hl 3 rfl) ?_
        refine lv_iconst (v := 1) hx hb dL_law_544 (by decide) ?_
        refine lv_iadd hx hb dL_law_545 ?_
        obtain ⟨hin, hw⟩ := hw
        refine va_sld hx hb hX hbl hbA hS hin dL_law_546 ?_
        refine lv_aload_n hx hb dL_law_547 rfl (lv_at hl 0 rfl) ?_
        refine lv_iload_n hx hb dL_law_548 rfl (lv_at hl 3 rfl) ?_
        refine lv_iconst (v := 2) hx hb dL_law_549 (by decide) ?_
        refine lv_iadd hx hb dL_law_550 ?_
        obtain ⟨hin, hw⟩ := hw
        refine va_sld hx hb hX hbl hbA hS hin dL_law_551 ?_
        refine lawi (w1 := wX q cI cJ cZ) (w2 := wM q2 cI cJ cZ) (sh_wX q cI cJ cZ) hdj (u1 := u) (u2 := v) (va_runV (As := [.int (xs (x3 + 1).toNatClampNeg), .int (xs (x3 + 2).toNatClampNeg)]) (rest := []) ⟨hx, hb, hml, hown, hts⟩ (c_X8_quarrel l D q cI cJ cZ _ u (xs (x3 + 1).toNatClampNeg) (xs (x3 + 2).toNatClampNeg) _ hw) (cwV 2 hts gL_law_X8_quarrel rfl rfl rfl (by decide +kernel) ⟨Nat.le_of_ble_eq_true rfl, Nat.le_of_ble_eq_true rfl⟩) (pvM (va_recv hK hP1 (ci := 8) (q0 := 0) (q := (RX8, TX8, 8)) rfl rfl) hK hP1 hD1 hN) rfl rfl hl.1 rfl (lv_room (Nat.le_of_ble_eq_true rfl)) dL_law_552 ⟨Nat.le_of_ble_eq_true rfl, Nat.le_of_ble_eq_true rfl⟩) hA hP2 hD1 hD2 hS (fun r57 u58 H locs hw hP1 hP2 hD1 hS => ?_)
        refine lv_aload_n hx hb dL_law_555 rfl (lv_at hl 2 rfl) ?_
        refine lv_aload_n hx hb dL_law_556 rfl (lv_at hl 0 rfl) ?_
        refine lv_iload_n hx hb dL_law_557 rfl (lv_at hl 3 rfl) ?_
        refine lv_iconst (v := 1) hx hb dL_law_558 (by decide) ?_
        refine lv_iadd hx hb dL_law_559 ?_
        obtain ⟨hin, hw⟩ := hw
        refine va_sld hx hb hX hbl hbA hS hin dL_law_560 ?_
        refine lv_aload_n hx hb dL_law_561 rfl (lv_at hl 0 rfl) ?_
        refine lv_iload_n hx hb dL_law_562 rfl (lv_at hl 3 rfl) ?_
        refine lv_iconst (v := 2) hx hb dL_law_563 (by decide) ?_
        refine lv_iadd hx hb dL_law_564 ?_
        obtain ⟨hin, hw⟩ := hw
        refine va_sld hx hb hX hbl hbA hS hin dL_law_565 ?_
        refine lawi (w1 := wM q2 cI cJ cZ) (w2 := wX q cI cJ cZ) (sh_wM q2 cI cJ cZ) hjd (u1 := v) (u2 := u58) (va_runV (As := [.int (xs (x3 + 1).toNatClampNeg), .int (xs (x3 + 2).toNatClampNeg)]) (rest := [.int r57]) ⟨hx, hb, hml, hown, hts⟩ (c_X9_quarrel l D q2 cI cJ cZ _ v (xs (x3 + 1).toNatClampNeg) (xs (x3 + 2).toNatClampNeg) _ hw) (cwV 2 hts gL_law_X9_quarrel rfl rfl rfl (by decide +kernel) ⟨Nat.le_of_ble_eq_true rfl, Nat.le_of_ble_eq_true rfl⟩) (pvM (va_recv hK hP2 (ci := 9) (q0 := 0) (q := (RX9, TX9, 30)) rfl rfl) hK hP2 hD2 hN) rfl rfl hl.1 rfl (lv_room (Nat.le_of_ble_eq_true rfl)) dL_law_566 ⟨Nat.le_of_ble_eq_true rfl, Nat.le_of_ble_eq_true rfl⟩) hA hP1 hD2 hD1 hS (fun r59 v60 H locs hw hP2 hP1 hD2 hS => ?_)
        refine lv_icmp_eq (tgt := 838) hx hb dL_law_569 (by decide) (fun hc => ?_) (fun hc => ?_)
        · have hw := hw.1 hc
          obtain ⟨y61, ey61⟩ : ∃ z : Int32, z = x3 + 6 := ⟨_, rfl⟩
          have hw := hw y61 ey61
          refine lv_iinc (v := y61) (lv' := [(3, .int y61), (0, .ref b), (1, .ref (q 0)), (2, .ref (q2 0))]) hx hb dL_law_838 hl (k := 3) rfl (by rw [ey61]; rfl) (by decide) rfl (fun ls hl => ?_)
          refine lv_goto (tgt := 18) hx hb dL_law_841 (by decide) ?_
          exact ih y61 u58 v60 _ _ hw hP1 hP2 hD1 hD2 hS ls (lv_sub hl [1, 2, 3, 0] rfl)
        · have hw := hw.2 hc
          refine lv_iconst (v := 0) hx hb dL_law_572 (by decide) ?_
          exact hw.elim
      by_cases hc12 : y1 = 12
      · have hw := hw.2.2.2.2.2.2.2.2.2.2.2.2.1 hc12
        refine lv_tableIn (tgt := 574) hx hb dL_law_33 (by rw [hc12]; decide) (by rw [hc12]; decide) (by rw [hc12]; rfl) (by decide) ?_
        refine lv_aload_n hx hb dL_law_574 rfl (lv_at hl 1 rfl) ?_
        refine lv_aload_n hx hb dL_law_575 rfl (lv_at hl 0 rfl) ?_
        refine lv_iload_n hx hb dL_law_576 rfl (lv_at hl 3 rfl) ?_
        refine lv_iconst (v := 1) hx hb dL_law_577 (by decide) ?_
        refine lv_iadd hx hb dL_law_578 ?_
        obtain ⟨hin, hw⟩ := hw
        refine va_sld hx hb hX hbl hbA hS hin dL_law_579 ?_
        refine lawi (w1 := wX q cI cJ cZ) (w2 := wM q2 cI cJ cZ) (sh_wX q cI cJ cZ) hdj (u1 := u) (u2 := v) (va_runV (As := [.int (xs (x3 + 1).toNatClampNeg)]) (rest := []) ⟨hx, hb, hml, hown, hts⟩ (c_X8_judge l D q cI cJ cZ _ u (xs (x3 + 1).toNatClampNeg) _ hw) (cwV 1 hts gL_law_X8_judge rfl rfl rfl (by decide +kernel) ⟨Nat.le_of_ble_eq_true rfl, Nat.le_of_ble_eq_true rfl⟩) (pvM (va_recv hK hP1 (ci := 8) (q0 := 0) (q := (RX8, TX8, 8)) rfl rfl) hK hP1 hD1 hN) rfl rfl hl.1 rfl (lv_room (Nat.le_of_ble_eq_true rfl)) dL_law_580 ⟨Nat.le_of_ble_eq_true rfl, Nat.le_of_ble_eq_true rfl⟩) hA hP2 hD1 hD2 hS (fun r62 u63 H locs hw hP1 hP2 hD1 hS => ?_)
        refine lv_aload_n hx hb dL_law_583 rfl (lv_at hl 2 rfl) ?_
        refine lv_aload_n hx hb dL_law_584 rfl (lv_at hl 0 rfl) ?_
        refine lv_iload_n hx hb dL_law_585 rfl (lv_at hl 3 rfl) ?_
        refine lv_iconst (v := 1) hx hb dL_law_586 (by decide) ?_
        refine lv_iadd hx hb dL_law_587 ?_
        obtain ⟨hin, hw⟩ := hw
        refine va_sld hx hb hX hbl hbA hS hin dL_law_588 ?_
        refine lawi (w1 := wM q2 cI cJ cZ) (w2 := wX q cI cJ cZ) (sh_wM q2 cI cJ cZ) hjd (u1 := v) (u2 := u63) (va_runV (As := [.int (xs (x3 + 1).toNatClampNeg)]) (rest := [.int r62]) ⟨hx, hb, hml, hown, hts⟩ (c_X9_judge l D q2 cI cJ cZ _ v (xs (x3 + 1).toNatClampNeg) _ hw) (cwV 1 hts gL_law_X9_judge rfl rfl rfl (by decide +kernel) ⟨Nat.le_of_ble_eq_true rfl, Nat.le_of_ble_eq_true rfl⟩) (pvM (va_recv hK hP2 (ci := 9) (q0 := 0) (q := (RX9, TX9, 30)) rfl rfl) hK hP2 hD2 hN) rfl rfl hl.1 rfl (lv_room (Nat.le_of_ble_eq_true rfl)) dL_law_589 ⟨Nat.le_of_ble_eq_true rfl, Nat.le_of_ble_eq_true rfl⟩) hA hP1 hD2 hD1 hS (fun r64 v65 H locs hw hP2 hP1 hD2 hS => ?_)
        refine lv_icmp_eq (tgt := 838) hx hb dL_law_592 (by decide) (fun hc => ?_) (fun hc => ?_)
        · have hw := hw.1 hc
          obtain ⟨y66, ey66⟩ : ∃ z : Int32, z = x3 + 6 := ⟨_, rfl⟩
          have hw := hw y66 ey66
          refine lv_iinc (v := y66) (lv' := [(3, .int y66), (0, .ref b), (1, .ref (q 0)), (2, .ref (q2 0))]) hx hb dL_law_838 hl (k := 3) rfl (by rw [ey66]; rfl) (by decide) rfl (fun ls hl => ?_)
          refine lv_goto (tgt := 18) hx hb dL_law_841 (by decide) ?_
          exact ih y66 u63 v65 _ _ hw hP1 hP2 hD1 hD2 hS ls (lv_sub hl [1, 2, 3, 0] rfl)
        · have hw := hw.2 hc
          refine lv_iconst (v := 0) hx hb dL_law_595 (by decide) ?_
          exact hw.elim
      by_cases hc13 : y1 = 13
      · have hw := hw.2.2.2.2.2.2.2.2.2.2.2.2.2.1 hc13
        refine lv_tableIn (tgt := 597) hx hb dL_law_33 (by rw [hc13]; decide) (by rw [hc13]; decide) (by rw [hc13]; rfl) (by decide) ?_
        refine lv_aload_n hx hb dL_law_597 rfl (lv_at hl 1 rfl) ?_
        refine lv_aload_n hx hb dL_law_598 rfl (lv_at hl 0 rfl) ?_
        refine lv_iload_n hx hb dL_law_599 rfl (lv_at hl 3 rfl) ?_
        refine lv_iconst (v := 1) hx hb dL_law_600 (by decide) ?_
        refine lv_iadd hx hb dL_law_601 ?_
        obtain ⟨hin, hw⟩ := hw
        refine va_sld hx hb hX hbl hbA hS hin dL_law_602 ?_
        refine lawi (w1 := wX q cI cJ cZ) (w2 := wM q2 cI cJ cZ) (sh_wX q cI cJ cZ) hdj (u1 := u) (u2 := v) (va_runV (As := [.int (xs (x3 + 1).toNatClampNeg)]) (rest := []) ⟨hx, hb, hml, hown, hts⟩ (c_X8_cheapest l D q cI cJ cZ _ u (xs (x3 + 1).toNatClampNeg) _ hw) (cwV 1 hts gL_law_X8_cheapest rfl rfl rfl (by decide +kernel) ⟨Nat.le_of_ble_eq_true rfl, Nat.le_of_ble_eq_true rfl⟩) (pvM (va_recv hK hP1 (ci := 8) (q0 := 0) (q := (RX8, TX8, 8)) rfl rfl) hK hP1 hD1 hN) rfl rfl hl.1 rfl (lv_room (Nat.le_of_ble_eq_true rfl)) dL_law_603 ⟨Nat.le_of_ble_eq_true rfl, Nat.le_of_ble_eq_true rfl⟩) hA hP2 hD1 hD2 hS (fun r67 u68 H locs hw hP1 hP2 hD1 hS => ?_)
        refine lv_aload_n hx hb dL_law_606 rfl (lv_at hl 2 rfl) ?_
        refine lv_aload_n hx hb dL_law_607 rfl (lv_at hl 0 rfl) ?_
        refine lv_iload_n hx hb dL_law_608 rfl (lv_at hl 3 rfl) ?_
        refine lv_iconst (v := 1) hx hb dL_law_609 (by decide) ?_
        refine lv_iadd hx hb dL_law_610 ?_
        obtain ⟨hin, hw⟩ := hw
        refine va_sld hx hb hX hbl hbA hS hin dL_law_611 ?_
        refine lawi (w1 := wM q2 cI cJ cZ) (w2 := wX q cI cJ cZ) (sh_wM q2 cI cJ cZ) hjd (u1 := v) (u2 := u68) (va_runV (As := [.int (xs (x3 + 1).toNatClampNeg)]) (rest := [.int r67]) ⟨hx, hb, hml, hown, hts⟩ (c_X9_cheapest l D q2 cI cJ cZ _ v (xs (x3 + 1).toNatClampNeg) _ hw) (cwV 1 hts gL_law_X9_cheapest rfl rfl rfl (by decide +kernel) ⟨Nat.le_of_ble_eq_true rfl, Nat.le_of_ble_eq_true rfl⟩) (pvM (va_recv hK hP2 (ci := 9) (q0 := 0) (q := (RX9, TX9, 30)) rfl rfl) hK hP2 hD2 hN) rfl rfl hl.1 rfl (lv_room (Nat.le_of_ble_eq_true rfl)) dL_law_612 ⟨Nat.le_of_ble_eq_true rfl, Nat.le_of_ble_eq_true rfl⟩) hA hP1 hD2 hD1 hS (fun r69 v70 H locs hw hP2 hP1 hD2 hS => ?_)
        refine lv_icmp_eq (tgt := 838) hx hb dL_law_615 (by decide) (fun hc => ?_) (fun hc => ?_)
        · have hw := hw.1 hc
          obtain ⟨y71, ey71⟩ : ∃ z : Int32, z = x3 + 6 := ⟨_, rfl⟩
          have hw := hw y71 ey71
          refine lv_iinc (v := y71) (lv' := [(3, .int y71), (0, .ref b), (1, .ref (q 0)), (2, .ref (q2 0))]) hx hb dL_law_838 hl (k := 3) rfl (by rw [ey71]; rfl) (by decide) rfl (fun ls hl => ?_)
          refine lv_goto (tgt := 18) hx hb dL_law_841 (by decide) ?_
          exact ih y71 u68 v70 _ _ hw hP1 hP2 hD1 hD2 hS ls (lv_sub hl [1, 2, 3, 0] rfl)
        · have hw := hw.2 hc
          refine lv_iconst (v := 0) hx hb dL_law_618 (by decide) ?_
          exact hw.elim
      by_cases hc14 : y1 = 14
      · have hw := hw.2.2.2.2.2.2.2.2.2.2.2.2.2.2.1 hc14
        refine lv_tableIn (tgt := 620) hx hb dL_law_33 (by rw [hc14]; decide) (by rw [hc14]; decide) (by rw [hc14]; rfl) (by decide) ?_
        refine lv_aload_n hx hb dL_law_620 rfl (lv_at hl 1 rfl) ?_
        refine lv_aload_n hx hb dL_law_621 rfl (lv_at hl 0 rfl) ?_
        refine lv_iload_n hx hb dL_law_622 rfl (lv_at hl 3 rfl) ?_
        refine lv_iconst (v := 1) hx hb dL_law_623 (by decide) ?_
        refine lv_iadd hx hb dL_law_624 ?_
        obtain ⟨hin, hw⟩ := hw
        refine va_sld hx hb hX hbl hbA hS hin dL_law_625 ?_
        refine vp_callSi (va_Run.run (va_runV (As := [.int (xs (x3 + 1).toNatClampNeg)]) (rest := []) ⟨hx, hb, hml, hown, hts⟩ (c_X8_price l D q cI cJ cZ u (xs (x3 + 1).toNatClampNeg) _ hw) (cwV 1 hts gL_law_X8_price rfl rfl rfl (by decide +kernel) ⟨Nat.le_of_ble_eq_true rfl, Nat.le_of_ble_eq_true rfl⟩) (pvR (va_recv hK hP1 (ci := 8) (q0 := 0) (q := (RX8, TX8, 8)) rfl rfl) hK hP1 hN) rfl rfl hl.1 rfl (lv_room (Nat.le_of_ble_eq_true rfl)) dL_law_626 ⟨Nat.le_of_ble_eq_true rfl, Nat.le_of_ble_eq_true rfl⟩)) (fun r72 hw => ?_)
        refine lv_aload_n hx hb dL_law_629 rfl (lv_at hl 2 rfl) ?_
        refine lv_aload_n hx hb dL_law_630 rfl (lv_at hl 0 rfl) ?_
        refine lv_iload_n hx hb dL_law_631 rfl (lv_at hl 3 rfl) ?_
        refine lv_iconst (v := 1) hx hb dL_law_632 (by decide) ?_
        refine lv_iadd hx hb dL_law_633 ?_
        obtain ⟨hin, hw⟩ := hw
        refine va_sld hx hb hX hbl hbA hS hin dL_law_634 ?_
        refine vp_callSi (va_Run.run (va_runV (As := [.int (xs (x3 + 1).toNatClampNeg)]) (rest := [.int r72]) ⟨hx, hb, hml, hown, hts⟩ (c_X9_price l D q2 cI cJ cZ v (xs (x3 + 1).toNatClampNeg) _ hw) (cwV 1 hts gL_law_X9_price rfl rfl rfl (by decide +kernel) ⟨Nat.le_of_ble_eq_true rfl, Nat.le_of_ble_eq_true rfl⟩) (pvR (va_recv hK hP2 (ci := 9) (q0 := 0) (q := (RX9, TX9, 30)) rfl rfl) hK hP2 hN) rfl rfl hl.1 rfl (lv_room (Nat.le_of_ble_eq_true rfl)) dL_law_635 ⟨Nat.le_of_ble_eq_true rfl, Nat.le_of_ble_eq_true rfl⟩)) (fun r73 hw => ?_)
        refine lv_icmp_eq (tgt := 838) hx hb dL_law_638 (by decide) (fun hc => ?_) (fun hc => ?_)
        · have hw := hw.1 hc
          obtain ⟨y74, ey74⟩ : ∃ z : Int32, z = x3 + 6 := ⟨_, rfl⟩
          have hw := hw y74 ey74
          refine lv_iinc (v := y74) (lv' := [(3, .int y74), (0, .ref b), (1, .ref (q 0)), (2, .ref (q2 0))]) hx hb dL_law_838 hl (k := 3) rfl (by rw [ey74]; rfl) (by decide) rfl (fun ls hl => ?_)
          refine lv_goto (tgt := 18) hx hb dL_law_841 (by decide) ?_
          exact ih y74 u v _ _ hw hP1 hP2 hD1 hD2 hS ls (lv_sub hl [1, 2, 3, 0] rfl)
        · have hw := hw.2 hc
          refine lv_iconst (v := 0) hx hb dL_law_641 (by decide) ?_
          exact hw.elim
      by_cases hc15 : y1 = 15
      · have hw := hw.2.2.2.2.2.2.2.2.2.2.2.2.2.2.2.1 hc15
        refine lv_tableIn (tgt := 643) hx hb dL_law_33 (by rw [hc15]; decide) (by rw [hc15]; decide) (by rw [hc15]; rfl) (by decide) ?_
        refine lv_aload_n hx hb dL_law_643 rfl (lv_at hl 1 rfl) ?_
        refine lv_aload_n hx hb dL_law_644 rfl (lv_at hl 0 rfl) ?_
        refine lv_iload_n hx hb dL_law_645 rfl (lv_at hl 3 rfl) ?_
        refine lv_iconst (v := 1) hx hb dL_law_646 (by decide) ?_
        refine lv_iadd hx hb dL_law_647 ?_
        obtain ⟨hin, hw⟩ := hw
        refine va_sld hx hb hX hbl hbA hS hin dL_law_648 ?_
        refine lv_aload_n hx hb dL_law_649 rfl (lv_at hl 0 rfl) ?_
        refine lv_iload_n hx hb dL_law_650 rfl (lv_at hl 3 rfl) ?_
        refine lv_iconst (v := 2) hx hb dL_law_651 (by decide) ?_
        refine lv_iadd hx hb dL_law_652 ?_
        obtain ⟨hin, hw⟩ := hw
        refine va_sld hx hb hX hbl hbA hS hin dL_law_653 ?_
        refine lv_aload_n hx hb dL_law_654 rfl (lv_at hl 0 rfl) ?_
        refine lv_iload_n hx hb dL_law_655 rfl (lv_at hl 3 rfl) ?_
        refine lv_iconst (v := 3) hx hb dL_law_656 (by decide) ?_
        refine lv_iadd hx hb dL_law_657 ?_
        obtain ⟨hin, hw⟩ := hw
        refine va_sld hx hb hX hbl hbA hS hin dL_law_658 ?_
        refine lv_aload_n hx hb dL_law_659 rfl (lv_at hl 0 rfl) ?_
        refine lv_iload_n hx hb dL_law_660 rfl (lv_at hl 3 rfl) ?_
        refine lv_iconst (v := 4) hx hb dL_law_661 (by decide) ?_
        refine lv_iadd hx hb dL_law_662 ?_
        obtain ⟨hin, hw⟩ := hw
        refine va_sld hx hb hX hbl hbA hS hin dL_law_663 ?_
        refine lv_aload_n hx hb dL_law_664 rfl (lv_at hl 0 rfl) ?_
        refine lv_iload_n hx hb dL_law_665 rfl (lv_at hl 3 rfl) ?_
        refine lv_iconst (v := 5) hx hb dL_law_666 (by decide) ?_
        refine lv_iadd hx hb dL_law_667 ?_
        obtain ⟨hin, hw⟩ := hw
        refine va_sld hx hb hX hbl hbA hS hin dL_law_668 ?_
        refine lawi (w1 := wX q cI cJ cZ) (w2 := wM q2 cI cJ cZ) (sh_wX q cI cJ cZ) hdj (u1 := u) (u2 := v) (va_runV (As := [.int (xs (x3 + 1).toNatClampNeg), .int (xs (x3 + 2).toNatClampNeg), .int (xs (x3 + 3).toNatClampNeg), .int (xs (x3 + 4).toNatClampNeg), .int (xs (x3 + 5).toNatClampNeg)]) (rest := []) ⟨hx, hb, hml, hown, hts⟩ (c_X8_way l D q cI cJ cZ _ u (xs (x3 + 1).toNatClampNeg) (xs (x3 + 2).toNatClampNeg) (xs (x3 + 3).toNatClampNeg) (xs (x3 + 4).toNatClampNeg) (xs (x3 + 5).toNatClampNeg) _ hw) (cwV 5 hts gL_law_X8_way rfl rfl rfl (by decide +kernel) ⟨Nat.le_of_ble_eq_true rfl, Nat.le_of_ble_eq_true rfl⟩) (pvM (va_recv hK hP1 (ci := 8) (q0 := 0) (q := (RX8, TX8, 8)) rfl rfl) hK hP1 hD1 hN) rfl rfl hl.1 rfl (lv_room (Nat.le_of_ble_eq_true rfl)) dL_law_669 ⟨Nat.le_of_ble_eq_true rfl, Nat.le_of_ble_eq_true rfl⟩) hA hP2 hD1 hD2 hS (fun r75 u76 H locs hw hP1 hP2 hD1 hS => ?_)
        refine lv_aload_n hx hb dL_law_672 rfl (lv_at hl 2 rfl) ?_
        refine lv_aload_n hx hb dL_law_673 rfl (lv_at hl 0 rfl) ?_
        refine lv_iload_n hx hb dL_law_674 rfl (lv_at hl 3 rfl) ?_
        refine lv_iconst (v := 1) hx hb dL_law_675 (by decide) ?_
        refine lv_iadd hx hb dL_law_676 ?_
        obtain ⟨hin, hw⟩ := hw
        refine va_sld hx hb hX hbl hbA hS hin dL_law_677 ?_
        refine lv_aload_n hx hb dL_law_678 rfl (lv_at hl 0 rfl) ?_
        refine lv_iload_n hx hb dL_law_679 rfl (lv_at hl 3 rfl) ?_
        refine lv_iconst (v := 2) hx hb dL_law_680 (by decide) ?_
        refine lv_iadd hx hb dL_law_681 ?_
        obtain ⟨hin, hw⟩ := hw
        refine va_sld hx hb hX hbl hbA hS hin dL_law_682 ?_
        refine lv_aload_n hx hb dL_law_683 rfl (lv_at hl 0 rfl) ?_
        refine lv_iload_n hx hb dL_law_684 rfl (lv_at hl 3 rfl) ?_
        refine lv_iconst (v := 3) hx hb dL_law_685 (by decide) ?_
        refine lv_iadd hx hb dL_law_686 ?_
        obtain ⟨hin, hw⟩ := hw
        refine va_sld hx hb hX hbl hbA hS hin dL_law_687 ?_
        refine lv_aload_n hx hb dL_law_688 rfl (lv_at hl 0 rfl) ?_
        refine lv_iload_n hx hb dL_law_689 rfl (lv_at hl 3 rfl) ?_
        refine lv_iconst (v := 4) hx hb dL_law_690 (by decide) ?_
        refine lv_iadd hx hb dL_law_691 ?_
        obtain ⟨hin, hw⟩ := hw
        refine va_sld hx hb hX hbl hbA hS hin dL_law_692 ?_
        refine lv_aload_n hx hb dL_law_693 rfl (lv_at hl 0 rfl) ?_
        refine lv_iload_n hx hb dL_law_694 rfl (lv_at hl 3 rfl) ?_
        refine lv_iconst (v := 5) hx hb dL_law_695 (by decide) ?_
        refine lv_iadd hx hb dL_law_696 ?_
        obtain ⟨hin, hw⟩ := hw
        refine va_sld hx hb hX hbl hbA hS hin dL_law_697 ?_
        refine lawi (w1 := wM q2 cI cJ cZ) (w2 := wX q cI cJ cZ) (sh_wM q2 cI cJ cZ) hjd (u1 := v) (u2 := u76) (va_runV (As := [.int (xs (x3 + 1).toNatClampNeg), .int (xs (x3 + 2).toNatClampNeg), .int (xs (x3 + 3).toNatClampNeg), .int (xs (x3 + 4).toNatClampNeg), .int (xs (x3 + 5).toNatClampNeg)]) (rest := [.int r75]) ⟨hx, hb, hml, hown, hts⟩ (c_X9_way l D q2 cI cJ cZ _ v (xs (x3 + 1).toNatClampNeg) (xs (x3 + 2).toNatClampNeg) (xs (x3 + 3).toNatClampNeg) (xs (x3 + 4).toNatClampNeg) (xs (x3 + 5).toNatClampNeg) _ hw) (cwV 5 hts gL_law_X9_way rfl rfl rfl (by decide +kernel) ⟨Nat.le_of_ble_eq_true rfl, Nat.le_of_ble_eq_true rfl⟩) (pvM (va_recv hK hP2 (ci := 9) (q0 := 0) (q := (RX9, TX9, 30)) rfl rfl) hK hP2 hD2 hN) rfl rfl hl.1 rfl (lv_room (Nat.le_of_ble_eq_true rfl)) dL_law_698 ⟨Nat.le_of_ble_eq_true rfl, Nat.le_of_ble_eq_true rfl⟩) hA hP1 hD2 hD1 hS (fun r77 v78 H locs hw hP2 hP1 hD2 hS => ?_)
        refine lv_icmp_eq (tgt := 838) hx hb dL_law_701 (by decide) (fun hc => ?_) (fun hc => ?_)
        · have hw := hw.1 hc
          obtain ⟨y79, ey79⟩ : ∃ z : Int32, z = x3 + 6 := ⟨_, rfl⟩
          have hw := hw y79 ey79
          refine lv_iinc (v := y79) (lv' := [(3, .int y79), (0, .ref b), (1, .ref (q 0)), (2, .ref (q2 0))]) hx hb dL_law_838 hl (k := 3) rfl (by rw [ey79]; rfl) (by decide) rfl (fun ls hl => ?_)
          refine lv_goto (tgt := 18) hx hb dL_law_841 (by decide) ?_
          exact ih y79 u76 v78 _ _ hw hP1 hP2 hD1 hD2 hS ls (lv_sub hl [1, 2, 3, 0] rfl)
        · have hw := hw.2 hc
          refine lv_iconst (v := 0) hx hb dL_law_704 (by decide) ?_
          exact hw.elim
      by_cases hc16 : y1 = 16
      · have hw := hw.2.2.2.2.2.2.2.2.2.2.2.2.2.2.2.2.1 hc16
        refine lv_tableIn (tgt := 706) hx hb dL_law_33 (by rw [hc16]; decide) (by rw [hc16]; decide) (by rw [hc16]; rfl) (by decide) ?_
        refine lv_aload_n hx hb dL_law_706 rfl (lv_at hl 1 rfl) ?_
        refine lv_aload_n hx hb dL_law_707 rfl (lv_at hl 0 rfl) ?_
        refine lv_iload_n hx hb dL_law_708 rfl (lv_at hl 3 rfl) ?_
        refine lv_iconst (v := 1) hx hb dL_law_709 (by decide) ?_
        refine lv_iadd hx hb dL_law_710 ?_
        obtain ⟨hin, hw⟩ := hw
        refine va_sld hx hb hX hbl hbA hS hin dL_law_711 ?_
        refine lv_aload_n hx hb dL_law_712 rfl (lv_at hl 0 rfl) ?_
        refine lv_iload_n hx hb dL_law_713 rfl (lv_at hl 3 rfl) ?_
        refine lv_iconst (v := 2) hx hb dL_law_714 (by decide) ?_
        refine lv_iadd hx hb dL_law_715 ?_
        obtain ⟨hin, hw⟩ := hw
        refine va_sld hx hb hX hbl hbA hS hin dL_law_716 ?_
        refine lawi (w1 := wX q cI cJ cZ) (w2 := wM q2 cI cJ cZ) (sh_wX q cI cJ cZ) hdj (u1 := u) (u2 := v) (va_runV (As := [.int (xs (x3 + 1).toNatClampNeg), .int (xs (x3 + 2).toNatClampNeg)]) (rest := []) ⟨hx, hb, hml, hown, hts⟩ (c_X8_notice l D q cI cJ cZ _ u (xs (x3 + 1).toNatClampNeg) (xs (x3 + 2).toNatClampNeg) _ hw) (cwV 2 hts gL_law_X8_notice rfl rfl rfl (by decide +kernel) ⟨Nat.le_of_ble_eq_true rfl, Nat.le_of_ble_eq_true rfl⟩) (pvM (va_recv hK hP1 (ci := 8) (q0 := 0) (q := (RX8, TX8, 8)) rfl rfl) hK hP1 hD1 hN) rfl rfl hl.1 rfl (lv_room (Nat.le_of_ble_eq_true rfl)) dL_law_717 ⟨Nat.le_of_ble_eq_true rfl, Nat.le_of_ble_eq_true rfl⟩) hA hP2 hD1 hD2 hS (fun r80 u81 H locs hw hP1 hP2 hD1 hS => ?_)
        refine lv_aload_n hx hb dL_law_720 rfl (lv_at hl 2 rfl) ?_
        refine lv_aload_n hx hb dL_law_721 rfl (lv_at hl 0 rfl) ?_
        refine lv_iload_n hx hb dL_law_722 rfl (lv_at hl 3 rfl) ?_
        refine lv_iconst (v := 1) hx hb dL_law_723 (by decide) ?_
        refine lv_iadd hx hb dL_law_724 ?_
        obtain ⟨hin, hw⟩ := hw
        refine va_sld hx hb hX hbl hbA hS hin dL_law_725 ?_
        refine lv_aload_n hx hb dL_law_726 rfl (lv_at hl 0 rfl) ?_
        refine lv_iload_n hx hb dL_law_727 rfl (lv_at hl 3 rfl) ?_
        refine lv_iconst (v := 2) hx hb dL_law_728 (by decide) ?_
        refine lv_iadd hx hb dL_law_729 ?_
        obtain ⟨hin, hw⟩ := hw
        refine va_sld hx hb hX hbl hbA hS hin dL_law_730 ?_
        refine lawi (w1 := wM q2 cI cJ cZ) (w2 := wX q cI cJ cZ) (sh_wM q2 cI cJ cZ) hjd (u1 := v) (u2 := u81) (va_runV (As := [.int (xs (x3 + 1).toNatClampNeg), .int (xs (x3 + 2).toNatClampNeg)]) (rest := [.int r80]) ⟨hx, hb, hml, hown, hts⟩ (c_X9_notice l D q2 cI cJ cZ _ v (xs (x3 + 1).toNatClampNeg) (xs (x3 + 2).toNatClampNeg) _ hw) (cwV 2 hts gL_law_X9_notice rfl rfl rfl (by decide +kernel) ⟨Nat.le_of_ble_eq_true rfl, Nat.le_of_ble_eq_true rfl⟩) (pvM (va_recv hK hP2 (ci := 9) (q0 := 0) (q := (RX9, TX9, 30)) rfl rfl) hK hP2 hD2 hN) rfl rfl hl.1 rfl (lv_room (Nat.le_of_ble_eq_true rfl)) dL_law_731 ⟨Nat.le_of_ble_eq_true rfl, Nat.le_of_ble_eq_true rfl⟩) hA hP1 hD2 hD1 hS (fun r82 v83 H locs hw hP2 hP1 hD2 hS => ?_)
        refine lv_icmp_eq (tgt := 838) hx hb dL_law_734 (by decide) (fun hc => ?_) (fun hc => ?_)
        · have hw := hw.1 hc
          obtain ⟨y84, ey84⟩ : ∃ z : Int32, z = x3 + 6 := ⟨_, rfl⟩
          have hw := hw y84 ey84
          refine lv_iinc (v := y84) (lv' := [(3, .int y84), (0, .ref b), (1, .ref (q 0)), (2, .ref (q2 0))]) hx hb dL_law_838 hl (k := 3) rfl (by rw [ey84]; rfl) (by decide) rfl (fun ls hl => ?_)
          refine lv_goto (tgt := 18) hx hb dL_law_841 (by decide) ?_
          exact ih y84 u81 v83 _ _ hw hP1 hP2 hD1 hD2 hS ls (lv_sub hl [1, 2, 3, 0] rfl)
        · have hw := hw.2 hc
          refine lv_iconst (v := 0) hx hb dL_law_737 (by decide) ?_
          exact hw.elim
      by_cases hc17 : y1 = 17
      · have hw := hw.2.2.2.2.2.2.2.2.2.2.2.2.2.2.2.2.2.1 hc17
        refine lv_tableIn (tgt := 739) hx hb dL_law_33 (by rw [hc17]; decide) (by rw [hc17]; decide) (by rw [hc17]; rfl) (by decide) ?_
        refine lv_aload_n hx hb dL_law_739 rfl (lv_at hl 1 rfl) ?_
        refine lv_aload_n hx hb dL_law_740 rfl (lv_at hl 0 rfl) ?_
        refine lv_iload_n hx hb dL_law_741 rfl (lv_at hl 3 rfl) ?_
        refine lv_iconst (v := 1) hx hb dL_law_742 (by decide) ?_
        refine lv_iadd hx hb dL_law_743 ?_
        obtain ⟨hin, hw⟩ := hw
        refine va_sld hx hb hX hbl hbA hS hin dL_law_744 ?_
        refine lv_aload_n hx hb dL_law_745 rfl (lv_at hl 0 rfl) ?_
        refine lv_iload_n hx hb dL_law_746 rfl (lv_at hl 3 rfl) ?_
        refine lv_iconst (v := 2) hx hb dL_law_747 (by decide) ?_
        refine lv_iadd hx hb dL_law_748 ?_
        obtain ⟨hin, hw⟩ := hw
        refine va_sld hx hb hX hbl hbA hS hin dL_law_749 ?_
        refine lv_aload_n hx hb dL_law_750 rfl (lv_at hl 0 rfl) ?_
        refine lv_iload_n hx hb dL_law_751 rfl (lv_at hl 3 rfl) ?_
        refine lv_iconst (v := 3) hx hb dL_law_752 (by decide) ?_
        refine lv_iadd hx hb dL_law_753 ?_
        obtain ⟨hin, hw⟩ := hw
        refine va_sld hx hb hX hbl hbA hS hin dL_law_754 ?_
        refine lawi (w1 := wX q cI cJ cZ) (w2 := wM q2 cI cJ cZ) (sh_wX q cI cJ cZ) hdj (u1 := u) (u2 := v) (va_runV (As := [.int (xs (x3 + 1).toNatClampNeg), .int (xs (x3 + 2).toNatClampNeg), .int (xs (x3 + 3).toNatClampNeg)]) (rest := []) ⟨hx, hb, hml, hown, hts⟩ (c_X8_differ l D q cI cJ cZ _ u (xs (x3 + 1).toNatClampNeg) (xs (x3 + 2).toNatClampNeg) (xs (x3 + 3).toNatClampNeg) _ hw) (cwV 3 hts gL_law_X8_differ rfl rfl rfl (by decide +kernel) ⟨Nat.le_of_ble_eq_true rfl, Nat.le_of_ble_eq_true rfl⟩) (pvM (va_recv hK hP1 (ci := 8) (q0 := 0) (q := (RX8, TX8, 8)) rfl rfl) hK hP1 hD1 hN) rfl rfl hl.1 rfl (lv_room (Nat.le_of_ble_eq_true rfl)) dL_law_755 ⟨Nat.le_of_ble_eq_true rfl, Nat.le_of_ble_eq_true rfl⟩) hA hP2 hD1 hD2 hS (fun r85 u86 H locs hw hP1 hP2 hD1 hS => ?_)
        refine lv_aload_n hx hb dL_law_758 rfl (lv_at hl 2 rfl) ?_
        refine lv_aload_n hx hb dL_law_759 rfl (lv_at hl 0 rfl) ?_
        refine lv_iload_n hx hb dL_law_760 rfl (lv_at hl 3 rfl) ?_
        refine lv_iconst (v := 1) hx hb dL_law_761 (by decide) ?_
        refine lv_iadd hx hb dL_law_762 ?_
        obtain ⟨hin, hw⟩ := hw
        refine va_sld hx hb hX hbl hbA hS hin dL_law_763 ?_
        refine lv_aload_n hx hb dL_law_764 rfl (lv_at hl 0 rfl) ?_
        refine lv_iload_n hx hb dL_law_765 rfl (lv_at hl 3 rfl) ?_
        refine lv_iconst (v := 2) hx hb dL_law_766 (by decide) ?_
        refine lv_iadd hx hb dL_law_767 ?_
        obtain ⟨hin, hw⟩ := hw
        refine va_sld hx hb hX hbl hbA hS hin dL_law_768 ?_
        refine lv_aload_n hx hb dL_law_769 rfl (lv_at hl 0 rfl) ?_
        refine lv_iload_n hx hb dL_law_770 rfl (lv_at hl 3 rfl) ?_
        refine lv_iconst (v := 3) hx hb dL_law_771 (by decide) ?_
        refine lv_iadd hx hb dL_law_772 ?_
        obtain ⟨hin, hw⟩ := hw
        refine va_sld hx hb hX hbl hbA hS hin dL_law_773 ?_
        refine lawi (w1 := wM q2 cI cJ cZ) (w2 := wX q cI cJ cZ) (sh_wM q2 cI cJ cZ) hjd (u1 := v) (u2 := u86) (va_runV (As := [.int (xs (x3 + 1).toNatClampNeg), .int (xs (x3 + 2).toNatClampNeg), .int (xs (x3 + 3).toNatClampNeg)]) (rest := [.int r85]) ⟨hx, hb, hml, hown, hts⟩ (c_X9_differ l D q2 cI cJ cZ _ v (xs (x3 + 1).toNatClampNeg) (xs (x3 + 2).toNatClampNeg) (xs (x3 + 3).toNatClampNeg) _ hw) (cwV 3 hts gL_law_X9_differ rfl rfl rfl (by decide +kernel) ⟨Nat.le_of_ble_eq_true rfl, Nat.le_of_ble_eq_true rfl⟩) (pvM (va_recv hK hP2 (ci := 9) (q0 := 0) (q := (RX9, TX9, 30)) rfl rfl) hK hP2 hD2 hN) rfl rfl hl.1 rfl (lv_room (Nat.le_of_ble_eq_true rfl)) dL_law_774 ⟨Nat.le_of_ble_eq_true rfl, Nat.le_of_ble_eq_true rfl⟩) hA hP1 hD2 hD1 hS (fun r87 v88 H locs hw hP2 hP1 hD2 hS => ?_)
        refine lv_icmp_eq (tgt := 838) hx hb dL_law_777 (by decide) (fun hc => ?_) (fun hc => ?_)
        · have hw := hw.1 hc
          obtain ⟨y89, ey89⟩ : ∃ z : Int32, z = x3 + 6 := ⟨_, rfl⟩
          have hw := hw y89 ey89
          refine lv_iinc (v := y89) (lv' := [(3, .int y89), (0, .ref b), (1, .ref (q 0)), (2, .ref (q2 0))]) hx hb dL_law_838 hl (k := 3) rfl (by rw [ey89]; rfl) (by decide) rfl (fun ls hl => ?_)
          refine lv_goto (tgt := 18) hx hb dL_law_841 (by decide) ?_
          exact ih y89 u86 v88 _ _ hw hP1 hP2 hD1 hD2 hS ls (lv_sub hl [1, 2, 3, 0] rfl)
        · have hw := hw.2 hc
          refine lv_iconst (v := 0) hx hb dL_law_780 (by decide) ?_
          exact hw.elim
      by_cases hc18 : y1 = 18
      · have hw := hw.2.2.2.2.2.2.2.2.2.2.2.2.2.2.2.2.2.2.1 hc18
        refine lv_tableIn (tgt := 782) hx hb dL_law_33 (by rw [hc18]; decide) (by rw [hc18]; decide) (by rw [hc18]; rfl) (by decide) ?_
        refine lv_aload_n hx hb dL_law_782 rfl (lv_at hl 1 rfl) ?_
        refine lv_aload_n hx hb dL_law_783 rfl (lv_at hl 0 rfl) ?_
        refine lv_iload_n hx hb dL_law_784 rfl (lv_at hl 3 rfl) ?_
        refine lv_iconst (v := 1) hx hb dL_law_785 (by decide) ?_
        refine lv_iadd hx hb dL_law_786 ?_
        obtain ⟨hin, hw⟩ := hw
        refine va_sld hx hb hX hbl hbA hS hin dL_law_787 ?_
        refine lv_aload_n hx hb dL_law_788 rfl (lv_at hl 0 rfl) ?_
        refine lv_iload_n hx hb dL_law_789 rfl (lv_at hl 3 rfl) ?_
        refine lv_iconst (v := 2) hx hb dL_law_790 (by decide) ?_
        refine lv_iadd hx hb dL_law_791 ?_
        obtain ⟨hin, hw⟩ := hw
        refine va_sld hx hb hX hbl hbA hS hin dL_law_792 ?_
        refine vp_callSi (va_Run.run (va_runV (As := [.int (xs (x3 + 1).toNatClampNeg), .int (xs (x3 + 2).toNatClampNeg)]) (rest := []) ⟨hx, hb, hml, hown, hts⟩ (c_X8_look l D q cI cJ cZ u (xs (x3 + 1).toNatClampNeg) (xs (x3 + 2).toNatClampNeg) _ hw) (cwV 2 hts gL_law_X8_look rfl rfl rfl (by decide +kernel) ⟨Nat.le_of_ble_eq_true rfl, Nat.le_of_ble_eq_true rfl⟩) (pvR (va_recv hK hP1 (ci := 8) (q0 := 0) (q := (RX8, TX8, 8)) rfl rfl) hK hP1 hN) rfl rfl hl.1 rfl (lv_room (Nat.le_of_ble_eq_true rfl)) dL_law_793 ⟨Nat.le_of_ble_eq_true rfl, Nat.le_of_ble_eq_true rfl⟩)) (fun r90 hw => ?_)
        refine lv_aload_n hx hb dL_law_796 rfl (lv_at hl 2 rfl) ?_
        refine lv_aload_n hx hb dL_law_797 rfl (lv_at hl 0 rfl) ?_
        refine lv_iload_n hx hb dL_law_798 rfl (lv_at hl 3 rfl) ?_
        refine lv_iconst (v := 1) hx hb dL_law_799 (by decide) ?_
        refine lv_iadd hx hb dL_law_800 ?_
        obtain ⟨hin, hw⟩ := hw
        refine va_sld hx hb hX hbl hbA hS hin dL_law_801 ?_
        refine lv_aload_n hx hb dL_law_802 rfl (lv_at hl 0 rfl) ?_
        refine lv_iload_n hx hb dL_law_803 rfl (lv_at hl 3 rfl) ?_
        refine lv_iconst (v := 2) hx hb dL_law_804 (by decide) ?_
        refine lv_iadd hx hb dL_law_805 ?_
        obtain ⟨hin, hw⟩ := hw
        refine va_sld hx hb hX hbl hbA hS hin dL_law_806 ?_
        refine lawi (w1 := wM q2 cI cJ cZ) (w2 := wX q cI cJ cZ) (sh_wM q2 cI cJ cZ) hjd (u1 := v) (u2 := u) (va_runV (As := [.int (xs (x3 + 1).toNatClampNeg), .int (xs (x3 + 2).toNatClampNeg)]) (rest := [.int r90]) ⟨hx, hb, hml, hown, hts⟩ (c_X9_look l D q2 cI cJ cZ _ v (xs (x3 + 1).toNatClampNeg) (xs (x3 + 2).toNatClampNeg) _ hw) (cwV 2 hts gL_law_X9_look rfl rfl rfl (by decide +kernel) ⟨Nat.le_of_ble_eq_true rfl, Nat.le_of_ble_eq_true rfl⟩) (pvM (va_recv hK hP2 (ci := 9) (q0 := 0) (q := (RX9, TX9, 30)) rfl rfl) hK hP2 hD2 hN) rfl rfl hl.1 rfl (lv_room (Nat.le_of_ble_eq_true rfl)) dL_law_807 ⟨Nat.le_of_ble_eq_true rfl, Nat.le_of_ble_eq_true rfl⟩) hA hP1 hD2 hD1 hS (fun r91 v92 H locs hw hP2 hP1 hD2 hS => ?_)
        refine lv_icmp_eq (tgt := 838) hx hb dL_law_810 (by decide) (fun hc => ?_) (fun hc => ?_)
        · have hw := hw.1 hc
          obtain ⟨y93, ey93⟩ : ∃ z : Int32, z = x3 + 6 := ⟨_, rfl⟩
          have hw := hw y93 ey93
          refine lv_iinc (v := y93) (lv' := [(3, .int y93), (0, .ref b), (1, .ref (q 0)), (2, .ref (q2 0))]) hx hb dL_law_838 hl (k := 3) rfl (by rw [ey93]; rfl) (by decide) rfl (fun ls hl => ?_)
          refine lv_goto (tgt := 18) hx hb dL_law_841 (by decide) ?_
          exact ih y93 u v92 _ _ hw hP1 hP2 hD1 hD2 hS ls (lv_sub hl [1, 2, 3, 0] rfl)
        · have hw := hw.2 hc
          refine lv_iconst (v := 0) hx hb dL_law_813 (by decide) ?_
          exact hw.elim
      by_cases hc19 : y1 = 19
      · have hw := hw.2.2.2.2.2.2.2.2.2.2.2.2.2.2.2.2.2.2.2.1 hc19
        refine lv_tableIn (tgt := 815) hx hb dL_law_33 (by rw [hc19]; decide) (by rw [hc19]; decide) (by rw [hc19]; rfl) (by decide) ?_
        refine lv_aload_n hx hb dL_law_815 rfl (lv_at hl 1 rfl) ?_
        refine lv_aload_n hx hb dL_law_816 rfl (lv_at hl 0 rfl) ?_
        refine lv_iload_n hx hb dL_law_817 rfl (lv_at hl 3 rfl) ?_
        refine lv_iconst (v := 1) hx hb dL_law_818 (by decide) ?_
        refine lv_iadd hx hb dL_law_819 ?_
        obtain ⟨hin, hw⟩ := hw
        refine va_sld hx hb hX hbl hbA hS hin dL_law_820 ?_
        refine vp_callSi (va_Run.run (va_runV (As := [.int (xs (x3 + 1).toNatClampNeg)]) (rest := []) ⟨hx, hb, hml, hown, hts⟩ (c_X8_count l D q cI cJ cZ u (xs (x3 + 1).toNatClampNeg) _ hw) (cwV 1 hts gL_law_X8_count rfl rfl rfl (by decide +kernel) ⟨Nat.le_of_ble_eq_true rfl, Nat.le_of_ble_eq_true rfl⟩) (pvR (va_recv hK hP1 (ci := 8) (q0 := 0) (q := (RX8, TX8, 8)) rfl rfl) hK hP1 hN) rfl rfl hl.1 rfl (lv_room (Nat.le_of_ble_eq_true rfl)) dL_law_821 ⟨Nat.le_of_ble_eq_true rfl, Nat.le_of_ble_eq_true rfl⟩)) (fun r94 hw => ?_)
        refine lv_aload_n hx hb dL_law_824 rfl (lv_at hl 2 rfl) ?_
        refine lv_aload_n hx hb dL_law_825 rfl (lv_at hl 0 rfl) ?_
        refine lv_iload_n hx hb dL_law_826 rfl (lv_at hl 3 rfl) ?_
        refine lv_iconst (v := 1) hx hb dL_law_827 (by decide) ?_
        refine lv_iadd hx hb dL_law_828 ?_
        obtain ⟨hin, hw⟩ := hw
        refine va_sld hx hb hX hbl hbA hS hin dL_law_829 ?_
        refine lawi (w1 := wM q2 cI cJ cZ) (w2 := wX q cI cJ cZ) (sh_wM q2 cI cJ cZ) hjd (u1 := v) (u2 := u) (va_runV (As := [.int (xs (x3 + 1).toNatClampNeg)]) (rest := [.int r94]) ⟨hx, hb, hml, hown, hts⟩ (c_X9_count l D q2 cI cJ cZ _ v (xs (x3 + 1).toNatClampNeg) _ hw) (cwV 1 hts gL_law_X9_count rfl rfl rfl (by decide +kernel) ⟨Nat.le_of_ble_eq_true rfl, Nat.le_of_ble_eq_true rfl⟩) (pvM (va_recv hK hP2 (ci := 9) (q0 := 0) (q := (RX9, TX9, 30)) rfl rfl) hK hP2 hD2 hN) rfl rfl hl.1 rfl (lv_room (Nat.le_of_ble_eq_true rfl)) dL_law_830 ⟨Nat.le_of_ble_eq_true rfl, Nat.le_of_ble_eq_true rfl⟩) hA hP1 hD2 hD1 hS (fun r95 v96 H locs hw hP2 hP1 hD2 hS => ?_)
        refine lv_icmp_eq (tgt := 838) hx hb dL_law_833 (by decide) (fun hc => ?_) (fun hc => ?_)
        · have hw := hw.1 hc
          obtain ⟨y97, ey97⟩ : ∃ z : Int32, z = x3 + 6 := ⟨_, rfl⟩
          have hw := hw y97 ey97
          refine lv_iinc (v := y97) (lv' := [(3, .int y97), (0, .ref b), (1, .ref (q 0)), (2, .ref (q2 0))]) hx hb dL_law_838 hl (k := 3) rfl (by rw [ey97]; rfl) (by decide) rfl (fun ls hl => ?_)
          refine lv_goto (tgt := 18) hx hb dL_law_841 (by decide) ?_
          exact ih y97 u v96 _ _ hw hP1 hP2 hD1 hD2 hS ls (lv_sub hl [1, 2, 3, 0] rfl)
        · have hw := hw.2 hc
          refine lv_iconst (v := 0) hx hb dL_law_836 (by decide) ?_
          exact hw.elim
      have hw := hw.2.2.2.2.2.2.2.2.2.2.2.2.2.2.2.2.2.2.2.2 hc0 hc1 hc2 hc3 hc4 hc5 hc6 hc7 hc8 hc9 hc10 hc11 hc12 hc13 hc14 hc15 hc16 hc17 hc18 hc19
      refine lv_tableOut (tgt := 838) hx hb dL_law_33 (sw_out 19 (fun k hk => by rcases (show k = 0 ∨ k = 1 ∨ k = 2 ∨ k = 3 ∨ k = 4 ∨ k = 5 ∨ k = 6 ∨ k = 7 ∨ k = 8 ∨ k = 9 ∨ k = 10 ∨ k = 11 ∨ k = 12 ∨ k = 13 ∨ k = 14 ∨ k = 15 ∨ k = 16 ∨ k = 17 ∨ k = 18 ∨ k = 19 by omega) with rfl | rfl | rfl | rfl | rfl | rfl | rfl | rfl | rfl | rfl | rfl | rfl | rfl | rfl | rfl | rfl | rfl | rfl | rfl | rfl <;> assumption)) (by decide) ?_
      obtain ⟨y98, ey98⟩ : ∃ z : Int32, z = x3 + 6 := ⟨_, rfl⟩
      have hw := hw y98 ey98
      refine lv_iinc (v := y98) (lv' := [(3, .int y98), (0, .ref b), (1, .ref (q 0)), (2, .ref (q2 0))]) hx hb dL_law_838 hl (k := 3) rfl (by rw [ey98]; rfl) (by decide) rfl (fun ls hl => ?_)
      refine lv_goto (tgt := 18) hx hb dL_law_841 (by decide) ?_
      exact ih y98 u v _ _ hw hP1 hP2 hD1 hD2 hS ls (lv_sub hl [1, 2, 3, 0] rfl)
