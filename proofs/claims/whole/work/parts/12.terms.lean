/-! ===== worlds: reading behind a write ===== -/
theorem uJ_uJ (u : WU) (k : Nat) (f g : Nat → Int64) : uJ (uJ u k f) k g = uJ u k g := by
  show (u.1, va_up (va_up u.2 k f) k g) = (u.1, va_up u.2 k g)
  rw [bx_uu]
theorem uI_uI (u : WU) (k : Nat) (f g : Nat → Int32) : uI (uI u k f) k g = uI u k g := by
  show (va_up (va_up u.1 k f) k g, u.2) = (va_up u.1 k g, u.2)
  rw [bx_uu]
theorem uJ_s (u : WU) (k : Nat) (f : Nat → Int64) : (uJ u k f).2 k = f := va_up_self _ _ _
theorem uI_s (u : WU) (k : Nat) (f : Nat → Int32) : (uI u k f).1 k = f := va_up_self _ _ _
theorem uJ_self (u : WU) (k : Nat) : uJ u k (u.2 k) = u := by
  show (u.1, va_up u.2 k (u.2 k)) = u
  have : va_up u.2 k (u.2 k) = u.2 := by funext j; unfold va_up; by_cases h : j = k <;> simp [h]
  rw [this]
theorem uI_self (u : WU) (k : Nat) : uI u k (u.1 k) = u := by
  show (va_up u.1 k (u.1 k), u.2) = u
  have : va_up u.1 k (u.1 k) = u.1 := by funext j; unfold va_up; by_cases h : j = k <;> simp [h]
  rw [this]
theorem updL_s (f : Nat → Int64) (k : Nat) (x : Int64) : vp_updL f k x k = x := by simp [vp_updL]
theorem updL_n {f : Nat → Int64} {k j : Nat} {x : Int64} (h : j ≠ k) : vp_updL f k x j = f j := by simp [vp_updL, h]
/-! ===== Terms.spread ===== -/
def spr (pair : Nat) (bits : Int32) (f g : Nat → Int64) (m : Nat) : Prop := (∀ i, i < m → ∀ n, n < 64 → tb (g i) n = if n = pair then ti bits i else tb (f i) n) ∧ ∀ i, m ≤ i → g i = f i
theorem spr_step {pair : Nat} {bits : Int32} {f g : Nat → Int64} {m : Nat} (hp : pair < 64) (h : spr pair bits f g m) {x : Int64} (hx : ∀ n, n < 64 → tb x n = if n = pair then ti bits m else tb (g m) n) : spr pair bits f (vp_updL g m x) (m + 1) := by
  refine ⟨fun i hi n hn => ?_, fun i hi => ?_⟩
  · by_cases e : i = m
    · subst e; rw [updL_s, hx n hn, h.2 i (Nat.le_refl _)]
    · rw [updL_n e]; exact h.1 i (by omega) n hn
  · rw [updL_n (by omega)]; exact h.2 i (by omega)
theorem spr_x1 {pair : Nat} (hp : pair < 64) (y : Int64) {n : Nat} (hn : n < 64) : tb ((y &&& (jshl 1 (nI pair) ^^^ (-1))) ||| jshl 1 (nI pair)) n = if n = pair then true else tb y n := by
  rw [tb_or, tb_and, tb_not _ hn, tb_bit hp hn]
  by_cases e : n = pair <;> simp [e]
theorem spr_x0 {pair : Nat} (hp : pair < 64) (y : Int64) {n : Nat} (hn : n < 64) : tb (y &&& (jshl 1 (nI pair) ^^^ (-1))) n = if n = pair then false else tb y n := by
  rw [tb_and, tb_not _ hn, tb_bit hp hn]
  by_cases e : n = pair <;> simp [e]
theorem p_spread9 {pair : Nat} {bits : Int32} {u : WU} {post : WU → Prop} (hp : pair < 64) (h : ∀ g, spr pair bits (u.2 0) g 4 → post (uJ u 0 g)) : wp_X6_spread_c9 (nI pair) bits u post := by
  unfold wp_X6_spread_c9
  refine loop_0 (W := fun n i s => wp_X6_spread_c9_L2 (nI pair) bits post n (nI i) s) (I := fun i s => ∃ g, s = uJ u 0 g ∧ spr pair bits (u.2 0) g i) 4 u ⟨u.2 0, (uJ_self u 0).symm, ⟨fun i hi => absurd hi (Nat.not_lt_zero _), fun _ _ => rfl⟩⟩ ?_ ?_
  · rintro n s ⟨g, rfl, hg⟩
    exact ⟨fun _ => h g hg, fun hc => absurd (by decide : (4 : Int32) ≤ nI 4) hc⟩
  · rintro n i s hi ⟨g, rfl, hg⟩ ih
    have hin : vp_in (nI i) 4 := vp_in_nI hi (by decide)
    have hcl : (nI i).toNatClampNeg = i := nI_clamp (by omega)
    refine ⟨fun hc => absurd hc (nI_ge (a := i) (b := 4) hi (by decide)), fun _ => ⟨hin, fun y hy => ?_⟩⟩
    rw [uJ_s, hcl] at hy
    refine h_holds _ (by omega) ?_
    rw [tb_i2l _ (by omega)]
    cases hb : ti bits i with
    | false =>
      refine br0 ⟨hin, fun u7 hu7 y8 hy8 => ?_⟩
      rw [hy8, nI_1]
      refine ih _ ⟨_, by rw [hu7, uJ_uJ, uJ_s, hcl], spr_step hp hg (fun n hn => ?_)⟩
      rw [hy, spr_x0 hp _ hn, hb]
    | true =>
      refine br1 ⟨hin, fun u7 hu7 y8 hy8 => ?_⟩
      rw [hy8, nI_1]
      refine ih _ ⟨_, by rw [hu7, uJ_uJ, uJ_s, hcl], spr_step hp hg (fun n hn => ?_)⟩
      rw [hy, spr_x1 hp _ hn, hb]
theorem p_spread10 {pair : Nat} {bits : Int32} {u : WU} {post : WU → Prop} (hp : pair < 64) (h : ∀ g, spr pair bits (u.2 1) g 4 → post (uJ u 1 g)) : wp_X6_spread_c10 (nI pair) bits u post := by
  unfold wp_X6_spread_c10
  refine loop_0 (W := fun n i s => wp_X6_spread_c10_L2 (nI pair) bits post n (nI i) s) (I := fun i s => ∃ g, s = uJ u 1 g ∧ spr pair bits (u.2 1) g i) 4 u ⟨u.2 1, (uJ_self u 1).symm, ⟨fun i hi => absurd hi (Nat.not_lt_zero _), fun _ _ => rfl⟩⟩ ?_ ?_
  · rintro n s ⟨g, rfl, hg⟩
    exact ⟨fun _ => h g hg, fun hc => absurd (by decide : (4 : Int32) ≤ nI 4) hc⟩
  · rintro n i s hi ⟨g, rfl, hg⟩ ih
    have hin : vp_in (nI i) 4 := vp_in_nI hi (by decide)
    have hcl : (nI i).toNatClampNeg = i := nI_clamp (by omega)
    refine ⟨fun hc => absurd hc (nI_ge (a := i) (b := 4) hi (by decide)), fun _ => ⟨hin, fun y hy => ?_⟩⟩
    rw [uJ_s, hcl] at hy
    refine h_holds _ (by omega) ?_
    rw [tb_i2l _ (by omega)]
    cases hb : ti bits i with
    | false =>
      refine br0 ⟨hin, fun u7 hu7 y8 hy8 => ?_⟩
      rw [hy8, nI_1]
      refine ih _ ⟨_, by rw [hu7, uJ_uJ, uJ_s, hcl], spr_step hp hg (fun n hn => ?_)⟩
      rw [hy, spr_x0 hp _ hn, hb]
    | true =>
      refine br1 ⟨hin, fun u7 hu7 y8 hy8 => ?_⟩
      rw [hy8, nI_1]
      refine ih _ ⟨_, by rw [hu7, uJ_uJ, uJ_s, hcl], spr_step hp hg (fun n hn => ?_)⟩
      rw [hy, spr_x1 hp _ hn, hb]
theorem p_tellAsk {pair : Nat} {sh kn : Int32} {u : WU} {post : WU → Prop} (hp : pair < 64) (h : ∀ g k, spr pair sh (u.2 0) g 4 → spr pair kn (u.2 1) k 4 → post (uJ (uJ u 0 g) 1 k)) : wp_X6_tellAsk (nI pair) sh kn u post := by
  unfold wp_X6_tellAsk
  refine p_spread9 hp fun g hg => p_spread10 hp fun k hk => h g k hg hk
/-! ===== the reference's asks ===== -/
def aspr (l d : Nat) (sh : Int32) (f g : Nat → Int32) (m : Nat) : Prop := (∀ i, i < m → ∀ n, n < 32 → ti (g (4 * l + i)) n = if n = d then ti sh i else ti (f (4 * l + i)) n) ∧ ∀ j, (∀ i, i < m → j ≠ 4 * l + i) → g j = f j
theorem aspr_step {l d : Nat} {sh : Int32} {f g : Nat → Int32} {m : Nat} (h : aspr l d sh f g m) {x : Int32} (hx : ∀ n, n < 32 → ti x n = if n = d then ti sh m else ti (g (4 * l + m)) n) : aspr l d sh f (upd g (4 * l + m) x) (m + 1) := by
  refine ⟨fun i hi n hn => ?_, fun j hj => ?_⟩
  · by_cases e : i = m
    · subst e; rw [pk_us, hx n hn, h.2 (4 * l + i) (fun k hk => by omega)]
    · rw [pk_un (by omega)]; exact h.1 i (by omega) n hn
  · rw [pk_un (hj m (by omega))]; exact h.2 j (fun i hi => hj i (by omega))
theorem ix_1 (x : Int32) {i : Nat} (hi : i < 32) : (x >>> (nI i &&& 31)) &&& 1 = 1 ↔ ti x i = true := by
  rw [ti_and1', ti_shr x hi (by omega)]; rfl
theorem ix_0 (x : Int32) {i : Nat} (hi : i < 32) : (x >>> (nI i &&& 31)) &&& 1 = 0 ↔ ti x i = false := by
  rw [ti_and1, ti_shr x hi (by omega)]; rfl
theorem as_x1 {d : Nat} (hd : d < 32) (y : Int32) {n : Nat} (hn : n < 32) : ti ((y &&& (((1 : Int32) <<< (nI d &&& 31)) ^^^ (-1))) ||| ((1 : Int32) <<< (nI d &&& 31))) n = if n = d then true else ti y n := by
  rw [ti_or, ti_and, ti_not _ hn, ti_bit hd hn]
  by_cases e : n = d <;> simp [e]
theorem as_x0 {d : Nat} (hd : d < 32) (y : Int32) {n : Nat} (hn : n < 32) : ti (y &&& ((1 <<< (nI d &&& 31)) ^^^ (-1))) n = if n = d then false else ti y n := by
  rw [ti_and, ti_not _ hn, ti_bit hd hn]
  by_cases e : n = d <;> simp [e]
theorem four_n (l i : Nat) : 4 * nI l + nI i = nI (4 * l + i) := by
  have e : (4 : Int32) = nI 4 := rfl
  rw [e, pk_mul, nI_add]
theorem uIJ_1 (v : WU) (a b : Nat) (f : Nat → Int32) (g : Nat → Int64) : (uJ (uI v a f) b g).1 a = f := va_up_self _ _ _
theorem uIJ_2 (v : WU) (a b : Nat) (f : Nat → Int32) (g : Nat → Int64) : (uJ (uI v a f) b g).2 b = g := va_up_self _ _ _
theorem uIJ_i (v : WU) (a b : Nat) (f f' : Nat → Int32) (g : Nat → Int64) : uI (uJ (uI v a f) b g) a f' = uJ (uI v a f') b g := by
  show (va_up (va_up v.1 a f) a f', _) = (va_up v.1 a f', _)
  rw [bx_uu]
  rfl
theorem uIJ_j (v : WU) (a b : Nat) (f : Nat → Int32) (g g' : Nat → Int64) : uJ (uJ (uI v a f) b g) b g' = uJ (uI v a f) b g' := uJ_uJ _ _ _ _
theorem p_masks95 {l d i : Nat} {kn : Int32} {x3 : Int32} {v : WU} {g : Nat → Int32} {k : Nat → Int64} {post : Int32 → WU → Prop} {K : Int32 → WU → Prop} (hl : l < 8) (hd : d < 8) (hi : i < 4) {f : Nat → Int64} (hk : spr (8 * l + d) kn f k i) (h : ∀ k', spr (8 * l + d) kn f k' (i + 1) → K (nI (i + 1)) (uJ (uI v 0 g) 0 k')) : wp_X9_asks_J95 (nI l) (nI d) x3 kn (nI i) (uJ (uI v 0 g) 0 k) post K := by
  have hin : vp_in (nI i) 4 := vp_in_nI hi (by decide)
  have hcl : (nI i).toNatClampNeg = i := nI_clamp (by omega)
  have hp : 8 * l + d < 64 := by omega
  unfold wp_X9_asks_J95 wp_X9_bit
  refine ⟨hin, hin, fun u8 hu8 => ?_⟩
  rw [bit_n, hcl, uIJ_2, uIJ_j] at hu8
  subst hu8
  unfold wp_X9_asks_J140
  refine ⟨fun hc => fun y hy => ?_, fun hc => ⟨hin, hin, fun u12 hu12 => fun y hy => ?_⟩⟩
  · rw [hy, nI_1]
    have hb : ti kn i = false := by
      cases hb : ti kn i with
      | false => rfl
      | true => exact absurd ((ix_1 kn (by omega)).mpr hb) hc
    exact h _ (spr_step hp hk (fun n hn => by rw [spr_x0 hp _ hn, hb]))
  · rw [hy, nI_1, hu12, bit_n, hcl, uIJ_2, uIJ_j, updL_s]
    have e : vp_updL (vp_updL k i (k i &&& (jshl 1 (nI (8 * l + d)) ^^^ (-1)))) i ((k i &&& (jshl 1 (nI (8 * l + d)) ^^^ (-1))) ||| jshl 1 (nI (8 * l + d))) = vp_updL k i ((k i &&& (jshl 1 (nI (8 * l + d)) ^^^ (-1))) ||| jshl 1 (nI (8 * l + d))) := by
      funext j; unfold vp_updL; by_cases e : j = i <;> simp [e]
    rw [e]
    exact h _ (spr_step hp hk (fun n hn => by rw [spr_x1 hp _ hn, (ix_1 kn (by omega)).mp hc]))
theorem p_masks {l d : Nat} {sh kn : Int32} {v : WU} {post : Int32 → WU → Prop} (hl : l < 8) (hd : d < 8) (h : ∀ g k, aspr l d sh (v.1 0) g 4 → spr (8 * l + d) kn (v.2 0) k 4 → post 1 (uJ (uI v 0 g) 0 k)) : ∃ nn, wp_X9_asks_L43 (nI l) (nI d) sh kn post nn 0 v := by
  refine loop_0 (W := fun n i s => wp_X9_asks_L43 (nI l) (nI d) sh kn post n (nI i) s) (I := fun i s => ∃ g k, s = uJ (uI v 0 g) 0 k ∧ aspr l d sh (v.1 0) g i ∧ spr (8 * l + d) kn (v.2 0) k i) 4 v ⟨v.1 0, v.2 0, by rw [uI_self, uJ_self], ⟨fun i hi => absurd hi (Nat.not_lt_zero _), fun _ _ => rfl⟩, ⟨fun i hi => absurd hi (Nat.not_lt_zero _), fun _ _ => rfl⟩⟩ ?_ ?_
  · rintro n s ⟨g, k, rfl, hg, hk⟩
    exact ⟨fun _ => h g k hg hk, fun hc => absurd (by decide : (4 : Int32) ≤ nI 4) hc⟩
  · rintro n i s hi ⟨g, k, rfl, hg, hk⟩ ih
    have hin : vp_in (4 * nI l + nI i) 32 := by rw [four_n]; exact vp_in_nI (by omega) (by decide)
    have hcl : (4 * nI l + nI i).toNatClampNeg = 4 * l + i := by rw [four_n]; exact nI_clamp (by omega)
    refine ⟨fun hc => absurd hc (nI_ge (a := i) (b := 4) hi (by decide)), fun _ => ⟨hin, hin, fun u1 hu1 => ?_⟩⟩
    rw [hcl, uIJ_1, uIJ_i] at hu1
    subst hu1
    refine ⟨fun hc => ?_, fun hc => ⟨hin, hin, fun u4 hu4 => ?_⟩⟩
    · have hb : ti sh i = false := by
        cases hb : ti sh i with
        | false => rfl
        | true => exact absurd ((ix_1 sh (by omega)).mpr hb) hc
      exact p_masks95 hl hd hi hk (fun k' hk' => ih _ ⟨_, k', rfl, aspr_step hg (fun n hn => by rw [as_x0 (by omega) _ hn, hb]), hk'⟩)
    · rw [hcl, uIJ_1, uIJ_i, pk_us] at hu4
      have e : upd (upd g (4 * l + i) (g (4 * l + i) &&& (((1 : Int32) <<< (nI d &&& 31)) ^^^ (-1)))) (4 * l + i) ((g (4 * l + i) &&& (((1 : Int32) <<< (nI d &&& 31)) ^^^ (-1))) ||| ((1 : Int32) <<< (nI d &&& 31))) = upd g (4 * l + i) ((g (4 * l + i) &&& (((1 : Int32) <<< (nI d &&& 31)) ^^^ (-1))) ||| ((1 : Int32) <<< (nI d &&& 31))) := by
        funext j; unfold upd; by_cases e : j = 4 * l + i <;> simp [e]
      rw [e] at hu4
      subst hu4
      exact p_masks95 hl hd hi hk (fun k' hk' => ih _ ⟨_, k', rfl, aspr_step hg (fun n hn => by rw [as_x1 (by omega) _ hn, (ix_1 sh (by omega)).mp hc]), hk'⟩)
/-! ===== Terms.tellBars ===== -/
theorem tb_byte {a : Nat} (ha : a < 256) {m : Nat} (hm : m < 64) : tb (nI a).toInt64 m = (decide (m < 8) && a.testBit m) := by
  rw [nI_l (by omega), tb_lN]
  by_cases h : m < 8
  · simp [h, hm]
  · have : a.testBit m = false := Nat.testBit_lt_two_pow (Nat.lt_of_lt_of_le ha (by
      have : (2 : Nat) ^ 8 ≤ 2 ^ m := Nat.pow_le_pow_right (by omega) (by omega)
      simpa using this))
    simp [this]
def brs (l i a : Nat) (x : Int64) : Prop := ∀ n, n < 64 → tb x n = (decide (n / 8 < i ∧ n / 8 ≠ l) && a.testBit (n % 8))
theorem brs_skip {l i a : Nat} {x : Int64} (h : brs l i a x) (e : i = l) : brs l (i + 1) a x := by
  intro n hn
  rw [h n hn]
  have : (n / 8 < i ∧ n / 8 ≠ l) ↔ (n / 8 < i + 1 ∧ n / 8 ≠ l) := by omega
  simp only [this]
theorem brs_add {l i a : Nat} {x : Int64} (ha : a < 256) (hi : i < 8) (h : brs l i a x) (e : i ≠ l) : brs l (i + 1) a (x ||| jshl (nI a).toInt64 (nI (8 * i))) := by
  intro n hn
  rw [tb_or, h n hn, tb_jshl _ (by omega) hn]
  by_cases h1 : 8 * i ≤ n
  · rw [tb_byte ha (by omega)]
    by_cases h2 : n - 8 * i < 8
    · have e1 : n / 8 = i := by omega
      have e2 : n % 8 = n - 8 * i := by omega
      simp [h1, h2, e1, e2, e]
    · have e1 : ¬ n / 8 < i := by omega
      have e2 : ¬ n / 8 < i + 1 := by omega
      simp [h2, e1, e2]
  · have e1 : n / 8 < i := by omega
    have e2 : n / 8 < i + 1 := by omega
    simp [h1, e1, e2]
theorem p_tellBars {l a : Nat} {u : WU} {post : WU → Prop} (hl : l < 8) (ha : a < 256) (h : ∀ x, brs l 8 a x → post (uJ u 2 (vp_updL (u.2 2) l x))) : wp_X6_tellBars (nI l) (nI a) u post := by
  unfold wp_X6_tellBars
  refine loop_0 (W := fun n i s => wp_X6_tellBars_L5 (nI l) (nI a) post n s (nI i) u) (I := fun i s => brs l i a s) 8 0 (fun n hn => by rw [tb_zero]; simp) ?_ ?_
  · intro n s hs
    refine ⟨fun _ => ⟨vp_in_nI hl (by decide), fun u1 hu1 => ?_⟩, fun hc => absurd (by decide : (8 : Int32) ≤ nI 8) hc⟩
    rw [hu1, nI_clamp (by omega)]
    exact h s hs
  · intro n i s hi hs ih
    refine ⟨fun hc => absurd hc (nI_ge (a := i) (b := 8) hi (by decide)), fun _ => ⟨fun hc => ?_, fun hc => ?_⟩⟩
    · have e : i = l := (nI_eq (by omega) (by omega)).mp hc
      intro y hy
      rw [hy, nI_1]
      exact ih s (brs_skip hs e)
    · have e : i ≠ l := fun q => hc (by rw [q])
      unfold wp_X8_pairOf
      intro y6 hy6 y hy
      rw [hy, nI_1]
      refine ih _ ?_
      have e0 : nI i * 8 + 0 = nI (8 * i) := by have := pairOf_n i 0; rw [nI_0] at this; rw [this, Nat.add_zero]
      rw [hy6, e0]
      exact brs_add ha hi hs e
