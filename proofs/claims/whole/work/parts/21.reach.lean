/-! ===== what is in a part: the least closed set ===== -/
def Clo (J : Nat) (fr to : Nat → Nat) (Lv S : Nat → Bool) : Prop := ∀ j, j < J → Lv j = true → S (to j) = true → S (fr j) = true
def Lst (J : Nat) (fr to : Nat → Nat) (Lv : Nat → Bool) (p : Nat) (S : Nat → Bool) : Prop := S p = true ∧ Clo J fr to Lv S ∧ ∀ T : Nat → Bool, T p = true → Clo J fr to Lv T → ∀ x, S x = true → T x = true
theorem Lst.one {J : Nat} {fr to : Nat → Nat} {Lv : Nat → Bool} {p : Nat} {S S' : Nat → Bool} (h : Lst J fr to Lv p S) (h' : Lst J fr to Lv p S') (x : Nat) : S x = S' x := by
  have a := h.2.2 S' h'.1 h'.2.1 x
  have b := h'.2.2 S h.1 h.2.1 x
  cases e1 : S x <;> cases e2 : S' x <;> simp_all
theorem Lst.cong {J : Nat} {fr to : Nat → Nat} {L1 L2 : Nat → Bool} {p : Nat} {S : Nat → Bool} (e : ∀ j, j < J → L1 j = L2 j) (h : Lst J fr to L1 p S) : Lst J fr to L2 p S := by
  refine ⟨h.1, fun j hj hl => h.2.1 j hj (by rw [e j hj]; exact hl), fun T hT hc => h.2.2 T hT fun j hj hl => hc j hj (by rw [← e j hj]; exact hl)⟩
theorem sub_m1 (x : Int32) : x + (-1) = x - 1 := by rw [Int32.sub_eq_add_neg]
theorem p_allIn46 {J : Nat} {fr to sd bg en : Nat → Nat} {u : WU} {lv : Int64} {up : Nat} {x4 x5 : Int32} {post : Int32 → Prop} {K : Int32 → Prop} (hJ : J ≤ 40) (hup : up < 24) (hf : ∀ j, j < J → u.1 3 j = nI (fr j) ∧ fr j < 24) (hS : SS J to sd bg en u) (hsub : ∀ j, j < J → tb lv j = true → tb (u.2 6 0) j = true)
    (h : ∀ y, (∀ n, ti x4 n = true → ti y n = true) → (∀ n, ti y n = true → ti x4 n = true ∨ ∃ j, j < J ∧ tb lv j = true ∧ to j = up ∧ fr j = n) → (∀ j, j < J → tb lv j = true → to j = up → ti y (fr j) = true) → K y) :
    ∃ nn, wp_X3_allIn_L46 lv x5 (nI up) u post K nn x4 (nI (bg up)) := by
  obtain ⟨s1, s2, s3, s4, s5, s6, s7⟩ := hS up hup
  have hcu : (nI up).toNatClampNeg = up := nI_clamp (by omega)
  have hinu : vp_in (nI up) 24 := vp_in_nI hup (by decide)
  refine pk_loop (W := fun n i s => wp_X3_allIn_L46 lv x5 (nI up) u post K n s (nI i)) (I := fun i s => bg up ≤ i ∧ (∀ n, ti x4 n = true → ti s n = true) ∧ (∀ n, ti s n = true → ti x4 n = true ∨ ∃ j, j < J ∧ tb lv j = true ∧ to j = up ∧ fr j = n) ∧ (∀ k, bg up ≤ k → k < i → tb lv (sd k) = true → ti s (fr (sd k)) = true)) (en up) (bg up) x4 s3 ⟨Nat.le_refl _, fun _ h => h, fun _ h => Or.inl h, fun k h1 h2 => by omega⟩ ?_ ?_
  · rintro n s ⟨-, i1, i2, i3⟩
    refine ⟨hinu, fun _ => h s i1 i2 fun j hj hl hto => ?_, fun hc => absurd (by rw [hcu, s2]; exact Int32.le_refl _) hc⟩
    obtain ⟨i, h1, h2, h3⟩ := s7 j hj (hsub j hj hl) hto
    have := i3 i h1 h2 (by rw [h3]; exact hl)
    rw [h3] at this; exact this
  · rintro n i s hi ⟨hbi, i1, i2, i3⟩ ih
    · obtain ⟨a1, a2, a3, a4⟩ := s6 i hbi hi
      have hci : (nI i).toNatClampNeg = i := nI_clamp (by omega)
      refine ⟨hinu, fun hc => absurd (by rw [hcu, s2] at hc; exact hc) (nI_ge (a := i) (b := en up) hi (by omega)), fun _ => ⟨vp_in_nI (by omega) (by decide), fun y9 hy9 => ?_⟩⟩
      rw [hci, a1] at hy9
      subst hy9
      refine h_holds _ (by omega) ?_
      cases hb : tb lv (sd i) with
      | false =>
        refine br0 fun y hy => ?_
        rw [hy, nI_1]
        refine ih s ⟨by omega, i1, i2, fun k h1 h2 hl => ?_⟩
        by_cases ek : k = i
        · subst ek; rw [hb] at hl; exact absurd hl (by decide)
        · exact i3 k h1 (by omega) hl
      | true =>
        have hcs : (nI (sd i)).toNatClampNeg = sd i := nI_clamp (by omega)
        obtain ⟨f1, f2⟩ := hf (sd i) a2
        refine br1 ⟨vp_in_nI (by omega) (by decide), fun y13 hy13 y hy => ?_⟩
        rw [hcs, f1] at hy13
        have hbit : ∀ n, ti y13 n = (ti s n || decide (n = fr (sd i))) := by
          intro n
          rw [hy13, ti_or]
          rcases Nat.lt_or_ge n 32 with q | q
          · rw [ti_bit (by omega) q]
          · rw [ti_ge q, ti_ge q]
            have : ¬ n = fr (sd i) := by omega
            simp [this]
        rw [hy, nI_1]
        refine ih y13 ⟨by omega, fun n hn => by rw [hbit, i1 n hn]; rfl, fun n hn => ?_, fun k h1 h2 hl => ?_⟩
        · rw [hbit] at hn
          by_cases en1 : n = fr (sd i)
          · exact Or.inr ⟨sd i, a2, hb, a4, en1.symm⟩
          · simp [en1] at hn; exact i2 n hn
        · rw [hbit]
          by_cases ek : k = i
          · subst ek; simp
          · rw [i3 k h1 (by omega) hl]; rfl
theorem p_allIn {J p : Nat} {fr to ord pos sd bg en : Nat → Nat} {u : WU} {lv : Int64} {post : Int32 → Prop} (hJ : J ≤ 40) (hp : p < 24) (hf : ∀ j, j < J → u.1 3 j = nI (fr j) ∧ fr j < 24 ∧ to j < 24) (hO : OS J fr to ord pos u) (hS : SS J to sd bg en u) (hsub : ∀ j, j < J → tb lv j = true → tb (u.2 6 0) j = true)
    (h : ∀ r, Lst J fr to (tb lv) p (ti r) → (∀ n, 24 ≤ n → ti r n = false) → post r) : wp_X3_allIn (nI p) lv u post := by
  obtain ⟨o1, o2, o3⟩ := hO
  intro y18 hy18
  have h0 : ∀ n, n < 32 → ti y18 n = decide (n = p) := fun n hn => by rw [hy18]; exact ti_bit (by omega) hn
  refine loop_0 (W := fun n i s => wp_X3_allIn_L9 lv u post n s (nI (24 - i) - 1)) (I := fun i s => ti s p = true ∧ (∀ n, 24 ≤ n → ti s n = false) ∧ (∀ T : Nat → Bool, T p = true → Clo J fr to (tb lv) T → ∀ x, ti s x = true → T x = true) ∧ (∀ j, j < J → tb lv j = true → ti s (to j) = true → 24 - i ≤ pos (to j) → ti s (fr j) = true)) 24 y18 ⟨by rw [h0 p (by omega)]; simp, fun n hn => ?_, fun T hT _ x hx => ?_, fun j hj _ _ hpos => ?_⟩ ?_ ?_
  · rcases Nat.lt_or_ge n 32 with q | q
    · rw [h0 n q]; simp; omega
    · exact ti_ge q
  · rcases Nat.lt_or_ge x 32 with q | q
    · rw [h0 x q] at hx
      have : x = p := by simpa using hx
      rw [this]; exact hT
    · rw [ti_ge q] at hx; exact absurd hx (by decide)
  · have := (o2 (to j) (hf j hj).2.2).1; omega
  · rintro n s ⟨i1, i2, i3, i4⟩
    refine ⟨fun _ => h s ⟨i1, fun j hj hl ht => i4 j hj hl ht (by omega), i3⟩ i2, fun hc => absurd (by decide : (nI (24 - 24) - 1 : Int32) < 0) hc⟩
  · rintro n i s hi ⟨i1, i2, i3, i4⟩ ih
    have ex : nI (24 - i) - 1 = nI (23 - i) := by rw [nI_m1 (by omega)]; congr 1; omega
    have ex2 : nI (23 - i) + (-1) = nI (24 - (i + 1)) - 1 := by rw [sub_m1, show 24 - (i + 1) = 23 - i by omega]
    rw [ex]
    have hck : (nI (23 - i)).toNatClampNeg = 23 - i := nI_clamp (by omega)
    obtain ⟨k1, k2, k3⟩ := o1 (23 - i) (by omega)
    refine ⟨fun hc => absurd hc (nI_pos (by omega)), fun _ => ⟨vp_in_nI (by omega) (by decide), fun y1 hy1 => ?_⟩⟩
    rw [hck, k1] at hy1
    subst hy1
    refine h_holds _ (by omega) ?_
    rw [tb_i2l _ (by omega)]
    have huniq : ∀ z, z < 24 → pos z = 23 - i → z = ord (23 - i) := fun z hz hpz => by rw [← hpz]; exact ((o2 z hz).2).symm
    cases hb : ti s (ord (23 - i)) with
    | false =>
      refine br0' fun y hy => ?_
      rw [hy, ex2]
      refine ih s ⟨i1, i2, i3, fun j hj hl ht hpos => ?_⟩
      by_cases e : pos (to j) = 23 - i
      · rw [huniq (to j) (hf j hj).2.2 e, hb] at ht; exact absurd ht (by decide)
      · exact i4 j hj hl ht (by omega)
    | true =>
      have hcu : (nI (ord (23 - i))).toNatClampNeg = ord (23 - i) := nI_clamp (by omega)
      refine br1' ⟨vp_in_nI k2 (by decide), fun y3 hy3 => ?_⟩
      rw [hcu, (hS _ k2).1] at hy3
      subst hy3
      refine p_allIn46 hJ k2 (fun j hj => ⟨(hf j hj).1, (hf j hj).2.1⟩) hS hsub fun y m1 m2 m3 => fun y17 hy17 => ?_
      rw [hy17, ex2]
      have hnew : ∀ n, ti y n = true → ti s n = true ∨ pos n < 23 - i := by
        intro n hn
        rcases m2 n hn with q | ⟨j, hj, hl, ht, hfr⟩
        · exact Or.inl q
        · refine Or.inr ?_
          have := o3 j hj (hsub j hj hl)
          rw [ht, k3, hfr] at this
          exact this
      refine ih y ⟨m1 p i1, fun n hn => ?_, fun T hT hc x hx => ?_, fun j hj hl ht hpos => ?_⟩
      · cases hyn : ti y n with
        | false => rfl
        | true =>
          rcases m2 n hyn with q | ⟨j, hj, _, _, hfr⟩
          · rw [i2 n hn] at q; exact absurd q (by decide)
          · have := (hf j hj).2.1; omega
      · rcases m2 x hx with q | ⟨j, hj, hl, ht, hfr⟩
        · exact i3 T hT hc x q
        · rw [← hfr]
          exact hc j hj hl (by rw [ht]; exact i3 T hT hc _ hb)
      · by_cases e : pos (to j) = 23 - i
        · exact m3 j hj hl (huniq (to j) (hf j hj).2.2 e)
        · rcases hnew (to j) ht with q | q
          · exact m1 _ (i4 j hj hl q (by omega))
          · omega
