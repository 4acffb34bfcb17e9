/-! ===== judge: the reference ===== -/
/-- w' has all that w has but for the reference's rows has, place, best and what comes -/
def Aq (w w' : WU) : Prop := (∀ k, k ≠ 15 → k ≠ 18 → k ≠ 19 → w'.1 k = w.1 k) ∧ (∀ k, k ≠ 2 → w'.2 k = w.2 k)
theorem Aq.rf (w : WU) : Aq w w := ⟨fun _ _ _ _ => rfl, fun _ _ => rfl⟩
theorem Aq.i {w w' : WU} (h : Aq w w') {k : Nat} (hk : k = 15 ∨ k = 18 ∨ k = 19) (f : Nat → Int32) : Aq w (uI w' k f) := ⟨fun j h1 h2 h3 => (va_up_n w'.1 k f (by omega)).trans (h.1 j h1 h2 h3), h.2⟩
theorem Aq.j {w w' : WU} (h : Aq w w') (A : Nat → Int64) : Aq w (uJ w' 2 A) := ⟨h.1, fun j hj => (va_up_n w'.2 2 A hj).trans (h.2 j hj)⟩
theorem p_mdec {P T x : Nat} {S : Nat → Bool} {u v w0 st0 : WU} {x1 x2 x3 x4 x5 : Int32} {post : Int32 → WU → Prop} {K : WU → Prop} (hPS : PS P T u v) (hSP : ∀ p, S p = true → p < P) (hA0 : Aq w0 st0) (h13 : ∀ p, p < 24 → (w0.1 13 p = 0 ↔ S p = false)) (h2 : w0.1 2 = v.1 2) (h3 : w0.1 3 = v.1 3) (h4 : w0.1 4 = v.1 4) (hx : x < pr (mS S (mnF v)) P) (hx31 : x < 2 ^ 31) (hhas : ∀ p, p < P → S p = false → st0.1 15 p = u.1 2 p)
    (h : ∀ (st : WU) (a : Nat → Nat), Aq w0 st → st.1 19 = st0.1 19 → ValidA S (mnF v) a → rv (mS S (mnF v)) a P = x → (∀ p, p < P → st.1 18 p = if S p = true then nI (a p) else v.1 4 p) → (∀ p, p < P → S p = true → st.1 15 p = v.1 2 (3 * p + a p)) → (∀ p, p < P → S p = false → st.1 15 p = u.1 2 p) → K st) : ∃ nn, wp_X9_judge_L59 x1 x2 x3 x4 x5 post K nn (nI x) (nI P - 1) st0 := by
  have hP := hPS.1
  have hm1 : ∀ p, p < P → 1 ≤ mS S (mnF v) p ∧ mS S (mnF v) p ≤ 3 := fun p hp => by
    have := many_of hPS hp
    unfold mS
    split <;> omega
  refine loop_0 (W := fun n i s => wp_X9_judge_L59 x1 x2 x3 x4 x5 post K n s.1 (nI (P - i) - 1) s.2) (I := fun i s => ∃ (l : Nat) (a : Nat → Nat), s.1 = nI l ∧ l ≤ x ∧ l < pr (mS S (mnF v)) (P - i) ∧ Aq w0 s.2 ∧ s.2.1 19 = st0.1 19 ∧ (∀ p, P - i ≤ p → p < P → a p < mS S (mnF v) p ∧ s.2.1 18 p = (if S p = true then nI (a p) else v.1 4 p) ∧ (S p = true → s.2.1 15 p = v.1 2 (3 * p + a p))) ∧ (∀ p, p < P → S p = false → s.2.1 15 p = u.1 2 p) ∧ (∀ b : Nat → Nat, (∀ p, P - i ≤ p → p < P → b p = a p) → rv (mS S (mnF v)) b (P - i) = l → rv (mS S (mnF v)) b P = x)) P (nI x, st0) ⟨x, fun _ => 0, rfl, Nat.le_refl _, hx, hA0, rfl, fun p h1 h2 => by omega, hhas, fun b _ hb => hb⟩ ?_ ?_
  · rintro n ⟨y, st⟩ ⟨l, a, i1, i0, i2, i3, i4, i5, i6, i7⟩
    dsimp only at i1 i3 i4 i5 i6
    have e0 : P - P = 0 := by omega
    rw [e0] at i2 i5 i7 ⊢
    have hl : l = 0 := by
      have : pr (mS S (mnF v)) 0 = 1 := rfl
      omega
    refine ⟨fun _ => ?_, fun hc => absurd (by decide : (nI 0 - 1 : Int32) < 0) hc⟩
    refine h st (fun p => if p < P then a p else 0) i3 i4 ⟨fun p hp => ?_, fun p hp => ?_⟩ (i7 _ (fun p _ hp => by rw [if_pos hp]) (by rw [hl]; rfl)) (fun p hp => ?_) (fun p hp hs => ?_) i6
    · have hpP := hSP p hp
      have := (i5 p (Nat.zero_le _) hpP).1
      unfold mS at this
      rw [if_pos hp] at this
      dsimp only
      rw [if_pos hpP]; exact this
    · by_cases hpP : p < P
      · have := (i5 p (Nat.zero_le _) hpP).1
        unfold mS at this
        rw [hp] at this
        have t2 : a p < 1 := this
        dsimp only
        rw [if_pos hpP]; omega
      · dsimp only
        rw [if_neg hpP]
    · rw [if_pos hp]; exact (i5 p (Nat.zero_le _) hp).2.1
    · rw [if_pos hp]; exact (i5 p (Nat.zero_le _) hp).2.2 hs
  · rintro n i ⟨y, st⟩ hi ⟨l, a, i1, i0, i2, i3, i4, i5, i6, i7⟩ ih
    dsimp only at i1 i3 i4 i5 i6
    obtain ⟨k, hk⟩ : ∃ k, P - i = k + 1 := ⟨P - i - 1, by omega⟩
    have hk1 : P - (i + 1) = k := by omega
    rw [hk] at i2 i5 i7 ⊢
    rw [hk1] at ih
    dsimp only
    rw [nI_pred, i1]
    have hkP : k < P := by omega
    have hck : (nI k).toNatClampNeg = k := nI_clamp (by omega)
    have hin : vp_in (nI k) 24 := vp_in_nI (by omega) (by decide)
    obtain ⟨c1, c2, c3, c4⟩ := many_of hPS hkP
    refine ⟨fun hc => absurd hc (nI_pos (by omega)), fun _ => ⟨hin, hin, fun u26 hu26 => ⟨hin, ?_⟩⟩⟩
    rw [hck] at hu26
    have e4 : st.1 4 k = v.1 4 k := by rw [i3.1 4 (by omega) (by omega) (by omega), h4]
    rw [e4] at hu26
    have hA26 : Aq w0 u26 := by rw [hu26]; exact i3.i (by omega) _
    have e13 : u26.1 13 k = w0.1 13 k := by rw [hA26.1 13 (by omega) (by omega) (by omega)]
    have e3 : u26.1 3 k = nI (mnF v k) := by rw [hA26.1 3 (by omega) (by omega) (by omega), h3]; exact c2
    have e18 : u26.1 18 = upd (st.1 18) k (v.1 4 k) := by rw [hu26]; exact uI_s _ _ _
    have e15 : u26.1 15 = st.1 15 := by rw [hu26]; rfl
    have e19 : u26.1 19 = st0.1 19 := by rw [hu26]; exact i4
    rw [hck, e13, e3]
    refine ⟨fun hne => ⟨hin, ?_⟩, fun hz => ?_⟩
    · have hSk : S k = true := by
        cases e : S k with
        | true => rfl
        | false => exact absurd ((h13 k (by omega)).mpr e) hne
      have em : mS S (mnF v) k = mnF v k := by unfold mS; rw [if_pos hSk]
      rw [pr_s, em] at i2
      have hm0 : ¬ nI (mnF v k) = 0 := nI_ne0 (by omega) (by omega)
      refine ⟨hm0, hin, fun u27 hu27 => ⟨hin, ?_⟩⟩
      rw [pk_rem (by omega) (by omega) (by omega)] at hu27
      have hA27 : Aq w0 u27 := by rw [hu27]; exact hA26.i (by omega) _
      have f3 : u27.1 3 k = nI (mnF v k) := by rw [hA27.1 3 (by omega) (by omega) (by omega), h3]; exact c2
      have f18 : u27.1 18 = upd (st.1 18) k (nI (l % mnF v k)) := by
        rw [hu27, uI_s, e18]
        funext z
        by_cases e : z = k
        · rw [e, pk_us, pk_us]
        · rw [pk_un e, pk_un e, pk_un e]
      have f15 : u27.1 15 = st.1 15 := by rw [hu27]; exact e15
      have f18k : u27.1 18 k = nI (l % mnF v k) := by rw [f18, pk_us]
      have hlm : l % mnF v k < mnF v k := Nat.mod_lt _ (by omega)
      rw [f3]
      refine ⟨hm0, fun y28 hy28 => ⟨hin, ?_⟩⟩
      rw [pk_div (by omega) (by omega) (by omega)] at hy28
      have e3k : 3 * nI k + nI (l % mnF v k) = nI (3 * k + l % mnF v k) := by have e3 : (3 : Int32) = nI 3 := rfl; rw [e3, pk_mul, nI_add]
      rw [f18k, e3k, nI_clamp (n := 3 * k + l % mnF v k) (by omega)]
      refine ⟨vp_in_nI (by omega) (by decide), hin, fun u29 hu29 y40 hy40 => ?_⟩
      have hA29 : Aq w0 u29 := by rw [hu29]; exact hA27.i (by omega) _
      have g2 : u27.1 2 = v.1 2 := by rw [hA27.1 2 (by omega) (by omega) (by omega), h2]
      have g15 : u29.1 15 = upd (st.1 15) k (v.1 2 (3 * k + l % mnF v k)) := by rw [hu29, uI_s, f15, g2]
      have g18 : u29.1 18 = upd (st.1 18) k (nI (l % mnF v k)) := by rw [hu29, ← f18]; rfl
      have g19 : u29.1 19 = st0.1 19 := by rw [hu29, hu27]; exact e19
      have ey : y40 = nI k - 1 := by rw [hy40, sub_m1]
      rw [ey]
      have hdm := Nat.div_add_mod' l (mnF v k)
      refine ih (y28, u29) ⟨l / mnF v k, putN a k (l % mnF v k), hy28, Nat.le_trans (Nat.div_le_self _ _) i0, Nat.div_lt_of_lt_mul (by rw [Nat.mul_comm]; exact i2), hA29, g19, fun p q1 q2 => ?_, fun p q1 q2 => ?_, fun b q1 q2 => i7 b (fun p r1 r2 => ?_) ?_⟩
      · dsimp only
        by_cases e : p = k
        · subst e
          rw [putN_s, g18, g15, pk_us, pk_us, if_pos hSk, em]
          exact ⟨hlm, rfl, fun _ => rfl⟩
        · rw [putN_n e, g18, g15, pk_un e, pk_un e]
          exact i5 p (by omega) q2
      · dsimp only
        have : p ≠ k := fun e => by rw [e, hSk] at q2; exact absurd q2 (by decide)
        rw [g15, pk_un this]; exact i6 p q1 q2
      · rw [q1 p (by omega) r2, putN_n (by omega)]
      · rw [rv_s, q2, q1 k (Nat.le_refl _) hkP, putN_s, em]; exact hdm
    · have hSk : S k = false := (h13 k (by omega)).mp hz
      have em : mS S (mnF v) k = 1 := by unfold mS; rw [if_neg (by rw [hSk]; decide)]
      rw [pr_s, em, Nat.mul_one] at i2
      intro y40 hy40
      have ey : y40 = nI k - 1 := by rw [hy40, sub_m1]
      rw [ey]
      refine ih (nI l, u26) ⟨l, putN a k 0, rfl, i0, i2, hA26, e19, fun p q1 q2 => ?_, fun p q1 q2 => ?_, fun b q1 q2 => i7 b (fun p r1 r2 => ?_) ?_⟩
      · dsimp only
        by_cases e : p = k
        · subst e
          rw [putN_s, e18, pk_us, em]
          exact ⟨by omega, by rw [hSk]; rfl, fun z => by rw [hSk] at z; exact absurd z (by decide)⟩
        · rw [putN_n e, e18, e15, pk_un e]
          exact i5 p (by omega) q2
      · dsimp only; rw [e15]; exact i6 p q1 q2
      · rw [q1 p (by omega) r2, putN_n (by omega)]
      · rw [rv_s, q2, q1 k (Nat.le_refl _) hkP, putN_s, em]; omega
theorem p_m212 {P : Nat} {x1 x2 x3 x4 x5 : Int32} {st : WU} {post : Int32 → WU → Prop} {K : WU → Prop} (hP : P ≤ 24) (eP : st.1 21 0 = nI P) (h : ∀ bs, (∀ p, p < P → bs p = st.1 18 p) → K (uI st 19 bs)) : ∃ nn, wp_X9_judge_L212 x1 x2 x3 x4 x5 post K nn 0 st := by
  refine loop_0 (W := fun n k s => wp_X9_judge_L212 x1 x2 x3 x4 x5 post K n (nI k) s) (I := fun k s => ∃ bs, s = uI st 19 bs ∧ ∀ p, p < k → bs p = st.1 18 p) P st ⟨st.1 19, (uI_self st 19).symm, fun p hp => absurd hp (Nat.not_lt_zero _)⟩ ?_ ?_
  · rintro n s ⟨bs, rfl, hb⟩
    exact ⟨fun _ => h bs hb, fun hc => absurd (by show st.1 21 0 ≤ nI P; rw [eP]; exact Int32.le_refl _) hc⟩
  · rintro n k s hk ⟨bs, rfl, hb⟩ ih
    have hck : (nI k).toNatClampNeg = k := nI_clamp (by omega)
    have hin : vp_in (nI k) 24 := vp_in_nI (by omega) (by decide)
    refine ⟨fun hc => absurd (show nI P ≤ nI k by rw [← eP]; exact hc) (nI_ge (a := k) (b := P) hk (by omega)), fun _ => ⟨hin, hin, fun u1 hu1 y hy => ?_⟩⟩
    rw [hck, uI_s, uI_uI] at hu1
    rw [hy, nI_1]
    refine ih u1 ⟨_, hu1, fun p hp => ?_⟩
    by_cases e : p = k
    · subst e; rw [pk_us]; rfl
    · rw [pk_un e]; exact hb p (by omega)
theorem p_m250 {P : Nat} {x3 : Int32} {st : WU} {post : Int32 → WU → Prop} (hP : P ≤ 24) (eP : st.1 21 0 = nI P) (h : ∀ tk, (∀ p, p < P → tk p = st.1 19 p) → (∀ p, P ≤ p → tk p = st.1 4 p) → post x3 (uI st 4 tk)) : ∃ nn, wp_X9_judge_L250 x3 post nn 0 st := by
  refine loop_0 (W := fun n k s => wp_X9_judge_L250 x3 post n (nI k) s) (I := fun k s => ∃ tk, s = uI st 4 tk ∧ (∀ p, p < k → tk p = st.1 19 p) ∧ ∀ p, k ≤ p → tk p = st.1 4 p) P st ⟨st.1 4, (uI_self st 4).symm, fun p hp => absurd hp (Nat.not_lt_zero _), fun _ _ => rfl⟩ ?_ ?_
  · rintro n s ⟨tk, rfl, hb, hc⟩
    exact ⟨fun _ => h tk hb hc, fun hc => absurd (by show st.1 21 0 ≤ nI P; rw [eP]; exact Int32.le_refl _) hc⟩
  · rintro n k s hk ⟨tk, rfl, hb, hc⟩ ih
    have hck : (nI k).toNatClampNeg = k := nI_clamp (by omega)
    have hin : vp_in (nI k) 24 := vp_in_nI (by omega) (by decide)
    refine ⟨fun hc => absurd (show nI P ≤ nI k by rw [← eP]; exact hc) (nI_ge (a := k) (b := P) hk (by omega)), fun _ => ⟨hin, hin, fun u1 hu1 y hy => ?_⟩⟩
    rw [hck, uI_s, uI_uI] at hu1
    rw [hy, nI_1]
    refine ih u1 ⟨_, hu1, fun p hp => ?_, fun p hp => ?_⟩
    · by_cases e : p = k
      · subst e; rw [pk_us]; rfl
      · rw [pk_un e]; exact hb p (by omega)
    · rw [pk_un (by omega)]; exact hc p (by omega)
