/-! ===== judge: the class's search ===== -/
theorem pre_mono {J s k k0 : Nat} {fr to kd ln : Nat → Nat} {u v : WU} {a b : Nat → Nat} {A : Nat → Int64} {Q : Nat → Int32} (h : PreA J s fr to kd ln u v a k A Q) (hk : k0 ≤ k) (he : ∀ i, i < k0 → b (ln i) = a (ln i)) : PreA J s fr to kd ln u v b k0 A Q := by
  refine ⟨fun i hi => by rw [he i hi]; exact h.1 i (by omega), fun i hi => ?_⟩
  rw [h.2 i (by omega)]
  congr 1
  refine fb_sm_cong fun j hj => ?_
  have : lqF v b (ln j) = lqF v a (ln j) := by unfold lqF; rw [he j (by omega)]
  rw [this]
theorem sum_line {P len : Nat} {ln pos : Nat → Nat} {S : Nat → Bool} {w : WU} (hP : P ≤ 24) (hSP : ∀ p, S p = true → p < P) (hL : Line len ln pos S w) (F : Nat → Int64) : fb_sm (fun i => fb_ct (tb (F (ln i))) 64) len = qsum S F P := by
  obtain ⟨l0, l1, l2, l3, l4⟩ := id hL
  rw [sm_line (fun p => fb_ct (tb (F p)) 64) (N := P) (fun k hk => hSP _ (l2 k hk).2.2) (fun i k hik hk e => by have := l3 i k hik hk; rw [e] at this; omega)]
  refine fb_sm_cong fun p hp => ?_
  have : inl_ ln len p = S p := bool_iff (inl_iff.trans ⟨fun ⟨i, hi, e⟩ => by rw [← e]; exact (l2 i hi).2.2, fun hs => l4 p (by omega) hs⟩)
  rw [this]
/-- whoever begins like a has at least the quarrels that a has so far -/
theorem key_prefix {P T J C s len k n' k' : Nat} {fr to kd ord pos sd bg en ln : Nat → Nat} {S : Nat → Bool} {u v w : WU} {a b : Nat → Nat} {A : Nat → Int64} {Q : Nat → Int32} (hs1 : Sim1 P T J C fr to kd ord pos sd bg en u v) (hS : Lst J fr to (tb (u.2 6 0)) T S) (hSP : ∀ p, S p = true → p < P) (hL : Line len ln pos S w) (hk : k < len) (hpre : PreA J s fr to kd ln u v a (k + 1) A Q) (he : ∀ i, i ≤ k → b (ln i) = a (ln i)) (hb : KeyIs P T J s fr to kd S u v b n' k') : fb_sm (fun i => fb_ct (tb (A (ln i) &&& u.2 2 (lqF v a (ln i)))) 64) (k + 1) ≤ n' := by
  have hP := hs1.2.1.1
  have hpos := hs1.2.2.2.1.2.2
  obtain ⟨l0, l1, l2, l3, l4⟩ := id hL
  obtain ⟨B, g1, g2, g3⟩ := hb
  have hAB : ∀ p, (S p && decide (pos p ≤ pos (ln k))) = true → A p = B p := by
    refine com_one (kd := kd) (al := u.2 1) (D := fun p => S p && decide (pos p ≤ pos (ln k))) (b := fun p => brX (u.2 0 s) (v.1 2 (3 * p + b p)) (u.2 3 p)) hpos (fun j hj hl hd => ?_) (fun p hp => ?_) (fun p hp => ?_)
    · have hd : S (to j) = true ∧ pos (to j) ≤ pos (ln k) := by simpa using hd
      have := hpos j hj hl
      have h2 := hS.2.1 j hj hl hd.1
      have h3 : pos (fr j) ≤ pos (ln k) := by omega
      simp [h2, h3]
    · have hp : S p = true ∧ pos p ≤ pos (ln k) := by simpa using hp
      obtain ⟨i, hi, e⟩ := l4 p (by have := hSP p hp.1; omega) hp.1
      have hik : i ≤ k := by
        rcases Nat.lt_or_ge k i with z | z
        · have := l3 k i z hi; rw [e] at this; omega
        · exact z
      have := hpre.1 i (by omega)
      rw [← he i hik, e] at this
      exact this
    · have hp : S p = true ∧ pos p ≤ pos (ln k) := by simpa using hp
      exact g1 p hp.1
  have e1 : fb_sm (fun i => fb_ct (tb (A (ln i) &&& u.2 2 (lqF v a (ln i)))) 64) (k + 1) = fb_sm (fun i => fb_ct (tb (B (ln i) &&& u.2 2 (lqF v b (ln i)))) 64) (k + 1) := fb_sm_cong fun i hi => by
    have hd : (S (ln i) && decide (pos (ln i) ≤ pos (ln k))) = true := by
      have h1 := (l2 i (by omega)).2.2
      have h2 : pos (ln i) ≤ pos (ln k) := by
        by_cases z : i = k
        · rw [z]; exact Nat.le_refl _
        · exact Nat.le_of_lt (l3 i k (by omega) hk)
      simp [h1, h2]
    have : lqF v b (ln i) = lqF v a (ln i) := by unfold lqF; rw [he i (by omega)]
    rw [hAB _ hd, this]
  rw [e1, g2, ← sum_line hP hSP hL (fun p => B p &&& u.2 2 (lqF v b p))]
  have := fb_sm_mono (fun i => fb_ct (tb (B (ln i) &&& u.2 2 (lqF v b (ln i)))) 64) (k + 1) (len - (k + 1))
  rwa [show k + 1 + (len - (k + 1)) = len by omega] at this
theorem p_takeBest {P T J C s : Nat} {fr to kd ord pos sd bg en : Nat → Nat} {u v : WU} {post : Int32 → WU → Prop} (hs1 : Sim1 P T J C fr to kd ord pos sd bg en u v) (hs : s < 4) (h0 : 0 < P) (hw : ∀ S : Nat → Bool, Lst J fr to (tb (u.2 6 0)) T S → pw S (mnF v) P ≤ 6561)
    (h : ∀ w (S : Nat → Bool) B n k l2, Lst J fr to (tb (u.2 6 0)) T S → (∀ p, S p = true → p < P) → ValidA S (mnF v) B → KeyIs P T J s fr to kd S u v B n k → n ≤ 1536 → (∀ a, ValidA S (mnF v) a → ∀ n' k', KeyIs P T J s fr to kd S u v a n' k' → nbF n k (rv (mS S (mnF v)) B P) n' k' (rv (mS S (mnF v)) a P)) → Kp u w → w.1 17 0 = 0 → (∀ p, p < 24 → l2 p = if S p = true then v.1 2 (3 * p + B p) else u.1 2 p) → post (nI n) (uI w 2 l2)) : wp_X1_takeBest (nI s) u post := by
  obtain ⟨hTS, hPS, hJS, hO, hSS, hC⟩ := id hs1
  obtain ⟨hP, p1, p2, p3, p4, p5, p6, p7, p8, p9⟩ := id hPS
  obtain ⟨hJ, j1, j2, j3, j4, j5⟩ := id hJS
  unfold wp_X1_takeBest
  refine p_ofProduct hs1 (fun j _ z => z) (fun z => by omega) fun _ r hS hr24 => ?_
  have hSP : ∀ p, ti r p = true → p < P := fun p hp => lst_in (P := P) (fun j hj => by obtain ⟨q1, q2, q3, q4, q5, q6, q7, q8, q9⟩ := j3 j hj; exact q7) (by omega) hS hp
  have hpw := hw _ hS
  have hmm : ∀ p, ti r p = true → 1 ≤ mnF v p ∧ mnF v p ≤ 3 := fun p hp => ⟨(many_of hPS (hSP p hp)).2.2.1, (many_of hPS (hSP p hp)).2.2.2⟩
  generalize hSe : ti r = S at hS hSP hpw hmm
  have hch : ∀ a : Nat → Nat, ValidA S (mnF v) a → ∀ p, S p = true → p < 24 ∧ a p < 3 ∧ v.1 2 (3 * p + a p) = nI (lqF v a p) ∧ lqF v a p < 8 := by
    intro a ha p hp
    have hpP := hSP p hp
    obtain ⟨r1, m, t, m1, m3, htm, r2, r3, r4, r5, r6⟩ := p7 p hpP
    have em : mnF v p = m := by unfold mnF; rw [r2]; exact nI_clamp (by omega)
    have hlt := ha.1 p hp
    rw [em] at hlt
    obtain ⟨c, hc, ec⟩ := r5 (a p) hlt
    have el : lqF v a p = c := by unfold lqF; rw [ec]; exact nI_clamp (by omega)
    exact ⟨by omega, by omega, by rw [el]; exact ec, by rw [el]; exact hc⟩
  refine p_lineUp hO (fun p _ => congrFun hSe p) fun w len ln hK h17 hL h15 => fun u16 hu16 u17 hu17 => ?_
  obtain ⟨l0, l1, l2, l3, l4⟩ := id hL
  have hinjL : ∀ i k, i < k → k < len → ln i ≠ ln k := fun i k hik hk e => by have := l3 i k hik hk; rw [e] at this; omega
  have hlen : 0 < len := by
    obtain ⟨k, hk, _⟩ := l4 T (by omega) hS.1
    omega
  have hprl : pr (fun k => mnF v (ln k)) len ≤ 6561 := by
    rw [pr_line (S := S) (m := mnF v) (N := P) (fun k hk => hSP _ (l2 k hk).2.2) hinjL (fun p hp => ⟨fun hs => l4 p (by omega) hs, fun ⟨k, hk, e⟩ => by rw [← e]; exact (l2 k hk).2.2⟩) (fun p _ hp => hmm p hp), ← pw_pr]
    exact hpw
  have hvL : ∀ a : Nat → Nat, ValidA S (mnF v) a → ∀ k, k < len → a (ln k) < mnF v (ln k) := fun a ha k hk => ha.1 _ (l2 k hk).2.2
  have hv0 : ValidA S (mnF v) (fun _ => 0) := ⟨fun p hp => (hmm p hp).1, fun _ _ => rfl⟩
  -- behind the search
  have fin : ∀ st : WU, Kp u st → Line len ln pos S st → st.1 17 0 = 0 → BI P T J s fr to kd S (mnF v) u v (fun _ => True) st → wp_X1_takeBest_J91 st post := by
    intro st hK hL h170 hB
    rcases hB with ⟨_, _, z3⟩ | ⟨B, n, k, b1, b2, b3, b4, b5, b6, b7, b8⟩
    · exact absurd trivial (z3 _ hv0)
    · refine p_takeKept hs1 hK hL (fun p hp => ⟨(hch B b1 p hp).1, (hch B b1 p hp).2.1⟩) b7 fun q hq => ?_
      have e25 : (uI st 2 q).1 25 0 = nI n := b5
      rw [e25]
      exact h st S B n k q hS hSP b1 b2 b3 (fun a ha => b8 a ha trivial) hK h170 hq
  have hKu : Kp u u17 := by rw [hu17, hu16]; exact (hK.i (by omega) _).i (by omega) _
  have hAg : Ag [25, 26] w u17 := by rw [hu17, hu16]; exact ((Ag.rf _ w).i (by decide) _).i (by decide) _
  have hz17 : u17.1 17 0 = 0 := by rw [hAg.1 17 (by decide), h17]; exact hTS.2
  refine loop_0 (W := fun f i st => wp_X1_takeBest_L36 (nI s) post f st.1 (nI i) st.2) (I := fun i st => Kp u st.2 ∧ Line len ln pos S st.2 ∧ st.2.1 17 0 = 0 ∧ ((st.1 = -1 ∧ BI P T J s fr to kd S (mnF v) u v (fun _ => True) st.2) ∨ (∃ (b0 : Nat) (a : Nat → Nat), st.1 = nI b0 ∧ b0 < len ∧ ValidA S (mnF v) a ∧ (∀ p, p < 24 → st.2.1 15 p = nI (a p)) ∧ (∀ k, b0 < k → k < len → a (ln k) = 0) ∧ PreA J s fr to kd ln u v a b0 (st.2.2 4) (st.2.1 17) ∧ i ≤ rv (fun k => mnF v (ln k)) (fun k => a (ln k)) len ∧ BI P T J s fr to kd S (mnF v) u v (fun b => rv (fun k => mnF v (ln k)) (fun k => b (ln k)) len < rv (fun k => mnF v (ln k)) (fun k => a (ln k)) len) st.2))) 6561 (0, u17) ⟨hKu, hL.ag hAg (by decide) (by decide), hz17, Or.inr ⟨0, fun _ => 0, rfl, hlen, hv0, fun p hp => ?_, fun _ _ _ => rfl, ⟨fun i hi => absurd hi (Nat.not_lt_zero _), fun i hi => ?_⟩, Nat.zero_le _, Or.inl ⟨?_, ?_, fun b hb hlt => ?_⟩⟩⟩ ?_ ?_
  · dsimp only; rw [hAg.1 15 (by decide), h15 p hp]; rfl
  · have : i = 0 := by omega
    subst this
    dsimp only
    rw [hz17]; rfl
  · dsimp only; rw [hu17, hu16]; rfl
  · dsimp only; rw [hu17]; rfl
  · have := rv_zero (m := fun k => mnF v (ln k)) (a := fun k => b (ln k)) (b := fun _ => 0) (k := 0) (Nat.le_refl _) len (fun _ _ _ => rfl)
    rw [Nat.zero_add] at this
    exact absurd hlt (Nat.not_lt.mpr this)
  · rintro f ⟨x2, st⟩ ⟨i1, i2, i3, i4⟩
    dsimp only at i1 i2 i3 i4
    refine ⟨fun _ => ?_, fun hc => absurd (by decide : (6561 : Int32) ≤ nI 6561) hc⟩
    rcases i4 with ⟨_, hB⟩ | ⟨b0, a, a1, a2, a3, a4, a5, a6, a7, a8⟩
    · exact fin st i1 i2 i3 hB
    · have := rv_lt (m := fun k => mnF v (ln k)) (a := fun k => a (ln k)) (n := len) (fun k hk => hvL a a3 k hk)
      omega
  · rintro f i ⟨x2, st⟩ hi ⟨i1, i2, i3, i4⟩ ih
    dsimp only at i1 i2 i3 i4
    refine ⟨fun hc => absurd hc (nI_ge (a := i) (b := 6561) hi (by decide)), fun _ => ?_⟩
    rcases i4 with ⟨z, hB⟩ | ⟨b0, a, a1, a2, a3, a4, a5, a6, a7, a8⟩
    · exact ⟨fun _ => fin st i1 i2 i3 hB, fun hne => absurd z hne⟩
    · refine ⟨fun hm => absurd (a1.symm.trans hm) (nIm1 (by omega)), fun _ => ?_⟩
      rw [a1]
      -- going on from place r
      have adv : ∀ (w' : WU) (r : Nat), r < len → Kp u w' → Line len ln pos S w' → (∀ p, p < 24 → w'.1 15 p = nI (a p)) → (∀ k, r < k → k < len → a (ln k) = 0) → PreA J s fr to kd ln u v a (r + 1) (w'.2 4) (w'.1 17) → BI P T J s fr to kd S (mnF v) u v (fun b => rv (fun k => mnF v (ln k)) (fun k => b (ln k)) len < rv (fun k => mnF v (ln k)) (fun k => a (ln k)) len ∨ ∀ i, i ≤ r → b (ln i) = a (ln i)) w' → wp_X1_advance (nI r) w' (fun r11 u10 => ∀ y12 : Int32, y12 = nI i + 1 → wp_X1_takeBest_L36 (nI s) post f r11 y12 u10) := by
        intro w' r hr hK' hL' hpl' hz' hpre' hB'
        have hq0 : w'.1 17 0 = 0 := by rw [hpre'.2 0 (Nat.zero_le _)]; rfl
        have hcase : ∀ b, ValidA S (mnF v) b → rv (fun k => mnF v (ln k)) (fun k => b (ln k)) (r + 1) ≤ rv (fun k => mnF v (ln k)) (fun k => a (ln k)) (r + 1) → rv (fun k => mnF v (ln k)) (fun k => b (ln k)) len < rv (fun k => mnF v (ln k)) (fun k => a (ln k)) len ∨ ∀ i, i ≤ r → b (ln i) = a (ln i) := by
          intro b hb hle
          by_cases e : rv (fun k => mnF v (ln k)) (fun k => b (ln k)) (r + 1) = rv (fun k => mnF v (ln k)) (fun k => a (ln k)) (r + 1)
          · exact Or.inr fun i hi => rv_inj (m := fun k => mnF v (ln k)) (a := fun k => b (ln k)) (b := fun k => a (ln k)) (n := r + 1) (fun k hk => hvL b hb k (by omega)) (fun k hk => hvL a a3 k (by omega)) e i (by omega)
          · have := rv_up (m := fun k => mnF v (ln k)) (a := fun k => b (ln k)) (b := fun k => a (ln k)) (k := r + 1) (by omega) (len - (r + 1)) (fun k _ hk => hvL b hb k (by omega))
            rw [show r + 1 + (len - (r + 1)) = len by omega] at this
            exact Or.inl this
        refine p_advance hPS hSP hK' hL' a3 hpl' hr hz' (fun w'' hA4 h4 hall => fun y hy => ?_) (fun w'' b k0 hk0 hA4 h4 hpl2 hvb heq hz2 hrv => fun y hy => ?_)
        · rw [hy, nI_1]
          refine ih (-1, w'') ⟨hK'.ag hA4 (fun k hk => by simp; omega), hL'.ag hA4 (by decide) (by decide), by dsimp only; rw [hA4.1 17 (by decide)]; exact hq0, Or.inl ⟨rfl, ?_⟩⟩
          refine (hB'.ag hA4 (by decide) (by decide) (by decide)).vis fun b hb _ => hcase b hb ?_
          have := rv_lt (m := fun k => mnF v (ln k)) (a := fun k => b (ln k)) (n := r + 1) (fun k hk => hvL b hb k (by omega))
          omega
        · rw [hy, nI_1]
          have hVlt := rv_up (m := fun k => mnF v (ln k)) (a := fun k => a (ln k)) (b := fun k => b (ln k)) (k := r + 1) (by omega) (len - (r + 1)) (fun k _ hk => hvL a a3 k (by omega))
          rw [show r + 1 + (len - (r + 1)) = len by omega] at hVlt
          refine ih (nI k0, w'') ⟨hK'.ag hA4 (fun k hk => by simp; omega), hL'.ag hA4 (by decide) (by decide), by dsimp only; rw [hA4.1 17 (by decide)]; exact hq0, Or.inr ⟨k0, b, rfl, by omega, hvb, hpl2, hz2, ?_, by omega, ?_⟩⟩
          · dsimp only
            rw [h4, hA4.1 17 (by decide)]
            exact pre_mono hpre' (by omega) heq
          · refine (hB'.ag hA4 (by decide) (by decide) (by decide)).vis fun c hc hlt => hcase c hc ?_
            rcases Nat.lt_or_ge (rv (fun k => mnF v (ln k)) (fun k => a (ln k)) (r + 1)) (rv (fun k => mnF v (ln k)) (fun k => c (ln k)) (r + 1)) with z | z
            · have := rv_zero (m := fun k => mnF v (ln k)) (a := fun k => c (ln k)) (b := fun k => b (ln k)) (k := r + 1) (by omega) (len - (r + 1)) (fun k h1 h2 => hz2 k (by omega) (by omega))
              rw [show r + 1 + (len - (r + 1)) = len by omega] at this
              exact absurd hlt (Nat.not_lt.mpr this)
            · exact z
      refine p_settle hs1 hs i1 i2 a4 (hch a a3) (by omega) a6 (fun w1 hA1 hpre1 => ?_) (fun w1 k hbk hk hA1 hpre1 hbig => ?_)
      · have hK1 := i1.ag hA1 (fun k hk => by simp; omega)
        have hL1 := i2.ag hA1 (by decide) (by decide)
        have hpl1 : ∀ p, p < 24 → w1.1 15 p = nI (a p) := fun p hp => by rw [hA1.1 15 (by decide)]; exact a4 p hp
        have e24 := hL1.2.1
        refine ⟨fun hne => absurd e24.symm hne, fun _ => ?_⟩
        refine p_keep hs1 (by omega) hS hSP (fun p hp => (hmm p hp).2) hK1 hL1 a3 hpl1 hpre1 (a8.ag hA1 (by decide) (by decide) (by decide)) fun w2 hA2 h42 hB2 => ?_
        have hL2 := hL1.ag hA2 (by decide) (by decide)
        unfold wp_X1_takeBest_J69
        rw [hL2.2.1, nI_m1 hlen, if_pos (nI_lt (by omega) (by omega))]
        refine adv w2 (len - 1) (by omega) (hK1.ag hA2 (fun k hk => by simp; omega)) hL2 (fun p hp => by rw [hA2.1 15 (by decide)]; exact hpl1 p hp) (fun k h1 h2 => by omega) ?_ ?_
        · rw [h42, hA2.1 17 (by decide), show len - 1 + 1 = len by omega]; exact hpre1
        · refine hB2.vis fun b hb hv => ?_
          rcases hv with hv | hv
          · exact Or.inl hv
          · refine Or.inr fun p hp => ?_
            obtain ⟨k, hk, e⟩ := l4 p (by have := hSP p hp; omega) hp
            rw [← e]; exact hv k (by omega)
      · have hK1 := i1.ag hA1 (fun k hk => by simp; omega)
        have hL1 := i2.ag hA1 (by decide) (by decide)
        have e24 := hL1.2.1
        have hB1 := a8.ag hA1 (by decide) (by decide) (by decide)
        have e25 : w1.1 25 0 = st.1 25 0 := by rw [hA1.1 25 (by decide)]
        refine ⟨fun _ => ?_, fun he => absurd ((nI_eq (by omega) (by omega)).mp (he.trans e24)) (by omega)⟩
        unfold wp_X1_takeBest_J69
        rw [e24, nI_m1 hlen, if_neg (nI_nlt (by omega) (by omega))]
        refine adv w1 k hk hK1 hL1 (fun p hp => by rw [hA1.1 15 (by decide)]; exact a4 p hp) (fun k' h1 h2 => a5 k' (by omega) h2) hpre1 ?_
        have hsmall : fb_sm (fun i => fb_ct (tb (w1.2 4 (ln i) &&& u.2 2 (lqF v a (ln i)))) 64) (k + 1) ≤ (k + 1) * 64 := fb_sm_bound fun i _ => fb_ct_le _ 64
        rw [hpre1.2 (k + 1) (Nat.le_refl _), ← e25] at hbig
        rcases hB1 with ⟨z1, z2, z3⟩ | ⟨B, n, kk, b1, b2, b3, b4, b5, b6, b7, b8⟩
        · exfalso
          rw [z1] at hbig
          exact hbig (nI_le (b := 1537) (by omega) (by decide))
        · refine Or.inr ⟨B, n, kk, b1, b2, b3, b4, b5, b6, b7, fun b hb hv n' k' hk' => ?_⟩
          rcases hv with hv | hv
          · exact b8 b hb hv n' k' hk'
          · have hp := key_prefix hs1 hS hSP hL1 hk hpre1 hv hk'
            rw [b5] at hbig
            have : n < fb_sm (fun i => fb_ct (tb (w1.2 4 (ln i) &&& u.2 2 (lqF v a (ln i)))) 64) (k + 1) := by
              rcases Nat.lt_or_ge n (fb_sm (fun i => fb_ct (tb (w1.2 4 (ln i) &&& u.2 2 (lqF v a (ln i)))) 64) (k + 1)) with z | z
              · exact z
              · exact absurd (nI_le z (by omega)) hbig
            exact Or.inl (by omega)
