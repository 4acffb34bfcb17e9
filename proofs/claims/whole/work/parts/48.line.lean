/-! ===== judge: the class's line, settle ===== -/
/-- w' has all that w has but for the rows xs (and what has arrived) -/
def Ag (xs : List Nat) (w w' : WU) : Prop := (∀ k, k ∉ xs → w'.1 k = w.1 k) ∧ (∀ k, k ≠ 4 → w'.2 k = w.2 k)
theorem Ag.rf (xs : List Nat) (w : WU) : Ag xs w w := ⟨fun _ _ => rfl, fun _ _ => rfl⟩
theorem Ag.i {xs : List Nat} {w w' : WU} (h : Ag xs w w') {k : Nat} (hk : k ∈ xs) (f : Nat → Int32) : Ag xs w (uI w' k f) := ⟨fun j hj => (va_up_n w'.1 k f (fun e => hj (by rw [e]; exact hk))).trans (h.1 j hj), h.2⟩
theorem Ag.j {xs : List Nat} {w w' : WU} (h : Ag xs w w') (A : Nat → Int64) : Ag xs w (uJ w' 4 A) := ⟨h.1, fun j hj => (va_up_n w'.2 4 A hj).trans (h.2 j hj)⟩
theorem Kp.ag {u w w' : WU} {xs : List Nat} (h : Kp u w) (g : Ag xs w w') (hx : ∀ k, k < 14 ∨ (18 ≤ k ∧ k < 24) → k ∉ xs) : Kp u w' := ⟨fun k hk => (g.1 k (hx k hk)).trans (h.1 k hk), fun k hk => (g.2 k hk).trans (h.2 k hk)⟩
def Line (len : Nat) (ln pos : Nat → Nat) (S : Nat → Bool) (w : WU) : Prop := len ≤ 24 ∧ w.1 24 0 = nI len ∧ (∀ k, k < len → w.1 14 k = nI (ln k) ∧ ln k < 24 ∧ S (ln k) = true) ∧ (∀ i k, i < k → k < len → pos (ln i) < pos (ln k)) ∧ (∀ p, p < 24 → S p = true → ∃ k, k < len ∧ ln k = p)
theorem Line.ag {len : Nat} {ln pos : Nat → Nat} {S : Nat → Bool} {w w' : WU} {xs : List Nat} (h : Line len ln pos S w) (g : Ag xs w w') (h1 : 14 ∉ xs) (h2 : 24 ∉ xs) : Line len ln pos S w' := by
  obtain ⟨a, b, c, d, e⟩ := h
  exact ⟨a, by rw [g.1 24 h2]; exact b, fun k hk => by rw [g.1 14 h1]; exact c k hk, d, e⟩
theorem p_lineUp {J : Nat} {fr to ord pos : Nat → Nat} {S : Nat → Bool} {r : Int32} {u : WU} {post : WU → Prop} (hO : OS J fr to ord pos u) (hr : ∀ p, p < 24 → ti r p = S p)
    (h : ∀ w len ln, Kp u w → w.1 17 = u.1 17 → Line len ln pos S w → (∀ p, p < 24 → w.1 15 p = 0) → post w) : wp_X1_lineUp r u post := by
  obtain ⟨o1, o2, o3⟩ := id hO
  intro u13 hu13
  refine loop_0 (W := fun n k st => wp_X1_lineUp_L7 r post n (nI k) st) (I := fun k st => Kp u st ∧ st.1 17 = u.1 17 ∧ ∃ (m : Nat) (ln : Nat → Nat), m ≤ k ∧ st.1 24 0 = nI m ∧ (∀ i, i < m → st.1 14 i = nI (ln i) ∧ ln i < 24 ∧ S (ln i) = true ∧ pos (ln i) < k) ∧ (∀ i k', i < k' → k' < m → pos (ln i) < pos (ln k')) ∧ (∀ p, p < 24 → pos p < k → S p = true → ∃ i, i < m ∧ ln i = p) ∧ (∀ p, p < 24 → pos p < k → st.1 15 p = 0)) 24 u13 ⟨by rw [hu13]; exact (Kp.rf u).i (by omega) _, by rw [hu13]; rfl, 0, id, Nat.le_refl _, by rw [hu13]; rfl, fun i hi => absurd hi (Nat.not_lt_zero _), fun i k _ hk => absurd hk (Nat.not_lt_zero _), fun p _ hk => absurd hk (Nat.not_lt_zero _), fun p _ hk => absurd hk (Nat.not_lt_zero _)⟩ ?_ ?_
  · rintro n st ⟨hK, h17, m, ln, i0, i1, i2, i3, i4, i5⟩
    exact ⟨fun _ => h st m ln hK h17 ⟨i0, i1, fun k hk => ⟨(i2 k hk).1, (i2 k hk).2.1, (i2 k hk).2.2.1⟩, i3, fun p hp hS => i4 p hp (o2 p hp).1 hS⟩ fun p hp => i5 p hp (o2 p hp).1, fun hc => absurd (by decide : (24 : Int32) ≤ nI 24) hc⟩
  · rintro n k st hk ⟨hK, h17, m, ln, i0, i1, i2, i3, i4, i5⟩ ih
    obtain ⟨k1, k2, k3⟩ := o1 k hk
    have hck : (nI k).toNatClampNeg = k := nI_clamp (by omega)
    have hcp : (nI (ord k)).toNatClampNeg = ord k := nI_clamp (by omega)
    have huniq : ∀ z, z < 24 → pos z < k + 1 → z ≠ ord k → pos z < k := fun z hz h1 h2 => by
      rcases Nat.lt_or_ge (pos z) k with q | q
      · exact q
      · have : pos z = k := by omega
        exact absurd (by rw [← this]; exact ((o2 z hz).2).symm) h2
    refine ⟨fun hc => absurd hc (nI_ge (a := k) (b := 24) hk (by decide)), fun _ => ⟨vp_in_nI hk (by decide), fun y1 hy1 => ?_⟩⟩
    have hy1 : y1 = nI (ord k) := by rw [hy1, hck, hK.1 6 (by omega)]; exact k1
    subst hy1
    refine ⟨vp_in_nI k2 (by decide), fun u2 hu2 => ?_⟩
    rw [hcp] at hu2
    have hK2 : Kp u u2 := by rw [hu2]; exact hK.i (by omega) _
    have q17 : u2.1 17 = u.1 17 := by rw [hu2]; exact h17
    have q24 : u2.1 24 0 = nI m := by rw [hu2]; exact i1
    have q14 : u2.1 14 = st.1 14 := by rw [hu2]; rfl
    have q15 : ∀ p, p < 24 → pos p < k + 1 → u2.1 15 p = 0 := fun p hp h1 => by
      rw [hu2, uI_s]
      by_cases e : p = ord k
      · rw [e, pk_us]
      · rw [pk_un e]; exact i5 p hp (huniq p hp h1 e)
    refine h_holds _ (by omega) ?_
    rw [tb_i2l _ (by omega), hr _ k2]
    cases hb : S (ord k) with
    | false =>
      refine br0 fun y hy => ?_
      rw [hy, nI_1]
      refine ih u2 ⟨hK2, q17, m, ln, by omega, q24, fun i hi => ?_, i3, fun p hp h1 h2 => ?_, q15⟩
      · rw [q14]
        obtain ⟨a, b, c, d⟩ := i2 i hi
        exact ⟨a, b, c, by omega⟩
      · exact i4 p hp (huniq p hp h1 (fun e => by rw [e, hb] at h2; exact absurd h2 (by decide))) h2
    | true =>
      refine br1 ?_
      rw [q24]
      refine ⟨fun hc => absurd hc (nI_ge (a := m) (b := 24) (by omega) (by decide)), fun _ => ⟨vp_in_nI (by omega) (by decide), fun u8 hu8 u9 hu9 y hy => ?_⟩⟩
      rw [nI_clamp (n := m) (by omega)] at hu8
      have r24 : u8.1 24 0 = nI m := by rw [hu8]; exact q24
      rw [r24, nI_1] at hu9
      have hK9 : Kp u u9 := by rw [hu9, hu8]; exact (hK2.i (by omega) _).i (by omega) _
      have r14 : u9.1 14 = upd (st.1 14) m (nI (ord k)) := by rw [hu9, hu8, ← q14]; rfl
      have r15 : u9.1 15 = u2.1 15 := by rw [hu9, hu8]; rfl
      rw [hy, nI_1]
      refine ih u9 ⟨hK9, by rw [hu9, hu8]; exact q17, m + 1, putN ln m (ord k), by omega, by rw [hu9]; rfl, fun i hi => ?_, fun i k' h1 h2 => ?_, fun p hp h1 h2 => ?_, by rw [r15]; exact q15⟩
      · rw [r14]
        by_cases e : i = m
        · rw [e, pk_us, putN_s]; exact ⟨rfl, k2, hb, by omega⟩
        · rw [pk_un e, putN_n e]
          obtain ⟨a, b, c, d⟩ := i2 i (by omega)
          exact ⟨a, b, c, by omega⟩
      · by_cases e : k' = m
        · rw [e, putN_s, putN_n (by omega), k3]; exact (i2 i (by omega)).2.2.2
        · rw [putN_n e, putN_n (by omega)]; exact i3 i k' h1 (by omega)
      · by_cases e : p = ord k
        · exact ⟨m, by omega, by rw [putN_s, e]⟩
        · obtain ⟨i, hi, ei⟩ := i4 p hp (huniq p hp h1 e) h2
          exact ⟨i, by omega, by rw [putN_n (by omega)]; exact ei⟩
/-- the first k places of the line are done: what has arrived, how many quarrels -/
def PreA (J s : Nat) (fr to kd ln : Nat → Nat) (u v : WU) (a : Nat → Nat) (k : Nat) (A : Nat → Int64) (Q : Nat → Int32) : Prop := (∀ i, i < k → ComAt J fr to kd (tb (u.2 6 0)) (u.2 1) (brX (u.2 0 s) (v.1 2 (3 * ln i + a (ln i))) (u.2 3 (ln i))) A (ln i)) ∧ (∀ i, i ≤ k → Q i = nI (fb_sm (fun i => fb_ct (tb (A (ln i) &&& u.2 2 (lqF v a (ln i)))) 64) i))
theorem pre_next {J s k len : Nat} {fr to kd ln pos : Nat → Nat} {u v : WU} {a : Nat → Nat} {A : Nat → Int64} {Q : Nat → Int32} {x : Int64} (hpos : ∀ j, j < J → tb (u.2 6 0) j = true → pos (fr j) < pos (to j)) (hinc : ∀ i k, i < k → k < len → pos (ln i) < pos (ln k)) (hk : k < len) (h : PreA J s fr to kd ln u v a k A Q)
    (hx : ∀ n, n < 64 → (tb x n = true ↔ tb (brX (u.2 0 s) (v.1 2 (3 * ln k + a (ln k))) (u.2 3 (ln k))) n = true ∨ ∃ j, j < J ∧ tb (u.2 6 0) j = true ∧ to j = ln k ∧ tb (A (fr j)) n = true ∧ tb (u.2 1 (kd j)) n = true)) :
    PreA J s fr to kd ln u v a (k + 1) (vp_updL A (ln k) x) (upd Q (k + 1) (Q k + nI (fb_ct (tb (x &&& u.2 2 (lqF v a (ln k)))) 64))) := by
  have hln : ∀ i, i < k → ln i ≠ ln k := fun i hi e => by have := hinc i k hi hk; rw [e] at this; omega
  have hfr : ∀ i, i ≤ k → ∀ j, j < J → tb (u.2 6 0) j = true → to j = ln i → fr j ≠ ln k := fun i hi j hj hl ht e => by
    have h1 := hpos j hj hl
    rw [ht, e] at h1
    rcases Nat.lt_or_ge i k with z | z
    · have := hinc i k z hk; omega
    · have : i = k := by omega
      subst this; omega
  refine ⟨fun i hi n hn => ?_, fun i hi => ?_⟩
  · by_cases e : i = k
    · subst e
      rw [updL_s, hx n hn]
      constructor
      · rintro (q | ⟨j, hj, hl, ht, h1, h2⟩)
        · exact Or.inl q
        · exact Or.inr ⟨j, hj, hl, ht, by rw [updL_n (hfr i (Nat.le_refl _) j hj hl ht)]; exact h1, h2⟩
      · rintro (q | ⟨j, hj, hl, ht, h1, h2⟩)
        · exact Or.inl q
        · rw [updL_n (hfr i (Nat.le_refl _) j hj hl ht)] at h1
          exact Or.inr ⟨j, hj, hl, ht, h1, h2⟩
    · rw [updL_n (hln i (by omega)), h.1 i (by omega) n hn]
      constructor
      · rintro (q | ⟨j, hj, hl, ht, h1, h2⟩)
        · exact Or.inl q
        · exact Or.inr ⟨j, hj, hl, ht, by rw [updL_n (hfr i (by omega) j hj hl ht)]; exact h1, h2⟩
      · rintro (q | ⟨j, hj, hl, ht, h1, h2⟩)
        · exact Or.inl q
        · rw [updL_n (hfr i (by omega) j hj hl ht)] at h1
          exact Or.inr ⟨j, hj, hl, ht, h1, h2⟩
  · have hsm : ∀ z, z ≤ k → fb_sm (fun i => fb_ct (tb (vp_updL A (ln k) x (ln i) &&& u.2 2 (lqF v a (ln i)))) 64) z = fb_sm (fun i => fb_ct (tb (A (ln i) &&& u.2 2 (lqF v a (ln i)))) 64) z := fun z hz => fb_sm_cong fun i hi2 => by rw [updL_n (hln i (by omega))]
    by_cases e : i = k + 1
    · subst e
      rw [pk_us, fb_sm_succ, hsm k (Nat.le_refl _), updL_s, h.2 k (Nat.le_refl _), nI_add]
    · rw [pk_un e, hsm i (by omega)]
      exact h.2 i (by omega)
theorem p_settle {P T J C s len b0 : Nat} {fr to kd ord pos sd bg en ln : Nat → Nat} {S : Nat → Bool} {u v w0 : WU} {a : Nat → Nat} {post : Int32 → WU → Prop} (hs1 : Sim1 P T J C fr to kd ord pos sd bg en u v) (hs : s < 4) (hK : Kp u w0) (hL : Line len ln pos S w0) (hpl : ∀ p, p < 24 → w0.1 15 p = nI (a p)) (hch : ∀ p, S p = true → p < 24 ∧ a p < 3 ∧ v.1 2 (3 * p + a p) = nI (lqF v a p) ∧ lqF v a p < 8) (hb0 : b0 ≤ len) (hpre : PreA J s fr to kd ln u v a b0 (w0.2 4) (w0.1 17))
    (h1 : ∀ w, Ag [17] w0 w → PreA J s fr to kd ln u v a len (w.2 4) (w.1 17) → post (nI len) w)
    (h2 : ∀ w k, b0 ≤ k → k < len → Ag [17] w0 w → PreA J s fr to kd ln u v a (k + 1) (w.2 4) (w.1 17) → ¬ w.1 17 (k + 1) ≤ w0.1 25 0 → post (nI k) w) : wp_X1_settle (nI s) (nI b0) w0 post := by
  obtain ⟨hT, hPS, hJS, hO, hSS, hC⟩ := id hs1
  obtain ⟨l0, l1, l2, l3, l4⟩ := id hL
  have hp6 := hPS.2.2.2.2.2.2.1
  unfold wp_X1_settle
  refine pk_loop (W := fun n k st => wp_X1_settle_L2 (nI s) post n (nI k) st) (I := fun k st => b0 ≤ k ∧ Ag [17] w0 st ∧ PreA J s fr to kd ln u v a k (st.2 4) (st.1 17)) len b0 w0 hb0 ⟨Nat.le_refl _, Ag.rf _ _, hpre⟩ ?_ ?_
  · rintro n st ⟨-, hA, hP⟩
    have e24 : st.1 24 0 = nI len := by rw [hA.1 24 (by decide)]; exact l1
    refine ⟨fun _ => by rw [e24]; exact h1 st hA hP, fun hc => absurd (by rw [e24]; exact Int32.le_refl _) hc⟩
  · rintro n k st hk ⟨hbk, hA, hP⟩ ih
    have hKs : Kp u st := hK.ag hA fun k hk => by simp; omega
    have h170 : st.1 17 0 = 0 := by rw [hP.2 0 (Nat.zero_le _)]; rfl
    have hsS := hKs.sim hs1 h170
    obtain ⟨hT', hPS', hJS', hO', hSS', hC'⟩ := id hsS
    have e24 : st.1 24 0 = nI len := by rw [hA.1 24 (by decide)]; exact l1
    have e25 : st.1 25 0 = w0.1 25 0 := by rw [hA.1 25 (by decide)]
    have e14 : st.1 14 k = nI (ln k) := by rw [hA.1 14 (by decide)]; exact (l2 k hk).1
    have e15 : st.1 15 (ln k) = nI (a (ln k)) := by rw [hA.1 15 (by decide)]; exact hpl _ (l2 k hk).2.1
    obtain ⟨c1, c2, c3, c4⟩ := hch (ln k) (l2 k hk).2.2
    have hck : (nI k).toNatClampNeg = k := nI_clamp (by omega)
    have hck1 : (nI k + 1).toNatClampNeg = k + 1 := by rw [nI_1]; exact nI_clamp (by omega)
    have hcl : (nI (ln k)).toNatClampNeg = ln k := nI_clamp (by omega)
    have hin1 : vp_in (nI k + 1) 25 := by rw [nI_1]; exact vp_in_nI (by omega) (by decide)
    have hinl : vp_in (nI (ln k)) 24 := vp_in_nI c1 (by decide)
    refine ⟨fun hc => absurd (by rw [e24] at hc; exact hc) (nI_ge (a := k) (b := len) hk (by omega)), fun _ => ⟨vp_in_nI (by omega) (by decide), fun y1 hy1 => ?_⟩⟩
    rw [hck, e14] at hy1
    subst hy1
    refine ⟨hinl, ?_⟩
    unfold wp_X5_choiceOf
    rw [hcl, e15, three_n, nI_clamp (n := 3 * ln k + a (ln k)) (by omega)]
    have ech : st.1 0 (3 * ln k + a (ln k)) = v.1 2 (3 * ln k + a (ln k)) := by rw [hKs.1 0 (by omega)]; exact hp6 _ (by omega)
    refine ⟨vp_in_nI (by omega) (by decide), p_brought hs c1 (p_arrive (u := st) hJS.1 c1 (sim_f hsS).1 hSS' (fun j _ z => z) fun x hx => ⟨vp_in_nI (by omega) (by decide), ?_⟩)⟩
    rw [ech] at hx ⊢
    rw [hKs.2 0 (by omega), hKs.2 3 (by omega), hKs.2 1 (by omega), hKs.2 6 (by omega)] at hx
    have hnext := pre_next (len := len) (pos := pos) hO.2.2 l3 hk hP hx
    have e2 : (uJ st 4 (vp_updL (st.2 4) (ln k) x)).2 2 = u.2 2 := (hKs.j _).2 2 (by omega)
    have e4 : (uJ st 4 (vp_updL (st.2 4) (ln k) x)).2 4 (ln k) = x := by rw [uJ_s, updL_s]
    have e17 : (uJ st 4 (vp_updL (st.2 4) (ln k) x)).1 17 = st.1 17 := rfl
    unfold wp_X2_foughtAt
    rw [hcl, c3, nI_clamp (n := lqF v a (ln k)) (by omega), e2, e4]
    refine ⟨hinl, vp_in_nI c4 (by decide), p_bcL ⟨hin1, fun u7 hu7 => ⟨hin1, ?_⟩⟩⟩
    rw [hck1, hck, e17] at hu7
    have hA7 : Ag [17] w0 u7 := by rw [hu7]; exact (hA.j _).i (by decide) _
    have hP7 : PreA J s fr to kd ln u v a (k + 1) (u7.2 4) (u7.1 17) := by
      have x4 : u7.2 4 = vp_updL (st.2 4) (ln k) x := by rw [hu7]; exact uJ_s st 4 _
      have x17 : u7.1 17 = upd (st.1 17) (k + 1) (st.1 17 k + nI (fb_ct (tb (x &&& u.2 2 (lqF v a (ln k)))) 64)) := by rw [hu7]; exact uI_s _ _ _
      rw [x4, x17]; exact hnext
    have f25 : u7.1 25 0 = w0.1 25 0 := by rw [hA7.1 25 (by decide)]
    rw [hck1, f25]
    refine ⟨fun hle y hy => ?_, fun hnle => h2 u7 k hbk hk hA7 hP7 hnle⟩
    rw [hy, nI_1]
    exact ih u7 ⟨by omega, hA7, hP7⟩
