/-! ===== what comes to the parts: the class ===== -/
def ComAt (J : Nat) (fr to kd : Nat → Nat) (Lv : Nat → Bool) (al : Nat → Int64) (b : Int64) (A : Nat → Int64) (p : Nat) : Prop :=
  ∀ n, n < 64 → (tb (A p) n = true ↔ tb b n = true ∨ ∃ j, j < J ∧ Lv j = true ∧ to j = p ∧ tb (A (fr j)) n = true ∧ tb (al (kd j)) n = true)
theorem bool_iff {a b : Bool} (h : a = true ↔ b = true) : a = b := by cases a <;> cases b <;> simp_all
theorem com_one {J : Nat} {fr to kd pos : Nat → Nat} {Lv D : Nat → Bool} {al b A B : Nat → Int64} (hpos : ∀ j, j < J → Lv j = true → pos (fr j) < pos (to j)) (hD : ∀ j, j < J → Lv j = true → D (to j) = true → D (fr j) = true) (hA : ∀ p, D p = true → ComAt J fr to kd Lv al (b p) A p) (hB : ∀ p, D p = true → ComAt J fr to kd Lv al (b p) B p) : ∀ p, D p = true → A p = B p := by
  have key : ∀ m p, pos p < m → D p = true → A p = B p := by
    intro m
    induction m with
    | zero => intro p h; omega
    | succ m ih =>
      intro p hp hDp
      refine tb_ext fun n hn => bool_iff ?_
      rw [hA p hDp n hn, hB p hDp n hn]
      constructor
      · rintro (h | ⟨j, hj, hl, ht, h1, h2⟩)
        · exact Or.inl h
        · have hlt := hpos j hj hl
          rw [ht] at hlt
          have e := ih (fr j) (by omega) (hD j hj hl (by rw [ht]; exact hDp))
          exact Or.inr ⟨j, hj, hl, ht, by rw [← e]; exact h1, h2⟩
      · rintro (h | ⟨j, hj, hl, ht, h1, h2⟩)
        · exact Or.inl h
        · have hlt := hpos j hj hl
          rw [ht] at hlt
          have e := ih (fr j) (by omega) (hD j hj hl (by rw [ht]; exact hDp))
          exact Or.inr ⟨j, hj, hl, ht, by rw [e]; exact h1, h2⟩
  exact fun p => key (pos p + 1) p (by omega)
theorem p_arrive {J p : Nat} {fr to kd sd bg en : Nat → Nat} {u : WU} {lv own : Int64} {post : WU → Prop} (hJ : J ≤ 40) (hp : p < 24) (hf : ∀ j, j < J → u.1 3 j = nI (fr j) ∧ u.1 5 j = nI (kd j) ∧ fr j < 24 ∧ kd j < 4) (hS : SS J to sd bg en u) (hsub : ∀ j, j < J → tb lv j = true → tb (u.2 6 0) j = true)
    (h : ∀ x, (∀ n, n < 64 → (tb x n = true ↔ tb own n = true ∨ ∃ j, j < J ∧ tb lv j = true ∧ to j = p ∧ tb (u.2 4 (fr j)) n = true ∧ tb (u.2 1 (kd j)) n = true)) → post (uJ u 4 (vp_updL (u.2 4) p x))) : wp_X2_arrive (nI p) own lv u post := by
  obtain ⟨s1, s2, s3, s4, s5, s6, s7⟩ := hS p hp
  have hcu : (nI p).toNatClampNeg = p := nI_clamp (by omega)
  have hinu : vp_in (nI p) 24 := vp_in_nI hp (by decide)
  refine ⟨hinu, fun y3 hy3 => ?_⟩
  rw [hcu, s1] at hy3
  subst hy3
  refine pk_loop (W := fun n i s => wp_X2_arrive_L14 (nI p) lv post n s (nI i) u) (I := fun i s => bg p ≤ i ∧ ∀ n, n < 64 → (tb s n = true ↔ tb own n = true ∨ ∃ k, bg p ≤ k ∧ k < i ∧ tb lv (sd k) = true ∧ tb (u.2 4 (fr (sd k))) n = true ∧ tb (u.2 1 (kd (sd k))) n = true)) (en p) (bg p) own s3 ⟨Nat.le_refl _, fun n hn => ⟨fun q => Or.inl q, fun q => ?_⟩⟩ ?_ ?_
  · rcases q with q | ⟨k, k1, k2, _⟩
    · exact q
    · omega
  · rintro n s ⟨-, i2⟩
    refine ⟨hinu, fun _ => ⟨hinu, fun u1 hu1 => ?_⟩, fun hc => absurd (by rw [hcu, s2]; exact Int32.le_refl _) hc⟩
    rw [hcu] at hu1
    rw [hu1]
    refine h s fun m hm => ?_
    rw [i2 m hm]
    constructor
    · rintro (q | ⟨k, k1, k2, k3, k4, k5⟩)
      · exact Or.inl q
      · obtain ⟨a1, a2, a3, a4⟩ := s6 k k1 k2
        exact Or.inr ⟨sd k, a2, k3, a4, k4, k5⟩
    · rintro (q | ⟨j, hj, hl, ht, k4, k5⟩)
      · exact Or.inl q
      · obtain ⟨i, q1, q2, q3⟩ := s7 j hj (hsub j hj hl) ht
        exact Or.inr ⟨i, q1, q2, by rw [q3]; exact hl, by rw [q3]; exact k4, by rw [q3]; exact k5⟩
  · rintro n i s hi ⟨hbi, i2⟩ ih
    obtain ⟨a1, a2, a3, a4⟩ := s6 i hbi hi
    have hci : (nI i).toNatClampNeg = i := nI_clamp (by omega)
    have hcs : (nI (sd i)).toNatClampNeg = sd i := nI_clamp (by omega)
    obtain ⟨f1, f2, f3, f4⟩ := hf (sd i) a2
    refine ⟨hinu, fun hc => absurd (by rw [hcu, s2] at hc; exact hc) (nI_ge (a := i) (b := en p) hi (by omega)), fun _ => ⟨vp_in_nI (by omega) (by decide), fun y2 hy2 => ?_⟩⟩
    rw [hci, a1] at hy2
    subst hy2
    refine h_holds _ (by omega) ?_
    cases hb : tb lv (sd i) with
    | false =>
      refine br0 fun y hy => ?_
      rw [hy, nI_1]
      refine ih s ⟨by omega, fun m hm => ?_⟩
      rw [i2 m hm]
      constructor
      · rintro (q | ⟨k, k1, k2, k3⟩)
        · exact Or.inl q
        · exact Or.inr ⟨k, k1, by omega, k3⟩
      · rintro (q | ⟨k, k1, k2, k3⟩)
        · exact Or.inl q
        · by_cases e : k = i
          · subst e; rw [hb] at k3; exact absurd k3.1 (by decide)
          · exact Or.inr ⟨k, k1, by omega, k3⟩
    | true =>
      have hin : vp_in (nI (sd i)) 40 := vp_in_nI (by omega) (by decide)
      refine br1 ?_
      rw [hcs, f1, f2, nI_clamp (n := fr (sd i)) (by omega), nI_clamp (n := kd (sd i)) (by omega)]
      refine ⟨hin, vp_in_nI f3 (by decide), hin, vp_in_nI f4 (by decide), fun y7 hy7 y hy => ?_⟩
      rw [hy, nI_1]
      refine ih y7 ⟨by omega, fun m hm => ?_⟩
      rw [hy7, tb_or, tb_and]
      constructor
      · intro q
        cases hs : tb s m with
        | true =>
          rcases (i2 m hm).mp hs with z | ⟨k, k1, k2, k3⟩
          · exact Or.inl z
          · exact Or.inr ⟨k, k1, by omega, k3⟩
        | false =>
          rw [hs] at q
          have q2 : tb (u.2 4 (fr (sd i))) m = true ∧ tb (u.2 1 (kd (sd i))) m = true := by simpa using q
          exact Or.inr ⟨i, hbi, by omega, hb, q2.1, q2.2⟩
      · rintro (q | ⟨k, k1, k2, k3, k4, k5⟩)
        · rw [(i2 m hm).mpr (Or.inl q)]; rfl
        · by_cases e : k = i
          · subst e; rw [k4, k5]; simp
          · rw [(i2 m hm).mpr (Or.inr ⟨k, k1, by omega, k3, k4, k5⟩)]; rfl
def brX (a : Int64) (l : Int32) (f : Int64) : Int64 := (a &&& jshl 255 (l * 8 + 0)) &&& (f ^^^ (-1))
theorem tb_255 : ∀ k, k < 64 → tb 255 k = decide (k < 8) := by decide +kernel
theorem brX_bits (a f : Int64) {l n : Nat} (hl : l < 8) (hn : n < 64) : tb (brX a (nI l) f) n = (tb a n && decide (8 * l ≤ n ∧ n < 8 * l + 8) && !tb f n) := by
  unfold brX
  have e : nI l * 8 + 0 = nI (8 * l) := pairOf_n l 0
  rw [e, tb_and, tb_and, tb_jshl _ (by omega) hn, tb_255 _ (by omega), tb_not _ hn]
  by_cases h1 : 8 * l ≤ n
  · by_cases h2 : n < 8 * l + 8
    · have : n - 8 * l < 8 := by omega
      simp [h1, h2, this]
    · have : ¬ n - 8 * l < 8 := by omega
      simp [h2, this]
  · simp [h1]
theorem p_brought {s p : Nat} {l : Int32} {u : WU} {post : Int64 → Prop} (hs : s < 4) (hp : p < 24) (h : post (brX (u.2 0 s) l (u.2 3 p))) : wp_X2_brought (nI s) (nI p) l u post := by
  unfold wp_X2_brought wp_X8_pairsOf wp_X8_pairOf
  rw [nI_clamp (n := s) (by omega), nI_clamp (n := p) (by omega)]
  exact ⟨vp_in_nI hs (by decide), vp_in_nI hp (by decide), h⟩
theorem p_run14 {J s : Nat} {fr to kd ord pos sd bg en : Nat → Nat} {u : WU} {lv : Int64} {post : WU → Prop} (hJ : J ≤ 40) (hs : s < 4) (hf : ∀ j, j < J → u.1 3 j = nI (fr j) ∧ u.1 5 j = nI (kd j) ∧ fr j < 24 ∧ kd j < 4) (hto : ∀ j, j < J → to j < 24) (hO : OS J fr to ord pos u) (hS : SS J to sd bg en u) (hsub : ∀ j, j < J → tb lv j = true → tb (u.2 6 0) j = true)
    (h : ∀ A, (∀ p, p < 24 → ComAt J fr to kd (tb lv) (u.2 1) (brX (u.2 0 s) (u.1 2 p) (u.2 3 p)) A p) → post (uJ u 4 A)) : wp_X2_run_c14 (nI s) lv u post := by
  obtain ⟨o1, o2, o3⟩ := id hO
  unfold wp_X2_run_c14
  refine loop_0 (W := fun n k st => wp_X2_run_c14_L3 (nI s) lv post n (nI k) st) (I := fun k st => ∃ A, st = uJ u 4 A ∧ ∀ p, p < 24 → pos p < k → ComAt J fr to kd (tb lv) (u.2 1) (brX (u.2 0 s) (u.1 2 p) (u.2 3 p)) A p) 24 u ⟨u.2 4, (uJ_self u 4).symm, fun p _ hk => absurd hk (Nat.not_lt_zero _)⟩ ?_ ?_
  · rintro n st ⟨A, rfl, hA⟩
    exact ⟨fun _ => h A fun p hp => hA p hp (o2 p hp).1, fun hc => absurd (by decide : (24 : Int32) ≤ nI 24) hc⟩
  · rintro n k st hk ⟨A, rfl, hA⟩ ih
    obtain ⟨k1, k2, k3⟩ := o1 k hk
    have hck : (nI k).toNatClampNeg = k := nI_clamp (by omega)
    have hcp : (nI (ord k)).toNatClampNeg = ord k := nI_clamp (by omega)
    refine ⟨fun hc => absurd hc (nI_ge (a := k) (b := 24) hk (by decide)), fun _ => ⟨vp_in_nI hk (by decide), fun y1 hy1 => ?_⟩⟩
    have hy1 : y1 = nI (ord k) := by rw [hy1, hck]; exact k1
    subst hy1
    refine ⟨vp_in_nI k2 (by decide), p_brought hs k2 (p_arrive (u := uJ u 4 A) hJ k2 hf hS hsub fun x hx => fun y4 hy4 => ?_)⟩
    rw [hy4, nI_1]
    have e4 : (uJ u 4 A).2 4 = A := uJ_s u 4 A
    rw [e4] at hx ⊢
    have hne : ∀ j, j < J → tb lv j = true → pos (to j) ≤ k → fr j ≠ ord k := fun j hj hl hle e => by
      have := o3 j hj (hsub j hj hl)
      rw [e, k3] at this
      omega
    refine ih _ ⟨vp_updL A (ord k) x, uJ_uJ u 4 A _, fun p hp hpk n hn => ?_⟩
    by_cases e : p = ord k
    · subst e
      rw [updL_s, hx n hn, hcp]
      constructor
      · rintro (q | ⟨j, hj, hl, ht, h1, h2⟩)
        · exact Or.inl q
        · exact Or.inr ⟨j, hj, hl, ht, by rw [updL_n (hne j hj hl (by rw [ht, k3]; omega))]; exact h1, h2⟩
      · rintro (q | ⟨j, hj, hl, ht, h1, h2⟩)
        · exact Or.inl q
        · rw [updL_n (hne j hj hl (by rw [ht, k3]; omega))] at h1
          exact Or.inr ⟨j, hj, hl, ht, h1, h2⟩
    · have hpk2 : pos p < k := by
        rcases Nat.lt_or_ge (pos p) k with z | z
        · exact z
        · have : pos p = k := by omega
          exact absurd (by rw [← this]; exact ((o2 p hp).2).symm) e
      rw [updL_n e, hA p hp hpk2 n hn]
      constructor
      · rintro (q | ⟨j, hj, hl, ht, h1, h2⟩)
        · exact Or.inl q
        · exact Or.inr ⟨j, hj, hl, ht, by rw [updL_n (hne j hj hl (by rw [ht]; omega))]; exact h1, h2⟩
      · rintro (q | ⟨j, hj, hl, ht, h1, h2⟩)
        · exact Or.inl q
        · rw [updL_n (hne j hj hl (by rw [ht]; omega))] at h1
          exact Or.inr ⟨j, hj, hl, ht, h1, h2⟩
theorem p_run33 {J s : Nat} {fr to kd ord pos sd bg en : Nat → Nat} {u : WU} {lv : Int64} {post : WU → Prop} (hJ : J ≤ 40) (hs : s < 4) (hf : ∀ j, j < J → u.1 3 j = nI (fr j) ∧ u.1 5 j = nI (kd j) ∧ fr j < 24 ∧ kd j < 4) (hto : ∀ j, j < J → to j < 24) (hO : OS J fr to ord pos u) (hS : SS J to sd bg en u) (hsub : ∀ j, j < J → tb lv j = true → tb (u.2 6 0) j = true)
    (h : ∀ A, (∀ p, p < 24 → ComAt J fr to kd (tb lv) (u.2 1) (brX (u.2 0 s) (u.1 18 p) (u.2 3 p)) A p) → post (uJ u 4 A)) : wp_X2_run_c33 (nI s) lv u post := by
  obtain ⟨o1, o2, o3⟩ := id hO
  unfold wp_X2_run_c33
  refine loop_0 (W := fun n k st => wp_X2_run_c33_L3 (nI s) lv post n (nI k) st) (I := fun k st => ∃ A, st = uJ u 4 A ∧ ∀ p, p < 24 → pos p < k → ComAt J fr to kd (tb lv) (u.2 1) (brX (u.2 0 s) (u.1 18 p) (u.2 3 p)) A p) 24 u ⟨u.2 4, (uJ_self u 4).symm, fun p _ hk => absurd hk (Nat.not_lt_zero _)⟩ ?_ ?_
  · rintro n st ⟨A, rfl, hA⟩
    exact ⟨fun _ => h A fun p hp => hA p hp (o2 p hp).1, fun hc => absurd (by decide : (24 : Int32) ≤ nI 24) hc⟩
  · rintro n k st hk ⟨A, rfl, hA⟩ ih
    obtain ⟨k1, k2, k3⟩ := o1 k hk
    have hck : (nI k).toNatClampNeg = k := nI_clamp (by omega)
    have hcp : (nI (ord k)).toNatClampNeg = ord k := nI_clamp (by omega)
    refine ⟨fun hc => absurd hc (nI_ge (a := k) (b := 24) hk (by decide)), fun _ => ⟨vp_in_nI hk (by decide), fun y1 hy1 => ?_⟩⟩
    have hy1 : y1 = nI (ord k) := by rw [hy1, hck]; exact k1
    subst hy1
    refine ⟨vp_in_nI k2 (by decide), p_brought hs k2 (p_arrive (u := uJ u 4 A) hJ k2 hf hS hsub fun x hx => fun y4 hy4 => ?_)⟩
    rw [hy4, nI_1]
    have e4 : (uJ u 4 A).2 4 = A := uJ_s u 4 A
    rw [e4] at hx ⊢
    have hne : ∀ j, j < J → tb lv j = true → pos (to j) ≤ k → fr j ≠ ord k := fun j hj hl hle e => by
      have := o3 j hj (hsub j hj hl)
      rw [e, k3] at this
      omega
    refine ih _ ⟨vp_updL A (ord k) x, uJ_uJ u 4 A _, fun p hp hpk n hn => ?_⟩
    by_cases e : p = ord k
    · subst e
      rw [updL_s, hx n hn, hcp]
      constructor
      · rintro (q | ⟨j, hj, hl, ht, h1, h2⟩)
        · exact Or.inl q
        · exact Or.inr ⟨j, hj, hl, ht, by rw [updL_n (hne j hj hl (by rw [ht, k3]; omega))]; exact h1, h2⟩
      · rintro (q | ⟨j, hj, hl, ht, h1, h2⟩)
        · exact Or.inl q
        · rw [updL_n (hne j hj hl (by rw [ht, k3]; omega))] at h1
          exact Or.inr ⟨j, hj, hl, ht, h1, h2⟩
    · have hpk2 : pos p < k := by
        rcases Nat.lt_or_ge (pos p) k with z | z
        · exact z
        · have : pos p = k := by omega
          exact absurd (by rw [← this]; exact ((o2 p hp).2).symm) e
      rw [updL_n e, hA p hp hpk2 n hn]
      constructor
      · rintro (q | ⟨j, hj, hl, ht, h1, h2⟩)
        · exact Or.inl q
        · exact Or.inr ⟨j, hj, hl, ht, by rw [updL_n (hne j hj hl (by rw [ht]; omega))]; exact h1, h2⟩
      · rintro (q | ⟨j, hj, hl, ht, h1, h2⟩)
        · exact Or.inl q
        · rw [updL_n (hne j hj hl (by rw [ht]; omega))] at h1
          exact Or.inr ⟨j, hj, hl, ht, h1, h2⟩
