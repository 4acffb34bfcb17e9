/-! ===== the reference: what comes ===== -/
theorem tb_i2lb (x : Int32) (h : ∀ n, 8 ≤ n → ti x n = false) {n : Nat} (hn : n < 64) : tb x.toInt64 n = ti x n := by
  rcases Nat.lt_or_ge n 32 with q | q
  · exact tb_i2l x q
  · rw [ti_ge q]
    have h31 : x.toBitVec.getLsbD 31 = false := h 31 (by omega)
    unfold tb
    rw [Int32.toBitVec_toInt64, BitVec.getLsbD_signExtend, BitVec.msb_eq_getLsbD_last]
    have : ¬ n < 32 := by omega
    simp [this]
    intro _
    exact h31
theorem p_brings {s p l : Nat} {v : WU} {post : Int64 → Prop} (hs : s < 4) (hp : p < 24) (hl : l < 8) (e : v.1 15 p = nI l) (h : post (jshl (v.1 0 (4 * l + s)).toInt64 (nI (8 * l)) &&& (v.2 1 p ^^^ (-1)))) : wp_X9_brings (nI s) (nI p) v post := by
  have hcp : (nI p).toNatClampNeg = p := nI_clamp (by omega)
  have hin : vp_in (nI p) 24 := vp_in_nI hp (by decide)
  have e8 : 8 * nI l = nI (8 * l) := by have e3 : (8 : Int32) = nI 8 := rfl; rw [e3, pk_mul]
  unfold wp_X9_brings
  rw [hcp, e, four_n, nI_clamp (n := 4 * l + s) (by omega), e8]
  exact ⟨hin, vp_in_nI (by omega) (by decide), hin, hin, h⟩
theorem br_eq {P T : Nat} {u v : WU} (hT : TS u v) (hPS : PS P T u v) {s l p : Nat} (hs : s < 4) (hl : l < 8) (hp : p < 24) : jshl (v.1 0 (4 * l + s)).toInt64 (nI (8 * l)) &&& (v.2 1 p ^^^ (-1)) = brX (u.2 0 s) (nI l) (u.2 3 p) := by
  obtain ⟨⟨t1, t2, t3, t4, t5⟩, -⟩ := hT
  obtain ⟨hP, p1, p2, p3, p4, p5, p6, p7, p8, p9⟩ := id hPS
  refine tb_ext fun n hn => ?_
  rw [brX_bits _ _ hl hn, tb_and, tb_not _ hn, tb_jshl _ (by omega) hn, p9 p hp]
  by_cases h1 : 8 * l ≤ n
  · rw [tb_i2lb _ (t2 _ (by omega)) (by omega)]
    by_cases h2 : n < 8 * l + 8
    · have := t1 s l (n - 8 * l) hs hl (by omega)
      rw [show 8 * l + (n - 8 * l) = n by omega] at this
      simp [h1, h2, this]
    · rw [t2 _ (by omega) (n - 8 * l) (by omega)]
      simp [h2]
  · simp [h1]
theorem p_mbars {u v : WU} (hT : TS u v) {l : Nat} (hl : l < 8) {post : Int64 → Prop} (h : post (u.2 2 l)) : wp_X9_bars_ (nI l) v post := by
  obtain ⟨⟨t1, t2, t3, t4, t5⟩, -⟩ := hT
  unfold wp_X9_bars_
  refine loop_0 (W := fun n i s => wp_X9_bars__L5 (nI l) v post n s (nI i)) (I := fun i s => ∀ n, n < 64 → tb s n = (decide (n / 8 < i) && decide (n / 8 ≠ l) && ti (v.1 1 l) (n % 8))) 8 0 (fun n hn => by rw [tb_zero]; simp) ?_ ?_
  · intro n s hs
    refine ⟨fun _ => ?_, fun hc => absurd (by decide : (8 : Int32) ≤ nI 8) hc⟩
    have : s = u.2 2 l := tb_ext fun m hm => by
      have e := t4 l (m / 8) (m % 8) hl (by omega) (by omega)
      rw [show 8 * (m / 8) + m % 8 = m by omega] at e
      rw [hs m hm, e]
      have : m / 8 < 8 := by omega
      simp [this]
    rw [this]; exact h
  · intro n i s hi hs ih
    have e8 : 8 * nI i = nI (8 * i) := by have e3 : (8 : Int32) = nI 8 := rfl; rw [e3, pk_mul]
    refine ⟨fun hc => absurd hc (nI_ge (a := i) (b := 8) hi (by decide)), fun _ => ⟨fun hc y hy => ?_, fun hc => ⟨vp_in_nI hl (by decide), fun y3 hy3 y hy => ?_⟩⟩⟩
    · have hil : i = l := (nI_eq (by omega) (by omega)).mp hc
      rw [hy, nI_1]
      refine ih s fun m hm => ?_
      rw [hs m hm]
      by_cases e : m / 8 = i
      · have : ¬ i < i := by omega
        simp [e, hil]
      · by_cases e2 : m / 8 < i
        · have : m / 8 < i + 1 := by omega
          simp [e2, this]
        · have : ¬ m / 8 < i + 1 := by omega
          simp [e2, this]
    · have hil : i ≠ l := fun z => hc (by rw [z])
      rw [hy, nI_1]
      refine ih y3 fun m hm => ?_
      rw [hy3, nI_clamp (n := l) (by omega), e8, tb_or, hs m hm, tb_jshl _ (by omega) hm]
      by_cases e : m / 8 = i
      · have h1 : 8 * i ≤ m := by omega
        have h2 : m - 8 * i = m % 8 := by omega
        rw [tb_i2lb _ (t5 l hl) (by omega), h2]
        simp [e, hil, h1]
      · have hx : (decide (8 * i ≤ m) && tb (v.1 1 l).toInt64 (m - 8 * i)) = false := by
          by_cases h1 : 8 * i ≤ m
          · rw [tb_i2lb _ (t5 l hl) (by omega), t5 l hl (m - 8 * i) (by omega)]; simp
          · simp [h1]
        rw [hx]
        by_cases e2 : m / 8 < i
        · have : m / 8 < i + 1 := by omega
          simp [e2, this]
        · have : ¬ m / 8 < i + 1 := by omega
          simp [e2, this]
theorem p_comes {P J m s : Nat} {fr to kd lev od : Nat → Nat} {Lv : Nat → Bool} {v : WU} {bm : Nat → Int64} {post : WU → Prop} (hP : P ≤ 24) (hJ : J ≤ 40) (hs : s < 4) (eP : v.1 21 0 = nI P) (e25 : v.1 25 0 = nI m) (hf : ∀ j, j < J → v.1 5 j = nI (fr j) ∧ v.1 6 j = nI (to j) ∧ v.1 7 j = nI (kd j) ∧ fr j < P ∧ to j < P ∧ kd j < 4) (ho : Olst J m fr to lev od Lv (v.1 16))
    (hbm : ∀ p, p < P → ∃ l, l < 8 ∧ v.1 15 p = nI l ∧ bm p = jshl (v.1 0 (4 * l + s)).toInt64 (nI (8 * l)) &&& (v.2 1 p ^^^ (-1)))
    (h : ∀ c, (∀ p, p < P → ComAt J fr to kd Lv (v.2 0) (bm p) c p) → post (uJ v 2 c)) : wp_X9_comes (nI s) v post := by
  obtain ⟨o1, o2, o3, o4, o5⟩ := ho
  unfold wp_X9_comes
  refine loop_0 (W := fun n i st => wp_X9_comes_L2 (nI s) post _ n (nI i) st) (I := fun i st => ∃ c, st = uJ v 2 c ∧ ∀ p, p < i → c p = bm p) P v ⟨v.2 2, (uJ_self v 2).symm, fun p hp => absurd hp (Nat.not_lt_zero _)⟩ ?_ ?_
  · rintro n st ⟨c, rfl, hc0⟩
    refine ⟨fun _ => ?_, fun hc => absurd (by show v.1 21 0 ≤ nI P; rw [eP]; exact Int32.le_refl _) hc⟩
    refine loop_0 (W := fun n i st => wp_X9_comes_L30 post n (nI i) st) (I := fun k st => ∃ c, st = uJ v 2 c ∧ ∀ p, p < P → ∀ n, n < 64 → (tb (c p) n = true ↔ tb (bm p) n = true ∨ ∃ i, i < k ∧ to (od i) = p ∧ tb (c (fr (od i))) n = true ∧ tb (v.2 0 (kd (od i))) n = true)) m _ ⟨c, rfl, fun p hp n hn => ⟨fun q => Or.inl (by rw [← hc0 p hp]; exact q), fun q => ?_⟩⟩ ?_ ?_
    · rcases q with q | ⟨i, hi, _⟩
      · rw [hc0 p hp]; exact q
      · omega
    · rintro n st ⟨c, rfl, hc⟩
      refine ⟨fun _ => h c fun p hp n hn => ?_, fun hc => absurd (by show v.1 25 0 ≤ nI m; rw [e25]; exact Int32.le_refl _) hc⟩
      rw [hc p hp n hn]
      constructor
      · rintro (q | ⟨i, hi, h1, h2, h3⟩)
        · exact Or.inl q
        · exact Or.inr ⟨od i, (o2 i hi).2.1, (o2 i hi).2.2, h1, h2, h3⟩
      · rintro (q | ⟨j, hj, hl, h1, h2, h3⟩)
        · exact Or.inl q
        · obtain ⟨i, hi, ei⟩ := o3 j hj hl
          exact Or.inr ⟨i, hi, by rw [ei]; exact h1, by rw [ei]; exact h2, by rw [ei]; exact h3⟩
    · rintro n k st hk ⟨c, rfl, hc⟩ ih
      obtain ⟨k1, k2, k3⟩ := o2 k hk
      obtain ⟨f1, f2, f3, f4, f5, f6⟩ := hf (od k) k2
      have hck : (nI k).toNatClampNeg = k := nI_clamp (by omega)
      have hco : (nI (od k)).toNatClampNeg = od k := nI_clamp (by omega)
      have hin : vp_in (nI (od k)) 40 := vp_in_nI (by omega) (by decide)
      refine ⟨fun hc => absurd (show nI m ≤ nI k by rw [← e25]; exact hc) (nI_ge (a := k) (b := m) hk (by omega)), fun _ => ⟨vp_in_nI (by omega) (by decide), fun y4 hy4 => ?_⟩⟩
      have hy4 : y4 = nI (od k) := by rw [hy4, hck]; exact k1
      subst hy4
      have g5 : (uJ v 2 c).1 5 (nI (od k)).toNatClampNeg = nI (fr (od k)) := by rw [hco]; exact f1
      have g6 : (uJ v 2 c).1 6 (nI (od k)).toNatClampNeg = nI (to (od k)) := by rw [hco]; exact f2
      have g7 : (uJ v 2 c).1 7 (nI (od k)).toNatClampNeg = nI (kd (od k)) := by rw [hco]; exact f3
      rw [g5, g6, g7, nI_clamp (n := fr (od k)) (by omega), nI_clamp (n := to (od k)) (by omega), nI_clamp (n := kd (od k)) (by omega)]
      refine ⟨hin, vp_in_nI (by omega) (by decide), hin, vp_in_nI (by omega) (by decide), hin, vp_in_nI f6 (by decide), vp_in_nI (by omega) (by decide), fun u5 hu5 y6 hy6 => ?_⟩
      have g2 : (uJ v 2 c).2 2 = c := uJ_s v 2 c
      have g0 : (uJ v 2 c).2 0 = v.2 0 := rfl
      rw [g2, g0, uJ_uJ] at hu5
      rw [hy6, nI_1]
      have hne : ∀ i, i ≤ k → fr (od i) ≠ to (od k) := fun i hi z => by
        have a := o4 i k hi hk
        have b := o5 (od k) k2 k3
        rw [z] at a
        omega
      refine ih u5 ⟨_, hu5, fun p hp n hn => ?_⟩
      by_cases e : p = to (od k)
      · subst e
        rw [updL_s, tb_or, tb_and]
        constructor
        · intro q
          cases hb : tb (c (to (od k))) n with
          | true =>
            rcases (hc _ hp n hn).mp hb with z | ⟨i, hi, z1, z2, z3⟩
            · exact Or.inl z
            · exact Or.inr ⟨i, by omega, z1, by rw [updL_n (hne i (by omega))]; exact z2, z3⟩
          | false =>
            rw [hb] at q
            have q2 : tb (c (fr (od k))) n = true ∧ tb (v.2 0 (kd (od k))) n = true := by simpa using q
            exact Or.inr ⟨k, by omega, rfl, by rw [updL_n (hne k (Nat.le_refl _))]; exact q2.1, q2.2⟩
        · rintro (q | ⟨i, hi, z1, z2, z3⟩)
          · rw [(hc _ hp n hn).mpr (Or.inl q)]; rfl
          · rw [updL_n (hne i (by omega))] at z2
            by_cases ei : i = k
            · subst ei; rw [z2, z3]; simp
            · rw [(hc _ hp n hn).mpr (Or.inr ⟨i, by omega, z1, z2, z3⟩)]; rfl
      · rw [updL_n e, hc p hp n hn]
        constructor
        · rintro (q | ⟨i, hi, z1, z2, z3⟩)
          · exact Or.inl q
          · exact Or.inr ⟨i, by omega, z1, by rw [updL_n (hne i (by omega))]; exact z2, z3⟩
        · rintro (q | ⟨i, hi, z1, z2, z3⟩)
          · exact Or.inl q
          · rw [updL_n (hne i (by omega))] at z2
            have : i ≠ k := fun z => e (by rw [← z1, z])
            exact Or.inr ⟨i, by omega, z1, z2, z3⟩
  · rintro n i st hi ⟨c, rfl, hc0⟩ ih
    obtain ⟨l, hl, l1, l2⟩ := hbm i hi
    have hci : (nI i).toNatClampNeg = i := nI_clamp (by omega)
    refine ⟨fun hc => absurd (show nI P ≤ nI i by rw [← eP]; exact hc) (nI_ge (a := i) (b := P) hi (by omega)), fun _ => p_brings hs (by omega) hl l1 ⟨vp_in_nI (by omega) (by decide), fun u2 hu2 y hy => ?_⟩⟩
    have e0 : (uJ v 2 c).1 0 = v.1 0 := rfl
    have e1 : (uJ v 2 c).2 1 = v.2 1 := rfl
    rw [e0, e1, ← l2, hci, uJ_s, uJ_uJ] at hu2
    rw [hy, nI_1]
    refine ih u2 ⟨_, hu2, fun p hp => ?_⟩
    by_cases e : p = i
    · subst e; rw [updL_s]
    · rw [updL_n e]; exact hc0 p (by omega)
/-- the reference's world behind orders, reaches, comes -/
def wfl (w : WU) (g f : Nat → Int32) (m : Nat) (R : Nat → Int32) (c : Nat → Int64) : WU := uJ (uI (w25 (uI w 17 g) f (fun _ => nI m)) 13 R) 2 c
theorem p_mflow {P T J s : Nat} {fr to kd rk : Nat → Nat} {Lv : Nat → Bool} {w : WU} {bm : Nat → Int64} {post : WU → Prop} (hP : P ≤ 24) (hT : T < 24) (hJ : J ≤ 40) (hs : s < 4) (eP : w.1 21 0 = nI P) (eT : w.1 22 0 = nI T) (eJ : w.1 23 0 = nI J) (hf : ∀ j, j < J → w.1 5 j = nI (fr j) ∧ w.1 6 j = nI (to j) ∧ w.1 7 j = nI (kd j) ∧ fr j < P ∧ to j < P ∧ kd j < 4) (h14 : ∀ j, j < J → w.1 14 j = b01 (!Lv j)) (hrk : ∀ j, j < J → Lv j = true → rk (fr j) < rk (to j)) (hrkP : ∀ x, x < P → rk x < P)
    (hbm : ∀ p, p < P → ∃ l, l < 8 ∧ w.1 15 p = nI l ∧ bm p = jshl (w.1 0 (4 * l + s)).toInt64 (nI (8 * l)) &&& (w.2 1 p ^^^ (-1)))
    (h : ∀ g m lev od f R c, Olst J m fr to lev od Lv f → Lst J fr to Lv T (Sof R) → (∀ p, p < P → ComAt J fr to kd Lv (w.2 0) (bm p) c p) → post (wfl w g f m R c)) : wp_X9_orders w (fun u2 => wp_X9_reaches (u2.1 22 0) u2 (fun u3 => wp_X9_comes (nI s) u3 post)) := by
  refine p_orders hP hJ eP eJ (fun j hj => by obtain ⟨a, b, c, d, e, f⟩ := hf j hj; exact ⟨a, b, d, e⟩) h14 hrk hrkP fun g m lev od f ho => ?_
  have e22 : (w25 (uI w 17 g) f (fun _ => nI m)).1 22 0 = nI T := eT
  rw [e22]
  refine p_reaches (v := w25 (uI w 17 g) f (fun _ => nI m)) (J := J) (fr := fr) (to := to) hJ hT eJ (fun j hj => ?_) fun R hR => ?_
  · obtain ⟨a, b, c, d, e, f⟩ := hf j hj
    exact ⟨a, b, by omega, by omega⟩
  · refine p_comes (v := uI (w25 (uI w 17 g) f (fun _ => nI m)) 13 R) (bm := bm) (Lv := Lv) (lev := lev) (od := od) hP hJ hs eP rfl hf ho hbm fun c hc => h g m lev od f R c ho (hR.cong fun j hj => ?_) hc
    show decide (w.1 14 j = 0) = _
    rw [h14 j hj]; exact live_of _
