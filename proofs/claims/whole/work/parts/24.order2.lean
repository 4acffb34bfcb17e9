theorem andn_0 (a b : Int32) : a &&& (b ^^^ (-1)) = 0 ↔ ∀ n, ti a n = true → ti b n = true := by
  constructor
  · intro h n hn
    rcases Nat.lt_or_ge n 32 with q | q
    · have := congrArg (fun z => ti z n) h
      simp only [ti_and, ti_not _ q, ti_zero, hn] at this
      simpa using this
    · rw [ti_ge q] at hn; exact absurd hn (by decide)
  · intro h
    refine ti_ext fun n hn => ?_
    rw [ti_and, ti_not _ hn, ti_zero]
    cases e : ti a n with
    | false => rfl
    | true => rw [h n e]; rfl
theorem p_order21 {J r m : Nat} {fr to sd bg en rk o : Nat → Nat} {u : WU} {f : Nat → Int32} {x1 x3 : Int32} {post : WU → Prop} {K : Int32 → Int32 → WU → Prop} (hJ : J ≤ 40) (hf : ∀ j, j < J → u.1 3 j = nI (fr j) ∧ fr j < 24) (hS : SS J to sd bg en u) (hrk : ∀ j, j < J → tb (u.2 6 0) j = true → rk (fr j) < rk (to j))
    (hpl : Plc J fr to (u.2 6 0) m f o (ti x1)) (hr : ∀ x, x < 24 → rk x < r → ti x1 x = true)
    (h : ∀ y m' f' o', Plc J fr to (u.2 6 0) m' f' o' (ti y) → (∀ x, x < 24 → rk x < r + 1 → ti y x = true) → K y (nI m') (uI u 6 f')) :
    ∃ nn, wp_X3_orderParts_L21 x3 post K nn x1 (nI m) 0 (uI u 6 f) := by
  refine loop_0 (W := fun n i s => wp_X3_orderParts_L21 x3 post K n s.1 s.2.1 (nI i) s.2.2) (I := fun i s => ∃ m f o, s.2.1 = nI m ∧ s.2.2 = uI u 6 f ∧ Plc J fr to (u.2 6 0) m f o (ti s.1) ∧ (∀ x, x < 24 → rk x < r → ti s.1 x = true) ∧ (∀ x, x < i → rk x < r + 1 → ti s.1 x = true)) 24 (x1, nI m, uI u 6 f) ⟨m, f, o, rfl, rfl, hpl, hr, fun x hx => absurd hx (Nat.not_lt_zero _)⟩ ?_ ?_
  · rintro n ⟨y, z, s⟩ ⟨m, f, o, h1, h2, h3, h4, h5⟩
    dsimp only at h1 h2 h3 h4 h5
    subst h1; subst h2
    exact ⟨fun _ => h y m f o h3 h5, fun hc => absurd (by decide : (24 : Int32) ≤ nI 24) hc⟩
  · rintro n i ⟨y, z, s⟩ hi ⟨m, f, o, h1, h2, h3, h4, h5⟩ ih
    dsimp only at h1 h2 h3 h4 h5
    subst h1; subst h2
    refine ⟨fun hc => absurd hc (nI_ge (a := i) (b := 24) hi (by decide)), fun _ => ⟨fun hc => ?_, fun hc => ?_⟩⟩
    · have hm : m = 24 := by
        have := h3.1
        have : ¬ m < 24 := fun q => (nI_ge (a := m) (b := 24) q (by decide)) hc
        omega
      subst hm
      exact h y 24 f o h3 fun x hx _ => h3.full hx
    · have hm : m < 24 := by
        rcases Nat.lt_or_ge m 24 with q | q
        · exact q
        · exact absurd (nI_le (a := 24) (b := m) q (by have := h3.1; omega)) hc
      refine h_holds _ (by omega) ?_
      rw [tb_i2l _ (by omega)]
      cases hb : ti y i with
      | true =>
        refine br1' fun y25 hy => ?_
        rw [hy, nI_1]
        refine ih (y, nI m, _) ⟨m, f, o, rfl, rfl, h3, h4, fun x hx hk => ?_⟩
        by_cases e : x = i
        · rw [e]; exact hb
        · exact h5 x (by omega) hk
      | false =>
        refine br0' (p_dirIn (u := uI u 6 f) (sd := sd) (bg := bg) (en := en) (fr := fr) (to := to) hJ hi hf hS fun d d1 d2 => ⟨fun hz => ?_, fun hz => ?_⟩)
        · intro y25 hy
          rw [hy, nI_1]
          refine ih (y, nI m, _) ⟨m, f, o, rfl, rfl, h3, h4, fun x hx hk => ?_⟩
          by_cases e : x = i
          · exfalso
            subst e
            refine hz ((andn_0 _ _).mpr fun k hk2 => ?_)
            obtain ⟨j, hj, hl, ht, hfr⟩ := d1 k hk2
            have := hrk j hj hl
            rw [ht, hfr] at this
            exact h4 k (by have := (hf j hj).2; omega) (by omega)
          · exact h5 x (by omega) hk
        · refine ⟨vp_in_nI hm (by decide), fun u18 hu18 y19 hy19 y20 hy20 y25 hy => ?_⟩
          rw [nI_clamp (by omega), uI_s, uI_uI] at hu18
          have hbit : ti y20 = fun x => ti y x || decide (x = i) := by
            funext x
            rw [hy20, ti_or]
            rcases Nat.lt_or_ge x 32 with q | q
            · rw [ti_bit (by omega) q]
            · rw [ti_ge q, ti_ge q]
              have : ¬ x = i := by omega
              simp [this]
          rw [hy, nI_1, hy19, nI_1]
          refine ih (y20, nI (m + 1), u18) ⟨m + 1, upd f m (nI i), (fun k => if k = m then i else o k), rfl, hu18, ?_, fun x hx hk => ?_, fun x hx hk => ?_⟩
          · show Plc J fr to (u.2 6 0) (m + 1) (upd f m (nI i)) _ (ti y20)
            rw [hbit]
            exact h3.add hm hi hb fun j hj hl ht => (andn_0 _ _).mp hz _ (d2 j hj hl ht)
          · show ti y20 x = true
            rw [hbit]; dsimp only; rw [h4 x hx hk]; rfl
          · show ti y20 x = true
            rw [hbit]; dsimp only
            by_cases e : x = i
            · simp [e]
            · rw [h5 x (by omega) hk]; rfl
theorem os_of {J m : Nat} {fr to o : Nat → Nat} {th : Int64} {f : Nat → Int32} {S : Nat → Bool} (hto : ∀ j, j < J → fr j < 24 ∧ to j < 24) (h : Plc J fr to th m f o S) (hall : ∀ x, x < 24 → S x = true) : ∃ pos, OSf J fr to o pos th f := by
  obtain ⟨h1, h2, h3, h4, h5⟩ := h
  obtain ⟨g, hg⟩ : ∃ g : Nat → Nat, ∀ x, x < 24 → g x < m ∧ o (g x) = x := by
    have : ∀ x, ∃ k, x < 24 → k < m ∧ o k = x := fun x => by
      by_cases hx : x < 24
      · obtain ⟨k, a, b⟩ := h4 x (hall x hx)
        exact ⟨k, fun _ => ⟨a, b⟩⟩
      · exact ⟨0, fun q => absurd q hx⟩
    exact ⟨fun x => Classical.choose (this x), fun x => Classical.choose_spec (this x)⟩
  have hm : m = 24 := by
    have := fb_holes m 24 g (fun i hi => (hg i hi).1) (fun i j hij hj e => by
      have a := (hg i (by omega)).2
      have b := (hg j hj).2
      rw [e, b] at a
      omega)
    omega
  subst hm
  have hinj : ∀ i k, i < 24 → k < 24 → o i = o k → i = k := fun i k hi hk e => by
    rcases Nat.lt_trichotomy i k with q | q | q
    · exact absurd e (h3 i k q hk)
    · exact q
    · exact absurd e.symm (h3 k i q hi)
  refine ⟨g, fun k hk => ⟨(h2 k hk).1, (h2 k hk).2.1, ?_⟩, fun p hp => hg p hp, fun j hj hl => ?_⟩
  · exact hinj _ _ (hg _ (h2 k hk).2.1).1 hk (hg _ (h2 k hk).2.1).2
  · obtain ⟨i, hi, ei⟩ := h5 (g (to j)) (hg _ (hto j hj).2).1 j hj hl (hg _ (hto j hj).2).2.symm
    have : g (fr j) = i := hinj _ _ (hg _ (hto j hj).1).1 (by have := (hg _ (hto j hj).2).1; omega) ((hg _ (hto j hj).1).2.trans ei.symm)
    omega
theorem p_order {J : Nat} {fr to sd bg en rk : Nat → Nat} {u : WU} {post : WU → Prop} (hJ : J ≤ 40) (hf : ∀ j, j < J → u.1 3 j = nI (fr j) ∧ fr j < 24 ∧ to j < 24) (hS : SS J to sd bg en u) (hrk : ∀ j, j < J → tb (u.2 6 0) j = true → rk (fr j) < rk (to j)) (hrk24 : ∀ x, x < 24 → rk x < 24)
    (h : ∀ f ord pos, OSf J fr to ord pos (u.2 6 0) f → post (uI u 6 f)) : wp_X3_orderParts u post := by
  have hfin : ∀ m f o S, Plc J fr to (u.2 6 0) m f o S → (∀ x, x < 24 → S x = true) → post (uI u 6 f) := by
    intro m f o S hp hall
    obtain ⟨pos, hpos⟩ := os_of (fun j hj => (hf j hj).2) hp hall
    exact h f o pos hpos
  unfold wp_X3_orderParts
  refine loop_0 (W := fun n i s => wp_X3_orderParts_L6 post n s.1 s.2.1 (nI i) s.2.2) (I := fun i s => ∃ m f o, s.2.1 = nI m ∧ s.2.2 = uI u 6 f ∧ Plc J fr to (u.2 6 0) m f o (ti s.1) ∧ (∀ x, x < 24 → rk x < i → ti s.1 x = true)) 24 (0, 0, u) ⟨0, u.1 6, id, rfl, (uI_self u 6).symm, ⟨by omega, fun k hk => absurd hk (Nat.not_lt_zero _), fun i k _ hk => absurd hk (Nat.not_lt_zero _), fun x hx => by rw [ti_zero] at hx; exact absurd hx (by decide), fun k hk => absurd hk (Nat.not_lt_zero _)⟩, fun x _ hk => absurd hk (Nat.not_lt_zero _)⟩ ?_ ?_
  · rintro n ⟨y, z, s⟩ ⟨m, f, o, h1, h2, h3, h4⟩
    dsimp only at h1 h2 h3 h4
    subst h1; subst h2
    exact ⟨fun _ => hfin m f o _ h3 fun x hx => h4 x hx (hrk24 x hx), fun hc => absurd (by decide : (24 : Int32) ≤ nI 24) hc⟩
  · rintro n i ⟨y, z, s⟩ hi ⟨m, f, o, h1, h2, h3, h4⟩ ih
    dsimp only at h1 h2 h3 h4
    subst h1; subst h2
    refine ⟨fun hc => absurd hc (nI_ge (a := i) (b := 24) hi (by decide)), fun _ => ⟨fun hc => ?_, fun hc => ?_⟩⟩
    · have hm : m = 24 := by
        have := h3.1
        have : ¬ m < 24 := fun q => (nI_ge (a := m) (b := 24) q (by decide)) hc
        omega
      subst hm
      exact hfin 24 f o _ h3 fun x hx => h3.full hx
    · refine p_order21 hJ (fun j hj => ⟨(hf j hj).1, (hf j hj).2.1⟩) hS hrk h3 h4 fun y' m' f' o' q1 q2 => fun y26 hy => ?_
      rw [hy, nI_1]
      exact ih (y', nI m', uI u 6 f') ⟨m', f', o', rfl, rfl, q1, q2⟩
