/-! ===== cheapest: which set goes before which; the choice ===== -/
def ahF (x y : Int32) : Bool := if fb_ct (ti x) 32 = fb_ct (ti y) 32 then decide (¬ ((x ^^^ y) &&& (-(x ^^^ y))) &&& x = 0) else decide (fb_ct (ti x) 32 < fb_ct (ti y) 32)
def btF (cost : Nat → Int32) (C : Nat) (x y : Int32) : Bool := if priceF cost x C = priceF cost y C then ahF x y else decide (priceF cost x C < priceF cost y C)
theorem p_cmp {a b : Int32} {post : Int32 → Prop} (h0 : a = b → post 0) (h1 : a ≠ b → a < b → post (-1)) (h2 : a ≠ b → ¬ a < b → post 1) : wp_J6_compare_7cf53 a b post := by
  refine ⟨fun hle => ⟨fun hne => h2 hne fun z => absurd (Int32.lt_of_lt_of_le z hle) Int32.lt_irrefl, h0⟩, fun hnle => h1 (fun z => hnle (by rw [z]; exact Int32.le_refl _)) (Int32.not_le.mp hnle)⟩
theorem b01_dec {p : Prop} [Decidable p] {post : Int32 → Prop} (h : post (b01 (decide p))) : (p → post 1) ∧ (¬ p → post 0) := by
  by_cases e : p
  · rw [decide_eq_true e] at h; exact ⟨fun _ => h, fun z => absurd e z⟩
  · rw [decide_eq_false e] at h; exact ⟨fun z => absurd z e, fun _ => h⟩
theorem p_xbetter {C : Nat} {x y : Int32} {u : WU} {post : Int32 → Prop} (hC : C ≤ 10) (e : u.1 23 0 = nI C) (h : post (b01 (btF (u.1 13) C x y))) : wp_X0_isBetter x y u post := by
  unfold wp_X0_isBetter
  refine p_priceX hC e (p_priceX hC e ?_)
  unfold btF at h
  refine p_cmp (fun ep => ?_) (fun hne hlt => ?_) (fun hne hlt => ?_)
  · rw [if_pos ep] at h
    refine br0 (p_bcI (p_bcI ?_))
    unfold ahF at h
    have b1 := fb_ct_le (ti x) 32
    have b2 := fb_ct_le (ti y) 32
    refine p_cmp (fun ec => ?_) (fun hne hlt => ?_) (fun hne hlt => ?_)
    · have ec' : fb_ct (ti x) 32 = fb_ct (ti y) 32 := (nI_eq (by omega) (by omega)).mp ec
      rw [if_pos ec'] at h
      refine br0 ?_
      obtain ⟨h1, h2⟩ := b01_dec h
      exact ⟨fun z => h2 (fun q => q z), fun z => h1 z⟩
    · have hne' : ¬ fb_ct (ti x) 32 = fb_ct (ti y) 32 := fun z => hne (by rw [z])
      rw [if_neg hne', decide_eq_true ((nI_ltI (by omega) (by omega)).mp hlt)] at h
      exact ⟨fun z => absurd z (by decide), fun _ => ⟨fun z => absurd z (by decide), fun _ => h⟩⟩
    · have hne' : ¬ fb_ct (ti x) 32 = fb_ct (ti y) 32 := fun z => hne (by rw [z])
      have hnl : ¬ fb_ct (ti x) 32 < fb_ct (ti y) 32 := fun z => hlt (nI_lt z (by omega))
      rw [if_neg hne', decide_eq_false hnl] at h
      exact ⟨fun z => absurd z (by decide), fun _ => ⟨fun _ => h, fun z => absurd (by decide) z⟩⟩
  · rw [if_neg hne, decide_eq_true hlt] at h
    exact ⟨fun z => absurd z (by decide), fun _ => ⟨fun z => absurd z (by decide), fun _ => h⟩⟩
  · rw [if_neg hne, decide_eq_false hlt] at h
    exact ⟨fun z => absurd z (by decide), fun _ => ⟨fun _ => h, fun z => absurd (by decide) z⟩⟩
theorem ct_int {k : Nat} (hk : k < 2 ^ 31) : fb_ct (tb (nI k).toInt64) 64 = fb_ct (ti (nI k)) 32 := by
  rw [nI_l hk, ct_ext (m := 32) (n := 64) (by omega) (fun n h1 h2 => ?_)]
  · exact fb_ct_cong fun n hn => by
      rw [tb_lN, ti_nI]
      have : n < 64 := by omega
      simp [hn, this]
  · rw [tb_lN]
    have : k.testBit n = false := Nat.testBit_lt_two_pow (Nat.lt_of_lt_of_le hk (Nat.pow_le_pow_right (by omega) (by omega)))
    simp [this]
theorem p_ahead {a b : Nat} (ha : a < 2 ^ 31) (hb : b < 2 ^ 31) {post : Int32 → Prop} (h : post (b01 (ahF (nI a) (nI b)))) : wp_X9_isAhead (nI a) (nI b) post := by
  unfold wp_X9_isAhead
  refine p_bits (p_bits ?_)
  rw [ct_int ha, ct_int hb]
  have b1 := fb_ct_le (ti (nI a)) 32
  have b2 := fb_ct_le (ti (nI b)) 32
  unfold ahF at h
  refine ⟨fun ec y3 hy3 => ?_, fun hne => p_bits (p_bits ?_)⟩
  · have ec' : fb_ct (ti (nI a)) 32 = fb_ct (ti (nI b)) 32 := (nI_eq (by omega) (by omega)).mp ec
    rw [if_pos ec'] at h
    obtain ⟨h1, h2⟩ := b01_dec h
    rw [hy3, Int32.and_comm]
    exact ⟨fun z => h2 (fun q => q z), fun z => h1 z⟩
  · have hne' : ¬ fb_ct (ti (nI a)) 32 = fb_ct (ti (nI b)) 32 := fun z => hne (by rw [z])
    rw [ct_int ha, ct_int hb]
    rw [if_neg hne'] at h
    obtain ⟨h1, h2⟩ := b01_dec h
    exact ⟨fun z => h2 (fun q => nI_ge q (by omega) z), fun z => h1 (by
      rcases Nat.lt_or_ge (fb_ct (ti (nI a)) 32) (fb_ct (ti (nI b)) 32) with y | y
      · exact y
      · exact absurd (nI_le y (by omega)) z)⟩
def bstF (ok : Nat → Bool) (bt : Int32 → Int32 → Bool) : Nat → Int32
  | 0 => -1
  | k + 1 => if (bstF ok bt k = -1 ∨ bt (nI k) (bstF ok bt k) = true) ∧ ok k = true then nI k else bstF ok bt k
theorem bstF_step (ok : Nat → Bool) (bt : Int32 → Int32 → Bool) (k : Nat) : bstF ok bt (k + 1) = if (bstF ok bt k = -1 ∨ bt (nI k) (bstF ok bt k) = true) ∧ ok k = true then nI k else bstF ok bt k := rfl
theorem bstF_in (ok : Nat → Bool) (bt : Int32 → Int32 → Bool) : ∀ n, bstF ok bt n = -1 ∨ ∃ k, k < n ∧ bstF ok bt n = nI k
  | 0 => Or.inl rfl
  | n + 1 => by
    rw [bstF_step]
    by_cases c : (bstF ok bt n = -1 ∨ bt (nI n) (bstF ok bt n) = true) ∧ ok n = true
    · rw [if_pos c]; exact Or.inr ⟨n, by omega, rfl⟩
    · rw [if_neg c]
      rcases bstF_in ok bt n with z | ⟨k, hk, z⟩
      · exact Or.inl z
      · exact Or.inr ⟨k, by omega, z⟩
theorem x18 (u : WU) (g g' : Nat → Int32) (A A' : Nat → Int64) : uJ (uI (uJ (uI u 18 g) 4 A) 18 g') 4 A' = uJ (uI u 18 g') 4 A' := by
  show (va_up (va_up u.1 18 g) 18 g', va_up (va_up u.2 4 A) 4 A') = (va_up u.1 18 g', va_up u.2 4 A')
  rw [bx_uu, bx_uu]
theorem x18_self (u : WU) : uJ (uI u 18 (u.1 18)) 4 (u.2 4) = u := by
  rw [uI_self, uJ_self]
theorem p_xcheap {P T J C s : Nat} {fr to kd ord pos sd bg en : Nat → Nat} {u v : WU} {ok : Nat → Bool} {post : Int32 → WU → Prop} (hs1 : Sim1 P T J C fr to kd ord pos sd bg en u v) (hs : s < 4) (hok : ∀ k, ok k = true ↔ EndsOK P T J C s fr to kd u (nI k))
    (h : ∀ g A, post (bstF ok (btF (u.1 13) C) (2 ^ C)) (uJ (uI u 18 g) 4 A)) : wp_X4_cheapestSet (nI s) u post := by
  obtain ⟨hT, hPS, hJS, hO, hSS, hC⟩ := id hs1
  obtain ⟨hC10, c1, c2, c3⟩ := id hC
  have e31 := two_C31 C (by omega)
  intro y20 hy20
  have hy20 : y20 = nI (2 ^ C) := by rw [hy20, c1]; exact two_C C (by omega)
  subst hy20
  refine loop_0 (W := fun m k st => wp_X4_cheapestSet_L15 (nI s) (nI (2 ^ C)) post m st.1 (nI k) st.2) (I := fun k st => st.1 = bstF ok (btF (u.1 13) C) k ∧ ∃ g A, st.2 = uJ (uI u 18 g) 4 A) (2 ^ C) (-1, u) ⟨rfl, u.1 18, u.2 4, (x18_self u).symm⟩ ?_ ?_
  · rintro m ⟨y, st⟩ ⟨h1, g, A, e⟩
    dsimp only at h1 e
    subst e
    exact ⟨fun _ => by rw [h1]; exact h g A, fun hc => absurd (Int32.le_refl _) hc⟩
  · rintro m k ⟨y, st⟩ hk ⟨h1, g, A, e⟩ ih
    dsimp only at h1 e
    subst e
    have hskip : ¬ ((bstF ok (btF (u.1 13) C) k = -1 ∨ btF (u.1 13) C (nI k) (bstF ok (btF (u.1 13) C) k) = true) ∧ ok k = true) → ∀ g A, ∀ z : Int32, z = nI k + 1 → wp_X4_cheapestSet_L15 (nI s) (nI (2 ^ C)) post m y z (uJ (uI u 18 g) 4 A) := by
      intro hn g A z hz
      rw [hz, nI_1]
      exact ih (y, _) ⟨by dsimp only; rw [bstF_step, if_neg hn]; exact h1, g, A, rfl⟩
    have htry : (bstF ok (btF (u.1 13) C) k = -1 ∨ btF (u.1 13) C (nI k) (bstF ok (btF (u.1 13) C) k) = true) → wp_X4_cheapestSet_J39 (nI s) y (nI (2 ^ C)) (nI k) (uJ (uI u 18 g) 4 A) post (fun (y1 : Int32) (y2 : Int32) (u3 : WU) => wp_X4_cheapestSet_L15 (nI s) (nI (2 ^ C)) post m y1 y2 u3) := by
      intro hb
      refine p_xends (u := uJ (uI u 18 g) 4 A) (v := v) hs1 hs fun g' A' b hbb => ?_
      rw [x18]
      have hbb : b = true ↔ EndsOK P T J C s fr to kd u (nI k) := hbb
      rw [← hok k] at hbb
      cases b with
      | false => exact br0 (hskip (fun z => by have := hbb.mpr z.2; exact absurd this (by decide)) g' A')
      | true =>
        refine br1 fun z hz => ?_
        rw [hz, nI_1]
        exact ih (nI k, _) ⟨by dsimp only; rw [bstF_step, if_pos ⟨hb, hbb.mp rfl⟩], g', A', rfl⟩
    refine ⟨fun hc => absurd hc (nI_ge hk e31), fun _ => ⟨fun hm => htry (Or.inl (h1.symm.trans hm)), fun hm => ?_⟩⟩
    refine p_xbetter (u := uJ (uI u 18 g) 4 A) hC10 c1 ?_
    have e13 : (uJ (uI u 18 g) 4 A).1 13 = u.1 13 := rfl
    rw [e13]
    cases hb : btF (u.1 13) C (nI k) y with
    | false => exact br0 (hskip (fun z => by
        rcases z.1 with q | q
        · exact hm (h1.trans q)
        · rw [← h1, hb] at q; exact absurd q (by decide)) g A)
    | true => exact br1 (htry (Or.inr (by rw [← h1]; exact hb)))
theorem p_mcheap {P T J C s : Nat} {fr to kd ord pos sd bg en : Nat → Nat} {u v : WU} {ok : Nat → Bool} {post : Int32 → WU → Prop} (hs1 : Sim1 P T J C fr to kd ord pos sd bg en u v) (hs : s < 4) (hok : ∀ k, ok k = true ↔ EndsOK P T J C s fr to kd u (nI k))
    (h : ∀ v', Sim1 P T J C fr to kd ord pos sd bg en u v' → post (bstF ok (btF (u.1 13) C) (2 ^ C)) v') : ∃ nn, wp_X9_cheapest_L13 (nI s) post nn (-1) 0 v := by
  have hC10 := hs1.2.2.2.2.2.1
  have e31 := two_C31 C (by omega)
  refine loop_0 (W := fun m k st => wp_X9_cheapest_L13 (nI s) post m st.1 (nI k) st.2) (I := fun k st => st.1 = bstF ok (btF (u.1 13) C) k ∧ Sim1 P T J C fr to kd ord pos sd bg en u st.2) (2 ^ C) (-1, v) ⟨rfl, hs1⟩ ?_ ?_
  · rintro m ⟨y, st⟩ ⟨h1, h2⟩
    dsimp only at h1 h2
    have e2 : (1 : Int32) <<< (st.1 24 0 &&& 31) = nI (2 ^ C) := by rw [h2.2.2.2.2.2.2.2.1]; exact two_C C (by omega)
    exact ⟨fun _ => by rw [h1]; exact h st h2, fun hc => absurd (by rw [e2]; exact Int32.le_refl _) hc⟩
  · rintro m k ⟨y, st⟩ hk ⟨h1, h2⟩ ih
    dsimp only at h1 h2
    obtain ⟨hC10, c1, c2, c3⟩ := id h2.2.2.2.2.2
    have e2 : (1 : Int32) <<< (st.1 24 0 &&& 31) = nI (2 ^ C) := by rw [c2]; exact two_C C (by omega)
    have epr : ∀ x, priceF (st.1 12) x C = priceF (u.1 13) x C := fun x => priceF_cong fun c hc => ((c3 c hc).2.2.2.1).symm
    have hskip : ¬ ((bstF ok (btF (u.1 13) C) k = -1 ∨ btF (u.1 13) C (nI k) (bstF ok (btF (u.1 13) C) k) = true) ∧ ok k = true) → ∀ v', Sim1 P T J C fr to kd ord pos sd bg en u v' → ∀ z : Int32, z = nI k + 1 → wp_X9_cheapest_L13 (nI s) post m y z v' := by
      intro hn v' hv' z hz
      rw [hz, nI_1]
      exact ih (y, v') ⟨by dsimp only; rw [bstF_step, if_neg hn]; exact h1, hv'⟩
    have htry : (bstF ok (btF (u.1 13) C) k = -1 ∨ btF (u.1 13) C (nI k) (bstF ok (btF (u.1 13) C) k) = true) → wp_X9_cheapest_J63 (nI s) y (nI k) st post (fun (y2 : Int32) (y3 : Int32) (u4 : WU) => wp_X9_cheapest_L13 (nI s) post m y2 y3 u4) := by
      intro hb
      refine p_mends h2 hs fun v' n hv' hn hnn => ?_
      rw [← hok k] at hnn
      refine ⟨fun hle z hz => ?_, fun hnle => hskip (fun z => hnle (by rw [hnn.mpr z.2]; decide)) v' hv'⟩
      have h0 : n = 0 := by
        have := (nI_leI (a := n) (b := 0) (by omega) (by decide)).mp hle
        omega
      rw [hz, nI_1]
      exact ih (nI k, v') ⟨by dsimp only; rw [bstF_step, if_pos ⟨hb, hnn.mp h0⟩], hv'⟩
    refine ⟨fun hc => absurd (by rw [e2] at hc; exact hc) (nI_ge hk e31), fun _ => p_priceM hC10 c2 ⟨fun hm => htry (Or.inl (h1.symm.trans hm)), fun hm => p_priceM hC10 c2 ?_⟩⟩
    rw [epr, epr]
    have hno : btF (u.1 13) C (nI k) y = false → ¬ ((bstF ok (btF (u.1 13) C) k = -1 ∨ btF (u.1 13) C (nI k) (bstF ok (btF (u.1 13) C) k) = true) ∧ ok k = true) := fun hb z => by
      rcases z.1 with q | q
      · exact hm (h1.trans q)
      · rw [← h1, hb] at q; exact absurd q (by decide)
    refine ⟨fun hlt => hskip (hno ?_) st h2, fun hnlt => p_priceM hC10 c2 ?_⟩
    · unfold btF
      have hne : ¬ priceF (u.1 13) (nI k) C = priceF (u.1 13) y C := fun z => by rw [z] at hlt; exact absurd hlt Int32.lt_irrefl
      rw [if_neg hne]
      exact decide_eq_false fun z => absurd (Int32.lt_trans z hlt) Int32.lt_irrefl
    · rw [epr]
      refine ⟨fun hne => htry (Or.inr ?_), fun he => ?_⟩
      · rw [← h1]
        unfold btF
        rw [if_neg hne]
        refine decide_eq_true ?_
        have hle := Int32.not_lt.mp hnlt
        exact Int32.lt_of_le_of_ne hle hne
      · obtain ⟨kb, hkb, ekb⟩ : ∃ kb, kb < k ∧ y = nI kb := by
          rcases bstF_in ok (btF (u.1 13) C) k with z | ⟨kb, z1, z2⟩
          · exact absurd (h1.trans z) hm
          · exact ⟨kb, z1, h1.trans z2⟩
        have hbt : btF (u.1 13) C (nI k) y = ahF (nI k) y := by unfold btF; rw [if_pos he]
        rw [ekb]
        refine p_ahead (by omega) (by omega) ?_
        rw [← ekb, ← hbt]
        cases hb : btF (u.1 13) C (nI k) y with
        | false => exact br0 (hskip (hno hb) st h2)
        | true => exact br1 (htry (Or.inr (by rw [← h1]; exact hb)))
theorem s_cheapest {x1 : Int32} {u v : WU} (hs : Sim u v) {p : Int32 → WU → Prop} {q : Int32 → WU → Int32 → WU → Prop} (hp : ∀ r u', wp_X9_cheapest x1 v (q r u') → p r u') (hq : ∀ r u' v', Sim u' v' → q r u' r v') : wp_X8_cheapest x1 u p := by
  have hq0 := hq (-1) u v hs
  obtain ⟨P, T, J, C, fr, to, kd, ord, pos, sd, bg, en, hs1⟩ := hs
  rcases in_or x1 4 (by decide) with ⟨s, hs, rfl⟩ | n1
  · obtain ⟨ok, hok⟩ : ∃ ok : Nat → Bool, ∀ k, ok k = true ↔ EndsOK P T J C s fr to kd u (nI k) := ⟨fun k => @decide _ (Classical.propDecidable (EndsOK P T J C s fr to kd u (nI k))), fun k => @decide_eq_true_iff _ (Classical.propDecidable _)⟩
    refine w_in hs (by decide) rfl (br1 (p_xcheap hs1 hs hok fun g A => hp _ _ ?_))
    refine shp_in hs (br1' (p_mcheap hs1 hs hok fun v' hv' => hq _ _ _ ⟨P, T, J, C, fr, to, kd, ord, pos, sd, bg, en, hv'⟩))
  · exact w_out n1 (by decide) rfl (br0 (hp _ _ (shp_out n1 (br0' hq0))))
