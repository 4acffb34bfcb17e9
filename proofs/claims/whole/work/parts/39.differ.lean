/-! ===== differ ===== -/
/-- r is the i-th member of D, by number, or NONE -/
def MemIs (D : Nat → Bool) (N : Nat) (i r : Int32) : Prop := (∃ p, p < N ∧ D p = true ∧ nI (fb_ct D p) = i ∧ r = nI p) ∨ ((∀ p, p < N → D p = true → nI (fb_ct D p) ≠ i) ∧ r = -1)
theorem mem_one {D E : Nat → Bool} {P : Nat} {i r r' : Int32} (hP : P ≤ 24) (he : ∀ p, p < P → D p = E p) (hout : ∀ p, P ≤ p → p < 24 → D p = false) (h : MemIs D 24 i r) (h' : MemIs E P i r') : r = r' := by
  have hct : ∀ p, p ≤ P → fb_ct D p = fb_ct E p := fun p hp => fb_ct_cong fun k hk => he k (by omega)
  rcases h with ⟨p, hp, hd, hc, rfl⟩ | ⟨hno, rfl⟩
  · have hpP : p < P := by
      rcases Nat.lt_or_ge p P with z | z
      · exact z
      · rw [hout p z hp] at hd; exact absurd hd (by decide)
    rcases h' with ⟨p', hp', hd', hc', rfl⟩ | ⟨hno', rfl⟩
    · rw [hct p (by omega)] at hc
      rw [he p hpP] at hd
      have a := fb_ct_le E p
      have b := fb_ct_le E p'
      have : p = p' := fb_ct_kth_one hd hd' ((nI_eq (by omega) (by omega)).mp (hc.trans hc'.symm))
      rw [this]
    · exact absurd (by rw [← hct p (by omega)]; exact hc) (hno' p hpP (by rw [← he p hpP]; exact hd))
  · rcases h' with ⟨p', hp', hd', hc', rfl⟩ | ⟨hno', rfl⟩
    · exact absurd (by rw [hct p' (by omega)]; exact hc') (hno p' (by omega) (by rw [he p' hp']; exact hd'))
    · rfl
theorem mem_neg {D : Nat → Bool} {N : Nat} {i r : Int32} (hN : N ≤ 24) (hi : ¬ (0 : Int32) ≤ i) (h : MemIs D N i r) : r = -1 := by
  rcases h with ⟨p, hp, hd, hc, rfl⟩ | ⟨_, rfl⟩
  · exfalso
    have := fb_ct_le D p
    exact hi (by rw [← hc]; exact nI_pos' (by omega))
  · rfl
theorem p_memberAt {x i : Int32} {post : Int32 → Prop} (h : ∀ r, MemIs (ti x) 24 i r → post r) : wp_X8_memberAt x i post := by
  unfold wp_X8_memberAt
  refine loop_0 (W := fun n k s => wp_X8_memberAt_L4 x i post n s (nI k)) (I := fun k s => s = nI (fb_ct (ti x) k) ∧ ∀ p, p < k → ti x p = true → nI (fb_ct (ti x) p) ≠ i) 24 0 ⟨rfl, fun p hp => absurd hp (Nat.not_lt_zero _)⟩ ?_ ?_
  · rintro n s ⟨a, b⟩
    exact ⟨fun _ => h _ (Or.inr ⟨b, rfl⟩), fun hc => absurd (by decide : (24 : Int32) ≤ nI 24) hc⟩
  · rintro n k s hk ⟨a, b⟩ ih
    refine ⟨fun hc => absurd hc (nI_ge (a := k) (b := 24) hk (by decide)), fun _ => h_holds _ (by omega) ?_⟩
    rw [tb_i2l _ (by omega)]
    cases hb : ti x k with
    | false =>
      refine br0 fun y hy => ?_
      rw [hy, nI_1]
      refine ih s ⟨by rw [fb_ct_succ, hb]; exact a, fun p hp hd => ?_⟩
      by_cases e : p = k
      · rw [e, hb] at hd; exact absurd hd (by decide)
      · exact b p (by omega) hd
    | true =>
      refine br1 ⟨fun hc y4 hy4 y hy => ?_, fun hc => ?_⟩
      · rw [hy, nI_1]
        refine ih y4 ⟨by rw [fb_ct_succ, hb, hy4, a, nI_1]; rfl, fun p hp hd => ?_⟩
        by_cases e : p = k
        · rw [e, ← a]; exact hc
        · exact b p (by omega) hd
      · exact h _ (Or.inl ⟨k, hk, hb, by rw [← a]; exact hc, rfl⟩)
theorem p_unlike {P T J C s t : Nat} {fr to kd ord pos sd bg en : Nat → Nat} {u v : WU} {post : Int32 → WU → Prop} (hs1 : Sim1 P T J C fr to kd ord pos sd bg en u v) (hs : s < 4) (ht : t < 4)
    (h : ∀ x A B E (S : Nat → Bool), (∀ p, p < P → ComAt J fr to kd (tb (u.2 6 0)) (u.2 1) (brX (u.2 0 s) (u.1 2 p) (u.2 3 p)) A p) → (∀ p, p < P → ComAt J fr to kd (tb (u.2 6 0)) (u.2 1) (brX (u.2 0 t) (u.1 2 p) (u.2 3 p)) B p) → (0 < P → Lst J fr to (tb (u.2 6 0)) T S) → (P = 0 → ∀ p, S p = false) → (∀ p, p < 24 → ti x p = (decide (B p ≠ A p) && S p)) → post x (uJ (uJ (uJ u 4 A) 5 E) 4 B)) : wp_X2_unlike (nI s) (nI t) u post := by
  refine p_run hs1 hs fun A hA => fun u11 hu11 => ?_
  have hE : ∃ E, u11 = uJ (uJ u 4 A) 5 E ∧ ∀ p, p < 24 → E p = A p := by
    refine ⟨_, hu11, fun p hp => ?_⟩
    have e0 : (0 : Int32).toNatClampNeg = 0 := by decide
    have e24 : (24 : Int32).toNatClampNeg = 24 := by decide
    rw [e0, e24, pk_cpy_in (Nat.zero_le _) (by omega), Nat.zero_add, Nat.sub_zero]
    exact congrFun (uJ_s u 4 A) p
  obtain ⟨E, rfl, hEA⟩ := hE
  refine p_run (u := uJ (uJ u 4 A) 5 E) (v := v) hs1 ht fun B hB => ?_
  have e4 : (uJ (uJ (uJ u 4 A) 5 E) 4 B).2 4 = B := uJ_s _ 4 B
  have e5 : (uJ (uJ (uJ u 4 A) 5 E) 4 B).2 5 = E := rfl
  refine loop_0 (W := fun n k x => wp_X2_unlike_L58 post n x (nI k) (uJ (uJ (uJ u 4 A) 5 E) 4 B)) (I := fun k x => ∀ n, n < 32 → ti x n = decide (n < k ∧ B n ≠ A n)) 24 0 (fun n _ => by rw [ti_zero]; simp) ?_ ?_
  · intro n x hx
    refine ⟨fun _ => ?_, fun hc => absurd (by decide : (24 : Int32) ≤ nI 24) hc⟩
    have key : ∀ r : Int32, (0 < P → Lst J fr to (tb (u.2 6 0)) T (ti r)) → (P = 0 → ∀ p, ti r p = false) → post (x &&& r) (uJ (uJ (uJ u 4 A) 5 E) 4 B) := by
      intro r hr hr0
      refine h _ A B E (ti r) hA hB hr hr0 fun p hp => ?_
      rw [ti_and, hx p (by omega)]
      congr 1
      simp [hp]
    exact p_ofProduct (u := uJ (uJ (uJ u 4 A) 5 E) 4 B) (v := v) hs1 (fun j _ z => z) (fun z => key 0 (fun q => by omega) (fun _ p => ti_zero p)) (fun h0 r hr _ => key r (fun _ => hr) (fun q => by omega))
  · intro n k x hk hx ih
    have hck : (nI k).toNatClampNeg = k := nI_clamp (by omega)
    have hin : vp_in (nI k) 24 := vp_in_nI hk (by decide)
    refine ⟨fun hc => absurd hc (nI_ge (a := k) (b := 24) hk (by decide)), fun _ => ⟨hin, hin, ?_⟩⟩
    rw [e4, e5, hck, hEA k hk, lgc_0]
    refine ⟨fun hc y hy => ?_, fun hc y5 hy5 y hy => ?_⟩
    · rw [hy, nI_1]
      refine ih x fun n hn => ?_
      rw [hx n hn]
      by_cases e : n = k
      · subst e; simp [hc]
      · have : (n < k ∧ B n ≠ A n) ↔ (n < k + 1 ∧ B n ≠ A n) := ⟨fun z => ⟨by omega, z.2⟩, fun z => ⟨by omega, z.2⟩⟩
        exact decide_eq_decide.mpr this
    · rw [hy, nI_1]
      refine ih y5 fun n hn => ?_
      rw [hy5, ti_or, ti_bit (by omega) hn, hx n hn]
      by_cases e : n = k
      · subst e; simp [hc]
      · have : (n < k ∧ B n ≠ A n) ↔ (n < k + 1 ∧ B n ≠ A n) := ⟨fun z => ⟨by omega, z.2⟩, fun z => ⟨by omega, z.2⟩⟩
        have hd : decide (n < k ∧ B n ≠ A n) = decide (n < k + 1 ∧ B n ≠ A n) := decide_eq_decide.mpr this
        rw [hd]
        simp [e]
theorem p_md68 {P : Nat} {i : Int32} {D : Nat → Bool} {w : WU} {post : Int32 → WU → Prop} (hP : P ≤ 24) (eP : w.1 21 0 = nI P) (hD : ∀ p, p < P → D p = (Sof (w.1 13) p && decide (w.2 2 p ≠ w.2 3 p))) (h : ∀ r, MemIs D P i r → post r w) : ∃ nn, wp_X9_differ_L68 i post nn 0 0 w := by
  refine loop_0 (W := fun n k s => wp_X9_differ_L68 i post n s (nI k) w) (I := fun k s => s = nI (fb_ct D k) ∧ ∀ p, p < k → D p = true → nI (fb_ct D p) ≠ i) P 0 ⟨rfl, fun p hp => absurd hp (Nat.not_lt_zero _)⟩ ?_ ?_
  · rintro n s ⟨a, b⟩
    exact ⟨fun _ => h _ (Or.inr ⟨b, rfl⟩), fun hc => absurd (by rw [eP]; exact Int32.le_refl _) hc⟩
  · rintro n k s hk ⟨a, b⟩ ih
    have hck : (nI k).toNatClampNeg = k := nI_clamp (by omega)
    have hin : vp_in (nI k) 24 := vp_in_nI (by omega) (by decide)
    have hno : D k = false → ∀ y : Int32, y = nI k + 1 → wp_X9_differ_L68 i post n s y w := by
      intro hb y hy
      rw [hy, nI_1]
      refine ih s ⟨by rw [fb_ct_succ, hb]; exact a, fun p hp hd => ?_⟩
      by_cases e : p = k
      · rw [e, hb] at hd; exact absurd hd (by decide)
      · exact b p (by omega) hd
    have hDk := hD k hk
    refine ⟨fun hc => absurd (by rw [eP] at hc; exact hc) (nI_ge (a := k) (b := P) hk (by omega)), fun _ => ⟨hin, ?_⟩⟩
    rw [hck, lgc_0]
    refine ⟨fun hc => hno ?_, fun hc => ⟨hin, hin, fun hc2 => ?_, fun hc2 => hno ?_⟩⟩
    · rw [hDk]; unfold Sof; simp [hc]
    · have hb : D k = true := by rw [hDk]; unfold Sof; simp [hc, hc2]; omega
      refine ⟨fun hne y4 hy4 y hy => ?_, fun he => h _ (Or.inl ⟨k, hk, hb, by rw [← a]; exact he, rfl⟩)⟩
      rw [hy, nI_1]
      refine ih y4 ⟨by rw [fb_ct_succ, hb, hy4, a, nI_1]; rfl, fun p hp hd => ?_⟩
      by_cases e : p = k
      · rw [e, ← a]; exact hne
      · exact b p (by omega) hd
    · rw [hDk]; simp [hc2]
theorem p_md28 {P : Nat} {x1 x3 : Int32} {w : WU} {post : Int32 → WU → Prop} {K : WU → Prop} (hP : P ≤ 24) (eP : w.1 21 0 = nI P) (h : ∀ o, (∀ p, p < P → o p = w.2 2 p) → K (uJ w 3 o)) : ∃ nn, wp_X9_differ_L28 x1 x3 post K nn 0 w := by
  refine loop_0 (W := fun n k s => wp_X9_differ_L28 x1 x3 post K n (nI k) s) (I := fun k s => ∃ o, s = uJ w 3 o ∧ ∀ p, p < k → o p = w.2 2 p) P w ⟨w.2 3, (uJ_self w 3).symm, fun p hp => absurd hp (Nat.not_lt_zero _)⟩ ?_ ?_
  · rintro n s ⟨o, rfl, ho⟩
    exact ⟨fun _ => h o ho, fun hc => absurd (by show w.1 21 0 ≤ nI P; rw [eP]; exact Int32.le_refl _) hc⟩
  · rintro n k s hk ⟨o, rfl, ho⟩ ih
    have hck : (nI k).toNatClampNeg = k := nI_clamp (by omega)
    have hin : vp_in (nI k) 24 := vp_in_nI (by omega) (by decide)
    refine ⟨fun hc => absurd (show nI P ≤ nI k by rw [← eP]; exact hc) (nI_ge (a := k) (b := P) hk (by omega)), fun _ => ⟨hin, hin, fun u1 hu1 y hy => ?_⟩⟩
    rw [hck, uJ_s, uJ_uJ] at hu1
    rw [hy, nI_1]
    refine ih u1 ⟨_, hu1, fun p hp => ?_⟩
    by_cases e : p = k
    · subst e; rw [updL_s]; rfl
    · rw [updL_n e]; exact ho p (by omega)
theorem s_differ {x1 x2 x3 : Int32} {u v : WU} (hs : Sim u v) {p : Int32 → WU → Prop} {q : Int32 → WU → Int32 → WU → Prop} (hp : ∀ r u', wp_X9_differ x1 x2 x3 v (q r u') → p r u') (hq : ∀ r u' v', Sim u' v' → q r u' r v') : wp_X8_differ x1 x2 x3 u p := by
  have hq0 := hq (-1) u v hs
  obtain ⟨P, T, J, C, fr, to, kd, ord, pos, sd, bg, en, hs1⟩ := hs
  obtain ⟨hT, hPS, hJS, hO, hSS, hC⟩ := id hs1
  obtain ⟨hP, p1, p2, p3, p4, p5, p6, p7, p8, p9⟩ := id hPS
  obtain ⟨hJ, j1, j2, j3, j4, j5⟩ := id hJS
  rcases in_or x1 4 (by decide) with ⟨s, hs, rfl⟩ | n1
  · rcases in_or x2 4 (by decide) with ⟨t, ht, rfl⟩ | n2
    · refine w_in hs (by decide) rfl (br1 (w_in ht (by decide) rfl (br1' (p_unlike hs1 hs ht fun x A B E S hA hB hS hS0 hx => p_memberAt fun r hr => hp _ _ ?_))))
      have hSout : ∀ p, P ≤ p → S p = false := fun p hpp => by
        rcases Nat.eq_zero_or_pos P with z | z
        · exact hS0 z p
        · cases hb : S p with
          | false => rfl
          | true =>
            have := lst_in (P := P) (fun j hj => by obtain ⟨q1, q2, q3, q4, q5, q6, q7, q8, q9⟩ := j3 j hj; exact q7) (by omega) (hS z) hb
            omega
      refine shp_in hs (br1 (shp_in ht (br1 ⟨fun h0 => ?_, fun h0 => ?_⟩)))
      · refine p_works hs1 ht fun g hh gg m lev od f R c hhh ho hR hc => p_md28 hP p3 fun o hoo => ?_
        refine p_works (u := u) (v := uJ (wfl (w45 v g hh) gg f m R c) 3 o) hs1 hs fun g' hh' gg' m' lev' od' f' R' c' hhh' ho' hR' hc' => ?_
        refine p_md68 (w := wfl (w45 (uJ (wfl (w45 v g hh) gg f m R c) 3 o) g' hh') gg' f' m' R' c') (D := fun p => (Sof R' p && decide (c' p ≠ o p))) hP p3 (fun p hp => rfl) fun r' hr' => ?_
        have : r = r' := mem_one hP (fun p hp => ?_) (fun p h1 h2 => ?_) hr hr'
        · rw [this]
          exact hq _ _ _ ⟨P, T, J, C, fr, to, kd, ord, pos, sd, bg, en, hs1⟩
        · have e1 := com_eq (s := s) hs1 (fun j _ z => z) hA hc' hp
          have e2 := com_eq (s := t) hs1 (fun j _ z => z) hB hc hp
          have e3 : o p = c p := hoo p hp
          rw [hx p (by omega), (hS (by omega)).one hR' p, e1, e2, e3, Bool.and_comm]
          congr 1
          exact decide_eq_decide.mpr ⟨fun z => z.symm, fun z => z.symm⟩
        · rw [hx p h2, hSout p h1]; simp
      · rw [mem_neg (Nat.le_refl _) h0 hr]
        exact hq _ _ _ ⟨P, T, J, C, fr, to, kd, ord, pos, sd, bg, en, hs1⟩
    · exact w_in hs (by decide) rfl (br1 (w_out n2 (by decide) rfl (br0' (hp _ _ (shp_in hs (br1 (shp_out n2 (br0 hq0))))))))
  · exact w_out n1 (by decide) rfl (br0 (hp _ _ (shp_out n1 (br0 hq0))))
