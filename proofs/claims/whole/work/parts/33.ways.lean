/-! ===== how many ways; count ===== -/
def pw (S : Nat → Bool) (m : Nat → Nat) : Nat → Nat
  | 0 => 1
  | p + 1 => if S p = true then pw S m p * m p else pw S m p
theorem pw_cong {S S' : Nat → Bool} {m : Nat → Nat} : ∀ {n : Nat}, (∀ p, p < n → S p = S' p) → pw S m n = pw S' m n
  | 0, _ => rfl
  | n + 1, h => by
    show (if S n = true then pw S m n * m n else pw S m n) = (if S' n = true then pw S' m n * m n else pw S' m n)
    rw [pw_cong (fun p hp => h p (by omega)), h n (by omega)]
theorem pw_step {S : Nat → Bool} {m : Nat → Nat} {n : Nat} (h : 1 ≤ m n) : pw S m n ≤ pw S m (n + 1) := by
  show pw S m n ≤ (if S n = true then pw S m n * m n else pw S m n)
  split
  · exact Nat.le_mul_of_pos_right _ h
  · exact Nat.le_refl _
theorem pw_mono {S : Nat → Bool} {m : Nat → Nat} {N : Nat} (hm : ∀ p, p < N → 1 ≤ m p) {a : Nat} : ∀ d, a + d ≤ N → pw S m a ≤ pw S m (a + d)
  | 0, _ => Nat.le_refl _
  | d + 1, h => Nat.le_trans (pw_mono hm d (by omega)) (pw_step (hm _ (by omega)))
def mnF (v : WU) (p : Nat) : Nat := (v.1 3 p).toNatClampNeg
theorem many_of {P T : Nat} {u v : WU} (h : PS P T u v) {p : Nat} (hp : p < P) : u.1 1 p = nI (mnF v p) ∧ v.1 3 p = nI (mnF v p) ∧ 1 ≤ mnF v p ∧ mnF v p ≤ 3 := by
  obtain ⟨hP, p1, p2, p3, p4, p5, p6, p7, p8, p9⟩ := id h
  obtain ⟨r1, m, t, m1, m3, htm, r2, r3, r4, r5, r6⟩ := p7 p hp
  have e : mnF v p = m := by unfold mnF; rw [r2]; exact nI_clamp (by omega)
  rw [e, r1, r2]
  exact ⟨rfl, rfl, m1, m3⟩
theorem p_wayCount {P T J C : Nat} {fr to kd ord pos sd bg en : Nat → Nat} {u v : WU} {post : Int32 → Prop} (hs : Sim1 P T J C fr to kd ord pos sd bg en u v)
    (h : ∀ S : Nat → Bool, (0 < P → Lst J fr to (tb (u.2 6 0)) T S) → (pw S (mnF v) P ≤ 6561 → post (nI (pw S (mnF v) P))) ∧ (6561 < pw S (mnF v) P → post (-1))) : wp_X2_wayCount u post := by
  obtain ⟨hT, hPS, hR⟩ := id hs
  obtain ⟨hP, p1, p2, p3, p4, p5, p6, p7, p8, p9⟩ := id hPS
  have key : ∀ r : Int32, (0 < P → Lst J fr to (tb (u.2 6 0)) T (ti r)) → ∃ nn : Nat, wp_X2_wayCount_L16 r u post nn 1 0 := by
    intro r hr
    obtain ⟨q1, q2⟩ := h (ti r) hr
    have hmono := @pw_mono (ti r) (mnF v) P (fun p hp => (many_of hPS hp).2.2.1)
    refine loop_0 (W := fun n i s => wp_X2_wayCount_L16 r u post n s (nI i)) (I := fun i s => s = nI (pw (ti r) (mnF v) i) ∧ pw (ti r) (mnF v) i ≤ 6561) P 1 ⟨rfl, by show 1 ≤ 6561; decide⟩ ?_ ?_
    · rintro n s ⟨h1, h2⟩
      exact ⟨fun _ => by rw [h1]; exact q1 h2, fun hc => absurd (by rw [p2]; exact Int32.le_refl _) hc⟩
    · rintro n i s hi ⟨h1, h2⟩ ih
      obtain ⟨a1, a2, a3, a4⟩ := many_of hPS hi
      have hstep : ∀ x : Int32, x = nI (pw (ti r) (mnF v) (i + 1)) → pw (ti r) (mnF v) (i + 1) < 2 ^ 31 → wp_X2_wayCount_J48 r x (nI i) u post (fun (y2 : Int32) (y3 : Int32) => wp_X2_wayCount_L16 r u post n y2 y3) := by
        intro x hx hlt
        refine ⟨fun hc y hy => ?_, fun hc => q2 ?_⟩
        · rw [hy, nI_1]
          refine ih x ⟨hx, ?_⟩
          rw [hx] at hc
          exact (nI_leI (b := 6561) hlt (by decide)).mp hc
        · have : ¬ pw (ti r) (mnF v) (i + 1) ≤ 6561 := fun z => hc (by rw [hx]; exact nI_le (b := 6561) z (by decide))
          have := hmono (a := i + 1) (P - (i + 1)) (by omega)
          rw [show i + 1 + (P - (i + 1)) = P by omega] at this
          omega
      refine ⟨fun hc => absurd (by rw [p2] at hc; exact hc) (nI_ge (a := i) (b := P) hi (by omega)), fun _ => h_holds _ (by omega) ?_⟩
      rw [tb_i2l _ (by omega)]
      cases hb : ti r i with
      | false =>
        have e : pw (ti r) (mnF v) (i + 1) = pw (ti r) (mnF v) i := by
          show (if ti r i = true then _ else _) = _
          rw [hb]; rfl
        exact br0 (hstep s (by rw [e]; exact h1) (by rw [e]; omega))
      | true =>
        have e : pw (ti r) (mnF v) (i + 1) = pw (ti r) (mnF v) i * mnF v i := by
          show (if ti r i = true then _ else _) = _
          rw [hb]; rfl
        refine br1 ⟨vp_in_nI (by omega) (by decide), fun y hy => hstep y ?_ ?_⟩
        · rw [hy, h1, nI_clamp (by omega), a1, pk_mul, e]
        · rw [e]
          have : pw (ti r) (mnF v) i * mnF v i ≤ 6561 * 3 := Nat.mul_le_mul h2 a4
          omega
  unfold wp_X2_wayCount
  exact p_ofProduct hs (fun j _ z => z) (fun z => key 0 (fun q => by omega)) (fun _ r hr _ => key r (fun _ => hr))
theorem p_mways {P T J C : Nat} {fr to kd ord pos sd bg en : Nat → Nat} {u v : WU} {post : Int32 → WU → Prop} (hs : Sim1 P T J C fr to kd ord pos sd bg en u v)
    (h : ∀ g hh R, (∀ j, j < J → g j = b01 (!tb (u.2 6 0) j)) → (∀ p, p < P → hh p = u.1 2 p) → Lst J fr to (tb (u.2 6 0)) T (Sof R) → (pw (Sof R) (mnF v) P ≤ 6561 → post (nI (pw (Sof R) (mnF v) P)) (uI (w45 v g hh) 13 R)) ∧ (6561 < pw (Sof R) (mnF v) P → post (-1) (uI (w45 v g hh) 13 R))) : wp_X9_ways v post := by
  obtain ⟨hT, hPS, hR⟩ := id hs
  obtain ⟨hP, p1, p2, p3, p4, p5, p6, p7, p8, p9⟩ := id hPS
  refine p_mreachT hs fun g hh R hg hhh hR => ?_
  obtain ⟨q1, q2⟩ := h g hh R hg hhh hR
  have e21 : (uI (w45 v g hh) 13 R).1 21 0 = nI P := p3
  have e13 : (uI (w45 v g hh) 13 R).1 13 = R := rfl
  have e3 : (uI (w45 v g hh) 13 R).1 3 = v.1 3 := rfl
  generalize uI (w45 v g hh) 13 R = v' at *
  have hl : (6561 : Int64) = lN 6561 := rfl
  refine loop_0 (W := fun n i s => wp_X9_ways_L16 post _ n s (nI i) v') (I := fun i s => ∃ w : Nat, s = lN w ∧ ((pw (Sof R) (mnF v) i ≤ 6561 ∧ w = pw (Sof R) (mnF v) i) ∨ (6561 < pw (Sof R) (mnF v) i ∧ 6561 < w ∧ w ≤ 19683))) P 1 ⟨1, rfl, Or.inl ⟨by show 1 ≤ 6561; decide, rfl⟩⟩ ?_ ?_
  · rintro n s ⟨w, rfl, hw⟩
    refine ⟨fun _ => ⟨fun hc => ?_, fun hc => ?_⟩, fun hc => absurd (by rw [e21]; exact Int32.le_refl _) hc⟩
    · rw [lg_cmp_le, hl] at hc
      rcases hw with ⟨a, b⟩ | ⟨a, b, c⟩
      · rw [lN_i, b]; exact q1 a
      · exact absurd ((lN_le (by omega) (by decide)).mp hc) (by omega)
    · rw [lg_cmp_le, hl] at hc
      rcases hw with ⟨a, b⟩ | ⟨a, b, c⟩
      · exact absurd ((lN_le (by omega) (by decide)).mpr (by omega)) hc
      · exact q2 a
  · rintro n i s hi ⟨w, rfl, hw⟩ ih
    obtain ⟨a1, a2, a3, a4⟩ := many_of hPS hi
    have hcl : (nI i).toNatClampNeg = i := nI_clamp (by omega)
    have hin : vp_in (nI i) 24 := vp_in_nI (by omega) (by decide)
    refine ⟨fun hc => absurd (by rw [e21] at hc; exact hc) (nI_ge (a := i) (b := P) hi (by omega)), fun _ => ⟨hin, ?_⟩⟩
    rw [hcl, e13, e3, a2]
    refine ⟨fun hc y hy => ?_, fun hc => ?_⟩
    · have hSf : Sof R i = false := by unfold Sof; simp [hc]
      have e : pw (Sof R) (mnF v) (i + 1) = pw (Sof R) (mnF v) i := by
        show (if Sof R i = true then _ else _) = _
        rw [hSf]; rfl
      rw [hy, nI_1]
      refine ih _ ⟨w, rfl, ?_⟩
      rw [e]; exact hw
    · have hSt : Sof R i = true := by unfold Sof; simp [hc]; omega
      have e : pw (Sof R) (mnF v) (i + 1) = pw (Sof R) (mnF v) i * mnF v i := by
        show (if Sof R i = true then _ else _) = _
        rw [hSt]; rfl
      have hge : pw (Sof R) (mnF v) i ≤ pw (Sof R) (mnF v) (i + 1) := pw_step a3
      refine ⟨fun hlt y hy => ?_, fun hlt => ⟨hin, fun y hy => ?_⟩⟩
      · rw [lg_cmp_gt, hl] at hlt
        rw [hy, nI_1]
        refine ih _ ⟨w, rfl, ?_⟩
        rcases hw with ⟨a, b⟩ | ⟨a, b, c⟩
        · exact absurd ((lN_lt (by decide) (by omega)).mp hlt) (by omega)
        · exact Or.inr ⟨by omega, b, c⟩
      · rw [lg_cmp_gt, hl] at hlt
        rw [hy, nI_1, nI_l (by omega), lN_mul]
        rcases hw with ⟨a, b⟩ | ⟨a, b, c⟩
        · refine ih _ ⟨w * mnF v i, rfl, ?_⟩
          have hle : w * mnF v i ≤ 6561 * 3 := Nat.mul_le_mul (by omega) a4
          rw [e, ← b]
          rcases Nat.lt_or_ge 6561 (w * mnF v i) with z | z
          · exact Or.inr ⟨z, z, by omega⟩
          · exact Or.inl ⟨z, rfl⟩
        · exact absurd ((lN_lt (by decide) (by omega)).mpr (by omega)) hlt
theorem lst_in {P J T : Nat} {fr to : Nat → Nat} {Lv S : Nat → Bool} (hf : ∀ j, j < J → fr j < P) (hT : T < P) (h : Lst J fr to Lv T S) {x : Nat} (hx : S x = true) : x < P := by
  have := h.2.2 (fun y => decide (y < P)) (by simpa using hT) (fun j hj _ _ => by simpa using hf j hj) x hx
  simpa using this
theorem s_count {x1 : Int32} {u v : WU} (hs : Sim u v) {p : Int32 → Prop} {q : Int32 → Int32 → WU → Prop} (hp : ∀ r, wp_X9_count x1 v (q r) → p r) (hq : ∀ r v', Sim u v' → q r r v') : wp_X8_count x1 u p := by
  have hq0 := fun r => hq r v hs
  obtain ⟨P, T, J, C, fr, to, kd, ord, pos, sd, bg, en, hs1⟩ := hs
  obtain ⟨hT, hPS, hJS, hO, hSS, hC⟩ := id hs1
  obtain ⟨hP, p1, p2, p3, p4, p5, p6, p7, p8, p9⟩ := id hPS
  obtain ⟨hJ, j1, j2, j3, j4, j5⟩ := id hJS
  have hSim : ∀ g hh R, Sim u (uI (w45 v g hh) 13 R) := fun g hh R => ⟨P, T, J, C, fr, to, kd, ord, pos, sd, bg, en, hs1⟩
  have no : ∀ {a b : Int32}, x1 = a → a ≠ b → ¬ x1 = b := fun e hn z => hn (e.symm.trans z)
  refine ⟨fun e => ?_, fun e => ?_, fun e => ?_, fun e => ?_, fun e => ?_, fun e => ?_, fun e => ?_, fun e0 e1 e2 e3 e4 e5 e6 => ?_⟩
  · refine hp _ ⟨fun _ => ?_, fun z => absurd z (no e (by decide)), fun z => absurd z (no e (by decide)), fun z => absurd z (no e (by decide)), fun z => absurd z (no e (by decide)), fun z => absurd z (no e (by decide)), fun z => absurd z (no e (by decide)), fun z => absurd e z⟩
    rw [p2, p3]; exact hq0 _
  · refine hp _ ⟨fun z => absurd z (no e (by decide)), fun _ => ?_, fun z => absurd z (no e (by decide)), fun z => absurd z (no e (by decide)), fun z => absurd z (no e (by decide)), fun z => absurd z (no e (by decide)), fun z => absurd z (no e (by decide)), fun _ z => absurd e z⟩
    rw [j1, j2]; exact hq0 _
  · refine p_bcL (hp _ ⟨fun z => absurd z (no e (by decide)), fun z => absurd z (no e (by decide)), fun _ => ?_, fun z => absurd z (no e (by decide)), fun z => absurd z (no e (by decide)), fun z => absurd z (no e (by decide)), fun z => absurd z (no e (by decide)), fun _ _ z => absurd e z⟩)
    refine p_mcount56 hJ j2 (lv := tb (u.2 6 0)) (fun j hj => by rw [j4 j (by omega)]; simp [hj]) ?_
    rw [ct_ext (m := J) (n := 64) (by omega) (fun k h1 _ => j5 k h1)]
    exact hq0 _
  · have M : ∀ r : Int32, (0 < P → Lst J fr to (tb (u.2 6 0)) T (ti r)) → (∀ n, P ≤ n → ti r n = false) → wp_X9_count x1 v (q (nI (fb_ct (ti r) 32))) := by
      intro r hr hr2
      refine ⟨fun z => absurd z (no e (by decide)), fun z => absurd z (no e (by decide)), fun z => absurd z (no e (by decide)), fun _ => ?_, fun z => absurd z (no e (by decide)), fun z => absurd z (no e (by decide)), fun z => absurd z (no e (by decide)), fun _ _ _ z => absurd e z⟩
      refine p_mreachT hs1 fun g hh R hg hhh hR => p_mcount103 hP p3 ?_
      rw [ct_ext (m := P) (n := 32) (by omega) (fun k h1 _ => hr2 k h1)]
      have : fb_ct (ti r) P = fb_ct (Sof ((uI (w45 v g hh) 13 R).1 13)) P := fb_ct_cong fun k hk => (hr (by omega)).one hR k
      rw [this]
      exact hq _ _ (hSim g hh R)
    refine p_ofProduct hs1 (fun j _ z => z) (fun z => p_bcI (hp _ (M 0 (fun q => by omega) (fun n _ => ti_zero n)))) fun h0 r hr hr24 => p_bcI (hp _ (M r (fun _ => hr) fun n hn => ?_))
    cases hb : ti r n with
    | false => rfl
    | true =>
      have := lst_in (P := P) (fun j hj => by obtain ⟨q1, q2, q3, q4, q5, q6, q7, q8, q9⟩ := j3 j hj; exact q7) (by omega) hr hb
      omega
  · refine hp _ ⟨fun z => absurd z (no e (by decide)), fun z => absurd z (no e (by decide)), fun z => absurd z (no e (by decide)), fun z => absurd z (no e (by decide)), fun _ => ?_, fun z => absurd z (no e (by decide)), fun z => absurd z (no e (by decide)), fun _ _ _ _ z => absurd e z⟩
    rw [hC.2.1, hC.2.2.1]; exact hq0 _
  · refine hp _ ⟨fun z => absurd z (no e (by decide)), fun z => absurd z (no e (by decide)), fun z => absurd z (no e (by decide)), fun z => absurd z (no e (by decide)), fun z => absurd z (no e (by decide)), fun _ => ?_, fun z => absurd z (no e (by decide)), fun _ _ _ _ _ z => absurd e z⟩
    rw [p4, p5]; exact hq0 _
  · have M : ∀ r, wp_X9_ways v (q r) → wp_X9_count x1 v (q r) := fun r hr => ⟨fun z => absurd z (no e (by decide)), fun z => absurd z (no e (by decide)), fun z => absurd z (no e (by decide)), fun z => absurd z (no e (by decide)), fun z => absurd z (no e (by decide)), fun z => absurd z (no e (by decide)), fun _ => hr, fun _ _ _ _ _ _ z => absurd e z⟩
    refine p_wayCount hs1 fun S hS => ⟨fun h1 => hp _ (M _ (p_mways hs1 fun g hh R hg hhh hR => ?_)), fun h1 => hp _ (M _ (p_mways hs1 fun g hh R hg hhh hR => ?_))⟩
    · have ec : pw S (mnF v) P = pw (Sof R) (mnF v) P := pw_cong fun k hk => (hS (by omega)).one hR k
      rw [← ec]
      exact ⟨fun _ => hq _ _ (hSim g hh R), fun z => by omega⟩
    · have ec : pw S (mnF v) P = pw (Sof R) (mnF v) P := pw_cong fun k hk => (hS (by omega)).one hR k
      rw [← ec]
      exact ⟨fun z => by omega, fun _ => hq _ _ (hSim g hh R)⟩
  · exact hp _ ⟨fun z => absurd z e0, fun z => absurd z e1, fun z => absurd z e2, fun z => absurd z e3, fun z => absurd z e4, fun z => absurd z e5, fun z => absurd z e6, fun _ _ _ _ _ _ _ => hq0 _⟩
