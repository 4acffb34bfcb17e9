/-! ===== quarrel ===== -/
def qF (S : Nat → Bool) (F : Nat → Int64) (p : Nat) : Int64 := if S p = true then F p else 0
def qn (G : Nat → Int64) (p : Nat) : Nat := fb_ct (tb (G p)) 64
theorem p_pairAt {x : Int64} {i : Nat} {post : Int32 → Prop} (hi : i < 2 ^ 31) (h1 : ∀ k, k < 64 → tb x k = true → fb_ct (tb x) k = i → post (nI k)) (h0 : fb_ct (tb x) 64 ≤ i → post (-1)) : wp_X2_pairAt x (nI i) post := by
  unfold wp_X2_pairAt
  refine loop_0 (W := fun n k s => wp_X2_pairAt_L5 x (nI i) post n s (nI k)) (I := fun k s => s = nI (fb_ct (tb x) k) ∧ fb_ct (tb x) k ≤ i) 64 0 ⟨rfl, Nat.zero_le _⟩ ?_ ?_
  · rintro n s ⟨a, b⟩
    exact ⟨fun _ => h0 b, fun hc => absurd (by decide : (64 : Int32) ≤ nI 64) hc⟩
  · rintro n k s hk ⟨a, b⟩ ih
    have hle := fb_ct_le (tb x) k
    refine ⟨fun hc => absurd hc (nI_ge (a := k) (b := 64) hk (by decide)), fun _ => h_holds _ hk ?_⟩
    cases hb : tb x k with
    | false =>
      refine br0 fun y hy => ?_
      rw [hy, nI_1]
      refine ih s ?_
      rw [fb_ct_succ, hb]
      exact ⟨a, b⟩
    | true =>
      refine br1 ⟨fun hc y4 hy4 y hy => ?_, fun hc => ?_⟩
      · rw [hy, nI_1]
        have : fb_ct (tb x) k ≠ i := fun z => hc (by rw [a, z])
        refine ih y4 ?_
        rw [fb_ct_succ, hb, hy4, a, nI_1]
        exact ⟨rfl, by show fb_ct (tb x) k + 1 ≤ i; omega⟩
      · rw [a] at hc
        exact h1 k hk hb ((nI_eq (by omega) hi).mp hc)
theorem sixty (p k : Nat) : nI p * 64 + nI k = nI (64 * p + k) := by
  have e : (64 : Int32) = nI 64 := rfl
  rw [e, pk_mul, nI_add, Nat.mul_comm]
theorem sixty' (p k : Nat) : 64 * nI p + nI k = nI (64 * p + k) := by
  have e : (64 : Int32) = nI 64 := rfl
  rw [e, pk_mul, nI_add]
theorem p_qat {P T J C i : Nat} {fr to kd ord pos sd bg en lic : Nat → Nat} {u v : WU} {post : Int32 → Prop} (hs1 : Sim1 P T J C fr to kd ord pos sd bg en u v) (hi : i < 2 ^ 31) (hl : ∀ p, p < P → u.1 2 p = nI (lic p) ∧ lic p < 8)
    (h : ∀ S : Nat → Bool, (0 < P → Lst J fr to (tb (u.2 6 0)) T S) → (∀ p k, p < P → k < 64 → tb (qF S (fun p => u.2 4 p &&& u.2 2 (lic p)) p) k = true → fb_sm (qn (qF S (fun p => u.2 4 p &&& u.2 2 (lic p)))) p + fb_ct (tb (qF S (fun p => u.2 4 p &&& u.2 2 (lic p)) p)) k = i → post (nI (64 * p + k))) ∧ (fb_sm (qn (qF S (fun p => u.2 4 p &&& u.2 2 (lic p)))) P ≤ i → post (-1))) : wp_X2_quarrelAt (nI i) u post := by
  obtain ⟨hT, hPS, hR⟩ := id hs1
  obtain ⟨hP, p1, p2, p3, p4, p5, p6, p7, p8, p9⟩ := id hPS
  have key : ∀ r : Int32, (0 < P → Lst J fr to (tb (u.2 6 0)) T (ti r)) → ∃ nn : Nat, wp_X2_quarrelAt_L17 (nI i) r u post nn 0 0 := by
    intro r hr
    obtain ⟨h1, h0⟩ := h (ti r) hr
    generalize hG : qF (ti r) (fun p => u.2 4 p &&& u.2 2 (lic p)) = G at h1 h0
    refine loop_0 (W := fun n p s => wp_X2_quarrelAt_L17 (nI i) r u post n s (nI p)) (I := fun p s => s = nI (fb_sm (qn G) p) ∧ fb_sm (qn G) p ≤ i) P 0 ⟨rfl, Nat.zero_le _⟩ ?_ ?_
    · rintro n s ⟨a, b⟩
      exact ⟨fun _ => h0 b, fun hc => absurd (by rw [p2]; exact Int32.le_refl _) hc⟩
    · rintro n p s hp ⟨a, b⟩ ih
      obtain ⟨l1, l2⟩ := hl p hp
      have hci : (nI p).toNatClampNeg = p := nI_clamp (by omega)
      have hin : vp_in (nI p) 24 := vp_in_nI (by omega) (by decide)
      have hq := fb_ct_le (tb (G p)) 64
      have hst : fb_sm (qn G) (p + 1) = fb_sm (qn G) p + fb_ct (tb (G p)) 64 := rfl
      have hbd : fb_sm (qn G) p ≤ p * 64 := fb_sm_bound fun k _ => fb_ct_le (tb (G k)) 64
      have hJ : ∀ z : Int64, z = G p → wp_X2_quarrelAt_J59 (nI i) r s (nI p) z u post (fun (y2 : Int32) (y3 : Int32) => wp_X2_quarrelAt_L17 (nI i) r u post n y2 y3) := by
        intro z hz
        subst hz
        refine p_bcL ?_
        rw [a, nI_add]
        refine ⟨fun hc y8 hy8 y9 hy9 => ?_, fun hc => ?_⟩
        · have := (nI_leI (by omega) hi).mp hc
          rw [hy9, nI_1]
          refine ih y8 ⟨?_, by omega⟩
          rw [hy8]; rfl
        · have hlt : i < fb_sm (qn G) p + fb_ct (tb (G p)) 64 := by
            rcases Nat.lt_or_ge i (fb_sm (qn G) p + fb_ct (tb (G p)) 64) with z | z
            · exact z
            · exact absurd (nI_le z hi) hc
          rw [pk_sub b]
          refine p_pairAt (by omega) (fun k hk hb he => ?_) (fun hle => by omega)
          rw [sixty]
          exact h1 p k hp hk hb (by omega)
      refine ⟨fun hc => absurd (by rw [p2] at hc; exact hc) (nI_ge (a := p) (b := P) hp (by omega)), fun _ => h_holds _ (by omega) ?_⟩
      rw [tb_i2l _ (by omega)]
      cases hb : ti r p with
      | false =>
        refine br0 (hJ 0 ?_)
        rw [← hG]; unfold qF; rw [hb]; rfl
      | true =>
        refine br1 ⟨hin, ?_⟩
        rw [hci, l1]
        refine ⟨hin, vp_in_nI l2 (by decide), hJ _ ?_⟩
        rw [hci, nI_clamp (n := lic p) (by omega), ← hG]; unfold qF; rw [hb]; rfl
  unfold wp_X2_quarrelAt
  exact p_ofProduct hs1 (fun j _ z => z) (fun z => key 0 (fun q => by omega)) (fun _ r hr _ => key r (fun _ => hr))
theorem lg_bit (x : Int64) {k : Nat} (hk : k < 64) : lg_cmp (jshr x (nI k) &&& 1) 0 = 0 ↔ tb x k = false := by
  rw [lgc_0, tb_and1, tb_jshr x hk (by omega)]; rfl
theorem p_mq70 {p i : Nat} {G : Int64} {a0 : Nat} {w : WU} {post : Int32 → WU → Prop} {K : Int32 → WU → Prop} (hi : i < 2 ^ 31) (ha : a0 ≤ i) (h1 : ∀ k, k < 64 → tb G k = true → a0 + fb_ct (tb G) k = i → post (nI (64 * p + k)) w) (h0 : a0 + fb_ct (tb G) 64 ≤ i → K (nI (a0 + fb_ct (tb G) 64)) w) : ∃ nn, wp_X9_quarrel_L70 (nI i) (nI p) G post K nn (nI a0) 0 w := by
  refine loop_0 (W := fun n k s => wp_X9_quarrel_L70 (nI i) (nI p) G post K n s (nI k) w) (I := fun k s => s = nI (a0 + fb_ct (tb G) k) ∧ a0 + fb_ct (tb G) k ≤ i) 64 (nI a0) ⟨rfl, ha⟩ ?_ ?_
  · rintro n s ⟨a, b⟩
    exact ⟨fun _ => by rw [a]; exact h0 b, fun hc => absurd (by decide : (64 : Int32) ≤ nI 64) hc⟩
  · rintro n k s hk ⟨a, b⟩ ih
    refine ⟨fun hc => absurd hc (nI_ge (a := k) (b := 64) hk (by decide)), fun _ => ⟨fun hc => ?_, fun hc y hy => ?_⟩⟩
    · have hb : tb G k = true := by
        cases hb : tb G k with
        | true => rfl
        | false => exact absurd ((lg_bit G hk).mpr hb) hc
      refine ⟨fun hne y8 hy8 y hy => ?_, fun he => ?_⟩
      · have : a0 + fb_ct (tb G) k ≠ i := fun z => hne (by rw [a, z])
        rw [hy, nI_1]
        refine ih y8 ?_
        rw [fb_ct_succ, hb, hy8, a, nI_1]
        exact ⟨rfl, by show a0 + (fb_ct (tb G) k + 1) ≤ i; omega⟩
      · rw [a] at he
        rw [sixty']
        exact h1 k hk hb ((nI_eq (by omega) hi).mp he)
    · have hb := (lg_bit G hk).mp hc
      rw [hy, nI_1]
      refine ih s ?_
      rw [fb_ct_succ, hb]
      exact ⟨a, b⟩
theorem p_mq23 {P i : Nat} {lic : Nat → Nat} {u w : WU} {post : Int32 → WU → Prop} (hT : TS u w) (hP : P ≤ 24) (eP : w.1 21 0 = nI P) (hi : i < 2 ^ 31) (hl : ∀ p, p < P → w.1 15 p = nI (lic p) ∧ lic p < 8)
    (h1 : ∀ p k, p < P → k < 64 → tb (qF (Sof (w.1 13)) (fun p => w.2 2 p &&& u.2 2 (lic p)) p) k = true → fb_sm (qn (qF (Sof (w.1 13)) (fun p => w.2 2 p &&& u.2 2 (lic p)))) p + fb_ct (tb (qF (Sof (w.1 13)) (fun p => w.2 2 p &&& u.2 2 (lic p)) p)) k = i → post (nI (64 * p + k)) w) (h0 : fb_sm (qn (qF (Sof (w.1 13)) (fun p => w.2 2 p &&& u.2 2 (lic p)))) P ≤ i → post (-1) w) : ∃ nn, wp_X9_quarrel_L23 (nI i) post nn 0 0 w := by
  generalize hG : qF (Sof (w.1 13)) (fun p => w.2 2 p &&& u.2 2 (lic p)) = G at h1 h0
  refine loop_0 (W := fun n p s => wp_X9_quarrel_L23 (nI i) post n s (nI p) w) (I := fun p s => s = nI (fb_sm (qn G) p) ∧ fb_sm (qn G) p ≤ i) P 0 ⟨rfl, Nat.zero_le _⟩ ?_ ?_
  · rintro n s ⟨a, b⟩
    exact ⟨fun _ => h0 b, fun hc => absurd (by rw [eP]; exact Int32.le_refl _) hc⟩
  · rintro n p s hp ⟨a, b⟩ ih
    obtain ⟨l1, l2⟩ := hl p hp
    have hci : (nI p).toNatClampNeg = p := nI_clamp (by omega)
    have hin : vp_in (nI p) 24 := vp_in_nI (by omega) (by decide)
    have hJ : ∀ z : Int64, z = G p → wp_X9_quarrel_J65 (nI i) s (nI p) z w post (fun (y1 : Int32) (y2 : Int32) (u3 : WU) => wp_X9_quarrel_L23 (nI i) post n y1 y2 u3) := by
      intro z hz
      subst hz
      unfold wp_X9_quarrel_J65
      rw [a]
      refine p_mq70 hi b (fun k hk hb he => h1 p k hp hk hb he) fun hle => fun y hy => ?_
      rw [hy, nI_1]
      exact ih _ ⟨rfl, hle⟩
    refine ⟨fun hc => absurd (by rw [eP] at hc; exact hc) (nI_ge (a := p) (b := P) hp (by omega)), fun _ => ⟨hin, ?_⟩⟩
    rw [hci]
    refine ⟨fun hc => hJ 0 ?_, fun hc => ⟨hin, hin, ?_⟩⟩
    · have hSf : Sof (w.1 13) p = false := by unfold Sof; simp [hc]
      rw [← hG]; unfold qF; rw [hSf]; rfl
    · have hSt : Sof (w.1 13) p = true := by unfold Sof; simp [hc]; omega
      rw [l1]
      refine p_mbars hT l2 (hJ _ ?_)
      rw [← hG]; unfold qF; rw [hSt]; rfl
theorem q_less {G : Nat → Int64} {p k p' : Nat} (hk : k < 64) (hb : tb (G p) k = true) (h : p < p') : fb_sm (qn G) p + fb_ct (tb (G p)) k < fb_sm (qn G) p' := by
  have a : fb_ct (tb (G p)) (k + 1) ≤ fb_ct (tb (G p)) 64 := fb_ct_mono _ (by omega)
  rw [fb_ct_succ, hb] at a
  change fb_ct (tb (G p)) k + 1 ≤ _ at a
  have b := fb_sm_part (qn G) h
  have c : qn G p = fb_ct (tb (G p)) 64 := rfl
  omega
theorem s_quarrel {x1 x2 : Int32} {u v : WU} (hs : Sim u v) {p : Int32 → WU → Prop} {q : Int32 → WU → Int32 → WU → Prop} (hp : ∀ r u', wp_X9_quarrel x1 x2 v (q r u') → p r u') (hq : ∀ r u' v', Sim u' v' → q r u' r v') : wp_X8_quarrel x1 x2 u p := by
  have hq0 := hq (-1) u v hs
  obtain ⟨P, T, J, C, fr, to, kd, ord, pos, sd, bg, en, hs1⟩ := hs
  obtain ⟨hT, hPS, hJS, hO, hSS, hC⟩ := id hs1
  obtain ⟨hP, p1, p2, p3, p4, p5, p6, p7, p8, p9⟩ := id hPS
  obtain ⟨lic, hlic⟩ := licF hPS
  rcases in_or x1 4 (by decide) with ⟨s, hs, rfl⟩ | n1
  · by_cases h0 : (0 : Int32) ≤ x2
    · obtain ⟨i, hi, rfl⟩ := nI_of (x := x2) (fun z => absurd (Int32.lt_of_lt_of_le z h0) Int32.lt_irrefl)
      refine w_in hs (by decide) rfl (br1 ⟨fun _ => p_run hs1 hs fun A hA => ?_, fun hc => absurd h0 hc⟩)
      -- the reference, behind the class's answer
      have M : ∀ (r : Int32) (S : Nat → Bool), (0 < P → Lst J fr to (tb (u.2 6 0)) T S) → ((∀ p k, p < P → k < 64 → tb (qF S (fun p => A p &&& u.2 2 (lic p)) p) k = true → fb_sm (qn (qF S (fun p => A p &&& u.2 2 (lic p)))) p + fb_ct (tb (qF S (fun p => A p &&& u.2 2 (lic p)) p)) k = i → r = nI (64 * p + k)) ∧ (fb_sm (qn (qF S (fun p => A p &&& u.2 2 (lic p)))) P ≤ i → r = -1)) → wp_X9_quarrel (nI s) (nI i) v (q r (uJ u 4 A)) := by
        intro r S hS hr
        refine shp_in hs (br1 ⟨fun _ => p_works hs1 hs fun g hh gg m lev od f R c hhh ho hR hc => ?_, fun hc => absurd h0 hc⟩)
        have hv : Sim (uJ u 4 A) (wfl (w45 v g hh) gg f m R c) := ⟨P, T, J, C, fr, to, kd, ord, pos, sd, bg, en, hs1⟩
        have hGe : ∀ p, p < P → qF (Sof R) (fun p => c p &&& u.2 2 (lic p)) p = qF S (fun p => A p &&& u.2 2 (lic p)) p := fun p hp => by
          have e := com_eq (s := s) hs1 (fun j _ z => z) hA hc hp
          unfold qF
          rw [(hS (by omega)).one hR p]
          dsimp only
          rw [e]
        have hsm : ∀ p, p ≤ P → fb_sm (qn (qF (Sof R) (fun p => c p &&& u.2 2 (lic p)))) p = fb_sm (qn (qF S (fun p => A p &&& u.2 2 (lic p)))) p := fun p hp => fb_sm_cong fun k hk => by
          unfold qn; rw [hGe k (by omega)]
        refine p_mq23 (u := u) (w := wfl (w45 v g hh) gg f m R c) (lic := lic) hT hP p3 hi (fun p hp => ⟨(hhh p hp).trans (hlic p hp).1, (hlic p hp).2⟩) (fun p k hp hk hb he => ?_) (fun hle => ?_)
        · have hb : tb (qF (Sof R) (fun p => c p &&& u.2 2 (lic p)) p) k = true := hb
          have he : fb_sm (qn (qF (Sof R) (fun p => c p &&& u.2 2 (lic p)))) p + fb_ct (tb (qF (Sof R) (fun p => c p &&& u.2 2 (lic p)) p)) k = i := he
          rw [hGe p hp] at hb he
          rw [hsm p (by omega)] at he
          rw [← hr.1 p k hp hk hb he]
          exact hq _ _ _ hv
        · have hle : fb_sm (qn (qF (Sof R) (fun p => c p &&& u.2 2 (lic p)))) P ≤ i := hle
          rw [hsm P (Nat.le_refl _)] at hle
          rw [← hr.2 hle]
          exact hq _ _ _ hv
      refine p_qat (u := uJ u 4 A) (v := v) (lic := lic) hs1 hi hlic fun S hS => ⟨fun p k hp' hk hb he => hp _ _ (M _ S hS ⟨fun p2 k2 hp2 hk2 hb2 he2 => ?_, fun hle => ?_⟩), fun hle => hp _ _ (M _ S hS ⟨fun p2 k2 hp2 hk2 hb2 he2 => ?_, fun _ => rfl⟩)⟩
      · have hb : tb (qF S (fun p => A p &&& u.2 2 (lic p)) p) k = true := hb
        have he : fb_sm (qn (qF S (fun p => A p &&& u.2 2 (lic p)))) p + fb_ct (tb (qF S (fun p => A p &&& u.2 2 (lic p)) p)) k = i := he
        have hpp : p = p2 := by
          rcases Nat.lt_trichotomy p p2 with z | z | z
          · have := q_less hk hb z; omega
          · exact z
          · have := q_less hk2 hb2 z; omega
        subst hpp
        have : k = k2 := fb_ct_kth_one hb hb2 (by omega)
        rw [this]
      · exfalso
        have hb : tb (qF S (fun p => A p &&& u.2 2 (lic p)) p) k = true := hb
        have he : fb_sm (qn (qF S (fun p => A p &&& u.2 2 (lic p)))) p + fb_ct (tb (qF S (fun p => A p &&& u.2 2 (lic p)) p)) k = i := he
        have := q_less hk hb hp'
        omega
      · exfalso
        have hle : fb_sm (qn (qF S (fun p => A p &&& u.2 2 (lic p)))) P ≤ i := hle
        have := q_less hk2 hb2 hp2
        omega
    · refine w_in hs (by decide) rfl (br1 ⟨fun hc => absurd hc h0, fun _ => hp _ _ (shp_in hs (br1 ⟨fun hc => absurd hc h0, fun _ => hq0⟩))⟩)
  · exact w_out n1 (by decide) rfl (br0 (hp _ _ (shp_out n1 (br0 hq0))))
