/-! ===== notice ===== -/
/-- along joins along which pair n goes one comes from p to t -/
def Rch (J : Nat) (fr to kd : Nat → Nat) (th : Int64) (al : Nat → Int64) (n t p : Nat) : Prop := ∃ f, Dst J fr to (fun j => tb th j && tb (al (kd j)) n) t f ∧ f p < 100
theorem rch_iff {J n t p : Nat} {fr to kd ord pos : Nat → Nat} {al : Nat → Int64} {u : WU} {f : Nat → Nat} (hto : ∀ j, j < J → to j < 24) (hO : OS J fr to ord pos u) (hf : Dst J fr to (fun j => tb (u.2 6 0) j && tb (al (kd j)) n) t f) (hp : p < 24) : Rch J fr to kd (u.2 6 0) al n t p ↔ f p < 100 := by
  constructor
  · rintro ⟨g, hg, hlt⟩
    rw [dst_one (fun j hj hl => hO.2.2 j hj (by simp at hl; exact hl.1)) (fun p hp => (hO.2.1 p hp).1) hto hf hg hp]
    exact hlt
  · exact fun h => ⟨f, hf, h⟩
theorem p_xbrings {s p n : Nat} {u : WU} {post : Int32 → Prop} (hs : s < 4) (hp : p < 24) (hn : n < 64) (h : post (b01 (tb (brX (u.2 0 s) (u.1 2 p) (u.2 3 p)) n))) : wp_X7_brings (nI s) (nI p) (nI n) u post := by
  unfold wp_X7_brings
  rw [nI_clamp (n := p) (by omega)]
  exact ⟨vp_in_nI hp (by decide), p_brought hs hp (h_holds _ hn ⟨b01_bl _, h⟩)⟩
theorem p_noticed33 {P J s l n : Nat} {f : Nat → Nat} {x : Int32} {x3 : Int32} {u : WU} {st : Nat → Int32} {post : Int32 → WU → Prop} {K : Int32 → WU → Prop} (hP : P ≤ 24) (hs : s < 4) (hn : n < 64) (eP : u.1 20 0 = nI P) (hst : ∀ p, p < 24 → st p = encD f p) (hf : ∀ p, p < 24 → f p ≤ 100)
    (h : ∀ y, (∀ m, m < 32 → (ti y m = true ↔ ti x m = true ∨ (m < P ∧ f m < 100 ∧ tb (brX (u.2 0 s) (u.1 2 m) (u.2 3 m)) n = true))) → K y (uI u 19 st)) : ∃ nn, wp_X7_noticed_L33 (nI s) x3 (nI n) post K nn x 0 (uI u 19 st) := by
  refine loop_0 (W := fun m i s' => wp_X7_noticed_L33 (nI s) x3 (nI n) post K m s' (nI i) (uI u 19 st)) (I := fun i y => ∀ m, m < 32 → (ti y m = true ↔ ti x m = true ∨ (m < i ∧ f m < 100 ∧ tb (brX (u.2 0 s) (u.1 2 m) (u.2 3 m)) n = true))) P x (fun m hm => ⟨fun q => Or.inl q, fun q => ?_⟩) ?_ ?_
  · rcases q with q | ⟨q, _⟩
    · exact q
    · omega
  · intro m y hy
    exact ⟨fun _ => h y hy, fun hc => absurd (by show u.1 20 0 ≤ nI P; rw [eP]; exact Int32.le_refl _) hc⟩
  · intro m i y hi hy ih
    have hci : (nI i).toNatClampNeg = i := nI_clamp (by omega)
    have e19 : (uI u 19 st).1 19 (nI i).toNatClampNeg = encD f i := by rw [hci, uI_s]; exact hst i (by omega)
    have hskip : ¬ (f i < 100 ∧ tb (brX (u.2 0 s) (u.1 2 i) (u.2 3 i)) n = true) → ∀ z : Int32, z = nI i + 1 → wp_X7_noticed_L33 (nI s) x3 (nI n) post K m y z (uI u 19 st) := by
      intro hh z hz
      rw [hz, nI_1]
      refine ih y fun k hk => ?_
      rw [hy k hk]
      constructor
      · rintro (q | ⟨q1, q2⟩)
        · exact Or.inl q
        · exact Or.inr ⟨by omega, q2⟩
      · rintro (q | ⟨q1, q2⟩)
        · exact Or.inl q
        · by_cases e : k = i
          · subst e; exact absurd q2 hh
          · exact Or.inr ⟨by omega, q2⟩
    refine ⟨fun hc => absurd (show nI P ≤ nI i by rw [← eP]; exact hc) (nI_ge (a := i) (b := P) hi (by omega)), fun _ => ⟨vp_in_nI (by omega) (by decide), ?_⟩⟩
    rw [e19]
    refine ⟨fun hc => hskip fun z => ?_, fun hc => ?_⟩
    · have := (encD_m1 (hf i (by omega))).mp hc; omega
    · have hlt : f i < 100 := by
        have h1 := hf i (by omega)
        have : f i ≠ 100 := fun z => hc ((encD_m1 h1).mpr z)
        omega
      refine p_xbrings (u := uI u 19 st) hs (by omega) hn ?_
      have eb : brX ((uI u 19 st).2 0 s) ((uI u 19 st).1 2 i) ((uI u 19 st).2 3 i) = brX (u.2 0 s) (u.1 2 i) (u.2 3 i) := rfl
      rw [eb]
      cases hb : tb (brX (u.2 0 s) (u.1 2 i) (u.2 3 i)) n with
      | false => exact br0 (hskip fun z => by rw [hb] at z; exact absurd z.2 (by decide))
      | true =>
        refine br1 fun y13 hy13 z hz => ?_
        rw [hz, nI_1]
        refine ih y13 fun k hk => ?_
        rw [hy13, ti_or, ti_bit (by omega) hk]
        constructor
        · intro q
          by_cases e : k = i
          · subst e; exact Or.inr ⟨by omega, hlt, hb⟩
          · have q2 : ti y k = true := by simpa [e] using q
            rcases (hy k hk).mp q2 with z | ⟨z1, z2⟩
            · exact Or.inl z
            · exact Or.inr ⟨by omega, z2⟩
        · rintro (q | ⟨q1, q2⟩)
          · rw [(hy k hk).mpr (Or.inl q)]; rfl
          · by_cases e : k = i
            · simp [e]
            · rw [(hy k hk).mpr (Or.inr ⟨by omega, q2⟩)]; rfl
theorem p_noticed {P T J C s : Nat} {fr to kd ord pos sd bg en : Nat → Nat} {u v : WU} {post : Int32 → WU → Prop} (hs1 : Sim1 P T J C fr to kd ord pos sd bg en u v) (hs : s < 4) (h0 : 0 < P)
    (h : ∀ (x : Int32) (st : Nat → Int32), (∀ m, m < 32 → (ti x m = true ↔ ∃ l, l < 8 ∧ m < P ∧ Rch J fr to kd (u.2 6 0) (u.2 1) (8 * l) T m ∧ tb (brX (u.2 0 s) (u.1 2 m) (u.2 3 m)) (8 * l) = true)) → post x (uI u 19 st)) : wp_X7_noticed (nI s) u post := by
  obtain ⟨hT, hPS, hJS, hO, hSS, hC⟩ := id hs1
  obtain ⟨hP, p1, p2, p3, p4, p5, p6, p7, p8, p9⟩ := id hPS
  have hF := sim_f hs1
  unfold wp_X7_noticed
  refine loop_0 (W := fun m l s' => wp_X7_noticed_L4 (nI s) post m s'.1 (nI l) s'.2) (I := fun l s' => ∃ st, s'.2 = uI u 19 st ∧ ∀ m, m < 32 → (ti s'.1 m = true ↔ ∃ l', l' < l ∧ m < P ∧ Rch J fr to kd (u.2 6 0) (u.2 1) (8 * l') T m ∧ tb (brX (u.2 0 s) (u.1 2 m) (u.2 3 m)) (8 * l') = true)) 8 (0, u) ⟨u.1 19, (uI_self u 19).symm, fun m hm => ⟨fun q => ?_, fun ⟨l', q, _⟩ => by omega⟩⟩ ?_ ?_
  · dsimp only at q; rw [ti_zero] at q; exact absurd q (by decide)
  · rintro m ⟨x, s'⟩ ⟨st, e, hx⟩
    dsimp only at e hx
    subst e
    exact ⟨fun _ => h x st hx, fun hc => absurd (by decide : (8 : Int32) ≤ nI 8) hc⟩
  · rintro m l ⟨x, s'⟩ hl ⟨st, e, hx⟩ ih
    dsimp only at e hx
    subst e
    have e21 : (uI u 19 st).1 21 0 = nI T := p4
    have e8 : nI l * 8 + 0 = nI (8 * l) := pairOf_n l 0
    refine ⟨fun hc => absurd hc (nI_ge (a := l) (b := 8) hl (by decide)), fun _ => ?_⟩
    unfold wp_X8_pairOf
    rw [e8, e21]
    refine p_measure (u := uI u 19 st) (t := T) hJS.1 (by omega) (by omega) hF.1 hF.2 hO hSS fun st2 f hst2 hf => ?_
    rw [uI_uI]
    refine p_noticed33 (J := J) (l := l) (f := f) hP hs (by omega) p2 hst2 hf.2.1 fun y hy => fun y5 hy5 => ?_
    rw [hy5, nI_1]
    refine ih (y, _) ⟨st2, rfl, fun k hk => ?_⟩
    dsimp only
    rw [hy k hk, hx k hk]
    constructor
    · rintro (⟨l', q1, q2⟩ | ⟨q1, q2, q3⟩)
      · exact ⟨l', by omega, q2⟩
      · exact ⟨l, by omega, q1, ⟨f, hf, q2⟩, q3⟩
    · rintro ⟨l', q1, q2, q3, q4⟩
      by_cases e : l' = l
      · subst e
        exact Or.inr ⟨q2, (rch_iff (u := u) hF.2 hO hf (by omega)).mp q3, q4⟩
      · exact Or.inl ⟨l', by omega, q2, q3, q4⟩
theorem p_hasB {P T s p l n d k : Nat} {u v w : WU} {post : Int32 → Prop} (hT : TS u w) (hPS : PS P T u w) (hs : s < 4) (hp : p < 24) (hl : l < 8) (hk : k < 8) (hd : d < 8) (hn : n = 8 * k + d) (e : w.1 15 p = nI l) (h : post (b01 (tb (brX (u.2 0 s) (nI l) (u.2 3 p)) n))) : wp_X9_hasBrought (nI s) (nI p) (nI k) (nI d) w post := by
  unfold wp_X9_hasBrought wp_X9_bit
  refine p_brings hs hp hl e ?_
  rw [br_eq hT hPS hs hl hp, bit_n, ← hn]
  dsimp only
  rw [lgc_0, and_bit _ (by omega)]
  cases hb : tb (brX (u.2 0 s) (nI l) (u.2 3 p)) n with
  | false => rw [hb] at h; exact ⟨fun _ => h, fun hc => absurd rfl hc⟩
  | true => rw [hb] at h; exact ⟨fun hc => absurd hc (by decide), fun _ => h⟩
theorem s_notice {x1 x2 : Int32} {u v : WU} (hs : Sim u v) {p : Int32 → WU → Prop} {q : Int32 → WU → Int32 → WU → Prop} (hp : ∀ r u', wp_X9_notice x1 x2 v (q r u') → p r u') (hq : ∀ r u' v', Sim u' v' → q r u' r v') : wp_X8_notice x1 x2 u p := by
  have hq0 := hq (-1) u v hs
  obtain ⟨P, T, J, C, fr, to, kd, ord, pos, sd, bg, en, hs1⟩ := hs
  obtain ⟨hT, hPS, hJS, hO, hSS, hC⟩ := id hs1
  obtain ⟨hP, p1, p2, p3, p4, p5, p6, p7, p8, p9⟩ := id hPS
  obtain ⟨hJ, j1, j2, j3, j4, j5⟩ := id hJS
  have hF := sim_f hs1
  obtain ⟨lic, hlic⟩ := licF hPS
  have RK := rank_P pos P
  have hjf : ∀ j, j < J → v.1 5 j = nI (fr j) ∧ v.1 6 j = nI (to j) ∧ v.1 7 j = nI (kd j) ∧ fr j < P ∧ to j < P ∧ kd j < 4 := fun j hj => by
    obtain ⟨q1, q2, q3, q4, q5, q6, q7, q8, q9⟩ := j3 j hj
    exact ⟨q4, q5, q6, q7, q8, q9⟩
  rcases in_or x1 4 (by decide) with ⟨s, hs, rfl⟩ | n1
  · -- the reference's walk, for a set D that is what it must be
    have M : ∀ (r : Int32) (u' : WU) (D : Nat → Bool), Sim1 P T J C fr to kd ord pos sd bg en u' v → (∀ p, p < P → (D p = true ↔ tb (brX (u.2 0 s) (u.1 2 p) (u.2 3 p)) (8 * lic p) = true ∧ Rch J fr to kd (u.2 6 0) (u.2 1) (8 * lic p) T p)) → (∀ r', MemIs D P x2 r' → r = r') → (¬ (0 : Int32) ≤ x2 → r = -1) → wp_X9_notice (nI s) x2 v (q r u') := by
      intro r u' D hu' hD hr hneg
      refine shp_in hs (br1 ⟨fun h0 => ?_, fun h0 => ?_⟩)
      · refine p_asItIs (cu := fun j => !tb (u.2 6 0) j) (a := u.1 2) hP hJ p3 j2 (fun j hj => by rw [j4 j (by omega)]; simp [hj]) (fun p hp => ?_) fun g hh hg hhh => ?_
        · obtain ⟨r1, m, t, m1, m3, htm, r2, r3, r4, r5, r6⟩ := p7 p hp
          exact ⟨t, by omega, r3, r4⟩
        · have hS : ∀ fa, Sim u' (uI (w45 v g hh) 20 fa) := fun fa => ⟨P, T, J, C, fr, to, kd, ord, pos, sd, bg, en, hu'⟩
          refine loop_0 (W := fun n k s' => wp_X9_notice_L22 (nI s) x2 (q r u') n s'.1 (nI k) s'.2) (I := fun k s' => s'.1 = nI (fb_ct D k) ∧ (∃ fa, s'.2 = uI (w45 v g hh) 20 fa) ∧ ∀ p, p < k → D p = true → nI (fb_ct D p) ≠ x2) P (0, w45 v g hh) ⟨rfl, ⟨(w45 v g hh).1 20, (uI_self _ 20).symm⟩, fun p hp => absurd hp (Nat.not_lt_zero _)⟩ ?_ ?_
          · rintro n ⟨y, s'⟩ ⟨a, ⟨fa, e⟩, b⟩
            dsimp only at a e b
            subst e
            refine ⟨fun _ => ?_, fun hc => absurd (by show v.1 21 0 ≤ nI P; rw [p3]; exact Int32.le_refl _) hc⟩
            rw [hr _ (Or.inr ⟨b, rfl⟩)]
            exact hq _ _ _ (hS fa)
          · rintro n k ⟨y, s'⟩ hk ⟨a, ⟨fa, e⟩, b⟩ ih
            dsimp only at a e b
            subst e
            obtain ⟨l1, l2⟩ := hlic k hk
            have hck : (nI k).toNatClampNeg = k := nI_clamp (by omega)
            have hin : vp_in (nI k) 24 := vp_in_nI (by omega) (by decide)
            have hno : D k = false → ∀ fa' : Nat → Int32, ∀ z : Int32, z = nI k + 1 → wp_X9_notice_L22 (nI s) x2 (q r u') n y z (uI (w45 v g hh) 20 fa') := by
              intro hb fa' z hz
              rw [hz, nI_1]
              refine ih (y, _) ⟨by dsimp only; rw [fb_ct_succ, hb]; exact a, ⟨fa', rfl⟩, fun p hp hd => ?_⟩
              by_cases e : p = k
              · rw [e, hb] at hd; exact absurd hd (by decide)
              · exact b p (by omega) hd
            have e15 : (uI (w45 v g hh) 20 fa).1 15 k = nI (lic k) := (hhh k hk).trans l1
            have e22 : (uI (w45 v g hh) 20 fa).1 22 0 = nI T := p5
            refine ⟨fun hc => absurd (show nI P ≤ nI k by rw [← p3]; exact hc) (nI_ge (a := k) (b := P) hk (by omega)), fun _ => ⟨hin, ?_⟩⟩
            rw [hck, e15, e22]
            refine p_hasB (P := P) (T := T) (u := u) (v := v) (w := uI (w45 v g hh) 20 fa) (d := 0) (n := 8 * lic k) hT hPS hs (by omega) l2 l2 (by decide) rfl e15 ?_
            have hDk := hD k hk
            rw [l1] at hDk
            cases hb : tb (brX (u.2 0 s) (nI (lic k)) (u.2 3 k)) (8 * lic k) with
            | false =>
              refine br0' (hno ?_ fa)
              cases hd : D k with
              | false => rfl
              | true => have := (hDk.mp hd).1; rw [hb] at this; exact absurd this (by decide)
            | true =>
              refine br1' ⟨hin, ?_⟩
              refine p_measures (w := uI (w45 v g hh) 20 fa) (d := 0) (n := 8 * lic k) (Lv := tb (u.2 6 0)) (rk := fun x => fb_ct (fun z => decide (pos z < pos x)) P) hP hJ (by omega) l2 (by decide) rfl p3 j2 hjf hg (fun j hj hl => RK.1 _ _ (hjf j hj).2.2.2.1 (hO.2.2 j hj hl)) RK.2 fun fa2 f hfa2 hf => ⟨hin, ?_⟩
              rw [uI_uI, uI_s, hfa2 k (by omega)]
              have hf' : Dst J fr to (fun j => tb (u.2 6 0) j && tb (u.2 1 (kd j)) (8 * lic k)) T f := by
                have e0 : ∀ j, j < J → (uI (w45 v g hh) 20 fa).2 0 (kd j) = u.2 1 (kd j) := fun j hj => (hT.1.2.2.1 _ (hjf j hj).2.2.2.2.2).symm
                refine ⟨hf.1, hf.2.1, fun j hj hl => hf.2.2.1 j hj (by dsimp only; rw [e0 j hj]; exact hl), fun p hp hpt hlt => ?_⟩
                obtain ⟨j, a1, a2, a3, a4⟩ := hf.2.2.2 p hp hpt hlt
                exact ⟨j, a1, by dsimp only at a2; rw [e0 j a1] at a2; exact a2, a3, a4⟩
              have hrc := rch_iff (u := u) (p := k) hF.2 hO hf' (by omega)
              have h100 := hf.2.1 k (by omega)
              refine ⟨fun hne => ?_, fun he => hno ?_ fa2⟩
              · have hlt : f k < 100 := by
                  have : f k ≠ 100 := fun z => hne (by rw [z]; rfl)
                  omega
                have hd : D k = true := hDk.mpr ⟨hb, hrc.mpr hlt⟩
                refine ⟨fun hne2 y3 hy3 z hz => ?_, fun he2 => ?_⟩
                · rw [hz, nI_1]
                  refine ih (y3, _) ⟨by dsimp only; rw [fb_ct_succ, hd, hy3, a, nI_1]; rfl, ⟨fa2, rfl⟩, fun p hp hdp => ?_⟩
                  by_cases e : p = k
                  · rw [e, ← a]; exact hne2
                  · exact b p (by omega) hdp
                · rw [hr _ (Or.inl ⟨k, hk, hd, by rw [← a]; exact he2, rfl⟩)]
                  exact hq _ _ _ (hS fa2)
              · cases hd : D k with
                | false => rfl
                | true =>
                  have := hrc.mp (hDk.mp hd).2
                  have e100 : f k = 100 := (nI_eq (b := 100) (by omega) (by decide)).mp he
                  omega
      · rw [hneg h0]
        exact hq _ _ _ ⟨P, T, J, C, fr, to, kd, ord, pos, sd, bg, en, hu'⟩
    refine w_in hs (by decide) rfl (br1 ⟨fun hne => ?_, fun he => hp _ _ ?_⟩)
    · have h0 : 0 < P := by
        rcases Nat.eq_zero_or_pos P with z | z
        · exact absurd (by rw [p2, z]; rfl) hne
        · exact z
      refine p_noticed hs1 hs h0 fun x st hx => p_memberAt fun r hr => hp _ _ (M _ _ (ti x) hs1 (fun p hp => ?_) (fun r' hr' => mem_one hP (fun _ _ => rfl) (fun p h1 h2 => ?_) hr hr') (fun hn => mem_neg (Nat.le_refl _) hn hr))
      · obtain ⟨l1, l2⟩ := hlic p hp
        rw [hx p (by omega)]
        constructor
        · rintro ⟨l, q1, q2, q3, q4⟩
          have : l = lic p := by
            rw [l1, brX_bits _ _ l2 (by omega)] at q4
            simp at q4
            omega
          subst this
          exact ⟨q4, q3⟩
        · rintro ⟨q1, q2⟩
          exact ⟨lic p, l2, hp, q2, q1⟩
      · cases hb : ti x p with
        | false => rfl
        | true =>
          obtain ⟨l, q1, q2, _⟩ := (hx p (by omega)).mp hb
          omega
    · have z : P = 0 := (nI_eq (b := 0) (by omega) (by decide)).mp (p2.symm.trans he)
      refine M _ _ (fun _ => false) hs1 (fun p hp => by omega) (fun r' hr' => ?_) (fun _ => rfl)
      rcases hr' with ⟨p, hp, _⟩ | ⟨_, e⟩
      · omega
      · exact e.symm
  · exact w_out n1 (by decide) rfl (br0 (hp _ _ (shp_out n1 (br0 hq0))))
