/-! ===== come, quarrels ===== -/
theorem lic_of {P T : Nat} {u v : WU} (h : PS P T u v) {p : Nat} (hp : p < P) : ∃ l : Nat, l < 8 ∧ u.1 2 p = nI l := by
  obtain ⟨hP, p1, p2, p3, p4, p5, p6, p7, p8, p9⟩ := id h
  obtain ⟨r1, m, t, m1, m3, htm, r2, r3, r4, r5, r6⟩ := p7 p hp
  obtain ⟨c, hc, ec⟩ := r5 t htm
  exact ⟨c, hc, by rw [r4]; exact ec⟩
theorem com_al {J p : Nat} {fr to kd : Nat → Nat} {Lv : Nat → Bool} {a1 a2 : Nat → Int64} {b : Int64} {A : Nat → Int64} (hk : ∀ j, j < J → kd j < 4) (e : ∀ k, k < 4 → a1 k = a2 k) (h : ComAt J fr to kd Lv a1 b A p) : ComAt J fr to kd Lv a2 b A p := by
  intro n hn
  rw [h n hn]
  constructor
  · rintro (q | ⟨j, hj, hl, ht, h1, h2⟩)
    · exact Or.inl q
    · exact Or.inr ⟨j, hj, hl, ht, h1, by rw [← e _ (hk j hj)]; exact h2⟩
  · rintro (q | ⟨j, hj, hl, ht, h1, h2⟩)
    · exact Or.inl q
    · exact Or.inr ⟨j, hj, hl, ht, h1, by rw [e _ (hk j hj)]; exact h2⟩
theorem p_works {P T J C s : Nat} {fr to kd ord pos sd bg en : Nat → Nat} {u v : WU} {post : WU → Prop} (hs1 : Sim1 P T J C fr to kd ord pos sd bg en u v) (hs : s < 4)
    (h : ∀ g hh gg m lev od f R c, (∀ p, p < P → hh p = u.1 2 p) → Olst J m fr to lev od (tb (u.2 6 0)) f → Lst J fr to (tb (u.2 6 0)) T (Sof R) → (∀ p, p < P → ComAt J fr to kd (tb (u.2 6 0)) (u.2 1) (brX (u.2 0 s) (u.1 2 p) (u.2 3 p)) c p) → post (wfl (w45 v g hh) gg f m R c)) : wp_X9_works (nI s) v post := by
  obtain ⟨hT, hPS, hJS, hO, hSS, hC⟩ := id hs1
  obtain ⟨hP, p1, p2, p3, p4, p5, p6, p7, p8, p9⟩ := id hPS
  obtain ⟨hJ, j1, j2, j3, j4, j5⟩ := id hJS
  refine p_asItIs (cu := fun j => !tb (u.2 6 0) j) (a := u.1 2) hP hJ p3 j2 (fun j hj => by rw [j4 j (by omega)]; simp [hj]) (fun p hp => ?_) fun g hh hg hhh => ?_
  · obtain ⟨r1, m, t, m1, m3, htm, r2, r3, r4, r5, r6⟩ := p7 p hp
    exact ⟨t, by omega, r3, r4⟩
  · have RK := rank_P pos P
    refine p_mflow (w := w45 v g hh) (T := T) (bm := fun p => brX (u.2 0 s) (u.1 2 p) (u.2 3 p)) (rk := fun x => fb_ct (fun z => decide (pos z < pos x)) P) (Lv := tb (u.2 6 0)) hP (by omega) hJ hs p3 p5 j2 (fun j hj => ?_) hg (fun j hj hl => RK.1 _ _ ?_ (hO.2.2 j hj hl)) RK.2 (fun p hp => ?_) fun gg m lev od f R c ho hR hc => h g hh gg m lev od f R c hhh ho hR fun p hp => com_al (fun j hj => ?_) (fun k hk => (hT.1.2.2.1 k hk).symm) (hc p hp)
    · obtain ⟨q1, q2, q3, q4, q5, q6, q7, q8, q9⟩ := j3 j hj
      exact ⟨q4, q5, q6, q7, q8, q9⟩
    · obtain ⟨q1, q2, q3, q4, q5, q6, q7, q8, q9⟩ := j3 j hj
      exact q7
    · obtain ⟨l, hl, el⟩ := lic_of hPS hp
      refine ⟨l, hl, (hhh p hp).trans el, ?_⟩
      show brX (u.2 0 s) (u.1 2 p) (u.2 3 p) = _
      rw [el]
      exact (br_eq hT hPS hs hl (by omega)).symm
    · obtain ⟨q1, q2, q3, q4, q5, q6, q7, q8, q9⟩ := j3 j hj
      exact q9
theorem com_eq {P T J C s : Nat} {fr to kd ord pos sd bg en : Nat → Nat} {u v : WU} {lv : Nat → Bool} {b A c : Nat → Int64} (hs1 : Sim1 P T J C fr to kd ord pos sd bg en u v) (hsub : ∀ j, j < J → lv j = true → tb (u.2 6 0) j = true) (hA : ∀ p, p < P → ComAt J fr to kd lv (u.2 1) (b p) A p) (hc : ∀ p, p < P → ComAt J fr to kd lv (u.2 1) (b p) c p) {p : Nat} (hp : p < P) : A p = c p := by
  obtain ⟨hT, hPS, hJS, hO, hSS, hC⟩ := id hs1
  obtain ⟨hJ, j1, j2, j3, j4, j5⟩ := id hJS
  refine com_one (D := fun x => decide (x < P)) (b := b) (fun j hj hl => hO.2.2 j hj (hsub j hj hl)) (fun j hj _ _ => ?_) (fun x hx => hA x (by simpa using hx)) (fun x hx => hc x (by simpa using hx)) p (by simpa using hp)
  obtain ⟨q1, q2, q3, q4, q5, q6, q7, q8, q9⟩ := j3 j hj
  simpa using q7
/-- what the class's methods want of its joins -/
theorem sim_f {P T J C : Nat} {fr to kd ord pos sd bg en : Nat → Nat} {u v : WU} (hs1 : Sim1 P T J C fr to kd ord pos sd bg en u v) : (∀ j, j < J → u.1 3 j = nI (fr j) ∧ u.1 5 j = nI (kd j) ∧ fr j < 24 ∧ kd j < 4) ∧ (∀ j, j < J → to j < 24) := by
  obtain ⟨hT, hPS, hJS, hO, hSS, hC⟩ := id hs1
  have hP := hPS.1
  obtain ⟨hJ, j1, j2, j3, j4, j5⟩ := id hJS
  refine ⟨fun j hj => ?_, fun j hj => ?_⟩
  · obtain ⟨q1, q2, q3, q4, q5, q6, q7, q8, q9⟩ := j3 j hj
    exact ⟨q1, q3, by omega, q9⟩
  · obtain ⟨q1, q2, q3, q4, q5, q6, q7, q8, q9⟩ := j3 j hj
    omega
theorem p_run {P T J C s : Nat} {fr to kd ord pos sd bg en : Nat → Nat} {u v : WU} {post : WU → Prop} (hs1 : Sim1 P T J C fr to kd ord pos sd bg en u v) (hs : s < 4)
    (h : ∀ A, (∀ p, p < P → ComAt J fr to kd (tb (u.2 6 0)) (u.2 1) (brX (u.2 0 s) (u.1 2 p) (u.2 3 p)) A p) → post (uJ u 4 A)) : wp_X2_run_c14 (nI s) (u.2 6 0) u post := by
  obtain ⟨hT, hPS, hJS, hO, hSS, hC⟩ := id hs1
  have hP := hPS.1
  exact p_run14 hJS.1 hs (sim_f hs1).1 (sim_f hs1).2 hO hSS (fun j _ z => z) fun A hA => h A fun p hp => hA p (by omega)
theorem ti_255 : ∀ k, k < 32 → ti 255 k = decide (k < 8) := by decide +kernel
theorem come_val (x : Int64) {l : Nat} (hl : l < 8) : ((jushr x (nI (8 * l))).toInt32) &&& 255 = ((jshr x (8 * nI l)) &&& 255).toInt32 := by
  have e8 : 8 * nI l = nI (8 * l) := by have e3 : (8 : Int32) = nI 8 := rfl; rw [e3, pk_mul]
  refine ti_ext fun n hn => ?_
  rw [e8, ti_and, tb_l2i _ hn, tb_l2i _ hn, tb_and, tb_jushr _ _ (by omega), ti_255 n hn, tb_255 n (by omega)]
  by_cases h : n < 8
  · rw [tb_jshr _ (by omega) (by omega)]
  · simp [h]
theorem s_come {x1 x2 x3 : Int32} {u v : WU} (hs : Sim u v) {p : Int32 → WU → Prop} {q : Int32 → WU → Int32 → WU → Prop} (hp : ∀ r u', wp_X9_come x1 x2 x3 v (q r u') → p r u') (hq : ∀ r u' v', Sim u' v' → q r u' r v') : wp_X8_come x1 x2 x3 u p := by
  have hq0 := hq (-1) u v hs
  obtain ⟨P, T, J, C, fr, to, kd, ord, pos, sd, bg, en, hs1⟩ := hs
  obtain ⟨hT, hPS, hJS, hO, hSS, hC⟩ := id hs1
  obtain ⟨hP, p1, p2, p3, p4, p5, p6, p7, p8, p9⟩ := id hPS
  rcases in_or x1 4 (by decide) with ⟨s, hs, rfl⟩ | n1
  · rcases in_or x2 P (by omega) with ⟨k, hk, rfl⟩ | n2
    · rcases in_or x3 8 (by decide) with ⟨l, hl, rfl⟩ | n3
      · have hin : vp_in (nI k) 24 := vp_in_nI (by omega) (by decide)
        refine w_in hs (by decide) rfl (br1 (has_in hk hP p2 (br1 (w_in hl (by decide) rfl (br1' (p_run hs1 hs fun A hA => ⟨hin, hp _ _ ?_⟩))))))
        refine shp_in hs (br1 (isp_in hk hP p3 (br1 (lic_in hl (br1' (p_works hs1 hs fun g hh gg m lev od f R c hhh ho hR hc => ⟨hin, ?_⟩))))))
        have e := com_eq (s := s) hs1 (fun j _ z => z) hA hc hk
        have e8 : nI l * 8 + 0 = nI (8 * l) := pairOf_n l 0
        have ecl : (nI k).toNatClampNeg = k := nI_clamp (by omega)
        have ea : (uJ u 4 A).2 4 (nI k).toNatClampNeg = c k := by rw [ecl, ← e]; rfl
        have ec : (wfl (w45 v g hh) gg f m R c).2 2 (nI k).toNatClampNeg = c k := by rw [ecl]; rfl
        rw [ea, ec, e8, come_val _ hl]
        exact hq _ _ _ ⟨P, T, J, C, fr, to, kd, ord, pos, sd, bg, en, hs1⟩
      · exact w_in hs (by decide) rfl (br1 (has_in hk hP p2 (br1 (w_out n3 (by decide) rfl (br0' (hp _ _ (shp_in hs (br1 (isp_in hk hP p3 (br1 (lic_out n3 (br0' hq0)))))))))))) 
    · exact w_in hs (by decide) rfl (br1 (has_out n2 hP p2 (br0 (hp _ _ (shp_in hs (br1 (isp_out n2 hP p3 (br0 hq0))))))))
  · exact w_out n1 (by decide) rfl (br0 (hp _ _ (shp_out n1 (br0 hq0))))
/-- the sum of all quarrels -/
def qsum (S : Nat → Bool) (F : Nat → Int64) (P : Nat) : Nat := fb_sm (fun p => if S p = true then fb_ct (tb (F p)) 64 else 0) P
theorem qsum_cong {S S' : Nat → Bool} {F F' : Nat → Int64} {P : Nat} (h : ∀ p, p < P → S p = S' p ∧ F p = F' p) : qsum S F P = qsum S' F' P := fb_sm_cong fun k hk => by rw [(h k hk).1, (h k hk).2]
theorem qsum_le (S : Nat → Bool) (F : Nat → Int64) {P : Nat} (hP : P ≤ 24) : qsum S F P ≤ 1536 := by
  have : qsum S F P ≤ P * 64 := fb_sm_bound fun k _ => by
    have := fb_ct_le (tb (F k)) 64
    split <;> omega
  omega
theorem p_qc14 {P T J C : Nat} {fr to kd ord pos sd bg en lic : Nat → Nat} {u v : WU} {lv : Int64} {post : Int32 → Prop} (hs1 : Sim1 P T J C fr to kd ord pos sd bg en u v) (hsub : ∀ j, j < J → tb lv j = true → tb (u.2 6 0) j = true) (hl : ∀ p, p < P → u.1 2 p = nI (lic p) ∧ lic p < 8)
    (h : ∀ S : Nat → Bool, (0 < P → Lst J fr to (tb lv) T S) → post (nI (qsum S (fun p => u.2 4 p &&& u.2 2 (lic p)) P))) : wp_X2_quarrelCount_c14 lv u post := by
  obtain ⟨hT, hPS, hR⟩ := id hs1
  obtain ⟨hP, p1, p2, p3, p4, p5, p6, p7, p8, p9⟩ := id hPS
  have key : ∀ r : Int32, (0 < P → Lst J fr to (tb lv) T (ti r)) → ∃ nn : Nat, wp_X2_quarrelCount_c14_L13 r u post nn 0 0 := by
    intro r hr
    refine loop_0 (W := fun n i s => wp_X2_quarrelCount_c14_L13 r u post n s (nI i)) (I := fun i s => s = nI (qsum (ti r) (fun p => u.2 4 p &&& u.2 2 (lic p)) i)) P 0 rfl ?_ ?_
    · intro n s h1
      exact ⟨fun _ => by rw [h1]; exact h (ti r) hr, fun hc => absurd (by rw [p2]; exact Int32.le_refl _) hc⟩
    · intro n i s hi h1 ih
      obtain ⟨l1, l2⟩ := hl i hi
      have hci : (nI i).toNatClampNeg = i := nI_clamp (by omega)
      have hin : vp_in (nI i) 24 := vp_in_nI (by omega) (by decide)
      refine ⟨fun hc => absurd (by rw [p2] at hc; exact hc) (nI_ge (a := i) (b := P) hi (by omega)), fun _ => h_holds _ (by omega) ?_⟩
      rw [tb_i2l _ (by omega)]
      have hstep : qsum (ti r) (fun p => u.2 4 p &&& u.2 2 (lic p)) (i + 1) = qsum (ti r) (fun p => u.2 4 p &&& u.2 2 (lic p)) i + (if ti r i = true then fb_ct (tb (u.2 4 i &&& u.2 2 (lic i))) 64 else 0) := rfl
      cases hb : ti r i with
      | false =>
        refine br0 fun y hy => ?_
        rw [hy, nI_1]
        refine ih s ?_
        rw [hstep, h1, hb]; rfl
      | true =>
        refine br1 ⟨hin, ?_⟩
        rw [hci, l1]
        refine ⟨hin, vp_in_nI l2 (by decide), p_bcL fun y6 hy6 y hy => ?_⟩
        rw [hy, nI_1]
        refine ih y6 ?_
        rw [hy6, h1, hci, nI_clamp (n := lic i) (by omega), nI_add, hstep, hb]; rfl
  unfold wp_X2_quarrelCount_c14
  exact p_ofProduct hs1 hsub (fun z => key 0 (fun q => by omega)) (fun _ r hr _ => key r (fun _ => hr))
theorem p_qc33 {P T J C : Nat} {fr to kd ord pos sd bg en lic : Nat → Nat} {u v : WU} {lv : Int64} {post : Int32 → Prop} (hs1 : Sim1 P T J C fr to kd ord pos sd bg en u v) (hsub : ∀ j, j < J → tb lv j = true → tb (u.2 6 0) j = true) (hl : ∀ p, p < P → u.1 18 p = nI (lic p) ∧ lic p < 8)
    (h : ∀ S : Nat → Bool, (0 < P → Lst J fr to (tb lv) T S) → post (nI (qsum S (fun p => u.2 4 p &&& u.2 2 (lic p)) P))) : wp_X2_quarrelCount_c33 lv u post := by
  obtain ⟨hT, hPS, hR⟩ := id hs1
  obtain ⟨hP, p1, p2, p3, p4, p5, p6, p7, p8, p9⟩ := id hPS
  have key : ∀ r : Int32, (0 < P → Lst J fr to (tb lv) T (ti r)) → ∃ nn : Nat, wp_X2_quarrelCount_c33_L13 r u post nn 0 0 := by
    intro r hr
    refine loop_0 (W := fun n i s => wp_X2_quarrelCount_c33_L13 r u post n s (nI i)) (I := fun i s => s = nI (qsum (ti r) (fun p => u.2 4 p &&& u.2 2 (lic p)) i)) P 0 rfl ?_ ?_
    · intro n s h1
      exact ⟨fun _ => by rw [h1]; exact h (ti r) hr, fun hc => absurd (by rw [p2]; exact Int32.le_refl _) hc⟩
    · intro n i s hi h1 ih
      obtain ⟨l1, l2⟩ := hl i hi
      have hci : (nI i).toNatClampNeg = i := nI_clamp (by omega)
      have hin : vp_in (nI i) 24 := vp_in_nI (by omega) (by decide)
      refine ⟨fun hc => absurd (by rw [p2] at hc; exact hc) (nI_ge (a := i) (b := P) hi (by omega)), fun _ => h_holds _ (by omega) ?_⟩
      rw [tb_i2l _ (by omega)]
      have hstep : qsum (ti r) (fun p => u.2 4 p &&& u.2 2 (lic p)) (i + 1) = qsum (ti r) (fun p => u.2 4 p &&& u.2 2 (lic p)) i + (if ti r i = true then fb_ct (tb (u.2 4 i &&& u.2 2 (lic i))) 64 else 0) := rfl
      cases hb : ti r i with
      | false =>
        refine br0 fun y hy => ?_
        rw [hy, nI_1]
        refine ih s ?_
        rw [hstep, h1, hb]; rfl
      | true =>
        refine br1 ⟨hin, ?_⟩
        rw [hci, l1]
        refine ⟨hin, vp_in_nI l2 (by decide), p_bcL fun y6 hy6 y hy => ?_⟩
        rw [hy, nI_1]
        refine ih y6 ?_
        rw [hy6, h1, hci, nI_clamp (n := lic i) (by omega), nI_add, hstep, hb]; rfl
  unfold wp_X2_quarrelCount_c33
  exact p_ofProduct hs1 hsub (fun z => key 0 (fun q => by omega)) (fun _ r hr _ => key r (fun _ => hr))
theorem p_qnow {P : Nat} {lic : Nat → Nat} {u w : WU} {post : Int32 → Prop} (hT : TS u w) (hP : P ≤ 24) (eP : w.1 21 0 = nI P) (hl : ∀ p, p < P → w.1 15 p = nI (lic p) ∧ lic p < 8) (h : post (nI (qsum (Sof (w.1 13)) (fun p => w.2 2 p &&& u.2 2 (lic p)) P))) : wp_X9_quarrelsNow w post := by
  unfold wp_X9_quarrelsNow
  refine loop_0 (W := fun n i s => wp_X9_quarrelsNow_L4 w post n s (nI i)) (I := fun i s => s = nI (qsum (Sof (w.1 13)) (fun p => w.2 2 p &&& u.2 2 (lic p)) i)) P 0 rfl ?_ ?_
  · intro n s h1
    exact ⟨fun _ => by rw [h1]; exact h, fun hc => absurd (by rw [eP]; exact Int32.le_refl _) hc⟩
  · intro n i s hi h1 ih
    obtain ⟨l1, l2⟩ := hl i hi
    have hci : (nI i).toNatClampNeg = i := nI_clamp (by omega)
    have hin : vp_in (nI i) 24 := vp_in_nI (by omega) (by decide)
    have hstep : qsum (Sof (w.1 13)) (fun p => w.2 2 p &&& u.2 2 (lic p)) (i + 1) = qsum (Sof (w.1 13)) (fun p => w.2 2 p &&& u.2 2 (lic p)) i + (if Sof (w.1 13) i = true then fb_ct (tb (w.2 2 i &&& u.2 2 (lic i))) 64 else 0) := rfl
    refine ⟨fun hc => absurd (by rw [eP] at hc; exact hc) (nI_ge (a := i) (b := P) hi (by omega)), fun _ => ⟨hin, ?_⟩⟩
    rw [hci]
    refine ⟨fun hc y hy => ?_, fun hc => ⟨hin, hin, ?_⟩⟩
    · have hSf : Sof (w.1 13) i = false := by unfold Sof; simp [hc]
      rw [hy, nI_1]
      refine ih s ?_
      rw [hstep, h1, hSf]; rfl
    · have hSt : Sof (w.1 13) i = true := by unfold Sof; simp [hc]; omega
      rw [l1]
      refine p_mbars hT l2 (p_bits fun y5 hy5 y hy => ?_)
      rw [hy, nI_1]
      refine ih y5 ?_
      rw [hy5, h1, nI_add, hstep, hSt]; rfl
theorem licF {P T : Nat} {u v : WU} (h : PS P T u v) : ∃ lic : Nat → Nat, ∀ p, p < P → u.1 2 p = nI (lic p) ∧ lic p < 8 := by
  refine ⟨fun p => (u.1 2 p).toNatClampNeg, fun p hp => ?_⟩
  obtain ⟨l, hl, el⟩ := lic_of h hp
  dsimp only
  rw [el, nI_clamp (by omega)]
  exact ⟨rfl, hl⟩
theorem s_quarrels {x1 : Int32} {u v : WU} (hs : Sim u v) {p : Int32 → WU → Prop} {q : Int32 → WU → Int32 → WU → Prop} (hp : ∀ r u', wp_X9_quarrels x1 v (q r u') → p r u') (hq : ∀ r u' v', Sim u' v' → q r u' r v') : wp_X8_quarrels x1 u p := by
  have hq0 := hq (-1) u v hs
  obtain ⟨P, T, J, C, fr, to, kd, ord, pos, sd, bg, en, hs1⟩ := hs
  obtain ⟨hT, hPS, hJS, hO, hSS, hC⟩ := id hs1
  obtain ⟨hP, p1, p2, p3, p4, p5, p6, p7, p8, p9⟩ := id hPS
  obtain ⟨lic, hlic⟩ := licF hPS
  rcases in_or x1 4 (by decide) with ⟨s, hs, rfl⟩ | n1
  · refine w_in hs (by decide) rfl (br1' (p_run hs1 hs fun A hA => ?_))
    refine p_qc14 (u := uJ u 4 A) (v := v) (lic := lic) hs1 (fun j _ z => z) hlic fun S hS => hp _ _ ?_
    refine shp_in hs (br1' (p_works hs1 hs fun g hh gg m lev od f R c hhh ho hR hc => ?_))
    refine p_qnow (u := u) (w := wfl (w45 v g hh) gg f m R c) (lic := lic) hT hP p3 (fun p hp => ⟨(hhh p hp).trans (hlic p hp).1, (hlic p hp).2⟩) ?_
    have e : qsum S (fun p => (uJ u 4 A).2 4 p &&& (uJ u 4 A).2 2 (lic p)) P = qsum (Sof ((wfl (w45 v g hh) gg f m R c).1 13)) (fun p => (wfl (w45 v g hh) gg f m R c).2 2 p &&& u.2 2 (lic p)) P := qsum_cong fun p hp => by
      refine ⟨(hS (by omega)).one hR p, ?_⟩
      have e := com_eq (s := s) hs1 (fun j _ z => z) hA hc hp
      show A p &&& u.2 2 (lic p) = c p &&& u.2 2 (lic p)
      rw [e]
    rw [e]
    exact hq _ _ _ ⟨P, T, J, C, fr, to, kd, ord, pos, sd, bg, en, hs1⟩
  · exact w_out n1 (by decide) rfl (br0' (hp _ _ (shp_out n1 (br0' hq0))))
