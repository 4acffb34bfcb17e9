theorem p_mcountOut {J p : Nat} {to : Nat → Nat} {lv : Nat → Bool} {v : WU} {post : Int32 → WU → Prop} (hJ : J ≤ 40) (hp : p < 24) (e : v.1 23 0 = nI J) (hf : ∀ j, j < J → v.1 5 j = nI (to j) ∧ to j < 24) (h8 : ∀ j, j < J → v.1 8 j = b01 (!lv j)) (h : post (nI (fb_ct (fun j => lv j && decide (to j = p)) J)) v) : ∃ nn, wp_X9_look_L182 (nI p) post nn 0 0 v := by
  refine loop_0 (W := fun n i s => wp_X9_look_L182 (nI p) post n s (nI i) v) (I := fun i s => s = nI (fb_ct (fun j => lv j && decide (to j = p)) i)) J 0 rfl ?_ ?_
  · intro n s hs
    exact ⟨fun _ => by rw [hs]; exact h, fun hc => absurd (by rw [e]; exact Int32.le_refl _) hc⟩
  · intro n i s hi hs ih
    have hci : (nI i).toNatClampNeg = i := nI_clamp (by omega)
    have hin : vp_in (nI i) 40 := vp_in_nI (by omega) (by decide)
    obtain ⟨f1, f2⟩ := hf i hi
    refine ⟨fun hc => absurd (by rw [e] at hc; exact hc) (nI_ge (a := i) (b := J) hi (by omega)), fun _ => ⟨hin, ?_⟩⟩
    rw [hci, h8 i hi, f1]
    have hno : (lv i && decide (to i = p)) = false → ∀ y : Int32, y = s + 0 → ∀ z : Int32, z = nI i + 1 → wp_X9_look_L182 (nI p) post n y z v := by
      intro hr y hy z hz
      rw [hz, nI_1]
      refine ih y ?_
      rw [hy, hs, fb_ct_succ, hr]; simp
    refine ⟨fun hc => hno ?_, fun hc => ⟨hin, fun hc2 => hno ?_, fun hc2 y hy z hz => ?_⟩⟩
    · cases hl : lv i with
      | false => rfl
      | true => rw [hl] at hc; exact absurd rfl hc
    · have : ¬ to i = p := fun z => hc2 (by rw [z])
      simp [this]
    · have hl : lv i = true := by
        cases hl : lv i with
        | true => rfl
        | false => rw [hl] at hc; exact absurd hc (by decide)
      have ht : to i = p := (nI_eq (by omega) (by omega)).mp hc2
      rw [hz, nI_1]
      refine ih y ?_
      rw [hy, hs, fb_ct_succ, nI_1]; simp [hl, ht]
theorem p_mreachT {P T J C : Nat} {fr to kd ord pos sd bg en : Nat → Nat} {u v : WU} {post : WU → Prop} (hs : Sim1 P T J C fr to kd ord pos sd bg en u v)
    (h : ∀ g hh R, (∀ j, j < J → g j = b01 (!tb (u.2 6 0) j)) → (∀ p, p < P → hh p = u.1 2 p) → Lst J fr to (tb (u.2 6 0)) T (Sof R) → post (uI (w45 v g hh) 13 R)) : wp_X9_asItIs v (fun u12 => wp_X9_reaches (u12.1 22 0) u12 post) := by
  obtain ⟨hT, hPS, hJS, hO, hSS, hC⟩ := hs
  obtain ⟨hP, p1, p2, p3, p4, p5, p6, p7, p8, p9⟩ := id hPS
  obtain ⟨hJ, j1, j2, j3, j4, j5⟩ := id hJS
  refine p_asItIs (cu := fun j => !tb (u.2 6 0) j) (a := u.1 2) hP hJ p3 j2 (fun j hj => by rw [j4 j (by omega)]; simp [hj]) (fun p hp => ?_) fun g hh hg hhh => ?_
  · obtain ⟨r1, m, t, m1, m3, htm, r2, r3, r4, r5, r6⟩ := p7 p hp
    exact ⟨t, by omega, r3, r4⟩
  · have e22 : (w45 v g hh).1 22 0 = nI T := p5
    rw [e22]
    refine p_reaches (v := w45 v g hh) (J := J) (fr := fr) (to := to) hJ (by omega) j2 (fun j hj => ?_) fun R hR => h g hh R hg hhh (hR.cong fun j hj => ?_)
    · obtain ⟨q1, q2, q3, q4, q5, q6, q7, q8, q9⟩ := j3 j hj
      exact ⟨q4, q5, by omega, by omega⟩
    · show decide (g j = 0) = _
      rw [hg j hj]; exact live_of _
theorem s_look {x1 x2 : Int32} {u v : WU} (hs : Sim u v) {p : Int32 → Prop} {q : Int32 → Int32 → WU → Prop} (hp : ∀ r, wp_X9_look x1 x2 v (q r) → p r) (hq : ∀ r v', Sim u v' → q r r v') : wp_X8_look x1 x2 u p := by
  have hq0 := fun r => hq r v hs
  obtain ⟨P, T, J, C, fr, to, kd, ord, pos, sd, bg, en, hs1⟩ := hs
  obtain ⟨hT, hPS, hJS, hO, hSS, hC⟩ := id hs1
  obtain ⟨hP, p1, p2, p3, p4, p5, p6, p7, p8, p9⟩ := id hPS
  obtain ⟨hJ, j1, j2, j3, j4, j5⟩ := id hJS
  rcases in_or x1 P (by omega) with ⟨k, hk, rfl⟩ | n1
  · obtain ⟨r1, m, t, m1, m3, htm, r2, r3, r4, r5, r6⟩ := p7 k hk
    have hin : vp_in (nI k) 24 := vp_in_nI (by omega) (by decide)
    have hcl : (nI k).toNatClampNeg = k := nI_clamp (by omega)
    have h8 : ∀ j, j < J → v.1 8 j = b01 (!tb (u.2 6 0) j) := fun j hj => by rw [j4 j (by omega)]; simp [hj]
    have h3 : ∀ i, 3 * nI k + nI i = nI (3 * k + i) := fun i => by have e3 : (3 : Int32) = nI 3 := rfl; rw [e3, pk_mul, nI_add]
    -- the reference behind its test of a choice
    have MO : ∀ r, (∀ i : Nat, i < m → x2 - 5 ≠ nI i) → ((x2 = 0 → q r (u.1 2 k) v) ∧ (x2 = 1 → q r (u.1 1 k) v) ∧ (x2 = 2 → wp_X9_asItIs v (fun u31 => wp_X9_reaches (u31.1 22 0) u31 (fun u32 => vp_in (nI k) 24 ∧ (((u32.1 13 (nI k).toNatClampNeg) = 0 → q r 0 u32) ∧ (¬ (u32.1 13 (nI k).toNatClampNeg) = 0 → q r 1 u32))))) ∧ (x2 = 3 → q r (nI (fb_ct (fun j => tb (u.2 6 0) j && decide (to j = k)) J)) v) ∧ (x2 = 4 → q r (nI (fb_ct (fun j => tb (u.2 6 0) j && decide (fr j = k)) J)) v) ∧ (¬ x2 = 0 → ¬ x2 = 1 → ¬ x2 = 2 → ¬ x2 = 3 → ¬ x2 = 4 → q r (-1) v)) → wp_X9_look (nI k) x2 v (q r) := by
      rintro r no ⟨c0, c1, c2, c3, c4, c5⟩
      refine isp_in hk hP p3 (br1' ⟨hin, l_out no (by omega) (by rw [hcl, r2]) (br0 ⟨fun e => ⟨hin, ?_⟩, fun e => ⟨hin, ?_⟩, c2, fun e => ?_, fun e => ?_, c5⟩)⟩)
      · rw [hcl, r3, h3]
        refine ⟨vp_in_nI (by omega) (by decide), ?_⟩
        rw [nI_clamp (by omega), ← r4]; exact c0 e
      · rw [hcl, ← r1]; exact c1 e
      · exact p_mcountIn hJ (by omega) j2 (fun j hj => ⟨(j3 j hj).2.2.2.2.1, by have := (j3 j hj).2.2.2.2.2.2.2.1; omega⟩) h8 (c3 e)
      · exact p_mcountOut hJ (by omega) j2 (fun j hj => ⟨(j3 j hj).2.2.2.1, by have := (j3 j hj).2.2.2.2.2.2.1; omega⟩) h8 (c4 e)
    have neg : ∀ z : Int32, z - 5 < 0 → ∀ i : Nat, i < m → z - 5 ≠ nI i := fun z hz i hi e => absurd (by rw [← e]; exact hz) (nI_pos (n := i) (by omega))
    refine has_in hk hP p2 (br1' ⟨fun e => ⟨hin, ?_⟩, fun e => ⟨hin, ?_⟩, fun e => ?_, fun e => ⟨hin, hin, ?_⟩, fun e => ?_, fun e0 e1 e2 e3 e4 => ?_⟩)
    · rw [hcl]
      exact hp _ (MO _ (neg _ (by rw [e]; decide)) ⟨fun _ => hq0 _, fun z => absurd (e.symm.trans z) (by decide), fun z => absurd (e.symm.trans z) (by decide), fun z => absurd (e.symm.trans z) (by decide), fun z => absurd (e.symm.trans z) (by decide), fun z => absurd e z⟩)
    · rw [hcl]
      exact hp _ (MO _ (neg _ (by rw [e]; decide)) ⟨fun z => absurd (e.symm.trans z) (by decide), fun _ => hq0 _, fun z => absurd (e.symm.trans z) (by decide), fun z => absurd (e.symm.trans z) (by decide), fun z => absurd (e.symm.trans z) (by decide), fun _ z => absurd e z⟩)
    · refine p_ofProduct hs1 (fun j _ z => z) (fun z => by omega) fun _ r hr hr24 => h_holds _ (by omega) ?_
      rw [tb_i2l _ (by omega)]
      have MM : ∀ b : Bool, ti r k = b → wp_X9_look (nI k) x2 v (q (b01 b)) := by
        intro b hb
        refine MO _ (neg _ (by rw [e]; decide)) ⟨fun z => absurd (e.symm.trans z) (by decide), fun z => absurd (e.symm.trans z) (by decide), fun _ => ?_, fun z => absurd (e.symm.trans z) (by decide), fun z => absurd (e.symm.trans z) (by decide), fun _ _ z => absurd e z⟩
        refine p_mreachT hs1 fun g hh R hg hhh hR => ⟨hin, ?_⟩
        · have e13 : (uI (w45 v g hh) 13 R).1 13 (nI k).toNatClampNeg = R k := by rw [hcl]; rfl
          have hS : Sim u (uI (w45 v g hh) 13 R) := ⟨P, T, J, C, fr, to, kd, ord, pos, sd, bg, en, hs1⟩
          have hk2 := hr.one hR k
          rw [e13]
          refine ⟨fun z => ?_, fun z => ?_⟩
          · have : Sof R k = false := by unfold Sof; simp [z]
            rw [hb, this] at hk2; rw [hk2]; exact hq _ _ hS
          · have : Sof R k = true := by unfold Sof; simp [z]; omega
            rw [hb, this] at hk2; rw [hk2]; exact hq _ _ hS
      cases hb : ti r k with
      | false => exact br0 (hp _ (MM false hb))
      | true => exact br1 (hp _ (MM true hb))
    · obtain ⟨s1, s2, s3, s4, s5, s6, s7⟩ := hSS k (by omega)
      rw [hcl, s1, s2, pk_sub s3, s5]
      exact hp _ (MO _ (neg _ (by rw [e]; decide)) ⟨fun z => absurd (e.symm.trans z) (by decide), fun z => absurd (e.symm.trans z) (by decide), fun z => absurd (e.symm.trans z) (by decide), fun _ => hq0 _, fun z => absurd (e.symm.trans z) (by decide), fun _ _ _ z => absurd e z⟩)
    · refine p_countOut hJ (by omega) j1 (fun j hj => ⟨(j3 j hj).1, by have := (j3 j hj).2.2.2.2.2.2.1; omega⟩) ?_
      exact hp _ (MO _ (neg _ (by rw [e]; decide)) ⟨fun z => absurd (e.symm.trans z) (by decide), fun z => absurd (e.symm.trans z) (by decide), fun z => absurd (e.symm.trans z) (by decide), fun z => absurd (e.symm.trans z) (by decide), fun _ => hq0 _, fun _ _ _ _ z => absurd e z⟩)
    · rcases in_or (x2 - 5) m (by omega) with ⟨i, hi, ei⟩ | no
      · have e5 : x2 = nI (i + 5) := by
          have : x2 = (x2 - 5) + 5 := by rw [Int32.sub_add_cancel]
          rw [this, ei]
          have e3 : (5 : Int32) = nI 5 := rfl
          rw [e3, nI_add]
        have hix : (nI k * 3 + nI i).toNatClampNeg = 3 * k + i := by rw [three_n]; exact nI_clamp (by omega)
        refine ⟨fun hc => absurd (by rw [e5] at hc; exact hc) (nI_nlt (a := i + 5) (b := 5) (by omega) (by omega)), fun _ => ⟨hin, ?_⟩⟩
        rw [hcl, r1, r2, ei]
        refine ⟨fun _ => ⟨by rw [three_n]; exact vp_in_nI (by omega) (by decide), ?_⟩, fun hc => absurd (nI_lt hi (by omega)) hc⟩
        rw [hix, p6 (3 * k + i) (by omega)]
        refine hp _ (isp_in hk hP p3 (br1' ⟨hin, ?_⟩))
        rw [ei]
        refine l_in hi (by omega) (by rw [hcl, r2]) (br1 ?_)
        have e9 : 3 * nI k + x2 - 5 = nI (3 * k + i) := by
          rw [e5, h3]
          have e3 : (5 : Int32) = nI 5 := rfl
          rw [e3, pk_sub (by omega)]
          congr 1
        rw [e9, nI_clamp (by omega)]
        exact ⟨vp_in_nI (by omega) (by decide), hq0 _⟩
      · have hM : wp_X9_look (nI k) x2 v (q (-1)) := MO _ no ⟨fun z => absurd z e0, fun z => absurd z e1, fun z => absurd z e2, fun z => absurd z e3, fun z => absurd z e4, fun _ _ _ _ _ => hq0 _⟩
        refine ⟨fun _ => hp _ hM, fun hc => ⟨hin, ?_⟩⟩
        rw [hcl, r1, r2]
        refine ⟨fun hlt => ?_, fun _ => hp _ hM⟩
        exfalso
        have h5 : ¬ x2 < 0 := fun z => hc (Int32.lt_trans z (by decide))
        obtain ⟨j, hj, ej⟩ := nI_of h5
        have hj5 : 5 ≤ j := by
          rcases Nat.lt_or_ge j 5 with z | z
          · exact absurd (by rw [ej]; exact nI_lt z (by decide)) hc
          · exact z
        have e6 : x2 - 5 = nI (j - 5) := by
          rw [ej]
          have e3 : (5 : Int32) = nI 5 := rfl
          rw [e3, pk_sub hj5]
        rw [e6] at hlt
        exact no (j - 5) ((nI_ltI (by omega) (by omega)).mp hlt) e6
  · exact has_out n1 hP p2 (br0' (hp _ (isp_out n1 hP p3 (br0' (hq0 _)))))
