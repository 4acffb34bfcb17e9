theorem live_of (t : Bool) : decide (b01 (!t) = 0) = t := by cases t <;> rfl
/-- the reference: as it is, and what is in part a; whatever the scratch rows hold then -/
theorem p_mreach {P T J C a : Nat} {fr to kd ord pos sd bg en : Nat → Nat} {u v : WU} {post : WU → Prop} (hs : Sim1 P T J C fr to kd ord pos sd bg en u v) (ha : a < 24)
    (h : ∀ g hh R, (∀ j, j < J → g j = b01 (!tb (u.2 6 0) j)) → (∀ p, p < P → hh p = u.1 2 p) → Lst J fr to (tb (u.2 6 0)) a (Sof R) → post (uI (w45 v g hh) 13 R)) : wp_X9_asItIs v (fun u12 => wp_X9_reaches (nI a) u12 post) := by
  obtain ⟨hT, hPS, hJS, hO, hSS, hC⟩ := hs
  obtain ⟨hP, p1, p2, p3, p4, p5, p6, p7, p8, p9⟩ := id hPS
  obtain ⟨hJ, j1, j2, j3, j4, j5⟩ := id hJS
  refine p_asItIs (cu := fun j => !tb (u.2 6 0) j) (a := u.1 2) hP hJ p3 j2 (fun j hj => by rw [j4 j (by omega)]; simp [hj]) (fun p hp => ?_) fun g hh hg hhh => ?_
  · obtain ⟨r1, m, t, m1, m3, htm, r2, r3, r4, r5, r6⟩ := p7 p hp
    exact ⟨t, by omega, r3, r4⟩
  · refine p_reaches (v := w45 v g hh) (J := J) (fr := fr) (to := to) hJ ha j2 (fun j hj => ?_) fun R hR => h g hh R hg hhh (hR.cong fun j hj => ?_)
    · obtain ⟨q1, q2, q3, q4, q5, q6, q7, q8, q9⟩ := j3 j hj
      exact ⟨q4, q5, by omega, by omega⟩
    · show decide (g j = 0) = _
      rw [hg j hj]; exact live_of _
theorem s_join {x1 x2 x3 : Int32} {u v : WU} (hs : Sim u v) {p : Int32 → WU → Prop} {q : Int32 → WU → Int32 → WU → Prop} (hp : ∀ r u', wp_X9_join x1 x2 x3 v (q r u') → p r u') (hq : ∀ r u' v', Sim u' v' → q r u' r v') : wp_X8_join x1 x2 x3 u p := by
  have hq0 := hq (-1) u v hs
  obtain ⟨P, T, J, C, fr, to, kd, ord, pos, sd, bg, en, hs1⟩ := hs
  obtain ⟨hT, hPS, hJS, hO, hSS, hC⟩ := id hs1
  obtain ⟨hP, p1, p2, p3, p4, p5, p6, p7, p8, p9⟩ := id hPS
  obtain ⟨hJ, j1, j2, j3, j4, j5⟩ := id hJS
  have hfX : ∀ j, j < J → u.1 3 j = nI (fr j) ∧ fr j < 24 ∧ to j < 24 := fun j hj => by
    obtain ⟨q1, q2, q3, q4, q5, q6, q7, q8, q9⟩ := j3 j hj
    exact ⟨q1, by omega, by omega⟩
  have hfM : ∀ j, j < J → v.1 5 j = nI (fr j) ∧ v.1 6 j = nI (to j) ∧ fr j < 24 ∧ to j < 24 := fun j hj => by
    obtain ⟨q1, q2, q3, q4, q5, q6, q7, q8, q9⟩ := j3 j hj
    exact ⟨q4, q5, by omega, by omega⟩
  rcases in_or x1 P (by omega) with ⟨a, ha, rfl⟩ | n1
  · rcases in_or x2 P (by omega) with ⟨b, hb, rfl⟩ | n2
    · rcases in_or x3 4 (by decide) with ⟨k, hk, rfl⟩ | n3
      · refine has_in ha hP p2 (br1 (has_in hb hP p2 (br1 (w_in hk (by decide) rfl (br1 ?_)))))
        rw [j1]
        have hfull : ¬ nI J < 40 → v.1 23 0 = 40 := by
          intro hc
          have e40 : J = 40 := by
            rcases Nat.lt_or_ge J 40 with z | z
            · exact absurd (nI_lt z (by decide)) hc
            · omega
          rw [j2, e40]
          rfl
        refine ⟨fun hc => ?_, fun hc => hp _ _ ⟨fun _ => hq0, fun h40 => absurd (hfull hc) h40⟩⟩
        have hlt : J < 40 := (nI_ltI (by omega) (by decide)).mp hc
        have h40 : ¬ v.1 23 0 = 40 := by
          rw [j2]
          exact fun z => absurd ((nI_eq (a := J) (b := 40) (by omega) (by decide)).mp z) (by omega)
        -- what the reference does once its first tests are through
        have M : ∀ (r : Int32) (u' : WU), (a = b → q r u' (-1) v) → ((∃ j, j < J ∧ tb (u.2 6 0) j = true ∧ fr j = a ∧ to j = b) → q r u' (-1) v) → (∀ v', wp_X9_asItIs v (fun u12 => wp_X9_reaches (nI a) u12 v') → True) → (a ≠ b → (¬ ∃ j, j < J ∧ tb (u.2 6 0) j = true ∧ fr j = a ∧ to j = b) → ∀ g hh R, Lst J fr to (tb (u.2 6 0)) a (Sof R) → (Sof R b = false → q r u' (nI J) (uI (uI (uI (uI (uI (w45 v g hh) 13 R) 5 (upd (v.1 5) J (nI a))) 6 (upd (v.1 6) J (nI b))) 7 (upd (v.1 7) J (nI k))) 23 (fun _ => nI (J + 1)))) ∧ (Sof R b = true → q r u' (-1) (uI (w45 v g hh) 13 R))) → wp_X9_join (nI a) (nI b) (nI k) v (q r u') := by
          intro r u' m1 m2 _ m3
          refine ⟨fun z => absurd z h40, fun _ => isp_in ha hP p3 (br1 (isp_in hb hP p3 (br1 ⟨fun z => m1 ((nI_eq (by omega) (by omega)).mp z), fun hne => l_in hk (by decide) (by decide) (br1' ?_)⟩)))⟩
          have hab : a ≠ b := fun z => hne (by rw [z])
          refine p_mjoin44 hJ (by omega) (by omega) j2 hfM (lv := tb (u.2 6 0)) (fun j hj => by rw [j4 j (by omega)]; simp [hj]) m2 fun hnd => ?_
          refine p_mreach hs1 (by omega) fun g hh R hg hhh hR => ⟨vp_in_nI (by omega) (by decide), ?_⟩
          obtain ⟨m4, m5⟩ := m3 hab hnd g hh R hR
          have e13 : (uI (w45 v g hh) 13 R).1 13 (nI b).toNatClampNeg = R b := by rw [nI_clamp (by omega)]; rfl
          have e23 : (uI (w45 v g hh) 13 R).1 23 0 = nI J := j2
          have hcl : (nI J).toNatClampNeg = J := nI_clamp (by omega)
          have hin : vp_in (nI J) 40 := vp_in_nI hlt (by decide)
          rw [e13, e23]
          refine ⟨fun hz => ⟨hin, fun u14 hu14 => ?_⟩, fun hz => m5 (by unfold Sof; simp [hz]; omega)⟩
          have f14 : u14.1 23 0 = nI J := by rw [hu14]; exact e23
          rw [f14]
          refine ⟨hin, fun u15 hu15 => ?_⟩
          have f15 : u15.1 23 0 = nI J := by rw [hu15]; exact f14
          rw [f15]
          refine ⟨hin, fun u16 hu16 u17 hu17 => ?_⟩
          have f16 : u16.1 23 0 = nI J := by rw [hu16]; exact f15
          rw [f16, nI_1] at hu17
          have f17 : u17.1 23 0 - 1 = nI J := by rw [hu17]; show nI (J + 1) - 1 = nI J; exact nI_pred J
          rw [f17]
          rw [hcl] at hu14 hu15 hu16
          have := m4 (by unfold Sof; simp [hz])
          rw [hu17, hu16, hu15, hu14]
          exact this
        refine p_leads hJ (by omega) (by omega) (fun j hj => ⟨(hfX j hj).1, (hfX j hj).2.1⟩) hSS (fun hd => br1' (hp _ _ (M _ _ (fun _ => hq0) (fun _ => hq0) (fun _ _ => trivial) fun _ hnd => absurd hd hnd))) fun hnd => br0' ?_
        refine p_allIn hJ (by omega) hfX hO hSS (fun j _ z => z) fun r hr hr24 => h_holds _ (by omega) ?_
        rw [tb_i2l _ (by omega)]
        cases hbb : ti r b with
        | true =>
          refine br1 (hp _ _ (M _ _ (fun _ => hq0) (fun _ => hq0) (fun _ _ => trivial) fun _ _ g hh R hR => ⟨fun z => ?_, fun _ => hq _ _ _ ⟨P, T, J, C, fr, to, kd, ord, pos, sd, bg, en, hs1⟩⟩))
          rw [← hr.one hR b, hbb] at z
          exact absurd z (by decide)
        | false =>
          have hab : a ≠ b := fun z => by
            have := hr.1
            rw [z, hbb] at this
            exact absurd this (by decide)
          refine br0 (p_xadd hs1 hlt ha hb hk hr hbb fun f3 f6 f7 f8 f9 th' ord' pos' sd' bg' en' hbits hf3 OS1 SS1 => hp _ _ (M _ _ (fun z => absurd z hab) (fun z => absurd z hnd) (fun _ _ => trivial) fun _ _ g hh R hR => ⟨fun _ => hq _ _ _ ?_, fun z => ?_⟩))
          · subst hf3
            exact ⟨P, T, J + 1, C, putN fr J a, putN to J b, putN kd J k, ord', pos', sd', bg', en', hT, hPS, js_join hlt ha hb hk hJS hbits, OS1, SS1, cs_moreJ hC⟩
          · rw [← hr.one hR b, hbb] at z
            exact absurd z (by decide)
      · refine has_in ha hP p2 (br1 (has_in hb hP p2 (br1 (w_out n3 (by decide) rfl (br0 (hp _ _ ?_))))))
        exact ⟨fun _ => hq0, fun _ => isp_in ha hP p3 (br1 (isp_in hb hP p3 (br1 ⟨fun _ => hq0, fun _ => l_out n3 (by decide) (by decide) (br0' hq0)⟩)))⟩
    · refine has_in ha hP p2 (br1 (has_out n2 hP p2 (br0 (hp _ _ ?_))))
      exact ⟨fun _ => hq0, fun _ => isp_in ha hP p3 (br1 (isp_out n2 hP p3 (br0 hq0)))⟩
  · refine has_out n1 hP p2 (br0 (hp _ _ ?_))
    exact ⟨fun _ => hq0, fun _ => isp_out n1 hP p3 (br0 hq0)⟩
