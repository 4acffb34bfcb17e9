/-! ===== change ===== -/
def okC (P J : Nat) (x1 x2 x3 x4 : Int32) : Prop := ((x1 = 0 ∧ (∃ w : Nat, w < P ∧ x2 = nI w) ∧ ∃ g : Nat, g < 8 ∧ x3 = nI g) ∨ (x1 = 1 ∧ ∃ w : Nat, w < J ∧ x2 = nI w)) ∧ ∃ z : Nat, z < 100001 ∧ x4 = nI z
theorem cx_all {P J C : Nat} {x1 x2 x3 x4 : Int32} {u : WU} {post : Int32 → WU → Prop} (hP : P ≤ 24) (hJ : J ≤ 40) (hC : C ≤ 10) (eP : u.1 20 0 = nI P) (eJ : u.1 22 0 = nI J) (eC : u.1 23 0 = nI C) (h1 : okC P J x1 x2 x3 x4 → C < 10 → wp_X0_add x1 x2 x3 x4 u (fun r3 u2 => post r3 u2)) (h0 : (okC P J x1 x2 x3 x4 → C = 10) → post (-1) u) : wp_X8_change x1 x2 x3 x4 u post := by
  have J43 : ((x1 = 0 ∧ (∃ w : Nat, w < P ∧ x2 = nI w) ∧ ∃ g : Nat, g < 8 ∧ x3 = nI g) ∨ (x1 = 1 ∧ ∃ w : Nat, w < J ∧ x2 = nI w)) → wp_X8_change_J43 x1 x2 x3 x4 u post := by
    intro hk
    unfold wp_X8_change_J43
    refine br1 ?_
    rcases in_or x4 100001 (by decide) with ⟨z, hz, e4⟩ | n4
    · rw [e4]
      refine w_in hz (by decide) rfl (br1 ?_)
      rw [← e4, eC]
      refine ⟨fun hc => h1 ⟨hk, z, hz, e4⟩ ((nI_ltI (by omega) (by decide)).mp hc), fun hc => h0 fun _ => ?_⟩
      rcases Nat.lt_or_ge C 10 with q | q
      · exact absurd (nI_lt q (by decide)) hc
      · omega
    · refine w_out n4 (by decide) rfl (br0 (h0 fun h => ?_))
      obtain ⟨_, z, hz, e⟩ := h
      exact absurd e (n4 z hz)
  have J47 : ¬ ((x1 = 0 ∧ (∃ w : Nat, w < P ∧ x2 = nI w) ∧ ∃ g : Nat, g < 8 ∧ x3 = nI g) ∨ (x1 = 1 ∧ ∃ w : Nat, w < J ∧ x2 = nI w)) → wp_X8_change_J47 x1 x2 x3 x4 u post := by
    intro hk
    unfold wp_X8_change_J47
    exact br0 (h0 fun h => absurd h.1 hk)
  have J24 : ¬ (x1 = 0 ∧ (∃ w : Nat, w < P ∧ x2 = nI w) ∧ ∃ g : Nat, g < 8 ∧ x3 = nI g) → wp_X8_change_J24 x1 x2 x3 x4 u post := by
    intro hk
    refine ⟨fun hc => J47 fun h => ?_, fun hc => ?_⟩
    · rcases h with h | ⟨h, _⟩
      · exact hk h
      · exact hc h
    · rcases in_or x2 J (by omega) with ⟨w, hw, e2⟩ | n2
      · rw [e2]
        refine w_in hw (by omega) eJ (br1 ?_)
        rw [← e2]
        exact J43 (Or.inr ⟨hc, w, hw, e2⟩)
      · refine w_out n2 (by omega) eJ (br0 (J47 fun h => ?_))
        rcases h with h | ⟨_, w, hw, e⟩
        · exact hk h
        · exact n2 w hw e
  refine ⟨fun hc => J24 fun h => hc h.1, fun hc => ?_⟩
  rcases in_or x2 P (by omega) with ⟨w, hw, e2⟩ | n2
  · rw [show wp_X5_has x2 = wp_X5_has (nI w) by rw [e2]]
    refine has_in hw hP eP (br1 ?_)
    rcases in_or x3 8 (by decide) with ⟨g, hg, e3⟩ | n3
    · rw [show wp_X8_within x3 = wp_X8_within (nI g) by rw [e3]]
      exact w_in hg (by decide) rfl (br1' (J43 (Or.inl ⟨hc, ⟨w, hw, e2⟩, g, hg, e3⟩)))
    · refine w_out n3 (by decide) rfl (br0' (J24 fun h => ?_))
      obtain ⟨_, _, g, hg, e⟩ := h
      exact n3 g hg e
  · refine has_out n2 hP eP (br0 (J24 fun h => ?_))
    obtain ⟨_, ⟨w, hw, e⟩, _⟩ := h
    exact n2 w hw e
theorem cm_all {P J C : Nat} {x1 x2 x3 x4 : Int32} {v : WU} {post : Int32 → WU → Prop} (hP : P ≤ 24) (hJ : J ≤ 40) (hC : C ≤ 10) (eP : v.1 21 0 = nI P) (eJ : v.1 23 0 = nI J) (eC : v.1 24 0 = nI C) (h1 : okC P J x1 x2 x3 x4 → C < 10 → wp_X9_change_J69 x1 x2 x3 x4 v post) (h0 : (okC P J x1 x2 x3 x4 → C = 10) → post (-1) v) : wp_X9_change x1 x2 x3 x4 v post := by
  unfold wp_X9_change
  rw [eC]
  refine ⟨fun hc => h0 fun _ => (nI_eq (by omega) (by decide)).mp hc, fun hc => ?_⟩
  have hlt : C < 10 := by
    rcases Nat.lt_or_ge C 10 with z | z
    · exact z
    · exact absurd (by rw [show C = 10 by omega]; rfl) hc
  have one : (1 : Int32) ≠ 0 := by decide
  rcases in_or x1 2 (by decide) with ⟨a, ha, e1⟩ | n1
  · rw [show wp_X9_lies x1 = wp_X9_lies (nI a) by rw [e1]]
    refine l_in ha (by decide) (by decide) (br1 ?_)
    rcases in_or x4 100001 (by decide) with ⟨z, hz, e4⟩ | n4
    · rw [show wp_X9_lies x4 = wp_X9_lies (nI z) by rw [e4]]
      refine l_in hz (by decide) (by decide) (br1' ⟨fun hc => ?_, fun hc => ?_⟩)
      · have e11 : x1 = 1 := by
          rcases (show a = 0 ∨ a = 1 by omega) with rfl | rfl
          · exact absurd e1 hc
          · exact e1
        rcases in_or x2 J (by omega) with ⟨w, hw, e2⟩ | n2
        · rw [show wp_X9_lies x2 = wp_X9_lies (nI w) by rw [e2]]
          exact l_in hw (by omega) (by rw [eJ]) (br1' (h1 ⟨Or.inr ⟨e11, w, hw, e2⟩, z, hz, e4⟩ hlt))
        · refine l_out n2 (by omega) (by rw [eJ]) (br0' (h0 fun h => ?_))
          rcases h with ⟨⟨h, _⟩ | ⟨_, w, hw, e⟩, _⟩
          · exact absurd h hc
          · exact absurd e (n2 w hw)
      · rcases in_or x2 P (by omega) with ⟨w, hw, e2⟩ | n2
        · rw [show wp_X9_isPart x2 = wp_X9_isPart (nI w) by rw [e2]]
          refine isp_in hw hP eP (br1 ?_)
          rcases in_or x3 8 (by decide) with ⟨g, hg, e3⟩ | n3
          · rw [show wp_X9_isLicence x3 = wp_X9_isLicence (nI g) by rw [e3]]
            exact lic_in hg (br1' (h1 ⟨Or.inl ⟨hc, ⟨w, hw, e2⟩, g, hg, e3⟩, z, hz, e4⟩ hlt))
          · refine lic_out n3 (br0' (h0 fun h => ?_))
            rcases h with ⟨⟨_, _, g, hg, e⟩ | ⟨h, _⟩, _⟩
            · exact absurd e (n3 g hg)
            · exact absurd (hc.symm.trans h).symm one
        · refine isp_out n2 hP eP (br0 (h0 fun h => ?_))
          rcases h with ⟨⟨_, ⟨w, hw, e⟩, _⟩ | ⟨h, _⟩, _⟩
          · exact absurd e (n2 w hw)
          · exact absurd (hc.symm.trans h).symm one
    · refine l_out n4 (by decide) (by decide) (br0' (h0 fun h => ?_))
      obtain ⟨_, z, hz, e⟩ := h
      exact absurd e (n4 z hz)
  · refine l_out n1 (by decide) (by decide) (br0 (h0 fun h => ?_))
    rcases h with ⟨⟨h, _⟩ | ⟨h, _⟩, _⟩
    · exact absurd h (n1 0 (by omega))
    · exact absurd h (n1 1 (by omega))
theorem cx_add {C : Nat} {x1 x2 x3 x4 : Int32} {u : WU} {post : Int32 → WU → Prop} (hC : C < 10) (e : u.1 23 0 = nI C) (h : post (nI C) (uI (uI (uI (uI (uI u 23 (fun _ => nI (C + 1))) 10 (upd (u.1 10) C x1)) 11 (upd (u.1 11) C x2)) 12 (upd (u.1 12) C x3)) 13 (upd (u.1 13) C x4))) : wp_X0_add x1 x2 x3 x4 u post := by
  intro y hy u2 hu2
  rw [e] at hy hu2
  subst hy
  rw [nI_1] at hu2
  have hin : vp_in (nI C) 10 := vp_in_nI hC (by decide)
  have hcl : (nI C).toNatClampNeg = C := nI_clamp (by omega)
  refine ⟨hin, fun u3 hu3 => ⟨hin, fun u4 hu4 => ⟨hin, fun u5 hu5 => ⟨hin, fun u6 hu6 => ?_⟩⟩⟩⟩
  rw [hcl] at hu3 hu4 hu5 hu6
  subst hu2; subst hu3; subst hu4; subst hu5; subst hu6
  exact h
theorem cm_add {C : Nat} {x1 x2 x3 x4 : Int32} {v : WU} {post : Int32 → WU → Prop} (hC : C < 10) (e : v.1 24 0 = nI C) (h : post (nI C) (uI (uI (uI (uI (uI v 9 (upd (v.1 9) C x1)) 10 (upd (v.1 10) C x2)) 11 (upd (v.1 11) C x3)) 12 (upd (v.1 12) C x4)) 24 (fun _ => nI (C + 1)))) : wp_X9_change_J69 x1 x2 x3 x4 v post := by
  have hin : vp_in (nI C) 10 := vp_in_nI hC (by decide)
  have hcl : (nI C).toNatClampNeg = C := nI_clamp (by omega)
  unfold wp_X9_change_J69
  rw [e]
  refine ⟨hin, fun u1 hu1 => ?_⟩
  have f1 : u1.1 24 0 = nI C := by rw [hu1]; exact e
  rw [f1]
  refine ⟨hin, fun u2 hu2 => ?_⟩
  have f2 : u2.1 24 0 = nI C := by rw [hu2]; exact f1
  rw [f2]
  refine ⟨hin, fun u3 hu3 => ?_⟩
  have f3 : u3.1 24 0 = nI C := by rw [hu3]; exact f2
  rw [f3]
  refine ⟨hin, fun u4 hu4 u5 hu5 => ?_⟩
  have f4 : u4.1 24 0 = nI C := by rw [hu4]; exact f3
  rw [f4, nI_1] at hu5
  have f5 : u5.1 24 0 - 1 = nI C := by rw [hu5]; show nI (C + 1) - 1 = nI C; exact nI_pred C
  rw [f5]
  rw [hcl] at hu1 hu2 hu3 hu4
  subst hu1; subst hu2; subst hu3; subst hu4; subst hu5
  exact h
theorem cs_change {P J C : Nat} {x1 x2 x3 x4 : Int32} {u v : WU} (hlt : C < 10) (ok : okC P J x1 x2 x3 x4) (h : CS P J C u v) : CSf P J (C + 1) (upd (u.1 10) C x1) (upd (u.1 11) C x2) (upd (u.1 12) C x3) (upd (u.1 13) C x4) (fun _ => nI (C + 1)) (upd (v.1 9) C x1) (upd (v.1 10) C x2) (upd (v.1 11) C x3) (upd (v.1 12) C x4) (fun _ => nI (C + 1)) := by
  obtain ⟨h1, h2, h3, h4⟩ := h
  refine ⟨by omega, rfl, rfl, fun c hc => ?_⟩
  by_cases e : c = C
  · subst e
    simp only [pk_us]
    obtain ⟨ok1, z, hz, e4⟩ := ok
    refine ⟨trivial, trivial, trivial, trivial, ?_, z, by omega, e4⟩
    rcases ok1 with ⟨a, ⟨w, hw, b⟩, g, hg, d⟩ | ⟨a, w, hw, b⟩
    · exact Or.inl ⟨a, w, g, b, hw, d, hg⟩
    · exact Or.inr ⟨a, w, b, hw⟩
  · simp only [pk_un e]
    exact h4 c (by omega)
theorem s_change {x1 x2 x3 x4 : Int32} {u v : WU} (hs : Sim u v) {p : Int32 → WU → Prop} {q : Int32 → WU → Int32 → WU → Prop} (hp : ∀ r u', wp_X9_change x1 x2 x3 x4 v (q r u') → p r u') (hq : ∀ r u' v', Sim u' v' → q r u' r v') : wp_X8_change x1 x2 x3 x4 u p := by
  have hq0 := hq (-1) u v hs
  obtain ⟨P, T, J, C, fr, to, kd, ord, pos, sd, bg, en, hT, hPS, hJS, hO, hS, hCS⟩ := hs
  obtain ⟨hP, p1, p2, p3, p4, p5, p6, p7, p8, p9⟩ := id hPS
  obtain ⟨hJ, j1, j2, j3, j4, j5⟩ := id hJS
  obtain ⟨hC, c1, c2, c3⟩ := id hCS
  refine cx_all hP hJ hC p2 j1 c1 (fun ok hlt => cx_add hlt c1 (hp _ _ (cm_all hP hJ hC p3 j2 c2 (fun _ _ => cm_add hlt c2 (hq _ _ _ ?_)) (fun h => absurd (h ok) (by omega))))) (fun h => hp _ _ (cm_all hP hJ hC p3 j2 c2 (fun ok hlt => absurd (h ok) (by omega)) (fun _ => hq0)))
  exact ⟨P, T, J, C + 1, fr, to, kd, ord, pos, sd, bg, en, hT, hPS, hJS, hO, hS, cs_change (u := u) (v := v) hlt ok hCS⟩
