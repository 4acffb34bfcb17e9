/-! ===== part: what it writes ===== -/
def tri (f : Nat → Int32) (P : Nat) (x1 x2 x3 : Int32) : Nat → Int32 := upd (upd (upd f (3 * P) x1) (3 * P + 1) x2) (3 * P + 2) x3
def triV (x1 x2 x3 : Int32) (i : Nat) : Int32 := if i = 0 then x1 else if i = 1 then x2 else x3
theorem tri_in {f : Nat → Int32} {P : Nat} {x1 x2 x3 : Int32} {i : Nat} (hi : i < 3) : tri f P x1 x2 x3 (3 * P + i) = triV x1 x2 x3 i := by
  unfold tri triV upd
  rcases (show i = 0 ∨ i = 1 ∨ i = 2 by omega) with rfl | rfl | rfl <;> simp
theorem tri_out {f : Nat → Int32} {P : Nat} {x1 x2 x3 : Int32} {j : Nat} (h : j < 3 * P ∨ 3 * P + 3 ≤ j) : tri f P x1 x2 x3 j = f j := by
  unfold tri
  rw [pk_un (by omega), pk_un (by omega), pk_un (by omega)]
theorem tri_cong {f g : Nat → Int32} {P : Nat} {x1 x2 x3 : Int32} {j : Nat} (h : f j = g j) : tri f P x1 x2 x3 j = tri g P x1 x2 x3 j := by
  unfold tri upd
  simp [h]
def manyR (x2 x3 : Int32) : Nat := if x2 = -1 then 1 else if x3 = -1 then 2 else 3
theorem px_add {P : Nat} {x1 x2 x3 : Int32} {u : WU} {post : Int32 → WU → Prop} (hP : P < 24) (e : u.1 20 0 = nI P) (h : post (nI P) (uI (uI (uI (uI u 20 (fun _ => nI (P + 1))) 0 (tri (u.1 0) P x1 x2 x3)) 1 (upd (u.1 1) P (nI (manyR x2 x3)))) 2 (upd (u.1 2) P x1))) : wp_X5_add x1 x2 x3 u post := by
  intro y hy u4 hu4
  rw [e] at hy hu4
  subst hy
  rw [nI_1] at hu4
  have c0 : nI P * 3 = nI (3 * P) := by have := three_n P 0; rw [nI_0] at this; simpa using this
  have c1 : nI P * 3 + 1 = nI (3 * P + 1) := three_n P 1
  have c2 : nI P * 3 + 2 = nI (3 * P + 2) := three_n P 2
  have k0 : (nI (3 * P)).toNatClampNeg = 3 * P := nI_clamp (by omega)
  have k1 : (nI (3 * P + 1)).toNatClampNeg = 3 * P + 1 := nI_clamp (by omega)
  have k2 : (nI (3 * P + 2)).toNatClampNeg = 3 * P + 2 := nI_clamp (by omega)
  have hcl : (nI P).toNatClampNeg = P := nI_clamp (by omega)
  refine ⟨by rw [c0]; exact vp_in_nI (by omega) (by decide), fun u5 hu5 => ⟨by rw [c1]; exact vp_in_nI (by omega) (by decide), fun u6 hu6 => ⟨by rw [c2]; exact vp_in_nI (by omega) (by decide), fun u7 hu7 => ?_⟩⟩⟩
  rw [c0, k0] at hu5
  rw [c1, k1] at hu6
  rw [c2, k2] at hu7
  have e7 : u7 = uI (uI u 20 (fun _ => nI (P + 1))) 0 (tri (u.1 0) P x1 x2 x3) := by
    rw [hu7, hu6, hu5, hu4]
    rw [uI_s, uI_uI, uI_s, uI_uI]
    rfl
  have J : ∀ m : Nat, m = manyR x2 x3 → wp_X5_add_J75 x1 (nI P) (nI P) (nI m) u7 post := by
    intro m hm
    refine ⟨vp_in_nI (by omega) (by decide), fun u1 hu1 => ⟨vp_in_nI (by omega) (by decide), fun u2 hu2 => ?_⟩⟩
    rw [hcl] at hu1 hu2
    rw [hu2, hu1, e7, hm]
    exact h
  refine ⟨fun h2 => ⟨fun h3 => J 3 (by unfold manyR; simp [h2, h3]), fun h3 => J 2 (by unfold manyR; simp [h2, h3])⟩, fun h2 => J 1 (by unfold manyR; simp [h2])⟩
theorem pm_add {P : Nat} {x1 x2 x3 : Int32} {v : WU} {post : Int32 → WU → Prop} (hP : P < 24) (e : v.1 21 0 = nI P) (h : post (nI P) (uI (uI (uI v 2 (tri (v.1 2) P x1 x2 x3)) 3 (upd (v.1 3) P (nI (manyR x2 x3)))) 21 (fun _ => nI (P + 1)))) : wp_X9_part_J69 x1 x2 x3 v post := by
  have c0 : 3 * nI P = nI (3 * P) := by have e3 : (3 : Int32) = nI 3 := rfl; rw [e3, pk_mul]
  have c1 : 3 * nI P + 1 = nI (3 * P + 1) := by rw [c0, nI_1]
  have c2 : 3 * nI P + 2 = nI (3 * P + 2) := by rw [c0]; have e3 : (2 : Int32) = nI 2 := rfl; rw [e3, nI_add]
  have k0 : (nI (3 * P)).toNatClampNeg = 3 * P := nI_clamp (by omega)
  have k1 : (nI (3 * P + 1)).toNatClampNeg = 3 * P + 1 := nI_clamp (by omega)
  have k2 : (nI (3 * P + 2)).toNatClampNeg = 3 * P + 2 := nI_clamp (by omega)
  have hcl : (nI P).toNatClampNeg = P := nI_clamp (by omega)
  unfold wp_X9_part_J69
  rw [e, c0]
  refine ⟨vp_in_nI (by omega) (by decide), fun u3 hu3 => ?_⟩
  have f3 : u3.1 21 0 = nI P := by rw [hu3]; exact e
  rw [f3, c1]
  refine ⟨vp_in_nI (by omega) (by decide), fun u4 hu4 => ?_⟩
  have f4 : u4.1 21 0 = nI P := by rw [hu4]; exact f3
  rw [f4, c2]
  refine ⟨vp_in_nI (by omega) (by decide), fun u5 hu5 => ?_⟩
  have f5 : u5.1 21 0 = nI P := by rw [hu5]; exact f4
  rw [f5]
  rw [k0] at hu3
  rw [k1] at hu4
  rw [k2] at hu5
  have e5 : u5 = uI v 2 (tri (v.1 2) P x1 x2 x3) := by
    rw [hu5, hu4, hu3, uI_s, uI_uI, uI_s, uI_uI]
    rfl
  have J : ∀ m : Nat, m = manyR x2 x3 → wp_X9_part_J136 (nI P) (nI m) u5 post := by
    intro m hm
    refine ⟨vp_in_nI (by omega) (by decide), fun u6 hu6 u7 hu7 => ?_⟩
    have f6 : u6.1 21 0 = nI P := by rw [hu6]; exact f5
    rw [hcl] at hu6
    rw [f6, nI_1] at hu7
    have f7 : u7.1 21 0 - 1 = nI P := by rw [hu7]; show nI (P + 1) - 1 = nI P; exact nI_pred P
    rw [f7, hu7, hu6, e5, hm]
    exact h
  refine ⟨fun h2 => ⟨fun h3 => J 3 (by unfold manyR; simp [h2, h3]), fun h3 => J 2 (by unfold manyR; simp [h2, h3])⟩, fun h2 => J 1 (by unfold manyR; simp [h2])⟩
theorem tri_ok {x1 x2 x3 : Int32} (h : okR x1 x2 x3) : (∀ i, i < manyR x2 x3 → ∃ c : Nat, c < 8 ∧ triV x1 x2 x3 i = nI c) ∧ (∀ i j, i < j → j < manyR x2 x3 → triV x1 x2 x3 i ≠ triV x1 x2 x3 j) ∧ 1 ≤ manyR x2 x3 ∧ manyR x2 x3 ≤ 3 := by
  obtain ⟨⟨a, ha, e1⟩, ⟨h2, h3⟩ | ⟨b, hb, e2, hab, h3 | ⟨c, hc, e3, hca, hcb⟩⟩⟩ := h
  · have em : manyR x2 x3 = 1 := by unfold manyR; simp [h2]
    rw [em]
    refine ⟨fun i hi => ⟨a, ha, ?_⟩, fun i j _ _ => by omega, by omega, by omega⟩
    rw [show i = 0 by omega]; unfold triV; simp [e1]
  · have h2 : ¬ x2 = -1 := by rw [e2]; exact nI_nm1 hb
    have em : manyR x2 x3 = 2 := by unfold manyR; simp [h2, h3]
    rw [em]
    refine ⟨fun i hi => ?_, fun i j hij hj => ?_, by omega, by omega⟩
    · rcases (show i = 0 ∨ i = 1 by omega) with rfl | rfl
      · exact ⟨a, ha, by unfold triV; simp [e1]⟩
      · exact ⟨b, hb, by unfold triV; simp [e2]⟩
    · rw [show i = 0 by omega, show j = 1 by omega]; unfold triV; simpa using hab
  · have h2 : ¬ x2 = -1 := by rw [e2]; exact nI_nm1 hb
    have h3 : ¬ x3 = -1 := by rw [e3]; exact nI_nm1 hc
    have em : manyR x2 x3 = 3 := by unfold manyR; simp [h2, h3]
    rw [em]
    refine ⟨fun i hi => ?_, fun i j hij hj => ?_, by omega, by omega⟩
    · rcases (show i = 0 ∨ i = 1 ∨ i = 2 by omega) with rfl | rfl | rfl
      · exact ⟨a, ha, by unfold triV; simp [e1]⟩
      · exact ⟨b, hb, by unfold triV; simp [e2]⟩
      · exact ⟨c, hc, by unfold triV; simp [e3]⟩
    · rcases (show (i = 0 ∧ j = 1) ∨ (i = 0 ∧ j = 2) ∨ (i = 1 ∧ j = 2) by omega) with ⟨rfl, rfl⟩ | ⟨rfl, rfl⟩ | ⟨rfl, rfl⟩
      · unfold triV; simpa using hab
      · unfold triV; simpa using fun q : x1 = x3 => hca q.symm
      · unfold triV; simpa using fun q : x2 = x3 => hcb q.symm
theorem ps_part {P T : Nat} {x1 x2 x3 : Int32} {u v : WU} (hlt : P < 24) (ok : okR x1 x2 x3) (h : PS P T u v) : PSf (P + 1) T (tri (u.1 0) P x1 x2 x3) (upd (u.1 1) P (nI (manyR x2 x3))) (upd (u.1 2) P x1) (fun _ => nI (P + 1)) (u.1 21) (u.2 3) (tri (v.1 2) P x1 x2 x3) (upd (v.1 3) P (nI (manyR x2 x3))) (v.1 4) (fun _ => nI (P + 1)) (v.1 22) (v.2 1) := by
  obtain ⟨hP, p1, p2, p3, p4, p5, p6, p7, p8, p9⟩ := h
  obtain ⟨t1, t2, t3, t4⟩ := tri_ok ok
  refine ⟨by omega, by omega, rfl, rfl, p4, p5, fun i hi => tri_cong (p6 i hi), fun z hz => ?_, fun z hz => p8 z (by omega), p9⟩
  by_cases e : z = P
  · subst e
    refine ⟨by rw [pk_us, pk_us], manyR x2 x3, 0, t3, t4, by omega, pk_us, by rw [p8 z (Nat.le_refl _), nI_0], ?_, fun i hi => ?_, fun i j hij hj => ?_⟩
    · rw [pk_us, tri_in (by omega)]; rfl
    · rw [tri_in (by omega)]; exact t1 i hi
    · rw [tri_in (by omega), tri_in (by omega)]; exact t2 i j hij hj
  · obtain ⟨s1, m', t', s2, s3, s4, s5, s6, s7, s8, s9⟩ := p7 z (by omega)
    refine ⟨by rw [pk_un e, pk_un e]; exact s1, m', t', s2, s3, s4, by rw [pk_un e]; exact s5, s6, by rw [pk_un e, tri_out (by omega)]; exact s7, fun i hi => ?_, fun i j hij hj => ?_⟩
    · rw [tri_out (by omega)]; exact s8 i hi
    · rw [tri_out (by omega), tri_out (by omega)]; exact s9 i j hij hj
theorem js_more {P J : Nat} {fr to kd : Nat → Nat} {u v : WU} (h : JS P J fr to kd u v) : JS (P + 1) J fr to kd u v := by
  obtain ⟨h1, h2, h3, h4, h5, h6⟩ := h
  refine ⟨h1, h2, h3, fun j hj => ?_, h5, h6⟩
  obtain ⟨a, b, c, d, e, f, g, i, k⟩ := h4 j hj
  exact ⟨a, b, c, d, e, f, by omega, by omega, k⟩
theorem cs_more {P J C : Nat} {u v : WU} (h : CS P J C u v) : CS (P + 1) J C u v := by
  obtain ⟨h1, h2, h3, h4⟩ := h
  refine ⟨h1, h2, h3, fun c hc => ?_⟩
  obtain ⟨a, b, d, e, f, g⟩ := h4 c hc
  refine ⟨a, b, d, e, ?_, g⟩
  rcases f with ⟨f1, w, g1, f2, f3, f4⟩ | f
  · exact Or.inl ⟨f1, w, g1, f2, by omega, f4⟩
  · exact Or.inr f
theorem s_part {x1 x2 x3 : Int32} {u v : WU} (hs : Sim u v) {p : Int32 → WU → Prop} {q : Int32 → WU → Int32 → WU → Prop} (hp : ∀ r u', wp_X9_part x1 x2 x3 v (q r u') → p r u') (hq : ∀ r u' v', Sim u' v' → q r u' r v') : wp_X8_part x1 x2 x3 u p := by
  have hq0 := hq (-1) u v hs
  obtain ⟨P, T, J, C, fr, to, kd, ord, pos, sd, bg, en, hT, hPS, hJ, hO, hS, hC⟩ := hs
  obtain ⟨hP, p1, p2, p3, p4, p5, p6, p7, p8, p9⟩ := id hPS
  refine row_all (fun ok => br1 ?_) (fun no => br0 (hp _ _ (mp_all hP p3 (fun ok => absurd ok no) (fun _ => hq0))))
  rw [p2]
  refine ⟨fun hc => ?_, fun hc => hp _ _ (mp_all hP p3 (fun _ hlt => absurd (nI_lt hlt (by decide)) hc) (fun _ => hq0))⟩
  have hlt : P < 24 := (nI_ltI (by omega) (by decide)).mp hc
  refine px_add hlt p2 (hp _ _ (mp_all hP p3 (fun _ _ => pm_add hlt p3 (hq _ _ _ ?_)) (fun h => absurd (h ok) (by omega))))
  exact ⟨P + 1, T, J, C, fr, to, kd, ord, pos, sd, bg, en, hT, ps_part (u := u) (v := v) hlt ok hPS, js_more hJ, hO, hS, cs_more hC⟩
