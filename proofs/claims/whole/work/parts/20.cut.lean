/-! ===== sorted joins as the relation has them; cut ===== -/
theorem ss_of {J : Nat} {to : Nat → Nat} {th : Int64} {f7 f8 f9 : Nat → Int32} (hJ : J ≤ 40) (F : ∀ i, i < J → tb th i = true → f7 (ixj th to J i) = nI i) (G : ∀ p, p < 24 → f8 p = nI (fb_sm (ctp th to J) p) ∧ f9 p = nI (fb_sm (ctp th to J) (p + 1))) : SSf J to (fun i => (f7 i).toNatClampNeg) (fun p => fb_sm (ctp th to J) p) (fun p => fb_sm (ctp th to J) (p + 1)) th f7 f8 f9 := by
  intro p hp
  have es : fb_sm (ctp th to J) (p + 1) = fb_sm (ctp th to J) p + ctp th to J p := fb_sm_succ _ _
  have hall := all_rows th to (p + 1) J
  have hsd : ∀ i, i < J → tb th i = true → (f7 (ixj th to J i)).toNatClampNeg = i := fun i hi hl => by rw [F i hi hl]; exact nI_clamp (by omega)
  refine ⟨(G p hp).1, (G p hp).2, by dsimp only; omega, by dsimp only; omega, ?_, fun i h1 h2 => ?_, fun j hj hl hto => ?_⟩
  · show fb_sm (ctp th to J) (p + 1) - fb_sm (ctp th to J) p = ctp th to J p
    omega
  · have h1 : fb_sm (ctp th to J) p ≤ i := h1
    have h2 : i < fb_sm (ctp th to J) (p + 1) := h2
    obtain ⟨j, hj, hr, hk⟩ := fb_ct_kth (p := rowp th to p) (k := i - fb_sm (ctp th to J) p) (n := J) (by show _ < ctp th to J p; omega)
    have hr2 : tb th j = true ∧ to j = p := by unfold rowp at hr; simpa using hr
    have hix : ixj th to J j = i := by unfold ixj; rw [hr2.2, hk]; omega
    have := hsd j hj hr2.1
    rw [hix] at this
    show f7 i = nI (f7 i).toNatClampNeg ∧ (f7 i).toNatClampNeg < J ∧ tb th (f7 i).toNatClampNeg = true ∧ to (f7 i).toNatClampNeg = p
    rw [this]
    refine ⟨?_, hj, hr2⟩
    rw [← hix]; exact F j hj hr2.1
  · have hlt := ix_lt (th := th) (to := to) (J := J) (p := p + 1) (j := 0) hj hl (Or.inl (by omega))
    refine ⟨ixj th to J j, ?_, ?_, hsd j hj hl⟩
    · show fb_sm (ctp th to J) p ≤ ixj th to J j
      unfold ixj; rw [hto]; omega
    · have e0 : fb_ct (rowp th to (p + 1)) 0 = 0 := rfl
      rw [e0] at hlt; exact hlt
theorem s_cut {x1 : Int32} {u v : WU} (hs : Sim u v) {p : Int32 → WU → Prop} {q : Int32 → WU → Int32 → WU → Prop} (hp : ∀ r u', wp_X9_cut x1 v (q r u') → p r u') (hq : ∀ r u' v', Sim u' v' → q r u' r v') : wp_X8_cut x1 u p := by
  have hq0 := hq 0 u v hs
  obtain ⟨P, T, J, C, fr, to, kd, ord, pos, sd, bg, en, hT, hPS, hJS, hO, hS, hC⟩ := hs
  have hP := hPS.1
  obtain ⟨hJ, j1, j2, j3, j4, j5⟩ := id hJS
  unfold wp_X8_cut wp_X3_isThere
  rcases in_or x1 J (by omega) with ⟨k, hk, rfl⟩ | n1
  · have hin : vp_in (nI k) 40 := vp_in_nI (by omega) (by decide)
    have hcl : (nI k).toNatClampNeg = k := nI_clamp (by omega)
    have h8 : v.1 8 k = b01 (!tb (u.2 6 0) k) := by rw [j4 k (by omega)]; simp [hk]
    refine w_in hk (by omega) j1 (br1 (h_holds _ (by omega) ?_))
    cases hb : tb (u.2 6 0) k with
    | false =>
      refine br0 (br0' (hp _ _ (l_in hk (by omega) (by rw [j2]) (br1 ⟨hin, fun hc => ?_, fun _ => hq0⟩))))
      rw [hcl, h8, hb] at hc
      exact absurd hc (by decide)
    | true =>
      refine br1 (br1' fun u1 hu1 => ?_)
      have ht : ∀ j, j < J → u1.1 4 j = nI (to j) ∧ to j < 24 := fun j hj => by
        rw [hu1]
        obtain ⟨a, b, c, d, e, f, g, h, i⟩ := j3 j hj
        exact ⟨b, by omega⟩
      have hth : u1.2 6 0 = u.2 6 0 &&& (jshl 1 (nI k) ^^^ (-1)) := by rw [hu1]; rfl
      have hbits : ∀ n, tb (u1.2 6 0) n = if n = k then false else tb (u.2 6 0) n := by
        intro n
        rw [hth]
        rcases Nat.lt_or_ge n 64 with h | h
        · exact spr_x0 (by omega) _ h
        · rw [tb_ge h, tb_ge h]; simp
      refine p_sort hJ (by rw [hu1]; exact j1) ht fun f7 f8 f9 F G => hp _ _ ?_
      refine l_in hk (by omega) (by rw [j2]) (br1 ⟨hin, fun _ => ⟨hin, fun v2 hv2 => hq _ _ _ ?_⟩, fun hc => ?_⟩)
      · rw [hcl] at hv2
        have SS1 := ss_of hJ F G
        subst hv2
        refine ⟨P, T, J, C, fr, to, kd, ord, pos, _, _, _, by rw [hu1]; exact hT, by rw [hu1]; exact hPS, ?_, ?_, SS1, by rw [hu1]; exact hC⟩
        · refine ⟨hJ, by rw [hu1]; exact j1, j2, fun j hj => by rw [hu1]; exact j3 j hj, fun j hj => ?_, fun n hn => ?_⟩
          · show upd (v.1 8) k (vp_nar .boolean 1) j = b01 (decide (j < J) && !tb (u1.2 6 0) j)
            rw [hbits j]
            by_cases ej : j = k
            · subst ej
              rw [pk_us, if_pos rfl]
              simp [hk]
              rfl
            · rw [pk_un ej, if_neg ej]; exact j4 j hj
          · show tb (u1.2 6 0) n = false
            rw [hbits n, if_neg (by omega)]; exact j5 n hn
        · obtain ⟨o1, o2, o3⟩ := hO
          refine ⟨by rw [hu1]; exact o1, o2, fun j hj hl => o3 j hj ?_⟩
          have hl2 : tb (u1.2 6 0) j = true := hl
          rw [hbits j] at hl2
          by_cases ej : j = k
          · rw [if_pos ej] at hl2; exact absurd hl2 (by decide)
          · rw [if_neg ej] at hl2; exact hl2
      · rw [hcl, h8, hb] at hc
        exact absurd rfl hc
  · refine w_out n1 (by omega) j1 (br0 (br0' (hp _ _ ?_)))
    exact l_out n1 (by omega) (by rw [j2]) (br0 hq0)
