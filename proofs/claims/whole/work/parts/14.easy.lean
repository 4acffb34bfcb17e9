/-! ===== bars, product, take, except ===== -/
theorem ts_bars {l a : Nat} {u v : WU} {x : Int64} (hl : l < 8) (ha : a < 256) (h : TS u v) (hx : brs l 8 a x) : TSf (u.2 0) (u.2 1) (vp_updL (u.2 2) l x) (v.1 0) (upd (v.1 1) l (nI a)) (v.2 0) := by
  obtain ⟨⟨t1, t2, t3, t4, t5⟩, -⟩ := h
  refine ⟨t1, t2, t3, fun k m d hk hm hd => ?_, fun k hk n hn => ?_⟩
  · by_cases e : k = l
    · subst e
      rw [updL_s, pk_us, hx _ (by omega), ti_nI]
      have e1 : (8 * m + d) / 8 = m := by omega
      have e2 : (8 * m + d) % 8 = d := by omega
      have e3 : d < 32 := by omega
      simp [e1, e2, e3, hm]
    · rw [updL_n e, pk_un e]; exact t4 k m d hk hm hd
  · by_cases e : k = l
    · subst e
      rw [pk_us, ti_nI]
      have : a.testBit n = false := Nat.testBit_lt_two_pow (Nat.lt_of_lt_of_le ha (by
        have : (2 : Nat) ^ 8 ≤ 2 ^ n := Nat.pow_le_pow_right (by omega) (by omega)
        simpa using this))
      simp [this]
    · rw [pk_un e]; exact t5 k hk n hn
theorem s_bars {x1 x2 : Int32} {u v : WU} (hs : Sim u v) {p : Int32 → WU → Prop} {q : Int32 → WU → Int32 → WU → Prop} (hp : ∀ r u', wp_X9_bars x1 x2 v (q r u') → p r u') (hq : ∀ r u' v', Sim u' v' → q r u' r v') : wp_X8_bars x1 x2 u p := by
  have hq0 := hq 0 u v hs
  rcases in_or x1 8 (by decide) with ⟨l, hl, rfl⟩ | h1
  · rcases in_or x2 256 (by decide) with ⟨a, ha, rfl⟩ | h2
    · refine w_in hl (by decide) rfl (br1 (w_in ha (by decide) rfl (br1' ?_)))
      refine p_tellBars hl ha fun x hx => hp _ _ ?_
      refine lic_in hl (br1 (l_in ha (by decide) (by decide) (br1' ⟨vp_in_nI hl (by decide), fun u3 hu3 => ?_⟩)))
      rw [hu3, nI_clamp (by omega)]
      refine hq _ _ _ ?_
      obtain ⟨P, T, J, C, fr, to, kd, ord, pos, sd, bg, en, hT, hR⟩ := hs
      exact ⟨P, T, J, C, fr, to, kd, ord, pos, sd, bg, en, ⟨ts_bars (u := u) (v := v) hl ha hT hx, hT.2⟩, hR⟩
    · refine w_in hl (by decide) rfl (br1 (w_out h2 (by decide) rfl (br0' (hp _ _ ?_))))
      exact lic_in hl (br1 (l_out h2 (by decide) (by decide) (br0' hq0)))
  · refine w_out h1 (by decide) rfl (br0 (hp _ _ ?_))
    exact lic_out h1 (br0 hq0)
theorem has_in {k P : Nat} {u : WU} (hk : k < P) (hP : P ≤ 24) (e : u.1 20 0 = nI P) {post : Int32 → Prop} (h : post 1) : wp_X5_has (nI k) u post := w_in hk (by omega) e ⟨bl1, h⟩
theorem has_out {x : Int32} {P : Nat} {u : WU} (hx : ∀ k : Nat, k < P → x ≠ nI k) (hP : P ≤ 24) (e : u.1 20 0 = nI P) {post : Int32 → Prop} (h : post 0) : wp_X5_has x u post := w_out hx (by omega) e ⟨bl0, h⟩
theorem isp_in {k P : Nat} {v : WU} (hk : k < P) (hP : P ≤ 24) (e : v.1 21 0 = nI P) {post : Int32 → Prop} (h : post 1) : wp_X9_isPart (nI k) v post := l_in hk (by omega) (by rw [e]) ⟨bl1, h⟩
theorem isp_out {x : Int32} {P : Nat} {v : WU} (hx : ∀ k : Nat, k < P → x ≠ nI k) (hP : P ≤ 24) (e : v.1 21 0 = nI P) {post : Int32 → Prop} (h : post 0) : wp_X9_isPart x v post := l_out hx (by omega) (by rw [e]) ⟨bl0, h⟩
theorem s_product {x1 : Int32} {u v : WU} (hs : Sim u v) {p : Int32 → WU → Prop} {q : Int32 → WU → Int32 → WU → Prop} (hp : ∀ r u', wp_X9_product x1 v (q r u') → p r u') (hq : ∀ r u' v', Sim u' v' → q r u' r v') : wp_X8_product x1 u p := by
  have hq0 := hq 0 u v hs
  obtain ⟨P, T, J, C, fr, to, kd, ord, pos, sd, bg, en, hT, hPS, hR⟩ := hs
  obtain ⟨hP, p1, p2, p3, p4, p5, p6, p7, p8, p9⟩ := id hPS
  rcases in_or x1 P (by omega) with ⟨k, hk, rfl⟩ | h1
  · refine has_in hk hP p2 (br1' fun u2 hu2 => hp _ _ (isp_in hk hP p3 (br1' fun v2 hv2 => ?_)))
    subst hu2; subst hv2
    exact hq _ _ _ ⟨P, k, J, C, fr, to, kd, ord, pos, sd, bg, en, hT, ⟨hP, Or.inl hk, p2, p3, rfl, rfl, p6, p7, p8, p9⟩, hR⟩
  · exact has_out h1 hP p2 (br0' (hp _ _ (isp_out h1 hP p3 (br0' hq0))))
theorem three_n (p i : Nat) : nI p * 3 + nI i = nI (3 * p + i) := by
  have e : (3 : Int32) = nI 3 := rfl
  rw [e, pk_mul, nI_add, Nat.mul_comm]
theorem s_take {x1 x2 : Int32} {u v : WU} (hs : Sim u v) {p : Int32 → WU → Prop} {q : Int32 → WU → Int32 → WU → Prop} (hp : ∀ r u', wp_X9_take x1 x2 v (q r u') → p r u') (hq : ∀ r u' v', Sim u' v' → q r u' r v') : wp_X8_take x1 x2 u p := by
  have hq0 := hq 0 u v hs
  obtain ⟨P, T, J, C, fr, to, kd, ord, pos, sd, bg, en, hT, hPS, hR⟩ := hs
  obtain ⟨hP, p1, p2, p3, p4, p5, p6, p7, p8, p9⟩ := id hPS
  rcases in_or x1 P (by omega) with ⟨k, hk, rfl⟩ | h1
  · obtain ⟨r1, m, t, m1, m3, htm, r2, r3, r4, r5, r6⟩ := p7 k hk
    have hin : vp_in (nI k) 24 := vp_in_nI (by omega) (by decide)
    have hcl : (nI k).toNatClampNeg = k := nI_clamp (by omega)
    rcases in_or x2 m (by omega) with ⟨i, hi, rfl⟩ | h2
    · have hix : (nI k * 3 + nI i).toNatClampNeg = 3 * k + i := by rw [three_n]; exact nI_clamp (by omega)
      refine has_in hk hP p2 (br1 ⟨hin, w_in hi (by omega) (by rw [hcl, r1, r2]) (br1' ?_)⟩)
      refine ⟨by rw [three_n]; exact vp_in_nI (by omega) (by decide), hin, ?_⟩
      rw [hix, hcl, r4, p6 (3 * k + i) (by omega)]
      by_cases e : t = i
      · subst e
        refine ⟨fun hc => absurd rfl hc, fun _ => hp _ _ ?_⟩
        refine isp_in hk hP p3 (br1 ⟨hin, l_in hi (by omega) (by rw [hcl, r2]) (br1 ⟨hin, fun hc => ?_, fun _ => hq0⟩)⟩)
        rw [hcl, r3] at hc
        exact absurd rfl hc
      · have hne : v.1 2 (3 * k + t) ≠ v.1 2 (3 * k + i) := by
          rcases Nat.lt_or_ge t i with z | z
          · exact r6 t i z hi
          · exact fun h => r6 i t (by omega) htm h.symm
        refine ⟨fun _ => ⟨hin, fun u4 hu4 => hp _ _ ?_⟩, fun hc => absurd hc hne⟩
        refine isp_in hk hP p3 (br1 ⟨hin, l_in hi (by omega) (by rw [hcl, r2]) (br1 ⟨hin, fun _ => ⟨hin, fun v3 hv3 => ?_⟩, fun hc => ?_⟩)⟩)
        · rw [hcl] at hv3
          subst hu4; subst hv3
          refine hq _ _ _ ⟨P, T, J, C, fr, to, kd, ord, pos, sd, bg, en, hT, ⟨hP, p1, p2, p3, p4, p5, p6, fun z hz => ?_, fun z hz => ?_, p9⟩, hR⟩
          · by_cases ez : z = k
            · subst ez
              exact ⟨r1, m, i, m1, m3, hi, r2, pk_us, pk_us, r5, r6⟩
            · obtain ⟨s1, m', t', s2, s3, s4, s5, s6, s7, s8, s9⟩ := p7 z hz
              exact ⟨s1, m', t', s2, s3, s4, s5, (pk_un ez).trans s6, (pk_un ez).trans s7, s8, s9⟩
          · exact (pk_un (by omega)).trans (p8 z hz)
        · rw [hcl, r3] at hc
          exact absurd ((nI_eq (by omega) (by omega)).mp hc) e
    · refine has_in hk hP p2 (br1 ⟨hin, w_out h2 (by omega) (by rw [hcl, r1, r2]) (br0' (hp _ _ ?_))⟩)
      exact isp_in hk hP p3 (br1 ⟨hin, l_out h2 (by omega) (by rw [hcl, r2]) (br0 hq0)⟩)
  · exact has_out h1 hP p2 (br0 (hp _ _ (isp_out h1 hP p3 (br0 hq0))))
theorem and_bit (x : Int64) {k : Nat} (hk : k < 64) : x &&& jshl 1 (nI k) = 0 ↔ tb x k = false := by
  constructor
  · intro h
    have := congrArg (fun z => tb z k) h
    simp only [tb_and, tb_zero, tb_bit hk hk] at this
    simpa using this
  · intro h
    refine tb_ext fun n hn => ?_
    rw [tb_and, tb_bit hk hn, tb_zero]
    by_cases e : n = k
    · subst e; rw [h]; rfl
    · simp [e]
theorem s_except {x1 x2 x3 : Int32} {u v : WU} (hs : Sim u v) {p : Int32 → WU → Prop} {q : Int32 → WU → Int32 → WU → Prop} (hp : ∀ r u', wp_X9_except x1 x2 x3 v (q r u') → p r u') (hq : ∀ r u' v', Sim u' v' → q r u' r v') : wp_X8_except x1 x2 x3 u p := by
  have hq0 := hq 0 u v hs
  obtain ⟨P, T, J, C, fr, to, kd, ord, pos, sd, bg, en, hT, hPS, hR⟩ := hs
  obtain ⟨hP, p1, p2, p3, p4, p5, p6, p7, p8, p9⟩ := id hPS
  rcases in_or x1 P (by omega) with ⟨k, hk, rfl⟩ | h1
  · have hin : vp_in (nI k) 24 := vp_in_nI (by omega) (by decide)
    have hcl : (nI k).toNatClampNeg = k := nI_clamp (by omega)
    rcases in_or x2 8 (by decide) with ⟨l, hl, rfl⟩ | h2
    · rcases in_or x3 8 (by decide) with ⟨d, hd, rfl⟩ | h3
      · refine has_in hk hP p2 (br1 (pair_in hl hd (br1 ⟨hin, ?_⟩)))
        unfold wp_X8_pairOf
        rw [pairOf_n, hcl]
        refine h_holds _ (by omega) ?_
        cases hb : tb (u.2 3 k) (8 * l + d) with
        | false =>
          refine br0 ⟨hin, hin, fun u6 hu6 => hp _ _ ?_⟩
          refine isp_in hk hP p3 (br1 (lic_in hl (br1 (l_in hd (by decide) (by decide) (br1 ⟨hin, ?_⟩)))))
          unfold wp_X9_bit
          rw [bit_n, hcl]
          have e0 : lg_cmp (v.2 1 k &&& jshl 1 (nI (8 * l + d))) 0 = 0 := by rw [lgc_0, and_bit _ (by omega), ← p9 k (by omega)]; exact hb
          refine ⟨fun _ => ⟨hin, hin, fun v6 hv6 => ?_⟩, fun hc => absurd e0 hc⟩
          subst hu6; subst hv6
          refine hq _ _ _ ⟨P, T, J, C, fr, to, kd, ord, pos, sd, bg, en, hT, ⟨hP, p1, p2, p3, p4, p5, p6, p7, p8, fun z hz => ?_⟩, hR⟩
          show vp_updL (u.2 3) _ _ z = vp_updL (v.2 1) _ _ z
          unfold vp_updL
          by_cases ez : z = k
          · simp [ez, p9 k (by omega)]
          · simp [ez, p9 z hz]
        | true =>
          refine br1 (hp _ _ ?_)
          refine isp_in hk hP p3 (br1 (lic_in hl (br1 (l_in hd (by decide) (by decide) (br1 ⟨hin, ?_⟩)))))
          unfold wp_X9_bit
          rw [bit_n, hcl]
          have e0 : ¬ lg_cmp (v.2 1 k &&& jshl 1 (nI (8 * l + d))) 0 = 0 := by rw [lgc_0, and_bit _ (by omega), ← p9 k (by omega), hb]; simp
          exact ⟨fun hc => absurd hc e0, fun _ => hq0⟩
      · refine has_in hk hP p2 (br1 (pair_out2 hl h3 (br0 (hp _ _ ?_))))
        exact isp_in hk hP p3 (br1 (lic_in hl (br1 (l_out h3 (by decide) (by decide) (br0 hq0)))))
    · refine has_in hk hP p2 (br1 (pair_out1 h2 (br0 (hp _ _ ?_))))
      exact isp_in hk hP p3 (br1 (lic_out h2 (br0 hq0)))
  · exact has_out h1 hP p2 (br0 (hp _ _ (isp_out h1 hP p3 (br0 hq0))))
