/-! ===== the reference's way ===== -/
theorem p_mw161 {P J l d n a : Nat} {fr to kd f : Nat → Nat} {Lv M : Nat → Bool} {w : WU} {x5 x7 : Int32} {post : Int32 → WU → Prop} {K : Int32 → WU → Prop} (hP : P ≤ 24) (hJ : J ≤ 40) (hl : l < 8) (hd : d < 8) (hn : n = 8 * l + d) (ha : a < 24) (eJ : w.1 23 0 = nI J) (hf : ∀ j, j < J → w.1 5 j = nI (fr j) ∧ w.1 6 j = nI (to j) ∧ w.1 7 j = nI (kd j) ∧ fr j < P ∧ to j < P ∧ kd j < 4) (h14 : ∀ j, j < J → w.1 14 j = b01 (!Lv j)) (hM : ∀ j, j < J → M j = (Lv j && tb (w.2 0 (kd j)) n)) (hfa : ∀ p, p < 24 → w.1 20 p = nI (f p)) (hb : ∀ p, p < 24 → f p ≤ 100) (hfa0 : 0 < f a)
    (h : K (nI (nxF fr to M f a J)) w) : ∃ nn, wp_X9_way_L161 (nI l) (nI d) x5 (nI a) x7 post K nn 24 0 w := by
  refine loop_0 (W := fun m i y => wp_X9_way_L161 (nI l) (nI d) x5 (nI a) x7 post K m y (nI i) w) (I := fun i y => y = nI (nxF fr to M f a i)) J 24 rfl ?_ ?_
  · intro m y hy
    exact ⟨fun _ => by rw [hy]; exact h, fun hc => absurd (by rw [eJ]; exact Int32.le_refl _) hc⟩
  · intro m i y hi hy ih
    obtain ⟨f1, f2, f3, f4, f5, f6⟩ := hf i hi
    have hci : (nI i).toNatClampNeg = i := nI_clamp (by omega)
    have hin : vp_in (nI i) 40 := vp_in_nI (by omega) (by decide)
    have hnx := nxF_in (fr := fr) (to := to) (L := M) (f := f) (a := a) (n := i)
    have h24 : nxF fr to M f a i ≤ 24 := by omega
    have b1 := hb (to i) (by omega)
    have b2 := hb a ha
    have hskip : ¬ (M i = true ∧ fr i = a ∧ f (to i) + 1 = f a ∧ to i < nxF fr to M f a i) → ∀ z : Int32, z = nI i + 1 → wp_X9_way_L161 (nI l) (nI d) x5 (nI a) x7 post K m y z w := by
      intro hh z hz
      rw [hz, nI_1]
      exact ih y (by rw [nxF_step, if_neg hh]; exact hy)
    refine ⟨fun hc => absurd (by rw [eJ] at hc; exact hc) (nI_ge (a := i) (b := J) hi (by omega)), fun _ => ⟨hin, ?_⟩⟩
    unfold wp_X9_bit
    rw [hci, h14 i hi, f1, f2, f3, bit_n, nI_clamp (n := kd i) (by omega), nI_clamp (n := to i) (by omega), nI_clamp (n := a) (by omega), hfa (to i) (by omega), hfa a ha, ← hn, nI_m1 hfa0]
    dsimp only
    rw [lgc_0, and_bit _ (by omega)]
    have hMi := hM i hi
    refine ⟨fun hc => hskip fun z => ?_, fun hc => ⟨hin, fun hne => hskip fun z => hne (by rw [z.2.1]), fun he => ⟨hin, vp_in_nI f6 (by decide), fun hg => hskip fun z => ?_, fun hg => ⟨hin, vp_in_nI (by omega) (by decide), vp_in_nI ha (by decide), fun hne => hskip fun z => hne (by rw [← z.2.2.1]; rfl), fun he2 => ⟨hin, fun hle => hskip fun z => ?_, fun hnle => ⟨hin, fun y36 hy36 z hz => ?_⟩⟩⟩⟩⟩⟩
    · have := z.1
      rw [hMi] at this
      have : Lv i = true := by simp at this; exact this.1
      rw [this] at hc; exact absurd rfl hc
    · have := z.1
      rw [hMi, hg] at this
      simp at this
    · rw [hy] at hle
      have := (nI_leI (by omega) (by omega)).mp hle
      omega
    · have hlv : Lv i = true := by
        cases hl : Lv i with
        | true => rfl
        | false => rw [hl] at hc; exact absurd hc (by decide)
      have hgt : tb (w.2 0 (kd i)) n = true := by
        cases hb : tb (w.2 0 (kd i)) n with
        | true => rfl
        | false => exact absurd hb hg
      have hfr : fr i = a := (nI_eq (by omega) (by omega)).mp he
      have hst : f (to i) + 1 = f a := by
        have := (nI_eq (by omega) (by omega)).mp he2
        omega
      have hlt : to i < nxF fr to M f a i := by
        rcases Nat.lt_or_ge (to i) (nxF fr to M f a i) with z | z
        · exact z
        · exact absurd (by rw [hy]; exact nI_le z (by omega)) hnle
      rw [hz, nI_1]
      refine ih y36 ?_
      rw [nxF_step, if_pos ⟨by rw [hMi, hlv, hgt]; rfl, hfr, hst, hlt⟩]
      exact hy36
theorem p_mw58 {P T s l d n : Nat} {f lic : Nat → Nat} {u w : WU} {x5 : Int32} {post : Int32 → WU → Prop} {K : Int32 → WU → Prop} (hT : TS u w) (hPS : PS P T u w) (hs : s < 4) (hl : l < 8) (hd : d < 8) (hn : n = 8 * l + d) (hlic : ∀ p, p < P → u.1 2 p = nI (lic p) ∧ lic p < 8) (h15 : ∀ p, p < P → w.1 15 p = u.1 2 p) (hfa : ∀ p, p < 24 → w.1 20 p = nI (f p)) (hb : ∀ p, p < 24 → f p ≤ 100)
    (h : K (enc24 (srcF f (fun p => tb (brX (u.2 0 s) (u.1 2 p) (u.2 3 p)) n) P)) w) : ∃ nn, wp_X9_way_L58 (nI s) (nI l) (nI d) x5 post K nn (-1) 0 w := by
  obtain ⟨hP, p1, p2, p3, p4, p5, p6, p7, p8, p9⟩ := id hPS
  generalize hbb : (fun p => tb (brX (u.2 0 s) (u.1 2 p) (u.2 3 p)) n) = b at h
  refine loop_0 (W := fun m i y => wp_X9_way_L58 (nI s) (nI l) (nI d) x5 post K m y (nI i) w) (I := fun i y => y = enc24 (srcF f b i)) P (-1) rfl ?_ ?_
  · intro m y hy
    exact ⟨fun _ => by rw [hy]; exact h, fun hc => absurd (by rw [p3]; exact Int32.le_refl _) hc⟩
  · intro m i y hi hy ih
    obtain ⟨l1, l2⟩ := hlic i hi
    have hci : (nI i).toNatClampNeg = i := nI_clamp (by omega)
    have hin : vp_in (nI i) 24 := vp_in_nI (by omega) (by decide)
    have e1 : srcF f b (i + 1) = if b i = true ∧ f i < 100 ∧ (srcF f b i = 24 ∨ f i < f (srcF f b i)) then i else srcF f b i := rfl
    have h100 := hb i (by omega)
    have hin2 := srcF_in f b i (by omega)
    have h24 : srcF f b i ≤ 24 := by omega
    have hskip : ¬ (b i = true ∧ f i < 100 ∧ (srcF f b i = 24 ∨ f i < f (srcF f b i))) → ∀ z : Int32, z = nI i + 1 → wp_X9_way_L58 (nI s) (nI l) (nI d) x5 post K m y z w := by
      intro hh z hz
      rw [hz, nI_1]
      exact ih y (by rw [e1, if_neg hh]; exact hy)
    have htake : (b i = true ∧ f i < 100 ∧ (srcF f b i = 24 ∨ f i < f (srcF f b i))) → ∀ z : Int32, z = nI i + 1 → wp_X9_way_L58 (nI s) (nI l) (nI d) x5 post K m (nI i) z w := by
      intro hh z hz
      rw [hz, nI_1]
      exact ih _ (by rw [e1, if_pos hh, enc24_n (by omega)])
    refine ⟨fun hc => absurd (by rw [p3] at hc; exact hc) (nI_ge (a := i) (b := P) hi (by omega)), fun _ => ?_⟩
    refine p_hasB (P := P) (T := T) (u := u) (v := u) (w := w) (n := n) hT hPS hs (by omega) l2 hl hd hn ((h15 i hi).trans l1) ?_
    have ebi : tb (brX (u.2 0 s) (nI (lic i)) (u.2 3 i)) n = b i := by rw [← l1]; exact congrFun hbb i
    rw [ebi]
    cases hbi : b i with
    | false => exact br0 (hskip fun z => by rw [hbi] at z; exact absurd z.1 (by decide))
    | true =>
      refine br1 ⟨hin, ?_⟩
      rw [hci, hfa i (by omega)]
      refine ⟨fun hge => hskip fun z => ?_, fun hnge => ?_⟩
      · have := (nI_leI (a := 100) (b := f i) (by decide) (by omega)).mp hge
        omega
      · have hlt : f i < 100 := by
          rcases Nat.lt_or_ge (f i) 100 with z | z
          · exact z
          · exact absurd (nI_le (a := 100) (b := f i) z (by omega)) hnge
        refine ⟨fun hm => htake ⟨hbi, hlt, Or.inl ((enc24_m1 h24).mp (hy.symm.trans hm))⟩, fun hm => ⟨hin, ?_⟩⟩
        have hne : srcF f b i ≠ 24 := fun z => hm (by rw [hy]; exact (enc24_m1 h24).mpr z)
        have ey : y = nI (srcF f b i) := hy.trans (enc24_n hne)
        have ecl : y.toNatClampNeg = srcF f b i := by rw [ey]; exact nI_clamp (by omega)
        rw [ecl, hfa _ (by omega)]
        refine ⟨by rw [ey]; exact vp_in_nI (by omega) (by decide), fun hle => hskip fun z => ?_, fun hnle => htake ⟨hbi, hlt, Or.inr ?_⟩⟩
        · have := (nI_leI (by omega) (by omega)).mp hle
          omega
        · rcases Nat.lt_or_ge (f i) (f (srcF f b i)) with z | z
          · exact z
          · exact absurd (nI_le z (by omega)) hnle
theorem dst_cong {J t : Nat} {fr to f : Nat → Nat} {L M : Nat → Bool} (e : ∀ j, j < J → L j = M j) (h : Dst J fr to L t f) : Dst J fr to M t f := by
  refine ⟨h.1, h.2.1, fun j hj hl => h.2.2.1 j hj (by rw [e j hj]; exact hl), fun p hp hpt hlt => ?_⟩
  obtain ⟨j, a1, a2, a3, a4⟩ := h.2.2.2 p hp hpt hlt
  exact ⟨j, a1, by rw [← e j a1]; exact a2, a3, a4⟩
theorem way_cong {P J s n i t : Nat} {fr to kd f g : Nat → Nat} {u : WU} (hP : P ≤ 24) (hto : ∀ j, j < J → to j < 24) (h : ∀ p, p < 24 → f p = g p) (hD : Dst J fr to (fun j => tb (u.2 6 0) j && tb (u.2 1 (kd j)) n) t f) : WayIs P J s n i fr to kd u f = WayIs P J s n i fr to kd u g := by
  unfold WayIs
  rw [← srcF_cong (b := fun p => tb (brX (u.2 0 s) (u.1 2 p) (u.2 3 p)) n) h P hP]
  have hin := srcF_in f (fun p => tb (brX (u.2 0 s) (u.1 2 p) (u.2 3 p)) n) P hP
  generalize srcF f (fun p => tb (brX (u.2 0 s) (u.1 2 p) (u.2 3 p)) n) P = a at hin ⊢
  by_cases e : a = 24
  · rw [if_pos e, if_pos e]
  · have ha : a < 24 ∧ f a < 100 := by
      rcases hin with z | ⟨z1, z2, z3⟩
      · exact absurd z e
      · exact ⟨by omega, z3⟩
    rw [if_neg e, if_neg e, ← h a ha.1]
    by_cases e2 : f a < i
    · rw [if_pos e2, if_pos e2]
    · rw [if_neg e2, if_neg e2, itF_cong hto (fun _ _ => rfl) h hD ha.1 ha.2 i (by omega)]
theorem s_way {x1 x2 x3 x4 x5 : Int32} {u v : WU} (hs : Sim u v) {p : Int32 → WU → Prop} {q : Int32 → WU → Int32 → WU → Prop} (hp : ∀ r u', wp_X9_way x1 x2 x3 x4 x5 v (q r u') → p r u') (hq : ∀ r u' v', Sim u' v' → q r u' r v') : wp_X8_way x1 x2 x3 x4 x5 u p := by
  have hq0 := hq (-1) u v hs
  obtain ⟨P, T, J, C, fr, to, kd, ord, pos, sd, bg, en, hs1⟩ := hs
  obtain ⟨hT, hPS, hJS, hO, hSS, hC⟩ := id hs1
  obtain ⟨hP, p1, p2, p3, p4, p5, p6, p7, p8, p9⟩ := id hPS
  obtain ⟨hJ, j1, j2, j3, j4, j5⟩ := id hJS
  have hF := sim_f hs1
  obtain ⟨lic, hlic⟩ := licF hPS
  have RK := rank_P pos P
  have hjf : ∀ j, j < J → v.1 5 j = nI (fr j) ∧ v.1 6 j = nI (to j) ∧ v.1 7 j = nI (kd j) ∧ fr j < P ∧ to j < P ∧ kd j < 4 := fun j hj => by
    obtain ⟨q1, q2, q3, q4, q5, q6, q7, q8, q9⟩ := j3 j hj
    exact ⟨q4, q5, q6, q7, q8, q9⟩
  rcases in_or x1 4 (by decide) with ⟨s, hs, rfl⟩ | n1
  · rcases in_or x2 8 (by decide) with ⟨l, hl, rfl⟩ | n2
    · rcases in_or x3 8 (by decide) with ⟨d, hd, rfl⟩ | n3
      · rcases in_or x4 P (by omega) with ⟨t, ht, rfl⟩ | n4
        · refine w_in hs (by decide) rfl (br1 (pair_in hl hd (br1 (has_in ht hP p2 (br1' ?_)))))
          unfold wp_X8_pairOf
          rw [pairOf_n]
          refine p_onWay hs1 hs (by omega) (by omega) fun st f hf => ⟨fun hneg => hp _ _ ?_, fun i hi hx => hp _ _ ?_⟩
          · have hneg' : ¬ (0 : Int32) ≤ x5 := fun z => absurd (Int32.lt_of_lt_of_le hneg z) Int32.lt_irrefl
            refine shp_in hs (br1 (lic_in hl (br1 (l_in hd (by decide) (by decide) (br1 (isp_in ht hP p3 (br1 ⟨fun z => absurd z hneg', fun _ => ?_⟩)))))))
            exact hq _ _ _ ⟨P, T, J, C, fr, to, kd, ord, pos, sd, bg, en, hs1⟩
          · subst hx
            refine shp_in hs (br1 (lic_in hl (br1 (l_in hd (by decide) (by decide) (br1 (isp_in ht hP p3 (br1 ⟨fun _ => ?_, fun z => absurd (nI_pos' hi) z⟩)))))))
            refine p_asItIs (cu := fun j => !tb (u.2 6 0) j) (a := u.1 2) hP hJ p3 j2 (fun j hj => by rw [j4 j (by omega)]; simp [hj]) (fun p hp => ?_) fun g hh hg hhh => ?_
            · obtain ⟨r1, m, t, m1, m3, htm, r2, r3, r4, r5, r6⟩ := p7 p hp
              exact ⟨t, by omega, r3, r4⟩
            · refine p_measures (w := w45 v g hh) (n := 8 * l + d) (Lv := tb (u.2 6 0)) (rk := fun x => fb_ct (fun z => decide (pos z < pos x)) P) hP hJ ht hl hd rfl p3 j2 hjf hg (fun j hj hl => RK.1 _ _ (hjf j hj).2.2.2.1 (hO.2.2 j hj hl)) RK.2 fun fa f2 hfa hf2 => ?_
              have e0 : ∀ j, j < J → (tb (u.2 6 0) j && tb ((w45 v g hh).2 0 (kd j)) (8 * l + d)) = (tb (u.2 6 0) j && tb (u.2 1 (kd j)) (8 * l + d)) := fun j hj => by
                have : (w45 v g hh).2 0 (kd j) = u.2 1 (kd j) := (hT.1.2.2.1 _ (hjf j hj).2.2.2.2.2).symm
                rw [this]
              have hf3 := dst_cong e0 hf2
              have hfe : ∀ p, p < 24 → f p = f2 p := fun p hp => dst_one (fun j hj hl => hO.2.2 j hj (by simp at hl; exact hl.1)) (fun p hp => (hO.2.1 p hp).1) hF.2 hf hf3 hp
              rw [way_cong hP hF.2 hfe hf]
              have hSim : Sim (uI u 19 st) (uI (w45 v g hh) 20 fa) := ⟨P, T, J, C, fr, to, kd, ord, pos, sd, bg, en, hs1⟩
              have hQ := fun r => hq r _ _ hSim
              refine p_mw58 (u := u) (w := uI (w45 v g hh) 20 fa) (f := f2) (lic := lic) (n := 8 * l + d) hT hPS hs hl hd rfl hlic hhh (by rw [uI_s]; exact hfa) hf2.2.1 ?_
              unfold WayIs
              have hin := srcF_in f2 (fun p => tb (brX (u.2 0 s) (u.1 2 p) (u.2 3 p)) (8 * l + d)) P hP
              generalize srcF f2 (fun p => tb (brX (u.2 0 s) (u.1 2 p) (u.2 3 p)) (8 * l + d)) P = a at hin ⊢
              refine ⟨fun hm => ?_, fun hm => ?_⟩
              · rw [if_pos ((enc24_m1 (a := a) (by omega)).mp hm)]; exact hQ _
              · have hne : a ≠ 24 := fun z => hm ((enc24_m1 (a := a) (by omega)).mpr z)
                obtain ⟨a1, a3⟩ : a < P ∧ f2 a < 100 := by
                  rcases hin with z | ⟨z1, z2, z3⟩
                  · exact absurd z hne
                  · exact ⟨z1, z3⟩
                rw [if_neg hne, enc24_n hne, nI_clamp (n := a) (by omega), uI_s, hfa a (by omega)]
                refine ⟨vp_in_nI (by omega) (by decide), fun hle => ?_, fun hnle => ?_⟩
                · have hile : i ≤ f2 a := (nI_leI hi (by omega)).mp hle
                  rw [if_neg (by omega)]
                  refine loop_0 (W := fun m k y => wp_X9_way_L147 (nI l) (nI d) (nI i) _ m y (nI k) (uI (w45 v g hh) 20 fa)) (I := fun k y => y = nI (itF J fr to (fun j => tb (u.2 6 0) j && tb (u.2 1 (kd j)) (8 * l + d)) f2 a k)) i (nI a) rfl ?_ ?_
                  · intro m y hy
                    exact ⟨fun _ => by rw [hy]; exact hQ _, fun hc => absurd (Int32.le_refl _) hc⟩
                  · intro m k y hk hy ih
                    obtain ⟨t1, t2⟩ := itF_in hF.2 hf3 (by omega) a3 k (by omega)
                    refine ⟨fun hc => absurd hc (nI_ge (a := k) (b := i) hk hi), fun _ => ?_⟩
                    rw [hy]
                    refine p_mw161 (w := uI (w45 v g hh) 20 fa) (f := f2) (n := 8 * l + d) (Lv := tb (u.2 6 0)) (M := fun j => tb (u.2 6 0) j && tb (u.2 1 (kd j)) (8 * l + d)) hP hJ hl hd rfl t1 j2 hjf hg (fun j hj => (e0 j hj).symm) (by rw [uI_s]; exact hfa) hf2.2.1 (by omega) fun y19 hy19 => ?_
                    rw [hy19, nI_1]
                    exact ih _ rfl
                · have : f2 a < i := by
                    rcases Nat.lt_or_ge (f2 a) i with z | z
                    · exact z
                    · exact absurd (nI_le z (by omega)) hnle
                  rw [if_pos this]; exact hQ _
        · exact w_in hs (by decide) rfl (br1 (pair_in hl hd (br1 (has_out n4 hP p2 (br0' (hp _ _ (shp_in hs (br1 (lic_in hl (br1 (l_in hd (by decide) (by decide) (br1 (isp_out n4 hP p3 (br0 hq0))))))))))))))
      · exact w_in hs (by decide) rfl (br1 (pair_out2 hl n3 (br0 (hp _ _ (shp_in hs (br1 (lic_in hl (br1 (l_out n3 (by decide) (by decide) (br0 hq0))))))))))
    · exact w_in hs (by decide) rfl (br1 (pair_out1 n2 (br0 (hp _ _ (shp_in hs (br1 (lic_out n2 (br0 hq0))))))))
  · exact w_out n1 (by decide) rfl (br0 (hp _ _ (shp_out n1 (br0 hq0))))
