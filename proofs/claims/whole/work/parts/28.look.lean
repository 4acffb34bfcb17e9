/-! ===== of the product; counts of joins ===== -/
theorem p_ofProduct {P T J C : Nat} {fr to kd ord pos sd bg en : Nat → Nat} {u v : WU} {lv : Int64} {post : Int32 → Prop} (hs : Sim1 P T J C fr to kd ord pos sd bg en u v) (hsub : ∀ j, j < J → tb lv j = true → tb (u.2 6 0) j = true) (h0 : P = 0 → post 0) (h1 : 0 < P → ∀ r, Lst J fr to (tb lv) T (ti r) → (∀ n, 24 ≤ n → ti r n = false) → post r) : wp_X2_ofProduct lv u post := by
  obtain ⟨hT, hPS, hJS, hO, hSS, hC⟩ := hs
  obtain ⟨hP, p1, p2, p3, p4, p5, p6, p7, p8, p9⟩ := id hPS
  obtain ⟨hJ, j1, j2, j3, j4, j5⟩ := id hJS
  unfold wp_X2_ofProduct
  rw [p2, p4]
  refine ⟨fun hc => ?_, fun hc => h0 ((nI_eq (b := 0) (by omega) (by decide)).mp hc)⟩
  have hpos : 0 < P := by
    rcases Nat.eq_zero_or_pos P with z | z
    · exact absurd (by rw [z]; rfl) hc
    · exact z
  refine p_allIn hJ (by omega) (fun j hj => ?_) hO hSS hsub fun r hr h24 => h1 hpos r hr h24
  obtain ⟨q1, q2, q3, q4, q5, q6, q7, q8, q9⟩ := j3 j hj
  exact ⟨q1, by omega, by omega⟩
theorem p_countOut {J p : Nat} {fr : Nat → Nat} {u : WU} {post : Int32 → Prop} (hJ : J ≤ 40) (hp : p < 24) (e : u.1 22 0 = nI J) (hf : ∀ j, j < J → u.1 3 j = nI (fr j) ∧ fr j < 24) (h : post (nI (fb_ct (fun j => tb (u.2 6 0) j && decide (fr j = p)) J))) : wp_X3_countOutOf (nI p) u post := by
  unfold wp_X3_countOutOf
  refine loop_0 (W := fun n i s => wp_X3_countOutOf_L4 (nI p) u post n s (nI i)) (I := fun i s => s = nI (fb_ct (fun j => tb (u.2 6 0) j && decide (fr j = p)) i)) J 0 rfl ?_ ?_
  · intro n s hs
    exact ⟨fun _ => by rw [hs]; exact h, fun hc => absurd (by rw [e]; exact Int32.le_refl _) hc⟩
  · intro n i s hi hs ih
    have hci : (nI i).toNatClampNeg = i := nI_clamp (by omega)
    obtain ⟨f1, f2⟩ := hf i hi
    refine ⟨fun hc => absurd (by rw [e] at hc; exact hc) (nI_ge (a := i) (b := J) hi (by omega)), fun _ => ⟨vp_in_nI (by omega) (by decide), ?_⟩⟩
    rw [hci, f1]
    refine ⟨fun hc y hy => ?_, fun hc => h_holds _ (by omega) ?_⟩
    · rw [hy, nI_1]
      refine ih s ?_
      have : ¬ fr i = p := fun z => hc (by rw [z])
      rw [hs, fb_ct_succ]; simp [this]
    · have hfp : fr i = p := (nI_eq (by omega) (by omega)).mp hc
      cases hb : tb (u.2 6 0) i with
      | false =>
        refine br0 fun y hy => ?_
        rw [hy, nI_1]
        refine ih s ?_
        rw [hs, fb_ct_succ]; simp [hb]
      | true =>
        refine br1 fun y6 hy6 y hy => ?_
        rw [hy, nI_1]
        refine ih y6 ?_
        rw [hy6, hs, fb_ct_succ, nI_1]; simp [hb, hfp]
theorem p_mcountIn {J p : Nat} {to : Nat → Nat} {lv : Nat → Bool} {v : WU} {post : Int32 → WU → Prop} (hJ : J ≤ 40) (hp : p < 24) (e : v.1 23 0 = nI J) (hf : ∀ j, j < J → v.1 6 j = nI (to j) ∧ to j < 24) (h8 : ∀ j, j < J → v.1 8 j = b01 (!lv j)) (h : post (nI (fb_ct (fun j => lv j && decide (to j = p)) J)) v) : ∃ nn, wp_X9_look_L133 (nI p) post nn 0 0 v := by
  refine loop_0 (W := fun n i s => wp_X9_look_L133 (nI p) post n s (nI i) v) (I := fun i s => s = nI (fb_ct (fun j => lv j && decide (to j = p)) i)) J 0 rfl ?_ ?_
  · intro n s hs
    exact ⟨fun _ => by rw [hs]; exact h, fun hc => absurd (by rw [e]; exact Int32.le_refl _) hc⟩
  · intro n i s hi hs ih
    have hci : (nI i).toNatClampNeg = i := nI_clamp (by omega)
    have hin : vp_in (nI i) 40 := vp_in_nI (by omega) (by decide)
    obtain ⟨f1, f2⟩ := hf i hi
    refine ⟨fun hc => absurd (by rw [e] at hc; exact hc) (nI_ge (a := i) (b := J) hi (by omega)), fun _ => ⟨hin, ?_⟩⟩
    rw [hci, h8 i hi, f1]
    have hno : (lv i && decide (to i = p)) = false → ∀ y : Int32, y = s + 0 → ∀ z : Int32, z = nI i + 1 → wp_X9_look_L133 (nI p) post n y z v := by
      intro hr y hy z hz
      rw [hz, nI_1]
      refine ih y ?_
      rw [hy, hs, fb_ct_succ, hr]; simp
    refine ⟨fun hc => hno ?_, fun hc => ⟨hin, fun hc2 => hno ?_, fun hc2 y hy z hz => ?_⟩⟩
    · cases hl : lv i with
      | false => rfl
      | true => rw [hl] at hc; exact absurd rfl hc
    · have : ¬ to i = p := fun z => hc2 (by rw [z])
      simp [this]
    · have hl : lv i = true := by
        cases hl : lv i with
        | true => rfl
        | false => rw [hl] at hc; exact absurd hc (by decide)
      have ht : to i = p := (nI_eq (by omega) (by omega)).mp hc2
      rw [hz, nI_1]
      refine ih y ?_
      rw [hy, hs, fb_ct_succ, nI_1]; simp [hl, ht]
