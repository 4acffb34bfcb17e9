/-! ===== counts: the reference's loops ===== -/
theorem ct_ext {p : Nat → Bool} {m n : Nat} (h : m ≤ n) (hz : ∀ k, m ≤ k → k < n → p k = false) : fb_ct p n = fb_ct p m := by
  obtain ⟨d, rfl⟩ : ∃ d, n = m + d := ⟨n - m, by omega⟩
  rw [fb_ct_split, fb_ct_zero.mpr fun k hk => hz (m + k) (by omega) (by omega)]
  rfl
theorem p_mcount56 {J : Nat} {lv : Nat → Bool} {v : WU} {post : Int32 → WU → Prop} (hJ : J ≤ 40) (e : v.1 23 0 = nI J) (h8 : ∀ j, j < J → v.1 8 j = b01 (!lv j)) (h : post (nI (fb_ct lv J)) v) : ∃ nn, wp_X9_count_L56 post nn 0 0 v := by
  refine loop_0 (W := fun n i s => wp_X9_count_L56 post n s (nI i) v) (I := fun i s => s = nI (fb_ct lv i)) J 0 rfl ?_ ?_
  · intro n s hs
    exact ⟨fun _ => by rw [hs]; exact h, fun hc => absurd (by rw [e]; exact Int32.le_refl _) hc⟩
  · intro n i s hi hs ih
    have hci : (nI i).toNatClampNeg = i := nI_clamp (by omega)
    refine ⟨fun hc => absurd (by rw [e] at hc; exact hc) (nI_ge (a := i) (b := J) hi (by omega)), fun _ => ⟨vp_in_nI (by omega) (by decide), ?_⟩⟩
    rw [hci, h8 i hi]
    cases hl : lv i with
    | true =>
      refine ⟨fun _ y hy z hz => ?_, fun hc => absurd rfl hc⟩
      rw [hz, nI_1]
      refine ih y ?_
      rw [hy, hs, fb_ct_succ, nI_1]; simp [hl]
    | false =>
      refine ⟨fun hc => absurd hc (by decide), fun _ y hy z hz => ?_⟩
      rw [hz, nI_1]
      refine ih y ?_
      rw [hy, hs, fb_ct_succ]; simp [hl]
theorem p_mcount103 {P : Nat} {v : WU} {post : Int32 → WU → Prop} (hP : P ≤ 24) (e : v.1 21 0 = nI P) (h : post (nI (fb_ct (Sof (v.1 13)) P)) v) : ∃ nn, wp_X9_count_L103 post nn 0 0 v := by
  refine loop_0 (W := fun n i s => wp_X9_count_L103 post n s (nI i) v) (I := fun i s => s = nI (fb_ct (Sof (v.1 13)) i)) P 0 rfl ?_ ?_
  · intro n s hs
    exact ⟨fun _ => by rw [hs]; exact h, fun hc => absurd (by rw [e]; exact Int32.le_refl _) hc⟩
  · intro n i s hi hs ih
    have hci : (nI i).toNatClampNeg = i := nI_clamp (by omega)
    refine ⟨fun hc => absurd (by rw [e] at hc; exact hc) (nI_ge (a := i) (b := P) hi (by omega)), fun _ => ⟨vp_in_nI (by omega) (by decide), ?_⟩⟩
    rw [hci]
    have h24 : i < 24 := by omega
    refine ⟨fun hc y hy z hz => ?_, fun hc y hy z hz => ?_⟩
    · rw [hz, nI_1]
      refine ih y ?_
      have : Sof (v.1 13) i = false := by unfold Sof; simp [hc]
      rw [hy, hs, fb_ct_succ]; simp [this]
    · rw [hz, nI_1]
      refine ih y ?_
      have : Sof (v.1 13) i = true := by unfold Sof; simp [hc, h24]
      rw [hy, hs, fb_ct_succ, nI_1]; simp [this]
