/-! ===== price ===== -/
def priceF (cost : Nat → Int32) (set : Int32) : Nat → Int32
  | 0 => 0
  | n + 1 => priceF cost set n + (if ti set n then cost n else 0)
theorem priceF_cong {f g : Nat → Int32} {set : Int32} : ∀ {n : Nat}, (∀ c, c < n → f c = g c) → priceF f set n = priceF g set n
  | 0, _ => rfl
  | n + 1, h => by
    show priceF f set n + _ = priceF g set n + _
    rw [priceF_cong (fun c hc => h c (by omega)), h n (by omega)]
theorem p_priceX {C : Nat} {set : Int32} {u : WU} {post : Int32 → Prop} (hC : C ≤ 10) (e : u.1 23 0 = nI C) (h : post (priceF (u.1 13) set C)) : wp_X0_priceOf set u post := by
  unfold wp_X0_priceOf
  refine loop_0 (W := fun n i s => wp_X0_priceOf_L4 set u post n s (nI i)) (I := fun i s => s = priceF (u.1 13) set i) C 0 rfl ?_ ?_
  · intro n s hs
    refine ⟨fun _ => by rw [hs]; exact h, fun hc => absurd (by rw [e]; exact Int32.le_refl _) hc⟩
  · intro n i s hi hs ih
    refine ⟨fun hc => absurd (by rw [e] at hc; exact hc) (nI_ge (a := i) (b := C) hi (by omega)), fun _ => ?_⟩
    refine h_holds _ (by omega) ?_
    rw [tb_i2l _ (by omega)]
    cases hb : ti set i with
    | false =>
      refine br0 fun y hy => ?_
      rw [hy, nI_1]
      refine ih s ?_
      show s = priceF (u.1 13) set i + (if ti set i then u.1 13 i else 0)
      rw [hb, hs]; simp
    | true =>
      refine br1 ⟨vp_in_nI (by omega) (by decide), fun y4 hy4 y hy => ?_⟩
      rw [hy, nI_1]
      refine ih y4 ?_
      show y4 = priceF (u.1 13) set i + (if ti set i then u.1 13 i else 0)
      rw [hb, hy4, hs, nI_clamp (by omega)]; simp
theorem p_priceM {C : Nat} {set : Int32} {v : WU} {post : Int32 → Prop} (hC : C ≤ 10) (e : v.1 24 0 = nI C) (h : post (priceF (v.1 12) set C)) : wp_X9_priceOf set v post := by
  unfold wp_X9_priceOf
  refine loop_0 (W := fun n i s => wp_X9_priceOf_L4 set v post n s (nI i)) (I := fun i s => s = priceF (v.1 12) set i) C 0 rfl ?_ ?_
  · intro n s hs
    refine ⟨fun _ => by rw [hs]; exact h, fun hc => absurd (by rw [e]; exact Int32.le_refl _) hc⟩
  · intro n i s hi hs ih
    refine ⟨fun hc => absurd (by rw [e] at hc; exact hc) (nI_ge (a := i) (b := C) hi (by omega)), fun _ => ⟨fun hc => ?_, fun hc => ⟨vp_in_nI (by omega) (by decide), ?_⟩⟩⟩
    · have hb : ti set i = false := by
        cases hb : ti set i with
        | false => rfl
        | true => exact absurd ((ix_1 set (by omega)).mpr hb) hc
      intro y5 hy5 y hy
      rw [hy, nI_1]
      refine ih y5 ?_
      show y5 = priceF (v.1 12) set i + (if ti set i then v.1 12 i else 0)
      rw [hb, hy5, hs]; simp
    · have hb : ti set i = true := (ix_1 set (by omega)).mp hc
      intro y5 hy5 y hy
      rw [hy, nI_1]
      refine ih y5 ?_
      show y5 = priceF (v.1 12) set i + (if ti set i then v.1 12 i else 0)
      rw [hb, hy5, hs, nI_clamp (by omega)]; simp
theorem two_C : ∀ C, C < 11 → (1 : Int32) <<< (nI C &&& 31) = nI (2 ^ C) := by decide +kernel
theorem two_C31 : ∀ C, C < 11 → 2 ^ C < 2 ^ 31 := by decide +kernel
theorem s_price {x1 : Int32} {u v : WU} (hs : Sim u v) {p : Int32 → Prop} {q : Int32 → Int32 → Prop} (hp : ∀ r, wp_X9_price x1 v (q r) → p r) (hq : ∀ r, q r r) : wp_X8_price x1 u p := by
  obtain ⟨P, T, J, C, fr, to, kd, ord, pos, sd, bg, en, hT, hPS, hJS, hO, hS, hCS⟩ := hs
  obtain ⟨hC, c1, c2, c3⟩ := id hCS
  have e1 : (1 : Int32) <<< (u.1 23 0 &&& 31) = nI (2 ^ C) := by rw [c1]; exact two_C C (by omega)
  have e2 : (1 : Int32) <<< (v.1 24 0 &&& 31) = nI (2 ^ C) := by rw [c2]; exact two_C C (by omega)
  have e31 := two_C31 C (by omega)
  rcases in_or x1 (2 ^ C) e31 with ⟨k, hk, rfl⟩ | n1
  · refine w_in hk e31 e1 (br1 (p_priceX hC c1 (hp _ ?_)))
    refine l_in hk e31 (by rw [e2]) (br1 (p_priceM hC c2 ?_))
    rw [priceF_cong (fun c hc => ((c3 c hc).2.2.2.1))]
    exact hq _
  · refine w_out n1 e31 e1 (br0 (hp _ ?_))
    exact l_out n1 e31 (by rw [e2]) (br0 (hq _))
