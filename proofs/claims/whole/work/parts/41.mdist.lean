/-! ===== the reference's measures ===== -/
/-- behind r rounds, i joins -/
def Mrd (P J r i : Nat) (fr to rk : Nat → Nat) (L : Nat → Bool) (t : Nat) (f : Nat → Nat) : Prop := f t = 0 ∧ (∀ p, p < 24 → f p ≤ r + 1 ∨ f p = 100) ∧ (∀ j, j < J → L j = true → (f (to j) < r ∨ (f (to j) = r ∧ j < i)) → f (fr j) ≤ f (to j) + 1) ∧ (∀ p, p < 24 → p ≠ t → f p < 100 → ∃ j, j < J ∧ L j = true ∧ fr j = p ∧ f (to j) + 1 = f p) ∧ (∀ p, p < 24 → f p < 100 → p < P ∧ f p + rk p < P)
theorem p_mm50 {P J r n t : Nat} {fr to kd rk f : Nat → Nat} {Lv : Nat → Bool} {l d : Nat} {w : WU} {fa : Nat → Int32} {post : WU → Prop} {K : WU → Prop} (hP : P ≤ 24) (hJ : J ≤ 40) (hr : r < P) (hl : l < 8) (hd : d < 8) (hn : n = 8 * l + d) (eJ : w.1 23 0 = nI J) (hf : ∀ j, j < J → w.1 5 j = nI (fr j) ∧ w.1 6 j = nI (to j) ∧ w.1 7 j = nI (kd j) ∧ fr j < P ∧ to j < P ∧ kd j < 4) (h14 : ∀ j, j < J → w.1 14 j = b01 (!Lv j)) (hrk : ∀ j, j < J → Lv j = true → rk (fr j) < rk (to j))
    (hfa : ∀ p, p < 24 → fa p = nI (f p)) (hM : Mrd P J r 0 fr to rk (fun j => Lv j && tb (w.2 0 (kd j)) n) t f)
    (h : ∀ (fa' : Nat → Int32) (f' : Nat → Nat), (∀ p, p < 24 → fa' p = nI (f' p)) → Mrd P J r J fr to rk (fun j => Lv j && tb (w.2 0 (kd j)) n) t f' → K (uI w 20 fa')) : ∃ nn, wp_X9_measures_L50 (nI l) (nI d) (nI (r + 1)) post K nn 0 (uI w 20 fa) := by
  refine loop_0 (W := fun m i s => wp_X9_measures_L50 (nI l) (nI d) (nI (r + 1)) post K m (nI i) s) (I := fun i s => ∃ fa f, s = uI w 20 fa ∧ (∀ p, p < 24 → fa p = nI (f p)) ∧ Mrd P J r i fr to rk (fun j => Lv j && tb (w.2 0 (kd j)) n) t f) J _ ⟨fa, f, rfl, hfa, hM⟩ ?_ ?_
  · rintro m s ⟨fa, f, rfl, i1, i2⟩
    exact ⟨fun _ => h fa f i1 i2, fun hc => absurd (by show w.1 23 0 ≤ nI J; rw [eJ]; exact Int32.le_refl _) hc⟩
  · rintro m i s hi ⟨fa, f, rfl, i1, m1, m2, m3, m4, m5⟩ ih
    obtain ⟨f1, f2, f3, f4, f5, f6⟩ := hf i hi
    have hci : (nI i).toNatClampNeg = i := nI_clamp (by omega)
    have hin : vp_in (nI i) 40 := vp_in_nI (by omega) (by decide)
    have e14 : (uI w 20 fa).1 14 (nI i).toNatClampNeg = b01 (!Lv i) := by rw [hci]; exact h14 i hi
    have e5 : (uI w 20 fa).1 5 (nI i).toNatClampNeg = nI (fr i) := by rw [hci]; exact f1
    have e6 : (uI w 20 fa).1 6 (nI i).toNatClampNeg = nI (to i) := by rw [hci]; exact f2
    have e7 : (uI w 20 fa).1 7 (nI i).toNatClampNeg = nI (kd i) := by rw [hci]; exact f3
    have et : (uI w 20 fa).1 20 (nI (to i)).toNatClampNeg = nI (f (to i)) := by rw [nI_clamp (by omega), uI_s]; exact i1 _ (by omega)
    have ef : (uI w 20 fa).1 20 (nI (fr i)).toNatClampNeg = nI (f (fr i)) := by rw [nI_clamp (by omega), uI_s]; exact i1 _ (by omega)
    have ea : (uI w 20 fa).2 0 = w.2 0 := rfl
    have bt := m2 (to i) (by omega)
    have bf := m2 (fr i) (by omega)
    have hskip : ((Lv i && tb (w.2 0 (kd i)) n) = true → f (to i) = r → f (fr i) ≤ f (to i) + 1) → ∀ y : Int32, y = nI i + 1 → wp_X9_measures_L50 (nI l) (nI d) (nI (r + 1)) post K m y (uI w 20 fa) := by
      intro hh y hy
      rw [hy, nI_1]
      refine ih _ ⟨fa, f, rfl, i1, m1, m2, fun j hj hlj hc => ?_, m4, m5⟩
      by_cases e : j = i
      · subst e
        by_cases e2 : f (to j) = r
        · exact hh hlj e2
        · exact m3 j hj hlj (by omega)
      · exact m3 j hj hlj (by omega)
    refine ⟨fun hc => absurd (show nI J ≤ nI i by rw [← eJ]; exact hc) (nI_ge (a := i) (b := J) hi (by omega)), fun _ => ⟨hin, ?_⟩⟩
    unfold wp_X9_bit
    rw [e14, e5, e6, e7, et, ef, ea, bit_n, nI_clamp (n := kd i) (by omega), nI_pred, ← hn]
    dsimp only
    rw [lgc_0, and_bit _ (by omega)]
    refine ⟨fun hc => hskip fun z => ?_, fun hc => ⟨hin, vp_in_nI f6 (by decide), fun hg => hskip fun z => ?_, fun hg => ⟨hin, vp_in_nI (by omega) (by decide), fun hne => hskip fun _ z => absurd (by rw [z]) hne, fun he => ⟨hin, vp_in_nI (by omega) (by decide), fun hle => hskip fun _ z => ?_, fun hnle => ⟨hin, vp_in_nI (by omega) (by decide), fun u16 hu16 y hy => ?_⟩⟩⟩⟩⟩
    · have : Lv i = true := by simp at z; exact z.1
      rw [this] at hc; exact absurd rfl hc
    · rw [hg] at z; simp at z
    · have := (nI_leI (by omega) (by omega)).mp hle
      omega
    · have hlv : Lv i = true := by
        cases hl : Lv i with
        | true => rfl
        | false => rw [hl] at hc; exact absurd hc (by decide)
      have hgt : tb (w.2 0 (kd i)) n = true := by
        cases hb : tb (w.2 0 (kd i)) n with
        | true => rfl
        | false => exact absurd hb hg
      have her : f (to i) = r := (nI_eq (by omega) (by omega)).mp he
      have hbig : f (fr i) = 100 := by
        rcases bf with z | z
        · exact absurd (nI_le z (by omega)) hnle
        · exact z
      have hLi : (Lv i && tb (w.2 0 (kd i)) n) = true := by rw [hlv, hgt]; rfl
      have hri := hrk i hi hlv
      rw [nI_clamp (n := fr i) (by omega), uI_s, uI_uI] at hu16
      rw [hy, nI_1]
      have hnt : ∀ z, f z < 100 → z ≠ fr i := fun z hz e => by rw [e] at hz; omega
      have hle : ∀ z, putN f (fr i) (r + 1) z ≤ f z := fun z => by
        by_cases e : z = fr i
        · rw [e, putN_s]; omega
        · rw [putN_n e]; exact Nat.le_refl _
      refine ih u16 ⟨_, putN f (fr i) (r + 1), hu16, fun p hp => ?_, ?_, fun p hp => ?_, fun j hj hlj hc2 => ?_, fun p hp hpt hlt => ?_, fun p hp hlt => ?_⟩
      · by_cases e : p = fr i
        · rw [e, pk_us, putN_s]
        · rw [pk_un e, putN_n e]; exact i1 p hp
      · rw [putN_n (hnt t (by omega))]; exact m1
      · by_cases e : p = fr i
        · rw [e, putN_s]; omega
        · rw [putN_n e]; exact m2 p hp
      · have hne : to j ≠ fr i := fun z => by rw [z, putN_s] at hc2; omega
        rw [putN_n hne] at hc2 ⊢
        by_cases e : j = i
        · rw [e, putN_s, her]; exact Nat.le_refl _
        · exact Nat.le_trans (hle _) (m3 j hj hlj (by omega))
      · by_cases e : p = fr i
        · exact ⟨i, hi, hLi, e.symm, by rw [e, putN_s, putN_n (hnt _ (by omega)), her]⟩
        · rw [putN_n e] at hlt ⊢
          obtain ⟨j, b1, b2, b3, b4⟩ := m4 p hp hpt hlt
          exact ⟨j, b1, b2, b3, by rw [putN_n (hnt _ (by omega))]; exact b4⟩
      · by_cases e : p = fr i
        · rw [e, putN_s]
          have := (m5 (to i) (by omega) (by omega)).2
          exact ⟨f4, by omega⟩
        · rw [putN_n e] at hlt ⊢
          exact m5 p hp hlt
theorem p_measures {P J n t : Nat} {fr to kd rk : Nat → Nat} {Lv : Nat → Bool} {l d : Nat} {w : WU} {post : WU → Prop} (hP : P ≤ 24) (hJ : J ≤ 40) (ht : t < P) (hl : l < 8) (hd : d < 8) (hn : n = 8 * l + d) (eP : w.1 21 0 = nI P) (eJ : w.1 23 0 = nI J) (hf : ∀ j, j < J → w.1 5 j = nI (fr j) ∧ w.1 6 j = nI (to j) ∧ w.1 7 j = nI (kd j) ∧ fr j < P ∧ to j < P ∧ kd j < 4) (h14 : ∀ j, j < J → w.1 14 j = b01 (!Lv j)) (hrk : ∀ j, j < J → Lv j = true → rk (fr j) < rk (to j)) (hrkP : ∀ x, x < P → rk x < P)
    (h : ∀ (fa : Nat → Int32) (f : Nat → Nat), (∀ p, p < 24 → fa p = nI (f p)) → Dst J fr to (fun j => Lv j && tb (w.2 0 (kd j)) n) t f → post (uI w 20 fa)) : wp_X9_measures (nI l) (nI d) (nI t) w post := by
  unfold wp_X9_measures
  refine loop_0 (W := fun m i s => wp_X9_measures_L3 (nI l) (nI d) (nI t) post _ m (nI i) s) (I := fun i s => ∃ fa, s = uI w 20 fa ∧ ∀ z, z < i → fa z = nI (if z = t then 0 else 100)) 24 w ⟨w.1 20, (uI_self w 20).symm, fun z hz => absurd hz (Nat.not_lt_zero _)⟩ ?_ ?_
  · rintro m s ⟨fa, rfl, hg⟩
    refine ⟨fun _ => ?_, fun hc => absurd (by decide : (24 : Int32) ≤ nI 24) hc⟩
    refine loop_0 (W := fun m i s => wp_X9_measures_L38 (nI l) (nI d) post m (nI (i + 1)) s) (I := fun i s => ∃ fa f, s = uI w 20 fa ∧ (∀ p, p < 24 → fa p = nI (f p)) ∧ (∀ p, p < 24 → f p ≤ i ∨ f p = 100) ∧ Mrd P J i 0 fr to rk (fun j => Lv j && tb (w.2 0 (kd j)) n) t f) P _ ⟨fa, fun z => if z = t then 0 else 100, rfl, hg, fun p _ => ?_, by simp, fun p _ => ?_, fun j hj _ hc => by omega, fun p hp hpt hlt => ?_, fun p hp hlt => ?_⟩ ?_ ?_
    · dsimp only; split <;> omega
    · dsimp only; split <;> omega
    · dsimp only at hlt; rw [if_neg hpt] at hlt; omega
    · dsimp only at hlt
      by_cases e : p = t
      · subst e; simp; exact ⟨ht, hrkP p ht⟩
      · rw [if_neg e] at hlt; omega
    · rintro m s ⟨fa, f, rfl, i1, i0, m1, m2, m3, m4, m5⟩
      refine ⟨fun _ => h fa f i1 ⟨m1, fun p hp => by have := m2 p hp; omega, fun j hj hlj hlt => m3 j hj hlj ?_, m4⟩, fun hc => absurd (show w.1 21 0 < nI (P + 1) by rw [eP]; exact nI_lt (by omega) (by omega)) hc⟩
      have := (m5 (to j) (by have := (hf j hj).2.2.2.2.1; omega) hlt).2
      omega
    · rintro m i s hi ⟨fa, f, rfl, i1, i0, hM⟩ ih
      refine ⟨fun hc => absurd (show nI P < nI (i + 1) by rw [← eP]; exact hc) (nI_nlt (by omega) (by omega)), fun _ => p_mm50 hP hJ hi hl hd hn eJ hf h14 hrk i1 hM fun fa' f' q1 q2 => fun y hy => ?_⟩
      rw [hy, nI_1]
      obtain ⟨m1, m2, m3, m4, m5⟩ := q2
      refine ih _ ⟨fa', f', rfl, q1, fun p hp => m2 p hp, m1, fun p hp => by have := m2 p hp; omega, fun j hj hlj hc => m3 j hj hlj (by omega), m4, m5⟩
  · rintro m i s hi ⟨fa, rfl, hg⟩ ih
    have hci : (nI i).toNatClampNeg = i := nI_clamp (by omega)
    have hin : vp_in (nI i) 24 := vp_in_nI hi (by decide)
    have hst : ∀ x : Nat, x = (if i = t then 0 else 100) → ∀ u19 : WU, u19 = uI (uI w 20 fa) 20 (upd ((uI w 20 fa).1 20) (nI i).toNatClampNeg (nI x)) → ∃ fa', u19 = uI w 20 fa' ∧ ∀ z, z < i + 1 → fa' z = nI (if z = t then 0 else 100) := by
      intro x hx u19 hu
      rw [hci, uI_s, uI_uI] at hu
      refine ⟨_, hu, fun z hz => ?_⟩
      by_cases e : z = i
      · subst e; rw [pk_us, hx]
      · rw [pk_un e]; exact hg z (by omega)
    refine ⟨fun hc => absurd hc (nI_ge (a := i) (b := 24) hi (by decide)), fun _ => ⟨fun hc => ⟨hin, fun u19 hu y hy => ?_⟩, fun hc => ⟨hin, fun u19 hu y hy => ?_⟩⟩⟩
    · rw [hy, nI_1]
      have : ¬ i = t := fun z => hc (by rw [z])
      exact ih u19 (hst 100 (by rw [if_neg this]) u19 hu)
    · rw [hy, nI_1]
      have : i = t := (nI_eq (by omega) (by omega)).mp hc
      exact ih u19 (hst 0 (by rw [if_pos this]) u19 hu)
