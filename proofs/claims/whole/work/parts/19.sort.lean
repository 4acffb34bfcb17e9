/-! ===== Joins.sortJoins ===== -/
def rowp (th : Int64) (to : Nat → Nat) (p : Nat) : Nat → Bool := fun j => tb th j && decide (to j = p)
def ctp (th : Int64) (to : Nat → Nat) (J p : Nat) : Nat := fb_ct (rowp th to p) J
def ixj (th : Int64) (to : Nat → Nat) (J j : Nat) : Nat := fb_sm (ctp th to J) (to j) + fb_ct (rowp th to (to j)) j
theorem one_row (b : Bool) (t : Nat) : ∀ M, fb_sm (fun p => if (b && decide (t = p)) = true then 1 else 0) M ≤ 1 ∧ (M ≤ t → fb_sm (fun p => if (b && decide (t = p)) = true then 1 else 0) M = 0)
  | 0 => ⟨Nat.zero_le _, fun _ => rfl⟩
  | M + 1 => by
    obtain ⟨h1, h2⟩ := one_row b t M
    rw [fb_sm_succ]
    by_cases e : t = M
    · subst e
      have := h2 (Nat.le_refl _)
      rw [this]
      refine ⟨by split <;> omega, fun h => by omega⟩
    · have : ¬ (b && decide (t = M)) = true := by simp [e]
      rw [if_neg this]
      exact ⟨by omega, fun h => by have := h2 (by omega); omega⟩
theorem all_rows (th : Int64) (to : Nat → Nat) (M : Nat) : ∀ J, fb_sm (ctp th to J) M ≤ J
  | 0 => by
    have : fb_sm (ctp th to 0) M = fb_sm (fun _ => 0) M := fb_sm_cong fun k _ => rfl
    rw [this, fb_sm_const]; omega
  | J + 1 => by
    have h := all_rows th to M J
    have e : fb_sm (ctp th to (J + 1)) M = fb_sm (ctp th to J) M + fb_sm (fun p => if (tb th J && decide (to J = p)) = true then 1 else 0) M := by
      rw [← fb_sm_add]
      exact fb_sm_cong fun k _ => rfl
    have := (one_row (tb th J) (to J) M).1
    omega
def w3 (u : WU) (f7 f8 f9 : Nat → Int32) : WU := uI (uI (uI u 7 f7) 8 f8) 9 f9
theorem w3_self (u : WU) : w3 u (u.1 7) (u.1 8) (u.1 9) = u := by
  unfold w3
  rw [uI_self, uI_self, uI_self]
theorem w3_7 (u : WU) (f7 f8 f9 g : Nat → Int32) : uI (w3 u f7 f8 f9) 7 g = w3 u g f8 f9 := by
  show (_, _) = (_, _)
  congr 1
  funext k
  show va_up (va_up (va_up (va_up u.1 7 f7) 8 f8) 9 f9) 7 g k = va_up (va_up (va_up u.1 7 g) 8 f8) 9 f9 k
  unfold va_up
  by_cases h7 : k = 7 <;> by_cases h8 : k = 8 <;> by_cases h9 : k = 9 <;> simp [h7, h8, h9] <;> omega
theorem w3_8 (u : WU) (f7 f8 f9 g : Nat → Int32) : uI (w3 u f7 f8 f9) 8 g = w3 u f7 g f9 := by
  show (_, _) = (_, _)
  congr 1
  funext k
  show va_up (va_up (va_up (va_up u.1 7 f7) 8 f8) 9 f9) 8 g k = va_up (va_up (va_up u.1 7 f7) 8 g) 9 f9 k
  unfold va_up
  by_cases h7 : k = 7 <;> by_cases h8 : k = 8 <;> by_cases h9 : k = 9 <;> simp [h7, h8, h9] <;> omega
theorem w3_9 (u : WU) (f7 f8 f9 g : Nat → Int32) : uI (w3 u f7 f8 f9) 9 g = w3 u f7 f8 g := uI_uI _ _ _ _
def srt (th : Int64) (to : Nat → Nat) (J p j : Nat) (f7 : Nat → Int32) : Prop := ∀ i, i < J → tb th i = true → (to i < p ∨ (to i = p ∧ i < j)) → f7 (ixj th to J i) = nI i
theorem ix_lt {th : Int64} {to : Nat → Nat} {J p j i : Nat} (hi : i < J) (hl : tb th i = true) (h : to i < p ∨ (to i = p ∧ i < j)) : ixj th to J i < fb_sm (ctp th to J) p + fb_ct (rowp th to p) j := by
  have hr : rowp th to (to i) i = true := by unfold rowp; simp [hl]
  have hs : fb_ct (rowp th to (to i)) (i + 1) = fb_ct (rowp th to (to i)) i + 1 := by rw [fb_ct_succ, hr]; rfl
  unfold ixj
  rcases h with h | ⟨h, h2⟩
  · have a : fb_ct (rowp th to (to i)) (i + 1) ≤ ctp th to J (to i) := fb_ct_mono _ (by omega)
    have b : fb_sm (ctp th to J) (to i + 1) = fb_sm (ctp th to J) (to i) + ctp th to J (to i) := fb_sm_succ _ _
    have c : fb_sm (ctp th to J) (to i + 1) ≤ fb_sm (ctp th to J) p := by
      have := fb_sm_mono (ctp th to J) (to i + 1) (p - (to i + 1))
      rwa [show to i + 1 + (p - (to i + 1)) = p by omega] at this
    omega
  · subst h
    have a : fb_ct (rowp th to (to i)) (i + 1) ≤ fb_ct (rowp th to (to i)) j := fb_ct_mono _ (by omega)
    omega
theorem p_sortIn {J p : Nat} {to : Nat → Nat} {u : WU} {th : Int64} {f7 F8 f9 : Nat → Int32} {post : WU → Prop} {K : Int32 → WU → Prop} (hJ : J ≤ 40) (hp : p < 24) (hth : u.2 6 0 = th) (e : u.1 22 0 = nI J) (ht : ∀ j, j < J → u.1 4 j = nI (to j) ∧ to j < 24) (h3 : srt th to J p 0 f7)
    (hK : ∀ g7, srt th to J p J g7 → K (nI (fb_sm (ctp th to J) (p + 1))) (w3 u g7 F8 f9)) : ∃ nn, wp_X3_sortJoins_L19 (nI p) post K nn (nI (fb_sm (ctp th to J) p)) 0 (w3 u f7 F8 f9) := by
  have htot : fb_sm (ctp th to J) (p + 1) ≤ 40 := Nat.le_trans (all_rows th to (p + 1) J) hJ
  refine loop_0 (W := fun k j t => wp_X3_sortJoins_L19 (nI p) post K k t.1 (nI j) t.2) (I := fun j t => t.1 = nI (fb_sm (ctp th to J) p + fb_ct (rowp th to p) j) ∧ ∃ g7, t.2 = w3 u g7 F8 f9 ∧ srt th to J p j g7) J (nI (fb_sm (ctp th to J) p), w3 u f7 F8 f9) ⟨rfl, f7, rfl, h3⟩ ?_ ?_
  · rintro k ⟨y1, t⟩ ⟨g1, g7, g2, g3⟩
    dsimp only at g1 g2
    subst g2
    refine ⟨fun _ => ?_, fun hc => absurd (by show u.1 22 0 ≤ nI J; rw [e]; exact Int32.le_refl _) hc⟩
    rw [g1]
    exact hK g7 g3
  · rintro k j ⟨y1, t⟩ hj ⟨g1, g7, g2, g3⟩ ih2
    dsimp only at g1 g2
    subst g2
    have hcj : (nI j).toNatClampNeg = j := nI_clamp (by omega)
    obtain ⟨t1, t2⟩ := ht j hj
    have hskip : rowp th to p j = false → ∀ y : Int32, y = nI j + 1 → wp_X3_sortJoins_L19 (nI p) post K k y1 y (w3 u g7 F8 f9) := by
      intro hr y hy
      rw [hy, nI_1]
      refine ih2 (y1, _) ⟨?_, g7, rfl, fun i hi hl hh => ?_⟩
      · dsimp only; rw [g1, fb_ct_succ, hr]; rfl
      · refine g3 i hi hl ?_
        rcases hh with q | ⟨q1, q2⟩
        · exact Or.inl q
        · rcases Nat.lt_or_ge i j with z | z
          · exact Or.inr ⟨q1, z⟩
          · exfalso
            have : i = j := by omega
            subst this
            unfold rowp at hr
            simp [hl, q1] at hr
    refine ⟨fun hc => absurd (show nI J ≤ nI j by rw [← e]; exact hc) (nI_ge (a := j) (b := J) hj (by omega)), fun _ => ⟨vp_in_nI (by omega) (by decide), fun hc => ?_, fun hc => ?_⟩⟩
    · have hne : to j ≠ p := fun q => hc (by show u.1 4 (nI j).toNatClampNeg = nI p; rw [hcj, t1, q])
      exact hskip (by unfold rowp; simp [hne])
    · have hep : to j = p := by
        have : u.1 4 (nI j).toNatClampNeg = nI p := hc
        rw [hcj, t1] at this
        exact (nI_eq (by omega) (by omega)).mp this
      refine h_holds _ (by omega) ?_
      have e6 : (w3 u g7 F8 f9).2 6 0 = th := hth
      rw [e6]
      cases hb : tb th j with
      | false => exact br0 (hskip (by unfold rowp; simp [hb]))
      | true =>
        have hr : rowp th to p j = true := by unfold rowp; simp [hb, hep]
        have hs : fb_ct (rowp th to p) (j + 1) = fb_ct (rowp th to p) j + 1 := by rw [fb_ct_succ, hr]; rfl
        have hle : fb_ct (rowp th to p) (j + 1) ≤ ctp th to J p := fb_ct_mono _ (by omega)
        have ec : fb_sm (ctp th to J) (p + 1) = fb_sm (ctp th to J) p + ctp th to J p := fb_sm_succ _ _
        have hn : fb_sm (ctp th to J) p + fb_ct (rowp th to p) j < 40 := by omega
        refine br1 ⟨fun hc => absurd (by rw [g1] at hc; exact hc) (nI_ge (a := _) (b := 40) hn (by decide)), fun _ => ⟨by rw [g1]; exact vp_in_nI hn (by decide), fun u16 hu16 y17 hy17 y hy => ?_⟩⟩
        have hcn : y1.toNatClampNeg = fb_sm (ctp th to J) p + fb_ct (rowp th to p) j := by rw [g1]; exact nI_clamp (by omega)
        rw [hcn, w3_7] at hu16
        rw [hy, nI_1]
        refine ih2 (y17, u16) ⟨?_, _, hu16, fun i hi hl hh => ?_⟩
        · dsimp only; rw [hy17, g1, nI_1, hs]; rfl
        · by_cases ei : i = j
          · subst ei
            have : ixj th to J i = fb_sm (ctp th to J) p + fb_ct (rowp th to p) i := by unfold ixj; rw [hep]
            rw [this]; exact pk_us
          · have hh2 : to i < p ∨ (to i = p ∧ i < j) := by omega
            have := ix_lt (J := J) hi hl hh2
            rw [pk_un (by omega)]
            exact g3 i hi hl hh2
theorem p_sort {J : Nat} {to : Nat → Nat} {u : WU} {post : WU → Prop} (hJ : J ≤ 40) (e : u.1 22 0 = nI J) (ht : ∀ j, j < J → u.1 4 j = nI (to j) ∧ to j < 24)
    (h : ∀ f7 f8 f9, (∀ i, i < J → tb (u.2 6 0) i = true → f7 (ixj (u.2 6 0) to J i) = nI i) → (∀ p, p < 24 → f8 p = nI (fb_sm (ctp (u.2 6 0) to J) p) ∧ f9 p = nI (fb_sm (ctp (u.2 6 0) to J) (p + 1))) → post (w3 u f7 f8 f9)) : wp_X3_sortJoins u post := by
  unfold wp_X3_sortJoins
  generalize hth : u.2 6 0 = th at h
  refine loop_0 (W := fun n i s => wp_X3_sortJoins_L4 post n s.1 (nI i) s.2) (I := fun p s => s.1 = nI (fb_sm (ctp th to J) p) ∧ ∃ f7 f8 f9, s.2 = w3 u f7 f8 f9 ∧ srt th to J p 0 f7 ∧ ∀ z, z < p → f8 z = nI (fb_sm (ctp th to J) z) ∧ f9 z = nI (fb_sm (ctp th to J) (z + 1))) 24 (0, u) ⟨rfl, u.1 7, u.1 8, u.1 9, (w3_self u).symm, fun i _ _ h => by omega, fun z hz => absurd hz (Nat.not_lt_zero _)⟩ ?_ ?_
  · rintro n ⟨x1, s⟩ ⟨h1, f7, f8, f9, h2, h3, h4⟩
    dsimp only at h1 h2
    subst h2
    refine ⟨fun _ => h f7 f8 f9 (fun i hi hl => h3 i hi hl (Or.inl (ht i hi).2)) h4, fun hc => absurd (by decide : (24 : Int32) ≤ nI 24) hc⟩
  · rintro n p ⟨x1, s⟩ hp ⟨h1, f7, f8, f9, h2, h3, h4⟩ ih
    dsimp only at h1 h2
    subst h2
    have hin : vp_in (nI p) 24 := vp_in_nI hp (by decide)
    have hcl : (nI p).toNatClampNeg = p := nI_clamp (by omega)
    have htot : fb_sm (ctp th to J) (p + 1) ≤ 40 := Nat.le_trans (all_rows th to (p + 1) J) hJ
    refine ⟨fun hc => absurd hc (nI_ge (a := p) (b := 24) hp (by decide)), fun _ => ⟨hin, fun u1 hu1 => ?_⟩⟩
    rw [hcl, w3_8] at hu1
    subst hu1
    have e8 : (w3 u f7 f8 f9).1 8 = f8 := rfl
    rw [e8, h1]
    refine p_sortIn hJ hp hth e ht h3 fun g7 g3 => ⟨hin, fun u4 hu4 y5 hy5 => ?_⟩
    rw [hcl, w3_9] at hu4
    rw [hy5, nI_1]
    refine ih (_, u4) ⟨rfl, g7, _, _, hu4, fun i hi hl hh => g3 i hi hl (by omega), fun z hz => ?_⟩
    by_cases ez : z = p
    · subst ez
      exact ⟨pk_us, pk_us⟩
    · exact ⟨(pk_un ez).trans (h4 z (by omega)).1, (pk_un ez).trans (h4 z (by omega)).2⟩
