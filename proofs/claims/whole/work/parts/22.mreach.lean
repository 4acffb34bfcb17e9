/-! ===== the reference: as it is, what is reached ===== -/
theorem nar_b (b : Bool) : vp_nar .boolean (b01 b) = b01 b := by cases b <;> rfl
theorem nar_0 : vp_nar .boolean 0 = 0 := rfl
theorem nar_1 : vp_nar .boolean 1 = 1 := rfl
def w45 (v : WU) (g h : Nat → Int32) : WU := uI (uI v 14 g) 15 h
theorem w45_self (v : WU) : w45 v (v.1 14) (v.1 15) = v := by unfold w45; rw [uI_self, uI_self]
theorem w45_14 (v : WU) (g h g' : Nat → Int32) : uI (w45 v g h) 14 g' = w45 v g' h := by
  show (_, _) = (_, _)
  congr 1
  funext k
  show va_up (va_up (va_up v.1 14 g) 15 h) 14 g' k = va_up (va_up v.1 14 g') 15 h k
  unfold va_up
  by_cases h7 : k = 14 <;> by_cases h8 : k = 15 <;> simp [h7, h8] <;> omega
theorem w45_15 (v : WU) (g h h' : Nat → Int32) : uI (w45 v g h) 15 h' = w45 v g h' := uI_uI _ _ _ _
theorem p_asItIs {P J : Nat} {a : Nat → Int32} {cu : Nat → Bool} {v : WU} {post : WU → Prop} (hP : P ≤ 24) (hJ : J ≤ 40) (eP : v.1 21 0 = nI P) (eJ : v.1 23 0 = nI J) (h8 : ∀ j, j < J → v.1 8 j = b01 (cu j)) (ht : ∀ p, p < P → ∃ t : Nat, t < 3 ∧ v.1 4 p = nI t ∧ a p = v.1 2 (3 * p + t))
    (h : ∀ g hh, (∀ j, j < J → g j = b01 (cu j)) → (∀ p, p < P → hh p = a p) → post (w45 v g hh)) : wp_X9_asItIs v post := by
  unfold wp_X9_asItIs
  refine loop_0 (W := fun n i s => wp_X9_asItIs_L2 post _ n (nI i) s) (I := fun i s => ∃ g, s = w45 v g (v.1 15) ∧ ∀ j, j < i → g j = b01 (cu j)) J v ⟨v.1 14, (w45_self v).symm, fun j hj => absurd hj (Nat.not_lt_zero _)⟩ ?_ ?_
  · rintro n s ⟨g, rfl, hg⟩
    refine ⟨fun _ => ?_, fun hc => absurd (by show v.1 23 0 ≤ nI J; rw [eJ]; exact Int32.le_refl _) hc⟩
    refine loop_0 (W := fun n i s => wp_X9_asItIs_L30 post n (nI i) s) (I := fun i s => ∃ hh, s = w45 v g hh ∧ ∀ p, p < i → hh p = a p) P (w45 v g (v.1 15)) ⟨v.1 15, rfl, fun j hj => absurd hj (Nat.not_lt_zero _)⟩ ?_ ?_
    · rintro n s ⟨hh, rfl, hhh⟩
      exact ⟨fun _ => h g hh hg hhh, fun hc => absurd (by show v.1 21 0 ≤ nI P; rw [eP]; exact Int32.le_refl _) hc⟩
    · rintro n i s hi ⟨hh, rfl, hhh⟩ ih
      obtain ⟨t, t3, t4, t5⟩ := ht i hi
      have hci : (nI i).toNatClampNeg = i := nI_clamp (by omega)
      have hix : 3 * nI i + nI t = nI (3 * i + t) := by have e3 : (3 : Int32) = nI 3 := rfl; rw [e3, pk_mul, nI_add]
      have h4 : (w45 v g hh).1 4 (nI i).toNatClampNeg = nI t := by rw [hci]; exact t4
      refine ⟨fun hc => absurd (show nI P ≤ nI i by rw [← eP]; exact hc) (nI_ge (a := i) (b := P) hi (by omega)), fun _ => ⟨vp_in_nI (by omega) (by decide), ?_⟩⟩
      rw [h4, hix]
      refine ⟨vp_in_nI (by omega) (by decide), vp_in_nI (by omega) (by decide), fun u3 hu3 y hy => ?_⟩
      rw [hci, nI_clamp (by omega), w45_15] at hu3
      rw [hy, nI_1]
      refine ih u3 ⟨_, hu3, fun p hp => ?_⟩
      by_cases e : p = i
      · subst e; rw [pk_us]; exact t5.symm
      · rw [pk_un e]; exact hhh p (by omega)
  · rintro n i s hi ⟨g, rfl, hg⟩ ih
    have hci : (nI i).toNatClampNeg = i := nI_clamp (by omega)
    have hin : vp_in (nI i) 40 := vp_in_nI (by omega) (by decide)
    refine ⟨fun hc => absurd (show nI J ≤ nI i by rw [← eJ]; exact hc) (nI_ge (a := i) (b := J) hi (by omega)), fun _ => ⟨hin, hin, fun u1 hu1 y hy => ?_⟩⟩
    rw [hci, w45_14, show (w45 v g (v.1 15)).1 8 i = b01 (cu i) from h8 i hi, nar_b] at hu1
    rw [hy, nI_1]
    refine ih u1 ⟨_, hu1, fun j hj => ?_⟩
    by_cases e : j = i
    · subst e; rw [pk_us]
    · exact (pk_un e).trans (hg j (by omega))
def Sof (R : Nat → Int32) : Nat → Bool := fun x => decide (x < 24) && decide (R x ≠ 0)
theorem Sof_upd {R : Nat → Int32} {k : Nat} (hk : k < 24) (x : Nat) : Sof (upd R k 1) x = (Sof R x || decide (x = k)) := by
  unfold Sof
  by_cases e : x = k
  · subst e; rw [pk_us]; simp [hk]
  · rw [pk_un e]; simp [e]
theorem p_reaches40 {J p : Nat} {fr to : Nat → Nat} {v : WU} {S0 : Nat → Bool} {R0 : Nat → Int32} {post : WU → Prop} {K : Int32 → WU → Prop} (hJ : J ≤ 40) (eJ : v.1 23 0 = nI J) (hf : ∀ j, j < J → v.1 5 j = nI (fr j) ∧ v.1 6 j = nI (to j) ∧ fr j < 24 ∧ to j < 24)
    (hS0 : Sof R0 = S0)
    (hmin0 : ∀ T : Nat → Bool, T p = true → Clo J fr to (fun j => decide (v.1 14 j = 0)) T → ∀ x, S0 x = true → T x = true)
    (h : ∀ x R, (∀ z, S0 z = true → Sof R z = true) → (∀ T : Nat → Bool, T p = true → Clo J fr to (fun j => decide (v.1 14 j = 0)) T → ∀ z, Sof R z = true → T z = true) → ((x = 0 ∧ R = R0 ∧ Clo J fr to (fun j => decide (v.1 14 j = 0)) S0) ∨ (x = 1 ∧ fb_ct S0 24 < fb_ct (Sof R) 24)) → K x (uI v 13 R)) :
    ∃ nn, wp_X9_reaches_L40 post K nn 0 0 (uI v 13 R0) := by
  refine loop_0 (W := fun n i s => wp_X9_reaches_L40 post K n s.1 (nI i) s.2) (I := fun i s => ∃ R, s.2 = uI v 13 R ∧ (∀ z, S0 z = true → Sof R z = true) ∧ (∀ T : Nat → Bool, T p = true → Clo J fr to (fun j => decide (v.1 14 j = 0)) T → ∀ z, Sof R z = true → T z = true) ∧ ((s.1 = 0 ∧ R = R0 ∧ ∀ j, j < i → v.1 14 j = 0 → S0 (to j) = true → S0 (fr j) = true) ∨ (s.1 = 1 ∧ fb_ct S0 24 < fb_ct (Sof R) 24))) J (0, uI v 13 R0) ⟨R0, rfl, fun z hz => by rw [hS0]; exact hz, fun T a b z hz => hmin0 T a b z (by rw [← hS0]; exact hz), Or.inl ⟨rfl, rfl, fun j hj => absurd hj (Nat.not_lt_zero _)⟩⟩ ?_ ?_
  · rintro n ⟨x, s⟩ ⟨R, h1, h2, h3, h4⟩
    dsimp only at h1 h4
    subst h1
    refine ⟨fun _ => h x R h2 h3 ?_, fun hc => absurd (by show v.1 23 0 ≤ nI J; rw [eJ]; exact Int32.le_refl _) hc⟩
    rcases h4 with ⟨a, b, c⟩ | q
    · exact Or.inl ⟨a, b, fun j hj hl ht => c j hj (by simpa using hl) ht⟩
    · exact Or.inr q
  · rintro n i ⟨x, s⟩ hi ⟨R, h1, h2, h3, h4⟩ ih
    dsimp only at h1 h4
    subst h1
    obtain ⟨f1, f2, f3, f4⟩ := hf i hi
    have hci : (nI i).toNatClampNeg = i := nI_clamp (by omega)
    have hin : vp_in (nI i) 40 := vp_in_nI (by omega) (by decide)
    have e14 : (uI v 13 R).1 14 (nI i).toNatClampNeg = v.1 14 i := by rw [hci]; rfl
    have e6 : (uI v 13 R).1 6 (nI i).toNatClampNeg = nI (to i) := by rw [hci]; exact f2
    have e5 : (uI v 13 R).1 5 (nI i).toNatClampNeg = nI (fr i) := by rw [hci]; exact f1
    have e13 : (uI v 13 R).1 13 = R := rfl
    have ct : (nI (to i)).toNatClampNeg = to i := nI_clamp (by omega)
    have cf : (nI (fr i)).toNatClampNeg = fr i := nI_clamp (by omega)
    have hsame : (v.1 14 i = 0 → S0 (to i) = true → Sof R (fr i) = true) → ∀ y : Int32, y = nI i + 1 → wp_X9_reaches_L40 post K n x y (uI v 13 R) := by
      intro hh y hy
      rw [hy, nI_1]
      refine ih (x, _) ⟨R, rfl, h2, h3, ?_⟩
      rcases h4 with ⟨a, b, c⟩ | q
      · refine Or.inl ⟨a, b, fun j hj hl ht => ?_⟩
        by_cases e : j = i
        · subst e
          have := hh hl ht
          rw [b, hS0] at this
          exact this
        · exact c j (by omega) hl ht
      · exact Or.inr q
    refine ⟨fun hc => absurd (show nI J ≤ nI i by rw [← eJ]; exact hc) (nI_ge (a := i) (b := J) hi (by omega)), fun _ => ⟨hin, fun hc => ?_, fun hc => ⟨hin, ?_⟩⟩⟩
    · rw [e14] at hc
      exact hsame fun q => absurd q hc
    · rw [e14] at hc
      rw [e6, ct, e5, cf, e13]
      refine ⟨vp_in_nI f4 (by decide), fun hR => hsame fun _ ht => ?_, fun hR => ⟨hin, vp_in_nI f3 (by decide), fun hF => ⟨hin, vp_in_nI f3 (by decide), fun u13 hu13 y hy => ?_⟩, fun hF => hsame fun _ _ => ?_⟩⟩
      · have := h2 _ ht
        unfold Sof at this
        simp [hR] at this
      · rw [nar_1, uI_uI] at hu13
        rw [hy, nI_1]
        have hto : Sof R (to i) = true := by unfold Sof; simp [f4, hR]
        have hnf : Sof R (fr i) = false := by unfold Sof; simp [hF]
        refine ih (1, u13) ⟨upd R (fr i) 1, hu13, fun z hz => by rw [Sof_upd f3, h2 z hz]; rfl, fun T a b z hz => ?_, Or.inr ⟨rfl, ?_⟩⟩
        · rw [Sof_upd f3] at hz
          by_cases e : z = fr i
          · rw [e]; exact b i hi (by simpa using hc) (h3 T a b _ hto)
          · simp [e] at hz; exact h3 T a b z hz
        · have a : fb_ct S0 24 ≤ fb_ct (Sof R) 24 := fb_ct_sub fun k _ hk => h2 k hk
          have b : fb_ct (fun k => if k = fr i then true else Sof R k) 24 + (if Sof R (fr i) then 1 else 0) = fb_ct (Sof R) 24 + (if true then 1 else 0) := fb_ct_upd (Sof R) true f3
          have c : fb_ct (Sof (upd R (fr i) 1)) 24 = fb_ct (fun k => if k = fr i then true else Sof R k) 24 := fb_ct_cong fun k _ => by
            rw [Sof_upd f3]
            by_cases e : k = fr i <;> simp [e]
          rw [hnf] at b
          change fb_ct (fun k => if k = fr i then true else Sof R k) 24 + 0 = fb_ct (Sof R) 24 + 1 at b
          omega
      · unfold Sof; simp [f3, hF]
theorem p_reaches {J p : Nat} {fr to : Nat → Nat} {v : WU} {post : WU → Prop} (hJ : J ≤ 40) (hp : p < 24) (eJ : v.1 23 0 = nI J) (hf : ∀ j, j < J → v.1 5 j = nI (fr j) ∧ v.1 6 j = nI (to j) ∧ fr j < 24 ∧ to j < 24)
    (h : ∀ R, Lst J fr to (fun j => decide (v.1 14 j = 0)) p (Sof R) → post (uI v 13 R)) : wp_X9_reaches (nI p) v post := by
  unfold wp_X9_reaches
  refine loop_0 (W := fun n i s => wp_X9_reaches_L2 (nI p) post _ n (nI i) s) (I := fun i s => ∃ R, s = uI v 13 R ∧ ∀ z, z < i → R z = b01 (decide (z = p))) 24 v ⟨v.1 13, (uI_self v 13).symm, fun z hz => absurd hz (Nat.not_lt_zero _)⟩ ?_ ?_
  · rintro n s ⟨R, rfl, hR⟩
    refine ⟨fun _ => ?_, fun hc => absurd (by decide : (24 : Int32) ≤ nI 24) hc⟩
    have hSR : ∀ z, Sof R z = decide (z = p) := by
      intro z
      unfold Sof
      by_cases hz : z < 24
      · rw [hR z hz]
        by_cases e : z = p
        · subst e; simp [hz, b01]
        · simp [hz, e, b01]
      · have : ¬ z = p := by omega
        simp [hz, this]
    refine loop_m (W := fun n s => wp_X9_reaches_L32 post n s.1 s.2) (I := fun s => ∃ R, s.2 = uI v 13 R ∧ Sof R p = true ∧ (∀ T : Nat → Bool, T p = true → Clo J fr to (fun j => decide (v.1 14 j = 0)) T → ∀ z, Sof R z = true → T z = true) ∧ (s.1 = 0 → Clo J fr to (fun j => decide (v.1 14 j = 0)) (Sof R))) (μ := fun s => if s.1 = 0 then 0 else 1 + (24 - fb_ct (Sof (s.2.1 13)) 24)) ?_ (1, uI v 13 R) ⟨R, rfl, by rw [hSR]; simp, fun T a _ z hz => ?_, fun q => absurd (show (1 : Int32) = 0 from q) (by decide)⟩
    · rintro n ⟨x, s⟩ ⟨R, h1, h2, h3, h4⟩ ih
      dsimp only at h1 h4
      subst h1
      refine ⟨fun hc => h R ⟨h2, h4 hc, h3⟩, fun hc => ?_⟩
      refine p_reaches40 hJ eJ hf rfl h3 fun y R' m1 m2 m3 => ?_
      refine ih (y, _) ⟨R', rfl, m1 p h2, m2, fun q => ?_⟩ ?_
      · rcases m3 with ⟨_, b, c⟩ | ⟨b, _⟩
        · rw [b]; exact c
        · exact absurd (b.symm.trans q) (by decide)
      · show (if y = 0 then 0 else 1 + (24 - fb_ct (Sof R') 24)) < (if x = 0 then 0 else 1 + (24 - fb_ct (Sof R) 24))
        rw [if_neg hc]
        rcases m3 with ⟨a, b, c⟩ | ⟨b, c⟩
        · rw [if_pos a]; omega
        · have hle := fb_ct_le (Sof R') 24
          split <;> omega
    · rw [hSR] at hz
      have : z = p := by simpa using hz
      rw [this]; exact a
  · rintro n i s hi ⟨R, rfl, hR⟩ ih
    have hci : (nI i).toNatClampNeg = i := nI_clamp (by omega)
    have hin : vp_in (nI i) 24 := vp_in_nI hi (by decide)
    have hst : ∀ b : Bool, b = decide (i = p) → ∀ u20 : WU, u20 = uI (uI v 13 R) 13 (upd R i (b01 b)) → ∃ R', u20 = uI v 13 R' ∧ ∀ z, z < i + 1 → R' z = b01 (decide (z = p)) := by
      intro b hb u20 hu
      refine ⟨_, by rw [hu, uI_uI], fun z hz => ?_⟩
      by_cases e : z = i
      · subst e; rw [pk_us, hb]
      · rw [pk_un e]; exact hR z (by omega)
    refine ⟨fun hc => absurd hc (nI_ge (a := i) (b := 24) hi (by decide)), fun _ => ⟨fun hc => ⟨hin, fun u20 hu y hy => ?_⟩, fun hc => ⟨hin, fun u20 hu y hy => ?_⟩⟩⟩
    · rw [hy, nI_1]
      rw [hci, nar_0] at hu
      refine ih u20 (hst false (by have : ¬ i = p := fun q => hc (by rw [q]); simp [this]) u20 hu)
    · rw [hy, nI_1]
      rw [hci, nar_1] at hu
      have : i = p := (nI_eq (by omega) (by omega)).mp hc
      exact ih u20 (hst true (by simp [this]) u20 hu)
