/-! ===== join ===== -/
theorem p_leads {J a b : Nat} {fr to sd bg en : Nat → Nat} {u : WU} {post : Int32 → Prop} (hJ : J ≤ 40) (ha : a < 24) (hb : b < 24) (hf : ∀ j, j < J → u.1 3 j = nI (fr j) ∧ fr j < 24) (hS : SS J to sd bg en u)
    (h1 : (∃ j, j < J ∧ tb (u.2 6 0) j = true ∧ fr j = a ∧ to j = b) → post 1) (h0 : (¬ ∃ j, j < J ∧ tb (u.2 6 0) j = true ∧ fr j = a ∧ to j = b) → post 0) : wp_X3_leads (nI a) (nI b) u post := by
  obtain ⟨s1, s2, s3, s4, s5, s6, s7⟩ := hS b hb
  have hcu : (nI b).toNatClampNeg = b := nI_clamp (by omega)
  have hinu : vp_in (nI b) 24 := vp_in_nI hb (by decide)
  refine ⟨hinu, fun y3 hy3 => ?_⟩
  rw [hcu, s1] at hy3
  subst hy3
  refine pk_loop (W := fun n i (_ : Unit) => wp_X3_leads_L7 (nI a) (nI b) u post n (nI i)) (I := fun i _ => bg b ≤ i ∧ ∀ k, bg b ≤ k → k < i → fr (sd k) ≠ a) (en b) (bg b) () s3 ⟨Nat.le_refl _, fun k h1 h2 => by omega⟩ ?_ ?_
  · rintro n _ ⟨-, i3⟩
    refine ⟨hinu, fun _ => h0 ?_, fun hc => absurd (by rw [hcu, s2]; exact Int32.le_refl _) hc⟩
    rintro ⟨j, hj, hl, hfr, hto⟩
    obtain ⟨i, q1, q2, q3⟩ := s7 j hj hl hto
    exact i3 i q1 q2 (by rw [q3]; exact hfr)
  · rintro n i _ hi ⟨hbi, i3⟩ ih
    obtain ⟨a1, a2, a3, a4⟩ := s6 i hbi hi
    have hci : (nI i).toNatClampNeg = i := nI_clamp (by omega)
    have hcs : (nI (sd i)).toNatClampNeg = sd i := nI_clamp (by omega)
    obtain ⟨f1, f2⟩ := hf (sd i) a2
    refine ⟨hinu, fun hc => absurd (by rw [hcu, s2] at hc; exact hc) (nI_ge (a := i) (b := en b) hi (by omega)), fun _ => ⟨vp_in_nI (by omega) (by decide), ?_⟩⟩
    rw [hci, a1, hcs, f1]
    refine ⟨vp_in_nI (by omega) (by decide), fun hc y hy => ?_, fun hc => h1 ⟨sd i, a2, a3, (nI_eq (by omega) (by omega)).mp hc, a4⟩⟩
    rw [hy, nI_1]
    refine ih () ⟨by omega, fun k q1 q2 => ?_⟩
    by_cases e : k = i
    · rw [e]; exact fun q => hc (by rw [q])
    · exact i3 k q1 (by omega)
theorem p_mjoin44 {J a b : Nat} {fr to : Nat → Nat} {lv : Nat → Bool} {x3 : Int32} {v : WU} {post : Int32 → WU → Prop} {K : WU → Prop} (hJ : J ≤ 40) (ha : a < 24) (hb : b < 24) (eJ : v.1 23 0 = nI J) (hf : ∀ j, j < J → v.1 5 j = nI (fr j) ∧ v.1 6 j = nI (to j) ∧ fr j < 24 ∧ to j < 24) (h8 : ∀ j, j < J → v.1 8 j = b01 (!lv j))
    (h1 : (∃ j, j < J ∧ lv j = true ∧ fr j = a ∧ to j = b) → post (-1) v) (h0 : (¬ ∃ j, j < J ∧ lv j = true ∧ fr j = a ∧ to j = b) → K v) : ∃ nn, wp_X9_join_L44 (nI a) (nI b) x3 post K nn 0 v := by
  refine loop_0 (W := fun n i (_ : Unit) => wp_X9_join_L44 (nI a) (nI b) x3 post K n (nI i) v) (I := fun i _ => ∀ j, j < i → lv j = true → fr j = a → to j ≠ b) J () (fun j hj => absurd hj (Nat.not_lt_zero _)) ?_ ?_
  · intro n _ hi
    refine ⟨fun _ => h0 ?_, fun hc => absurd (by rw [eJ]; exact Int32.le_refl _) hc⟩
    rintro ⟨j, hj, hl, q1, q2⟩
    exact hi j hj hl q1 q2
  · intro n i _ hi hI ih
    have hci : (nI i).toNatClampNeg = i := nI_clamp (by omega)
    have hin : vp_in (nI i) 40 := vp_in_nI (by omega) (by decide)
    obtain ⟨f1, f2, f3, f4⟩ := hf i hi
    have hskip : (lv i = true → fr i = a → to i ≠ b) → ∀ y : Int32, y = nI i + 1 → wp_X9_join_L44 (nI a) (nI b) x3 post K n y v := by
      intro hh y hy
      rw [hy, nI_1]
      refine ih () fun j hj hl => ?_
      by_cases e : j = i
      · rw [e]; exact hh (by rw [← e]; exact hl)
      · exact hI j (by omega) hl
    refine ⟨fun hc => absurd (by rw [eJ] at hc; exact hc) (nI_ge (a := i) (b := J) hi (by omega)), fun _ => ⟨hin, ?_⟩⟩
    rw [hci, h8 i hi, f1, f2]
    refine ⟨fun hc => hskip fun hl => absurd (by rw [hl]; rfl) hc, fun hc => ⟨hin, fun hc2 => hskip fun _ q => absurd (by rw [q]) hc2, fun hc2 => ⟨hin, fun hc3 => hskip fun _ _ q => absurd (by rw [q]) hc3, fun hc3 => h1 ⟨i, hi, ?_, (nI_eq (by omega) (by omega)).mp hc2, (nI_eq (by omega) (by omega)).mp hc3⟩⟩⟩⟩
    cases hl : lv i with
    | true => rfl
    | false => rw [hl] at hc; exact absurd hc (by decide)
theorem ct_lt {p1 p2 : Nat → Bool} {n k : Nat} (hk : k < n) (h1 : p1 k = false) (h2 : p2 k = true) (h : ∀ y, y < n → p1 y = true → p2 y = true) : fb_ct p1 n < fb_ct p2 n := by
  have a : fb_ct (fun y => if y = k then true else p1 y) n ≤ fb_ct p2 n := fb_ct_sub fun y hy hp => by
    by_cases e : y = k
    · rw [e]; exact h2
    · simp [e] at hp; exact h y hy hp
  have b := fb_ct_upd p1 true hk
  rw [h1] at b
  change fb_ct (fun y => if y = k then true else p1 y) n + 0 = fb_ct p1 n + 1 at b
  omega
/-- a rank below 24 out of any numbers that rise -/
theorem rank_of (q : Nat → Nat) : (∀ x y, x < 24 → q x < q y → fb_ct (fun z => decide (q z < q x)) 24 < fb_ct (fun z => decide (q z < q y)) 24) ∧ ∀ x, x < 24 → fb_ct (fun z => decide (q z < q x)) 24 < 24 := by
  refine ⟨fun x y hx h => ct_lt (k := x) hx (by simp) (by simpa using h) fun z _ hz => ?_, fun x hx => ?_⟩
  · have : q z < q x := by simpa using hz
    simp; omega
  · have a := fb_ct_le (fun z => decide (q z < q x)) 24
    rcases Nat.lt_or_ge (fb_ct (fun z => decide (q z < q x)) 24) 24 with r | r
    · exact r
    · have := (fb_ct_all (p := fun z => decide (q z < q x)) (n := 24)).mp (by omega) x hx
      simp at this
