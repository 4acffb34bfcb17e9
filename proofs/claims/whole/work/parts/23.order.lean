/-! ===== Joins.directlyIn, Joins.orderParts ===== -/
theorem p_dirIn {J p : Nat} {fr to sd bg en : Nat → Nat} {u : WU} {post : Int32 → Prop} (hJ : J ≤ 40) (hp : p < 24) (hf : ∀ j, j < J → u.1 3 j = nI (fr j) ∧ fr j < 24) (hS : SS J to sd bg en u)
    (h : ∀ y, (∀ n, ti y n = true → ∃ j, j < J ∧ tb (u.2 6 0) j = true ∧ to j = p ∧ fr j = n) → (∀ j, j < J → tb (u.2 6 0) j = true → to j = p → ti y (fr j) = true) → post y) : wp_X3_directlyIn (nI p) u post := by
  obtain ⟨s1, s2, s3, s4, s5, s6, s7⟩ := hS p hp
  have hcu : (nI p).toNatClampNeg = p := nI_clamp (by omega)
  have hinu : vp_in (nI p) 24 := vp_in_nI hp (by decide)
  refine ⟨hinu, fun y3 hy3 => ?_⟩
  rw [hcu, s1] at hy3
  subst hy3
  refine pk_loop (W := fun n i s => wp_X3_directlyIn_L9 (nI p) u post n s (nI i)) (I := fun i s => bg p ≤ i ∧ (∀ n, ti s n = true → ∃ j, j < J ∧ tb (u.2 6 0) j = true ∧ to j = p ∧ fr j = n) ∧ (∀ k, bg p ≤ k → k < i → ti s (fr (sd k)) = true)) (en p) (bg p) 0 s3 ⟨Nat.le_refl _, fun n hn => by rw [ti_zero] at hn; exact absurd hn (by decide), fun k h1 h2 => by omega⟩ ?_ ?_
  · rintro n s ⟨-, i2, i3⟩
    refine ⟨hinu, fun _ => h s i2 fun j hj hl hto => ?_, fun hc => absurd (by rw [hcu, s2]; exact Int32.le_refl _) hc⟩
    obtain ⟨i, h1, h2, h3⟩ := s7 j hj hl hto
    have := i3 i h1 h2
    rw [h3] at this; exact this
  · rintro n i s hi ⟨hbi, i2, i3⟩ ih
    obtain ⟨a1, a2, a3, a4⟩ := s6 i hbi hi
    have hci : (nI i).toNatClampNeg = i := nI_clamp (by omega)
    have hcs : (nI (sd i)).toNatClampNeg = sd i := nI_clamp (by omega)
    obtain ⟨f1, f2⟩ := hf (sd i) a2
    refine ⟨hinu, fun hc => absurd (by rw [hcu, s2] at hc; exact hc) (nI_ge (a := i) (b := en p) hi (by omega)), fun _ => ⟨vp_in_nI (by omega) (by decide), ?_⟩⟩
    rw [hci, a1, hcs, f1]
    refine ⟨vp_in_nI (by omega) (by decide), fun y1 hy1 y hy => ?_⟩
    have hbit : ∀ n, ti y1 n = (ti s n || decide (n = fr (sd i))) := by
      intro n
      rw [hy1, ti_or]
      rcases Nat.lt_or_ge n 32 with q | q
      · rw [ti_bit (by omega) q]
      · rw [ti_ge q, ti_ge q]
        have : ¬ n = fr (sd i) := by omega
        simp [this]
    rw [hy, nI_1]
    refine ih y1 ⟨by omega, fun n hn => ?_, fun k h1 h2 => ?_⟩
    · rw [hbit] at hn
      by_cases en1 : n = fr (sd i)
      · exact ⟨sd i, a2, a3, a4, en1.symm⟩
      · simp [en1] at hn; exact i2 n hn
    · rw [hbit]
      by_cases ek : k = i
      · subst ek; simp
      · rw [i3 k h1 (by omega)]; rfl
/-- m parts are placed: f lists them, S is their set -/
def Plc (J : Nat) (fr to : Nat → Nat) (th : Int64) (m : Nat) (f : Nat → Int32) (o : Nat → Nat) (S : Nat → Bool) : Prop :=
  m ≤ 24 ∧ (∀ k, k < m → f k = nI (o k) ∧ o k < 24 ∧ S (o k) = true) ∧ (∀ i k, i < k → k < m → o i ≠ o k) ∧ (∀ x, S x = true → ∃ k, k < m ∧ o k = x) ∧ (∀ k, k < m → ∀ j, j < J → tb th j = true → to j = o k → ∃ i, i < k ∧ o i = fr j)
theorem Plc.full {J : Nat} {fr to : Nat → Nat} {th : Int64} {f : Nat → Int32} {o : Nat → Nat} {S : Nat → Bool} (h : Plc J fr to th 24 f o S) {x : Nat} (hx : x < 24) : S x = true := by
  obtain ⟨i, hi, e⟩ := fb_onto (n := 24) (f := o) (fun k hk => (h.2.1 k hk).2.1) h.2.2.1 hx
  rw [← e]; exact (h.2.1 i hi).2.2
theorem Plc.add {J : Nat} {fr to : Nat → Nat} {th : Int64} {m p : Nat} {f : Nat → Int32} {o : Nat → Nat} {S : Nat → Bool} (h : Plc J fr to th m f o S) (hm : m < 24) (hp : p < 24) (hn : S p = false) (hd : ∀ j, j < J → tb th j = true → to j = p → S (fr j) = true) : Plc J fr to th (m + 1) (upd f m (nI p)) (fun k => if k = m then p else o k) (fun x => S x || decide (x = p)) := by
  obtain ⟨h1, h2, h3, h4, h5⟩ := h
  refine ⟨by omega, fun k hk => ?_, fun i k hik hk => ?_, fun x hx => ?_, fun k hk j hj hl ht => ?_⟩
  · by_cases e : k = m
    · subst e; rw [pk_us]; simp [hp]
    · rw [pk_un e]
      obtain ⟨a, b, c⟩ := h2 k (by omega)
      simp [e, a, b, c]
  · by_cases e : k = m
    · have e2 : ¬ i = m := by omega
      simp only [e, e2, if_true, if_false]
      intro q
      have := (h2 i (by omega)).2.2
      rw [q, hn] at this
      exact absurd this (by decide)
    · have e2 : ¬ i = m := by omega
      simp only [e, e2, if_false]
      exact h3 i k hik (by omega)
  · by_cases e : x = p
    · exact ⟨m, by omega, by simp [e]⟩
    · simp [e] at hx
      obtain ⟨k, hk, ek⟩ := h4 x hx
      have : ¬ k = m := by omega
      exact ⟨k, by omega, by simp [this, ek]⟩
  · by_cases e : k = m
    · simp only [e, if_true] at ht
      obtain ⟨i, hi, ei⟩ := h4 _ (hd j hj hl ht)
      have : ¬ i = m := by omega
      exact ⟨i, by omega, by simp [this, ei]⟩
    · simp only [e, if_false] at ht
      obtain ⟨i, hi, ei⟩ := h5 k (by omega) j hj hl ht
      have : ¬ i = m := by omega
      exact ⟨i, hi, by simp [this, ei]⟩
