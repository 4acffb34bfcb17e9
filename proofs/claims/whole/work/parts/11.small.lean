/-! ===== small methods: tests of bounds ===== -/
theorem in_or (x : Int32) (n : Nat) (hn : n < 2 ^ 31) : (∃ k : Nat, k < n ∧ x = nI k) ∨ (∀ k : Nat, k < n → x ≠ nI k) := by
  by_cases h : ∃ k : Nat, k < n ∧ x = nI k
  · exact Or.inl h
  · exact Or.inr fun k hk e => h ⟨k, hk, e⟩
theorem out_cases {x : Int32} {n : Nat} (hn : n < 2 ^ 31) (h : ∀ k : Nat, k < n → x ≠ nI k) : x < 0 ∨ (¬ x < 0 ∧ nI n ≤ x) := by
  by_cases h0 : x < 0
  · exact Or.inl h0
  · refine Or.inr ⟨h0, ?_⟩
    obtain ⟨j, hj, e⟩ := nI_of h0
    subst e
    rcases Nat.lt_or_ge j n with q | q
    · exact absurd rfl (h j q)
    · exact nI_le q hj
theorem w_in {k n : Nat} {y : Int32} (hk : k < n) (hn : n < 2 ^ 31) (hy : y = nI n) {post : Int32 → Prop} (h : post 1) : wp_X8_within (nI k) y post := by
  subst hy
  exact ⟨fun hc => absurd hc (nI_pos (by omega)), fun _ => ⟨fun hc => absurd hc (nI_ge hk hn), fun _ => h⟩⟩
theorem w_out {x y : Int32} {n : Nat} (hx : ∀ k : Nat, k < n → x ≠ nI k) (hn : n < 2 ^ 31) (hy : y = nI n) {post : Int32 → Prop} (h : post 0) : wp_X8_within x y post := by
  subst hy
  rcases out_cases hn hx with h0 | ⟨h0, h1⟩
  · exact ⟨fun _ => h, fun hc => absurd h0 hc⟩
  · exact ⟨fun hc => absurd hc h0, fun _ => ⟨fun _ => h, fun hc => absurd h1 hc⟩⟩
theorem nI_m1 {n : Nat} (h : 0 < n) : nI n - 1 = nI (n - 1) := by
  obtain ⟨m, rfl⟩ : ∃ m, n = m + 1 := ⟨n - 1, by omega⟩
  rw [nI_pred]; rfl
theorem l_in {k n : Nat} {y : Int32} (hk : k < n) (hn : n < 2 ^ 31) (hy : y = nI n - 1) {post : Int32 → Prop} (h : post 1) : wp_X9_lies (nI k) 0 y post := by
  subst hy
  rw [nI_m1 (by omega)]
  exact ⟨fun hc => absurd hc (nI_pos (by omega)), fun _ => ⟨fun hc => absurd hc (nI_nlt (a := n - 1) (b := k) (by omega) (by omega)), fun _ => h⟩⟩
theorem l_out {x y : Int32} {n : Nat} (hx : ∀ k : Nat, k < n → x ≠ nI k) (hn : n < 2 ^ 31) (hy : y = nI n - 1) {post : Int32 → Prop} (h : post 0) : wp_X9_lies x 0 y post := by
  subst hy
  rcases out_cases hn hx with h0 | ⟨h0, h1⟩
  · exact ⟨fun _ => h, fun hc => absurd h0 hc⟩
  · refine ⟨fun hc => absurd hc h0, fun _ => ⟨fun _ => h, fun hc => ?_⟩⟩
    exfalso
    obtain ⟨j, hj, e⟩ := nI_of h0
    subst e
    have hnj : n ≤ j := (nI_leI hn hj).mp h1
    rcases Nat.eq_zero_or_pos n with q | q
    · subst q
      have h5 : (nI 0 - 1 : Int32) < nI j := by
        have e1 : (nI 0 - 1 : Int32) < 0 := by decide
        have e2 : (0 : Int32) ≤ nI j := nI_pos' hj
        exact Int32.lt_of_lt_of_le e1 e2
      exact hc h5
    · rw [nI_m1 q] at hc
      exact hc (nI_lt (by omega) hj)
theorem bl1 : bl 1 := rfl
theorem bl0 : bl 0 := rfl
theorem lic_in {k : Nat} (hk : k < 8) {post : Int32 → Prop} (h : post 1) : wp_X9_isLicence (nI k) post := l_in hk (by decide) (by decide) ⟨bl1, h⟩
theorem lic_out {x : Int32} (hx : ∀ k : Nat, k < 8 → x ≠ nI k) {post : Int32 → Prop} (h : post 0) : wp_X9_isLicence x post := l_out hx (by decide) (by decide) ⟨bl0, h⟩
theorem shp_in {k : Nat} (hk : k < 4) {post : Int32 → Prop} (h : post 1) : wp_X9_isShipping (nI k) post := l_in hk (by decide) (by decide) ⟨bl1, h⟩
theorem shp_out {x : Int32} (hx : ∀ k : Nat, k < 4 → x ≠ nI k) {post : Int32 → Prop} (h : post 0) : wp_X9_isShipping x post := l_out hx (by decide) (by decide) ⟨bl0, h⟩
theorem one0 : ¬ (1 : Int32) = 0 := by decide
theorem br1 {A B : Prop} (h : B) : ((1 : Int32) = 0 → A) ∧ (¬ (1 : Int32) = 0 → B) := ⟨fun q => absurd q one0, fun _ => h⟩
theorem br0 {A B : Prop} (h : A) : ((0 : Int32) = 0 → A) ∧ (¬ (0 : Int32) = 0 → B) := ⟨fun _ => h, fun q => absurd rfl q⟩
theorem br1' {A B : Prop} (h : A) : (¬ (1 : Int32) = 0 → A) ∧ ((1 : Int32) = 0 → B) := ⟨fun _ => h, fun q => absurd q one0⟩
theorem br0' {A B : Prop} (h : B) : (¬ (0 : Int32) = 0 → A) ∧ ((0 : Int32) = 0 → B) := ⟨fun q => absurd rfl q, fun _ => h⟩
theorem pair_in {a d : Nat} (ha : a < 8) (hd : d < 8) {post : Int32 → Prop} (h : post 1) : wp_X8_isPair (nI a) (nI d) post := w_in ha (by decide) rfl (br1 (w_in hd (by decide) rfl (br1 h)))
theorem pair_out1 {x y : Int32} (hx : ∀ k : Nat, k < 8 → x ≠ nI k) {post : Int32 → Prop} (h : post 0) : wp_X8_isPair x y post := w_out hx (by decide) rfl (br0 h)
theorem pair_out2 {a : Nat} {y : Int32} (ha : a < 8) (hy : ∀ k : Nat, k < 8 → y ≠ nI k) {post : Int32 → Prop} (h : post 0) : wp_X8_isPair (nI a) y post := w_in ha (by decide) rfl (br1 (w_out hy (by decide) rfl (br0 h)))
theorem pairOf_n (a d : Nat) : nI a * 8 + nI d = nI (8 * a + d) := by
  have e : (8 : Int32) = nI 8 := rfl
  rw [e, pk_mul, nI_add, Nat.mul_comm]
theorem bit_n (a d : Nat) : 8 * nI a + nI d = nI (8 * a + d) := by
  have e : (8 : Int32) = nI 8 := rfl
  rw [e, pk_mul, nI_add]
