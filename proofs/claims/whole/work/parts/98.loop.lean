/-! ===== the law's loop ===== -/
theorem law_more {L i : Nat} (hL : L ≤ 3072) (hi : i ≤ 4000) (h : ¬ (Int32.ofNat L - 6 : Int32) < nI i) : i + 6 ≤ L := by
  have e6 : (6 : Int32) = nI 6 := rfl
  have h' : ¬ (nI L - nI 6 : Int32) < nI i := h
  rcases Nat.lt_or_ge L 6 with z | z
  · have h1 : nI L - nI 6 < 0 := pk_sneg (by omega) z
    exact absurd (Int32.lt_of_lt_of_le h1 (nI_pos' (by omega))) h'
  · rw [pk_sub z] at h'
    rcases Nat.lt_or_ge L (i + 6) with y | y
    · exact absurd (nI_lt (a := L - 6) (b := i) (by omega) (by omega)) h'
    · exact y
theorem law_pure {L : Nat} (xs : Nat → Int32) (hL : L ≤ 3072) : ∀ (m i : Nat) (u v : WU), L < i + m → i ≤ 4000 → Sim u v → wp_law_L18 L xs (m + 1) (nI i) u v := by
  intro m
  induction m with
  | zero =>
    intro i u v h1 h2 hs
    refine ⟨fun _ => trivial, fun hc => ?_⟩
    have := law_more hL h2 hc
    omega
  | succ m ih =>
    intro i u v h1 h2 hs
    refine ⟨fun _ => trivial, fun hc => ?_⟩
    have hm := law_more hL h2 hc
    have v0 : vp_in (nI i) L := vp_in_nI (by omega) (by omega)
    have v1 : vp_in (nI i + 1) L := by rw [nI_1]; exact vp_in_nI (by omega) (by omega)
    have v2 : vp_in (nI i + 2) L := by rw [show (2 : Int32) = nI 2 from rfl, nI_add]; exact vp_in_nI (by omega) (by omega)
    have v3 : vp_in (nI i + 3) L := by rw [show (3 : Int32) = nI 3 from rfl, nI_add]; exact vp_in_nI (by omega) (by omega)
    have v4 : vp_in (nI i + 4) L := by rw [show (4 : Int32) = nI 4 from rfl, nI_add]; exact vp_in_nI (by omega) (by omega)
    have v5 : vp_in (nI i + 5) L := by rw [show (5 : Int32) = nI 5 from rfl, nI_add]; exact vp_in_nI (by omega) (by omega)
    have go : ∀ (u' v' : WU), Sim u' v' → ∀ y : Int32, y = nI i + 6 → wp_law_L18 L xs (m + 1) y u' v' := by
      intro u' v' hs' y hy
      rw [hy, show (6 : Int32) = nI 6 from rfl, nI_add]
      exact ih (i + 6) u' v' (by omega) (by omega) hs'
    have hQ : ∀ (r : Int32) (u' v' : WU), Sim u' v' → ((r = r → ∀ y : Int32, y = nI i + 6 → wp_law_L18 L xs (m + 1) y u' v') ∧ (¬ r = r → False)) := fun r u' v' hs' => ⟨fun _ => go u' v' hs', fun hne => hne rfl⟩
    refine ⟨v0, fun y1 hy1 => ⟨fun _ => ⟨v1, v2, v3, v4, s_asks hs (q := fun r u' r' v' => ((r = r' → ∀ y : Int32, y = nI i + 6 → wp_law_L18 L xs (m + 1) y u' v') ∧ (¬ r = r' → False))) (fun r u' h => ⟨v1, v2, v3, v4, h⟩) hQ⟩,
      fun _ => ⟨v1, v2, s_bars hs (q := fun r u' r' v' => ((r = r' → ∀ y : Int32, y = nI i + 6 → wp_law_L18 L xs (m + 1) y u' v') ∧ (¬ r = r' → False))) (fun r u' h => ⟨v1, v2, h⟩) hQ⟩,
      fun _ => ⟨v1, v2, v3, s_part hs (q := fun r u' r' v' => ((r = r' → ∀ y : Int32, y = nI i + 6 → wp_law_L18 L xs (m + 1) y u' v') ∧ (¬ r = r' → False))) (fun r u' h => ⟨v1, v2, v3, h⟩) hQ⟩,
      fun _ => ⟨v1, v2, s_take hs (q := fun r u' r' v' => ((r = r' → ∀ y : Int32, y = nI i + 6 → wp_law_L18 L xs (m + 1) y u' v') ∧ (¬ r = r' → False))) (fun r u' h => ⟨v1, v2, h⟩) hQ⟩,
      fun _ => ⟨v1, v2, v3, s_join hs (q := fun r u' r' v' => ((r = r' → ∀ y : Int32, y = nI i + 6 → wp_law_L18 L xs (m + 1) y u' v') ∧ (¬ r = r' → False))) (fun r u' h => ⟨v1, v2, v3, h⟩) hQ⟩,
      fun _ => ⟨v1, s_cut hs (q := fun r u' r' v' => ((r = r' → ∀ y : Int32, y = nI i + 6 → wp_law_L18 L xs (m + 1) y u' v') ∧ (¬ r = r' → False))) (fun r u' h => ⟨v1, h⟩) hQ⟩,
      fun _ => ⟨v1, v2, v3, s_except hs (q := fun r u' r' v' => ((r = r' → ∀ y : Int32, y = nI i + 6 → wp_law_L18 L xs (m + 1) y u' v') ∧ (¬ r = r' → False))) (fun r u' h => ⟨v1, v2, v3, h⟩) hQ⟩,
      fun _ => ⟨v1, s_product hs (q := fun r u' r' v' => ((r = r' → ∀ y : Int32, y = nI i + 6 → wp_law_L18 L xs (m + 1) y u' v') ∧ (¬ r = r' → False))) (fun r u' h => ⟨v1, h⟩) hQ⟩,
      fun _ => ⟨v1, v2, v3, v4, s_change hs (q := fun r u' r' v' => ((r = r' → ∀ y : Int32, y = nI i + 6 → wp_law_L18 L xs (m + 1) y u' v') ∧ (¬ r = r' → False))) (fun r u' h => ⟨v1, v2, v3, v4, h⟩) hQ⟩,
      fun _ => ⟨v1, v2, v3, s_come hs (q := fun r u' r' v' => ((r = r' → ∀ y : Int32, y = nI i + 6 → wp_law_L18 L xs (m + 1) y u' v') ∧ (¬ r = r' → False))) (fun r u' h => ⟨v1, v2, v3, h⟩) hQ⟩,
      fun _ => ⟨v1, s_quarrels hs (q := fun r u' r' v' => ((r = r' → ∀ y : Int32, y = nI i + 6 → wp_law_L18 L xs (m + 1) y u' v') ∧ (¬ r = r' → False))) (fun r u' h => ⟨v1, h⟩) hQ⟩,
      fun _ => ⟨v1, v2, s_quarrel hs (q := fun r u' r' v' => ((r = r' → ∀ y : Int32, y = nI i + 6 → wp_law_L18 L xs (m + 1) y u' v') ∧ (¬ r = r' → False))) (fun r u' h => ⟨v1, v2, h⟩) hQ⟩,
      fun _ => ⟨v1, s_judge hs (q := fun r u' r' v' => ((r = r' → ∀ y : Int32, y = nI i + 6 → wp_law_L18 L xs (m + 1) y u' v') ∧ (¬ r = r' → False))) (fun r u' h => ⟨v1, h⟩) hQ⟩,
      fun _ => ⟨v1, s_cheapest hs (q := fun r u' r' v' => ((r = r' → ∀ y : Int32, y = nI i + 6 → wp_law_L18 L xs (m + 1) y u' v') ∧ (¬ r = r' → False))) (fun r u' h => ⟨v1, h⟩) hQ⟩,
      fun _ => ⟨v1, s_price hs (q := fun r r' => ((r = r' → ∀ y : Int32, y = nI i + 6 → wp_law_L18 L xs (m + 1) y u v) ∧ (¬ r = r' → False))) (fun r h => ⟨v1, h⟩) (fun r => hQ r u v hs)⟩,
      fun _ => ⟨v1, v2, v3, v4, v5, s_way hs (q := fun r u' r' v' => ((r = r' → ∀ y : Int32, y = nI i + 6 → wp_law_L18 L xs (m + 1) y u' v') ∧ (¬ r = r' → False))) (fun r u' h => ⟨v1, v2, v3, v4, v5, h⟩) hQ⟩,
      fun _ => ⟨v1, v2, s_notice hs (q := fun r u' r' v' => ((r = r' → ∀ y : Int32, y = nI i + 6 → wp_law_L18 L xs (m + 1) y u' v') ∧ (¬ r = r' → False))) (fun r u' h => ⟨v1, v2, h⟩) hQ⟩,
      fun _ => ⟨v1, v2, v3, s_differ hs (q := fun r u' r' v' => ((r = r' → ∀ y : Int32, y = nI i + 6 → wp_law_L18 L xs (m + 1) y u' v') ∧ (¬ r = r' → False))) (fun r u' h => ⟨v1, v2, v3, h⟩) hQ⟩,
      fun _ => ⟨v1, v2, s_look hs (q := fun r r' v' => ((r = r' → ∀ y : Int32, y = nI i + 6 → wp_law_L18 L xs (m + 1) y u v') ∧ (¬ r = r' → False))) (fun r h => ⟨v1, v2, h⟩) (fun r v' hs' => hQ r u v' hs')⟩,
      fun _ => ⟨v1, s_count hs (q := fun r r' v' => ((r = r' → ∀ y : Int32, y = nI i + 6 → wp_law_L18 L xs (m + 1) y u v') ∧ (¬ r = r' → False))) (fun r h => ⟨v1, h⟩) (fun r v' hs' => hQ r u v' hs')⟩,
      fun _ _ _ _ _ _ _ _ _ _ _ _ _ _ _ _ _ _ _ _ => go u v hs⟩⟩
/-- YOUR PART: from the entry, for every script of at most 3072 ints, the law comes to its end with true -/
theorem whole_start {p : Program} {e : Env} {s : State} {m : MethodId} {below : List Frame} {meth : Method} {c : Code} (l : Launch) {b L : Nat} {xs : Nat → Int32} (hL : L ≤ 3072) (C0 : lw_At p s m meth c b L xs) : W p l e room_1 s m #[Value.ref b] below meth c s.heap [] 0 0 (lw_Z below #[Value.ref b] s) (entryFrame m ([Value.ref b] : List Value).toArray 4) :=
  start_of l ⟨L + 1 + 1, law_pure xs hL (L + 1) 0 uX0 u00 (by omega) (by omega) sim_start⟩ C0
