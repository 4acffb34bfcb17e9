/-! ===== judge: the class keeps the better, goes on, takes what it kept ===== -/
/-- what is kept is no worse than all of Vis -/
def BI (P T J s : Nat) (fr to kd : Nat → Nat) (S : Nat → Bool) (m : Nat → Nat) (u v : WU) (Vis : (Nat → Nat) → Prop) (w : WU) : Prop :=
  (w.1 25 0 = 1537 ∧ w.1 26 0 = 1537 ∧ ∀ a, ValidA S m a → ¬ Vis a) ∨
  (∃ (B : Nat → Nat) (n k : Nat), ValidA S m B ∧ KeyIs P T J s fr to kd S u v B n k ∧ n ≤ 1536 ∧ k ≤ 64 ∧ w.1 25 0 = nI n ∧ w.1 26 0 = nI k ∧ (∀ p, p < 24 → w.1 16 p = nI (B p)) ∧ ∀ a, ValidA S m a → Vis a → ∀ n' k', KeyIs P T J s fr to kd S u v a n' k' → nbF n k (rv (mS S m) B P) n' k' (rv (mS S m) a P))
theorem BI.ag {P T J s : Nat} {fr to kd : Nat → Nat} {S : Nat → Bool} {m : Nat → Nat} {u v : WU} {Vis : (Nat → Nat) → Prop} {w w' : WU} {xs : List Nat} (h : BI P T J s fr to kd S m u v Vis w) (g : Ag xs w w') (h1 : 25 ∉ xs) (h2 : 26 ∉ xs) (h3 : 16 ∉ xs) : BI P T J s fr to kd S m u v Vis w' := by
  unfold BI
  rw [g.1 25 h1, g.1 26 h2, g.1 16 h3]
  exact h
theorem BI.vis {P T J s : Nat} {fr to kd : Nat → Nat} {S : Nat → Bool} {m : Nat → Nat} {u v : WU} {Vis Vis' : (Nat → Nat) → Prop} {w : WU} (h : BI P T J s fr to kd S m u v Vis w) (hv : ∀ a, ValidA S m a → Vis' a → Vis a) : BI P T J s fr to kd S m u v Vis' w := by
  rcases h with ⟨a, b, c⟩ | ⟨B, n, k, b1, b2, b3, b4, b5, b6, b7, b8⟩
  · exact Or.inl ⟨a, b, fun x hx hv' => c x hx (hv x hx hv')⟩
  · exact Or.inr ⟨B, n, k, b1, b2, b3, b4, b5, b6, b7, fun x hx hv' => b8 x hx (hv x hx hv')⟩
theorem p_isb0 {n k : Nat} {w : WU} {post : Int32 → Prop} (hn : n ≤ 1536) (h25 : w.1 25 0 = 1537) (h : post 1) : wp_X1_isBetter (nI n) (nI k) w post := by
  have em : (1537 : Int32) = nI 1537 := rfl
  unfold wp_X1_isBetter
  rw [h25, em]
  exact ⟨fun hc => absurd ((nI_eq (by omega) (by omega)).mp hc) (by omega), fun _ => ⟨fun hc => absurd hc (nI_ge (by omega) (by omega)), fun _ => h⟩⟩
theorem p_isb1 {P n k nB kB : Nat} {S : Nat → Bool} {m a B : Nat → Nat} {w : WU} {post : Int32 → Prop} (hP : P ≤ 24) (hSP : ∀ p, S p = true → p < P) (hn : n ≤ 1536) (hk : k ≤ 64) (hnB : nB ≤ 1536) (hkB : kB ≤ 64) (h25 : w.1 25 0 = nI nB) (h26 : w.1 26 0 = nI kB) (ha : ValidA S m a) (hB : ValidA S m B) (hm : ∀ p, S p = true → m p ≤ 3) (h15 : ∀ p, p < 24 → w.1 15 p = nI (a p)) (h16 : ∀ p, p < 24 → w.1 16 p = nI (B p))
    (h1 : ¬ nbF nB kB (rv (mS S m) B P) n k (rv (mS S m) a P) → post 1) (h0 : nbF nB kB (rv (mS S m) B P) n k (rv (mS S m) a P) → post 0) : wp_X1_isBetter (nI n) (nI k) w post := by
  have hsm : ∀ c, ValidA S m c → ∀ p, c p ≤ 3 := fun c hc p => by
    cases e : S p with
    | true => have := hc.1 p e; have := hm p e; omega
    | false => rw [hc.2 p e]; omega
  unfold wp_X1_isBetter
  rw [h25, h26]
  refine ⟨fun e1 => ?_, fun e1 => ⟨fun hle => h0 ?_, fun hnle => h1 ?_⟩⟩
  · have e1 : n = nB := (nI_eq (by omega) (by omega)).mp e1
    refine ⟨fun e2 => ?_, fun e2 => ⟨fun hle => h0 ?_, fun hnle => h1 ?_⟩⟩
    · have e2 : k = kB := (nI_eq (by omega) (by omega)).mp e2
      refine loop_0 (W := fun f i (_ : Unit) => wp_X1_isBetter_L46 w post _ f (nI i)) (I := fun i _ => ∀ p, p < i → a p = B p) 24 () (fun p hp => absurd hp (Nat.not_lt_zero _)) ?_ ?_
      · intro f _ hI
        refine ⟨fun _ => h0 (Or.inr ⟨e1.symm, Or.inr ⟨e2.symm, ?_⟩⟩), fun hc => absurd (by decide : (24 : Int32) ≤ nI 24) hc⟩
        rw [rv_cong (fun p hp => hI p (by omega))]
        exact Nat.le_refl _
      · intro f i _ hi hI ih
        have hci : (nI i).toNatClampNeg = i := nI_clamp (by omega)
        have hin : vp_in (nI i) 24 := vp_in_nI hi (by decide)
        have sa := hsm a ha i
        have sb := hsm B hB i
        refine ⟨fun hc => absurd hc (nI_ge (a := i) (b := 24) hi (by decide)), fun _ => ⟨hin, hin, ?_⟩⟩
        rw [hci, h15 i hi, h16 i hi]
        refine ⟨fun he y hy => ?_, fun hne => ⟨hin, hin, ?_⟩⟩
        · rw [hy, nI_1]
          refine ih () fun p hp => ?_
          by_cases e : p = i
          · rw [e]; exact (nI_eq (by omega) (by omega)).mp he
          · exact hI p (by omega)
        · have hne' : a i ≠ B i := fun z => hne (by rw [z])
          have hiP : i < P := by
            cases e : S i with
            | true => exact hSP i e
            | false => exact absurd ((ha.2 i e).trans (hB.2 i e).symm) hne'
          rw [hci, h15 i hi, h16 i hi]
          refine ⟨fun hle => h0 (Or.inr ⟨e1.symm, Or.inr ⟨e2.symm, ?_⟩⟩), fun hnle => h1 fun hnb => ?_⟩
          · have := (nI_leI (by omega) (by omega)).mp hle
            exact Nat.le_of_lt (rv_lex hiP (fun j hj => (hI j hj).symm) (by omega) (fun j _ => hB.lt j))
          · have hlt : a i < B i := by
              rcases Nat.lt_or_ge (a i) (B i) with z | z
              · exact z
              · exact absurd (nI_le z (by omega)) hnle
            have := rv_lex (m := mS S m) hiP hI hlt (fun j _ => ha.lt j)
            unfold nbF at hnb
            omega
    · have := (nI_leI (by omega) (by omega)).mp hle
      have : k ≠ kB := fun z => e2 (by rw [z])
      unfold nbF; omega
    · have : k < kB := by
        rcases Nat.lt_or_ge k kB with z | z
        · exact z
        · exact absurd (nI_le z (by omega)) hnle
      unfold nbF; omega
  · have := (nI_leI (by omega) (by omega)).mp hle
    have : n ≠ nB := fun z => e1 (by rw [z])
    unfold nbF; omega
  · have : n < nB := by
      rcases Nat.lt_or_ge n nB with z | z
      · exact z
      · exact absurd (nI_le z (by omega)) hnle
    unfold nbF; omega
theorem nb_tot {n k i n' k' i' : Nat} (h : ¬ nbF n k i n' k' i') : nbF n' k' i' n k i := by unfold nbF at *; omega
theorem nb_tr {n k i n' k' i' n2 k2 i2 : Nat} (h : nbF n k i n' k' i') (h' : nbF n' k' i' n2 k2 i2) : nbF n k i n2 k2 i2 := by unfold nbF at *; omega
theorem p_keep {P T J C s len : Nat} {fr to kd ord pos sd bg en ln : Nat → Nat} {S : Nat → Bool} {m a : Nat → Nat} {u v w : WU} {Vis : (Nat → Nat) → Prop} {post : WU → Prop} (hs1 : Sim1 P T J C fr to kd ord pos sd bg en u v) (hT : T < P) (hS : Lst J fr to (tb (u.2 6 0)) T S) (hSP : ∀ p, S p = true → p < P) (hm : ∀ p, S p = true → m p ≤ 3) (hK : Kp u w) (hL : Line len ln pos S w) (hva : ValidA S m a) (hpl : ∀ p, p < 24 → w.1 15 p = nI (a p)) (hpre : PreA J s fr to kd ln u v a len (w.2 4) (w.1 17)) (hB : BI P T J s fr to kd S m u v Vis w)
    (h : ∀ w', Ag [16, 25, 26] w w' → w'.2 4 = w.2 4 → BI P T J s fr to kd S m u v (fun b => Vis b ∨ ∀ p, S p = true → b p = a p) w' → post w') : wp_X1_keepIfBetter w post := by
  obtain ⟨hTS, hPS, hJS, hO, hSS, hC⟩ := id hs1
  have hP := hPS.1
  have p4 := hPS.2.2.2.2.1
  obtain ⟨l0, l1, l2, l3, l4⟩ := id hL
  have e21 : w.1 21 0 = nI T := by rw [hK.1 21 (by omega)]; exact p4
  have hsum : fb_sm (fun i => fb_ct (tb (w.2 4 (ln i) &&& u.2 2 (lqF v a (ln i)))) 64) len = qsum S (fun p => w.2 4 p &&& u.2 2 (lqF v a p)) P := by
    rw [sm_line (fun p => fb_ct (tb (w.2 4 p &&& u.2 2 (lqF v a p))) 64) (N := P) (fun k hk => hSP _ (l2 k hk).2.2) (fun i k hik hk e => by have := l3 i k hik hk; rw [e] at this; omega)]
    refine fb_sm_cong fun p hp => ?_
    have : inl_ ln len p = S p := bool_iff (inl_iff.trans ⟨fun ⟨i, hi, e⟩ => by rw [← e]; exact (l2 i hi).2.2, fun hs => l4 p (by omega) hs⟩)
    rw [this]
  have hn := qsum_le S (fun p => w.2 4 p &&& u.2 2 (lqF v a p)) hP
  have hk := fb_ct_le (tb (w.2 4 T)) 64
  have hkey : KeyIs P T J s fr to kd S u v a (qsum S (fun p => w.2 4 p &&& u.2 2 (lqF v a p)) P) (fb_ct (tb (w.2 4 T)) 64) := by
    refine ⟨w.2 4, fun p hp => ?_, rfl, rfl⟩
    obtain ⟨i, hi, e⟩ := l4 p (by have := hSP p hp; omega) hp
    have := hpre.1 i hi
    rw [e] at this
    exact this
  have e17 : w.1 17 len = nI (qsum S (fun p => w.2 4 p &&& u.2 2 (lqF v a p)) P) := by rw [hpre.2 len (Nat.le_refl _), hsum]
  generalize qsum S (fun p => w.2 4 p &&& u.2 2 (lqF v a p)) P = n at hn hkey e17
  unfold wp_X1_keepIfBetter
  rw [l1, nI_clamp (n := len) (by omega), e21, nI_clamp (n := T) (by omega)]
  refine ⟨vp_in_nI (by omega) (by decide), fun y1 hy1 => ⟨vp_in_nI (by omega) (by decide), p_bcL ?_⟩⟩
  rw [e17] at hy1
  subst hy1
  generalize fb_ct (tb (w.2 4 T)) 64 = k at hk hkey
  have hset : (∀ b, ValidA S m b → Vis b → ∀ n' k', KeyIs P T J s fr to kd S u v b n' k' → nbF n k (rv (mS S m) a P) n' k' (rv (mS S m) b P)) → ∀ u4 : WU, u4 = uI w 25 (fun _ => nI n) → ∀ u5 : WU, u5 = uI u4 26 (fun _ => nI k) → ∀ u6 : WU, u6 = uI u5 16 (va_cpy (u5.1 15) (u5.1 16) (0 : Int32).toNatClampNeg (0 : Int32).toNatClampNeg (24 : Int32).toNatClampNeg) → post u6 := by
    intro hvis u4 hu4 u5 hu5 u6 hu6
    have f25 : u6.1 25 0 = nI n := by rw [hu6, hu5, hu4]; rfl
    have f26 : u6.1 26 0 = nI k := by rw [hu6, hu5]; rfl
    have f16 : ∀ p, p < 24 → u6.1 16 p = nI (a p) := fun p hp => by
      have e0 : (0 : Int32).toNatClampNeg = 0 := by decide
      have e24 : (24 : Int32).toNatClampNeg = 24 := by decide
      have e15 : u5.1 15 = w.1 15 := by rw [hu5, hu4]; rfl
      rw [hu6, uI_s, e0, e24, pk_cpy_in (Nat.zero_le _) (by omega), Nat.zero_add, Nat.sub_zero, e15]
      exact hpl p hp
    refine h u6 (by rw [hu6, hu5, hu4]; exact (((Ag.rf _ w).i (by decide) _).i (by decide) _).i (by decide) _) (by rw [hu6, hu5, hu4]; rfl) (Or.inr ⟨a, n, k, hva, hkey, hn, hk, f25, f26, f16, fun b hb hv n' k' hk' => ?_⟩)
    rcases hv with hv | hv
    · exact hvis b hb hv n' k' hk'
    · obtain ⟨x1, x2⟩ := key_one hs1 hS (fun p hp => (hv p hp).symm) hkey hk'
      have : rv (mS S m) a P = rv (mS S m) b P := rv_cong fun p _ => by
        cases e : S p with
        | true => exact (hv p e).symm
        | false => rw [hva.2 p e, hb.2 p e]
      unfold nbF; omega
  rcases id hB with ⟨z1, z2, z3⟩ | ⟨B, nB, kB, b1, b2, b3, b4, b5, b6, b7, b8⟩
  · exact p_isb0 hn z1 (br1 (hset fun b hb hv => absurd hv (z3 b hb)))
  · refine p_isb1 hP hSP hn hk b3 b4 b5 b6 hva b1 hm hpl b7 (fun hnb => br1 (hset fun b hb hv n' k' hk' => nb_tr (nb_tot hnb) (b8 b hb hv n' k' hk'))) (fun hnb => br0 (h w (Ag.rf _ _) rfl (Or.inr ⟨B, nB, kB, b1, b2, b3, b4, b5, b6, b7, fun b hb hv n' k' hk' => ?_⟩)))
    rcases hv with hv | hv
    · exact b8 b hb hv n' k' hk'
    · obtain ⟨x1, x2⟩ := key_one hs1 hS (fun p hp => (hv p hp).symm) hkey hk'
      have : rv (mS S m) a P = rv (mS S m) b P := rv_cong fun p _ => by
        cases e : S p with
        | true => exact (hv p e).symm
        | false => rw [hva.2 p e, hb.2 p e]
      rw [← x1, ← x2, ← this]
      exact hnb
theorem p_advance {P T len r : Nat} {ln pos : Nat → Nat} {S : Nat → Bool} {a : Nat → Nat} {u v w : WU} {post : Int32 → WU → Prop} (hPS : PS P T u v) (hSP : ∀ p, S p = true → p < P) (hK : Kp u w) (hL : Line len ln pos S w) (hva : ValidA S (mnF v) a) (hpl : ∀ p, p < 24 → w.1 15 p = nI (a p)) (hr : r < len) (hz : ∀ k, r < k → k < len → a (ln k) = 0)
    (h0 : ∀ w', Ag [15] w w' → w'.2 4 = w.2 4 → rv (fun k => mnF v (ln k)) (fun k => a (ln k)) (r + 1) + 1 = pr (fun k => mnF v (ln k)) (r + 1) → post (-1) w')
    (h1 : ∀ w' b k0, k0 ≤ r → Ag [15] w w' → w'.2 4 = w.2 4 → (∀ p, p < 24 → w'.1 15 p = nI (b p)) → ValidA S (mnF v) b → (∀ i, i < k0 → b (ln i) = a (ln i)) → (∀ i, k0 < i → i < len → b (ln i) = 0) → rv (fun k => mnF v (ln k)) (fun k => b (ln k)) (r + 1) = rv (fun k => mnF v (ln k)) (fun k => a (ln k)) (r + 1) + 1 → post (nI k0) w') : wp_X1_advance (nI r) w post := by
  have hP := hPS.1
  obtain ⟨l0, l1, l2, l3, l4⟩ := id hL
  have hinj : ∀ i k, i < len → k < len → i ≠ k → ln i ≠ ln k := fun i k hi hk hne e => by
    rcases Nat.lt_or_ge i k with z | z
    · have := l3 i k z hk; rw [e] at this; omega
    · have := l3 k i (by omega) hi; rw [e] at this; omega
  have er : nI r = nI (r + 1 - 0) - 1 := by rw [nI_m1 (by omega)]; rfl
  unfold wp_X1_advance
  rw [er]
  refine loop_0 (W := fun n i st => wp_X1_advance_L2 post n (nI (r + 1 - i) - 1) st) (I := fun i st => Ag [15] w st ∧ st.2 4 = w.2 4 ∧ (∃ b : Nat → Nat, (∀ p, p < 24 → st.1 15 p = nI (b p)) ∧ ValidA S (mnF v) b ∧ (∀ j, j < r + 1 - i → b (ln j) = a (ln j)) ∧ (∀ j, r + 1 - i ≤ j → j < len → b (ln j) = 0)) ∧ (∀ c : Nat → Nat, (∀ j, r + 1 - i ≤ j → j ≤ r → c j = 0) → rv (fun k => mnF v (ln k)) c (r + 1 - i) = rv (fun k => mnF v (ln k)) (fun k => a (ln k)) (r + 1 - i) + 1 → rv (fun k => mnF v (ln k)) c (r + 1) = rv (fun k => mnF v (ln k)) (fun k => a (ln k)) (r + 1) + 1) ∧ (rv (fun k => mnF v (ln k)) (fun k => a (ln k)) (r + 1 - i) + 1 = pr (fun k => mnF v (ln k)) (r + 1 - i) → rv (fun k => mnF v (ln k)) (fun k => a (ln k)) (r + 1) + 1 = pr (fun k => mnF v (ln k)) (r + 1))) (r + 1) w ⟨Ag.rf _ _, rfl, ⟨a, hpl, hva, fun _ _ => rfl, fun j h1 h2 => hz j (by omega) h2⟩, fun c _ hc => hc, fun hc => hc⟩ ?_ ?_
  · rintro n st ⟨i1, i2, -, -, i5⟩
    have e0 : r + 1 - (r + 1) = 0 := by omega
    rw [e0] at i5 ⊢
    exact ⟨fun _ => h0 st i1 i2 (i5 rfl), fun hc => absurd (by decide : (nI 0 - 1 : Int32) < 0) hc⟩
  · rintro n i st hi ⟨i1, i2, ⟨b, b1, b2, b3, b4⟩, i4, i5⟩ ih
    obtain ⟨k, hk⟩ : ∃ k, r + 1 - i = k + 1 := ⟨r - i, by omega⟩
    have hk1 : r + 1 - (i + 1) = k := by omega
    rw [hk] at b3 b4 i4 i5 ⊢
    rw [hk1] at ih
    rw [nI_pred]
    have hkr : k ≤ r := by omega
    obtain ⟨m1, m2, m3⟩ := l2 k (by omega)
    have hkP := hSP _ m3
    obtain ⟨c1, c2, c3, c4⟩ := many_of hPS hkP
    have hKs : Kp u st := hK.ag i1 fun k hk => by simp; omega
    have hck : (nI k).toNatClampNeg = k := nI_clamp (by omega)
    have hcl : (nI (ln k)).toNatClampNeg = ln k := nI_clamp (by omega)
    have hinl : vp_in (nI (ln k)) 24 := vp_in_nI m2 (by decide)
    have e14 : st.1 14 k = nI (ln k) := by rw [i1.1 14 (by decide)]; exact m1
    have e1 : st.1 1 (ln k) = nI (mnF v (ln k)) := by rw [hKs.1 1 (by omega)]; exact c1
    have ebk : b (ln k) = a (ln k) := b3 k (by omega)
    have e15 : st.1 15 (ln k) = nI (a (ln k)) := by rw [b1 _ m2, ebk]
    have hak := hva.1 _ m3
    refine ⟨fun hc => absurd hc (nI_pos (by omega)), fun _ => ⟨vp_in_nI (by omega) (by decide), fun y1 hy1 => ?_⟩⟩
    rw [hck, e14] at hy1
    subst hy1
    rw [hcl, e1, e15, nI_1]
    refine ⟨hinl, hinl, fun hle => ⟨hinl, fun u2 hu2 y3 hy3 => ?_⟩, fun hnle => ⟨hinl, hinl, fun u4 hu4 => ?_⟩⟩
    · have hmax : a (ln k) + 1 = mnF v (ln k) := by
        have := (nI_leI (by omega) (by omega)).mp hle
        omega
      have ey : y3 = nI k - 1 := by rw [hy3, sub_m1]
      rw [ey]
      have hrs : rv (fun k => mnF v (ln k)) (fun k => a (ln k)) (k + 1) + 1 = (rv (fun k => mnF v (ln k)) (fun k => a (ln k)) k + 1) * mnF v (ln k) := by
        rw [rv_s, Nat.add_mul, Nat.one_mul]; omega
      refine ih u2 ⟨by rw [hu2]; exact i1.i (by decide) _, by rw [hu2]; exact i2, ⟨putN b (ln k) 0, fun p hp => ?_, ⟨fun p hp => ?_, fun p hp => ?_⟩, fun j hj => ?_, fun j hj1 hj2 => ?_⟩, fun c hc1 hc2 => ?_, fun hc => ?_⟩
      · rw [hu2, uI_s]
        by_cases e : p = ln k
        · rw [e, pk_us, putN_s]; rfl
        · rw [pk_un e, putN_n e]; exact b1 p hp
      · by_cases e : p = ln k
        · rw [e, putN_s]; omega
        · rw [putN_n e]; exact b2.1 p hp
      · by_cases e : p = ln k
        · rw [e, putN_s]
        · rw [putN_n e]; exact b2.2 p hp
      · rw [putN_n (hinj j k (by omega) (by omega) (by omega))]; exact b3 j (by omega)
      · by_cases e : j = k
        · rw [e, putN_s]
        · rw [putN_n (hinj j k hj2 (by omega) e)]; exact b4 j (by omega) hj2
      · refine i4 c (fun j hj1 hj2 => hc1 j (by omega) hj2) ?_
        rw [hrs, rv_s, hc1 k (Nat.le_refl _) hkr, hc2]
        rfl
      · refine i5 ?_
        rw [hrs, pr_s, hc]
    · have hlt : a (ln k) + 1 < mnF v (ln k) := by
        rcases Nat.lt_or_ge (a (ln k) + 1) (mnF v (ln k)) with z | z
        · exact z
        · exact absurd (nI_le z (by omega)) hnle
      refine h1 u4 (putN b (ln k) (a (ln k) + 1)) k hkr (by rw [hu4]; exact i1.i (by decide) _) (by rw [hu4]; exact i2) (fun p hp => ?_) ⟨fun p hp => ?_, fun p hp => ?_⟩ (fun j hj => ?_) (fun j hj1 hj2 => ?_) (i4 _ (fun j hj1 hj2 => ?_) ?_)
      · rw [hu4, uI_s]
        by_cases e : p = ln k
        · rw [e, pk_us, putN_s]
        · rw [pk_un e, putN_n e]; exact b1 p hp
      · by_cases e : p = ln k
        · rw [e, putN_s]; exact hlt
        · rw [putN_n e]; exact b2.1 p hp
      · by_cases e : p = ln k
        · rw [e, m3] at hp; exact absurd hp (by decide)
        · rw [putN_n e]; exact b2.2 p hp
      · rw [putN_n (hinj j k (by omega) (by omega) (by omega))]; exact b3 j (by omega)
      · rw [putN_n (hinj j k hj2 (by omega) (by omega))]; exact b4 j (by omega) hj2
      · rw [putN_n (hinj j k (by omega) (by omega) (by omega))]; exact b4 j (by omega) (by omega)
      · rw [rv_s, rv_s, putN_s, rv_cong (b := fun k => a (ln k)) (fun j hj => by rw [putN_n (hinj j k (by omega) (by omega) (by omega))]; exact b3 j (by omega))]
        omega
theorem p_takeKept {P T J C len : Nat} {fr to kd ord pos sd bg en ln B : Nat → Nat} {S : Nat → Bool} {u v w : WU} {post : WU → Prop} (hs1 : Sim1 P T J C fr to kd ord pos sd bg en u v) (hK : Kp u w) (hL : Line len ln pos S w) (hch : ∀ p, S p = true → p < 24 ∧ B p < 3) (h16 : ∀ p, p < 24 → w.1 16 p = nI (B p))
    (h : ∀ l2, (∀ p, p < 24 → l2 p = if S p = true then v.1 2 (3 * p + B p) else u.1 2 p) → post (uI w 2 l2)) : wp_X1_takeKept w post := by
  obtain ⟨hTS, hPS, hJS, hO, hSS, hC⟩ := id hs1
  have hp6 := hPS.2.2.2.2.2.2.1
  obtain ⟨l0, l1, l2, l3, l4⟩ := id hL
  unfold wp_X1_takeKept
  refine loop_0 (W := fun n k st => wp_X1_takeKept_L2 post n (nI k) st) (I := fun k st => ∃ l2, st = uI w 2 l2 ∧ ∀ p, p < 24 → l2 p = if inl_ ln k p = true then v.1 2 (3 * p + B p) else u.1 2 p) len w ⟨w.1 2, (uI_self w 2).symm, fun p _ => by rw [hK.1 2 (by omega)]; rfl⟩ ?_ ?_
  · rintro n st ⟨q, rfl, hq⟩
    refine ⟨fun _ => h q fun p hp => ?_, fun hc => absurd (by show w.1 24 0 ≤ nI len; rw [l1]; exact Int32.le_refl _) hc⟩
    have : inl_ ln len p = S p := bool_iff (inl_iff.trans ⟨fun ⟨i, hi, e⟩ => by rw [← e]; exact (l2 i hi).2.2, fun hs => l4 p hp hs⟩)
    rw [hq p hp, this]
  · rintro n k st hk ⟨q, rfl, hq⟩ ih
    obtain ⟨m1, m2, m3⟩ := l2 k hk
    obtain ⟨c1, c2⟩ := hch _ m3
    have hck : (nI k).toNatClampNeg = k := nI_clamp (by omega)
    have hcl : (nI (ln k)).toNatClampNeg = ln k := nI_clamp (by omega)
    have hinl : vp_in (nI (ln k)) 24 := vp_in_nI m2 (by decide)
    refine ⟨fun hc => absurd (show nI len ≤ nI k by rw [← l1]; exact hc) (nI_ge (a := k) (b := len) hk (by omega)), fun _ => ⟨vp_in_nI (by omega) (by decide), fun y1 hy1 => ?_⟩⟩
    have hy1 : y1 = nI (ln k) := by rw [hy1, hck]; exact m1
    subst hy1
    have e16 : (uI w 2 q).1 16 (ln k) = nI (B (ln k)) := h16 _ m2
    have e0 : (uI w 2 q).1 0 (3 * ln k + B (ln k)) = v.1 2 (3 * ln k + B (ln k)) := by
      show w.1 0 _ = _
      rw [hK.1 0 (by omega)]; exact hp6 _ (by omega)
    unfold wp_X5_choiceOf
    rw [hcl, e16, three_n, nI_clamp (n := 3 * ln k + B (ln k)) (by omega), e0]
    refine ⟨hinl, vp_in_nI (by omega) (by decide), hinl, fun u3 hu3 y hy => ?_⟩
    rw [uI_s, uI_uI] at hu3
    rw [hy, nI_1]
    refine ih u3 ⟨_, hu3, fun p hp => ?_⟩
    show upd q (ln k) _ p = if (inl_ ln k p || decide (ln k = p)) = true then _ else _
    by_cases e : p = ln k
    · subst e; rw [pk_us]; simp
    · have : ¬ ln k = p := fun z => e z.symm
      rw [pk_un e, hq p hp]; simp [this]
