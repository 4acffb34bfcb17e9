/-! ===== judge ===== -/
theorem Aq.ts {u w w' : WU} (h : Aq w w') (hT : TS u w) : TS u w' := by
  unfold TS at *
  rw [h.1 0 (by omega) (by omega) (by omega), h.1 1 (by omega) (by omega) (by omega), h.2 0 (by omega)]
  exact hT
/-- the reference's search, from the world behind works -/
theorem p_msearch {P T J C s m : Nat} {fr to kd ord pos sd bg en lev od : Nat → Nat} {S : Nat → Bool} {u v w0 : WU} {post : Int32 → WU → Prop} {K : Int32 → WU → Prop} (hs1 : Sim1 P T J C fr to kd ord pos sd bg en u v) (hs : s < 4) (hTP : T < P) (hS : Lst J fr to (tb (u.2 6 0)) T S) (hSP : ∀ p, S p = true → p < P) (hpw : pw S (mnF v) P ≤ 6561)
    (h0 : w0.1 0 = v.1 0) (h1 : w0.1 1 = v.1 1) (h2 : w0.1 2 = v.1 2) (h3 : w0.1 3 = v.1 3) (h4 : w0.1 4 = v.1 4) (h5 : w0.1 5 = v.1 5) (h6 : w0.1 6 = v.1 6) (h7 : w0.1 7 = v.1 7) (h21 : w0.1 21 = v.1 21) (h22 : w0.1 22 = v.1 22) (g0 : w0.2 0 = v.2 0) (g1 : w0.2 1 = v.2 1) (e25 : w0.1 25 0 = nI m) (ho : Olst J m fr to lev od (tb (u.2 6 0)) (w0.1 16)) (h13 : Sof (w0.1 13) = S) (hhas : ∀ p, p < P → w0.1 15 p = u.1 2 p)
    (h : ∀ st a n k, Aq w0 st → ValidA S (mnF v) a → KeyIs P T J s fr to kd S u v a n k → n ≤ 1536 → (∀ b, ValidA S (mnF v) b → ∀ n' k', KeyIs P T J s fr to kd S u v b n' k' → nbF n k (rv (mS S (mnF v)) a P) n' k' (rv (mS S (mnF v)) b P)) → (∀ p, p < P → st.1 19 p = if S p = true then nI (a p) else v.1 4 p) → K (nI n) st) : ∃ nn, wp_X9_judge_L41 (nI s) (nI (pw S (mnF v) P)) post K nn (-1) 0 0 w0 := by
  obtain ⟨hTS, hPS, hJS, hO, hSS, hC⟩ := id hs1
  obtain ⟨hP, p1, p2, p3, p4, p5, p6, p7, p8, p9⟩ := id hPS
  obtain ⟨hJ, j1, j2, j3, j4, j5⟩ := id hJS
  have hTw : TS u w0 := by
    unfold TS at *
    rw [h0, h1, g0]; exact hTS
  have eP : w0.1 21 0 = nI P := by rw [h21]; exact p3
  have eT : w0.1 22 0 = nI T := by rw [h22]; exact p5
  have hjf : ∀ j, j < J → v.1 5 j = nI (fr j) ∧ v.1 6 j = nI (to j) ∧ v.1 7 j = nI (kd j) ∧ fr j < P ∧ to j < P ∧ kd j < 4 := fun j hj => by
    obtain ⟨q1, q2, q3, q4, q5, q6, q7, q8, q9⟩ := j3 j hj
    exact ⟨q4, q5, q6, q7, q8, q9⟩
  have h13p : ∀ p, p < 24 → (w0.1 13 p = 0 ↔ S p = false) := fun p hp => by
    rw [← h13]
    unfold Sof
    by_cases e : w0.1 13 p = 0 <;> simp [e, hp]
  have hprw := pw_pr S (mnF v) P
  obtain ⟨lic0, hlic0⟩ := licF hPS
  have hch : ∀ a : Nat → Nat, ValidA S (mnF v) a → ∀ p, S p = true → v.1 2 (3 * p + a p) = nI (lqF v a p) ∧ lqF v a p < 8 := by
    intro a ha p hp
    have hpP := hSP p hp
    obtain ⟨r1, m, t, m1, m3, htm, r2, r3, r4, r5, r6⟩ := p7 p hpP
    have em : mnF v p = m := by unfold mnF; rw [r2]; exact nI_clamp (by omega)
    have hlt := ha.1 p hp
    rw [em] at hlt
    obtain ⟨c, hc, ec⟩ := r5 (a p) hlt
    have el : lqF v a p = c := by unfold lqF; rw [ec]; exact nI_clamp (by omega)
    exact ⟨by rw [el]; exact ec, by rw [el]; exact hc⟩
  refine loop_0 (W := fun f i q => wp_X9_judge_L41 (nI s) (nI (pw S (mnF v) P)) post K f q.1 q.2.1 (nI i) q.2.2) (I := fun i q => Aq w0 q.2.2 ∧ (∀ p, p < P → S p = false → q.2.2.1 15 p = u.1 2 p) ∧ ((i = 0 ∧ q.1 = -1) ∨ (∃ (a : Nat → Nat) (n k : Nat), ValidA S (mnF v) a ∧ q.1 = nI n ∧ q.2.1 = nI k ∧ KeyIs P T J s fr to kd S u v a n k ∧ n ≤ 1536 ∧ k ≤ 64 ∧ rv (mS S (mnF v)) a P < i ∧ (∀ p, p < P → q.2.2.1 19 p = if S p = true then nI (a p) else v.1 4 p) ∧ ∀ b, ValidA S (mnF v) b → rv (mS S (mnF v)) b P < i → ∀ n' k', KeyIs P T J s fr to kd S u v b n' k' → nbF n k (rv (mS S (mnF v)) a P) n' k' (rv (mS S (mnF v)) b P)))) (pw S (mnF v) P) (-1, 0, w0) ⟨Aq.rf _, fun p hp _ => hhas p hp, Or.inl ⟨rfl, rfl⟩⟩ ?_ ?_
  · rintro f ⟨x3, x4, st⟩ ⟨i1, i2, i3⟩
    dsimp only at i1 i2 i3
    refine ⟨fun _ => ?_, fun hc => absurd (Int32.le_refl _) hc⟩
    rcases i3 with ⟨z, _⟩ | ⟨a, n, k, a1, a2, a3, a4, a5, a6, a7, a8, a9⟩
    · have : 1 ≤ pw S (mnF v) P := by
        have := @pw_mono S (mnF v) P (fun p hp => (many_of hPS hp).2.2.1) 0 P (by omega)
        rw [Nat.zero_add] at this
        exact this
      omega
    · rw [a2]
      exact h st a n k i1 a1 a4 a5 (fun b hb => a9 b hb (by rw [hprw]; exact rv_lt fun p _ => hb.lt p)) a8
  · rintro f i ⟨x3, x4, st⟩ hi ⟨i1, i2, i3⟩ ih
    dsimp only at i1 i2 i3
    refine ⟨fun hc => absurd hc (nI_ge hi (by omega)), fun _ => fun y1 hy1 => ?_⟩
    have e21 : st.1 21 0 = nI P := by rw [i1.1 21 (by omega) (by omega) (by omega)]; exact eP
    rw [e21] at hy1
    subst hy1
    refine p_mdec (w0 := w0) (u := u) (v := v) hPS hSP i1 h13p h2 h3 h4 (by rw [← hprw]; exact hi) (by omega) i2 fun st2 a hA2 e19 hva hrv hpl hh1 hh2 => ?_
    have q0 : st2.1 0 = v.1 0 := by rw [hA2.1 0 (by omega) (by omega) (by omega), h0]
    have q1 : st2.2 1 = v.2 1 := by rw [hA2.2 1 (by omega), g1]
    obtain ⟨lic, hlic⟩ : ∃ lic : Nat → Nat, ∀ p, p < P → st2.1 15 p = nI (lic p) ∧ lic p < 8 ∧ (S p = true → lic p = lqF v a p) := by
      refine ⟨fun p => if S p = true then lqF v a p else lic0 p, fun p hp => ?_⟩
      by_cases e : S p = true
      · obtain ⟨c1, c2⟩ := hch a hva p e
        dsimp only
        rw [if_pos e]
        exact ⟨(hh1 p hp e).trans c1, c2, fun _ => rfl⟩
      · obtain ⟨c1, c2⟩ := hlic0 p hp
        dsimp only
        rw [if_neg e]
        exact ⟨(hh2 p hp (by simpa using e)).trans c1, c2, fun z => absurd z e⟩
    refine p_comes (v := st2) (P := P) (J := J) (m := m) (fr := fr) (to := to) (kd := kd) (lev := lev) (od := od) (Lv := tb (u.2 6 0)) (bm := fun p => brX (u.2 0 s) (st2.1 15 p) (u.2 3 p)) hP hJ hs (by rw [hA2.1 21 (by omega) (by omega) (by omega)]; exact eP) (by rw [hA2.1 25 (by omega) (by omega) (by omega)]; exact e25) (fun j hj => ?_) (by rw [hA2.1 16 (by omega) (by omega) (by omega)]; exact ho) (fun p hp => ?_) fun c hc => ?_
    · rw [hA2.1 5 (by omega) (by omega) (by omega), hA2.1 6 (by omega) (by omega) (by omega), hA2.1 7 (by omega) (by omega) (by omega), h5, h6, h7]; exact hjf j hj
    · refine ⟨lic p, (hlic p hp).2.1, (hlic p hp).1, ?_⟩
      show brX (u.2 0 s) (st2.1 15 p) (u.2 3 p) = _
      rw [(hlic p hp).1, q0, q1]
      exact (br_eq hTS hPS hs (hlic p hp).2.1 (by omega)).symm
    · have hA3 : Aq w0 (uJ st2 2 c) := hA2.j c
      have f13 : Sof ((uJ st2 2 c).1 13) = S := by rw [hA3.1 13 (by omega) (by omega) (by omega)]; exact h13
      have f2 : (uJ st2 2 c).2 2 = c := uJ_s st2 2 c
      have f22 : (uJ st2 2 c).1 22 0 = nI T := by rw [hA3.1 22 (by omega) (by omega) (by omega)]; exact eT
      refine p_qnow (u := u) (w := uJ st2 2 c) (lic := lic) (hA3.ts hTw) hP (by rw [hA3.1 21 (by omega) (by omega) (by omega)]; exact eP) (fun p hp => ⟨(hlic p hp).1, (hlic p hp).2.1⟩) ?_
      rw [f22, nI_clamp (n := T) (by omega), f13, f2]
      refine ⟨vp_in_nI (by omega) (by decide), p_bits ?_⟩
      have hc' : ∀ p, p < P → ComAt J fr to kd (tb (u.2 6 0)) (u.2 1) (brX (u.2 0 s) (st2.1 15 p) (u.2 3 p)) c p := fun p hp => com_al (fun j hj => (hjf j hj).2.2.2.2.2) (fun k hk => by rw [hA2.2 0 (by omega), g0]; exact (hTS.1.2.2.1 k hk).symm) (hc p hp)
      have hn := qsum_le S (fun p => c p &&& u.2 2 (lic p)) hP
      have hk := fb_ct_le (tb (c T)) 64
      have hkey : KeyIs P T J s fr to kd S u v a (qsum S (fun p => c p &&& u.2 2 (lic p)) P) (fb_ct (tb (c T)) 64) := by
        refine ⟨c, fun p hp => ?_, qsum_congS fun p hp e => by rw [(hlic p hp).2.2 e], rfl⟩
        have := hc' p (hSP p hp)
        rw [hh1 p (hSP p hp) hp] at this
        exact this
      generalize qsum S (fun p => c p &&& u.2 2 (lic p)) P = n at hn hkey
      generalize fb_ct (tb (c T)) 64 = k at hk hkey
      have hsame : ∀ b, ValidA S (mnF v) b → rv (mS S (mnF v)) b P = i → ∀ n' k', KeyIs P T J s fr to kd S u v b n' k' → n = n' ∧ k = k' := fun b hb hbi n' k' hk' => by
        have hab := rv_inj (m := mS S (mnF v)) (n := P) (fun p _ => hva.lt p) (fun p _ => hb.lt p) (hrv.trans hbi.symm)
        exact key_one hs1 hS (fun p hp => hab p (hSP p hp)) hkey hk'
      -- it is taken
      have htake : (∀ b, ValidA S (mnF v) b → rv (mS S (mnF v)) b P < i → ∀ n' k', KeyIs P T J s fr to kd S u v b n' k' → n < n' ∨ (n = n' ∧ k < k')) → wp_X9_judge_J202 (nI s) (nI (pw S (mnF v) P)) (nI i) (nI n) (nI k) (uJ st2 2 c) post (fun (y6 : Int32) (y7 : Int32) (y8 : Int32) (u9 : WU) => wp_X9_judge_L41 (nI s) (nI (pw S (mnF v) P)) post K f y6 y7 y8 u9) := by
        intro hb
        refine p_m212 (st := uJ st2 2 c) hP (by rw [hA3.1 21 (by omega) (by omega) (by omega)]; exact eP) fun bs hbs => fun y hy => ?_
        rw [hy, nI_1]
        refine ih (nI n, nI k, uI (uJ st2 2 c) 19 bs) ⟨hA3.i (by omega) _, hh2, Or.inr ⟨a, n, k, hva, rfl, rfl, hkey, hn, hk, by omega, fun p hp => ?_, fun b hvb hlt n' k' hk' => ?_⟩⟩
        · have e : (uI (uJ st2 2 c) 19 bs).1 19 = bs := uI_s _ _ _
          dsimp only
          rw [e, hbs p hp]
          exact hpl p hp
        · by_cases e : rv (mS S (mnF v)) b P = i
          · obtain ⟨x1, x2⟩ := hsame b hvb e n' k' hk'
            unfold nbF; omega
          · have := hb b hvb (by omega) n' k' hk'
            unfold nbF; omega
      rcases i3 with ⟨z, hm⟩ | ⟨a', n', k', a1, a2, a3, a4, a5, a6, a7, a8, a9⟩
      · exact ⟨fun _ => htake fun b _ hlt => by omega, fun hne => absurd hm hne⟩
      · refine ⟨fun hm => absurd (a2.symm.trans hm) (nIm1 (by omega)), fun _ => ?_⟩
        rw [a2, a3]
        have hskip : (n' < n ∨ (n' = n ∧ k' ≤ k)) → ∀ y : Int32, y = nI i + 1 → wp_X9_judge_L41 (nI s) (nI (pw S (mnF v) P)) post K f (nI n') (nI k') y (uJ st2 2 c) := by
          intro hle y hy
          rw [hy, nI_1]
          refine ih (nI n', nI k', uJ st2 2 c) ⟨hA3, hh2, Or.inr ⟨a', n', k', a1, rfl, rfl, a4, a5, a6, by omega, fun p hp => ?_, fun b hvb hlt n2 k2 hk2 => ?_⟩⟩
          · have e : (uJ st2 2 c).1 19 = st2.1 19 := rfl
            dsimp only
            rw [e, e19]; exact a8 p hp
          · by_cases e : rv (mS S (mnF v)) b P = i
            · obtain ⟨x1, x2⟩ := hsame b hvb e n2 k2 hk2
              unfold nbF; omega
            · exact a9 b hvb (by omega) n2 k2 hk2
        refine ⟨fun hlt => hskip (Or.inl ((nI_ltI (by omega) (by omega)).mp hlt)), fun hnlt => ⟨fun hne => htake fun b hvb hlt n2 k2 hk2 => ?_, fun he => ⟨fun hlt => htake fun b hvb hlt2 n2 k2 hk2 => ?_, fun hnlt2 => hskip (Or.inr ⟨?_, ?_⟩)⟩⟩⟩
        · have := a9 b hvb hlt n2 k2 hk2
          have hnn : ¬ n' < n := fun z => hnlt (nI_lt z (by omega))
          have : n ≠ n' := fun z => hne (by rw [z])
          unfold nbF at *; omega
        · have := a9 b hvb hlt2 n2 k2 hk2
          have hnn : n = n' := (nI_eq (by omega) (by omega)).mp he
          have := (nI_ltI (by omega) (by omega)).mp hlt
          unfold nbF at *; omega
        · exact ((nI_eq (by omega) (by omega)).mp he).symm
        · rcases Nat.lt_or_ge k k' with z | z
          · exact absurd (nI_lt z (by omega)) hnlt2
          · exact z
def Kr (v w : WU) : Prop := (∀ k, k < 13 ∨ (21 ≤ k ∧ k < 25) → w.1 k = v.1 k) ∧ (∀ k, k < 2 → w.2 k = v.2 k)
theorem Kr.sim {P T J C : Nat} {fr to kd ord pos sd bg en : Nat → Nat} {u v w : WU} (h : Kr v w) (hs : Sim1 P T J C fr to kd ord pos sd bg en u v) : Sim1 P T J C fr to kd ord pos sd bg en u w := by
  obtain ⟨a, b⟩ := h
  unfold Sim1 TS PS JS OS SS CS at *
  rw [a 0 (by omega), a 1 (by omega), a 2 (by omega), a 3 (by omega), a 4 (by omega), a 5 (by omega), a 6 (by omega), a 7 (by omega), a 8 (by omega), a 9 (by omega), a 10 (by omega), a 11 (by omega), a 12 (by omega), a 21 (by omega), a 22 (by omega), a 23 (by omega), a 24 (by omega), b 0 (by omega), b 1 (by omega)]
  exact hs
theorem sim_taken {P T J C : Nat} {fr to kd ord pos sd bg en B : Nat → Nat} {S : Nat → Bool} {u v : WU} {l2 tk : Nat → Int32} (hs : Sim1 P T J C fr to kd ord pos sd bg en u v) (hB : ValidA S (mnF v) B) (h2 : ∀ p, p < 24 → l2 p = if S p = true then v.1 2 (3 * p + B p) else u.1 2 p) (h4 : ∀ p, p < P → tk p = if S p = true then nI (B p) else v.1 4 p) (h5 : ∀ p, P ≤ p → tk p = v.1 4 p) : Sim1 P T J C fr to kd ord pos sd bg en (uI u 2 l2) (uI v 4 tk) := by
  obtain ⟨hT, hPS, hJS, hO, hSS, hC⟩ := id hs
  obtain ⟨hP, p1, p2, p3, p4, p5, p6, p7, p8, p9⟩ := id hPS
  refine ⟨hT, ⟨hP, p1, p2, p3, p4, p5, p6, fun p hp => ?_, fun p hp => ?_, p9⟩, hJS, hO, hSS, hC⟩
  · obtain ⟨r1, m, t, m1, m3, htm, r2, r3, r4, r5, r6⟩ := p7 p hp
    have e2 : (uI u 2 l2).1 2 = l2 := uI_s _ _ _
    have e4 : (uI v 4 tk).1 4 = tk := uI_s _ _ _
    unfold PRow
    rw [e2, e4, h2 p (by omega), h4 p hp]
    cases e : S p with
    | false => exact ⟨r1, m, t, m1, m3, htm, r2, r3, r4, r5, r6⟩
    | true =>
      have em : mnF v p = m := by unfold mnF; rw [r2]; exact nI_clamp (by omega)
      have hlt := hB.1 p e
      rw [em] at hlt
      exact ⟨r1, m, B p, m1, m3, hlt, r2, rfl, rfl, r5, r6⟩
  · have e4 : (uI v 4 tk).1 4 = tk := uI_s _ _ _
    rw [e4, h5 p hp]; exact p8 p hp
theorem s_judge {x1 : Int32} {u v : WU} (hs : Sim u v) {p : Int32 → WU → Prop} {q : Int32 → WU → Int32 → WU → Prop} (hp : ∀ r u', wp_X9_judge x1 v (q r u') → p r u') (hq : ∀ r u' v', Sim u' v' → q r u' r v') : wp_X8_judge x1 u p := by
  have hq0 := hq (-1) u v hs
  obtain ⟨P, T, J, C, fr, to, kd, ord, pos, sd, bg, en, hs1⟩ := hs
  obtain ⟨hT, hPS, hJS, hO, hSS, hC⟩ := id hs1
  obtain ⟨hP, p1, p2, p3, p4, p5, p6, p7, p8, p9⟩ := id hPS
  obtain ⟨hJ, j1, j2, j3, j4, j5⟩ := id hJS
  rcases in_or x1 4 (by decide) with ⟨s, hs, rfl⟩ | n1
  · refine w_in hs (by decide) rfl (br1 ⟨fun he => ?_, fun hne => ?_⟩)
    · have z : P = 0 := (nI_eq (b := 0) (by omega) (by decide)).mp (p2.symm.trans he)
      exact hp _ _ (shp_in hs (br1 ⟨fun hne => absurd (by rw [p3, z]; rfl) hne, fun _ => hq0⟩))
    · have h0 : 0 < P := by
        rcases Nat.eq_zero_or_pos P with z | z
        · exact absurd (by rw [p2, z]; rfl) hne
        · exact z
      have hneM : ¬ v.1 21 0 = 0 := by rw [p3]; exact nI_ne0 h0 (by omega)
      refine p_wayCount hs1 fun S1 hS1 => ⟨fun hle => ⟨fun _ => ?_, fun hm => absurd hm (nIm1 (by omega))⟩, fun hgt => ⟨fun hm => absurd rfl hm, fun _ => hp _ _ ?_⟩⟩
      · have hS1 := hS1 h0
        have hall : ∀ S : Nat → Bool, Lst J fr to (tb (u.2 6 0)) T S → pw S (mnF v) P = pw S1 (mnF v) P := fun S hS => pw_cong fun k _ => hS.one hS1 k
        refine p_takeBest hs1 hs h0 (fun S hS => by rw [hall S hS]; exact hle) fun w S B n k l2 hS hSP hB hkey hn hmin hK h17 hl2 => hp _ _ ?_
        refine shp_in hs (br1 ⟨fun _ => p_mways hs1 fun g hh R hg hhh hR => ⟨fun hle2 => ⟨fun _ => ?_, fun hm => absurd hm (nIm1 (by omega))⟩, fun hgt => absurd hgt (by rw [hall _ hR]; omega)⟩, fun hz => absurd hz hneM⟩)
        refine p_works (u := u) (v := uI (w45 v g hh) 13 R) hs1 hs fun g' hh' gg m lev od f R' c hhh' ho hR' hc => ?_
        have hSe : Sof R' = S := funext fun x => hR'.one hS x
        have hSe2 : Sof R = S := funext fun x => hR.one hS x
        rw [hSe2]
        refine p_msearch (u := u) (v := v) (w0 := wfl (w45 (uI (w45 v g hh) 13 R) g' hh') gg f m R' c) (m := m) (lev := lev) (od := od) hs1 hs (by omega) hS hSP (by rw [hall S hS]; exact hle) rfl rfl rfl rfl rfl rfl rfl rfl rfl rfl rfl rfl rfl ho hSe hhh' fun st a n2 k2 hAq ha hkey2 hn2 hmin2 h19 => ?_
        have hb1 := hmin a ha n2 k2 hkey2
        have hb2 := hmin2 B hB n k hkey
        have hrv : rv (mS S (mnF v)) B P = rv (mS S (mnF v)) a P := by unfold nbF at *; omega
        have hnn : n2 = n := by unfold nbF at *; omega
        have hab := rv_inj (m := mS S (mnF v)) (n := P) (fun p _ => hB.lt p) (fun p _ => ha.lt p) hrv
        have hKr : Kr v st := by
          refine ⟨fun k' hk => (hAq.1 k' (by omega) (by omega) (by omega)).trans ?_, fun k' hk => (hAq.2 k' (by omega)).trans ?_⟩
          · show va_up (va_up (va_up (va_up (va_up (va_up (va_up (va_up (va_up v.1 14 g) 15 hh) 13 R) 14 g') 15 hh') 17 gg) 16 f) 25 (fun _ => nI m)) 13 R' k' = v.1 k'
            rw [va_up_n _ _ _ (by omega), va_up_n _ _ _ (by omega), va_up_n _ _ _ (by omega), va_up_n _ _ _ (by omega), va_up_n _ _ _ (by omega), va_up_n _ _ _ (by omega), va_up_n _ _ _ (by omega), va_up_n _ _ _ (by omega), va_up_n _ _ _ (by omega)]
          · exact va_up_n v.2 2 c (by omega)
        refine p_m250 hP (by rw [hKr.1 21 (by omega)]; exact p3) fun tk ht1 ht2 => ?_
        rw [hnn]
        refine hq _ _ _ ⟨P, T, J, C, fr, to, kd, ord, pos, sd, bg, en, ?_⟩
        have hw := hKr.sim (hK.sim hs1 h17)
        have e2 : st.1 2 = v.1 2 := hKr.1 2 (by omega)
        have e4 : st.1 4 = v.1 4 := hKr.1 4 (by omega)
        have e3 : mnF st = mnF v := by funext z; unfold mnF; rw [hKr.1 3 (by omega)]
        refine sim_taken (S := S) (B := B) hw (by rw [e3]; exact hB) (fun p hp => ?_) (fun p hp => ?_) (fun p hp => ?_)
        · rw [hl2 p hp, e2, hK.1 2 (by omega)]
        · rw [ht1 p hp, h19 p hp, e4, hab p hp]
        · exact ht2 p hp
      · refine shp_in hs (br1 ⟨fun _ => p_mways hs1 fun g hh R hg hhh hR => ⟨fun hle => ?_, fun _ => ⟨fun hm => absurd rfl hm, fun _ => ?_⟩⟩, fun hz => absurd hz hneM⟩)
        · have : pw S1 (mnF v) P = pw (Sof R) (mnF v) P := pw_cong fun k _ => (hS1 h0).one hR k
          omega
        · exact hq _ _ _ ⟨P, T, J, C, fr, to, kd, ord, pos, sd, bg, en, hs1⟩
  · exact w_out n1 (by decide) rfl (br0 (hp _ _ (shp_out n1 (br0 hq0))))
