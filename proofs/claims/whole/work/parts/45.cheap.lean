/-! ===== cheapest: what a set of changes does ===== -/
/-- the licences with the changes of a set, the first c looked at -/
def chL (b9 b10 b11 : Nat → Int32) (set : Int32) (l0 : Nat → Int32) : Nat → Nat → Int32
  | 0, p => l0 p
  | c + 1, p => if ti set c = true ∧ b9 c = 0 ∧ b10 c = nI p then b11 c else chL b9 b10 b11 set l0 c p
/-- the joins -/
def chJ (b9 b10 : Nat → Int32) (set : Int32) (th : Nat → Bool) : Nat → Nat → Bool
  | 0, j => th j
  | c + 1, j => if ti set c = true ∧ ¬ b9 c = 0 ∧ b10 c = nI j then false else chJ b9 b10 set th c j
theorem chL_step (b9 b10 b11 : Nat → Int32) (set : Int32) (l0 : Nat → Int32) (c p : Nat) : chL b9 b10 b11 set l0 (c + 1) p = if ti set c = true ∧ b9 c = 0 ∧ b10 c = nI p then b11 c else chL b9 b10 b11 set l0 c p := rfl
theorem chJ_step (b9 b10 : Nat → Int32) (set : Int32) (th : Nat → Bool) (c j : Nat) : chJ b9 b10 set th (c + 1) j = if ti set c = true ∧ ¬ b9 c = 0 ∧ b10 c = nI j then false else chJ b9 b10 set th c j := rfl
theorem chJ_sub {b9 b10 : Nat → Int32} {set : Int32} {th : Nat → Bool} {j : Nat} : ∀ c, chJ b9 b10 set th c j = true → th j = true
  | 0, h => h
  | c + 1, h => by
    rw [chJ_step] at h
    by_cases e : ti set c = true ∧ ¬ b9 c = 0 ∧ b10 c = nI j
    · rw [if_pos e] at h; exact absurd h (by decide)
    · rw [if_neg e] at h; exact chJ_sub c h
theorem chL_in {b9 b10 b11 : Nat → Int32} {set : Int32} {l0 : Nat → Int32} {p : Nat} (h0 : ∃ l : Nat, l < 8 ∧ l0 p = nI l) : ∀ c, (∀ k, k < c → b9 k = 0 → ∃ l : Nat, l < 8 ∧ b11 k = nI l) → ∃ l : Nat, l < 8 ∧ chL b9 b10 b11 set l0 c p = nI l
  | 0, _ => h0
  | c + 1, h => by
    rw [chL_step]
    by_cases e : ti set c = true ∧ b9 c = 0 ∧ b10 c = nI p
    · rw [if_pos e]; exact h c (by omega) e.2.1
    · rw [if_neg e]; exact chL_in h0 c fun k hk => h k (by omega)
def ucL (u : WU) (set : Int32) (C p : Nat) : Int32 := chL (u.1 10) (u.1 11) (u.1 12) set (u.1 2) C p
def ucJ (u : WU) (set : Int32) (C j : Nat) : Bool := chJ (u.1 10) (u.1 11) set (tb (u.2 6 0)) C j
/-- with the changes of the set there is no quarrel -/
def EndsOK (P T J C s : Nat) (fr to kd : Nat → Nat) (u : WU) (set : Int32) : Prop := ∃ (A : Nat → Int64) (S : Nat → Bool) (lic : Nat → Nat), (∀ p, p < P → ucL u set C p = nI (lic p) ∧ lic p < 8) ∧ (∀ p, p < P → ComAt J fr to kd (ucJ u set C) (u.2 1) (brX (u.2 0 s) (ucL u set C p) (u.2 3 p)) A p) ∧ (0 < P → Lst J fr to (ucJ u set C) T S) ∧ qsum S (fun p => A p &&& u.2 2 (lic p)) P = 0
theorem ends_iff {P T J C s : Nat} {fr to kd ord pos sd bg en lic : Nat → Nat} {u v : WU} {set : Int32} {A : Nat → Int64} {S : Nat → Bool} (hs1 : Sim1 P T J C fr to kd ord pos sd bg en u v) (hl : ∀ p, p < P → ucL u set C p = nI (lic p) ∧ lic p < 8) (hA : ∀ p, p < P → ComAt J fr to kd (ucJ u set C) (u.2 1) (brX (u.2 0 s) (ucL u set C p) (u.2 3 p)) A p) (hS : 0 < P → Lst J fr to (ucJ u set C) T S) : qsum S (fun p => A p &&& u.2 2 (lic p)) P = 0 ↔ EndsOK P T J C s fr to kd u set := by
  constructor
  · exact fun h => ⟨A, S, lic, hl, hA, hS, h⟩
  · rintro ⟨B, S', lic', h1, h2, h3, h4⟩
    rw [← h4]
    refine qsum_cong fun p hp => ⟨(hS (by omega)).one (h3 (by omega)) p, ?_⟩
    have e1 := com_eq (s := s) hs1 (fun j _ z => chJ_sub C z) hA h2 hp
    have e2 : lic p = lic' p := by
      have a := (hl p hp).2
      have b := (h1 p hp).2
      exact (nI_eq (by omega) (by omega)).mp ((hl p hp).1.symm.trans (h1 p hp).1)
    rw [e1, e2]
theorem ucL_lic {P T J C : Nat} {fr to kd ord pos sd bg en : Nat → Nat} {u v : WU} (hs1 : Sim1 P T J C fr to kd ord pos sd bg en u v) (set : Int32) : ∃ lic : Nat → Nat, ∀ p, p < P → ucL u set C p = nI (lic p) ∧ lic p < 8 := by
  obtain ⟨hT, hPS, hJS, hO, hSS, hC⟩ := id hs1
  refine ⟨fun p => (ucL u set C p).toNatClampNeg, fun p hp => ?_⟩
  obtain ⟨l, hl, el⟩ := chL_in (b9 := u.1 10) (b10 := u.1 11) (b11 := u.1 12) (set := set) (lic_of hPS hp) C fun k hk hz => by
    obtain ⟨c1, c2, c3, c4, c5, c6⟩ := hC.2.2.2 k hk
    rcases c5 with ⟨z, w, g, z1, z2, z3, z4⟩ | ⟨z, _⟩
    · exact ⟨g, z4, c3.trans z3⟩
    · rw [c1, z] at hz; exact absurd hz (by decide)
  have el : ucL u set C p = nI l := el
  dsimp only
  rw [el, nI_clamp (by omega)]
  exact ⟨rfl, hl⟩
theorem p_xends29 {P T J C : Nat} {fr to kd ord pos sd bg en : Nat → Nat} {u v : WU} {set x1 : Int32} {g : Nat → Int32} {lv : Int64} {post : Int32 → WU → Prop} {K : Int64 → WU → Prop} (hs1 : Sim1 P T J C fr to kd ord pos sd bg en u v) (hg : ∀ p, p < 24 → g p = u.1 2 p) (hlv : lv = u.2 6 0)
    (h : ∀ g' lv', (∀ p, p < 24 → g' p = ucL u set C p) → (∀ j, j < 64 → tb lv' j = ucJ u set C j) → K lv' (uI u 18 g')) : ∃ nn, wp_X4_endsQuarrels_L29 x1 set post K nn lv 0 (uI u 18 g) := by
  obtain ⟨hT, hPS, hJS, hO, hSS, hC⟩ := id hs1
  have hP := hPS.1
  have hJ := hJS.1
  obtain ⟨hC10, c1, c2, c3⟩ := id hC
  refine loop_0 (W := fun m i s => wp_X4_endsQuarrels_L29 x1 set post K m s.1 (nI i) s.2) (I := fun i s => ∃ g', s.2 = uI u 18 g' ∧ (∀ p, p < 24 → g' p = ucL u set i p) ∧ (∀ j, j < 64 → tb s.1 j = ucJ u set i j)) C (lv, uI u 18 g) ⟨g, rfl, hg, fun j _ => by dsimp only; rw [hlv]; rfl⟩ ?_ ?_
  · rintro m ⟨y, s⟩ ⟨g', e, i1, i2⟩
    dsimp only at e i2
    subst e
    exact ⟨fun _ => h g' y i1 i2, fun hc => absurd (by show u.1 23 0 ≤ nI C; rw [c1]; exact Int32.le_refl _) hc⟩
  · rintro m i ⟨y, s⟩ hi ⟨g', e, i1, i2⟩ ih
    dsimp only at e i2
    subst e
    obtain ⟨d1, d2, d3, d4, d5, d6⟩ := c3 i hi
    have hci : (nI i).toNatClampNeg = i := nI_clamp (by omega)
    have hin : vp_in (nI i) 10 := vp_in_nI (by omega) (by decide)
    have e10 : (uI u 18 g').1 10 (nI i).toNatClampNeg = u.1 10 i := by rw [hci]; rfl
    have e11 : (uI u 18 g').1 11 (nI i).toNatClampNeg = u.1 11 i := by rw [hci]; rfl
    have e12 : (uI u 18 g').1 12 (nI i).toNatClampNeg = u.1 12 i := by rw [hci]; rfl
    refine ⟨fun hc => absurd (show nI C ≤ nI i by rw [← c1]; exact hc) (nI_ge (a := i) (b := C) hi (by omega)), fun _ => h_holds _ (by omega) ?_⟩
    rw [tb_i2l _ (by omega)]
    cases hb : ti set i with
    | false =>
      refine br0' fun z hz => ?_
      rw [hz, nI_1]
      refine ih (y, _) ⟨g', rfl, fun p hp => ?_, fun j hj => ?_⟩
      · rw [i1 p hp]; unfold ucL; rw [chL_step, if_neg (fun z => by rw [hb] at z; exact absurd z.1 (by decide))]
      · dsimp only; rw [i2 j hj]; unfold ucJ; rw [chJ_step, if_neg (fun z => by rw [hb] at z; exact absurd z.1 (by decide))]
    | true =>
      refine br1' ⟨hin, ?_⟩
      rw [e10, e11, e12]
      refine ⟨fun hne => ⟨hin, fun y2 hy2 z hz => ?_⟩, fun he => ⟨hin, hin, ?_⟩⟩
      · obtain ⟨w, w1, w2⟩ : ∃ w : Nat, u.1 11 i = nI w ∧ w < J := by
          rcases d5 with ⟨z0, _⟩ | ⟨z0, w, z1, z2⟩
          · exact absurd (d1.trans z0) hne
          · exact ⟨w, d2.trans z1, z2⟩
        rw [w1] at hy2
        rw [hz, nI_1]
        refine ih (y2, _) ⟨g', rfl, fun p hp => ?_, fun j hj => ?_⟩
        · rw [i1 p hp]; unfold ucL; rw [chL_step, if_neg (fun z => hne z.2.1)]
        · dsimp only
          rw [hy2, spr_x0 (by omega) _ hj, i2 j hj]
          unfold ucJ
          rw [chJ_step]
          by_cases ej : j = w
          · rw [if_pos ej, if_pos ⟨hb, hne, by rw [w1, ej]⟩]
          · rw [if_neg ej, if_neg (fun z => ej ((nI_eq (by omega) (by omega)).mp (z.2.2.symm.trans w1)))]
      · obtain ⟨w, w1, w2⟩ : ∃ w : Nat, u.1 11 i = nI w ∧ w < P := by
          rcases d5 with ⟨z0, w, g0, z1, z2, z3, z4⟩ | ⟨z0, _⟩
          · exact ⟨w, d2.trans z1, z2⟩
          · rw [d1, z0] at he; exact absurd he (by decide)
        rw [w1]
        refine ⟨vp_in_nI (by omega) (by decide), fun u6 hu6 z hz => ?_⟩
        rw [nI_clamp (n := w) (by omega), uI_s, uI_uI] at hu6
        rw [hz, nI_1]
        refine ih (y, u6) ⟨_, hu6, fun p hp => ?_, fun j hj => ?_⟩
        · unfold ucL
          rw [chL_step]
          by_cases ep : p = w
          · rw [ep, pk_us, if_pos ⟨hb, he, w1⟩]
          · rw [pk_un ep, i1 p hp, if_neg (fun z => ep ((nI_eq (by omega) (by omega)).mp (z.2.2.symm.trans w1)))]; rfl
        · dsimp only; rw [i2 j hj]; unfold ucJ; rw [chJ_step, if_neg (fun z => z.2.1 he)]
theorem p_xends {P T J C s : Nat} {fr to kd ord pos sd bg en : Nat → Nat} {u v : WU} {set : Int32} {post : Int32 → WU → Prop} (hs1 : Sim1 P T J C fr to kd ord pos sd bg en u v) (hs : s < 4)
    (h : ∀ g A (b : Bool), (b = true ↔ EndsOK P T J C s fr to kd u set) → post (b01 b) (uJ (uI u 18 g) 4 A)) : wp_X4_endsQuarrels (nI s) set u post := by
  obtain ⟨hT, hPS, hJS, hO, hSS, hC⟩ := id hs1
  have hP := hPS.1
  have hJ := hJS.1
  obtain ⟨lic, hlic⟩ := ucL_lic hs1 set
  intro u14 hu14 y15 hy15
  subst hy15; subst hu14
  refine p_xends29 hs1 (fun p hp => ?_) rfl fun g' lv' hg' hlv' => ?_
  · have e0 : (0 : Int32).toNatClampNeg = 0 := by decide
    have e24 : (24 : Int32).toNatClampNeg = 24 := by decide
    rw [e0, e24, pk_cpy_in (Nat.zero_le _) (by omega), Nat.zero_add, Nat.sub_zero]
  · have hsub : ∀ j, j < J → tb lv' j = true → tb (u.2 6 0) j = true := fun j hj hl => by
      rw [hlv' j (by omega)] at hl
      exact chJ_sub C hl
    have hLv : ∀ j, j < J → tb lv' j = ucJ u set C j := fun j hj => hlv' j (by omega)
    refine p_run33 (u := uI u 18 g') hJ hs (sim_f hs1).1 (sim_f hs1).2 hO hSS hsub fun A hA => ?_
    refine p_qc33 (u := uJ (uI u 18 g') 4 A) (v := v) (lic := lic) hs1 hsub (fun p hp => ?_) fun S hS => ?_
    · exact ⟨(hg' p (by omega)).trans (hlic p hp).1, (hlic p hp).2⟩
    · have hA' : ∀ p, p < P → ComAt J fr to kd (ucJ u set C) (u.2 1) (brX (u.2 0 s) (ucL u set C p) (u.2 3 p)) A p := fun p hp n hn => by
        have e18 : (uI u 18 g').1 18 p = ucL u set C p := by rw [uI_s]; exact hg' p (by omega)
        have := hA p (by omega) n hn
        rw [e18] at this
        rw [this]
        constructor
        · rintro (q | ⟨j, hj, hl, hr⟩)
          · exact Or.inl q
          · exact Or.inr ⟨j, hj, by rw [← hLv j hj]; exact hl, hr⟩
        · rintro (q | ⟨j, hj, hl, hr⟩)
          · exact Or.inl q
          · exact Or.inr ⟨j, hj, by rw [hLv j hj]; exact hl, hr⟩
      have hiff := ends_iff (A := A) (S := S) hs1 hlic hA' fun h0 => (hS h0).cong hLv
      have hle := qsum_le S (fun p => A p &&& u.2 2 (lic p)) hP
      have eq : qsum S (fun p => (uJ (uI u 18 g') 4 A).2 4 p &&& (uJ (uI u 18 g') 4 A).2 2 (lic p)) P = qsum S (fun p => A p &&& u.2 2 (lic p)) P := rfl
      rw [eq]
      generalize qsum S (fun p => A p &&& u.2 2 (lic p)) P = k at hiff hle
      refine ⟨fun hne => h g' A false ⟨fun z => absurd z (by decide), fun z => absurd (by rw [hiff.mpr z]; rfl) hne⟩, fun he => h g' A true ⟨fun _ => hiff.mp ((nI_eq (b := 0) (by omega) (by decide)).mp he), fun _ => rfl⟩⟩
theorem p_mends {P T J C s : Nat} {fr to kd ord pos sd bg en : Nat → Nat} {u v : WU} {set : Int32} {post : Int32 → WU → Prop} (hs1 : Sim1 P T J C fr to kd ord pos sd bg en u v) (hs : s < 4)
    (h : ∀ (v' : WU) (k : Nat), Sim1 P T J C fr to kd ord pos sd bg en u v' → k ≤ 1536 → (k = 0 ↔ EndsOK P T J C s fr to kd u set) → post (nI k) v') : wp_X9_quarrelsWith (nI s) set v post := by
  obtain ⟨hT, hPS, hJS, hO, hSS, hC⟩ := id hs1
  obtain ⟨hP, p1, p2, p3, p4, p5, p6, p7, p8, p9⟩ := id hPS
  obtain ⟨hJ, j1, j2, j3, j4, j5⟩ := id hJS
  obtain ⟨hC10, c1, c2, c3⟩ := id hC
  obtain ⟨lic, hlic⟩ := ucL_lic hs1 set
  have RK := rank_P pos P
  refine p_asItIs (cu := fun j => !tb (u.2 6 0) j) (a := u.1 2) hP hJ p3 j2 (fun j hj => by rw [j4 j (by omega)]; simp [hj]) (fun p hp => ?_) fun g hh hg hhh => ?_
  · obtain ⟨r1, m, t, m1, m3, htm, r2, r3, r4, r5, r6⟩ := p7 p hp
    exact ⟨t, by omega, r3, r4⟩
  · refine loop_0 (W := fun m i st => wp_X9_quarrelsWith_L6 (nI s) set post m (nI i) st) (I := fun i st => ∃ g hh, st = w45 v g hh ∧ (∀ j, j < J → g j = b01 (!ucJ u set i j)) ∧ (∀ p, p < P → hh p = ucL u set i p)) C _ ⟨g, hh, rfl, hg, hhh⟩ ?_ ?_
    · rintro m st ⟨g, hh, rfl, hg, hhh⟩
      refine ⟨fun _ => ?_, fun hc => absurd (by show v.1 24 0 ≤ nI C; rw [c2]; exact Int32.le_refl _) hc⟩
      refine p_mflow (w := w45 v g hh) (T := T) (fr := fr) (to := to) (kd := kd) (bm := fun p => brX (u.2 0 s) (ucL u set C p) (u.2 3 p)) (rk := fun x => fb_ct (fun z => decide (pos z < pos x)) P) (Lv := ucJ u set C) hP (by omega) hJ hs p3 p5 j2 (fun j hj => ?_) hg (fun j hj hl => RK.1 _ _ ?_ (hO.2.2 j hj (chJ_sub C hl))) RK.2 (fun p hp => ?_) fun gg m' lev od f R c ho hR hc => ?_
      · obtain ⟨q1, q2, q3, q4, q5, q6, q7, q8, q9⟩ := j3 j hj
        exact ⟨q4, q5, q6, q7, q8, q9⟩
      · obtain ⟨q1, q2, q3, q4, q5, q6, q7, q8, q9⟩ := j3 j hj
        exact q7
      · refine ⟨lic p, (hlic p hp).2, (hhh p hp).trans (hlic p hp).1, ?_⟩
        show brX (u.2 0 s) (ucL u set C p) (u.2 3 p) = _
        rw [(hlic p hp).1]
        exact (br_eq hT hPS hs (hlic p hp).2 (by omega)).symm
      · refine p_qnow (u := u) (w := wfl (w45 v g hh) gg f m' R c) (lic := lic) hT hP p3 (fun p hp => ⟨(hhh p hp).trans (hlic p hp).1, (hlic p hp).2⟩) ?_
        have eq : qsum (Sof ((wfl (w45 v g hh) gg f m' R c).1 13)) (fun p => (wfl (w45 v g hh) gg f m' R c).2 2 p &&& u.2 2 (lic p)) P = qsum (Sof R) (fun p => c p &&& u.2 2 (lic p)) P := rfl
        rw [eq]
        refine h _ _ hs1 (qsum_le _ _ hP) (ends_iff hs1 hlic (fun p hp => com_al (fun j hj => ?_) (fun k hk => (hT.1.2.2.1 k hk).symm) (hc p hp)) fun _ => hR)
        obtain ⟨q1, q2, q3, q4, q5, q6, q7, q8, q9⟩ := j3 j hj
        exact q9
    · rintro m i st hi ⟨g, hh, rfl, hg, hhh⟩ ih
      obtain ⟨d1, d2, d3, d4, d5, d6⟩ := c3 i hi
      have hci : (nI i).toNatClampNeg = i := nI_clamp (by omega)
      have hin : vp_in (nI i) 10 := vp_in_nI (by omega) (by decide)
      have e9 : (w45 v g hh).1 9 (nI i).toNatClampNeg = u.1 10 i := by rw [hci, d1]; rfl
      have e10 : (w45 v g hh).1 10 (nI i).toNatClampNeg = u.1 11 i := by rw [hci, d2]; rfl
      have e11 : (w45 v g hh).1 11 (nI i).toNatClampNeg = u.1 12 i := by rw [hci, d3]; rfl
      refine ⟨fun hc => absurd (show nI C ≤ nI i by rw [← c2]; exact hc) (nI_ge (a := i) (b := C) hi (by omega)), fun _ => ?_⟩
      rw [ix_0 _ (by omega), e9, e10, e11]
      refine ⟨fun hb => ⟨hin, ?_⟩, fun hb z hz => ?_⟩
      · have hb : ti set i = true := by
          cases hx : ti set i with
          | true => rfl
          | false => exact absurd hx hb
        refine ⟨fun hne => ⟨hin, ?_⟩, fun he => ⟨hin, hin, ?_⟩⟩
        · obtain ⟨w, w1, w2⟩ : ∃ w : Nat, u.1 11 i = nI w ∧ w < J := by
            rcases d5 with ⟨z0, _⟩ | ⟨z0, w, z1, z2⟩
            · exact absurd (d1.trans z0) hne
            · exact ⟨w, d2.trans z1, z2⟩
          rw [w1]
          refine ⟨vp_in_nI (by omega) (by decide), fun u5 hu5 z hz => ?_⟩
          rw [nI_clamp (n := w) (by omega), nar_1, w45_14] at hu5
          have e14 : (w45 v g hh).1 14 = g := rfl
          rw [e14] at hu5
          rw [hz, nI_1]
          refine ih u5 ⟨_, hh, hu5, fun j hj => ?_, fun p hp => ?_⟩
          · unfold ucJ
            rw [chJ_step]
            by_cases ej : j = w
            · rw [ej, pk_us, if_pos ⟨hb, hne, w1⟩]; rfl
            · rw [pk_un ej, hg j hj, if_neg (fun z => ej ((nI_eq (by omega) (by omega)).mp (z.2.2.symm.trans w1)))]; rfl
          · rw [hhh p hp]; unfold ucL; rw [chL_step, if_neg (fun z => hne z.2.1)]
        · obtain ⟨w, w1, w2⟩ : ∃ w : Nat, u.1 11 i = nI w ∧ w < P := by
            rcases d5 with ⟨z0, w, g0, z1, z2, z3, z4⟩ | ⟨z0, _⟩
            · exact ⟨w, d2.trans z1, z2⟩
            · rw [d1, z0] at he; exact absurd he (by decide)
          rw [w1]
          refine ⟨vp_in_nI (by omega) (by decide), fun u8 hu8 z hz => ?_⟩
          rw [nI_clamp (n := w) (by omega), w45_15] at hu8
          have e15 : (w45 v g hh).1 15 = hh := rfl
          rw [e15] at hu8
          rw [hz, nI_1]
          refine ih u8 ⟨g, _, hu8, fun j hj => ?_, fun p hp => ?_⟩
          · rw [hg j hj]; unfold ucJ; rw [chJ_step, if_neg (fun z => z.2.1 he)]
          · unfold ucL
            rw [chL_step]
            by_cases ep : p = w
            · rw [ep, pk_us, if_pos ⟨hb, he, w1⟩]
            · rw [pk_un ep, hhh p hp, if_neg (fun z => ep ((nI_eq (by omega) (by omega)).mp (z.2.2.symm.trans w1)))]; rfl
      · rw [hz, nI_1]
        refine ih _ ⟨g, hh, rfl, fun j hj => ?_, fun p hp => ?_⟩
        · rw [hg j hj]; unfold ucJ; rw [chJ_step, if_neg (fun z => by rw [hb] at z; exact absurd z.1 (by decide))]
        · rw [hhh p hp]; unfold ucL; rw [chL_step, if_neg (fun z => by rw [hb] at z; exact absurd z.1 (by decide))]
