/-! ===== the fewest joins to a part ===== -/
/-- f: the fewest joins of L from a part to t; 100: none lead there -/
def Dst (J : Nat) (fr to : Nat → Nat) (L : Nat → Bool) (t : Nat) (f : Nat → Nat) : Prop := f t = 0 ∧ (∀ p, p < 24 → f p ≤ 100) ∧ (∀ j, j < J → L j = true → f (to j) < 100 → f (fr j) ≤ f (to j) + 1) ∧ (∀ p, p < 24 → p ≠ t → f p < 100 → ∃ j, j < J ∧ L j = true ∧ fr j = p ∧ f (to j) + 1 = f p)
theorem dst_le {J t : Nat} {fr to pos : Nat → Nat} {L : Nat → Bool} {f g : Nat → Nat} (hpos : ∀ j, j < J → L j = true → pos (fr j) < pos (to j)) (h24 : ∀ p, p < 24 → pos p < 24) (hto : ∀ j, j < J → to j < 24) (hf : Dst J fr to L t f) (hg : Dst J fr to L t g) : ∀ m p, p < 24 → 24 ≤ pos p + m → f p = g p := by
  have one : ∀ {f g : Nat → Nat}, Dst J fr to L t f → Dst J fr to L t g → ∀ m, (∀ p, p < 24 → 24 ≤ pos p + m → f p = g p) → ∀ p, p < 24 → 24 ≤ pos p + (m + 1) → g p ≤ f p := by
    intro f g hf hg m ih p hp hm
    by_cases e : p = t
    · rw [e, hg.1]; omega
    · rcases Nat.lt_or_ge (f p) 100 with z | z
      · obtain ⟨j, hj, hl, ej, ef⟩ := hf.2.2.2 p hp e z
        have hlt := hpos j hj hl
        rw [ej] at hlt
        have eq := ih (to j) (hto j hj) (by omega)
        have := hg.2.2.1 j hj hl (by omega)
        rw [ej] at this
        omega
      · have := hg.2.1 p hp
        omega
  intro m
  induction m with
  | zero => intro p hp h; have := h24 p hp; omega
  | succ m ih =>
    intro p hp h
    exact Nat.le_antisymm (one hg hf m (fun p hp h => (ih p hp h).symm) p hp h) (one hf hg m ih p hp h)
theorem dst_one {J t : Nat} {fr to pos : Nat → Nat} {L : Nat → Bool} {f g : Nat → Nat} (hpos : ∀ j, j < J → L j = true → pos (fr j) < pos (to j)) (h24 : ∀ p, p < 24 → pos p < 24) (hto : ∀ j, j < J → to j < 24) (hf : Dst J fr to L t f) (hg : Dst J fr to L t g) {p : Nat} (hp : p < 24) : f p = g p := dst_le hpos h24 hto hf hg 24 p hp (by omega)
def encD (f : Nat → Nat) (p : Nat) : Int32 := if f p = 100 then -1 else nI (f p)
theorem nIm1 {n : Nat} (h : n < 2 ^ 31) : nI n ≠ -1 := fun e => absurd (by rw [e]; decide) (nI_pos h)
theorem encD_m1 {f : Nat → Nat} {p : Nat} (h : f p ≤ 100) : encD f p = -1 ↔ f p = 100 := by
  unfold encD
  constructor
  · intro e
    by_cases z : f p = 100
    · exact z
    · rw [if_neg z] at e; exact absurd e (nIm1 (by omega))
  · intro e; rw [if_pos e]
theorem encD_n {f : Nat → Nat} {p : Nat} (h : f p ≠ 100) : encD f p = nI (f p) := if_neg h
theorem encD_put {f : Nat → Nat} {st : Nat → Int32} {x k : Nat} (hk : k < 100) (h : ∀ p, p < 24 → st p = encD f p) : ∀ p, p < 24 → upd st x (nI k) p = encD (putN f x k) p := by
  intro p hp
  by_cases e : p = x
  · subst e
    rw [pk_us, encD_n (by rw [putN_s]; omega), putN_s]
  · rw [pk_un e, h p hp]
    unfold encD
    rw [putN_n e]
theorem p_goes {J n j : Nat} {kd : Nat → Nat} {u : WU} {post : Int32 → Prop} (hJ : J ≤ 40) (hn : n < 64) (hj : j < J) (hk : u.1 5 j = nI (kd j) ∧ kd j < 4) (h : post (b01 (tb (u.2 1 (kd j)) n))) : wp_X7_goes (nI n) (nI j) u post := by
  have hcj : (nI j).toNatClampNeg = j := nI_clamp (by omega)
  unfold wp_X7_goes
  rw [hcj, hk.1, nI_clamp (n := kd j) (by omega)]
  exact ⟨vp_in_nI (by omega) (by decide), vp_in_nI hk.2 (by decide), h_holds _ hn ⟨b01_bl _, h⟩⟩
/-- behind the parts that stand from place b on -/
def Mes (J b : Nat) (fr to pos : Nat → Nat) (L : Nat → Bool) (t : Nat) (f : Nat → Nat) : Prop := f t = 0 ∧ (∀ p, p < 24 → f p ≤ 100 ∧ (f p < 100 → f p + pos p ≤ 23)) ∧ (∀ j, j < J → L j = true → b ≤ pos (to j) → f (to j) < 100 → f (fr j) ≤ f (to j) + 1) ∧ (∀ p, p < 24 → p ≠ t → f p < 100 → ∃ j, j < J ∧ L j = true ∧ fr j = p ∧ b ≤ pos (to j) ∧ f (to j) + 1 = f p)
theorem p_minto {J n t U b : Nat} {fr to kd pos sd bg en f : Nat → Nat} {u : WU} {st : Nat → Int32} {post : WU → Prop} (hJ : J ≤ 40) (hn : n < 64) (hU : U < 24) (hpU : pos U = b) (hf : ∀ j, j < J → u.1 3 j = nI (fr j) ∧ u.1 5 j = nI (kd j) ∧ fr j < 24 ∧ kd j < 4) (hto : ∀ j, j < J → to j < 24) (hS : SS J to sd bg en u) (hpos : ∀ j, j < J → tb (u.2 6 0) j = true → pos (fr j) < pos (to j)) (hinj : ∀ z, z < 24 → pos z = b → z = U)
    (hst : ∀ p, p < 24 → st p = encD f p) (hM : Mes J (b + 1) fr to pos (fun j => tb (u.2 6 0) j && tb (u.2 1 (kd j)) n) t f) (hfU : f U < 100)
    (h : ∀ (st' : Nat → Int32) (f' : Nat → Nat), (∀ p, p < 24 → st' p = encD f' p) → Mes J b fr to pos (fun j => tb (u.2 6 0) j && tb (u.2 1 (kd j)) n) t f' → post (uI u 19 st')) : wp_X7_measureInto (nI n) (nI U) (uI u 19 st) post := by
  obtain ⟨s1, s2, s3, s4, s5, s6, s7⟩ := hS U hU
  have hcu : (nI U).toNatClampNeg = U := nI_clamp (by omega)
  have hinu : vp_in (nI U) 24 := vp_in_nI hU (by decide)
  refine ⟨hinu, fun y16 hy16 => ⟨hinu, fun y17 hy17 => ?_⟩⟩
  have hy16 : y16 = nI (f U + 1) := by
    rw [hy16, hcu, uI_s, hst U hU, encD_n (by omega), nI_1]
  have hy17 : y17 = nI (bg U) := by rw [hy17, hcu]; exact s1
  subst hy16; subst hy17
  have hbU : f U + b ≤ 23 := by have := (hM.2.1 U hU).2 hfU; omega
  refine pk_loop (W := fun m i s => wp_X7_measureInto_L20 (nI n) (nI U) (nI (f U + 1)) post m (nI i) s) (I := fun i s => bg U ≤ i ∧ ∃ g f', s = uI u 19 g ∧ (∀ p, p < 24 → g p = encD f' p) ∧ f' t = 0 ∧ f' U = f U ∧ (∀ p, p < 24 → f' p ≤ 100 ∧ (f' p < 100 → f' p + pos p ≤ 23)) ∧ (∀ j, j < J → (tb (u.2 6 0) j && tb (u.2 1 (kd j)) n) = true → b + 1 ≤ pos (to j) → f' (to j) < 100 → f' (fr j) ≤ f' (to j) + 1) ∧ (∀ k, bg U ≤ k → k < i → tb (u.2 1 (kd (sd k))) n = true → f' (fr (sd k)) ≤ f U + 1) ∧ (∀ p, p < 24 → p ≠ t → f' p < 100 → ∃ j, j < J ∧ (tb (u.2 6 0) j && tb (u.2 1 (kd j)) n) = true ∧ fr j = p ∧ b ≤ pos (to j) ∧ f' (to j) + 1 = f' p)) (en U) (bg U) (uI u 19 st) s3 ⟨Nat.le_refl _, st, f, rfl, hst, hM.1, rfl, hM.2.1, hM.2.2.1, fun k h1 h2 => by omega, fun p hp hpt hlt => ?_⟩ ?_ ?_
  · obtain ⟨j, a1, a2, a3, a4, a5⟩ := hM.2.2.2 p hp hpt hlt
    exact ⟨j, a1, a2, a3, by omega, a5⟩
  · rintro m s ⟨-, g, f', rfl, i1, i2, i3, i4, i5, i6, i7⟩
    refine ⟨hinu, fun _ => h g f' i1 ⟨i2, i4, fun j hj hl hb hlt => ?_, i7⟩, fun hc => absurd (by show u.1 9 _ ≤ _; rw [hcu, s2]; exact Int32.le_refl _) hc⟩
    by_cases e : pos (to j) = b
    · have eU := hinj _ (hto j hj) e
      have hl2 : tb (u.2 6 0) j = true ∧ tb (u.2 1 (kd j)) n = true := by simpa using hl
      obtain ⟨i, q1, q2, q3⟩ := s7 j hj hl2.1 eU
      have := i6 i q1 q2 (by rw [q3]; exact hl2.2)
      rw [q3] at this
      rw [eU, i3]; exact this
    · exact i5 j hj hl (by omega) hlt
  · rintro m i s hi ⟨hbi, g, f', rfl, i1, i2, i3, i4, i5, i6, i7⟩ ih
    obtain ⟨a1, a2, a3, a4⟩ := s6 i hbi hi
    have hci : (nI i).toNatClampNeg = i := nI_clamp (by omega)
    have hcs : (nI (sd i)).toNatClampNeg = sd i := nI_clamp (by omega)
    obtain ⟨f1, f2, f3, f4⟩ := hf (sd i) a2
    refine ⟨hinu, fun hc => absurd (show nI (en U) ≤ nI i by rw [hcu] at hc; rw [← s2]; exact hc) (nI_ge (a := i) (b := en U) hi (by omega)), fun _ => ⟨vp_in_nI (by omega) (by decide), fun y1 hy1 => ?_⟩⟩
    have hy1 : y1 = nI (sd i) := by rw [hy1, hci]; exact a1
    subst hy1
    refine ⟨vp_in_nI (by omega) (by decide), fun y2 hy2 => ?_⟩
    have hy2 : y2 = nI (fr (sd i)) := by rw [hy2, hcs]; exact f1
    subst hy2
    have hcf : (nI (fr (sd i))).toNatClampNeg = fr (sd i) := nI_clamp (by omega)
    have hinf : vp_in (nI (fr (sd i))) 24 := vp_in_nI f3 (by decide)
    have e19 : (uI u 19 g).1 19 (nI (fr (sd i))).toNatClampNeg = encD f' (fr (sd i)) := by rw [hcf, uI_s]; exact i1 _ f3
    have hpl := hpos (sd i) a2 a3
    rw [a4, hpU] at hpl
    have hskip : (tb (u.2 1 (kd (sd i))) n = true → f' (fr (sd i)) ≤ f U + 1) → ∀ y : Int32, y = nI i + 1 → wp_X7_measureInto_L20 (nI n) (nI U) (nI (f U + 1)) post m y (uI u 19 g) := by
      intro hh y hy
      rw [hy, nI_1]
      refine ih _ ⟨by omega, g, f', rfl, i1, i2, i3, i4, i5, fun k h1 h2 hg => ?_, i7⟩
      by_cases e : k = i
      · subst e; exact hh hg
      · exact i6 k h1 (by omega) hg
    have hset : tb (u.2 1 (kd (sd i))) n = true → f U + 1 < f' (fr (sd i)) → wp_X7_measureInto_J90 (nI n) (nI U) (nI (f U + 1)) (nI i) (nI (fr (sd i))) (uI u 19 g) post (fun (y6 : Int32) (u7 : WU) => wp_X7_measureInto_L20 (nI n) (nI U) (nI (f U + 1)) post m y6 u7) := by
      intro hg hlt
      refine ⟨hinf, fun u12 hu12 y hy => ?_⟩
      rw [hcf, uI_s, uI_uI] at hu12
      rw [hy, nI_1]
      have hxt : fr (sd i) ≠ t := fun z => by rw [z, i2] at hlt; omega
      have hnp : ∀ z, b ≤ pos z → z ≠ fr (sd i) := fun z hz e => by rw [e] at hz; omega
      have hle : ∀ z, putN f' (fr (sd i)) (f U + 1) z ≤ f' z := fun z => by
        by_cases e : z = fr (sd i)
        · rw [e, putN_s]; omega
        · rw [putN_n e]; exact Nat.le_refl _
      refine ih u12 ⟨by omega, _, putN f' (fr (sd i)) (f U + 1), hu12, encD_put (by omega) i1, ?_, ?_, fun p hp => ?_, fun j hj hl hb hlt2 => ?_, fun k h1 h2 hgk => ?_, fun p hp hpt hlt2 => ?_⟩
      · rw [putN_n (fun z => hxt z.symm)]; exact i2
      · rw [putN_n (hnp U (by omega))]; exact i3
      · by_cases e : p = fr (sd i)
        · rw [e, putN_s]; exact ⟨by omega, fun _ => by omega⟩
        · rw [putN_n e]; exact i4 p hp
      · have hnt := hnp (to j) (by omega)
        rw [putN_n hnt] at hlt2 ⊢
        exact Nat.le_trans (hle _) (i5 j hj hl hb hlt2)
      · by_cases e : k = i
        · rw [e, putN_s]; exact Nat.le_refl _
        · exact Nat.le_trans (hle _) (i6 k h1 (by omega) hgk)
      · by_cases e : p = fr (sd i)
        · refine ⟨sd i, a2, by rw [a3, hg]; rfl, e.symm, by rw [a4, hpU]; exact Nat.le_refl _, ?_⟩
          rw [e, putN_s, a4, putN_n (hnp U (by omega)), i3]
        · rw [putN_n e] at hlt2 ⊢
          obtain ⟨j, b1, b2, b3, b4, b5⟩ := i7 p hp hpt hlt2
          exact ⟨j, b1, b2, b3, b4, by rw [putN_n (hnp _ b4)]; exact b5⟩
    refine p_goes (u := uI u 19 g) hJ hn a2 ⟨f2, f4⟩ ?_
    have e1 : (uI u 19 g).2 1 = u.2 1 := rfl
    rw [e1]
    cases hg : tb (u.2 1 (kd (sd i))) n with
    | false => exact br0 (hskip fun z => by rw [hg] at z; exact absurd z (by decide))
    | true =>
      refine br1 ⟨hinf, ?_⟩
      rw [e19]
      have h100 := (i4 _ f3).1
      refine ⟨fun hc => hset hg (by rw [(encD_m1 h100).mp hc]; omega), fun hc => ⟨hinf, ?_⟩⟩
      have hne : f' (fr (sd i)) ≠ 100 := fun z => hc ((encD_m1 h100).mpr z)
      rw [encD_n hne]
      refine ⟨fun hle => hskip fun _ => (nI_leI (by omega) (by omega)).mp hle, fun hnle => hset hg ?_⟩
      rcases Nat.lt_or_ge (f U + 1) (f' (fr (sd i))) with z | z
      · exact z
      · exact absurd (nI_le z (by omega)) hnle
theorem p_measure {J n t : Nat} {fr to kd ord pos sd bg en : Nat → Nat} {u : WU} {post : WU → Prop} (hJ : J ≤ 40) (hn : n < 64) (ht : t < 24) (hf : ∀ j, j < J → u.1 3 j = nI (fr j) ∧ u.1 5 j = nI (kd j) ∧ fr j < 24 ∧ kd j < 4) (hto : ∀ j, j < J → to j < 24) (hO : OS J fr to ord pos u) (hS : SS J to sd bg en u)
    (h : ∀ (st : Nat → Int32) (f : Nat → Nat), (∀ p, p < 24 → st p = encD f p) → Dst J fr to (fun j => tb (u.2 6 0) j && tb (u.2 1 (kd j)) n) t f → post (uI u 19 st)) : wp_X7_measure (nI n) (nI t) u post := by
  obtain ⟨o1, o2, o3⟩ := id hO
  unfold wp_X7_measure
  refine loop_0 (W := fun m i s => wp_X7_measure_L2 (nI n) (nI t) post _ m (nI i) s) (I := fun i s => ∃ g, s = uI u 19 g ∧ ∀ z, z < i → g z = -1) 24 u ⟨u.1 19, (uI_self u 19).symm, fun z hz => absurd hz (Nat.not_lt_zero _)⟩ ?_ ?_
  · rintro m s ⟨g, rfl, hg⟩
    refine ⟨fun _ => ⟨vp_in_nI ht (by decide), fun u11 hu11 => ?_⟩, fun hc => absurd (by decide : (24 : Int32) ≤ nI 24) hc⟩
    rw [nI_clamp (n := t) (by omega), uI_s, uI_uI] at hu11
    subst hu11
    have hinit : ∀ p, p < 24 → upd g t 0 p = encD (fun z => if z = t then 0 else 100) p := by
      intro p hp
      unfold encD
      by_cases e : p = t
      · subst e; rw [pk_us]; simp
        rfl
      · rw [pk_un e, hg p hp]; simp [e]
    refine loop_0 (W := fun m i s => wp_X7_measure_L31 (nI n) post m (nI (24 - i) - 1) s) (I := fun i s => ∃ st f, s = uI u 19 st ∧ (∀ p, p < 24 → st p = encD f p) ∧ Mes J (24 - i) fr to pos (fun j => tb (u.2 6 0) j && tb (u.2 1 (kd j)) n) t f) 24 _ ⟨_, _, rfl, hinit, by simp, fun p hp => ?_, fun j hj _ hb _ => ?_, fun p hp hpt hlt => ?_⟩ ?_ ?_
    · have := (o2 p hp).1
      dsimp only
      split <;> omega
    · have := (o2 _ (hto j hj)).1; omega
    · dsimp only at hlt
      rw [if_neg hpt] at hlt; omega
    · rintro m s ⟨st, f, rfl, i1, i2⟩
      exact ⟨fun _ => h st f i1 ⟨i2.1, fun p hp => (i2.2.1 p hp).1, fun j hj hl hlt => i2.2.2.1 j hj hl (by omega) hlt, fun p hp hpt hlt => by obtain ⟨j, a1, a2, a3, a4, a5⟩ := i2.2.2.2 p hp hpt hlt; exact ⟨j, a1, a2, a3, a5⟩⟩, fun hc => absurd (by decide : (nI (24 - 24) - 1 : Int32) < 0) hc⟩
    · rintro m i s hi ⟨st, f, rfl, i1, i2⟩ ih
      have ex : nI (24 - i) - 1 = nI (23 - i) := by rw [nI_m1 (by omega)]; congr 1; omega
      have ex2 : nI (23 - i) + (-1) = nI (24 - (i + 1)) - 1 := by rw [sub_m1, show 24 - (i + 1) = 23 - i by omega]
      rw [ex]
      have hck : (nI (23 - i)).toNatClampNeg = 23 - i := nI_clamp (by omega)
      obtain ⟨k1, k2, k3⟩ := o1 (23 - i) (by omega)
      have huniq : ∀ z, z < 24 → pos z = 23 - i → z = ord (23 - i) := fun z hz hpz => by rw [← hpz]; exact ((o2 z hz).2).symm
      refine ⟨fun hc => absurd hc (nI_pos (by omega)), fun _ => ⟨vp_in_nI (by omega) (by decide), fun y3 hy3 => ?_⟩⟩
      have hy3 : y3 = nI (ord (23 - i)) := by rw [hy3, hck]; exact k1
      subst hy3
      have hcU : (nI (ord (23 - i))).toNatClampNeg = ord (23 - i) := nI_clamp (by omega)
      have e19 : (uI u 19 st).1 19 (nI (ord (23 - i))).toNatClampNeg = encD f (ord (23 - i)) := by rw [hcU, uI_s]; exact i1 _ k2
      have h100 := (i2.2.1 _ k2).1
      refine ⟨vp_in_nI k2 (by decide), ?_⟩
      rw [e19]
      refine ⟨fun hc y hy => ?_, fun hc => ?_⟩
      · rw [hy, ex2]
        have hU := (encD_m1 h100).mp hc
        refine ih _ ⟨st, f, rfl, i1, i2.1, i2.2.1, fun j hj hl hb hlt => ?_, fun p hp hpt hlt => ?_⟩
        · by_cases e : pos (to j) = 23 - i
          · rw [huniq _ (hto j hj) e] at hlt; omega
          · exact i2.2.2.1 j hj hl (by omega) hlt
        · obtain ⟨j, a1, a2, a3, a4, a5⟩ := i2.2.2.2 p hp hpt hlt
          exact ⟨j, a1, a2, a3, by omega, a5⟩
      · have hU : f (ord (23 - i)) < 100 := by
          have : f (ord (23 - i)) ≠ 100 := fun z => hc ((encD_m1 h100).mpr z)
          omega
        have i2' : Mes J (23 - i + 1) fr to pos (fun j => tb (u.2 6 0) j && tb (u.2 1 (kd j)) n) t f := by rw [show 23 - i + 1 = 24 - i by omega]; exact i2
        refine p_minto hJ hn k2 k3 hf hto hS o3 huniq i1 i2' hU fun st' f' q1 q2 => fun y hy => ?_
        rw [hy, ex2]
        exact ih _ ⟨st', f', rfl, q1, by rw [show 24 - (i + 1) = 23 - i by omega]; exact q2⟩
  · rintro m i s hi ⟨g, rfl, hg⟩ ih
    have hci : (nI i).toNatClampNeg = i := nI_clamp (by omega)
    refine ⟨fun hc => absurd hc (nI_ge (a := i) (b := 24) hi (by decide)), fun _ => ⟨vp_in_nI hi (by decide), fun u1 hu1 y hy => ?_⟩⟩
    rw [hci, uI_s, uI_uI] at hu1
    rw [hy, nI_1]
    refine ih u1 ⟨_, hu1, fun z hz => ?_⟩
    by_cases e : z = i
    · subst e; rw [pk_us]
    · rw [pk_un e]; exact hg z (by omega)
