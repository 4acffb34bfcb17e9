/-! ===== way ===== -/
def srcF (f : Nat → Nat) (b : Nat → Bool) : Nat → Nat
  | 0 => 24
  | p + 1 => if b p = true ∧ f p < 100 ∧ (srcF f b p = 24 ∨ f p < f (srcF f b p)) then p else srcF f b p
theorem srcF_in (f : Nat → Nat) (b : Nat → Bool) : ∀ n, n ≤ 24 → srcF f b n = 24 ∨ (srcF f b n < n ∧ b (srcF f b n) = true ∧ f (srcF f b n) < 100)
  | 0, _ => Or.inl rfl
  | n + 1, h => by
    show (if b n = true ∧ f n < 100 ∧ (srcF f b n = 24 ∨ f n < f (srcF f b n)) then n else srcF f b n) = 24 ∨ _
    have e : srcF f b (n + 1) = if b n = true ∧ f n < 100 ∧ (srcF f b n = 24 ∨ f n < f (srcF f b n)) then n else srcF f b n := rfl
    rw [e]
    by_cases c : b n = true ∧ f n < 100 ∧ (srcF f b n = 24 ∨ f n < f (srcF f b n))
    · rw [if_pos c]; exact Or.inr ⟨by omega, c.1, c.2.1⟩
    · rw [if_neg c]
      rcases srcF_in f b n (by omega) with z | ⟨z1, z2⟩
      · exact Or.inl z
      · exact Or.inr ⟨by omega, z2⟩
theorem srcF_cong {f g : Nat → Nat} {b : Nat → Bool} (h : ∀ p, p < 24 → f p = g p) : ∀ n, n ≤ 24 → srcF f b n = srcF g b n
  | 0, _ => rfl
  | n + 1, hn => by
    have ih := srcF_cong (b := b) h n (by omega)
    have e1 : srcF f b (n + 1) = if b n = true ∧ f n < 100 ∧ (srcF f b n = 24 ∨ f n < f (srcF f b n)) then n else srcF f b n := rfl
    have e2 : srcF g b (n + 1) = if b n = true ∧ g n < 100 ∧ (srcF g b n = 24 ∨ g n < g (srcF g b n)) then n else srcF g b n := rfl
    rw [e1, e2, ← ih, h n (by omega)]
    rcases srcF_in f b n (by omega) with z | ⟨z1, z2⟩
    · rw [z]; simp
    · rw [h (srcF f b n) (by omega)]
def enc24 (a : Nat) : Int32 := if a = 24 then -1 else nI a
theorem enc24_m1 {a : Nat} (h : a ≤ 24) : enc24 a = -1 ↔ a = 24 := by
  unfold enc24
  constructor
  · intro e
    by_cases z : a = 24
    · exact z
    · rw [if_neg z] at e; exact absurd e (nIm1 (by omega))
  · intro e; rw [if_pos e]
theorem enc24_n {a : Nat} (h : a ≠ 24) : enc24 a = nI a := if_neg h
/-- the next part on the way -/
def nxF (fr to : Nat → Nat) (L : Nat → Bool) (f : Nat → Nat) (a : Nat) : Nat → Nat
  | 0 => 24
  | j + 1 => if L j = true ∧ fr j = a ∧ f (to j) + 1 = f a ∧ to j < nxF fr to L f a j then to j else nxF fr to L f a j
theorem nxF_step (fr to : Nat → Nat) (L : Nat → Bool) (f : Nat → Nat) (a j : Nat) : nxF fr to L f a (j + 1) = if L j = true ∧ fr j = a ∧ f (to j) + 1 = f a ∧ to j < nxF fr to L f a j then to j else nxF fr to L f a j := rfl
theorem nxF_in {fr to : Nat → Nat} {L : Nat → Bool} {f : Nat → Nat} {a : Nat} : ∀ {n : Nat}, (nxF fr to L f a n = 24 ∧ ∀ j, j < n → L j = true → fr j = a → f (to j) + 1 = f a → 24 ≤ to j) ∨ (nxF fr to L f a n < 24 ∧ f (nxF fr to L f a n) + 1 = f a)
  | 0 => Or.inl ⟨rfl, fun j hj => absurd hj (Nat.not_lt_zero _)⟩
  | n + 1 => by
    rw [nxF_step]
    rcases nxF_in (fr := fr) (to := to) (L := L) (f := f) (a := a) (n := n) with ⟨z1, z2⟩ | ⟨z1, z2⟩
    · by_cases c : L n = true ∧ fr n = a ∧ f (to n) + 1 = f a ∧ to n < nxF fr to L f a n
      · rw [if_pos c]; exact Or.inr ⟨by have := c.2.2.2; omega, c.2.2.1⟩
      · rw [if_neg c]
        refine Or.inl ⟨z1, fun j hj hl h1 h2 => ?_⟩
        by_cases e : j = n
        · subst e
          rcases Nat.lt_or_ge (to j) 24 with y | y
          · exact absurd ⟨hl, h1, h2, by omega⟩ c
          · exact y
        · exact z2 j (by omega) hl h1 h2
    · by_cases c : L n = true ∧ fr n = a ∧ f (to n) + 1 = f a ∧ to n < nxF fr to L f a n
      · rw [if_pos c]; exact Or.inr ⟨by have := c.2.2.2; omega, c.2.2.1⟩
      · rw [if_neg c]; exact Or.inr ⟨z1, z2⟩
theorem nxF_cong {J : Nat} {fr to : Nat → Nat} {L M : Nat → Bool} {f g : Nat → Nat} {a : Nat} (ha : a < 24) (hto : ∀ j, j < J → to j < 24) (hL : ∀ j, j < J → L j = M j) (h : ∀ p, p < 24 → f p = g p) : ∀ n, n ≤ J → nxF fr to L f a n = nxF fr to M g a n
  | 0, _ => rfl
  | n + 1, hn => by
    rw [nxF_step, nxF_step, nxF_cong ha hto hL h n (by omega), hL n (by omega), h a ha, h (to n) (hto n (by omega))]
def itF (J : Nat) (fr to : Nat → Nat) (L : Nat → Bool) (f : Nat → Nat) (a : Nat) : Nat → Nat
  | 0 => a
  | k + 1 => nxF fr to L f (itF J fr to L f a k) J
theorem itF_in {J t : Nat} {fr to : Nat → Nat} {L : Nat → Bool} {f : Nat → Nat} {a : Nat} (hto : ∀ j, j < J → to j < 24) (hD : Dst J fr to L t f) (ha : a < 24) (hf : f a < 100) : ∀ k, k ≤ f a → itF J fr to L f a k < 24 ∧ f (itF J fr to L f a k) + k = f a
  | 0, _ => ⟨ha, rfl⟩
  | k + 1, hk => by
    obtain ⟨h1, h2⟩ := itF_in hto hD ha hf k (by omega)
    have e : itF J fr to L f a (k + 1) = nxF fr to L f (itF J fr to L f a k) J := rfl
    rw [e]
    rcases nxF_in (fr := fr) (to := to) (L := L) (f := f) (a := itF J fr to L f a k) (n := J) with ⟨z1, z2⟩ | ⟨z1, z2⟩
    · exfalso
      obtain ⟨j, hj, hl, h3, h4⟩ := hD.2.2.2 (itF J fr to L f a k) h1 (fun z => by rw [z, hD.1] at h2; omega) (by omega)
      have := z2 j hj hl h3 h4
      have := hto j hj
      omega
    · exact ⟨z1, by omega⟩
theorem itF_cong {J : Nat} {fr to : Nat → Nat} {L M : Nat → Bool} {f g : Nat → Nat} {a t : Nat} (hto : ∀ j, j < J → to j < 24) (hL : ∀ j, j < J → L j = M j) (h : ∀ p, p < 24 → f p = g p) (hD : Dst J fr to L t f) (ha : a < 24) (hf : f a < 100) : ∀ k, k ≤ f a → itF J fr to L f a k = itF J fr to M g a k
  | 0, _ => rfl
  | k + 1, hk => by
    have ih := itF_cong hto hL h hD ha hf k (by omega)
    have e1 : itF J fr to L f a (k + 1) = nxF fr to L f (itF J fr to L f a k) J := rfl
    have e2 : itF J fr to M g a (k + 1) = nxF fr to M g (itF J fr to M g a k) J := rfl
    rw [e1, e2, ← ih]
    exact nxF_cong (itF_in hto hD ha hf k (by omega)).1 hto hL h J (Nat.le_refl _)
theorem p_source {P s n : Nat} {f : Nat → Nat} {u : WU} {post : Int32 → Prop} (hP : P ≤ 24) (hs : s < 4) (hn : n < 64) (eP : u.1 20 0 = nI P) (hst : ∀ p, p < 24 → u.1 19 p = encD f p) (hf : ∀ p, p < 24 → f p ≤ 100)
    (h : post (enc24 (srcF f (fun p => tb (brX (u.2 0 s) (u.1 2 p) (u.2 3 p)) n) P))) : wp_X7_source (nI s) (nI n) u post := by
  unfold wp_X7_source
  generalize hb : (fun p => tb (brX (u.2 0 s) (u.1 2 p) (u.2 3 p)) n) = b at h
  refine loop_0 (W := fun m i y => wp_X7_source_L5 (nI s) (nI n) u post m y (nI i)) (I := fun i y => y = enc24 (srcF f b i)) P (-1) rfl ?_ ?_
  · intro m y hy
    exact ⟨fun _ => by rw [hy]; exact h, fun hc => absurd (by rw [eP]; exact Int32.le_refl _) hc⟩
  · intro m i y hi hy ih
    have hci : (nI i).toNatClampNeg = i := nI_clamp (by omega)
    have hin : vp_in (nI i) 24 := vp_in_nI (by omega) (by decide)
    have e1 : srcF f b (i + 1) = if b i = true ∧ f i < 100 ∧ (srcF f b i = 24 ∨ f i < f (srcF f b i)) then i else srcF f b i := rfl
    have h100 := hf i (by omega)
    have hin2 := srcF_in f b i (by omega)
    have hskip : ¬ (b i = true ∧ f i < 100 ∧ (srcF f b i = 24 ∨ f i < f (srcF f b i))) → ∀ z : Int32, z = nI i + 1 → wp_X7_source_L5 (nI s) (nI n) u post m y z := by
      intro hh z hz
      rw [hz, nI_1]
      exact ih y (by rw [e1, if_neg hh]; exact hy)
    have htake : f i < 100 → (srcF f b i = 24 ∨ f i < f (srcF f b i)) → wp_X7_source_J49 (nI s) (nI n) y (nI i) u post (fun (y3 : Int32) (y4 : Int32) => wp_X7_source_L5 (nI s) (nI n) u post m y3 y4) := by
      intro h1 h2
      refine br1 (p_xbrings hs (by omega) hn ?_)
      have ebi : tb (brX (u.2 0 s) (u.1 2 i) (u.2 3 i)) n = b i := congrFun hb i
      rw [ebi]
      cases hbi : b i with
      | false => exact br0 (hskip fun z => by rw [hbi] at z; exact absurd z.1 (by decide))
      | true =>
        refine br1 fun z hz => ?_
        rw [hz, nI_1]
        refine ih _ ?_
        rw [e1, if_pos ⟨hbi, h1, h2⟩, enc24_n (by omega)]
    refine ⟨fun hc => absurd (by rw [eP] at hc; exact hc) (nI_ge (a := i) (b := P) hi (by omega)), fun _ => ⟨hin, ?_⟩⟩
    rw [hci, hst i (by omega)]
    refine ⟨fun hc => br0 (hskip fun z => ?_), fun hc => ?_⟩
    · have := (encD_m1 h100).mp hc; omega
    · have hlt : f i < 100 := by
        have : f i ≠ 100 := fun z => hc ((encD_m1 h100).mpr z)
        omega
      have h24 : srcF f b i ≤ 24 := by omega
      refine ⟨fun hm => htake hlt (Or.inl ((enc24_m1 h24).mp (hy.symm.trans hm))), fun hm => ⟨hin, ?_⟩⟩
      have hne : srcF f b i ≠ 24 := fun z => hm (by rw [hy]; exact (enc24_m1 h24).mpr z)
      have hs2 : f (srcF f b i) < 100 := by omega
      rw [hy, enc24_n hne, nI_clamp (n := srcF f b i) (by omega), hst _ (by omega), encD_n (p := srcF f b i) (by omega), encD_n (p := i) (by omega)]
      refine ⟨vp_in_nI (by omega) (by decide), fun hle => ?_, fun hnle => ?_⟩
      · have := (nI_leI (by omega) (by omega)).mp hle
        have := br0 (A := ∀ z : Int32, z = nI i + 1 → wp_X7_source_L5 (nI s) (nI n) u post m y z) (B := True) (hskip fun z => by omega)
        rw [hy, enc24_n hne] at this
        exact br0 (this.1 rfl)
      · have := htake hlt (Or.inr (by
          rcases Nat.lt_or_ge (f i) (f (srcF f b i)) with z | z
          · exact z
          · exact absurd (nI_le z (by omega)) hnle))
        rw [hy, enc24_n hne] at this
        exact this
theorem p_next {P T J C n a : Nat} {fr to kd ord pos sd bg en f : Nat → Nat} {u v : WU} {post : Int32 → Prop} (hs1 : Sim1 P T J C fr to kd ord pos sd bg en u v) (hn : n < 64) (ha : a < 24) (hst : ∀ p, p < 24 → u.1 19 p = encD f p) (hf : ∀ p, p < 24 → f p ≤ 100) (hfa : f a < 100) (hfa0 : 0 < f a)
    (h : post (enc24 (nxF fr to (fun j => tb (u.2 6 0) j && tb (u.2 1 (kd j)) n) f a J))) : wp_X7_next (nI n) (nI a) u post := by
  obtain ⟨hT, hPS, hJS, hO, hSS, hC⟩ := id hs1
  have hP := hPS.1
  obtain ⟨hJ, j1, j2, j3, j4, j5⟩ := id hJS
  unfold wp_X7_next
  refine loop_0 (W := fun m i y => wp_X7_next_L5 (nI n) (nI a) u post m y (nI i)) (I := fun i y => y = enc24 (nxF fr to (fun j => tb (u.2 6 0) j && tb (u.2 1 (kd j)) n) f a i)) J (-1) rfl ?_ ?_
  · intro m y hy
    exact ⟨fun _ => by rw [hy]; exact h, fun hc => absurd (by rw [j1]; exact Int32.le_refl _) hc⟩
  · intro m i y hi hy ih
    obtain ⟨q1, q2, q3, q4, q5, q6, q7, q8, q9⟩ := j3 i hi
    have hci : (nI i).toNatClampNeg = i := nI_clamp (by omega)
    have hin : vp_in (nI i) 40 := vp_in_nI (by omega) (by decide)
    have hct : (nI (to i)).toNatClampNeg = to i := nI_clamp (by omega)
    have hca : (nI a).toNatClampNeg = a := nI_clamp (by omega)
    have hnx := nxF_in (fr := fr) (to := to) (L := fun j => tb (u.2 6 0) j && tb (u.2 1 (kd j)) n) (f := f) (a := a) (n := i)
    have h24 : nxF fr to (fun j => tb (u.2 6 0) j && tb (u.2 1 (kd j)) n) f a i ≤ 24 := by omega
    have hskip : ¬ ((tb (u.2 6 0) i && tb (u.2 1 (kd i)) n) = true ∧ fr i = a ∧ f (to i) + 1 = f a ∧ to i < nxF fr to (fun j => tb (u.2 6 0) j && tb (u.2 1 (kd j)) n) f a i) → ∀ z : Int32, z = nI i + 1 → wp_X7_next_L5 (nI n) (nI a) u post m y z := by
      intro hh z hz
      rw [hz, nI_1]
      exact ih y (by rw [nxF_step, if_neg hh]; exact hy)
    refine ⟨fun hc => absurd (by rw [j1] at hc; exact hc) (nI_ge (a := i) (b := J) hi (by omega)), fun _ => ⟨hin, fun y1 hy1 => ?_⟩⟩
    rw [hci, q2] at hy1
    subst hy1
    refine w_in hi (by omega) j1 (br1 (h_holds _ (by omega) ?_))
    cases hb : tb (u.2 6 0) i with
    | false => exact br0 (br0 (br0 (hskip fun z => by rw [hb] at z; simp at z)))
    | true =>
      refine br1 (br1 ⟨hin, ?_⟩)
      rw [hci, q1]
      refine ⟨fun hne => br0 (hskip fun z => hne (by rw [z.2.1])), fun he => p_goes hJ hn hi ⟨q3, q9⟩ ?_⟩
      have hfa2 : fr i = a := (nI_eq (by omega) (by omega)).mp he
      cases hg : tb (u.2 1 (kd i)) n with
      | false => exact br0 (br0 (hskip fun z => by rw [hg] at z; simp at z))
      | true =>
        refine br1 ⟨vp_in_nI (by omega) (by decide), vp_in_nI ha (by decide), ?_⟩
        have h1 := hf (to i) (by omega)
        rw [hct, hca, hst (to i) (by omega), hst a ha, encD_n (p := a) (by omega), nI_m1 hfa0]
        have hiff : encD f (to i) = nI (f a - 1) ↔ f (to i) + 1 = f a := by
          unfold encD
          by_cases z : f (to i) = 100
          · rw [if_pos z]
            constructor
            · intro e; exact absurd e.symm (nIm1 (by omega))
            · intro e; omega
          · rw [if_neg z, nI_eq (by omega) (by omega)]
            omega
        refine ⟨fun hne => br0 (hskip fun z => hne (hiff.mpr z.2.2.1)), fun he2 => br1 ?_⟩
        have hstep := hiff.mp he2
        have htake : to i < nxF fr to (fun j => tb (u.2 6 0) j && tb (u.2 1 (kd j)) n) f a i → ∀ z : Int32, z = nI i + 1 → wp_X7_next_L5 (nI n) (nI a) u post m (nI (to i)) z := by
          intro hlt z hz
          rw [hz, nI_1]
          refine ih _ ?_
          rw [nxF_step, if_pos ⟨by rw [hb, hg]; rfl, hfa2, hstep, hlt⟩, enc24_n (by omega)]
        refine ⟨fun hm => htake (by have := (enc24_m1 h24).mp (hy.symm.trans hm); omega), fun hm => ?_⟩
        have hne : nxF fr to (fun j => tb (u.2 6 0) j && tb (u.2 1 (kd j)) n) f a i ≠ 24 := fun z => hm (by rw [hy]; exact (enc24_m1 h24).mpr z)
        refine ⟨fun hle => hskip fun z => ?_, fun hnle => htake ?_⟩
        · rw [hy, enc24_n hne] at hle
          have := (nI_leI (by omega) (by omega)).mp hle
          omega
        · rcases Nat.lt_or_ge (to i) (nxF fr to (fun j => tb (u.2 6 0) j && tb (u.2 1 (kd j)) n) f a i) with z | z
          · exact z
          · exact absurd (by rw [hy, enc24_n hne]; exact nI_le z (by omega)) hnle
/-- what the way answers -/
def WayIs (P J s n i : Nat) (fr to kd : Nat → Nat) (u : WU) (f : Nat → Nat) : Int32 :=
  if srcF f (fun p => tb (brX (u.2 0 s) (u.1 2 p) (u.2 3 p)) n) P = 24 then -1
  else if f (srcF f (fun p => tb (brX (u.2 0 s) (u.1 2 p) (u.2 3 p)) n) P) < i then -1
  else nI (itF J fr to (fun j => tb (u.2 6 0) j && tb (u.2 1 (kd j)) n) f (srcF f (fun p => tb (brX (u.2 0 s) (u.1 2 p) (u.2 3 p)) n) P) i)
theorem p_onWay {P T J C s n t : Nat} {x : Int32} {fr to kd ord pos sd bg en : Nat → Nat} {u v : WU} {post : Int32 → WU → Prop} (hs1 : Sim1 P T J C fr to kd ord pos sd bg en u v) (hs : s < 4) (hn : n < 64) (ht : t < 24)
    (h : ∀ (st : Nat → Int32) (f : Nat → Nat), Dst J fr to (fun j => tb (u.2 6 0) j && tb (u.2 1 (kd j)) n) t f → (x < 0 → post (-1) (uI u 19 st)) ∧ (∀ i : Nat, i < 2 ^ 31 → x = nI i → post (WayIs P J s n i fr to kd u f) (uI u 19 st))) : wp_X7_partOnWay (nI s) (nI n) (nI t) x u post := by
  obtain ⟨hT, hPS, hJS, hO, hSS, hC⟩ := id hs1
  obtain ⟨hP, p1, p2, p3, p4, p5, p6, p7, p8, p9⟩ := id hPS
  have hF := sim_f hs1
  refine p_measure hJS.1 hn ht hF.1 hF.2 hO hSS fun st f hst hf => ?_
  obtain ⟨hneg, hi⟩ := h st f hf
  refine p_source (u := uI u 19 st) (f := f) hP hs hn p2 hst hf.2.1 ?_
  have eb : (fun p => tb (brX ((uI u 19 st).2 0 s) ((uI u 19 st).1 2 p) ((uI u 19 st).2 3 p)) n) = (fun p => tb (brX (u.2 0 s) (u.1 2 p) (u.2 3 p)) n) := rfl
  rw [eb]
  have hW : ∀ i, WayIs P J s n i fr to kd u f = _ := fun i => rfl
  unfold WayIs at hi
  generalize hb : (fun p => tb (brX (u.2 0 s) (u.1 2 p) (u.2 3 p)) n) = b at hi ⊢
  generalize ha : srcF f b P = a at hi ⊢
  have hin := srcF_in f b P hP
  rw [ha] at hin
  have hcase : x < 0 ∨ ∃ i : Nat, i < 2 ^ 31 ∧ x = nI i := by
    by_cases z : x < 0
    · exact Or.inl z
    · exact Or.inr (nI_of z)
  refine ⟨fun hm => ?_, fun hm => ⟨fun hlt => hneg hlt, fun hnlt => ?_⟩⟩
  · have e24 := (enc24_m1 (a := a) (by omega)).mp hm
    rcases hcase with z | ⟨i, i1, i2⟩
    · exact hneg z
    · have := hi i i1 i2
      rw [if_pos e24] at this
      exact this
  · have hne : a ≠ 24 := fun z => hm ((enc24_m1 (a := a) (by omega)).mpr z)
    obtain ⟨a1, a2, a3⟩ : a < P ∧ b a = true ∧ f a < 100 := by
      rcases hin with z | z
      · exact absurd z hne
      · exact z
    obtain ⟨i, i1, rfl⟩ := nI_of hnlt
    have hpi := hi i i1 rfl
    rw [if_neg hne] at hpi
    rw [enc24_n hne, nI_clamp (n := a) (by omega), uI_s, hst a (by omega), encD_n (p := a) (by omega)]
    refine ⟨vp_in_nI (by omega) (by decide), fun hle => ?_, fun hnle => ?_⟩
    · have hile : i ≤ f a := (nI_leI i1 (by omega)).mp hle
      rw [if_neg (by omega)] at hpi
      refine loop_0 (W := fun m k y => wp_X7_partOnWay_L42 (nI n) (nI i) post m y (nI k) (uI u 19 st)) (I := fun k y => y = nI (itF J fr to (fun j => tb (u.2 6 0) j && tb (u.2 1 (kd j)) n) f a k)) i (nI a) rfl ?_ ?_
      · intro m y hy
        exact ⟨fun _ => by rw [hy]; exact hpi, fun hc => absurd (Int32.le_refl _) hc⟩
      · intro m k y hk hy ih
        obtain ⟨t1, t2⟩ := itF_in hF.2 hf (by omega) a3 k (by omega)
        obtain ⟨t3, t4⟩ := itF_in hF.2 hf (by omega) a3 (k + 1) (by omega)
        refine ⟨fun hc => absurd hc (nI_ge (a := k) (b := i) hk i1), fun _ => ⟨fun hm1 => absurd (hy.symm.trans hm1) (nIm1 (by omega)), fun _ => ?_⟩⟩
        rw [hy]
        refine p_next (u := uI u 19 st) (v := v) hs1 hn t1 hst hf.2.1 (by omega) (by omega) fun y2 hy2 => ?_
        rw [hy2, nI_1]
        refine ih _ ?_
        exact enc24_n (by
          have e : itF J fr to (fun j => tb (u.2 6 0) j && tb (u.2 1 (kd j)) n) f a (k + 1) = nxF fr to (fun j => tb (u.2 6 0) j && tb (u.2 1 (kd j)) n) f (itF J fr to (fun j => tb (u.2 6 0) j && tb (u.2 1 (kd j)) n) f a k) J := rfl
          show nxF fr to (fun j => tb (u.2 6 0) j && tb (u.2 1 (kd j)) n) f (itF J fr to (fun j => tb (u.2 6 0) j && tb (u.2 1 (kd j)) n) f a k) J ≠ 24
          omega)
    · have : f a < i := by
        rcases Nat.lt_or_ge (f a) i with z | z
        · exact z
        · exact absurd (nI_le z (by omega)) hnle
      rw [if_pos this] at hpi
      exact hpi
