/-! ===== THE RELATION between the class's world u and the reference's world v ===== -/
/-- licences: what they ask (a0 asked, a1 along), what they bar (a2 fought); b0 asked, b1 barred, b2 along of the reference -/
def TSf (a0 a1 a2 : Nat → Int64) (b0 b1 : Nat → Int32) (b2 : Nat → Int64) : Prop :=
  (∀ s l d, s < 4 → l < 8 → d < 8 → tb (a0 s) (8 * l + d) = ti (b0 (4 * l + s)) d) ∧
  (∀ i, i < 32 → ∀ n, 8 ≤ n → ti (b0 i) n = false) ∧
  (∀ k, k < 4 → a1 k = b2 k) ∧
  (∀ l m d, l < 8 → m < 8 → d < 8 → tb (a2 l) (8 * m + d) = (decide (m ≠ l) && ti (b1 l) d)) ∧
  (∀ l, l < 8 → ∀ n, 8 ≤ n → ti (b1 l) n = false)
/-- and the class's row quarrelsBefore begins with 0 -/
def TS (u v : WU) : Prop := TSf (u.2 0) (u.2 1) (u.2 2) (v.1 0) (v.1 1) (v.2 0) ∧ u.1 17 0 = 0
/-- one part: m choices, the t-th is taken -/
def PRow (p : Nat) (a1 a2 b2 b3 b4 : Nat → Int32) : Prop := a1 p = b3 p ∧ ∃ m t : Nat, 1 ≤ m ∧ m ≤ 3 ∧ t < m ∧ b3 p = nI m ∧ b4 p = nI t ∧ a2 p = b2 (3 * p + t) ∧ (∀ i, i < m → ∃ c : Nat, c < 8 ∧ b2 (3 * p + i) = nI c) ∧ (∀ i j, i < j → j < m → b2 (3 * p + i) ≠ b2 (3 * p + j))
def PSf (P T : Nat) (a0 a1 a2 a20 a21 : Nat → Int32) (aL : Nat → Int64) (b2 b3 b4 b21 b22 : Nat → Int32) (bL : Nat → Int64) : Prop :=
  P ≤ 24 ∧ (T < P ∨ (P = 0 ∧ T = 0)) ∧ a20 0 = nI P ∧ b21 0 = nI P ∧ a21 0 = nI T ∧ b22 0 = nI T ∧ (∀ i, i < 72 → a0 i = b2 i) ∧ (∀ p, p < P → PRow p a1 a2 b2 b3 b4) ∧ (∀ p, P ≤ p → b4 p = 0) ∧ (∀ p, p < 24 → aL p = bL p)
def PS (P T : Nat) (u v : WU) : Prop := PSf P T (u.1 0) (u.1 1) (u.1 2) (u.1 20) (u.1 21) (u.2 3) (v.1 2) (v.1 3) (v.1 4) (v.1 21) (v.1 22) (v.2 1)
/-- joins: J told; from, to, kind; which are there -/
def JSf (P J : Nat) (fr to kd : Nat → Nat) (a3 a4 a5 a22 : Nat → Int32) (th : Int64) (b5 b6 b7 b8 b23 : Nat → Int32) : Prop :=
  J ≤ 40 ∧ a22 0 = nI J ∧ b23 0 = nI J ∧ (∀ j, j < J → a3 j = nI (fr j) ∧ a4 j = nI (to j) ∧ a5 j = nI (kd j) ∧ b5 j = nI (fr j) ∧ b6 j = nI (to j) ∧ b7 j = nI (kd j) ∧ fr j < P ∧ to j < P ∧ kd j < 4) ∧ (∀ j, j < 40 → b8 j = b01 (decide (j < J) && !tb th j)) ∧ (∀ n, J ≤ n → tb th n = false)
def JS (P J : Nat) (fr to kd : Nat → Nat) (u v : WU) : Prop := JSf P J fr to kd (u.1 3) (u.1 4) (u.1 5) (u.1 22) (u.2 6 0) (v.1 5) (v.1 6) (v.1 7) (v.1 8) (v.1 23)
/-- the class's order of the parts -/
def OSf (J : Nat) (fr to ord pos : Nat → Nat) (th : Int64) (a6 : Nat → Int32) : Prop := (∀ k, k < 24 → a6 k = nI (ord k) ∧ ord k < 24 ∧ pos (ord k) = k) ∧ (∀ p, p < 24 → pos p < 24 ∧ ord (pos p) = p) ∧ (∀ j, j < J → tb th j = true → pos (fr j) < pos (to j))
def OS (J : Nat) (fr to ord pos : Nat → Nat) (u : WU) : Prop := OSf J fr to ord pos (u.2 6 0) (u.1 6)
/-- the class's joins sorted by the part they lead to -/
def SSf (J : Nat) (to sd bg en : Nat → Nat) (th : Int64) (a7 a8 a9 : Nat → Int32) : Prop := ∀ p, p < 24 → a8 p = nI (bg p) ∧ a9 p = nI (en p) ∧ bg p ≤ en p ∧ en p ≤ 40 ∧ en p - bg p = fb_ct (fun j => tb th j && decide (to j = p)) J ∧ (∀ i, bg p ≤ i → i < en p → a7 i = nI (sd i) ∧ sd i < J ∧ tb th (sd i) = true ∧ to (sd i) = p) ∧ (∀ j, j < J → tb th j = true → to j = p → ∃ i, bg p ≤ i ∧ i < en p ∧ sd i = j)
def SS (J : Nat) (to sd bg en : Nat → Nat) (u : WU) : Prop := SSf J to sd bg en (u.2 6 0) (u.1 7) (u.1 8) (u.1 9)
def CSf (P J C : Nat) (a10 a11 a12 a13 a23 b9 b10 b11 b12 b24 : Nat → Int32) : Prop := C ≤ 10 ∧ a23 0 = nI C ∧ b24 0 = nI C ∧ ∀ c, c < C → a10 c = b9 c ∧ a11 c = b10 c ∧ a12 c = b11 c ∧ a13 c = b12 c ∧ ((b9 c = 0 ∧ ∃ w g : Nat, b10 c = nI w ∧ w < P ∧ b11 c = nI g ∧ g < 8) ∨ (b9 c = 1 ∧ ∃ w : Nat, b10 c = nI w ∧ w < J)) ∧ ∃ z : Nat, z ≤ 100000 ∧ b12 c = nI z
def CS (P J C : Nat) (u v : WU) : Prop := CSf P J C (u.1 10) (u.1 11) (u.1 12) (u.1 13) (u.1 23) (v.1 9) (v.1 10) (v.1 11) (v.1 12) (v.1 24)
def Sim1 (P T J C : Nat) (fr to kd ord pos sd bg en : Nat → Nat) (u v : WU) : Prop := TS u v ∧ PS P T u v ∧ JS P J fr to kd u v ∧ OS J fr to ord pos u ∧ SS J to sd bg en u ∧ CS P J C u v
def Sim (u v : WU) : Prop := ∃ (P T J C : Nat) (fr to kd ord pos sd bg en : Nat → Nat), Sim1 P T J C fr to kd ord pos sd bg en u v
/-! the start -/
theorem ord0_at {k : Nat} (h : k < 24) : ord0 24 k = nI k := by unfold ord0; simp [h]
theorem sim_start : Sim uX0 u00 := by
  refine ⟨0, 0, 0, 0, id, id, id, id, id, id, fun _ => 0, fun _ => 0, ?_, ?_, ?_, ?_, ?_, ?_⟩
  · refine ⟨?_, rfl⟩
    exact ⟨fun s l d _ _ _ => by rw [show (uX0.2 0) s = 0 from rfl, tb_zero]; exact (ti_zero d).symm, fun i _ n _ => ti_zero n, fun _ _ => rfl, fun l m d _ _ _ => by rw [show (uX0.2 2) l = 0 from rfl, tb_zero]; show false = (_ && ti 0 d); rw [ti_zero]; simp, fun l _ n _ => ti_zero n⟩
  · exact ⟨by decide, Or.inr ⟨rfl, rfl⟩, rfl, rfl, rfl, rfl, fun _ _ => rfl, fun p hp => absurd hp (Nat.not_lt_zero _), fun _ _ => rfl, fun _ _ => rfl⟩
  · exact ⟨by decide, rfl, rfl, fun j hj => absurd hj (Nat.not_lt_zero _), fun j _ => by show (0 : Int32) = _; simp [b01], fun n _ => tb_zero n⟩
  · exact ⟨fun k hk => ⟨ord0_at hk, hk, rfl⟩, fun p hp => ⟨hp, rfl⟩, fun j hj => absurd hj (Nat.not_lt_zero _)⟩
  · exact fun p _ => ⟨rfl, rfl, Nat.le_refl _, Nat.zero_le _, rfl, fun i _ h => absurd h (Nat.not_lt_zero _), fun j hj => absurd hj (Nat.not_lt_zero _)⟩
  · exact ⟨by decide, rfl, rfl, fun c hc => absurd hc (Nat.not_lt_zero _)⟩
/-! asks -/
theorem ts_asks {l d : Nat} {sh kn : Int32} {u v : WU} {g k k' : Nat → Int64} {g' : Nat → Int32} (hl : l < 8) (hd : d < 8) (h : TS u v) (h1 : spr (8 * l + d) sh (u.2 0) g 4) (h2 : spr (8 * l + d) kn (u.2 1) k 4) (h3 : aspr l d sh (v.1 0) g' 4) (h4 : spr (8 * l + d) kn (v.2 0) k' 4) : TSf g k (u.2 2) g' (v.1 1) k' := by
  obtain ⟨⟨t1, t2, t3, t4, t5⟩, -⟩ := h
  refine ⟨fun s m e hs hm he => ?_, fun i hi n hn => ?_, fun i hi => tb_ext fun n hn => ?_, t4, t5⟩
  · rw [h1.1 s hs _ (by omega)]
    by_cases hml : m = l
    · subst hml
      rw [h3.1 s hs e (by omega)]
      by_cases hed : e = d
      · subst hed; simp
      · have : ¬ 8 * m + e = 8 * m + d := by omega
        rw [if_neg this, if_neg hed]; exact t1 s m e hs hm he
    · have : ¬ 8 * m + e = 8 * l + d := by omega
      rw [if_neg this, h3.2 (4 * m + s) (fun i hi => by omega)]; exact t1 s m e hs hm he
  · by_cases hin : ∃ j, j < 4 ∧ i = 4 * l + j
    · obtain ⟨j, hj, rfl⟩ := hin
      by_cases h32 : n < 32
      · rw [h3.1 j hj n h32, if_neg (by omega)]; exact t2 _ hi n hn
      · exact ti_ge (by omega)
    · rw [h3.2 i (fun j hj e => hin ⟨j, hj, e⟩)]; exact t2 i hi n hn
  · rw [h2.1 i hi n hn, h4.1 i hi n hn, t3 i hi]
theorem s_asks {x1 x2 x3 x4 : Int32} {u v : WU} (hs : Sim u v) {p : Int32 → WU → Prop} {q : Int32 → WU → Int32 → WU → Prop} (hp : ∀ r u', wp_X9_asks x1 x2 x3 x4 v (q r u') → p r u') (hq : ∀ r u' v', Sim u' v' → q r u' r v') : wp_X8_asks x1 x2 x3 x4 u p := by
  have hq0 := hq 0 u v hs
  rcases in_or x1 8 (by decide) with ⟨l, hl, rfl⟩ | h1
  · rcases in_or x2 8 (by decide) with ⟨d, hd, rfl⟩ | h2
    · rcases in_or x3 16 (by decide) with ⟨a, ha, rfl⟩ | h3
      · rcases in_or x4 16 (by decide) with ⟨b, hb, rfl⟩ | h4
        · refine pair_in hl hd (br1 (w_in ha (by decide) rfl (br1 (w_in hb (by decide) rfl (br1' ?_)))))
          unfold wp_X8_pairOf
          rw [pairOf_n]
          refine p_tellAsk (by omega) fun g k hg hk => hp _ _ ?_
          refine lic_in hl (br1 (l_in hd (by decide) (by decide) (br1 (l_in ha (by decide) (by decide) (br1 (l_in hb (by decide) (by decide) (br1' ?_)))))))
          refine p_masks hl hd fun g' k' hg' hk' => hq _ _ _ ?_
          obtain ⟨P, T, J, C, fr, to, kd, ord, pos, sd, bg, en, hT, hR⟩ := hs
          exact ⟨P, T, J, C, fr, to, kd, ord, pos, sd, bg, en, ⟨ts_asks (u := u) (v := v) hl hd hT hg hk hg' hk', hT.2⟩, hR⟩
        · refine pair_in hl hd (br1 (w_in ha (by decide) rfl (br1 (w_out h4 (by decide) rfl (br0' (hp _ _ ?_))))))
          exact lic_in hl (br1 (l_in hd (by decide) (by decide) (br1 (l_in ha (by decide) (by decide) (br1 (l_out h4 (by decide) (by decide) (br0' hq0)))))))
      · refine pair_in hl hd (br1 (w_out h3 (by decide) rfl (br0 (hp _ _ ?_))))
        exact lic_in hl (br1 (l_in hd (by decide) (by decide) (br1 (l_out h3 (by decide) (by decide) (br0 hq0)))))
    · refine pair_out2 hl h2 (br0 (hp _ _ ?_))
      exact lic_in hl (br1 (l_out h2 (by decide) (by decide) (br0 hq0)))
  · refine pair_out1 h1 (br0 (hp _ _ ?_))
    exact lic_out h1 (br0 hq0)
