/-! ===== the reference's order of the joins ===== -/
/-- f lists the m live joins, by rising levels of where they come from -/
def Olst (J m : Nat) (fr to lev od : Nat → Nat) (Lv : Nat → Bool) (f : Nat → Int32) : Prop := m ≤ 40 ∧ (∀ i, i < m → f i = nI (od i) ∧ od i < J ∧ Lv (od i) = true) ∧ (∀ j, j < J → Lv j = true → ∃ i, i < m ∧ od i = j) ∧ (∀ i k, i ≤ k → k < m → lev (fr (od i)) ≤ lev (fr (od k))) ∧ (∀ j, j < J → Lv j = true → lev (fr j) < lev (to j))
def LvN (fr lev : Nat → Nat) (Lv : Nat → Bool) (vv i j : Nat) : Prop := Lv j = true ∧ (lev (fr j) < vv ∨ (lev (fr j) = vv ∧ j < i))
def OL (J vv i m : Nat) (fr lev od : Nat → Nat) (Lv : Nat → Bool) (f : Nat → Int32) : Prop := (∀ k, k < m → f k = nI (od k) ∧ od k < J ∧ LvN fr lev Lv vv i (od k)) ∧ (∀ j, j < J → LvN fr lev Lv vv i j → ∃ k, k < m ∧ od k = j) ∧ (∀ a b, a ≤ b → b < m → lev (fr (od a)) ≤ lev (fr (od b))) ∧ (∀ a b, a < b → b < m → od a ≠ od b)
theorem OL.le {J vv i m : Nat} {fr lev od : Nat → Nat} {Lv : Nat → Bool} {f : Nat → Int32} (h : OL J vv i m fr lev od Lv f) : m ≤ J := fb_holes J m od (fun k hk => (h.1 k hk).2.1) h.2.2.2
theorem OL.add {J vv i m : Nat} {fr lev od : Nat → Nat} {Lv : Nat → Bool} {f : Nat → Int32} (h : OL J vv i m fr lev od Lv f) (hi : i < J) (hl : Lv i = true) (he : lev (fr i) = vv) : OL J vv (i + 1) (m + 1) fr lev (putN od m i) Lv (upd f m (nI i)) := by
  obtain ⟨h1, h2, h3, h4⟩ := h
  refine ⟨fun k hk => ?_, fun j hj hd => ?_, fun a b hab hb => ?_, fun a b hab hb => ?_⟩
  · by_cases e : k = m
    · subst e; rw [pk_us, putN_s]; exact ⟨rfl, hi, hl, Or.inr ⟨he, by omega⟩⟩
    · rw [pk_un e, putN_n e]
      obtain ⟨a, b, c, d⟩ := h1 k (by omega)
      exact ⟨a, b, c, by omega⟩
  · by_cases e : j = i
    · exact ⟨m, by omega, by rw [putN_s, e]⟩
    · obtain ⟨k, hk, ek⟩ := h2 j hj ⟨hd.1, by have := hd.2; omega⟩
      exact ⟨k, by omega, by rw [putN_n (by omega)]; exact ek⟩
  · by_cases e : b = m
    · subst e
      rw [putN_s]
      by_cases e2 : a = b
      · subst e2; rw [putN_s]; exact Nat.le_refl _
      · rw [putN_n e2]
        have := (h1 a (by omega)).2.2.2
        omega
    · rw [putN_n e, putN_n (by omega)]
      exact h3 a b hab (by omega)
  · by_cases e : b = m
    · subst e
      rw [putN_s, putN_n (by omega)]
      intro q
      have := (h1 a (by omega)).2.2.2
      rw [q] at this
      omega
    · rw [putN_n e, putN_n (by omega)]
      exact h4 a b hab (by omega)
theorem OL.skip {J vv i m : Nat} {fr lev od : Nat → Nat} {Lv : Nat → Bool} {f : Nat → Int32} (h : OL J vv i m fr lev od Lv f) (hn : ¬ (Lv i = true ∧ lev (fr i) = vv)) : OL J vv (i + 1) m fr lev od Lv f := by
  obtain ⟨h1, h2, h3, h4⟩ := h
  refine ⟨fun k hk => ?_, fun j hj hd => ?_, h3, h4⟩
  · obtain ⟨a, b, c, d⟩ := h1 k hk
    exact ⟨a, b, c, by omega⟩
  · refine h2 j hj ⟨hd.1, ?_⟩
    by_cases e : j = i
    · subst e
      have := hd.2
      have : lev (fr j) ≠ vv := fun z => hn ⟨hd.1, z⟩
      omega
    · have := hd.2; omega
theorem OL.next {J vv m : Nat} {fr lev od : Nat → Nat} {Lv : Nat → Bool} {f : Nat → Int32} (h : OL J vv J m fr lev od Lv f) : OL J (vv + 1) 0 m fr lev od Lv f := by
  obtain ⟨h1, h2, h3, h4⟩ := h
  refine ⟨fun k hk => ?_, fun j hj hd => ?_, h3, h4⟩
  · obtain ⟨a, b, c, d⟩ := h1 k hk
    exact ⟨a, b, c, by omega⟩
  · exact h2 j hj ⟨hd.1, by have := hd.2; omega⟩
def w25 (v : WU) (f h : Nat → Int32) : WU := uI (uI v 16 f) 25 h
theorem w25_step (v : WU) (f f' h h' : Nat → Int32) : uI (uI (w25 v f h) 16 f') 25 h' = w25 v f' h' := by
  show (_, _) = (_, _)
  congr 1
  funext k
  show va_up (va_up (va_up (va_up v.1 16 f) 25 h) 16 f') 25 h' k = va_up (va_up v.1 16 f') 25 h' k
  unfold va_up
  by_cases h7 : k = 16 <;> by_cases h8 : k = 25 <;> simp [h7, h8] <;> omega
theorem p_orders128 {J vv m : Nat} {fr to lev od : Nat → Nat} {Lv : Nat → Bool} {v : WU} {f : Nat → Int32} {post : WU → Prop} {K : WU → Prop} (hJ : J ≤ 40) (hvv : vv < 24) (eJ : v.1 23 0 = nI J) (hf : ∀ j, j < J → v.1 5 j = nI (fr j) ∧ fr j < 24) (h14 : ∀ j, j < J → v.1 14 j = b01 (!Lv j)) (h17 : ∀ z, z < 24 → v.1 17 z = nI (lev z)) (hlv : ∀ j, j < J → lev (fr j) < 24)
    (h0 : OL J vv 0 m fr lev od Lv f) (h : ∀ m' od' f', OL J vv J m' fr lev od' Lv f' → K (w25 v f' (fun _ => nI m'))) : ∃ nn, wp_X9_orders_L128 (nI vv) post K nn 0 (w25 v f (fun _ => nI m)) := by
  refine loop_0 (W := fun n i s => wp_X9_orders_L128 (nI vv) post K n (nI i) s) (I := fun i s => ∃ m f od, s = w25 v f (fun _ => nI m) ∧ OL J vv i m fr lev od Lv f) J _ ⟨m, f, od, rfl, h0⟩ ?_ ?_
  · rintro n s ⟨m, f, od, rfl, ho⟩
    exact ⟨fun _ => h m od f ho, fun hc => absurd (by show v.1 23 0 ≤ nI J; rw [eJ]; exact Int32.le_refl _) hc⟩
  · rintro n i s hi ⟨m, f, od, rfl, ho⟩ ih
    obtain ⟨f1, f2⟩ := hf i hi
    have hci : (nI i).toNatClampNeg = i := nI_clamp (by omega)
    have hin : vp_in (nI i) 40 := vp_in_nI (by omega) (by decide)
    have e14 : (w25 v f (fun _ => nI m)).1 14 (nI i).toNatClampNeg = b01 (!Lv i) := by rw [hci]; exact h14 i hi
    have e5 : (w25 v f (fun _ => nI m)).1 5 (nI i).toNatClampNeg = nI (fr i) := by rw [hci]; exact f1
    have e17 : (w25 v f (fun _ => nI m)).1 17 (nI (fr i)).toNatClampNeg = nI (lev (fr i)) := by rw [nI_clamp (by omega)]; exact h17 _ f2
    have e25 : (w25 v f (fun _ => nI m)).1 25 0 = nI m := rfl
    have hskip : ¬ (Lv i = true ∧ lev (fr i) = vv) → ∀ y : Int32, y = nI i + 1 → wp_X9_orders_L128 (nI vv) post K n y (w25 v f (fun _ => nI m)) := by
      intro hn y hy
      rw [hy, nI_1]
      exact ih _ ⟨m, f, od, rfl, ho.skip hn⟩
    refine ⟨fun hc => absurd (show nI J ≤ nI i by rw [← eJ]; exact hc) (nI_ge (a := i) (b := J) hi (by omega)), fun _ => ⟨hin, ?_⟩⟩
    rw [e14, e5, e17, e25]
    refine ⟨fun hc => hskip fun z => hc (by rw [z.1]; rfl), fun hc => ⟨hin, vp_in_nI f2 (by decide), fun he => ?_, fun he => hskip fun z => he (by rw [z.2])⟩⟩
    have hl : Lv i = true := by
      cases hl : Lv i with
      | true => rfl
      | false => rw [hl] at hc; exact absurd hc (by decide)
    have hlev : lev (fr i) = vv := (nI_eq (by have := hlv i hi; omega) (by omega)).mp he
    have ha := ho.add hi hl hlev
    have hm := ha.le
    refine ⟨vp_in_nI (by omega) (by decide), fun u16 hu16 u17 hu17 y hy => ?_⟩
    have e17' : u17 = w25 v (upd f m (nI i)) (fun _ => nI (m + 1)) := by
      rw [hu17, hu16, nI_clamp (by omega)]
      have q : (uI (w25 v f (fun _ => nI m)) 16 (upd ((w25 v f (fun _ => nI m)).1 16) m (nI i))).1 25 0 = nI m := rfl
      rw [q, nI_1, w25_step]
      rfl
    rw [hy, nI_1]
    exact ih _ ⟨m + 1, _, _, e17', ha⟩
theorem p_orders120 {J : Nat} {fr to lev : Nat → Nat} {Lv : Nat → Bool} {v : WU} {post : WU → Prop} (hJ : J ≤ 40) (eJ : v.1 23 0 = nI J) (hf : ∀ j, j < J → v.1 5 j = nI (fr j) ∧ fr j < 24) (h14 : ∀ j, j < J → v.1 14 j = b01 (!Lv j)) (h17 : ∀ z, z < 24 → v.1 17 z = nI (lev z)) (hlv : ∀ j, j < J → lev (fr j) < 24) (hl : ∀ j, j < J → Lv j = true → lev (fr j) < lev (to j))
    (h : ∀ m od f, Olst J m fr to lev od Lv f → post (w25 v f (fun _ => nI m))) : ∃ nn, wp_X9_orders_L120 post nn 0 (uI v 25 (fun _ => 0)) := by
  refine loop_0 (W := fun n i s => wp_X9_orders_L120 post n (nI i) s) (I := fun i s => ∃ m f od, s = w25 v f (fun _ => nI m) ∧ OL J i 0 m fr lev od Lv f) 24 _ ⟨0, v.1 16, id, ?_, ?_⟩ ?_ ?_
  · unfold w25; rw [uI_self]; rfl
  · exact ⟨fun k hk => absurd hk (Nat.not_lt_zero _), fun j _ hd => by have := hd.2; omega, fun a b _ hb => absurd hb (Nat.not_lt_zero _), fun a b _ hb => absurd hb (Nat.not_lt_zero _)⟩
  · rintro n s ⟨m, f, od, rfl, ho⟩
    refine ⟨fun _ => h m od f ⟨by have := ho.le; omega, fun i hi => ⟨(ho.1 i hi).1, (ho.1 i hi).2.1, (ho.1 i hi).2.2.1⟩, fun j hj hlj => ho.2.1 j hj ⟨hlj, Or.inl (hlv j hj)⟩, ho.2.2.1, hl⟩, fun hc => absurd (by decide : (24 : Int32) ≤ nI 24) hc⟩
  · rintro n i s hi ⟨m, f, od, rfl, ho⟩ ih
    refine ⟨fun hc => absurd hc (nI_ge (a := i) (b := 24) hi (by decide)), fun _ => p_orders128 (to := to) hJ hi eJ hf h14 h17 hlv ho fun m' od' f' ho' => fun y hy => ?_⟩
    rw [hy, nI_1]
    exact ih _ ⟨m', f', od', rfl, ho'.next⟩
theorem p_orders33 {P J r : Nat} {fr to rk lev : Nat → Nat} {Lv : Nat → Bool} {v : WU} {g : Nat → Int32} {post : WU → Prop} {K : WU → Prop} (hP : P ≤ 24) (hJ : J ≤ 40) (eJ : v.1 23 0 = nI J) (hf : ∀ j, j < J → v.1 5 j = nI (fr j) ∧ v.1 6 j = nI (to j) ∧ fr j < P ∧ to j < P) (h14 : ∀ j, j < J → v.1 14 j = b01 (!Lv j)) (hrk : ∀ j, j < J → Lv j = true → rk (fr j) < rk (to j)) (hrkP : ∀ x, x < P → rk x < P)
    (hg : ∀ z, z < 24 → g z = nI (lev z)) (hle : ∀ z, z < P → lev z ≤ rk z) (hsat : ∀ j, j < J → Lv j = true → rk (to j) ≤ r → lev (fr j) < lev (to j))
    (h : ∀ (g' : Nat → Int32) (lev' : Nat → Nat), (∀ z, z < 24 → g' z = nI (lev' z)) → (∀ z, z < P → lev' z ≤ rk z) → (∀ j, j < J → Lv j = true → rk (to j) ≤ r + 1 → lev' (fr j) < lev' (to j)) → K (uI v 17 g')) : ∃ nn, wp_X9_orders_L33 (nI r) post K nn 0 (uI v 17 g) := by
  refine loop_0 (W := fun n i s => wp_X9_orders_L33 (nI r) post K n (nI i) s) (I := fun i s => ∃ g lev, s = uI v 17 g ∧ (∀ z, z < 24 → g z = nI (lev z)) ∧ (∀ z, z < P → lev z ≤ rk z) ∧ (∀ j, j < J → Lv j = true → (rk (to j) ≤ r ∨ (rk (to j) ≤ r + 1 ∧ j < i)) → lev (fr j) < lev (to j))) J _ ⟨g, lev, rfl, hg, hle, fun j hj hl hh => hsat j hj hl (by omega)⟩ ?_ ?_
  · rintro n s ⟨g, lev, rfl, i1, i2, i3⟩
    exact ⟨fun _ => h g lev i1 i2 fun j hj hl hh => i3 j hj hl (by omega), fun hc => absurd (by show v.1 23 0 ≤ nI J; rw [eJ]; exact Int32.le_refl _) hc⟩
  · rintro n i s hi ⟨g, lev, rfl, i1, i2, i3⟩ ih
    obtain ⟨f1, f2, f3, f4⟩ := hf i hi
    have hci : (nI i).toNatClampNeg = i := nI_clamp (by omega)
    have hin : vp_in (nI i) 40 := vp_in_nI (by omega) (by decide)
    have e14 : (uI v 17 g).1 14 (nI i).toNatClampNeg = b01 (!Lv i) := by rw [hci]; exact h14 i hi
    have e5 : (uI v 17 g).1 5 (nI i).toNatClampNeg = nI (fr i) := by rw [hci]; exact f1
    have e6 : (uI v 17 g).1 6 (nI i).toNatClampNeg = nI (to i) := by rw [hci]; exact f2
    have ef : (uI v 17 g).1 17 (nI (fr i)).toNatClampNeg = nI (lev (fr i)) := by rw [nI_clamp (by omega)]; exact i1 _ (by omega)
    have et : (uI v 17 g).1 17 (nI (to i)).toNatClampNeg = nI (lev (to i)) := by rw [nI_clamp (by omega)]; exact i1 _ (by omega)
    have bf : lev (fr i) < 24 := by have := i2 _ f3; have := hrkP _ f3; omega
    have bt : lev (to i) < 24 := by have := i2 _ f4; have := hrkP _ f4; omega
    have hskip : (Lv i = true → lev (fr i) < lev (to i)) → ∀ y : Int32, y = nI i + 1 → wp_X9_orders_L33 (nI r) post K n y (uI v 17 g) := by
      intro hh y hy
      rw [hy, nI_1]
      refine ih _ ⟨g, lev, rfl, i1, i2, fun j hj hl hc => ?_⟩
      by_cases e : j = i
      · subst e; exact hh hl
      · exact i3 j hj hl (by omega)
    refine ⟨fun hc => absurd (show nI J ≤ nI i by rw [← eJ]; exact hc) (nI_ge (a := i) (b := J) hi (by omega)), fun _ => ⟨hin, ?_⟩⟩
    rw [e14, e5, e6, ef, et, nI_1]
    refine ⟨fun hc => hskip fun z => absurd (by rw [z]; rfl) hc, fun hc => ⟨hin, vp_in_nI (by omega) (by decide), hin, vp_in_nI (by omega) (by decide), fun hle => hskip fun _ => ?_, fun hnle => ⟨hin, hin, vp_in_nI (by omega) (by decide), vp_in_nI (by omega) (by decide), fun u9 hu9 y hy => ?_⟩⟩⟩
    · have := (nI_leI (a := lev (fr i) + 1) (b := lev (to i)) (by omega) (by omega)).mp hle
      omega
    · have hl : Lv i = true := by
        cases hl : Lv i with
        | true => rfl
        | false => rw [hl] at hc; exact absurd hc (by decide)
      have hviol : lev (to i) ≤ lev (fr i) := by
        rcases Nat.lt_or_ge (lev (fr i)) (lev (to i)) with z | z
        · exact absurd (nI_le (a := lev (fr i) + 1) (b := lev (to i)) z (by omega)) hnle
        · exact z
      have hr1 : r + 1 ≤ rk (to i) := by
        rcases Nat.lt_or_ge r (rk (to i)) with z | z
        · exact z
        · have := i3 i hi hl (Or.inl z); omega
      have hri := hrk i hi hl
      rw [nI_clamp (n := to i) (by omega), uI_s, uI_uI] at hu9
      rw [hy, nI_1]
      refine ih u9 ⟨_, putN lev (to i) (lev (fr i) + 1), hu9, fun z hz => ?_, fun z hz => ?_, fun j hj hlj hh => ?_⟩
      · by_cases e : z = to i
        · subst e; rw [pk_us, putN_s]
        · rw [pk_un e, putN_n e]; exact i1 z hz
      · by_cases e : z = to i
        · subst e; rw [putN_s]; have := i2 _ f3; omega
        · rw [putN_n e]; exact i2 z hz
      · have hrj := hrk j hj hlj
        have hne : fr j ≠ to i := fun z => by rw [z] at hrj; omega
        rw [putN_n hne]
        by_cases e : to j = to i
        · rw [e, putN_s]
          by_cases ej : j = i
          · rw [ej]; omega
          · have := i3 j hj hlj (by omega)
            rw [e] at this
            omega
        · rw [putN_n e]
          refine i3 j hj hlj ?_
          have : j ≠ i := fun z => e (by rw [z])
          omega
theorem p_orders {P J : Nat} {fr to rk : Nat → Nat} {Lv : Nat → Bool} {v : WU} {post : WU → Prop} (hP : P ≤ 24) (hJ : J ≤ 40) (eP : v.1 21 0 = nI P) (eJ : v.1 23 0 = nI J) (hf : ∀ j, j < J → v.1 5 j = nI (fr j) ∧ v.1 6 j = nI (to j) ∧ fr j < P ∧ to j < P) (h14 : ∀ j, j < J → v.1 14 j = b01 (!Lv j)) (hrk : ∀ j, j < J → Lv j = true → rk (fr j) < rk (to j)) (hrkP : ∀ x, x < P → rk x < P)
    (h : ∀ g m lev od f, Olst J m fr to lev od Lv f → post (w25 (uI v 17 g) f (fun _ => nI m))) : wp_X9_orders v post := by
  unfold wp_X9_orders
  refine loop_0 (W := fun n i s => wp_X9_orders_L2 post _ n (nI i) s) (I := fun i s => ∃ g, s = uI v 17 g ∧ ∀ z, z < i → g z = 0) 24 v ⟨v.1 17, (uI_self v 17).symm, fun z hz => absurd hz (Nat.not_lt_zero _)⟩ ?_ ?_
  · rintro n s ⟨g, rfl, hg⟩
    refine ⟨fun _ => ?_, fun hc => absurd (by decide : (24 : Int32) ≤ nI 24) hc⟩
    refine loop_0 (W := fun n i s => wp_X9_orders_L23 post _ n (nI i) s) (I := fun i s => ∃ g lev, s = uI v 17 g ∧ (∀ z, z < 24 → g z = nI (lev z)) ∧ (∀ z, z < P → lev z ≤ rk z) ∧ (∀ j, j < J → Lv j = true → rk (to j) ≤ i → lev (fr j) < lev (to j))) P _ ⟨g, fun _ => 0, rfl, fun z hz => by rw [hg z hz]; rfl, fun z _ => Nat.zero_le _, fun j hj hl hh => by have := hrk j hj hl; omega⟩ ?_ ?_
    · rintro n s ⟨g, lev, rfl, i1, i2, i3⟩
      refine ⟨fun _ => fun u26 hu26 => ?_, fun hc => absurd (by show v.1 21 0 ≤ nI P; rw [eP]; exact Int32.le_refl _) hc⟩
      rw [hu26]
      refine p_orders120 (v := uI v 17 g) (to := to) (lev := lev) hJ eJ (fun j hj => ⟨(hf j hj).1, by have := (hf j hj).2.2.1; omega⟩) h14 i1 (fun j hj => by have := i2 _ (hf j hj).2.2.1; have := hrkP _ (hf j hj).2.2.1; omega) (fun j hj hl => i3 j hj hl ?_) fun m od f ho => h g m lev od f ho
      have := hrkP _ (hf j hj).2.2.2
      omega
    · rintro n i s hi ⟨g, lev, rfl, i1, i2, i3⟩ ih
      refine ⟨fun hc => absurd (show nI P ≤ nI i by rw [← eP]; exact hc) (nI_ge (a := i) (b := P) hi (by omega)), fun _ => p_orders33 hP hJ eJ hf h14 hrk hrkP i1 i2 i3 fun g' lev' q1 q2 q3 => fun y hy => ?_⟩
      rw [hy, nI_1]
      exact ih _ ⟨g', lev', rfl, q1, q2, q3⟩
  · rintro n i s hi ⟨g, rfl, hg⟩ ih
    have hci : (nI i).toNatClampNeg = i := nI_clamp (by omega)
    refine ⟨fun hc => absurd hc (nI_ge (a := i) (b := 24) hi (by decide)), fun _ => ⟨vp_in_nI hi (by decide), fun u1 hu1 y hy => ?_⟩⟩
    rw [hci, uI_s, uI_uI] at hu1
    rw [hy, nI_1]
    refine ih u1 ⟨_, hu1, fun z hz => ?_⟩
    by_cases e : z = i
    · subst e; rw [pk_us]
    · rw [pk_un e]; exact hg z (by omega)
theorem rank_P (q : Nat → Nat) (P : Nat) : (∀ x y, x < P → q x < q y → fb_ct (fun z => decide (q z < q x)) P < fb_ct (fun z => decide (q z < q y)) P) ∧ ∀ x, x < P → fb_ct (fun z => decide (q z < q x)) P < P := by
  refine ⟨fun x y hx h => ct_lt (k := x) hx (by simp) (by simpa using h) fun z _ hz => ?_, fun x hx => ?_⟩
  · have : q z < q x := by simpa using hz
    simp; omega
  · have a := fb_ct_le (fun z => decide (q z < q x)) P
    rcases Nat.lt_or_ge (fb_ct (fun z => decide (q z < q x)) P) P with r | r
    · exact r
    · have := (fb_ct_all (p := fun z => decide (q z < q x)) (n := P)).mp (by omega) x hx
      simp at this
