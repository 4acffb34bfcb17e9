theorem cs_moreJ {P J C : Nat} {u v : WU} (h : CS P J C u v) : CS P (J + 1) C u v := by
  obtain ⟨h1, h2, h3, h4⟩ := h
  refine ⟨h1, h2, h3, fun c hc => ?_⟩
  obtain ⟨a, b, d, e, f, g⟩ := h4 c hc
  refine ⟨a, b, d, e, ?_, g⟩
  rcases f with f | ⟨f1, w, f2, f3⟩
  · exact Or.inl f
  · exact Or.inr ⟨f1, w, f2, by omega⟩
def putN (f : Nat → Nat) (J a : Nat) : Nat → Nat := fun j => if j = J then a else f j
theorem putN_s (f : Nat → Nat) (J a : Nat) : putN f J a J = a := by unfold putN; simp
theorem putN_n {f : Nat → Nat} {J a j : Nat} (h : j ≠ J) : putN f J a j = f j := by unfold putN; simp [h]
theorem js_join {P J a b k : Nat} {fr to kd : Nat → Nat} {u v : WU} {th' : Int64} (hlt : J < 40) (ha : a < P) (hb : b < P) (hk : k < 4) (h : JS P J fr to kd u v) (hth : ∀ n, n < 64 → tb th' n = (tb (u.2 6 0) n || decide (n = J))) : JSf P (J + 1) (putN fr J a) (putN to J b) (putN kd J k) (upd (u.1 3) J (nI a)) (upd (u.1 4) J (nI b)) (upd (u.1 5) J (nI k)) (fun _ => nI (J + 1)) th' (upd (v.1 5) J (nI a)) (upd (v.1 6) J (nI b)) (upd (v.1 7) J (nI k)) (v.1 8) (fun _ => nI (J + 1)) := by
  obtain ⟨h1, h2, h3, h4, h5, h6⟩ := h
  refine ⟨by omega, rfl, rfl, fun j hj => ?_, fun j hj => ?_, fun n hn => ?_⟩
  · by_cases e : j = J
    · subst e; simp only [pk_us, putN_s]; exact ⟨trivial, trivial, trivial, trivial, trivial, trivial, ha, hb, hk⟩
    · simp only [pk_un e, putN_n e]; exact h4 j (by omega)
  · rw [h5 j hj, hth j (by omega)]
    by_cases e : j = J
    · subst e; simp
    · by_cases e2 : j < J
      · have : j < J + 1 := by omega
        simp [e, e2, this]
      · have : ¬ j < J + 1 := by omega
        simp [e2, this]
  · rcases Nat.lt_or_ge n 64 with q | q
    · rw [hth n q, h6 n (by omega)]
      have : ¬ n = J := by omega
      simp [this]
    · exact tb_ge q
theorem rk_join {J a b : Nat} {fr to pos : Nat → Nat} {th th' : Int64} {S : Nat → Bool} (hlt : J < 40) (hpos : ∀ p, p < 24 → pos p < 24) (hto : ∀ j, j < J → fr j < 24 ∧ to j < 24) (ha : a < 24) (h : ∀ j, j < J → tb th j = true → pos (fr j) < pos (to j)) (hS : Lst J fr to (tb th) a S) (hb : S b = false) (hth : ∀ n, n < 64 → tb th' n = (tb th n || decide (n = J))) (j : Nat) (hj : j < J + 1) (hl : tb th' j = true) : (fun x => if S x = true then pos x else pos x + 24) (putN fr J a j) < (fun x => if S x = true then pos x else pos x + 24) (putN to J b j) := by
  dsimp only
  by_cases e : j = J
  · subst e
    rw [putN_s, putN_s, hS.1, hb]
    have := hpos a ha
    simp; omega
  · rw [putN_n e, putN_n e]
    have hl2 : tb th j = true := by
      rw [hth j (by omega)] at hl
      simpa [e] using hl
    have h1 := h j (by omega) hl2
    have h2 := hpos _ (hto j (by omega)).1
    have h3 := hpos _ (hto j (by omega)).2
    have h4 := hS.2.1 j (by omega) hl2
    cases e1 : S (to j) with
    | true => rw [h4 e1]; simpa using h1
    | false => cases e2 : S (fr j) <;> simp <;> omega
/-- the class's add, behind its tests -/
theorem p_xadd {P T J C a b k : Nat} {fr to kd ord pos sd bg en : Nat → Nat} {u v : WU} {S : Nat → Bool} {post : Int32 → WU → Prop} (hs : Sim1 P T J C fr to kd ord pos sd bg en u v) (hlt : J < 40) (ha : a < P) (hb : b < P) (hk : k < 4) (hS : Lst J fr to (tb (u.2 6 0)) a S) (hSb : S b = false)
    (h : ∀ f3 f6 f7 f8 f9 th' ord' pos' sd' bg' en', (∀ n, n < 64 → tb th' n = (tb (u.2 6 0) n || decide (n = J))) → f3 = upd (u.1 3) J (nI a) → OSf (J + 1) (putN fr J a) (putN to J b) ord' pos' th' f6 → SSf (J + 1) (putN to J b) sd' bg' en' th' f7 f8 f9 → post (nI J) (uI (w3 (uJ (uI (uI (uI (uI u 22 (fun _ => nI (J + 1))) 3 f3) 4 (upd (u.1 4) J (nI b))) 5 (upd (u.1 5) J (nI k))) 6 (fun _ => th')) f7 f8 f9) 6 f6)) : wp_X3_add (nI a) (nI b) (nI k) u post := by
  obtain ⟨hT, hPS, hJS, hO, hSS, hC⟩ := hs
  have hP := hPS.1
  obtain ⟨hJ, j1, j2, j3, j4, j5⟩ := id hJS
  have hin : vp_in (nI J) 40 := vp_in_nI hlt (by decide)
  have hcl : (nI J).toNatClampNeg = J := nI_clamp (by omega)
  intro y hy u2 hu2
  rw [j1] at hy hu2
  subst hy
  rw [nI_1] at hu2
  refine ⟨hin, fun u3 hu3 => ⟨hin, fun u4 hu4 => ⟨hin, fun u5 hu5 u6 hu6 => ?_⟩⟩⟩
  rw [hcl] at hu3 hu4 hu5
  have e6 : u6 = uJ (uI (uI (uI (uI u 22 (fun _ => nI (J + 1))) 3 (upd (u.1 3) J (nI a))) 4 (upd (u.1 4) J (nI b))) 5 (upd (u.1 5) J (nI k))) 6 (fun _ => u.2 6 0 ||| jshl 1 (nI J)) := by
    rw [hu6, hu5, hu4, hu3, hu2]; rfl
  generalize hth : u.2 6 0 ||| jshl 1 (nI J) = th' at e6
  have hbits : ∀ n, n < 64 → tb th' n = (tb (u.2 6 0) n || decide (n = J)) := fun n hn => by rw [← hth, tb_or, tb_bit (by omega) hn]
  have JS1 := js_join hlt ha hb hk hJS hbits
  clear hu2 hu3 hu4 hu5 hu6
  subst e6
  have hf : ∀ j, j < J + 1 → upd (u.1 3) J (nI a) j = nI (putN fr J a j) ∧ putN fr J a j < 24 ∧ putN to J b j < 24 := fun j hj => by
    obtain ⟨q1, q2, q3, q4, q5, q6, q7, q8, q9⟩ := JS1.2.2.2.1 j hj
    exact ⟨q1, by omega, by omega⟩
  refine p_sort (J := J + 1) (to := putN to J b) (by omega) rfl (fun j hj => ⟨(JS1.2.2.2.1 j hj).2.1, (hf j hj).2.2⟩) fun f7 f8 f9 F G => ?_
  have SS1 := ss_of (J := J + 1) (by omega) F G
  have RK := rank_of (fun x => if S x = true then pos x else pos x + 24)
  refine p_order (J := J + 1) (fr := putN fr J a) (to := putN to J b) (rk := fun x => fb_ct (fun z => decide ((if S z = true then pos z else pos z + 24) < (if S x = true then pos x else pos x + 24))) 24) (by omega) hf SS1 (fun j hj hl => RK.1 _ _ (hf j hj).2.1 ?_) RK.2 fun f6 ord' pos' OS1 => ?_
  · exact rk_join hlt (fun p hp => (hO.2.1 p hp).1) (fun j hj => by obtain ⟨q1, q2, q3, q4, q5, q6, q7, q8, q9⟩ := j3 j hj; exact ⟨by omega, by omega⟩) (by omega) hO.2.2 hS hSb hbits j hj hl
  · exact h _ f6 f7 f8 f9 th' ord' pos' _ _ _ hbits rfl OS1 SS1
