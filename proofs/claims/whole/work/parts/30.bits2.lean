/-! ===== the reference's bits: Kernighan's count ===== -/
theorem low_bit : ∀ N : Nat, 0 < N → ∃ k q, N = 2 ^ (k + 1) * q + 2 ^ k := by
  intro N
  induction N using Nat.strongRecOn with
  | _ N ih =>
    intro h
    rcases Nat.mod_two_eq_zero_or_one N with e | e
    · obtain ⟨k, q, hk⟩ := ih (N / 2) (by omega) (by omega)
      refine ⟨k + 1, q, ?_⟩
      have e1 : 2 ^ (k + 1 + 1) = 2 * 2 ^ (k + 1) := by rw [Nat.pow_succ, Nat.mul_comm]
      have e2 : 2 ^ (k + 1) = 2 * 2 ^ k := by rw [Nat.pow_succ, Nat.mul_comm]
      have : N = 2 * (N / 2) := by omega
      rw [this, hk, e1, Nat.mul_add, Nat.mul_assoc, ← e2]
    · exact ⟨0, N / 2, by simp; omega⟩
theorem kern_nat {N : Nat} (h : 0 < N) : ∃ k, N.testBit k = true ∧ ∀ n, (N &&& (N - 1)).testBit n = (N.testBit n && decide (n ≠ k)) := by
  obtain ⟨k, q, hk⟩ := low_bit N h
  have h2 : 2 ^ k < 2 ^ (k + 1) := Nat.pow_lt_pow_right (by omega) (by omega)
  have hp : 0 < 2 ^ k := Nat.two_pow_pos k
  have e1 : N - 1 = 2 ^ (k + 1) * q + (2 ^ k - 1) := by omega
  have t1 : ∀ n, N.testBit n = if n < k + 1 then (2 ^ k).testBit n else q.testBit (n - (k + 1)) := fun n => by rw [hk]; exact Nat.testBit_two_pow_mul_add q h2 n
  have t2 : ∀ n, (N - 1).testBit n = if n < k + 1 then (2 ^ k - 1).testBit n else q.testBit (n - (k + 1)) := fun n => by rw [e1]; exact Nat.testBit_two_pow_mul_add q (by omega) n
  refine ⟨k, ?_, fun n => ?_⟩
  · rw [t1, if_pos (by omega), Nat.testBit_two_pow]; simp
  · rw [Nat.testBit_and, t1, t2]
    by_cases a : n < k + 1
    · rw [if_pos a, if_pos a, Nat.testBit_two_pow, Nat.testBit_two_pow_sub_one]
      by_cases b : k = n
      · subst b; simp
      · simp [b]
    · rw [if_neg a, if_neg a]
      have : n ≠ k := by omega
      simp [this]
theorem kern {x : Int64} (h : ¬ x = 0) : ∃ k, k < 64 ∧ tb x k = true ∧ ∀ n, tb (x &&& (x - 1)) n = (tb x n && decide (n ≠ k)) := by
  have hN : 0 < x.toBitVec.toNat := by
    rcases Nat.eq_zero_or_pos x.toBitVec.toNat with z | z
    · exact absurd (Int64.toBitVec_inj.mp (BitVec.eq_of_toNat_eq (by rw [z]; rfl))) h
    · exact z
  obtain ⟨k, h1, h2⟩ := kern_nat hN
  have hb : x.toBitVec.toNat < 2 ^ 64 := x.toBitVec.isLt
  have hs : (x - 1).toBitVec.toNat = x.toBitVec.toNat - 1 := by
    rw [Int64.toBitVec_sub, BitVec.toNat_sub]
    have : (1 : Int64).toBitVec.toNat = 1 := by decide
    rw [this]
    omega
  refine ⟨k, ?_, h1, fun n => ?_⟩
  · rcases Nat.lt_or_ge k 64 with z | z
    · exact z
    · have : tb x k = false := tb_ge z
      rw [show tb x k = x.toBitVec.toNat.testBit k from rfl, h1] at this
      exact absurd this (by decide)
  · have := h2 n
    rw [← hs] at this
    rw [tb_and]
    show (x.toBitVec.toNat.testBit n && (x - 1).toBitVec.toNat.testBit n) = (x.toBitVec.toNat.testBit n && decide (n ≠ k))
    rw [← Nat.testBit_and]
    exact this
theorem kern_ct {x : Int64} (h : ¬ x = 0) : fb_ct (tb (x &&& (x - 1))) 64 + 1 = fb_ct (tb x) 64 := by
  obtain ⟨k, hk, h1, h2⟩ := kern h
  have b := fb_ct_upd (tb x) false hk
  rw [h1] at b
  have c : fb_ct (tb (x &&& (x - 1))) 64 = fb_ct (fun n => if n = k then false else tb x n) 64 := fb_ct_cong fun n _ => by
    rw [h2]
    by_cases e : n = k <;> simp [e]
  rw [c]
  exact b
theorem p_bits {x : Int64} {post : Int32 → Prop} (h : post (nI (fb_ct (tb x) 64))) : wp_X9_bits x post := by
  unfold wp_X9_bits
  have L : ∀ (n : Nat) (y : Int64) (c : Nat), fb_ct (tb y) 64 = n → c + n = fb_ct (tb x) 64 → wp_X9_bits_L4 post (n + 1) (nI c) y := by
    intro n
    induction n with
    | zero =>
      intro y c h1 h2
      refine ⟨fun _ => by rw [show c = fb_ct (tb x) 64 by omega]; exact h, fun hc => ?_⟩
      have : ¬ y = 0 := fun z => hc ((lgc_0 _ _).mpr z)
      have := kern_ct this
      omega
    | succ n ih =>
      intro y c h1 h2
      refine ⟨fun hc => ?_, fun hc y1 hy1 y2 hy2 => ?_⟩
      · exfalso
        have : y = 0 := (lgc_0 _ _).mp hc
        subst this
        have : fb_ct (tb 0) 64 = 0 := fb_ct_zero.mpr fun k _ => tb_zero k
        omega
      · have hne : ¬ y = 0 := fun z => hc ((lgc_0 _ _).mpr z)
        have := kern_ct hne
        rw [hy1, nI_1, hy2]
        exact ih _ _ (by omega) (by omega)
  exact ⟨fb_ct (tb x) 64 + 1, L _ x 0 rfl (by omega)⟩
