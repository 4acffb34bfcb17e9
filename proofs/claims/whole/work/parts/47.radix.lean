/-! ===== judge: numbers in mixed radix, sums along a line ===== -/
def rv (m a : Nat → Nat) : Nat → Nat
  | 0 => 0
  | k + 1 => rv m a k * m k + a k
def pr (m : Nat → Nat) : Nat → Nat
  | 0 => 1
  | k + 1 => pr m k * m k
theorem rv_s (m a : Nat → Nat) (k : Nat) : rv m a (k + 1) = rv m a k * m k + a k := rfl
theorem pr_s (m : Nat → Nat) (k : Nat) : pr m (k + 1) = pr m k * m k := rfl
theorem rv_cong {m a b : Nat → Nat} : ∀ {n : Nat}, (∀ k, k < n → a k = b k) → rv m a n = rv m b n
  | 0, _ => rfl
  | n + 1, h => by rw [rv_s, rv_s, rv_cong (fun k hk => h k (by omega)), h n (by omega)]
theorem rv_next {m a b : Nat → Nat} {k : Nat} (h : rv m a k < rv m b k) (ha : a k < m k) : rv m a (k + 1) < rv m b (k + 1) := by
  rw [rv_s, rv_s]
  have h1 : (rv m a k + 1) * m k ≤ rv m b k * m k := Nat.mul_le_mul_right _ h
  rw [Nat.add_mul, Nat.one_mul] at h1
  omega
theorem rv_up {m a b : Nat → Nat} {k : Nat} (h : rv m a k < rv m b k) : ∀ d, (∀ i, k ≤ i → i < k + d → a i < m i) → rv m a (k + d) < rv m b (k + d)
  | 0, _ => h
  | d + 1, ha => rv_next (rv_up h d (fun i h1 h2 => ha i h1 (by omega))) (ha (k + d) (by omega) (by omega))
theorem rv_lt {m a : Nat → Nat} : ∀ {n : Nat}, (∀ k, k < n → a k < m k) → rv m a n < pr m n
  | 0, _ => Nat.zero_lt_one
  | n + 1, h => by
    rw [rv_s, pr_s]
    have h1 : (rv m a n + 1) * m n ≤ pr m n * m n := Nat.mul_le_mul_right _ (rv_lt fun k hk => h k (by omega))
    rw [Nat.add_mul, Nat.one_mul] at h1
    have := h n (by omega)
    omega
theorem rv_lex {m a b : Nat → Nat} {n k : Nat} (hk : k < n) (he : ∀ i, i < k → a i = b i) (hl : a k < b k) (ha : ∀ i, i < n → a i < m i) : rv m a n < rv m b n := by
  have h1 : rv m a (k + 1) < rv m b (k + 1) := by rw [rv_s, rv_s, rv_cong he]; omega
  have := rv_up h1 (n - (k + 1)) (fun i _ h2 => ha i (by omega))
  rwa [show k + 1 + (n - (k + 1)) = n by omega] at this
theorem rv_inj {m a b : Nat → Nat} {n : Nat} (ha : ∀ i, i < n → a i < m i) (hb : ∀ i, i < n → b i < m i) (h : rv m a n = rv m b n) : ∀ i, i < n → a i = b i := by
  intro i
  induction i using Nat.strongRecOn with
  | _ i ih =>
    intro hi
    rcases Nat.lt_trichotomy (a i) (b i) with z | z | z
    · have := rv_lex hi (fun j hj => ih j hj (by omega)) z ha; omega
    · exact z
    · have := rv_lex hi (fun j hj => (ih j hj (by omega)).symm) z hb; omega
theorem rv_zero {m a b : Nat → Nat} {k : Nat} (h : rv m b k ≤ rv m a k) : ∀ d, (∀ i, k ≤ i → i < k + d → b i = 0) → rv m b (k + d) ≤ rv m a (k + d)
  | 0, _ => h
  | d + 1, hb => by
    have ih := rv_zero h d (fun i h1 h2 => hb i h1 (by omega))
    show rv m b (k + d) * m (k + d) + b (k + d) ≤ rv m a (k + d) * m (k + d) + a (k + d)
    rw [hb (k + d) (by omega) (by omega)]
    have := Nat.mul_le_mul_right (m (k + d)) ih
    omega
/-- which parts stand in the first k places of a line -/
def inl_ (ln : Nat → Nat) : Nat → Nat → Bool
  | 0, _ => false
  | k + 1, p => inl_ ln k p || decide (ln k = p)
theorem inl_iff {ln : Nat → Nat} {p : Nat} : ∀ {k : Nat}, inl_ ln k p = true ↔ ∃ i, i < k ∧ ln i = p
  | 0 => ⟨fun h => absurd (show false = true from h) (by decide), fun ⟨i, hi, _⟩ => absurd hi (Nat.not_lt_zero _)⟩
  | k + 1 => by
    show (inl_ ln k p || decide (ln k = p)) = true ↔ _
    rw [Bool.or_eq_true, inl_iff]
    constructor
    · rintro (⟨i, h1, h2⟩ | h)
      · exact ⟨i, by omega, h2⟩
      · exact ⟨k, by omega, by simpa using h⟩
    · rintro ⟨i, h1, h2⟩
      by_cases e : i = k
      · subst e; exact Or.inr (by simpa using h2)
      · exact Or.inl ⟨i, by omega, h2⟩
theorem sm_line {ln : Nat → Nat} (g : Nat → Nat) {N : Nat} : ∀ {len : Nat}, (∀ k, k < len → ln k < N) → (∀ i k, i < k → k < len → ln i ≠ ln k) → fb_sm (fun k => g (ln k)) len = fb_sm (fun p => if inl_ ln len p = true then g p else 0) N
  | 0, _, _ => by
    have : fb_sm (fun p => if inl_ ln 0 p = true then g p else 0) N = fb_sm (fun _ => 0) N := fb_sm_cong fun k _ => rfl
    rw [this, fb_sm_const]; rfl
  | len + 1, h1, h2 => by
    have ih := sm_line g (ln := ln) (N := N) (len := len) (fun k hk => h1 k (by omega)) (fun i k hik hk => h2 i k hik (by omega))
    rw [fb_sm_succ, ih]
    have hno : inl_ ln len (ln len) = false := by
      cases hb : inl_ ln len (ln len) with
      | false => rfl
      | true =>
        obtain ⟨i, hi, e⟩ := inl_iff.mp hb
        exact absurd e (h2 i len hi (by omega))
    have hu := fb_sm_upd (fun p => if inl_ ln len p = true then g p else 0) (g (ln len)) (h1 len (by omega))
    have hc : fb_sm (fun p => if inl_ ln (len + 1) p = true then g p else 0) N = fb_sm (fun k => if k = ln len then g (ln len) else (fun p => if inl_ ln len p = true then g p else 0) k) N := fb_sm_cong fun k _ => by
      show (if (inl_ ln len k || decide (ln len = k)) = true then g k else 0) = _
      by_cases e : k = ln len
      · subst e; simp
      · have : ¬ ln len = k := fun z => e z.symm
        simp [e, this]
    rw [hc]
    rw [hno] at hu
    have hu' : fb_sm (fun k => if k = ln len then g (ln len) else (if inl_ ln len k = true then g k else 0)) N + 0 = fb_sm (fun p => if inl_ ln len p = true then g p else 0) N + g (ln len) := hu
    exact hu'.symm
theorem pr_23 {f : Nat → Nat} : ∀ {n : Nat}, (∀ k, k < n → 1 ≤ f k ∧ f k ≤ 3) → pr f n = 2 ^ fb_sm (fun k => if f k = 2 then 1 else 0) n * 3 ^ fb_sm (fun k => if f k = 3 then 1 else 0) n
  | 0, _ => rfl
  | n + 1, h => by
    rw [pr_s, pr_23 (fun k hk => h k (by omega)), fb_sm_succ, fb_sm_succ]
    generalize fb_sm (fun k => if f k = 2 then 1 else 0) n = x
    generalize fb_sm (fun k => if f k = 3 then 1 else 0) n = y
    obtain ⟨h1, h2⟩ := h n (by omega)
    rcases (show f n = 1 ∨ f n = 2 ∨ f n = 3 by omega) with e | e | e
    · simp [e]
    · simp only [e]
      simp [Nat.pow_succ]
      rw [Nat.mul_assoc, Nat.mul_assoc, Nat.mul_comm (3 ^ y) 2]
    · simp only [e]
      simp [Nat.pow_succ]
      rw [Nat.mul_assoc]
def mS (S : Nat → Bool) (m : Nat → Nat) (p : Nat) : Nat := if S p = true then m p else 1
theorem pw_pr (S : Nat → Bool) (m : Nat → Nat) : ∀ n, pw S m n = pr (mS S m) n
  | 0 => rfl
  | n + 1 => by
    rw [pr_s, ← pw_pr S m n]
    show (if S n = true then pw S m n * m n else pw S m n) = pw S m n * (if S n = true then m n else 1)
    split <;> simp
theorem pr_line {ln : Nat → Nat} {S : Nat → Bool} {m : Nat → Nat} {N len : Nat} (h1 : ∀ k, k < len → ln k < N) (h2 : ∀ i k, i < k → k < len → ln i ≠ ln k) (hS : ∀ p, p < N → (S p = true ↔ ∃ k, k < len ∧ ln k = p)) (hm : ∀ p, p < N → S p = true → 1 ≤ m p ∧ m p ≤ 3) : pr (fun k => m (ln k)) len = pr (mS S m) N := by
  have hin : ∀ p, p < N → inl_ ln len p = S p := fun p hp => bool_iff (inl_iff.trans (hS p hp).symm)
  have hl : ∀ k, k < len → 1 ≤ m (ln k) ∧ m (ln k) ≤ 3 := fun k hk => hm _ (h1 k hk) ((hS _ (h1 k hk)).mpr ⟨k, hk, rfl⟩)
  have hp : ∀ p, p < N → 1 ≤ mS S m p ∧ mS S m p ≤ 3 := fun p hp => by
    unfold mS
    split
    · exact hm p hp (by assumption)
    · omega
  have hs : ∀ c, 2 ≤ c → fb_sm (fun k => if m (ln k) = c then 1 else 0) len = fb_sm (fun p => if mS S m p = c then 1 else 0) N := fun c hc => by
    rw [sm_line (fun p => if m p = c then 1 else 0) h1 h2]
    refine fb_sm_cong fun p hpN => ?_
    rw [hin p hpN]
    unfold mS
    by_cases e : S p = true
    · simp [e]
    · simp [e]; omega
  rw [pr_23 hl, pr_23 hp, hs 2 (by omega), hs 3 (by omega)]
/-! ===== judge: the class's worlds; keys ===== -/
/-- w has all that u has but for judge's own rows -/
def Kp (u w : WU) : Prop := (∀ k, k < 14 ∨ (18 ≤ k ∧ k < 24) → w.1 k = u.1 k) ∧ (∀ k, k ≠ 4 → w.2 k = u.2 k)
theorem va_up_n {α : Type} (f : Nat → α) (k : Nat) (x : α) {j : Nat} (h : j ≠ k) : va_up f k x j = f j := by unfold va_up; simp [h]
theorem Kp.rf (u : WU) : Kp u u := ⟨fun _ _ => rfl, fun _ _ => rfl⟩
theorem Kp.i {u w : WU} (h : Kp u w) {k : Nat} (hk : (14 ≤ k ∧ k < 18) ∨ 24 ≤ k) (f : Nat → Int32) : Kp u (uI w k f) := ⟨fun j hj => (va_up_n w.1 k f (by omega)).trans (h.1 j hj), h.2⟩
theorem Kp.j {u w : WU} (h : Kp u w) (A : Nat → Int64) : Kp u (uJ w 4 A) := ⟨h.1, fun j hj => (va_up_n w.2 4 A hj).trans (h.2 j hj)⟩
theorem Kp.sim {P T J C : Nat} {fr to kd ord pos sd bg en : Nat → Nat} {u v w : WU} (h : Kp u w) (hs : Sim1 P T J C fr to kd ord pos sd bg en u v) (h0 : w.1 17 0 = 0) : Sim1 P T J C fr to kd ord pos sd bg en w v := by
  obtain ⟨a, b⟩ := h
  obtain ⟨⟨hT, -⟩, hPS, hJS, hO, hSS, hC⟩ := hs
  unfold Sim1 TS PS JS OS SS CS
  rw [a 0 (by omega), a 1 (by omega), a 2 (by omega), a 3 (by omega), a 4 (by omega), a 5 (by omega), a 6 (by omega), a 7 (by omega), a 8 (by omega), a 9 (by omega), a 10 (by omega), a 11 (by omega), a 12 (by omega), a 13 (by omega), a 20 (by omega), a 21 (by omega), a 22 (by omega), a 23 (by omega), b 0 (by omega), b 1 (by omega), b 2 (by omega), b 3 (by omega), b 6 (by omega)]
  exact ⟨⟨hT, h0⟩, hPS, hJS, hO, hSS, hC⟩
def lqF (v : WU) (a : Nat → Nat) (p : Nat) : Nat := (v.1 2 (3 * p + a p)).toNatClampNeg
def KeyIs (P T J s : Nat) (fr to kd : Nat → Nat) (S : Nat → Bool) (u v : WU) (a : Nat → Nat) (n k : Nat) : Prop := ∃ A : Nat → Int64, (∀ p, S p = true → ComAt J fr to kd (tb (u.2 6 0)) (u.2 1) (brX (u.2 0 s) (v.1 2 (3 * p + a p)) (u.2 3 p)) A p) ∧ n = qsum S (fun p => A p &&& u.2 2 (lqF v a p)) P ∧ k = fb_ct (tb (A T)) 64
def ValidA (S : Nat → Bool) (m a : Nat → Nat) : Prop := (∀ p, S p = true → a p < m p) ∧ (∀ p, S p = false → a p = 0)
theorem ValidA.lt {S : Nat → Bool} {m a : Nat → Nat} (h : ValidA S m a) (p : Nat) : a p < mS S m p := by
  unfold mS
  cases e : S p with
  | true => simpa using h.1 p e
  | false => simpa using h.2 p e
/-- (n, k, i) is no worse than (n', k', i') -/
def nbF (n k i n' k' i' : Nat) : Prop := n < n' ∨ (n = n' ∧ (k < k' ∨ (k = k' ∧ i ≤ i')))
theorem qsum_congS {S : Nat → Bool} {F F' : Nat → Int64} {P : Nat} (h : ∀ p, p < P → S p = true → F p = F' p) : qsum S F P = qsum S F' P := fb_sm_cong fun k hk => by
  by_cases e : S k = true
  · rw [if_pos e, if_pos e, h k hk e]
  · rw [if_neg e, if_neg e]
theorem key_one {P T J C s : Nat} {fr to kd ord pos sd bg en : Nat → Nat} {S : Nat → Bool} {u v : WU} {a b : Nat → Nat} {n k n' k' : Nat} (hs1 : Sim1 P T J C fr to kd ord pos sd bg en u v) (hS : Lst J fr to (tb (u.2 6 0)) T S) (he : ∀ p, S p = true → a p = b p) (h : KeyIs P T J s fr to kd S u v a n k) (h' : KeyIs P T J s fr to kd S u v b n' k') : n = n' ∧ k = k' := by
  obtain ⟨A, h1, h2, h3⟩ := h
  obtain ⟨B, g1, g2, g3⟩ := h'
  have hAB : ∀ p, S p = true → A p = B p := com_one (D := S) (b := fun p => brX (u.2 0 s) (v.1 2 (3 * p + a p)) (u.2 3 p)) (fun j hj hl => hs1.2.2.2.1.2.2 j hj hl) (fun j hj hl ht => hS.2.1 j hj hl ht) h1 (fun p hp => by rw [he p hp]; exact g1 p hp)
  refine ⟨?_, by rw [h3, g3, hAB T hS.1]⟩
  rw [h2, g2]
  refine qsum_congS fun p _ e => ?_
  have : lqF v a p = lqF v b p := by unfold lqF; rw [he p e]
  rw [hAB p e, this]
