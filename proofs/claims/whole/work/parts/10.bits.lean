/-! ===== ints and longs by their bits ===== -/
def tb (x : Int64) (n : Nat) : Bool := x.toBitVec.getLsbD n
def ti (x : Int32) (n : Nat) : Bool := x.toBitVec.getLsbD n
theorem tb_ext {x y : Int64} (h : ∀ n, n < 64 → tb x n = tb y n) : x = y := Int64.toBitVec_inj.mp (BitVec.eq_of_getLsbD_eq fun i hi => h i hi)
theorem ti_ext {x y : Int32} (h : ∀ n, n < 32 → ti x n = ti y n) : x = y := Int32.toBitVec_inj.mp (BitVec.eq_of_getLsbD_eq fun i hi => h i hi)
theorem tb_and (x y : Int64) (n : Nat) : tb (x &&& y) n = (tb x n && tb y n) := by unfold tb; rw [Int64.toBitVec_and, BitVec.getLsbD_and]
theorem tb_or (x y : Int64) (n : Nat) : tb (x ||| y) n = (tb x n || tb y n) := by unfold tb; rw [Int64.toBitVec_or, BitVec.getLsbD_or]
theorem tb_xor (x y : Int64) (n : Nat) : tb (x ^^^ y) n = (tb x n ^^ tb y n) := by unfold tb; rw [Int64.toBitVec_xor, BitVec.getLsbD_xor]
theorem ti_and (x y : Int32) (n : Nat) : ti (x &&& y) n = (ti x n && ti y n) := by unfold ti; rw [Int32.toBitVec_and, BitVec.getLsbD_and]
theorem ti_or (x y : Int32) (n : Nat) : ti (x ||| y) n = (ti x n || ti y n) := by unfold ti; rw [Int32.toBitVec_or, BitVec.getLsbD_or]
theorem ti_xor (x y : Int32) (n : Nat) : ti (x ^^^ y) n = (ti x n ^^ ti y n) := by unfold ti; rw [Int32.toBitVec_xor, BitVec.getLsbD_xor]
theorem tb_ge {x : Int64} {n : Nat} (h : 64 ≤ n) : tb x n = false := BitVec.getLsbD_of_ge _ _ h
theorem ti_ge {x : Int32} {n : Nat} (h : 32 ≤ n) : ti x n = false := BitVec.getLsbD_of_ge _ _ h
theorem tb_zero (n : Nat) : tb 0 n = false := by unfold tb; simp
theorem ti_zero (n : Nat) : ti 0 n = false := by unfold ti; simp
theorem tb_m1 : ∀ n, n < 64 → tb (-1) n = true := by decide +kernel
theorem ti_m1 : ∀ n, n < 32 → ti (-1) n = true := by decide +kernel
theorem tb_not (x : Int64) {n : Nat} (h : n < 64) : tb (x ^^^ (-1)) n = !tb x n := by rw [tb_xor, tb_m1 n h]; cases tb x n <;> rfl
theorem ti_not (x : Int32) {n : Nat} (h : n < 32) : ti (x ^^^ (-1)) n = !ti x n := by rw [ti_xor, ti_m1 n h]; cases ti x n <;> rfl
theorem s6_l : ∀ k, k < 64 → (((nI k).toInt64 &&& 63).toBitVec.smod 64).toNat = k := by decide +kernel
theorem s6_u : ∀ k, k < 64 → (((nI k).toInt64.toUInt64 &&& Int64.toUInt64 63).toBitVec % 64).toNat = k := by decide +kernel
theorem s5_l : ∀ n, n < 32 → ((nI n &&& 31).toBitVec.smod 32).toNat = n := by decide +kernel
theorem s5_u : ∀ n, n < 32 → (((nI n).toUInt32 &&& Int32.toUInt32 31).toBitVec % 32).toNat = n := by decide +kernel
theorem tb_jshl (x : Int64) {k n : Nat} (hk : k < 64) (hn : n < 64) : tb (jshl x (nI k)) n = (decide (k ≤ n) && tb x (n - k)) := by
  unfold tb jshl
  rw [Int64.toBitVec_shiftLeft]
  show (x.toBitVec <<< (((nI k).toInt64 &&& 63).toBitVec.smod 64).toNat).getLsbD n = _
  rw [s6_l k hk, BitVec.getLsbD_shiftLeft]
  rcases Nat.lt_or_ge n k with h | h
  · simp [h, Nat.not_le.mpr h]
  · simp [hn, h, Nat.not_lt.mpr h]
theorem tb_jushr (x : Int64) {k : Nat} (n : Nat) (hk : k < 64) : tb (jushr x (nI k)) n = tb x (k + n) := by
  show (x.toUInt64 >>> ((nI k).toInt64.toUInt64 &&& Int64.toUInt64 63)).toBitVec.getLsbD n = x.toUInt64.toBitVec.getLsbD (k + n)
  rw [UInt64.toBitVec_shiftRight]
  show (x.toUInt64.toBitVec >>> (((nI k).toInt64.toUInt64 &&& Int64.toUInt64 63).toBitVec % 64).toNat).getLsbD n = _
  rw [s6_u k hk, BitVec.getLsbD_ushiftRight]
theorem tb_jshr (x : Int64) {k n : Nat} (hk : k < 64) (hn : k + n < 64) : tb (jshr x (nI k)) n = tb x (k + n) := by
  unfold tb jshr
  rw [Int64.toBitVec_shiftRight]
  show (x.toBitVec.sshiftRight (((nI k).toInt64 &&& 63).toBitVec.smod 64).toNat).getLsbD n = _
  rw [s6_l k hk, BitVec.getLsbD_sshiftRight]
  simp [hn]
  omega
theorem ti_shl (x : Int32) {k n : Nat} (hk : k < 32) (hn : n < 32) : ti (x <<< (nI k &&& 31)) n = (decide (k ≤ n) && ti x (n - k)) := by
  unfold ti
  rw [Int32.toBitVec_shiftLeft]
  show (x.toBitVec <<< ((nI k &&& 31).toBitVec.smod 32).toNat).getLsbD n = _
  rw [s5_l k hk, BitVec.getLsbD_shiftLeft]
  rcases Nat.lt_or_ge n k with h | h
  · simp [h, Nat.not_le.mpr h]
  · simp [hn, h, Nat.not_lt.mpr h]
theorem ti_shr (x : Int32) {k n : Nat} (hk : k < 32) (hn : k + n < 32) : ti (x >>> (nI k &&& 31)) n = ti x (k + n) := by
  unfold ti
  rw [Int32.toBitVec_shiftRight]
  show (x.toBitVec.sshiftRight ((nI k &&& 31).toBitVec.smod 32).toNat).getLsbD n = _
  rw [s5_l k hk, BitVec.getLsbD_sshiftRight]
  simp [hn]
  omega
theorem tb_one : ∀ n, n < 64 → tb 1 n = decide (n = 0) := by decide +kernel
theorem ti_one : ∀ n, n < 32 → ti 1 n = decide (n = 0) := by decide +kernel
theorem tb_bit {k n : Nat} (hk : k < 64) (hn : n < 64) : tb (jshl 1 (nI k)) n = decide (n = k) := by
  rw [tb_jshl 1 hk hn, tb_one (n - k) (by omega)]
  by_cases h : k ≤ n <;> by_cases h2 : n = k <;> simp [h, h2] <;> omega
theorem ti_bit {k n : Nat} (hk : k < 32) (hn : n < 32) : ti (1 <<< (nI k &&& 31)) n = decide (n = k) := by
  rw [ti_shl 1 hk hn, ti_one (n - k) (by omega)]
  by_cases h : k ≤ n <;> by_cases h2 : n = k <;> simp [h, h2] <;> omega
theorem tb_i2l (x : Int32) {n : Nat} (hn : n < 32) : tb x.toInt64 n = ti x n := by
  unfold tb ti
  rw [Int32.toBitVec_toInt64, BitVec.getLsbD_signExtend]
  simp [hn]
  omega
theorem ti_nI (v n : Nat) : ti (nI v) n = (decide (n < 32) && v.testBit n) := by
  show (BitVec.ofNat 32 v).getLsbD n = _
  rw [BitVec.getLsbD_ofNat]
theorem tb_lN (v n : Nat) : tb (lN v) n = (decide (n < 64) && v.testBit n) := by
  show (BitVec.ofNat 64 v).getLsbD n = _
  rw [BitVec.getLsbD_ofNat]
theorem tb_l2i (x : Int64) {n : Nat} (hn : n < 32) : ti x.toInt32 n = tb x n := by
  unfold tb ti
  rw [Int64.toBitVec_toInt32, BitVec.getLsbD_signExtend]
  simp [hn]
  omega
theorem tb_and1 (x : Int64) : x &&& 1 = 0 ↔ tb x 0 = false := by
  constructor
  · intro h
    have := congrArg (fun z => tb z 0) h
    simp only [tb_and, tb_zero, tb_one 0 (by omega)] at this
    simpa using this
  · intro h
    refine tb_ext fun n hn => ?_
    rw [tb_and, tb_one n hn, tb_zero]
    by_cases h0 : n = 0
    · subst h0; rw [h]; rfl
    · simp [h0]
theorem ti_and1 (x : Int32) : x &&& 1 = 0 ↔ ti x 0 = false := by
  constructor
  · intro h
    have := congrArg (fun z => ti z 0) h
    simp only [ti_and, ti_zero, ti_one 0 (by omega)] at this
    simpa using this
  · intro h
    refine ti_ext fun n hn => ?_
    rw [ti_and, ti_one n hn, ti_zero]
    by_cases h0 : n = 0
    · subst h0; rw [h]; rfl
    · simp [h0]
theorem ti_and1' (x : Int32) : x &&& 1 = 1 ↔ ti x 0 = true := by
  constructor
  · intro h
    have := congrArg (fun z => ti z 0) h
    simp only [ti_and, ti_one 0 (by omega)] at this
    simpa using this
  · intro h
    refine ti_ext fun n hn => ?_
    rw [ti_and, ti_one n hn]
    by_cases h0 : n = 0
    · subst h0; rw [h]; rfl
    · simp [h0]
theorem lgc_0 (x y : Int64) : lg_cmp x y = 0 ↔ x = y := by
  unfold lg_cmp
  by_cases h : x > y
  · have hne : x ≠ y := by intro e; subst e; exact absurd h (by simp [Int64.lt_irrefl])
    simp [h, hne]
  · by_cases h2 : x = y <;> simp [h, h2]
def b01 (b : Bool) : Int32 := if b then 1 else 0
theorem b01_0 (b : Bool) : b01 b = 0 ↔ b = false := by cases b <;> decide
theorem b01_bl (b : Bool) : bl (b01 b) := by cases b <;> rfl
theorem h_holds (x : Int64) {k : Nat} (hk : k < 64) {post : Int32 → Prop} (h : post (b01 (tb x k))) : wp_X8_holds x (nI k) post := by
  unfold wp_X8_holds
  have e : lg_cmp (jushr x (nI k) &&& 1) 0 = 0 ↔ tb x k = false := by rw [lgc_0, tb_and1, tb_jushr x 0 hk]; rfl
  refine ⟨fun hc => ?_, fun hc => ?_⟩
  · rw [e.mp hc] at h; exact h
  · have : tb x k = true := by
      cases hb : tb x k with
      | true => rfl
      | false => exact absurd (e.mpr hb) hc
    rw [this] at h; exact h
