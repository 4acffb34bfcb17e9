/-! ===== bitCount by bytes ===== -/
theorem and_256 (X M c m : Nat) (hc : c < 256) (hm : m < 256) : (256 * X + c) &&& (256 * M + m) = 256 * (X &&& M) + (c &&& m) := by
  have h0 : c &&& m < 256 := Nat.lt_of_le_of_lt Nat.and_le_left hc
  apply Nat.eq_of_testBit_eq
  intro i
  have e : (256 : Nat) = 2 ^ 8 := rfl
  rw [e] at hc hm h0 ⊢
  rw [Nat.testBit_and, Nat.testBit_two_pow_mul_add X hc, Nat.testBit_two_pow_mul_add M hm, Nat.testBit_two_pow_mul_add (X &&& M) h0]
  by_cases h : i < 8
  · rw [if_pos h, if_pos h, if_pos h, Nat.testBit_and]
  · rw [if_neg h, if_neg h, if_neg h, Nat.testBit_and]
def mk8 (c : Nat) : Nat → Nat
  | 0 => 0
  | k + 1 => 256 * mk8 c k + c
def sw1 (k N : Nat) : Nat := N - ((N / 2) &&& mk8 85 k)
def sw2 (k N : Nat) : Nat := (N &&& mk8 51 k) + ((N / 4) &&& mk8 51 k)
def sw3 (k N : Nat) : Nat := (N + N / 16) &&& mk8 15 k
theorem d_sw1 : ∀ a, a < 2 → ∀ b, b < 256 → (128 * a + b / 2) &&& 85 = (b / 2) &&& 85 := by decide +kernel
theorem d_sw2 : ∀ a, a < 4 → ∀ b, b < 256 → (64 * a + b / 4) &&& 51 = (b / 4) &&& 51 := by decide +kernel
theorem d_t1 : ∀ b, b < 256 → sw1 1 b < 256 ∧ sw2 1 (sw1 1 b) ≤ 68 ∧ sw2 1 (sw1 1 b) % 16 ≤ 4 ∧ sw3 1 (sw2 1 (sw1 1 b)) = fb_ct b.testBit 8 := by decide +kernel
theorem m85 : mk8 85 1 = 85 := rfl
theorem m51 : mk8 51 1 = 51 := rfl
theorem m15 : mk8 15 1 = 15 := rfl
theorem sw1_step (k A b : Nat) (hb : b < 256) : sw1 (k + 1) (256 * A + b) = 256 * sw1 k A + sw1 1 b := by
  unfold sw1
  rw [m85]
  have e : (256 * A + b) / 2 = 256 * (A / 2) + (128 * (A % 2) + b / 2) := by omega
  rw [e, show mk8 85 (k + 1) = 256 * mk8 85 k + 85 from rfl, and_256 _ _ _ _ (by omega) (by omega), d_sw1 _ (by omega) _ hb]
  have h1 : (A / 2) &&& mk8 85 k ≤ A / 2 := Nat.and_le_left
  have h2 : (b / 2) &&& 85 ≤ b / 2 := Nat.and_le_left
  omega
theorem sw2_step (k A b : Nat) (hb : b < 256) : sw2 (k + 1) (256 * A + b) = 256 * sw2 k A + sw2 1 b := by
  unfold sw2
  rw [m51]
  have e : (256 * A + b) / 4 = 256 * (A / 4) + (64 * (A % 4) + b / 4) := by omega
  rw [e, show mk8 51 (k + 1) = 256 * mk8 51 k + 51 from rfl, and_256 _ _ _ _ (by omega) (by omega), and_256 _ _ _ _ (by omega) (by omega), d_sw2 _ (by omega) _ hb]
  omega
theorem sw3_step (k X y : Nat) (hX : X % 16 ≤ 4) (hy : y ≤ 68) : sw3 (k + 1) (256 * X + y) = 256 * sw3 k X + sw3 1 y := by
  unfold sw3
  rw [m15]
  have e : 256 * X + y + (256 * X + y) / 16 = 256 * (X + X / 16) + (16 * (X % 16) + y + y / 16) := by omega
  rw [e, show mk8 15 (k + 1) = 256 * mk8 15 k + 15 from rfl, and_256 _ _ _ _ (by omega) (by omega)]
  have m : (15 : Nat) = 2 ^ 4 - 1 := rfl
  rw [m, Nat.and_two_pow_sub_one_eq_mod, Nat.and_two_pow_sub_one_eq_mod]
  omega
def swt (k N : Nat) : Nat := sw2 k (sw1 k N)
def swa (k N : Nat) : Nat := sw3 k (swt k N)
theorem swt_step (k A b : Nat) (hb : b < 256) : swt (k + 1) (256 * A + b) = 256 * swt k A + swt 1 b := by
  unfold swt
  rw [sw1_step k A b hb, sw2_step k _ _ (d_t1 b hb).1]
theorem swt_low (k A : Nat) : swt k A % 16 ≤ 4 := by
  cases k with
  | zero =>
    have : swt 0 A = 0 := by
      unfold swt sw2
      rw [show mk8 51 0 = 0 from rfl, Nat.and_zero, Nat.and_zero]
    rw [this]; decide
  | succ k =>
    have e : A = 256 * (A / 256) + A % 256 := by omega
    rw [e, swt_step k _ _ (by omega)]
    have := (d_t1 (A % 256) (by omega)).2.2.1
    have e2 : swt 1 (A % 256) = sw2 1 (sw1 1 (A % 256)) := rfl
    rw [e2]
    omega
theorem swa_step (k A b : Nat) (hb : b < 256) : swa (k + 1) (256 * A + b) = 256 * swa k A + fb_ct b.testBit 8 := by
  unfold swa
  rw [swt_step k A b hb, sw3_step k _ (swt 1 b) (swt_low k A) (d_t1 b hb).2.1]
  rw [show sw3 1 (swt 1 b) = fb_ct b.testBit 8 from (d_t1 b hb).2.2.2]
theorem swa_div (k N : Nat) : swa (k + 1) N = 256 * swa k (N / 256) + fb_ct (N % 256).testBit 8 := by
  have e : N = 256 * (N / 256) + N % 256 := by omega
  have := swa_step k (N / 256) (N % 256) (by omega)
  rw [← e] at this
  exact this
theorem ct_byte (N m : Nat) : fb_ct N.testBit (8 + m) = fb_ct (N % 256).testBit 8 + fb_ct (N / 256).testBit m := by
  rw [fb_ct_split]
  have e1 : fb_ct N.testBit 8 = fb_ct (N % 256).testBit 8 := fb_ct_cong fun k hk => by
    rw [show (256 : Nat) = 2 ^ 8 from rfl, Nat.testBit_mod_two_pow]
    simp [hk]
  have e2 : fb_ct (fun k => N.testBit (8 + k)) m = fb_ct (N / 256).testBit m := fb_ct_cong fun k _ => by
    rw [show (256 : Nat) = 2 ^ 8 from rfl, Nat.testBit_div_two_pow, Nat.add_comm]
  rw [e1, e2]
theorem swa_zero (N : Nat) : swa 0 N = 0 := by
  unfold swa sw3
  rw [show mk8 15 0 = 0 from rfl, Nat.and_zero]
def fin8 (S : Nat) : Nat := ((S + S / 256) + (S + S / 256) / 65536) + ((S + S / 256) + (S + S / 256) / 65536) / 4294967296
theorem swa_8 (N : Nat) : fin8 (swa 8 N) % 128 = fb_ct N.testBit 64 := by
  have c0 := ct_byte N 56
  have c1 := ct_byte (N / 256) 48
  have c2 := ct_byte (N / 256 / 256) 40
  have c3 := ct_byte (N / 256 / 256 / 256) 32
  have c4 := ct_byte (N / 256 / 256 / 256 / 256) 24
  have c5 := ct_byte (N / 256 / 256 / 256 / 256 / 256) 16
  have c6 := ct_byte (N / 256 / 256 / 256 / 256 / 256 / 256) 8
  have c7 := ct_byte (N / 256 / 256 / 256 / 256 / 256 / 256 / 256) 0
  rw [show fb_ct (N / 256 / 256 / 256 / 256 / 256 / 256 / 256 / 256).testBit 0 = 0 from rfl] at c7
  have b0 := fb_ct_le (N % 256).testBit 8
  have b1 := fb_ct_le (N / 256 % 256).testBit 8
  have b2 := fb_ct_le (N / 256 / 256 % 256).testBit 8
  have b3 := fb_ct_le (N / 256 / 256 / 256 % 256).testBit 8
  have b4 := fb_ct_le (N / 256 / 256 / 256 / 256 % 256).testBit 8
  have b5 := fb_ct_le (N / 256 / 256 / 256 / 256 / 256 % 256).testBit 8
  have b6 := fb_ct_le (N / 256 / 256 / 256 / 256 / 256 / 256 % 256).testBit 8
  have b7 := fb_ct_le (N / 256 / 256 / 256 / 256 / 256 / 256 / 256 % 256).testBit 8
  rw [swa_div, swa_div, swa_div, swa_div, swa_div, swa_div, swa_div, swa_div, swa_zero]
  change fb_ct N.testBit 64 = _ at c0
  change fb_ct (N / 256).testBit 56 = _ at c1
  change fb_ct (N / 256 / 256).testBit 48 = _ at c2
  change fb_ct (N / 256 / 256 / 256).testBit 40 = _ at c3
  change fb_ct (N / 256 / 256 / 256 / 256).testBit 32 = _ at c4
  change fb_ct (N / 256 / 256 / 256 / 256 / 256).testBit 24 = _ at c5
  change fb_ct (N / 256 / 256 / 256 / 256 / 256 / 256).testBit 16 = _ at c6
  change fb_ct (N / 256 / 256 / 256 / 256 / 256 / 256 / 256).testBit 8 = _ at c7
  rw [c0, c1, c2, c3, c4, c5, c6, c7]
  generalize fb_ct (N % 256).testBit 8 = p0 at b0 ⊢
  generalize fb_ct (N / 256 % 256).testBit 8 = p1 at b1 ⊢
  generalize fb_ct (N / 256 / 256 % 256).testBit 8 = p2 at b2 ⊢
  generalize fb_ct (N / 256 / 256 / 256 % 256).testBit 8 = p3 at b3 ⊢
  generalize fb_ct (N / 256 / 256 / 256 / 256 % 256).testBit 8 = p4 at b4 ⊢
  generalize fb_ct (N / 256 / 256 / 256 / 256 / 256 % 256).testBit 8 = p5 at b5 ⊢
  generalize fb_ct (N / 256 / 256 / 256 / 256 / 256 / 256 % 256).testBit 8 = p6 at b6 ⊢
  generalize fb_ct (N / 256 / 256 / 256 / 256 / 256 / 256 / 256 % 256).testBit 8 = p7 at b7 ⊢
  clear c0 c1 c2 c3 c4 c5 c6 c7
  unfold fin8
  have s4 : ∀ S, S = p0 + 256 * (p1 + 256 * (p2 + 256 * (p3 + 256 * (p4 + 256 * (p5 + 256 * (p6 + 256 * p7)))))) → S + S / 256 = (p0 + p1) + 256 * (p1 + p2) + 65536 * (p2 + p3 + 256 * (p3 + p4 + 256 * (p4 + p5 + 256 * (p5 + p6 + 256 * (p6 + p7 + 256 * p7))))) := fun S hS => by omega
  rw [s4 _ (by omega)]
  generalize hq2 : p2 + p3 + 256 * (p3 + p4 + 256 * (p4 + p5 + 256 * (p5 + p6 + 256 * (p6 + p7 + 256 * p7)))) = q2
  have s5 : ((p0 + p1) + 256 * (p1 + p2) + 65536 * q2) / 65536 = q2 := by omega
  rw [s5]
  have s6 : (p0 + p1) + 256 * (p1 + p2) + 65536 * q2 + q2 = ((p0 + p1 + p2 + p3) + 256 * (p1 + p2 + p3 + p4 + 256 * (p2 + p3 + p4 + p5) + 65536 * (p3 + p4 + p5 + p6))) + 4294967296 * ((p4 + p5 + p6 + p7) + 256 * (p5 + p6 + p7 + 256 * (p6 + p7) + 65536 * p7)) := by omega
  rw [s6]
  generalize hH : p5 + p6 + p7 + 256 * (p6 + p7) + 65536 * p7 = H
  have hL : p1 + p2 + p3 + p4 + 256 * (p2 + p3 + p4 + p5) + 65536 * (p3 + p4 + p5 + p6) < 16777000 := by omega
  generalize p1 + p2 + p3 + p4 + 256 * (p2 + p3 + p4 + p5) + 65536 * (p3 + p4 + p5 + p6) = L at hL ⊢
  have s7 : ((p0 + p1 + p2 + p3) + 256 * L + 4294967296 * ((p4 + p5 + p6 + p7) + 256 * H)) / 4294967296 = (p4 + p5 + p6 + p7) + 256 * H := by omega
  rw [s7]
  clear s6 s7 s5 hH hq2 s4
  omega
def fin4 (S : Nat) : Nat := (S + S / 256) + (S + S / 256) / 65536
theorem swa_4 (N : Nat) : fin4 (swa 4 N) % 64 = fb_ct N.testBit 32 := by
  have c4 := ct_byte N 24
  have c5 := ct_byte (N / 256) 16
  have c6 := ct_byte (N / 256 / 256) 8
  have c7 := ct_byte (N / 256 / 256 / 256) 0
  rw [show fb_ct (N / 256 / 256 / 256 / 256).testBit 0 = 0 from rfl] at c7
  have b4 := fb_ct_le (N % 256).testBit 8
  have b5 := fb_ct_le (N / 256 % 256).testBit 8
  have b6 := fb_ct_le (N / 256 / 256 % 256).testBit 8
  have b7 := fb_ct_le (N / 256 / 256 / 256 % 256).testBit 8
  rw [swa_div, swa_div, swa_div, swa_div, swa_zero]
  change fb_ct N.testBit 32 = _ at c4
  change fb_ct (N / 256).testBit 24 = _ at c5
  change fb_ct (N / 256 / 256).testBit 16 = _ at c6
  change fb_ct (N / 256 / 256 / 256).testBit 8 = _ at c7
  rw [c4, c5, c6, c7]
  generalize fb_ct (N % 256).testBit 8 = p4 at b4 ⊢
  generalize fb_ct (N / 256 % 256).testBit 8 = p5 at b5 ⊢
  generalize fb_ct (N / 256 / 256 % 256).testBit 8 = p6 at b6 ⊢
  generalize fb_ct (N / 256 / 256 / 256 % 256).testBit 8 = p7 at b7 ⊢
  clear c4 c5 c6 c7
  unfold fin4
  have s4 : ∀ S, S = p4 + 256 * (p5 + 256 * (p6 + 256 * p7)) → S + S / 256 = (p4 + p5) + 256 * (p5 + p6) + 65536 * (p6 + p7 + 256 * p7) := fun S hS => by omega
  rw [s4 _ (by omega)]
  have s5 : ((p4 + p5) + 256 * (p5 + p6) + 65536 * (p6 + p7 + 256 * p7)) / 65536 = p6 + p7 + 256 * p7 := by omega
  rw [s5]
  clear s4 s5
  omega
/-! over the machine's longs and ints -/
def lnat (x : Int64) : Nat := x.toBitVec.toNat
def inat (x : Int32) : Nat := x.toBitVec.toNat
theorem lnat_sub {x y : Int64} (h : lnat y ≤ lnat x) : lnat (x - y) = lnat x - lnat y := by
  unfold lnat at *
  have hx := x.toBitVec.isLt
  rw [Int64.toBitVec_sub, BitVec.toNat_sub]
  omega
theorem lnat_add {x y : Int64} (h : lnat x + lnat y < 2 ^ 64) : lnat (x + y) = lnat x + lnat y := by
  unfold lnat at *
  rw [Int64.toBitVec_add, BitVec.toNat_add]
  omega
theorem lnat_and (x y : Int64) : lnat (x &&& y) = lnat x &&& lnat y := by
  unfold lnat
  rw [Int64.toBitVec_and, BitVec.toNat_and]
theorem lnat_shr (x : Int64) {k : Nat} (hk : k < 64) : lnat (jushr x (nI k)) = lnat x / 2 ^ k := by
  show (x.toUInt64 >>> ((nI k).toInt64.toUInt64 &&& Int64.toUInt64 63)).toBitVec.toNat = x.toUInt64.toBitVec.toNat / 2 ^ k
  rw [UInt64.toBitVec_shiftRight]
  show (x.toUInt64.toBitVec >>> (((nI k).toInt64.toUInt64 &&& Int64.toUInt64 63).toBitVec % 64).toNat).toNat = _
  rw [s6_u k hk, BitVec.toNat_ushiftRight, Nat.shiftRight_eq_div_pow]
theorem inat_sub {x y : Int32} (h : inat y ≤ inat x) : inat (x - y) = inat x - inat y := by
  unfold inat at *
  have hx := x.toBitVec.isLt
  rw [Int32.toBitVec_sub, BitVec.toNat_sub]
  omega
theorem inat_add {x y : Int32} (h : inat x + inat y < 2 ^ 32) : inat (x + y) = inat x + inat y := by
  unfold inat at *
  rw [Int32.toBitVec_add, BitVec.toNat_add]
  omega
theorem inat_and (x y : Int32) : inat (x &&& y) = inat x &&& inat y := by
  unfold inat
  rw [Int32.toBitVec_and, BitVec.toNat_and]
theorem inat_shr (x : Int32) {k : Nat} (hk : k < 32) : inat (jiushr x (nI k)) = inat x / 2 ^ k := pk_ushr x (nI k) k (s5_u k hk)
theorem k85L : lnat 6148914691236517205 = mk8 85 8 := by decide +kernel
theorem k51L : lnat 3689348814741910323 = mk8 51 8 := by decide +kernel
theorem k15L : lnat 1085102592571150095 = mk8 15 8 := by decide +kernel
theorem k85I : inat 1431655765 = mk8 85 4 := by decide +kernel
theorem k51I : inat 858993459 = mk8 51 4 := by decide +kernel
theorem k15I : inat 252645135 = mk8 15 4 := by decide +kernel
theorem l2i_lnat (x : Int64) : x.toInt32.toBitVec.toNat = lnat x % 2 ^ 32 := by
  rw [Int64.toBitVec_toInt32, BitVec.signExtend_eq_setWidth_of_le _ (by decide), BitVec.toNat_setWidth]
  rfl
theorem p_bcL {x : Int64} {post : Int32 → Prop} (h : post (nI (fb_ct (tb x) 64))) : wp_J13_bitCount_95d88 x post := by
  intro y1 h1 y2 h2 y3 h3 y4 h4 y5 h5 y6 h6
  have n1 : lnat (jushr x 1) = lnat x / 2 := lnat_shr x (k := 1) (by decide)
  have e1 : lnat y1 = sw1 8 (lnat x) := by
    have ha : lnat (jushr x 1 &&& 6148914691236517205) = (lnat x / 2) &&& mk8 85 8 := by rw [lnat_and, n1, k85L]
    rw [h1, lnat_sub, ha]
    · rfl
    · rw [ha]; exact Nat.le_trans Nat.and_le_left (Nat.div_le_self _ _)
  have n2 : lnat (jushr y1 2) = lnat y1 / 4 := lnat_shr y1 (k := 2) (by decide)
  have m2 : mk8 51 8 = 3689348814741910323 := by decide +kernel
  have e2 : lnat y2 = sw2 8 (lnat y1) := by
    have a1 : lnat y1 &&& mk8 51 8 ≤ mk8 51 8 := Nat.and_le_right
    have a2 : (lnat y1 / 4) &&& mk8 51 8 ≤ mk8 51 8 := Nat.and_le_right
    have q1 : lnat (y1 &&& 3689348814741910323) = lnat y1 &&& mk8 51 8 := by rw [lnat_and, k51L]
    have q2 : lnat (jushr y1 2 &&& 3689348814741910323) = (lnat y1 / 4) &&& mk8 51 8 := by rw [lnat_and, n2, k51L]
    rw [h2, lnat_add, q1, q2]
    · rfl
    · rw [q1, q2]; omega
  have b2 : lnat y2 ≤ 7378697629483820646 := by
    rw [e2]
    have a1 : lnat y1 &&& mk8 51 8 ≤ mk8 51 8 := Nat.and_le_right
    have a2 : (lnat y1 / 4) &&& mk8 51 8 ≤ mk8 51 8 := Nat.and_le_right
    unfold sw2
    omega
  have n3 : lnat (jushr y2 4) = lnat y2 / 16 := lnat_shr y2 (k := 4) (by decide)
  have e3 : lnat y3 = sw3 8 (lnat y2) := by
    rw [h3, lnat_and, lnat_add (by rw [n3]; omega), n3, k15L]
    rfl
  have m3 : mk8 15 8 = 1085102592571150095 := by decide +kernel
  have b3 : lnat y3 ≤ 1085102592571150095 := by
    rw [e3, ← m3]
    exact Nat.and_le_right
  have n4 : lnat (jushr y3 8) = lnat y3 / 256 := lnat_shr y3 (k := 8) (by decide)
  have e4 : lnat y4 = lnat y3 + lnat y3 / 256 := by rw [h4, lnat_add (by rw [n4]; omega), n4]
  have n5 : lnat (jushr y4 16) = lnat y4 / 65536 := lnat_shr y4 (k := 16) (by decide)
  have e5 : lnat y5 = lnat y4 + lnat y4 / 65536 := by rw [h5, lnat_add (by rw [n5, e4]; omega), n5]
  have n6 : lnat (jushr y5 32) = lnat y5 / 4294967296 := lnat_shr y5 (k := 32) (by decide)
  have e6 : lnat y6 = lnat y5 + lnat y5 / 4294967296 := by rw [h6, lnat_add (by rw [n6, e5, e4]; omega), n6]
  have e7 : lnat y6 = fin8 (swa 8 (lnat x)) := by
    rw [e6, e5, e4, e3, e2, e1]
    rfl
  have key : y6.toInt32 &&& 127 = nI (fb_ct (tb x) 64) := by
    rw [pk_and y6.toInt32 (m := 127) 7 (by decide), l2i_lnat, show lnat y6 % 2 ^ 32 % 2 ^ 7 = lnat y6 % 128 by omega, e7, swa_8]
    rfl
  rw [key]
  exact h
theorem p_bcI {x : Int32} {post : Int32 → Prop} (h : post (nI (fb_ct (ti x) 32))) : wp_J6_bitCount_0f7a4 x post := by
  intro y1 h1 y2 h2 y3 h3 y4 h4 y5 h5
  have n1 : inat (jiushr x 1) = inat x / 2 := inat_shr x (k := 1) (by decide)
  have e1 : inat y1 = sw1 4 (inat x) := by
    have ha : inat (jiushr x 1 &&& 1431655765) = (inat x / 2) &&& mk8 85 4 := by rw [inat_and, n1, k85I]
    rw [h1, inat_sub, ha]
    · rfl
    · rw [ha]; exact Nat.le_trans Nat.and_le_left (Nat.div_le_self _ _)
  have n2 : inat (jiushr y1 2) = inat y1 / 4 := inat_shr y1 (k := 2) (by decide)
  have m2 : mk8 51 4 = 858993459 := by decide +kernel
  have e2 : inat y2 = sw2 4 (inat y1) := by
    have a1 : inat y1 &&& mk8 51 4 ≤ mk8 51 4 := Nat.and_le_right
    have a2 : (inat y1 / 4) &&& mk8 51 4 ≤ mk8 51 4 := Nat.and_le_right
    have q1 : inat (y1 &&& 858993459) = inat y1 &&& mk8 51 4 := by rw [inat_and, k51I]
    have q2 : inat (jiushr y1 2 &&& 858993459) = (inat y1 / 4) &&& mk8 51 4 := by rw [inat_and, n2, k51I]
    rw [h2, inat_add, q1, q2]
    · rfl
    · rw [q1, q2]; omega
  have b2 : inat y2 ≤ 1717986918 := by
    rw [e2]
    have a1 : inat y1 &&& mk8 51 4 ≤ mk8 51 4 := Nat.and_le_right
    have a2 : (inat y1 / 4) &&& mk8 51 4 ≤ mk8 51 4 := Nat.and_le_right
    unfold sw2
    omega
  have n3 : inat (jiushr y2 4) = inat y2 / 16 := inat_shr y2 (k := 4) (by decide)
  have e3 : inat y3 = sw3 4 (inat y2) := by
    rw [h3, inat_and, inat_add (by rw [n3]; omega), n3, k15I]
    rfl
  have m3 : mk8 15 4 = 252645135 := by decide +kernel
  have b3 : inat y3 ≤ 252645135 := by
    rw [e3, ← m3]
    exact Nat.and_le_right
  have n4 : inat (jiushr y3 8) = inat y3 / 256 := inat_shr y3 (k := 8) (by decide)
  have e4 : inat y4 = inat y3 + inat y3 / 256 := by rw [h4, inat_add (by rw [n4]; omega), n4]
  have n5 : inat (jiushr y4 16) = inat y4 / 65536 := inat_shr y4 (k := 16) (by decide)
  have e5 : inat y5 = inat y4 + inat y4 / 65536 := by rw [h5, inat_add (by rw [n5, e4]; omega), n5]
  have e7 : inat y5 = fin4 (swa 4 (inat x)) := by
    rw [e5, e4, e3, e2, e1]
    rfl
  have key : y5 &&& 63 = nI (fb_ct (ti x) 32) := by
    rw [pk_and y5 (m := 63) 6 (by decide), show y5.toBitVec.toNat % 2 ^ 6 = inat y5 % 64 from rfl, e7, swa_4]
    rfl
  rw [key]
  exact h
