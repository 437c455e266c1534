/-! Flaws: what the class drafts, what the reference turns. -/
theorem zi2b_mod (x : Int) : zi2b x % 256 = x % 256 := by unfold zi2b; omega
/-- the byte k of a long -/
def by8 (m k : Int) : Int := m % 18446744073709551616 / ((2 ^ (8 * k.toNat) : Nat) : Int) % 256
/-- xor of the low bytes -/
def X8 (x y : Int) : Int := (((x % 256).toNat ^^^ (y % 256).toNat : Nat) : Int)
theorem zxor_mod (x y : Int) : zxor x y % 256 = X8 x y := by
  have e : zxor x y = (BitVec.ofInt 32 x ^^^ BitVec.ofInt 32 y).toInt := by
    unfold zxor
    rw [← Int32.toInt_toBitVec, Int32.toBitVec_xor]
    rfl
  have h1 : ∀ z : Int, (BitVec.ofInt 32 z).toNat % 256 = (z % 256).toNat := fun z => by
    rw [BitVec.toNat_ofInt]
    have : ((2 ^ 32 : Nat) : Int) = 4294967296 := rfl
    rw [this]
    omega
  rw [e, bv32_toInt, BitVec.toNat_xor]
  unfold X8
  have h2 : ((BitVec.ofInt 32 x).toNat ^^^ (BitVec.ofInt 32 y).toNat) % 256 = (x % 256).toNat ^^^ (y % 256).toNat := by
    rw [show (256 : Nat) = 2 ^ 8 from rfl, Nat.xor_mod_two_pow, show (2 : Nat) ^ 8 = 256 from rfl, h1, h1]
  rw [← h2]
  unfold z32
  omega
theorem X8_l {x x' y : Int} (h : x % 256 = x' % 256) : X8 x y = X8 x' y := by unfold X8; rw [h]
theorem X8_r {x y y' : Int} (h : y % 256 = y' % 256) : X8 x y = X8 x y' := by unfold X8; rw [h]
theorem X8_rg (x y : Int) : 0 ≤ X8 x y ∧ X8 x y < 256 := by
  rw [← zxor_mod]; omega
theorem by8_rg (m k : Int) : 0 ≤ by8 m k ∧ by8 m k < 256 := by unfold by8; omega
theorem by8_u {m k : Int} (hk : 0 ≤ k ∧ k < 8) : z32 (zlushr m (z32 (8 * k))) % 256 = by8 m k := by
  rw [← zand_255, z32_id (x := 8 * k) (by omega) (by omega), show 8 * k = ((8 * k.toNat : Nat) : Int) by omega, zbyte _ (by omega)]
  rfl
theorem zlshr_eq (x : Int) {n : Nat} (h : n < 64) : zlshr x n = z64 x / ((2 ^ n : Nat) : Int) := by
  unfold zlshr
  rw [← Int64.toInt_toBitVec]
  have h1 : (Int64.ofInt x >>> ((Int32.ofInt (n : Int)).toInt64 &&& 63)).toBitVec = (BitVec.ofInt 64 x).sshiftRight' (((Int32.ofInt (n : Int)).toInt64 &&& 63).toBitVec.smod 64#64) := rfl
  rw [h1, zshl_at h]
  have h2 : ∀ n, n < 64 → (BitVec.ofNat 64 n).smod 64#64 = BitVec.ofNat 64 n := by decide +kernel
  rw [h2 n h]
  show ((BitVec.ofInt 64 x).sshiftRight (BitVec.ofNat 64 n).toNat).toInt = _
  rw [BitVec.toNat_ofNat, Nat.mod_eq_of_lt (by omega), BitVec.toInt_sshiftRight, Int.shiftRight_eq_div_pow]
  have e : (BitVec.ofInt 64 x).toInt = z64 x := by
    rw [BitVec.toInt_ofInt]
    unfold z64
    simp only [Int.bmod_def, show ((2 ^ 64 : Nat) : Int) = 18446744073709551616 from rfl]
    omega
  rw [e]
theorem zland_255 (y : Int) : zland y 255 = y % 256 := by
  unfold zland
  rw [← Int64.toInt_toBitVec, Int64.toBitVec_and]
  have e1 : (Int64.ofInt y).toBitVec = BitVec.ofInt 64 y := rfl
  have e2 : (Int64.ofInt 255).toBitVec = 255#64 := rfl
  rw [e1, e2]
  have h1 : (BitVec.ofInt 64 y &&& 255#64).toNat = (y % 18446744073709551616).toNat % 256 := by
    rw [BitVec.toNat_and, BitVec.toNat_ofInt]
    exact Nat.and_two_pow_sub_one_eq_mod _ 8
  rw [BitVec.toInt_eq_toNat_of_lt (by rw [h1]; omega), h1]
  omega
theorem by8_s {m k : Int} (hk : 0 ≤ k ∧ k < 8) : z32 (zland (zlshr m (z32 (8 * k))) 255) = by8 m k := by
  rw [zland_255, z32_id (x := 8 * k) (by omega) (by omega), show 8 * k = ((8 * k.toNat : Nat) : Int) by omega, zlshr_eq _ (by omega), z32_id (by omega) (by omega)]
  unfold by8
  have c : k = 0 ∨ k = 1 ∨ k = 2 ∨ k = 3 ∨ k = 4 ∨ k = 5 ∨ k = 6 ∨ k = 7 := by omega
  unfold z64
  rcases c with c | c | c | c | c | c | c | c
  · subst c
    show ((m + 9223372036854775808) % 18446744073709551616 - 9223372036854775808) / 1 % 256 = m % 18446744073709551616 / 1 % 256
    omega
  · subst c
    show ((m + 9223372036854775808) % 18446744073709551616 - 9223372036854775808) / 256 % 256 = m % 18446744073709551616 / 256 % 256
    omega
  · subst c
    show ((m + 9223372036854775808) % 18446744073709551616 - 9223372036854775808) / 65536 % 256 = m % 18446744073709551616 / 65536 % 256
    omega
  · subst c
    show ((m + 9223372036854775808) % 18446744073709551616 - 9223372036854775808) / 16777216 % 256 = m % 18446744073709551616 / 16777216 % 256
    omega
  · subst c
    show ((m + 9223372036854775808) % 18446744073709551616 - 9223372036854775808) / 4294967296 % 256 = m % 18446744073709551616 / 4294967296 % 256
    omega
  · subst c
    show ((m + 9223372036854775808) % 18446744073709551616 - 9223372036854775808) / 1099511627776 % 256 = m % 18446744073709551616 / 1099511627776 % 256
    omega
  · subst c
    show ((m + 9223372036854775808) % 18446744073709551616 - 9223372036854775808) / 281474976710656 % 256 = m % 18446744073709551616 / 281474976710656 % 256
    omega
  · subst c
    show ((m + 9223372036854775808) % 18446744073709551616 - 9223372036854775808) / 72057594037927936 % 256 = m % 18446744073709551616 / 72057594037927936 % 256
    omega
/-- the four bytes of a check -/
def cW (D : Int → Int) : Int := zxor (zxor (zxor (zxor 0 (zshl (D 66) 0)) (zshl (D 67) 8)) (zshl (D 68) 16)) (zshl (D 69) 24)
theorem zshl_bv (x : Int) {n : Nat} (h : n < 32) : BitVec.ofInt 32 (zshl x n) = BitVec.ofInt 32 x <<< n := by
  unfold zshl
  rw [← Int32.toInt_toBitVec, BitVec.ofInt_toInt]
  have h1 : (Int32.ofInt x <<< (Int32.ofInt (n : Int) &&& 31)).toBitVec = BitVec.ofInt 32 x <<< ((Int32.ofInt (n : Int) &&& 31).toBitVec.smod 32#32) := rfl
  rw [h1, zsh32_at h]
  have h2 : ∀ n, n < 32 → (BitVec.ofNat 32 n).smod 32#32 = BitVec.ofNat 32 n := by decide +kernel
  rw [h2 n h]
  show BitVec.ofInt 32 x <<< (BitVec.ofNat 32 n).toNat = _
  rw [BitVec.toNat_ofNat, Nat.mod_eq_of_lt (by omega)]
theorem zxor_0 {v x : Int} (hv : z32 v = v) (hx : z32 x = x) : zxor v x = 0 ↔ v = x := by
  constructor
  · intro h
    refine bv32_ext hv hx ?_
    have e : BitVec.ofInt 32 (zxor v x) = BitVec.ofInt 32 0 := by rw [h]
    rw [zxor_bv] at e
    exact BitVec.xor_eq_zero_iff.mp e
  · intro h
    rw [h]
    refine bv32_ext (z32_zxor _ _) rfl ?_
    rw [zxor_bv, BitVec.xor_self]
    rfl
theorem cW_xor {v a b c e : Int} (hv : z32 v = v) : zxor (zxor (zxor (zxor v a) b) c) e = 0 ↔ v = zxor (zxor (zxor (zxor 0 a) b) c) e := by
  rw [← zxor_0 hv (z32_zxor _ _)]
  have q : zxor (zxor (zxor (zxor v a) b) c) e = zxor v (zxor (zxor (zxor (zxor 0 a) b) c) e) := by
    refine bv32_ext (z32_zxor _ _) (z32_zxor _ _) ?_
    rw [zxor_bv, zxor_bv, zxor_bv, zxor_bv, zxor_bv, zxor_bv, zxor_bv, zxor_bv, zxor_bv]
    rw [show BitVec.ofInt 32 0 = 0#32 from rfl, BitVec.zero_xor, BitVec.xor_assoc, BitVec.xor_assoc, BitVec.xor_assoc, BitVec.xor_assoc, BitVec.xor_assoc]
  rw [q]
theorem nx_add {a b i : Nat} (h : b < 2 ^ i) : b ^^^ (2 ^ i * a) = 2 ^ i * a + b := by
  apply Nat.eq_of_testBit_eq
  intro j
  rw [Nat.testBit_xor, Nat.testBit_two_pow_mul_add a h j, Nat.testBit_two_pow_mul]
  by_cases c : j < i
  · rw [if_pos c, decide_eq_false (by omega), Bool.false_and, Bool.xor_false]
  · rw [if_neg c, decide_eq_true (by omega), Bool.true_and, Nat.testBit_lt_two_pow (Nat.lt_of_lt_of_le h (Nat.pow_le_pow_right (by decide) (by omega))), Bool.false_xor]
theorem cW_eq {x : Int} {D : Int → Int} (h6 : D 66 = x % 18446744073709551616 / 65536 % 256) (h7 : D 67 = x % 18446744073709551616 / 16777216 % 256) (h8 : D 68 = x % 18446744073709551616 / 4294967296 % 256) (h9 : D 69 = x % 18446744073709551616 / 1099511627776 % 256) : z32 (zlushr x 16) = cW D := by
  refine bv32_ext (z32_z32 _) (z32_zxor _ _) ?_
  unfold cW
  have s0 : BitVec.ofInt 32 (zshl (D 66) 0) = BitVec.ofInt 32 (D 66) <<< 0 := zshl_bv (D 66) (n := 0) (by decide)
  have s1 : BitVec.ofInt 32 (zshl (D 67) 8) = BitVec.ofInt 32 (D 67) <<< 8 := zshl_bv (D 67) (n := 8) (by decide)
  have s2 : BitVec.ofInt 32 (zshl (D 68) 16) = BitVec.ofInt 32 (D 68) <<< 16 := zshl_bv (D 68) (n := 16) (by decide)
  have s3 : BitVec.ofInt 32 (zshl (D 69) 24) = BitVec.ofInt 32 (D 69) <<< 24 := zshl_bv (D 69) (n := 24) (by decide)
  rw [zxor_bv, zxor_bv, zxor_bv, zxor_bv, s0, s1, s2, s3]
  apply BitVec.eq_of_toNat_eq
  have tn : ∀ z : Int, 0 ≤ z → z < 256 → (BitVec.ofInt 32 z).toNat = z.toNat := fun z z0 z1 => by
    rw [BitVec.toNat_ofInt, show ((2 ^ 32 : Nat) : Int) = 4294967296 from rfl]
    omega
  rw [show BitVec.ofInt 32 0 = 0#32 from rfl, BitVec.zero_xor, BitVec.toNat_xor, BitVec.toNat_xor, BitVec.toNat_xor, BitVec.toNat_shiftLeft, BitVec.toNat_shiftLeft, BitVec.toNat_shiftLeft, BitVec.toNat_shiftLeft, tn (D 66) (by omega) (by omega), tn (D 67) (by omega) (by omega), tn (D 68) (by omega) (by omega), tn (D 69) (by omega) (by omega), Nat.shiftLeft_eq, Nat.shiftLeft_eq, Nat.shiftLeft_eq, Nat.shiftLeft_eq]
  rw [Nat.mod_eq_of_lt (a := (D 66).toNat * 2 ^ 0) (by omega), Nat.mod_eq_of_lt (a := (D 67).toNat * 2 ^ 8) (by omega), Nat.mod_eq_of_lt (a := (D 68).toNat * 2 ^ 16) (by omega), Nat.mod_eq_of_lt (a := (D 69).toNat * 2 ^ 24) (by omega)]
  rw [show (D 66).toNat * 2 ^ 0 = (D 66).toNat by omega, Nat.mul_comm (D 67).toNat, nx_add (i := 8) (by omega), Nat.mul_comm (D 68).toNat, nx_add (i := 16) (by omega), Nat.mul_comm (D 69).toNat, nx_add (i := 24) (by omega)]
  have hz : BitVec.ofInt 32 (z32 (zlushr x 16)) = BitVec.ofInt 32 (zlushr x 16) := by
    apply BitVec.eq_of_toNat_eq
    rw [BitVec.toNat_ofInt, BitVec.toNat_ofInt, show ((2 ^ 32 : Nat) : Int) = 4294967296 from rfl]
    unfold z32
    omega
  have hl : zlushr x 16 = x % 18446744073709551616 / 65536 := by
    rw [show (16 : Int) = ((16 : Nat) : Int) from rfl, zlushr_eq x (by decide)]
    show z64 (x % 18446744073709551616 / 65536) = _
    unfold z64
    omega
  rw [hz, hl, BitVec.toNat_ofInt, show ((2 ^ 32 : Nat) : Int) = 4294967296 from rfl, h6, h7, h8, h9]
  omega
