/-! Bits of ints. -/
theorem i32_rg (x : Int32) : -2147483648 ≤ x.toInt ∧ x.toInt ≤ 2147483647 := by
  have h1 := x.toInt_lt
  have h2 := x.le_toInt
  omega
theorem i32_of {x : Int} (h1 : -2147483648 ≤ x) (h2 : x ≤ 2147483647) : (Int32.ofInt x).toInt = x := by
  rw [Int32.toInt_ofInt]
  show Int.bmod x 4294967296 = x
  exact Int.bmod_eq_of_le (by omega) (by omega)
theorem zcmp_0 {x y : Int} : zcmp x y = 0 ↔ x = y := by
  unfold zcmp
  by_cases h1 : x < y
  · rw [if_pos h1]; omega
  · rw [if_neg h1]
    by_cases h2 : x = y
    · rw [if_pos h2]; exact ⟨fun _ => h2, fun _ => rfl⟩
    · rw [if_neg h2]; omega
/-- the small numbers' or, and, xor -/
theorem bv32_of (a : Nat) : (Int32.ofInt (a : Int)).toBitVec = BitVec.ofNat 32 a := by
  have e : (Int32.ofInt (a : Int)).toBitVec = BitVec.ofInt 32 (a : Int) := rfl
  rw [e, BitVec.ofInt_natCast]
theorem zor_nat {a b : Nat} (ha : a < 2147483648) (hb : b < 2147483648) : zor (a : Int) (b : Int) = ((a ||| b : Nat) : Int) := by
  unfold zor
  rw [← Int32.toInt_toBitVec, Int32.toBitVec_or, bv32_of, bv32_of]
  have h : a ||| b < 2147483648 := Nat.or_lt_two_pow (n := 31) ha hb
  have e : (BitVec.ofNat 32 a ||| BitVec.ofNat 32 b).toNat = a ||| b := by
    rw [BitVec.toNat_or, BitVec.toNat_ofNat, BitVec.toNat_ofNat, Nat.mod_eq_of_lt (by omega), Nat.mod_eq_of_lt (by omega)]
  rw [BitVec.toInt_eq_toNat_of_lt (by rw [e]; omega), e]
theorem zxor_nat {a b : Nat} (ha : a < 2147483648) (hb : b < 2147483648) : zxor (a : Int) (b : Int) = ((a ^^^ b : Nat) : Int) := by
  unfold zxor
  rw [← Int32.toInt_toBitVec, Int32.toBitVec_xor, bv32_of, bv32_of]
  have h : a ^^^ b < 2147483648 := Nat.xor_lt_two_pow (n := 31) ha hb
  have e : (BitVec.ofNat 32 a ^^^ BitVec.ofNat 32 b).toNat = a ^^^ b := by
    rw [BitVec.toNat_xor, BitVec.toNat_ofNat, BitVec.toNat_ofNat, Nat.mod_eq_of_lt (by omega), Nat.mod_eq_of_lt (by omega)]
  rw [BitVec.toInt_eq_toNat_of_lt (by rw [e]; omega), e]
theorem bv32_toInt (b : BitVec 32) : b.toInt = z32 (b.toNat : Int) := by
  rw [BitVec.toInt_eq_toNat_bmod]
  have h3 := b.isLt
  unfold z32
  simp only [Int.bmod_def, show ((2 ^ 32 : Nat) : Int) = 4294967296 from rfl]
  omega
theorem zsh32_at {n : Nat} (h : n < 32) : (Int32.ofInt (n : Int) &&& 31).toBitVec = BitVec.ofNat 32 n := by
  have hb : (List.range 32).all (fun n => decide ((Int32.ofInt (n : Int) &&& 31).toBitVec = BitVec.ofNat 32 n)) = true := by decide +kernel
  exact of_decide_eq_true (List.all_eq_true.mp hb n (List.mem_range.mpr h))
theorem zshl_eq (x : Int) {n : Nat} (h : n < 32) : zshl x n = z32 (x * ((2 ^ n : Nat) : Int)) := by
  unfold zshl
  rw [← Int32.toInt_toBitVec]
  have h1 : (Int32.ofInt x <<< (Int32.ofInt (n : Int) &&& 31)).toBitVec = BitVec.ofInt 32 x <<< ((Int32.ofInt (n : Int) &&& 31).toBitVec.smod 32#32) := rfl
  rw [h1, zsh32_at h]
  have h2 : ∀ n, n < 32 → (BitVec.ofNat 32 n).smod 32#32 = BitVec.ofNat 32 n := by decide +kernel
  rw [h2 n h]
  have h3 : BitVec.ofInt 32 x <<< BitVec.ofNat 32 n = BitVec.ofInt 32 x <<< n := by
    show BitVec.ofInt 32 x <<< (BitVec.ofNat 32 n).toNat = _
    rw [BitVec.toNat_ofNat, Nat.mod_eq_of_lt (by omega)]
  rw [h3, bv32_toInt, BitVec.toNat_shiftLeft, Nat.shiftLeft_eq, BitVec.toNat_ofInt]
  have e : (((x % ((2 ^ 32 : Nat) : Int)).toNat * 2 ^ n % 2 ^ 32 : Nat) : Int) = (x * ((2 ^ n : Nat) : Int)) % 4294967296 := by
    rw [Int.natCast_emod, Int.natCast_mul, Int.toNat_of_nonneg (Int.emod_nonneg _ (by decide))]
    show (x % 4294967296 * ((2 ^ n : Nat) : Int)) % 4294967296 = _
    rw [Int.mul_emod, Int.emod_emod_of_dvd _ (Int.dvd_refl _), ← Int.mul_emod]
  rw [e]
  unfold z32
  omega
theorem zshr_eq {x : Int} {n : Nat} (h : n < 32) (h1 : -2147483648 ≤ x) (h2 : x ≤ 2147483647) : zshr x n = x / ((2 ^ n : Nat) : Int) := by
  unfold zshr
  rw [← Int32.toInt_toBitVec]
  have h3 : (Int32.ofInt x >>> (Int32.ofInt (n : Int) &&& 31)).toBitVec = (BitVec.ofInt 32 x).sshiftRight' ((Int32.ofInt (n : Int) &&& 31).toBitVec.smod 32#32) := rfl
  rw [h3, zsh32_at h]
  have h4 : ∀ n, n < 32 → (BitVec.ofNat 32 n).smod 32#32 = BitVec.ofNat 32 n := by decide +kernel
  rw [h4 n h]
  show ((BitVec.ofInt 32 x).sshiftRight (BitVec.ofNat 32 n).toNat).toInt = _
  rw [BitVec.toNat_ofNat, Nat.mod_eq_of_lt (by omega), BitVec.toInt_sshiftRight, Int.shiftRight_eq_div_pow]
  have e : (BitVec.ofInt 32 x).toInt = x := by
    have := i32_of h1 h2
    exact this
  rw [e]
/-- two bytes as one number -/
theorem zpair {a b : Int} (ha : 0 ≤ a ∧ a < 256) (hb : 0 ≤ b ∧ b < 256) : zor a (zshl b 8) = a + 256 * b := by
  have e1 : zshl b 8 = ((2 ^ 8 * b.toNat : Nat) : Int) := by
    have := zshl_eq b (n := 8) (by decide)
    rw [show ((8 : Nat) : Int) = 8 from rfl] at this
    rw [this, z32_id (by show -2147483648 ≤ b * 256; omega) (by show b * 256 ≤ 2147483647; omega)]
    show b * 256 = ((256 * b.toNat : Nat) : Int)
    omega
  have e2 : a = ((a.toNat : Nat) : Int) := by omega
  rw [e1]
  have e3 : zor a ((2 ^ 8 * b.toNat : Nat) : Int) = ((a.toNat ||| 2 ^ 8 * b.toNat : Nat) : Int) := by
    have := zor_nat (a := a.toNat) (b := 2 ^ 8 * b.toNat) (by omega) (by omega)
    rw [← e2] at this
    exact this
  rw [e3, Nat.or_comm, ← Nat.two_pow_add_eq_or_of_lt (i := 8) (a := b.toNat) (b := a.toNat) (by omega)]
  omega
/-- a bit of a byte set or cleared -/
def zbit (o k v : Int) : Int := if v = 0 then zand o (zxor (zshl 1 k) (-1)) else zor (zand o (zxor (zshl 1 k) (-1))) (zshl 1 k)
theorem zbit_dec : (List.range 256).all (fun o => (List.range 8).all (fun k => (List.range 2).all (fun v => decide (zbit o k v = ((o - o / 2 ^ k % 2 * 2 ^ k + v * 2 ^ k : Nat) : Int))))) = true := by decide +kernel
theorem zbit_dec2 : (List.range 256).all (fun o => (List.range 8).all (fun k => (List.range 2).all (fun v => Nat.blt (o - o / 2 ^ k % 2 * 2 ^ k + v * 2 ^ k) 256 && (List.range 8).all (fun j => Nat.beq ((o - o / 2 ^ k % 2 * 2 ^ k + v * 2 ^ k) / 2 ^ j % 2) (bif Nat.beq j k then v else o / 2 ^ j % 2))))) = true := by decide +kernel
theorem zbit_at {o k v : Int} (ho : 0 ≤ o ∧ o < 256) (hk : 0 ≤ k ∧ k < 8) (hv : v = 0 ∨ v = 1) : (0 ≤ zbit o k v ∧ zbit o k v < 256) ∧ ∀ j : Nat, j < 8 → zbit o k v / ((2 ^ j : Nat) : Int) % 2 = if (j : Int) = k then v else o / ((2 ^ j : Nat) : Int) % 2 := by
  have h1 := of_decide_eq_true (List.all_eq_true.mp (List.all_eq_true.mp (List.all_eq_true.mp zbit_dec o.toNat (List.mem_range.mpr (by omega))) k.toNat (List.mem_range.mpr (by omega))) v.toNat (List.mem_range.mpr (by omega)))
  have h2 := List.all_eq_true.mp (List.all_eq_true.mp (List.all_eq_true.mp zbit_dec2 o.toNat (List.mem_range.mpr (by omega))) k.toNat (List.mem_range.mpr (by omega))) v.toNat (List.mem_range.mpr (by omega))
  rw [show ((o.toNat : Nat) : Int) = o by omega, show ((k.toNat : Nat) : Int) = k by omega, show ((v.toNat : Nat) : Int) = v by omega] at h1
  rw [h1]
  generalize o.toNat - o.toNat / 2 ^ k.toNat % 2 * 2 ^ k.toNat + v.toNat * 2 ^ k.toNat = y at h2
  simp only [Bool.and_eq_true] at h2
  have h3 : y < 256 := Nat.le_of_ble_eq_true h2.1
  refine ⟨by omega, fun j hj => ?_⟩
  have h4 := Nat.eq_of_beq_eq_true (List.all_eq_true.mp h2.2 j (List.mem_range.mpr hj))
  have e : ((y : Int)) / ((2 ^ j : Nat) : Int) % 2 = ((y / 2 ^ j % 2 : Nat) : Int) := by
    rw [Int.natCast_emod, Int.natCast_ediv]
    rfl
  rw [e, h4]
  by_cases c : j = k.toNat
  · rw [if_pos (by omega), c, show Nat.beq k.toNat k.toNat = true from Nat.beq_refl _]
    show ((v.toNat : Nat) : Int) = v
    omega
  · have c2 : Nat.beq j k.toNat = false := by
      cases hb : Nat.beq j k.toNat with
      | false => rfl
      | true => exact absurd (Nat.eq_of_beq_eq_true hb) c
    rw [if_neg (by omega), c2]
    show ((o.toNat / 2 ^ j % 2 : Nat) : Int) = _
    rw [Int.natCast_emod, Int.natCast_ediv, show ((o.toNat : Nat) : Int) = o by omega]
    rfl
theorem zbit_is {o k : Int} {j : Nat} (ho : 0 ≤ o ∧ o < 256) (hj : j < 8) (hk : k = j) : zand (zshr o k) 1 = o / ((2 ^ j : Nat) : Int) % 2 := by
  rw [hk, zshr_eq (by omega) (by omega) (by omega), zand_1]
/-- a byte is known by its bits -/
theorem zbyte_ext {a b : Int} (ha : 0 ≤ a ∧ a < 256) (hb : 0 ≤ b ∧ b < 256) (h : ∀ j : Nat, j < 8 → a / ((2 ^ j : Nat) : Int) % 2 = b / ((2 ^ j : Nat) : Int) % 2) : a = b := by
  have h0 : a / 1 % 2 = b / 1 % 2 := h 0 (by decide)
  have h1 : a / 2 % 2 = b / 2 % 2 := h 1 (by decide)
  have h2 : a / 4 % 2 = b / 4 % 2 := h 2 (by decide)
  have h3 : a / 8 % 2 = b / 8 % 2 := h 3 (by decide)
  have h4 : a / 16 % 2 = b / 16 % 2 := h 4 (by decide)
  have h5 : a / 32 % 2 = b / 32 % 2 := h 5 (by decide)
  have h6 : a / 64 % 2 = b / 64 % 2 := h 6 (by decide)
  have h7 : a / 128 % 2 = b / 128 % 2 := h 7 (by decide)
  omega
