theorem i64_bv (x : Int) : (Int64.ofInt x).toBitVec = BitVec.ofInt 64 x := rfl
theorem zshl_at {n : Nat} (h : n < 64) : ((Int32.ofInt (n : Int)).toInt64 &&& 63).toBitVec = BitVec.ofNat 64 n := by
  have hb : (List.range 64).all (fun n => decide (((Int32.ofInt (n : Int)).toInt64 &&& 63).toBitVec = BitVec.ofNat 64 n)) = true := by decide +kernel
  exact of_decide_eq_true (List.all_eq_true.mp hb n (List.mem_range.mpr h))
theorem ofInt_bv64 (b : BitVec 64) : BitVec.ofInt 64 b.toInt = b := BitVec.ofInt_toInt
theorem zland_bv (x y : Int) : BitVec.ofInt 64 (zland x y) = BitVec.ofInt 64 x &&& BitVec.ofInt 64 y := by
  unfold zland
  rw [← Int64.toInt_toBitVec, Int64.toBitVec_and, ofInt_bv64]
  rfl
theorem zlor_bv (x y : Int) : BitVec.ofInt 64 (zlor x y) = BitVec.ofInt 64 x ||| BitVec.ofInt 64 y := by
  unfold zlor
  rw [← Int64.toInt_toBitVec, Int64.toBitVec_or, ofInt_bv64]
  rfl
theorem zlxor_bv (x y : Int) : BitVec.ofInt 64 (zlxor x y) = BitVec.ofInt 64 x ^^^ BitVec.ofInt 64 y := by
  unfold zlxor
  rw [← Int64.toInt_toBitVec, Int64.toBitVec_xor, ofInt_bv64]
  rfl
theorem zlshl_bv (x : Int) {n : Nat} (h : n < 64) : BitVec.ofInt 64 (zlshl x n) = BitVec.ofInt 64 x <<< n := by
  unfold zlshl
  rw [← Int64.toInt_toBitVec, ofInt_bv64]
  have h1 : (Int64.ofInt x <<< ((Int32.ofInt (n : Int)).toInt64 &&& 63)).toBitVec = BitVec.ofInt 64 x <<< (((Int32.ofInt (n : Int)).toInt64 &&& 63).toBitVec.smod 64#64) := rfl
  rw [h1, zshl_at h]
  have h2 : ∀ n, n < 64 → (BitVec.ofNat 64 n).smod 64#64 = BitVec.ofNat 64 n := by decide +kernel
  rw [h2 n h]
  show BitVec.ofInt 64 x <<< (BitVec.ofNat 64 n).toNat = _
  rw [BitVec.toNat_ofNat, Nat.mod_eq_of_lt (by omega)]
theorem bv_nat (x : Int) : ((BitVec.ofInt 64 x).toNat : Int) = x % 18446744073709551616 := by
  rw [BitVec.toNat_ofInt]
  have : ((2 ^ 64 : Nat) : Int) = 18446744073709551616 := rfl
  rw [this]
  omega
/-- the byte j of a long, as bits -/
theorem byte_bv (x : Int) {j : Nat} : x % 18446744073709551616 / ((2 ^ (8 * j) : Nat) : Int) % 256 = (((BitVec.ofInt 64 x >>> (8 * j)).setWidth 8).toNat : Int) := by
  rw [BitVec.toNat_setWidth, BitVec.toNat_ushiftRight, Nat.shiftRight_eq_div_pow, ← bv_nat x]
  rfl
/-- a byte of a long set: that byte is it, the others stay -/
theorem zset_byte (x v : Int) {k j : Nat} (hk : k < 8) (hj : j < 8) :
    (zlor (zland x (zlxor (zlshl 255 ((8 * k : Nat) : Int)) (-1))) (zlshl (zand v 255) ((8 * k : Nat) : Int))) % 18446744073709551616 / ((2 ^ (8 * j) : Nat) : Int) % 256 = if j = k then v % 256 else x % 18446744073709551616 / ((2 ^ (8 * j) : Nat) : Int) % 256 := by
  rw [byte_bv, byte_bv, zlor_bv, zland_bv, zlxor_bv, zlshl_bv _ (by omega), zlshl_bv _ (by omega), zand_255]
  have hneg : BitVec.ofInt 64 (-1) = BitVec.allOnes 64 := by decide
  have h255 : BitVec.ofInt 64 255 = 255#64 := by decide
  rw [hneg, h255]
  have hv : BitVec.ofInt 64 (v % 256) = (BitVec.ofInt 8 v).setWidth 64 := by
    apply BitVec.eq_of_toNat_eq
    rw [BitVec.toNat_ofInt, BitVec.toNat_setWidth, BitVec.toNat_ofInt]
    have : ((2 ^ 64 : Nat) : Int) = 18446744073709551616 := rfl
    have h8 : ((2 ^ 8 : Nat) : Int) = 256 := rfl
    rw [this, h8]
    omega
  rw [hv]
  have key : (((BitVec.ofInt 64 x &&& ((255#64 <<< (8 * k)) ^^^ BitVec.allOnes 64)) ||| ((BitVec.ofInt 8 v).setWidth 64 <<< (8 * k))) >>> (8 * j)).setWidth 8 = if j = k then BitVec.ofInt 8 v else (BitVec.ofInt 64 x >>> (8 * j)).setWidth 8 := by
    have h255b : ∀ i, (255#64).getLsbD i = decide (i < 8) := by
      intro i
      by_cases h : i < 64
      · have : ∀ i, i < 64 → (255#64).getLsbD i = decide (i < 8) := by decide +kernel
        exact this i h
      · rw [BitVec.getLsbD_of_ge _ _ (by omega)]
        exact (decide_eq_false (by omega)).symm
    apply BitVec.eq_of_getLsbD_eq
    intro i hi
    have h64 : 8 * j + i < 64 := by omega
    have lhs : ((((BitVec.ofInt 64 x &&& ((255#64 <<< (8 * k)) ^^^ BitVec.allOnes 64)) ||| ((BitVec.ofInt 8 v).setWidth 64 <<< (8 * k))) >>> (8 * j)).setWidth 8).getLsbD i = ((BitVec.ofInt 64 x).getLsbD (8 * j + i) && ((!decide (8 * j + i < 8 * k) && decide (8 * j + i - 8 * k < 8)) ^^ true) || (!decide (8 * j + i < 8 * k) && (BitVec.ofInt 8 v).getLsbD (8 * j + i - 8 * k))) := by
      simp only [BitVec.getLsbD_setWidth, BitVec.getLsbD_ushiftRight, BitVec.getLsbD_or, BitVec.getLsbD_and, BitVec.getLsbD_xor, BitVec.getLsbD_shiftLeft, BitVec.getLsbD_allOnes, h255b, hi, h64, decide_true, Bool.true_and, show 8 * j + i - 8 * k < 64 by omega]
    rw [lhs]
    by_cases hjk : j = k
    · subst hjk
      rw [if_pos rfl, show 8 * j + i - 8 * j = i by omega, decide_eq_false (show ¬ 8 * j + i < 8 * j by omega), decide_eq_true hi]
      simp
    · rw [if_neg hjk]
      have rhs : ((BitVec.ofInt 64 x >>> (8 * j)).setWidth 8).getLsbD i = (BitVec.ofInt 64 x).getLsbD (8 * j + i) := by
        simp only [BitVec.getLsbD_setWidth, BitVec.getLsbD_ushiftRight, hi, decide_true, Bool.true_and]
      rw [rhs]
      by_cases hlt : 8 * j + i < 8 * k
      · rw [decide_eq_true hlt]
        simp
      · have h8 : 8 ≤ 8 * j + i - 8 * k := by omega
        rw [decide_eq_false hlt, decide_eq_false (show ¬ 8 * j + i - 8 * k < 8 by omega), BitVec.getLsbD_of_ge (BitVec.ofInt 8 v) _ h8]
        simp
  rw [key]
  by_cases hjk : j = k
  · rw [if_pos hjk, if_pos hjk, BitVec.toNat_ofInt]
    have h8 : ((2 ^ 8 : Nat) : Int) = 256 := rfl
    rw [h8]
    omega
  · rw [if_neg hjk, if_neg hjk]
