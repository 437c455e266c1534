/-- a stretch of an array set to 0 -/
def zfil (H : Int → Int → Int) (w f n : Int) : Int → Int → Int := fun o i => if o = w ∧ f ≤ i ∧ i < f + n then 0 else H o i
theorem z32_id {x : Int} (h1 : -2147483648 ≤ x) (h2 : x ≤ 2147483647) : z32 x = x := by unfold z32; omega
theorem l_clear {md t : Nat} {L : Int → Int} {w f n : Int} {Qr Qt : Int → zS → Prop} (hf : 0 ≤ f) (hb : f + n ≤ L w) (hL : L w ≤ 1000000) : ∀ (k : Nat) (i : Int) (H : Int → Int → Int), 0 ≤ i → i + k = n →
    Qr 0 (t, L, zfil H w (f + i) (n - i)) → zEnds md 3 2 [(11, w), (0, f), (0, n), (0, i)] [] (t, L, H) Qr Qt := by
  intro k
  induction k with
  | zero =>
    intro i H h0 hk hQ
    refine zwp_sound 20 _ _ _ _ ?_
    refine And.intro (fun h => ?_) (fun h => ?_)
    · have e : zfil H w (f + i) (n - i) = H := by
        funext o j
        unfold zfil
        rw [if_neg (by omega)]
      rw [e] at hQ
      exact hQ
    · exfalso
      have h : ¬ n ≤ i := h
      omega
  | succ k ih =>
    intro i H h0 hk hQ
    refine zwp_sound 20 _ _ _ _ ?_
    refine And.intro (fun h => ?_) (fun h => ?_)
    · exfalso
      have h : n ≤ i := h
      omega
    · have e1 : z32 (f + i) = f + i := z32_id (by omega) (by omega)
      have e2 : z32 (i + 1) = i + 1 := z32_id (by omega) (by omega)
      show (0 ≤ z32 (f + i) ∧ z32 (f + i) < L w) ∧ zEnds md 3 2 [(11, w), (0, f), (0, n), (0, z32 (i + 1))] [] (t, L, zupd H w (z32 (f + i)) 0) Qr Qt
      rw [e1, e2]
      refine ⟨by omega, ih (i + 1) _ (by omega) (by omega) ?_⟩
      have e : zfil (zupd H w (f + i) 0) w (f + (i + 1)) (n - (i + 1)) = zfil H w (f + i) (n - i) := by
        funext o j
        unfold zfil zupd
        by_cases c1 : o = w
        · by_cases c2 : j = f + i
          · rw [if_neg (by omega), if_pos ⟨c1, c2⟩, if_pos (by omega)]
          · by_cases c3 : f + (i + 1) ≤ j ∧ j < f + (i + 1) + (n - (i + 1))
            · rw [if_pos ⟨c1, c3⟩, if_pos (by omega)]
            · rw [if_neg (by omega), if_neg (by omega), if_neg (by omega)]
        · rw [if_neg (by omega), if_neg (by omega), if_neg (by omega)]
      rw [e]
      exact hQ
theorem s_clear {md t : Nat} {L : Int → Int} {H : Int → Int → Int} {w f n : Int} {Qr Qt : Int → zS → Prop} (hf : 0 ≤ f) (hn : 0 ≤ n) (hb : f + n ≤ L w) (hL : L w ≤ 1000000) (hQ : Qr 0 (t, L, zfil H w f n)) :
    zEnds md 3 0 [(11, w), (0, f), (0, n), (9, 0)] [] (t, L, H) Qr Qt := by
  refine zwp_sound 20 _ _ _ _ ?_
  obtain ⟨k, rfl⟩ := Int.eq_ofNat_of_zero_le hn
  refine l_clear hf hb hL k 0 H (by omega) (by omega) ?_
  rw [show f + 0 = f by omega, show ((k : Int) - 0) = k by omega]
  exact hQ
/-- Layout.diskOf -/
theorem s_diskOf {md t : Nat} {L : Int → Int} {H : Int → Int → Int} {row pos : Int} {Qr Qt : Int → zS → Prop} (hmd : 24 ≤ md) (h0 : H 1 9 ≠ 0) (h1 : 0 ≤ zrem row (H 1 9) ∧ zrem row (H 1 9) < L 2) (h2 : H 1 0 ≠ 0)
    (hQ : Qr (zrem (z32 (row + z32 (pos * H 2 (zrem row (H 1 9))))) (H 1 0)) (t, L, H)) : zEnds 118 8 0 [(21, 1), (0, row), (0, pos)] [] (t, L, H) Qr Qt := by
  refine zwp_sound 30 _ _ _ _ ?_
  exact ⟨h0, h1, h2, hQ⟩
theorem zand_255 (y : Int) : zand y 255 = y % 256 := by
  unfold zand
  rw [← Int32.toInt_toBitVec, Int32.toBitVec_and]
  have e1 : (Int32.ofInt y).toBitVec = BitVec.ofInt 32 y := rfl
  have e2 : (Int32.ofInt 255).toBitVec = 255#32 := rfl
  rw [e1, e2]
  have h1 : (BitVec.ofInt 32 y &&& 255#32).toNat = (y % 4294967296).toNat % 256 := by
    rw [BitVec.toNat_and, BitVec.toNat_ofInt]
    exact Nat.and_two_pow_sub_one_eq_mod _ 8
  rw [BitVec.toInt_eq_toNat_of_lt (by rw [h1]; omega), h1]
  omega
theorem zand_1 (y : Int) : zand y 1 = y % 2 := by
  unfold zand
  rw [← Int32.toInt_toBitVec, Int32.toBitVec_and]
  have e1 : (Int32.ofInt y).toBitVec = BitVec.ofInt 32 y := rfl
  have e2 : (Int32.ofInt 1).toBitVec = 1#32 := rfl
  rw [e1, e2]
  have h1 : (BitVec.ofInt 32 y &&& 1#32).toNat = (y % 4294967296).toNat % 2 := by
    rw [BitVec.toNat_and, BitVec.toNat_ofInt]
    exact Nat.and_two_pow_sub_one_eq_mod _ 1
  rw [BitVec.toInt_eq_toNat_of_lt (by rw [h1]; omega), h1]
  omega
theorem zand_15 (y : Int) : zand y 15 = y % 16 := by
  unfold zand
  rw [← Int32.toInt_toBitVec, Int32.toBitVec_and]
  have e1 : (Int32.ofInt y).toBitVec = BitVec.ofInt 32 y := rfl
  have e2 : (Int32.ofInt 15).toBitVec = 15#32 := rfl
  rw [e1, e2]
  have h1 : (BitVec.ofInt 32 y &&& 15#32).toNat = (y % 4294967296).toNat % 16 := by
    rw [BitVec.toNat_and, BitVec.toNat_ofInt]
    exact Nat.and_two_pow_sub_one_eq_mod _ 4
  rw [BitVec.toInt_eq_toNat_of_lt (by rw [h1]; omega), h1]
  omega
theorem zsh_dec : (List.range 64).all (fun n => decide ((Int32.ofInt (n : Int)).toInt64.toUInt64 &&& Int64.toUInt64 63 = UInt64.ofNat n)) = true := by decide +kernel
theorem zsh_at {n : Nat} (h : n < 64) : (Int32.ofInt (n : Int)).toInt64.toUInt64 &&& Int64.toUInt64 63 = UInt64.ofNat n := of_decide_eq_true (List.all_eq_true.mp zsh_dec n (List.mem_range.mpr h))
theorem u64_toInt (v : UInt64) : v.toInt64.toInt = z64 (v.toNat : Int) := by
  have h1 : v.toInt64.toInt = v.toBitVec.toInt := rfl
  rw [h1, BitVec.toInt_eq_toNat_bmod]
  have h2 : v.toBitVec.toNat = v.toNat := rfl
  rw [h2]
  have h3 := v.toNat_lt
  unfold z64
  simp only [Int.bmod_def, show ((2 ^ 64 : Nat) : Int) = 18446744073709551616 from rfl]
  omega
theorem i64_toNat (x : Int) : ((Int64.ofInt x).toUInt64.toNat : Int) = x % 18446744073709551616 := by
  have h1 : (Int64.ofInt x).toUInt64.toNat = (BitVec.ofInt 64 x).toNat := rfl
  rw [h1, BitVec.toNat_ofInt]
  have : ((2 ^ 64 : Nat) : Int) = 18446744073709551616 := rfl
  rw [this]
  omega
theorem zlushr_eq (x : Int) {n : Nat} (hn : n < 64) : zlushr x n = z64 ((x % 18446744073709551616) / ((2 ^ n : Nat) : Int)) := by
  unfold zlushr
  rw [zsh_at hn, u64_toInt, UInt64.toNat_shiftRight]
  have e1 : (UInt64.ofNat n).toNat % 64 = n := by
    rw [UInt64.toNat_ofNat']
    omega
  rw [e1, Nat.shiftRight_eq_div_pow, ← i64_toNat x]
  rfl
/-- the byte k of a long -/
theorem zbyte (x : Int) {k : Nat} (hk : k < 8) : zand (z32 (zlushr x ((8 * k : Nat) : Int))) 255 = (x % 18446744073709551616) / ((2 ^ (8 * k) : Nat) : Int) % 256 := by
  rw [zlushr_eq x (by omega), zand_255]
  generalize (x % 18446744073709551616) / ((2 ^ (8 * k) : Nat) : Int) = y
  unfold z32 z64
  omega
