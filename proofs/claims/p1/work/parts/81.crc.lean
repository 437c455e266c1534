/-! The check: four bits at once are four single steps. -/
theorem zxor_bv (x y : Int) : BitVec.ofInt 32 (zxor x y) = BitVec.ofInt 32 x ^^^ BitVec.ofInt 32 y := by
  unfold zxor
  rw [← Int32.toInt_toBitVec, Int32.toBitVec_xor, BitVec.ofInt_toInt]
  rfl
theorem zand_bv (x y : Int) : BitVec.ofInt 32 (zand x y) = BitVec.ofInt 32 x &&& BitVec.ofInt 32 y := by
  unfold zand
  rw [← Int32.toInt_toBitVec, Int32.toBitVec_and, BitVec.ofInt_toInt]
  rfl
theorem zushr1_bv (x : Int) : BitVec.ofInt 32 (zushr x 1) = BitVec.ofInt 32 x >>> 1 := by
  unfold zushr
  rw [← Int32.toInt_toBitVec, BitVec.ofInt_toInt]
  rfl
theorem zushr4_bv (x : Int) : BitVec.ofInt 32 (zushr x 4) = BitVec.ofInt 32 x >>> 4 := by
  unfold zushr
  rw [← Int32.toInt_toBitVec, BitVec.ofInt_toInt]
  rfl
theorem bv32_ext {x y : Int} (hx : z32 x = x) (hy : z32 y = y) (h : BitVec.ofInt 32 x = BitVec.ofInt 32 y) : x = y := by
  have e : ∀ z : Int, (BitVec.ofInt 32 z).toInt = z32 z := fun z => by
    rw [bv32_toInt, BitVec.toNat_ofInt]
    have : ((2 ^ 32 : Nat) : Int) = 4294967296 := rfl
    rw [this]
    unfold z32
    omega
  rw [← hx, ← e, h, e, hy]
theorem z32_zxor (x y : Int) : z32 (zxor x y) = zxor x y := z32_toInt _
theorem z32_zushr (x y : Int) : z32 (zushr x y) = zushr x y := z32_toInt _
/-- one step -/
def bS (v : BitVec 32) : BitVec 32 := (v >>> 1) ^^^ (bif v.getLsbD 0 then 2197175160#32 else 0#32)
theorem bS_xor (a b : BitVec 32) : bS (a ^^^ b) = bS a ^^^ bS b := by
  unfold bS
  rw [BitVec.ushiftRight_xor_distrib, BitVec.getLsbD_xor]
  cases a.getLsbD 0 <;> cases b.getLsbD 0
  · show _ ^^^ 0#32 = (_ ^^^ 0#32) ^^^ (_ ^^^ 0#32)
    rw [BitVec.xor_zero, BitVec.xor_zero, BitVec.xor_zero]
  · show _ ^^^ 2197175160#32 = (_ ^^^ 0#32) ^^^ (_ ^^^ 2197175160#32)
    rw [BitVec.xor_zero, BitVec.xor_assoc]
  · show _ ^^^ 2197175160#32 = (_ ^^^ 2197175160#32) ^^^ (_ ^^^ 0#32)
    rw [BitVec.xor_zero, BitVec.xor_assoc, BitVec.xor_assoc, BitVec.xor_comm 2197175160#32]
  · show _ ^^^ 0#32 = (_ ^^^ 2197175160#32) ^^^ (_ ^^^ 2197175160#32)
    rw [BitVec.xor_zero, BitVec.xor_assoc, BitVec.xor_comm 2197175160#32, BitVec.xor_assoc, BitVec.xor_self, BitVec.xor_zero]
theorem bS_even {a : BitVec 32} (h : a.getLsbD 0 = false) : bS a = a >>> 1 := by
  unfold bS
  rw [h]
  exact BitVec.xor_zero
theorem bS_high {a : BitVec 32} (h : ∀ i, i < 4 → a.getLsbD i = false) : bS (bS (bS (bS a))) = a >>> 4 := by
  have e1 : bS a = a >>> 1 := bS_even (h 0 (by decide))
  have e2 : bS (a >>> 1) = a >>> 1 >>> 1 := bS_even (by rw [BitVec.getLsbD_ushiftRight]; exact h 1 (by decide))
  have e3 : bS (a >>> 1 >>> 1) = a >>> 1 >>> 1 >>> 1 := bS_even (by rw [BitVec.getLsbD_ushiftRight, BitVec.getLsbD_ushiftRight]; exact h 2 (by decide))
  have e4 : bS (a >>> 1 >>> 1 >>> 1) = a >>> 1 >>> 1 >>> 1 >>> 1 := bS_even (by rw [BitVec.getLsbD_ushiftRight, BitVec.getLsbD_ushiftRight, BitVec.getLsbD_ushiftRight]; exact h 3 (by decide))
  rw [e1, e2, e3, e4, ← BitVec.shiftRight_add, ← BitVec.shiftRight_add, ← BitVec.shiftRight_add]
theorem bS_split (v : BitVec 32) : v = (v &&& 15#32) ^^^ (v &&& ~~~ 15#32) := by
  apply BitVec.eq_of_getLsbD_eq
  intro i hi
  rw [BitVec.getLsbD_xor, BitVec.getLsbD_and, BitVec.getLsbD_and, BitVec.getLsbD_not]
  have : decide (i < 32) = true := decide_eq_true hi
  rw [this]
  cases v.getLsbD i <;> cases (15#32).getLsbD i <;> rfl
theorem bS_nib (v : BitVec 32) : bS (bS (bS (bS v))) = (v >>> 4) ^^^ bS (bS (bS (bS (v &&& 15#32)))) := by
  have hh : bS (bS (bS (bS (v &&& ~~~ 15#32)))) = v >>> 4 := by
    rw [bS_high (fun i hi => ?_)]
    · apply BitVec.eq_of_getLsbD_eq
      intro i hi
      rw [BitVec.getLsbD_ushiftRight, BitVec.getLsbD_ushiftRight, BitVec.getLsbD_and, BitVec.getLsbD_not]
      by_cases c : 4 + i < 32
      · have e1 : decide (4 + i < 32) = true := decide_eq_true c
        have e2 : (15#32).getLsbD (4 + i) = false := by
          show Nat.testBit 15 (4 + i) = false
          exact Nat.testBit_lt_two_pow (Nat.lt_of_lt_of_le (by decide : 15 < 2 ^ 4) (Nat.pow_le_pow_right (by decide) (by omega)))
        rw [e1, e2]
        cases v.getLsbD (4 + i) <;> rfl
      · rw [BitVec.getLsbD_of_ge v (4 + i) (by omega)]
        rfl
    · rw [BitVec.getLsbD_and, BitVec.getLsbD_not]
      have e2 : (15#32).getLsbD i = true := by
        have : i = 0 ∨ i = 1 ∨ i = 2 ∨ i = 3 := by omega
        rcases this with u | u | u | u <;> subst u <;> rfl
      rw [e2]
      cases v.getLsbD i <;> cases decide (i < 32) <;> rfl
  have e : bS (bS (bS (bS v))) = bS (bS (bS (bS ((v &&& 15#32) ^^^ (v &&& ~~~ 15#32))))) := by rw [← bS_split]
  rw [e, bS_xor, bS_xor, bS_xor, bS_xor, hh, BitVec.xor_comm]
/-- one step of an int -/
def zs1 (x : Int) : Int := if zand x 1 ≠ 1 then zushr x 1 else zxor (zushr x 1) (-2097792136)
theorem zs1_32 (x : Int) : z32 (zs1 x) = zs1 x := by
  unfold zs1
  by_cases c : zand x 1 ≠ 1
  · rw [if_pos c]; exact z32_zushr _ _
  · rw [if_neg c]; exact z32_zxor _ _
theorem zs1_bv (x : Int) : BitVec.ofInt 32 (zs1 x) = bS (BitVec.ofInt 32 x) := by
  have hb : (BitVec.ofInt 32 x).getLsbD 0 = decide (x % 2 = 1) := by
    show Nat.testBit (BitVec.ofInt 32 x).toNat 0 = _
    rw [Nat.testBit_zero, BitVec.toNat_ofInt]
    have : ((2 ^ 32 : Nat) : Int) = 4294967296 := rfl
    rw [this]
    congr 1
    refine propext ?_
    omega
  unfold zs1 bS
  rw [hb, zand_1]
  by_cases c : x % 2 = 1
  · rw [if_neg (fun u => u c), decide_eq_true c, zxor_bv, zushr1_bv]
    rfl
  · rw [if_pos c, decide_eq_false c, zushr1_bv]
    exact (BitVec.xor_zero).symm
theorem zfa_bv {n : Nat} (h : n < 16) : BitVec.ofInt 32 (zfa n) = bS (bS (bS (bS (BitVec.ofNat 32 n)))) := by
  have hd : (List.range 16).all (fun n => decide (BitVec.ofInt 32 (zfa n) = bS (bS (bS (bS (BitVec.ofNat 32 n)))))) = true := by decide +kernel
  exact of_decide_eq_true (List.all_eq_true.mp hd n (List.mem_range.mpr h))
/-- four bits at once -/
theorem zs1_nib (x : Int) : zxor (zushr x 4) (zfa (zand x 15).toNat) = zs1 (zs1 (zs1 (zs1 x))) := by
  refine bv32_ext (z32_zxor _ _) (zs1_32 _) ?_
  have hn : (zand x 15).toNat < 16 := by rw [zand_15]; omega
  have he : BitVec.ofNat 32 (zand x 15).toNat = BitVec.ofInt 32 x &&& 15#32 := by
    rw [← show BitVec.ofInt 32 (15 : Int) = 15#32 from rfl, ← zand_bv]
    have e : zand x 15 = (((zand x 15).toNat : Nat) : Int) := by rw [zand_15]; omega
    rw [e, BitVec.ofInt_natCast, Int.toNat_natCast]
  rw [zxor_bv, zushr4_bv, zs1_bv, zs1_bv, zs1_bv, zs1_bv, bS_nib, zfa_bv hn, he]
/-- a byte -/
def cB (v b : Int) : Int := zs1 (zs1 (zs1 (zs1 (zs1 (zs1 (zs1 (zs1 (zxor v b))))))))
/-- n bytes, from the byte i on -/
def cRc (D : Int → Int) : Int → Nat → Int → Int
  | _, 0, v => v
  | i, n + 1, v => cRc D (i + 1) n (cB v (D i))
theorem cRc_congr {D E : Int → Int} : ∀ (n : Nat) (i v : Int), (∀ k, i ≤ k → k < i + n → D k = E k) → cRc D i n v = cRc E i n v := by
  intro n
  induction n with
  | zero => intro i v _; rfl
  | succ n ih =>
    intro i v h
    show cRc D (i + 1) n (cB v (D i)) = cRc E (i + 1) n (cB v (E i))
    rw [h i (by omega) (by omega)]
    exact ih _ _ (fun k k0 k1 => h k (by omega) (by omega))
/-- Bytes.FALLEN -/
def cT8 (L : Int → Int) (H : zHp) : Prop := L (-8) = 16 ∧ ∀ i : Int, 0 ≤ i → i < 16 → H (-8) i = zfa i.toNat
/-- Bytes.shifted -/
theorem s_shifted {x n v : Int} {t : Nat} {L : Int → Int} {H : zHp} {Qr Qt : Int → zS → Prop} (h8 : cT8 L H) (hn : 0 ≤ n ∧ n ≤ 8 * L x) (hL : L x ≤ 100000) (hQ : Qr (cRc (zB8 H x) 0 n.toNat v) (t, L, H)) : zEnds 80 4 0 [(0, v), (11, x), (0, n), (9, 0), (9, 0)] [] (t, L, H) Qr Qt := by
  have key : ∀ (m : Nat) (i v : Int), 0 ≤ i → i + m = n → Qr (cRc (zB8 H x) i m v) (t, L, H) → zEnds 80 4 5 [(9, 0), (11, x), (0, n), (0, v), (0, i)] [] (t, L, H) Qr Qt := by
    intro m
    induction m with
    | zero =>
      intro i v i0 i1 hq
      exact v_4_5 ⟨fun _ => hq, fun u => absurd (by omega) u⟩
    | succ m ih =>
      intro i v i0 i1 hq
      have a1 : ∀ y : Int, 0 ≤ zand y 15 ∧ zand y 15 < 16 := fun y => by rw [zand_15]; omega
      have a2 : ∀ y : Int, zxor (zushr y 4) (H (-8) (zand y 15)) = zs1 (zs1 (zs1 (zs1 y))) := fun y => by
        rw [h8.2 _ (a1 y).1 (a1 y).2]
        exact zs1_nib y
      refine v_4_5 ⟨fun u => by omega, fun _ => s_one (by decide) i0 (by show 8 * 0 + i < 8 * L x; omega) (by show L x ≤ 1000000; omega) ?_⟩
      show (0 ≤ zand (zxor v (zB8 H x (8 * 0 + i))) 15 ∧ zand (zxor v (zB8 H x (8 * 0 + i))) 15 < L (-8)) ∧ ((0 ≤ zand (zxor (zushr (zxor v (zB8 H x (8 * 0 + i))) 4) (H (-8) (zand (zxor v (zB8 H x (8 * 0 + i))) 15))) 15 ∧ zand (zxor (zushr (zxor v (zB8 H x (8 * 0 + i))) 4) (H (-8) (zand (zxor v (zB8 H x (8 * 0 + i))) 15))) 15 < L (-8)) ∧ zEnds 80 4 5 [(9, 0), (11, x), (0, n), (0, zxor (zushr (zxor (zushr (zxor v (zB8 H x (8 * 0 + i))) 4) (H (-8) (zand (zxor v (zB8 H x (8 * 0 + i))) 15))) 4) (H (-8) (zand (zxor (zushr (zxor v (zB8 H x (8 * 0 + i))) 4) (H (-8) (zand (zxor v (zB8 H x (8 * 0 + i))) 15))) 15))), (0, z32 (i + 1))] [] (t, L, H) Qr Qt)
      rw [a2, a2, z32_id (x := i + 1) (by omega) (by omega), show 8 * 0 + i = i by omega, h8.1]
      exact ⟨a1 _, a1 _, ih (i + 1) _ (by omega) (by omega) hq⟩
  refine v_4 (key n.toNat 0 v (by omega) (by omega) hQ)
