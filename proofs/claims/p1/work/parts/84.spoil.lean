/-! One call on a new object: spoil. -/
theorem bv64_ext {x y : Int} (hx : z64 x = x) (hy : z64 y = y) (h : BitVec.ofInt 64 x = BitVec.ofInt 64 y) : x = y := by
  have e : ∀ z : Int, (BitVec.ofInt 64 z).toInt = z64 z := fun z => by
    rw [BitVec.toInt_ofInt]
    unfold z64
    simp only [Int.bmod_def, show ((2 ^ 64 : Nat) : Int) = 18446744073709551616 from rfl]
    omega
  rw [← hx, ← e, h, e, hy]
theorem zlshl_0 (m : Int) {k : Nat} (h : k < 64) : zlshl m k = 0 ↔ (m % 18446744073709551616 * ((2 ^ k : Nat) : Int)) % 18446744073709551616 = 0 := by
  have e : zlshl m k = 0 ↔ BitVec.ofInt 64 m <<< k = 0#64 := by
    constructor
    · intro u
      rw [← zlshl_bv m h, u]
      rfl
    · intro u
      refine bv64_ext (z64_toInt _) rfl ?_
      rw [zlshl_bv m h, u]
      rfl
  rw [e]
  have f : BitVec.ofInt 64 m <<< k = 0#64 ↔ (BitVec.ofInt 64 m <<< k).toNat = 0 := by
    constructor
    · intro u; rw [u]; rfl
    · intro u; exact BitVec.eq_of_toNat_eq u
  rw [f, BitVec.toNat_shiftLeft, Nat.shiftLeft_eq, ← bv_nat m]
  constructor
  · intro u
    have : (((BitVec.ofInt 64 m).toNat * 2 ^ k % 2 ^ 64 : Nat) : Int) = 0 := by rw [u]; rfl
    rw [Int.natCast_emod, Int.natCast_mul] at this
    exact this
  · intro u
    have : (((BitVec.ofInt 64 m).toNat * 2 ^ k % 2 ^ 64 : Nat) : Int) = 0 := by
      rw [Int.natCast_emod, Int.natCast_mul]
      exact u
    omega
theorem zland_0 (m : Int) {j : Nat} {c : Int} (hc : BitVec.ofInt 64 c = BitVec.ofNat 64 (2 ^ j - 1)) (hj : j < 64) : zland m c = 0 ↔ (m % 18446744073709551616) % ((2 ^ j : Nat) : Int) = 0 := by
  have p1 : 0 < 2 ^ j := Nat.pow_pos (by decide)
  have p2 : 2 ^ j < 2 ^ 64 := Nat.pow_lt_pow_right (by decide) hj
  have tn : (BitVec.ofInt 64 m &&& BitVec.ofInt 64 c).toNat = (BitVec.ofInt 64 m).toNat % 2 ^ j := by
    rw [hc, BitVec.toNat_and, BitVec.toNat_ofNat, Nat.mod_eq_of_lt (by omega)]
    exact Nat.and_two_pow_sub_one_eq_mod _ j
  have e : zland m c = 0 ↔ (BitVec.ofInt 64 m &&& BitVec.ofInt 64 c).toNat = 0 := by
    constructor
    · intro u
      rw [← zland_bv, u]
      rfl
    · intro u
      refine bv64_ext (z64_toInt _) rfl ?_
      rw [zland_bv]
      exact BitVec.eq_of_toNat_eq u
  rw [e, tn, ← bv_nat m]
  constructor
  · intro u
    rw [← Int.natCast_emod, u]
    rfl
  · intro u
    rw [← Int.natCast_emod] at u
    omega
/-- some of the n low bytes is not 0 -/
def lowB (m n : Int) : Prop := ∃ i, 0 ≤ i ∧ i < n ∧ by8 m i ≠ 0
theorem low_iff {m n : Int} (hn : 1 ≤ n ∧ n ≤ 8) : lowB m n ↔ (m % 18446744073709551616) % ((2 ^ (8 * n.toNat) : Nat) : Int) ≠ 0 := by

  have b0 : by8 m 0 = m % 18446744073709551616 / 1 % 256 := rfl
  have b1 : by8 m 1 = m % 18446744073709551616 / 256 % 256 := rfl
  have b2 : by8 m 2 = m % 18446744073709551616 / 65536 % 256 := rfl
  have b3 : by8 m 3 = m % 18446744073709551616 / 16777216 % 256 := rfl
  have b4 : by8 m 4 = m % 18446744073709551616 / 4294967296 % 256 := rfl
  have b5 : by8 m 5 = m % 18446744073709551616 / 1099511627776 % 256 := rfl
  have b6 : by8 m 6 = m % 18446744073709551616 / 281474976710656 % 256 := rfl
  have b7 : by8 m 7 = m % 18446744073709551616 / 72057594037927936 % 256 := rfl
  unfold lowB
  have c : n = 1 ∨ n = 2 ∨ n = 3 ∨ n = 4 ∨ n = 5 ∨ n = 6 ∨ n = 7 ∨ n = 8 := by omega
  rcases c with c | c | c | c | c | c | c | c
  · subst c
    show _ ↔ (m % 18446744073709551616) % 256 ≠ 0
    constructor
    · intro u
      obtain ⟨i, i0, i1, i2⟩ := u
      have q : i = 0 := by omega
      rw [q, b0] at i2
      omega
    · intro u
      by_cases c0 : by8 m 0 = 0
      case neg => exact ⟨0, by decide, by decide, c0⟩
      rw [b0] at c0
      omega
  · subst c
    show _ ↔ (m % 18446744073709551616) % 65536 ≠ 0
    constructor
    · intro u
      obtain ⟨i, i0, i1, i2⟩ := u
      have q : i = 0 ∨ i = 1 := by omega
      rcases q with q | q
      · rw [q, b0] at i2
        omega
      · rw [q, b1] at i2
        omega
    · intro u
      by_cases c0 : by8 m 0 = 0
      case neg => exact ⟨0, by decide, by decide, c0⟩
      by_cases c1 : by8 m 1 = 0
      case neg => exact ⟨1, by decide, by decide, c1⟩
      rw [b0] at c0
      rw [b1] at c1
      omega
  · subst c
    show _ ↔ (m % 18446744073709551616) % 16777216 ≠ 0
    constructor
    · intro u
      obtain ⟨i, i0, i1, i2⟩ := u
      have q : i = 0 ∨ i = 1 ∨ i = 2 := by omega
      rcases q with q | q | q
      · rw [q, b0] at i2
        omega
      · rw [q, b1] at i2
        omega
      · rw [q, b2] at i2
        omega
    · intro u
      by_cases c0 : by8 m 0 = 0
      case neg => exact ⟨0, by decide, by decide, c0⟩
      by_cases c1 : by8 m 1 = 0
      case neg => exact ⟨1, by decide, by decide, c1⟩
      by_cases c2 : by8 m 2 = 0
      case neg => exact ⟨2, by decide, by decide, c2⟩
      rw [b0] at c0
      rw [b1] at c1
      rw [b2] at c2
      omega
  · subst c
    show _ ↔ (m % 18446744073709551616) % 4294967296 ≠ 0
    constructor
    · intro u
      obtain ⟨i, i0, i1, i2⟩ := u
      have q : i = 0 ∨ i = 1 ∨ i = 2 ∨ i = 3 := by omega
      rcases q with q | q | q | q
      · rw [q, b0] at i2
        omega
      · rw [q, b1] at i2
        omega
      · rw [q, b2] at i2
        omega
      · rw [q, b3] at i2
        omega
    · intro u
      by_cases c0 : by8 m 0 = 0
      case neg => exact ⟨0, by decide, by decide, c0⟩
      by_cases c1 : by8 m 1 = 0
      case neg => exact ⟨1, by decide, by decide, c1⟩
      by_cases c2 : by8 m 2 = 0
      case neg => exact ⟨2, by decide, by decide, c2⟩
      by_cases c3 : by8 m 3 = 0
      case neg => exact ⟨3, by decide, by decide, c3⟩
      rw [b0] at c0
      rw [b1] at c1
      rw [b2] at c2
      rw [b3] at c3
      omega
  · subst c
    show _ ↔ (m % 18446744073709551616) % 1099511627776 ≠ 0
    constructor
    · intro u
      obtain ⟨i, i0, i1, i2⟩ := u
      have q : i = 0 ∨ i = 1 ∨ i = 2 ∨ i = 3 ∨ i = 4 := by omega
      rcases q with q | q | q | q | q
      · rw [q, b0] at i2
        omega
      · rw [q, b1] at i2
        omega
      · rw [q, b2] at i2
        omega
      · rw [q, b3] at i2
        omega
      · rw [q, b4] at i2
        omega
    · intro u
      by_cases c0 : by8 m 0 = 0
      case neg => exact ⟨0, by decide, by decide, c0⟩
      by_cases c1 : by8 m 1 = 0
      case neg => exact ⟨1, by decide, by decide, c1⟩
      by_cases c2 : by8 m 2 = 0
      case neg => exact ⟨2, by decide, by decide, c2⟩
      by_cases c3 : by8 m 3 = 0
      case neg => exact ⟨3, by decide, by decide, c3⟩
      by_cases c4 : by8 m 4 = 0
      case neg => exact ⟨4, by decide, by decide, c4⟩
      rw [b0] at c0
      rw [b1] at c1
      rw [b2] at c2
      rw [b3] at c3
      rw [b4] at c4
      omega
  · subst c
    show _ ↔ (m % 18446744073709551616) % 281474976710656 ≠ 0
    constructor
    · intro u
      obtain ⟨i, i0, i1, i2⟩ := u
      have q : i = 0 ∨ i = 1 ∨ i = 2 ∨ i = 3 ∨ i = 4 ∨ i = 5 := by omega
      rcases q with q | q | q | q | q | q
      · rw [q, b0] at i2
        omega
      · rw [q, b1] at i2
        omega
      · rw [q, b2] at i2
        omega
      · rw [q, b3] at i2
        omega
      · rw [q, b4] at i2
        omega
      · rw [q, b5] at i2
        omega
    · intro u
      by_cases c0 : by8 m 0 = 0
      case neg => exact ⟨0, by decide, by decide, c0⟩
      by_cases c1 : by8 m 1 = 0
      case neg => exact ⟨1, by decide, by decide, c1⟩
      by_cases c2 : by8 m 2 = 0
      case neg => exact ⟨2, by decide, by decide, c2⟩
      by_cases c3 : by8 m 3 = 0
      case neg => exact ⟨3, by decide, by decide, c3⟩
      by_cases c4 : by8 m 4 = 0
      case neg => exact ⟨4, by decide, by decide, c4⟩
      by_cases c5 : by8 m 5 = 0
      case neg => exact ⟨5, by decide, by decide, c5⟩
      rw [b0] at c0
      rw [b1] at c1
      rw [b2] at c2
      rw [b3] at c3
      rw [b4] at c4
      rw [b5] at c5
      omega
  · subst c
    show _ ↔ (m % 18446744073709551616) % 72057594037927936 ≠ 0
    constructor
    · intro u
      obtain ⟨i, i0, i1, i2⟩ := u
      have q : i = 0 ∨ i = 1 ∨ i = 2 ∨ i = 3 ∨ i = 4 ∨ i = 5 ∨ i = 6 := by omega
      rcases q with q | q | q | q | q | q | q
      · rw [q, b0] at i2
        omega
      · rw [q, b1] at i2
        omega
      · rw [q, b2] at i2
        omega
      · rw [q, b3] at i2
        omega
      · rw [q, b4] at i2
        omega
      · rw [q, b5] at i2
        omega
      · rw [q, b6] at i2
        omega
    · intro u
      by_cases c0 : by8 m 0 = 0
      case neg => exact ⟨0, by decide, by decide, c0⟩
      by_cases c1 : by8 m 1 = 0
      case neg => exact ⟨1, by decide, by decide, c1⟩
      by_cases c2 : by8 m 2 = 0
      case neg => exact ⟨2, by decide, by decide, c2⟩
      by_cases c3 : by8 m 3 = 0
      case neg => exact ⟨3, by decide, by decide, c3⟩
      by_cases c4 : by8 m 4 = 0
      case neg => exact ⟨4, by decide, by decide, c4⟩
      by_cases c5 : by8 m 5 = 0
      case neg => exact ⟨5, by decide, by decide, c5⟩
      by_cases c6 : by8 m 6 = 0
      case neg => exact ⟨6, by decide, by decide, c6⟩
      rw [b0] at c0
      rw [b1] at c1
      rw [b2] at c2
      rw [b3] at c3
      rw [b4] at c4
      rw [b5] at c5
      rw [b6] at c6
      omega
  · subst c
    show _ ↔ (m % 18446744073709551616) % 18446744073709551616 ≠ 0
    constructor
    · intro u
      obtain ⟨i, i0, i1, i2⟩ := u
      have q : i = 0 ∨ i = 1 ∨ i = 2 ∨ i = 3 ∨ i = 4 ∨ i = 5 ∨ i = 6 ∨ i = 7 := by omega
      rcases q with q | q | q | q | q | q | q | q
      · rw [q, b0] at i2
        omega
      · rw [q, b1] at i2
        omega
      · rw [q, b2] at i2
        omega
      · rw [q, b3] at i2
        omega
      · rw [q, b4] at i2
        omega
      · rw [q, b5] at i2
        omega
      · rw [q, b6] at i2
        omega
      · rw [q, b7] at i2
        omega
    · intro u
      by_cases c0 : by8 m 0 = 0
      case neg => exact ⟨0, by decide, by decide, c0⟩
      by_cases c1 : by8 m 1 = 0
      case neg => exact ⟨1, by decide, by decide, c1⟩
      by_cases c2 : by8 m 2 = 0
      case neg => exact ⟨2, by decide, by decide, c2⟩
      by_cases c3 : by8 m 3 = 0
      case neg => exact ⟨3, by decide, by decide, c3⟩
      by_cases c4 : by8 m 4 = 0
      case neg => exact ⟨4, by decide, by decide, c4⟩
      by_cases c5 : by8 m 5 = 0
      case neg => exact ⟨5, by decide, by decide, c5⟩
      by_cases c6 : by8 m 6 = 0
      case neg => exact ⟨6, by decide, by decide, c6⟩
      by_cases c7 : by8 m 7 = 0
      case neg => exact ⟨7, by decide, by decide, c7⟩
      rw [b0] at c0
      rw [b1] at c1
      rw [b2] at c2
      rw [b3] at c3
      rw [b4] at c4
      rw [b5] at c5
      rw [b6] at c6
      rw [b7] at c7
      omega
theorem low_c {m n : Int} (hn : 1 ≤ n ∧ n ≤ 8) : zcmp (zlshl m (z32 (64 - (z32 (8 * n))))) 0 ≠ 0 ↔ lowB m n := by
  rw [low_iff hn, Ne, zcmp_0]
  have c : n = 1 ∨ n = 2 ∨ n = 3 ∨ n = 4 ∨ n = 5 ∨ n = 6 ∨ n = 7 ∨ n = 8 := by omega
  rcases c with c | c | c | c | c | c | c | c
  · subst c
    show ¬ zlshl m ((56 : Nat) : Int) = 0 ↔ (m % 18446744073709551616) % 256 ≠ 0
    rw [zlshl_0 m (by decide)]
    show ¬ (m % 18446744073709551616 * 72057594037927936) % 18446744073709551616 = 0 ↔ _
    omega
  · subst c
    show ¬ zlshl m ((48 : Nat) : Int) = 0 ↔ (m % 18446744073709551616) % 65536 ≠ 0
    rw [zlshl_0 m (by decide)]
    show ¬ (m % 18446744073709551616 * 281474976710656) % 18446744073709551616 = 0 ↔ _
    omega
  · subst c
    show ¬ zlshl m ((40 : Nat) : Int) = 0 ↔ (m % 18446744073709551616) % 16777216 ≠ 0
    rw [zlshl_0 m (by decide)]
    show ¬ (m % 18446744073709551616 * 1099511627776) % 18446744073709551616 = 0 ↔ _
    omega
  · subst c
    show ¬ zlshl m ((32 : Nat) : Int) = 0 ↔ (m % 18446744073709551616) % 4294967296 ≠ 0
    rw [zlshl_0 m (by decide)]
    show ¬ (m % 18446744073709551616 * 4294967296) % 18446744073709551616 = 0 ↔ _
    omega
  · subst c
    show ¬ zlshl m ((24 : Nat) : Int) = 0 ↔ (m % 18446744073709551616) % 1099511627776 ≠ 0
    rw [zlshl_0 m (by decide)]
    show ¬ (m % 18446744073709551616 * 16777216) % 18446744073709551616 = 0 ↔ _
    omega
  · subst c
    show ¬ zlshl m ((16 : Nat) : Int) = 0 ↔ (m % 18446744073709551616) % 281474976710656 ≠ 0
    rw [zlshl_0 m (by decide)]
    show ¬ (m % 18446744073709551616 * 65536) % 18446744073709551616 = 0 ↔ _
    omega
  · subst c
    show ¬ zlshl m ((8 : Nat) : Int) = 0 ↔ (m % 18446744073709551616) % 72057594037927936 ≠ 0
    rw [zlshl_0 m (by decide)]
    show ¬ (m % 18446744073709551616 * 256) % 18446744073709551616 = 0 ↔ _
    omega
  · subst c
    show ¬ zlshl m ((0 : Nat) : Int) = 0 ↔ (m % 18446744073709551616) % 18446744073709551616 ≠ 0
    rw [zlshl_0 m (by decide)]
    show ¬ (m % 18446744073709551616 * 1) % 18446744073709551616 = 0 ↔ _
    omega
theorem low_m {m n : Int} (hn : 1 ≤ n ∧ n ≤ 8) (h8 : n ≠ 8) : zcmp (zland m (z64 (zlshl 1 (z32 (8 * n)) - 1))) 0 ≠ 0 ↔ lowB m n := by
  rw [low_iff hn, Ne, zcmp_0]
  have c : n = 1 ∨ n = 2 ∨ n = 3 ∨ n = 4 ∨ n = 5 ∨ n = 6 ∨ n = 7 := by omega
  rcases c with c | c | c | c | c | c | c
  · subst c
    rw [zland_0 m (j := 8) (by decide +kernel) (by decide)]
    exact Iff.rfl
  · subst c
    rw [zland_0 m (j := 16) (by decide +kernel) (by decide)]
    exact Iff.rfl
  · subst c
    rw [zland_0 m (j := 24) (by decide +kernel) (by decide)]
    exact Iff.rfl
  · subst c
    rw [zland_0 m (j := 32) (by decide +kernel) (by decide)]
    exact Iff.rfl
  · subst c
    rw [zland_0 m (j := 40) (by decide +kernel) (by decide)]
    exact Iff.rfl
  · subst c
    rw [zland_0 m (j := 48) (by decide +kernel) (by decide)]
    exact Iff.rfl
  · subst c
    rw [zland_0 m (j := 56) (by decide +kernel) (by decide)]
    exact Iff.rfl
theorem low_8 {m : Int} (hm : z64 m = m) : zcmp m 0 ≠ 0 ↔ lowB m 8 := by
  rw [low_iff (by decide), Ne, zcmp_0]
  show ¬ m = 0 ↔ (m % 18446744073709551616) % 18446744073709551616 ≠ 0
  unfold z64 at hm
  omega
theorem X8_0 {b : Int} (hb : 0 ≤ b ∧ b < 256) : X8 0 b = b := by
  unfold X8
  rw [Int.emod_eq_of_lt hb.1 hb.2, show ((0 : Int) % 256).toNat = 0 from rfl, Nat.zero_xor]
  omega
/-- the flaw of a cell that had none -/
def d0 (a n m : Int) : Int → Int := dB a n m (fun _ => 0)
theorem d0_at {a n m k : Int} (hk : a ≤ k ∧ k < a + n) : d0 a n m k = by8 m (k - a) := by
  unfold d0 dB
  rw [if_pos hk]
  exact X8_0 (by8_rg _ _)
theorem d0_no {a n m k : Int} (hk : ¬ (a ≤ k ∧ k < a + n)) : d0 a n m k = 0 := by
  unfold d0 dB
  rw [if_neg hk]
theorem cW_congr {D E : Int → Int} (h : ∀ k, 66 ≤ k → k < 70 → D k = E k) : cW D = cW E := by
  unfold cW
  rw [h 66 (by decide) (by decide), h 67 (by decide) (by decide), h 68 (by decide) (by decide), h 69 (by decide) (by decide)]
/-- the arguments are right -/
def sOK (d r x o a n m : Int) : Prop := (0 ≤ x ∧ x < d) ∧ (0 ≤ o ∧ o < r) ∧ (1 ≤ n ∧ n ≤ 8) ∧ (0 ≤ a ∧ a ≤ 70 - n) ∧ lowB m n
section SPOIL
variable {d w r : Int} {t : Nat} {L : Int → Int} {H X : zHp} {Qr Qt : Int → zS → Prop} {x o a n m : Int}
theorem p_spoilC (ht : 118 ≤ t) (h : kF d w r t L H) (q0 : ¬ sOK d r x o a n m → Qt 1 (t, L, H)) (q1 : sOK d r x o a n m → zEnds 80 160 104 [(20, 0), (0, x), (0, o), (0, a), (0, n), (1, m), (9, 0), (9, 0)] [(0, gFirst (fun s => H 13 s = x) (o * gPo d w) (gPo d w).toNat)] (t, L, H) Qr Qt) : zEnds 80 160 0 [(20, 0), (0, x), (0, o), (0, a), (0, n), (1, m), (9, 0), (9, 0)] [] (t, L, H) Qr Qt := by
  have on : H 0 11 = 1 := h.2.2.2.1
  have n2 : H 1 2 = r := h.1.1.1.2.2.1.1.2.2.1
  have thr : ¬ sOK d r x o a n m → (118 ≤ t) ∧ ((1 : Int) ≠ 0 ∧ Qt 1 (t, L, H)) := fun u => ⟨ht, by decide, q0 u⟩
  refine j_160 (k_disk h.1.1.1 ht (fun hx => ⟨fun c => j_160_33 (thr (fun s => by have := s.2.1; omega)), fun c1 => ⟨fun c => j_160_33 (thr (fun s => by have := s.2.1; have c : H 1 2 ≤ o := c; omega)), fun c2 => ⟨fun c => j_160_33 (thr (fun s => by have := s.2.2.1; omega)), fun c3 => ⟨fun c4 => ⟨fun c => j_160_73 (thr (fun s => by have := s.2.2.2.1; omega)), fun c5 => ⟨fun c => j_160_73 (thr (fun s => ?_)), fun c6 => ⟨fun c7 => ⟨fun u => absurd u (by show ¬ H 0 11 = 0; omega), fun _ => g_spotOn h.1.1.1 ?_ (q1 ?_)⟩, fun c7 => j_160_73 (thr (fun s => c7 ((low_c s.2.2.1).mpr s.2.2.2.2)))⟩⟩⟩, fun c => j_160_33 (thr (fun s => by have := s.2.2.1; omega))⟩⟩⟩⟩) (fun u => q0 (fun s => u s.1)))
  · have := s.2.2.1
    have := s.2.2.2.1
    rw [z32_id (x := 70 - n) (by omega) (by omega)] at c
    omega
  · have c2 : ¬ H 1 2 ≤ o := c2
    omega
  · have c2 : ¬ H 1 2 ≤ o := c2
    rw [z32_id (x := 70 - n) (by omega) (by omega)] at c6
    exact ⟨hx, by omega, by omega, by omega, (low_c (by omega)).mp c7⟩
theorem p_spoilM (hm64 : z64 m = m) (hn : z32 n = n) (hm : mF d w r L H) (q0 : ¬ sOK d r x o a n m → ∀ x7, zEnds 118 212 96 [(29, 35), (0, x), (0, o), (0, a), (0, n), (1, m), (9, 0), (0, x7), (9, 0)] [(0, 1), (29, 35)] (t, L, H) Qr Qt) (q1 : sOK d r x o a n m → ∀ x7, zEnds 118 212 96 [(29, 35), (0, x), (0, o), (0, a), (0, n), (1, m), (9, 0), (0, x7), (9, 0)] [(0, 0), (29, 35)] (t, L, H) Qr Qt) : zEnds 118 212 0 [(29, 35), (0, x), (0, o), (0, a), (0, n), (1, m), (9, 0), (9, 0), (9, 0)] [] (t, L, H) Qr Qt := by
  have e1 : H 35 1 = d := hm.1.2.2.2.1.1
  have e3 : H 35 3 = r := hm.1.2.2.2.1.2.2.1
  have sz : ∀ y0 : Int, (y0 = 0 ∨ y0 = 1) → (y0 = 1 ↔ (1 ≤ n ∧ n ≤ 8) ∧ (0 ≤ a ∧ a ≤ 70 - n)) → zEnds 118 212 30 [(29, 35), (0, x), (0, o), (0, a), (0, n), (1, m), (9, 0), (9, 0), (9, 0)] [(0, y0)] (t, L, H) Qr Qt := fun y0 y01 hy => by
    refine j_212_30 ⟨fun c => j_212_91 (q0 (fun s => by have := s.1; omega) _), fun c1 => ⟨fun c => j_212_91 (q0 (fun s => by have := s.1; have c : H 35 1 ≤ x := c; omega) _), fun c2 => ⟨fun c => j_212_91 (q0 (fun s => by have := s.2.1; omega) _), fun c3 => ⟨fun c => j_212_91 (q0 (fun s => by have := s.2.1; have c : H 35 3 ≤ o := c; omega) _), fun c4 => ⟨fun c => j_212_91 (q0 (fun s => by have := hy.mpr ⟨s.2.2.1, s.2.2.2.1⟩; omega) _), fun c5 => ?_⟩⟩⟩⟩⟩
    have c2 : ¬ H 35 1 ≤ x := c2
    have c4 : ¬ H 35 3 ≤ o := c4
    obtain ⟨a1, a2⟩ := hy.mp (by omega)
    refine ⟨fun c8 => j_212_86 ⟨fun u => q1 ⟨by omega, by omega, a1, a2, (low_m a1 c8).mp u⟩ _, fun u => j_212_91 (q0 (fun s => u ((low_m a1 c8).mpr s.2.2.2.2)) _)⟩, fun c8 => ?_⟩
    have c8 : n = 8 := by omega
    subst c8
    exact j_212_86 ⟨fun u => q1 ⟨by omega, by omega, a1, a2, (low_8 hm64).mp u⟩ _, fun u => j_212_91 (q0 (fun s => u ((low_8 hm64).mpr s.2.2.2.2)) _)⟩
  have no : ¬ ((1 ≤ n ∧ n ≤ 8) ∧ (0 ≤ a ∧ a ≤ 70 - n)) → zEnds 118 212 29 [(29, 35), (0, x), (0, o), (0, a), (0, n), (1, m), (9, 0), (9, 0), (9, 0)] [] (t, L, H) Qr Qt := fun u => j_212_29 (sz 0 (Or.inl rfl) ⟨fun v => absurd v (by decide), fun v => absurd v u⟩)
  refine j_212 ⟨fun c => no (by omega), fun c1 => ⟨fun c => no (by omega), fun c2 => ⟨fun c => no (by omega), fun c3 => ⟨fun c => no ?_, fun c4 => sz 1 (Or.inr rfl) ⟨fun _ => ?_, fun _ => rfl⟩⟩⟩⟩⟩
  · rw [z32_id (x := 70 - n) (by omega) (by omega)] at c
    omega
  · rw [z32_id (x := 70 - n) (by omega) (by omega)] at c4
    omega
/-- the spot on a disk in a row, as new -/
theorem p_spot (h : kF d w r t L H) (hx : 0 ≤ x ∧ x < d) (ho : 0 ≤ o ∧ o < r) : (gFirst (fun s => H 13 s = x) (o * gPo d w) (gPo d w).toNat = -1 ∧ ∀ p, 0 ≤ p → p < gPo d w → gDk d o p ≠ x) ∨ (∃ p, (0 ≤ p ∧ p < gPo d w) ∧ gFirst (fun s => H 13 s = x) (o * gPo d w) (gPo d w).toNat = o * gPo d w + p ∧ gDk d o p = x) := by
  have hk := h.1.1.1.1
  have po := gPo_rg hk
  have w3 := hk.2.2.1
  have m1 : (o + 1) * gPo d w ≤ r * gPo d w := Int.mul_le_mul_of_nonneg_right (by omega) (by omega)
  have m2 : 0 ≤ o * gPo d w := Int.mul_nonneg ho.1 (by omega)
  rw [Int.add_mul, Int.one_mul] at m1
  have e13 : ∀ p, 0 ≤ p → p < gPo d w → H 13 (o * gPo d w + p) = gDk d o p := fun p p0 p1 => by
    rw [h.1.2.1.2.1 _ (by omega) (by omega)]
    unfold gHome
    rw [show o * gPo d w + p = p + gPo d w * o by rw [Int.mul_comm]; omega, Int.add_mul_ediv_left _ _ (by omega), Int.ediv_eq_zero_of_lt p0 p1, Int.zero_add, Int.add_mul_emod_self_left, Int.emod_eq_of_lt p0 p1]
  rcases gFirst_spec (fun s => H 13 s = x) (gPo d w).toNat (o * gPo d w) with u | u
  · exact Or.inl ⟨u.1, fun p p0 p1 v => u.2 (o * gPo d w + p) (by omega) (by omega) (by rw [e13 p p0 p1]; exact v)⟩
  · obtain ⟨u0, u1, u2, -⟩ := u
    generalize gFirst (fun s => H 13 s = x) (o * gPo d w) (gPo d w).toNat = s at u0 u1 u2
    refine Or.inr ⟨s - o * gPo d w, by omega, by omega, ?_⟩
    rw [← e13 _ (by omega) (by omega), show o * gPo d w + (s - o * gPo d w) = s by omega]
    exact u2
theorem p_holder (hm : mF d w r L H) (ho : 0 ≤ o ∧ o < r) : (gFirst (fun p => mPl d w H o p = x) 0 (gPo d w).toNat = -1 ∧ ∀ p, 0 ≤ p → p < gPo d w → gDk d o p ≠ x) ∨ (∃ p, (0 ≤ p ∧ p < gPo d w) ∧ gFirst (fun p => mPl d w H o p = x) 0 (gPo d w).toNat = p ∧ gDk d o p = x) := by
  rcases gFirst_spec (fun p => mPl d w H o p = x) (gPo d w).toNat 0 with u | u
  · refine Or.inl ⟨u.1, fun p p0 p1 v => u.2 p (by omega) (by omega) ?_⟩
    show mPl d w H o p = x
    rw [p_mpl hm ho ⟨p0, p1⟩]
    exact v
  · obtain ⟨u0, u1, u2, -⟩ := u
    have u2 : mPl d w H o (gFirst (fun p => mPl d w H o p = x) 0 (gPo d w).toNat) = x := u2
    rw [p_mpl hm ho (by omega)] at u2
    exact Or.inr ⟨_, by omega, rfl, u2⟩
theorem p_spoil1 (ht : 118 ≤ t) (h : kF d w r t L H) (h8 : cT8 L H) (ok : sOK d r x o a n m) {p : Int} (hp : 0 ≤ p ∧ p < gPo d w) (hx : gDk d o p = x) {v : Int} (hv : (v = 0 ∧ cRc (d0 a n m) 0 66 0 = cW (d0 a n m)) ∨ (v = 1 ∧ cRc (d0 a n m) 0 66 0 ≠ cW (d0 a n m))) : zEnds 80 160 104 [(20, 0), (0, x), (0, o), (0, a), (0, n), (1, m), (9, 0), (9, 0)] [(0, o * gPo d w + p)] (t, L, H) (fun v' S1 => v' = v ∧ ∃ H1, S1 = (t, L, H1) ∧ fC H H1) (fun _ _ => False) := by
  have hk := h.1.1.1.1
  have po := gPo_rg hk
  have w3 := hk.2.2.1
  obtain ⟨ox, oo, on, oa, low⟩ := ok
  have m1 : (o + 1) * gPo d w ≤ r * gPo d w := Int.mul_le_mul_of_nonneg_right (by omega) (by omega)
  have m2 : 0 ≤ o * gPo d w := Int.mul_nonneg oo.1 (by omega)
  rw [Int.add_mul, Int.one_mul] at m1
  have l10 : L 10 = 9 := h.1.1.1.2.1.1.2.2.2.2.2.2.2.1
  have hc := gCe_rg hk ox (o := o) (by omega)
  have z9 : ∀ k, zB8 H 9 k = 0 := fun k => by
    unfold zB8
    rw [h.1.2.1.1.2.2.2.1 _]
    show (0 : Int) % 18446744073709551616 / _ % 256 = 0
    rw [show (0 : Int) % 18446744073709551616 = 0 from rfl, Int.zero_ediv]
    rfl
  refine j_160_104 ⟨fun _ => g_draft h.1.1.1 ox (by omega) (by omega) (by omega) (fun K g1 g2 g3 => ?_), fun u => absurd (by omega) u⟩
  have g3 : ∀ k, 0 ≤ k → k < 72 → zB8 K 10 k = d0 a n m k := fun k k0 k1 => by
    rw [g3 k k0 k1]
    unfold d0 dB
    dsimp only
    rw [z9]
  have fl : ∃ j, 0 ≤ j ∧ j < 9 ∧ K 10 j ≠ 0 := by
    obtain ⟨i, i0, i1, i2⟩ := low
    refine ⟨(a + i) / 8, by omega, by omega, fun z => i2 ?_⟩
    have q := g3 (a + i) (by omega) (by omega)
    rw [d0_at (by omega), show a + i - a = i by omega] at q
    rw [← q]
    unfold zB8
    rw [z]
    show (0 : Int) % 18446744073709551616 / _ % 256 = 0
    rw [show (0 : Int) % 18446744073709551616 = 0 from rfl, Int.zero_ediv]
    rfl
  have h8K : cT8 L K := ⟨h8.1, fun i i0 i1 => by rw [g2 (-8) i (by decide)]; exact h8.2 i i0 i1⟩
  have eD : cRc (zB8 K 10) 0 66 0 = cRc (d0 a n m) 0 66 0 := cRc_congr _ _ _ (fun k k0 k1 => g3 k k0 (by omega))
  have eW : cW (zB8 K 10) = cW (d0 a n m) := by
    unfold cW
    rw [g3 66 (by decide) (by decide), g3 67 (by decide) (by decide), g3 68 (by decide) (by decide), g3 69 (by decide) (by decide)]
  have iK : gI d w r t L K := h.1.1.keep (fun q i hq => g2 q i (by omega)) (fun q i hq => by rw [g2 q i (by omega)]; exact h.1.1.1.2.2.2 q i (by omega))
  have fK : fC H K := fun q i hq => g2 q i (by omega)
  refine g_forged h8K l10 fl (fun u => ⟨fun _ => j_160_160 ⟨Or.inl rfl, ?_, K, rfl, fK⟩, fun z => absurd (by decide) z⟩) (fun u => ⟨fun z => absurd rfl z, fun _ => g_isFlaw l10 (fun _ => ⟨fun z => absurd z (by decide), fun _ => g_hasFault iK.1 iK.2 (by omega) (fun f => ?_) (fun _ => ⟨fun _ => j_160_162 (g_keepFlaw iK.1 ox (by omega) (fun v2 _ _ => ⟨Or.inr rfl, ?_, _, rfl, ?_⟩)), fun z => absurd rfl z⟩)⟩) (fun z => ?_)⟩)
  · rcases hv with q | q
    · exact q.1.symm
    · exact absurd (by rw [← eD, ← eW]; exact u) q.2
  · obtain ⟨s', s0, s1, s2, s3⟩ := f
    have hs := gStripe hk (s := o * gPo d w + p) (by omega)
    refine absurd (show gSound d w r K s' from ?_) s3
    have so := p_sound h (s := s') (by omega)
    unfold gSound gVal gAt at so ⊢
    rw [g2 13 _ (by decide), g2 5 _ (by decide), g2 6 _ (by decide)]
    exact so
  · rcases hv with q | q
    · exact absurd (by rw [eD, eW]; exact q.2) u
    · exact q.1.symm
  · intro q i hq
    rw [zupd_ne (by omega), zcpy_ne (by omega)]
    exact fK q i hq
  · obtain ⟨j, j0, j1, j2⟩ := fl
    exact absurd (z j j0 j1) j2
theorem p_spoil2 (ht : 118 ≤ t) (hm : mF d w r L H) (ok : sOK d r x o a n m) {p : Int} (hp : 0 ≤ p ∧ p < gPo d w) (hx : gDk d o p = x) (hf : gFirst (fun p => mPl d w H o p = x) 0 (gPo d w).toNat = p) {v : Int} (hv : (v = 0 ∧ cRc (d0 a n m) 0 66 0 = cW (d0 a n m)) ∨ (v = 1 ∧ cRc (d0 a n m) 0 66 0 ≠ cW (d0 a n m))) {H0 : zHp} (f0 : fM H0 H) (z0 : H 35 0 = 0) : zEnds 118 183 0 [(0, x), (0, o)] [] (t, L, H) (fun v3 S3 => zEnds 118 210 0 [(29, 35), (0, z32 (z32 (70 * v3) + a)), (0, n), (1, m), (9, 0), (9, 0)] [] S3 (fun v4 S4 => zEnds 118 190 0 [(29, 35), (0, o), (0, p), (0, (-1)), (9, 0), (9, 0), (9, 0), (9, 0)] [] S4 (fun v5 S5 => ((2 : Int) ≤ v5 → zEnds 118 212 182 [(29, 35), (0, x), (0, o), (0, a), (0, n), (1, m), (9, 0), (9, 0), (9, 0)] [] S5 (fun b S2 => b = v ∧ ∃ H2, S2 = (t, L, H2) ∧ H2 35 0 = 0 ∧ fM H0 H2) (fun _ _ => False)) ∧ (¬ ((2 : Int) ≤ v5) → zEnds 118 183 0 [(0, x), (0, o)] [] S5 (fun v6 S6 => zEnds 118 211 0 [(29, 35), (0, v6), (9, 0), (9, 0), (9, 0), (9, 0)] [] S6 (fun v7 S7 => (v7 ≠ 0 → zEnds 118 212 182 [(29, 35), (0, x), (0, o), (0, a), (0, n), (1, m), (9, 0), (9, 0), (9, 0)] [] S7 (fun b S2 => b = v ∧ ∃ H2, S2 = (t, L, H2) ∧ H2 35 0 = 0 ∧ fM H0 H2) (fun _ _ => False)) ∧ (¬ (v7 ≠ 0) → ((1 : Int) = 0 ∨ (1 : Int) = 1) ∧ 1 = v ∧ ∃ H2, S7 = (t, L, H2) ∧ H2 35 0 = 0 ∧ fM H0 H2)) (fun _ _ => False)) (fun _ _ => False))) (fun _ _ => False)) (fun _ _ => False)) (fun _ _ => False) := by
  have hk := hm.1.1
  have po := gPo_rg hk
  obtain ⟨d1, d2, w1, w2, wd, r1, r2⟩ := hk
  have hk := hm.1.1
  obtain ⟨ox, oo, on, oa, low⟩ := ok
  have l40 : L 40 = 72800 := hm.1.2.1.2.2.2.2.1
  have z40 : ∀ j, H 40 j = 0 := fun j => hm.2.2.2.2 40 j (by omega)
  refine m_at (by omega) (by omega) ?_
  rw [z32_id (x := 70 * (65 * x + o)) (by omega) (by omega), z32_id (x := 70 * (65 * x + o) + a) (by omega) (by omega)]
  refine m_turn l40 (by omega) (by omega) (fun K k1 k2 k3 => ?_)
  have eb : ∀ k, 0 ≤ k → k < 70 → K 40 (70 * (65 * x + o) + k) % 256 = d0 a n m k := fun k q0 q1 => by
    by_cases c : a ≤ k ∧ k < a + n
    · rw [(k3 _ (by omega) (by omega)).1, z40, X8_0 (by8_rg _ _), d0_at c, show 70 * (65 * x + o) + k - (70 * (65 * x + o) + a) = k - a by omega]
    · rw [k2 _ (by omega), z40, d0_no c]
      rfl
  have kS : mS d w r L K := hm.1.of (fun i _ => k1 35 i (by decide)) (fun i => k1 36 i (by decide))
  have kp : ∀ row q, mPl d w K row q = mPl d w H row q := fun row q => by
    unfold mPl
    rw [k1 35 12 (by decide), k1 41 _ (by decide), if_neg (by rw [hm.2.1.1]; decide), if_neg (by rw [hm.2.1.1]; decide)]
  have kO : mOk d w r K := fun row q a b c e => by rw [kp]; exact p_mok hm row q a b c e
  have few : gCnt (mBd d w K o (-1)) (p / w * w) w.toNat ≤ 1 := by
    have g0 : 0 ≤ p / w := Int.ediv_nonneg hp.1 (by omega)
    have g1 : p / w * w + w ≤ gPo d w := by
      have e : p / w < gGr d w := Int.ediv_lt_of_lt_mul (by omega) (by have : gPo d w = gGr d w * w := Int.mul_comm _ _; omega)
      have m1 : (p / w + 1) * w ≤ gGr d w * w := Int.mul_le_mul_of_nonneg_right (by omega) (by omega)
      have m3 : gPo d w = gGr d w * w := Int.mul_comm _ _
      rw [Int.add_mul, Int.one_mul] at m1
      omega
    have g2 : 0 ≤ p / w * w := Int.mul_nonneg g0 (by omega)
    have one : ∀ q, p / w * w ≤ q → q < p / w * w + w → mBd d w K o (-1) q → gDk d o q = x := fun q q0 q1 u => by
      have pl := p_mpl hm (row := o) (p := q) oo (by omega)
      have dg := gDk_rg (row := o) (pos := q) hk
      rcases u with u | u | u
      · rw [kp] at u; omega
      · rw [kp] at u; omega
      · by_cases c : gDk d o q = x
        · exact c
        · refine absurd ?_ u.2
          rw [kp, pl]
          have mv := p_mval hm dg (o := o) (by omega)
          refine ⟨by rw [k1 37 _ (by decide)]; exact mv.1, by rw [k1 38 _ (by decide)]; exact mv.2.1, fun k q0 q1 => ?_⟩
          rw [k2 _ (by omega)]
          exact z40 _
    refine gCnt_le1 _ _ (fun i j i0 i1 j0 j1 u v => ?_)
    have a1 := one i i0 (by omega) u
    have a2 := one j j0 (by omega) v
    exact gDk_inj hk (row := o) (by omega) (by omega) (by omega)
  have fK : fM H0 K := f0.tr (fun q i hq => k1 q i (by omega))
  have zK : K 35 0 = 0 := by rw [k1 35 0 (by decide)]; exact z0
  refine m_bad kS kO oo hp ⟨fun u => by omega, fun _ => m_at (by omega) (by omega) (m_unseen l40 (by omega) (fun u => ⟨fun _ => ?_, fun z => absurd (by decide) z⟩) (fun u => ⟨fun z => absurd rfl z, fun _ => ⟨Or.inr rfl, ?_, K, rfl, zK, fK⟩⟩))⟩
  · refine j_212_182 (m_at (by omega) (by omega) ?_)
    rw [z32_id (x := 70 * (65 * x + o)) (by omega) (by omega), z32_id (x := 70 * (65 * x + o) + a) (by omega) (by omega)]
    refine m_turn l40 (by omega) (by omega) (fun K2 y1 y2 y3 => ⟨Or.inl rfl, ?_, K2, rfl, by rw [y1 35 0 (by decide)]; exact zK, fK.tr (fun q i hq => y1 q i (by omega))⟩)
    rcases hv with q | q
    · exact q.1.symm
    · refine absurd ?_ q.2
      have u2 := u.2
      rw [cRc_congr (E := d0 a n m) 66 0 0 (fun k q0 q1 => eb k q0 (by omega))] at u2
      exact u2.trans (cW_congr (fun k q0 q1 => eb k (by omega) (by omega)))
  · rcases hv with q | q
    · refine absurd ⟨?_, ?_⟩ u
      · obtain ⟨i, i0, i1, i2⟩ := low
        refine ⟨a + i, by omega, by omega, fun z => i2 ?_⟩
        have e := eb (a + i) (by omega) (by omega)
        rw [z, d0_at (by omega), show a + i - a = i by omega] at e
        rw [← e]
        rfl
      · rw [cRc_congr (E := d0 a n m) 66 0 0 (fun k q0 q1 => eb k q0 (by omega)), q.2]
        exact (cW_congr (fun k q0 q1 => eb k (by omega) (by omega))).symm
    · exact q.1.symm
theorem p_spoil (ht : 118 ≤ t) (hX : lR X H) (h : kF d w r t L H) (h8 : cT8 L H) (hm : mF d w r L H) (x o a n m : Int) (hn : z32 n = n) (hm64 : z64 m = m) : cOKb pT 280 160 [(20, 0), (0, x), (0, o), (0, a), (0, n), (1, m), (9, 0), (9, 0)] 212 [(29, 35), (0, x), (0, o), (0, a), (0, n), (1, m), (9, 0), (9, 0), (9, 0)] X t L H := by
  by_cases ok : sOK d r x o a n m
  · have fin : ∀ v : Int, (v = 0 ∨ v = 1) → ((∀ p, 0 ≤ p → p < gPo d w → gDk d o p ≠ x) → v = 0) → ((∃ p, 0 ≤ p ∧ p < gPo d w ∧ gDk d o p = x) → ((v = 0 ∧ cRc (d0 a n m) 0 66 0 = cW (d0 a n m)) ∨ (v = 1 ∧ cRc (d0 a n m) 0 66 0 ≠ cW (d0 a n m)))) → cOKb pT 280 160 [(20, 0), (0, x), (0, o), (0, a), (0, n), (1, m), (9, 0), (9, 0)] 212 [(29, 35), (0, x), (0, o), (0, a), (0, n), (1, m), (9, 0), (9, 0), (9, 0)] X t L H := by
      intro v v01 vn vy
      refine cOKb_ret (v := v) ht hX hm v01 (p_spoilC ht h (fun u => absurd ok u) (fun _ => ?_)) (fun t' H' ht' hm' => p_spoilM hm64 hn hm' (fun u => absurd ok u) (fun _ x7 => j_212_96 (m_f0 ⟨fun _ => ⟨fun u => absurd u ?_, fun _ => ⟨?_, fun _ => m_holder hm'.up.1 ok.2.1 ?_, fun u => absurd ?_ u⟩⟩, fun u => absurd rfl u⟩)))
      · rcases p_spot h ok.1 ok.2.1 with u | ⟨p, hp, u, e⟩
        · rw [u.1]
          exact j_160_104 ⟨fun z => absurd rfl z, fun _ => ⟨Or.inl rfl, (vn u.2).symm, H, rfl, fC.rfl'⟩⟩
        · rw [u]
          exact p_spoil1 ht h h8 ok hp e (vy ⟨p, hp.1, hp.2, e⟩)
      · show ¬ zupd H' 35 0 0 35 12 = 0
        rw [hm'.up.2.1.1]
        decide
      · have l37 : L 37 = 16 := hm'.1.2.1.2.1
        have := ok.1
        have := hm'.1.1.2.1
        show 0 ≤ x ∧ x < L 37
        omega
      · rcases p_holder (x := x) hm'.up ok.2.1 with u | ⟨p, hp, u, e⟩
        · rw [u.1]
          exact ⟨fun z => absurd z (by decide), fun _ => ⟨Or.inl rfl, (vn u.2).symm, _, rfl, zupd_at, fM.rfl'.upd (by decide)⟩⟩
        · rw [u]
          exact ⟨fun _ => p_spoil2 ht' hm'.up ok hp e u (vy ⟨p, hp.1, hp.2, e⟩) (fM.rfl'.upd (by decide)) zupd_at, fun z => absurd hp.1 z⟩
      · have hu : mF d w r L (zupd H' 35 0 0) := hm'.up
        exact (p_mval hu ok.1 (o := 0) (by have := hm'.1.1.2.2.2.2.2.1; omega)).1
    by_cases ex : ∃ p, 0 ≤ p ∧ p < gPo d w ∧ gDk d o p = x
    · by_cases c : cRc (d0 a n m) 0 66 0 = cW (d0 a n m)
      · exact fin 0 (Or.inl rfl) (fun _ => rfl) (fun _ => Or.inl ⟨rfl, c⟩)
      · exact fin 1 (Or.inr rfl) (fun u => by obtain ⟨p, p0, p1, p2⟩ := ex; exact absurd p2 (u p p0 p1)) (fun _ => Or.inr ⟨rfl, c⟩)
    · exact fin 0 (Or.inl rfl) (fun _ => rfl) (fun u => absurd u ex)
  · refine cOKb_thr (c := 1) (k := 1) ht hX hm (p_spoilC ht h (fun _ => ⟨rfl, H, rfl, fC.rfl'⟩) (fun u => absurd u ok)) rfl (by decide) (fun t' H' ht' hm' => p_spoilM hm64 hn hm' (fun _ x7 => j_212_96 (m_f1 ⟨fun u => absurd u (by decide), fun _ => ⟨Or.inl rfl, _, rfl, zupd_at, fM.rfl'.upd (by decide)⟩⟩)) (fun u => absurd u ok))
end SPOIL
