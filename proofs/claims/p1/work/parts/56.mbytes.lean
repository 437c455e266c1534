/-! The reference: the bytes of blocks, what is changed, what is kept aside. -/
def nBy (N : Int → Int) (i f : Int) : Int := if f = 0 then N (20 * i) else if f = 1 then N (20 * i + 2) else if f < 4 then N (20 * i + 1) / ((2 ^ (8 * (f - 2)).toNat : Nat) : Int) % 256 else if N (20 * i + 2) ≤ (f - 4) / 3 then 0 else if (f - 4) % 3 = 2 then N (20 * i + 4 + 2 * ((f - 4) / 3)) else N (20 * i + 3 + 2 * ((f - 4) / 3)) / ((2 ^ (8 * ((f - 4) % 3)).toNat : Nat) : Int) % 256
def mBit (B : Int) (O : Int → Int) (x : Int) : Int := if x < B ∧ 0 < O x then 1 else 0
theorem mBit_01 (B : Int) (O : Int → Int) (x : Int) : 0 ≤ mBit B O x ∧ mBit B O x ≤ 1 := by
  unfold mBit
  by_cases c : x < B ∧ 0 < O x
  · rw [if_pos c]; omega
  · rw [if_neg c]; omega
noncomputable def mMap (B : Int) (O : Int → Int) (f : Int) : Int := gSum (fun j => mBit B O (f + j) * ((2 ^ j.toNat : Nat) : Int)) 0 8
noncomputable def mBy (B : Int) (A : aSt) (V : Int → Int) (b k : Int) : Int := if b < 25 ∨ A.2.1 b = 0 then V (64 * b + k) else if b < 57 then nBy A.1 (2 * (b - 25) + k / 32) (k % 32) else if b < 59 then mMap B A.2.1 (512 * (b - 57) + 8 * k) else A.2.2 (64 * b + k)
/-- the bits of the map's byte -/
theorem mMap_bits (B : Int) (O : Int → Int) (f : Int) : (0 ≤ mMap B O f ∧ mMap B O f < 256) ∧ ∀ j : Nat, j < 8 → mMap B O f / ((2 ^ j : Nat) : Int) % 2 = mBit B O (f + j) := by
  have e : mMap B O f = mBit B O (f + 0) * 1 + (mBit B O (f + 1) * 2 + (mBit B O (f + 2) * 4 + (mBit B O (f + 3) * 8 + (mBit B O (f + 4) * 16 + (mBit B O (f + 5) * 32 + (mBit B O (f + 6) * 64 + (mBit B O (f + 7) * 128 + 0))))))) := rfl
  have h0 := mBit_01 B O (f + 0)
  have h1 := mBit_01 B O (f + 1)
  have h2 := mBit_01 B O (f + 2)
  have h3 := mBit_01 B O (f + 3)
  have h4 := mBit_01 B O (f + 4)
  have h5 := mBit_01 B O (f + 5)
  have h6 := mBit_01 B O (f + 6)
  have h7 := mBit_01 B O (f + 7)
  rw [e]
  refine ⟨by omega, fun j hj => ?_⟩
  have hc : j = 0 ∨ j = 1 ∨ j = 2 ∨ j = 3 ∨ j = 4 ∨ j = 5 ∨ j = 6 ∨ j = 7 := by omega
  rcases hc with rfl | rfl | rfl | rfl | rfl | rfl | rfl | rfl
  · show _ / (1 : Int) % 2 = mBit B O (f + 0); omega
  · show _ / (2 : Int) % 2 = mBit B O (f + 1); omega
  · show _ / (4 : Int) % 2 = mBit B O (f + 2); omega
  · show _ / (8 : Int) % 2 = mBit B O (f + 3); omega
  · show _ / (16 : Int) % 2 = mBit B O (f + 4); omega
  · show _ / (32 : Int) % 2 = mBit B O (f + 5); omega
  · show _ / (64 : Int) % 2 = mBit B O (f + 6); omega
  · show _ / (128 : Int) % 2 = mBit B O (f + 7); omega
theorem zor_pow {a : Int} {k : Nat} (hk : k < 31) (h0 : 0 ≤ a) (h1 : a < ((2 ^ k : Nat) : Int)) : zor a (zshl 1 k) = a + ((2 ^ k : Nat) : Int) := by
  have hp : (2 ^ k : Nat) < 2 ^ 31 := Nat.pow_lt_pow_right (by decide) hk
  have e1 : zshl 1 k = ((2 ^ k : Nat) : Int) := by
    rw [zshl_eq 1 (by omega), Int.one_mul, z32_id (by omega) (by omega)]
  have e2 : a = ((a.toNat : Nat) : Int) := by omega
  rw [e1]
  have e3 : zor a ((2 ^ k : Nat) : Int) = ((a.toNat ||| 2 ^ k : Nat) : Int) := by
    have := zor_nat (a := a.toNat) (b := 2 ^ k) (by omega) (by omega)
    rw [← e2] at this
    exact this
  have e4 := Nat.two_pow_add_eq_or_of_lt (i := k) (a := 1) (b := a.toNat) (by omega)
  rw [e3, Nat.or_comm]
  rw [Nat.mul_one] at e4
  rw [← e4]
  omega
theorem zor_0 {a : Int} (h0 : 0 ≤ a) (h1 : a < 2147483648) : zor a 0 = a := by
  have e2 : a = ((a.toNat : Nat) : Int) := by omega
  have := zor_nat (a := a.toNat) (b := 0) (by omega) (by omega)
  rw [← e2, Nat.or_zero] at this
  exact this.trans (by omega)
section MBYTES
variable {d w r : Int} {t : Nat} {L : Int → Int} {H G : zHp} {Qr Qt : Int → zS → Prop} {i k v s f b : Int} {A : aSt}
theorem m_nodeByte {B : Int} (h : mA d w r G A L H) (ha : aI B A.1 i) (hB : B ≤ 768) (hi : 0 ≤ i ∧ i < 64) (hf : 0 ≤ f ∧ f < 32) (hQ : Qr (nBy A.1 i f) (t, L, H)) : zEnds 118 216 0 [(29, 35), (0, i), (0, f), (9, 0), (9, 0), (9, 0)] [] (t, L, H) Qr Qt := by
  have hl := h.l
  have hc := ha.2.2.1
  have hs := ha.2.1
  unfold nBy at hQ
  refine v_216 ?_
  dsimp only
  rw [z32_id (x := 20 * i) (by omega) (by omega), z32_id (x := 20 * i + 2) (by omega) (by omega), z32_id (x := 20 * i + 1) (by omega) (by omega), h.2.1 (20 * i) (by omega) (by omega), h.2.1 (20 * i + 2) (by omega) (by omega), h.2.1 (20 * i + 1) (by omega) (by omega)]
  refine ⟨fun z => ⟨fun y => ⟨fun x => ?_, fun x => ?_⟩, fun y => ?_⟩, fun z => ?_⟩
  · rw [if_neg z, if_neg y, if_neg (by omega)] at hQ
    rw [z32_id (x := f - 4) (by omega) (by omega), zdiv_pos (by omega) (by omega) (by decide), zrem_pos (by omega), z32_id (x := 2 * ((f - 4) / 3)) (by omega) (by omega), z32_id (x := 20 * i + 3) (by omega) (by omega), z32_id (x := 20 * i + 4) (by omega) (by omega)]
    refine ⟨by decide, by omega, fun u => ⟨by decide, fun q => ?_, fun q => ?_⟩, fun u => ?_⟩
    · rw [if_neg (by omega), if_neg q] at hQ
      have g := ha.2.2.2 ((f - 4) / 3) (by omega) u
      rw [z32_id (x := 20 * i + 3 + 2 * ((f - 4) / 3)) (by omega) (by omega), h.2.1 _ (by omega) (by omega), zand_255, z32_id (x := 8 * ((f - 4) % 3)) (by omega) (by omega), show 8 * ((f - 4) % 3) = (((8 * ((f - 4) % 3)).toNat : Nat) : Int) by omega, zshr_eq (by omega) (by omega) (by omega)]
      exact ⟨by omega, hQ⟩
    · rw [if_neg (by omega), if_pos (Classical.not_not.mp q)] at hQ
      rw [z32_id (x := 20 * i + 4 + 2 * ((f - 4) / 3)) (by omega) (by omega), h.2.1 _ (by omega) (by omega)]
      exact ⟨by omega, hQ⟩
    · rw [if_pos (by omega)] at hQ
      exact hQ
  · rw [if_neg z, if_neg y, if_pos (by omega)] at hQ
    rw [z32_id (x := f - 2) (by omega) (by omega), z32_id (x := 8 * (f - 2)) (by omega) (by omega), zand_255, show 8 * (f - 2) = (((8 * (f - 2)).toNat : Nat) : Int) by omega, zshr_eq (by omega) (by omega) (by omega)]
    exact ⟨by omega, hQ⟩
  · rw [if_neg z, if_pos (Classical.not_not.mp y)] at hQ
    exact ⟨by omega, hQ⟩
  · rw [if_pos (Classical.not_not.mp z)] at hQ
    exact ⟨by omega, hQ⟩
theorem m_mapByte (h : mA d w r G A L H) (hf : 0 ≤ f ∧ f ≤ 1016) (hQ : Qr (mMap (r * gGr d w * (w - 1)) A.2.1 f) (t, L, H)) : zEnds 118 217 0 [(29, 35), (0, f), (9, 0), (9, 0)] [] (t, L, H) Qr Qt := by
  have hl := h.l
  have hB2 := gBl_le h.1.1
  have key : ∀ (m k : Nat) (a : Int), k + m = 8 → 0 ≤ a → a < ((2 ^ k : Nat) : Int) → Qr (a + gSum (fun j => mBit (r * gGr d w * (w - 1)) A.2.1 (f + j) * ((2 ^ j.toNat : Nat) : Int)) k m) (t, L, H) → zEnds 118 217 4 [(29, 35), (0, f), (0, a), (0, (k : Int))] [] (t, L, H) Qr Qt := by
    intro m
    induction m with
    | zero =>
      intro k a k1 a0 a1 hq
      have hq : Qr (a + 0) (t, L, H) := hq
      rw [Int.add_zero] at hq
      exact v_217_4 ⟨fun _ => hq, fun z => absurd (by omega) z⟩
    | succ m ih =>
      intro k a k1 a0 a1 hq
      have hp : (2 ^ k : Nat) < 2 ^ 8 := Nat.pow_lt_pow_right (by decide) (by omega)
      have hp2 : (2 ^ (k + 1) : Nat) = 2 ^ k * 2 := Nat.pow_succ 2 k
      have hq : Qr (a + (mBit (r * gGr d w * (w - 1)) A.2.1 (f + k) * ((2 ^ k : Nat) : Int) + gSum (fun j => mBit (r * gGr d w * (w - 1)) A.2.1 (f + j) * ((2 ^ j.toNat : Nat) : Int)) ((k : Int) + 1) m)) (t, L, H) := hq
      have no : mBit (r * gGr d w * (w - 1)) A.2.1 (f + k) = 0 → zEnds 118 217 4 [(29, 35), (0, f), (0, zor a 0), (0, z32 ((k : Int) + 1))] [] (t, L, H) Qr Qt := by
        intro c
        rw [c, Int.zero_mul, Int.zero_add] at hq
        rw [zor_0 a0 (by omega), z32_id (by omega) (by omega)]
        exact ih (k + 1) a (by omega) a0 (by omega) hq
      refine v_217_4 ⟨fun z => by omega, fun _ => m_blocks h.1 ?_⟩
      dsimp only
      rw [z32_id (x := f + (k : Int)) (by omega) (by omega)]
      refine ⟨fun z => no (if_neg (by omega)), fun z => ?_⟩
      rw [h.2.2.1 (f + (k : Int)) (by omega) (by omega)]
      refine ⟨by omega, fun y => no (if_neg (by omega)), fun y => ?_⟩
      have c : mBit (r * gGr d w * (w - 1)) A.2.1 (f + k) = 1 := if_pos ⟨by omega, by omega⟩
      rw [c, Int.one_mul] at hq
      rw [zor_pow (by omega) a0 a1, z32_id (by omega) (by omega)]
      exact ih (k + 1) (a + ((2 ^ k : Nat) : Int)) (by omega) (by omega) (by omega) (by rw [Int.add_assoc]; exact hq)
  refine v_217 (key 8 0 0 (by omega) (by omega) (by decide) ?_)
  rw [Int.zero_add]
  exact hQ
theorem m_byteOf (h : mA d w r G A L H) (ha : aN (r * gGr d w * (w - 1)) A.1) (hb : 0 ≤ b ∧ b < 768) (hk : 0 ≤ k ∧ k < 64) (hQ : Qr (mBy (r * gGr d w * (w - 1)) A (G 43) b k) (t, L, H)) : zEnds 118 218 0 [(29, 35), (0, b), (0, k)] [] (t, L, H) Qr Qt := by
  have hl := h.l
  have hB2 := gBl_le h.1.1
  have l43 : L 43 = 49152 := h.1.2.1.2.2.2.2.2.2.2.1
  have e43 : ∀ j, H 43 j = G 43 j := fun j => h.2.2.2.2 43 j (by decide) (by decide) (by decide)
  unfold mBy at hQ
  refine v_218 ?_
  dsimp only
  rw [z32_id (x := 64 * b) (by omega) (by omega), z32_id (x := 64 * b + k) (by omega) (by omega), e43, h.2.2.1 b (by omega) (by omega), h.2.2.2.1 (64 * b + k) (by omega) (by omega)]
  refine ⟨fun z => ?_, fun z => ⟨by omega, fun y => ⟨fun x => ⟨fun u => ?_, fun u => ?_⟩, fun x => ?_⟩, fun y => ?_⟩⟩
  · rw [if_pos (Or.inl z)] at hQ
    exact ⟨by omega, hQ⟩
  · rw [if_neg (by omega), if_neg (by omega), if_neg (by omega)] at hQ
    exact ⟨by omega, hQ⟩
  · rw [if_neg (by omega), if_neg (by omega), if_pos (by omega)] at hQ
    rw [z32_id (x := b - 57) (by omega) (by omega), z32_id (x := 512 * (b - 57)) (by omega) (by omega), z32_id (x := 8 * k) (by omega) (by omega), z32_id (by omega) (by omega)]
    exact m_mapByte h (by omega) hQ
  · rw [if_neg (by omega), if_pos (by omega)] at hQ
    rw [z32_id (x := b - 25) (by omega) (by omega), z32_id (x := 2 * (b - 25)) (by omega) (by omega), zdiv_pos hk.1 (by omega) (by decide), zrem_pos hk.1, z32_id (by omega) (by omega)]
    exact ⟨by decide, by decide, m_nodeByte h (ha _ (by omega) (by omega)) hB2 (by omega) (by omega) hQ⟩
  · rw [if_pos (Or.inr (Classical.not_not.mp y))] at hQ
    exact ⟨by omega, hQ⟩
/-- a block differs from what the volume has -/
def mCh (B : Int) (A : aSt) (V : Int → Int) (b : Int) : Prop := ∃ k, 0 ≤ k ∧ k < 64 ∧ mBy B A V b k ≠ V (64 * b + k)
theorem m_isChanged (h : mA d w r G A L H) (ha : aN (r * gGr d w * (w - 1)) A.1) (hb : 0 ≤ b ∧ b < 768) (h1 : mCh (r * gGr d w * (w - 1)) A (G 43) b → Qr 1 (t, L, H)) (h0 : ¬ mCh (r * gGr d w * (w - 1)) A (G 43) b → Qr 0 (t, L, H)) : zEnds 118 219 0 [(29, 35), (0, b), (9, 0), (9, 0)] [] (t, L, H) Qr Qt := by
  have l43 : L 43 = 49152 := h.1.2.1.2.2.2.2.2.2.2.1
  have e43 : ∀ j, H 43 j = G 43 j := fun j => h.2.2.2.2 43 j (by decide) (by decide) (by decide)
  have key : ∀ (m : Nat) (k : Int), 0 ≤ k → k + m = 64 → (∀ j, 0 ≤ j → j < k → mBy (r * gGr d w * (w - 1)) A (G 43) b j = G 43 (64 * b + j)) → zEnds 118 219 4 [(29, 35), (0, b), (0, 0), (0, k)] [] (t, L, H) Qr Qt := by
    intro m
    induction m with
    | zero =>
      intro k k0 k1 hall
      refine v_219_4 ⟨fun _ => ⟨Or.inl rfl, h0 (fun ⟨j, j0, j1, j2⟩ => j2 (hall j j0 (by omega)))⟩, fun z => absurd (by omega) z⟩
    | succ m ih =>
      intro k k0 k1 hall
      refine v_219_4 ⟨fun z => by omega, fun _ => ⟨fun z => absurd rfl z, fun _ => m_byteOf h ha hb ⟨k0, by omega⟩ ?_⟩⟩
      dsimp only
      rw [z32_id (x := 64 * b) (by omega) (by omega), z32_id (x := 64 * b + k) (by omega) (by omega), e43, z32_id (x := k + 1) (by omega) (by omega)]
      refine ⟨by omega, fun y => ih (k + 1) (by omega) (by omega) (fun j j0 j1 => ?_), fun y => ?_⟩
      · by_cases c : j = k
        · rw [c]; exact y
        · exact hall j j0 (by omega)
      · have hc : mCh (r * gGr d w * (w - 1)) A (G 43) b := ⟨k, k0, by omega, y⟩
        refine v_219_4 ⟨fun _ => ⟨Or.inr rfl, h1 hc⟩, fun _ => ⟨fun _ => ⟨Or.inr rfl, h1 hc⟩, fun u => absurd (by decide) u⟩⟩
  exact v_219 (key 64 0 (by omega) (by omega) (fun j j0 j1 => by omega))
theorem m_changes (h : mA d w r G A L H) (ha : aN (r * gGr d w * (w - 1)) A.1) (hB : 96 ≤ r * gGr d w * (w - 1)) (hQ : Qr (gCnt (mCh (r * gGr d w * (w - 1)) A (G 43)) 25 (r * gGr d w * (w - 1) - 25).toNat) (t, L, H)) : zEnds 118 220 0 [(29, 35), (9, 0), (9, 0)] [] (t, L, H) Qr Qt := by
  have hB2 := gBl_le h.1.1
  have key : ∀ (m : Nat) (c b : Int), 25 ≤ b → b + m = r * gGr d w * (w - 1) → 0 ≤ c → c ≤ b → Qr (c + gCnt (mCh (r * gGr d w * (w - 1)) A (G 43)) b m) (t, L, H) → zEnds 118 220 5 [(29, 35), (0, c), (0, b)] [] (t, L, H) Qr Qt := by
    intro m
    induction m with
    | zero =>
      intro c b b0 b1 c0 c1 hq
      have hq : Qr (c + 0) (t, L, H) := hq
      rw [Int.add_zero] at hq
      exact v_220_5 (m_blocks h.1 ⟨fun _ => hq, fun z => absurd (by omega) z⟩)
    | succ m ih =>
      intro c b b0 b1 c0 c1 hq
      refine v_220_5 (m_blocks h.1 ⟨fun z => by omega, fun _ => m_isChanged h ha (by omega) (fun y => ⟨fun u => absurd u (by decide), fun _ => ?_⟩) (fun y => ⟨fun _ => ?_, fun u => absurd rfl u⟩)⟩)
      · rw [gCnt_yes y, ← Int.add_assoc] at hq
        rw [z32_id (x := c + 1) (by omega) (by omega), z32_id (x := b + 1) (by omega) (by omega)]
        exact ih (c + 1) (b + 1) (by omega) (by omega) (by omega) (by omega) hq
      · rw [gCnt_no y] at hq
        rw [z32_id (x := c + 0) (by omega) (by omega), z32_id (x := b + 1) (by omega) (by omega)]
        exact ih (c + 0) (b + 1) (by omega) (by omega) (by omega) (by omega) (by rw [show c + 0 = c by omega]; exact hq)
  refine v_220 (key (r * gGr d w * (w - 1) - 25).toNat 0 25 (by omega) (by omega) (by omega) (by omega) ?_)
  rw [Int.zero_add]
  exact hQ
/-- DiskPoolModel.copy -/
def mCpy (L : Int → Int) (H : zHp) (x y : Int) : zHp := fun q j => if q = y ∧ 0 ≤ j ∧ j < L y then H x j else H q j
theorem mCpy_ne {L : Int → Int} {H : zHp} {x y q j : Int} (h : q ≠ y) : mCpy L H x y q j = H q j := by
  unfold mCpy
  rw [if_neg (fun u => h u.1)]
theorem mCpy_in {L : Int → Int} {H : zHp} {x y j : Int} (h0 : 0 ≤ j) (h1 : j < L y) : mCpy L H x y y j = H x j := by
  unfold mCpy
  rw [if_pos ⟨rfl, h0, h1⟩]
theorem mCpy_out {L : Int → Int} {H : zHp} {x y q j : Int} (h : ¬ (0 ≤ j ∧ j < L y)) : mCpy L H x y q j = H q j := by
  unfold mCpy
  rw [if_neg (fun u => h u.2)]
theorem m_copy {x y : Int} (hxy : x ≠ y) (hl : L x = L y ∧ 0 ≤ L y ∧ L y ≤ 100000) (hQ : Qr 0 (t, L, mCpy L H x y)) : zEnds 118 221 0 [(10, x), (10, y), (9, 0)] [] (t, L, H) Qr Qt := by
  have key : ∀ (m : Nat) (k : Int) (K : zHp), 0 ≤ k → k + m = L y → (∀ j, K x j = H x j) → (mCpy L H x y = fun q j => if q = y ∧ k ≤ j ∧ j < L y then H x j else K q j) → zEnds 118 221 2 [(10, x), (10, y), (0, k)] [] (t, L, K) Qr Qt := by
    intro m
    induction m with
    | zero =>
      intro k K k0 k1 e1 e2
      refine v_221_2 ⟨fun _ => ?_, fun z => absurd (by show L y ≤ k; omega) z⟩
      have e3 : (fun q j => if q = y ∧ k ≤ j ∧ j < L y then H x j else K q j) = K := by
        funext q j
        rw [if_neg (by omega)]
      rw [e2, e3] at hQ
      exact hQ
    | succ m ih =>
      intro k K k0 k1 e1 e2
      refine v_221_2 ⟨fun z => absurd z (by show ¬ L y ≤ k; omega), fun _ => ⟨⟨k0, by show k < L x; omega⟩, ⟨k0, by show k < L y; omega⟩, ?_⟩⟩
      show zEnds 118 221 2 [(10, x), (10, y), (0, z32 (k + 1))] [] (t, L, zupd K y k (K x k)) Qr Qt
      rw [z32_id (x := k + 1) (by omega) (by omega)]
      refine ih (k + 1) _ (by omega) (by omega) (fun j => by rw [zupd_ne hxy]; exact e1 j) ?_
      rw [e2]
      funext q j
      by_cases c : q = y ∧ k + 1 ≤ j ∧ j < L y
      · rw [if_pos (by omega), if_pos c]
      · rw [if_neg c]
        by_cases c2 : q = y ∧ j = k
        · rw [if_pos (by omega), c2.1, c2.2, zupd_at, e1]
        · rw [if_neg (by omega), zupd_no c2]
  exact v_221 (key (L y).toNat 0 H (by omega) (by omega) (fun _ => rfl) rfl)
theorem m_keepsAside (h : mA d w r G A L H) (hQ : ∀ G' H', (∀ q i, q ≠ 48 → q ≠ 49 → q ≠ 50 → G' q i = G q i) → (∀ j, 0 ≤ j → j < 1280 → G' 48 j = A.1 j) → (∀ j, 0 ≤ j → j < 768 → G' 49 j = A.2.1 j) → (∀ j, 0 ≤ j → j < 49152 → G' 50 j = A.2.2 j) → mA d w r G' A L H' → Qr 0 (t, L, H')) : zEnds 118 222 0 [(29, 35)] [] (t, L, H) Qr Qt := by
  obtain ⟨hS, h45, h46, h47, hf⟩ := h
  obtain ⟨l45, l46, l47, l48, l49, l50, -⟩ := hS.2.2.1
  refine v_222 (m_copy (by decide) (by omega) (m_copy (by decide) (by omega) (m_copy (by decide) (by omega) ?_)))
  have e : ∀ q i, q ≠ 48 → q ≠ 49 → q ≠ 50 → mCpy L (mCpy L (mCpy L H 45 48) 46 49) 47 50 q i = H q i := fun q i a1 a2 a3 => by rw [mCpy_ne a3, mCpy_ne a2, mCpy_ne a1]
  have e48 : ∀ j, 0 ≤ j → j < 1280 → mCpy L (mCpy L (mCpy L H 45 48) 46 49) 47 50 48 j = A.1 j := fun j j0 j1 => by rw [mCpy_ne (by decide), mCpy_ne (by decide), mCpy_in j0 (by omega)]; exact h45 j j0 j1
  have e49 : ∀ j, 0 ≤ j → j < 768 → mCpy L (mCpy L (mCpy L H 45 48) 46 49) 47 50 49 j = A.2.1 j := fun j j0 j1 => by rw [mCpy_ne (by decide), mCpy_in j0 (by omega), mCpy_ne (by decide)]; exact h46 j j0 j1
  have e50 : ∀ j, 0 ≤ j → j < 49152 → mCpy L (mCpy L (mCpy L H 45 48) 46 49) 47 50 50 j = A.2.2 j := fun j j0 j1 => by rw [mCpy_in j0 (by omega), mCpy_ne (by decide), mCpy_ne (by decide)]; exact h47 j j0 j1
  generalize mCpy L (mCpy L (mCpy L H 45 48) 46 49) 47 50 = K at e e48 e49 e50
  refine hQ (fun q i => if q = 45 ∨ q = 46 ∨ q = 47 then G q i else K q i) K (fun q i a1 a2 a3 => ?_) (fun j j0 j1 => ?_) (fun j j0 j1 => ?_) (fun j j0 j1 => ?_) ⟨hS.of (fun i hi => e 35 i (by decide) (by decide) (by decide)) (fun i => e 36 i (by decide) (by decide) (by decide)), fun j j0 j1 => ?_, fun j j0 j1 => ?_, fun j j0 j1 => ?_, fun q i a1 a2 a3 => ?_⟩
  · by_cases c : q = 45 ∨ q = 46 ∨ q = 47
    · rw [if_pos c]
    · rw [if_neg c, e q i a1 a2 a3]; exact hf q i (by omega) (by omega) (by omega)
  · rw [if_neg (by omega)]; exact e48 j j0 j1
  · rw [if_neg (by omega)]; exact e49 j j0 j1
  · rw [if_neg (by omega)]; exact e50 j j0 j1
  · rw [e 45 j (by decide) (by decide) (by decide)]; exact h45 j j0 j1
  · rw [e 46 j (by decide) (by decide) (by decide)]; exact h46 j j0 j1
  · rw [e 47 j (by decide) (by decide) (by decide)]; exact h47 j j0 j1
  · exact (if_neg (by omega)).symm
theorem m_bringsBack {A' : aSt} (h : mA d w r G A' L H) (g48 : ∀ j, 0 ≤ j → j < 1280 → G 48 j = A.1 j) (g49 : ∀ j, 0 ≤ j → j < 768 → G 49 j = A.2.1 j) (g50 : ∀ j, 0 ≤ j → j < 49152 → G 50 j = A.2.2 j) (hQ : ∀ H', mA d w r G A L H' → Qr 0 (t, L, H')) : zEnds 118 223 0 [(29, 35)] [] (t, L, H) Qr Qt := by
  obtain ⟨hS, h45, h46, h47, hf⟩ := h
  obtain ⟨l45, l46, l47, l48, l49, l50, -⟩ := hS.2.2.1
  have f48 : ∀ j, H 48 j = G 48 j := fun j => hf 48 j (by decide) (by decide) (by decide)
  have f49 : ∀ j, H 49 j = G 49 j := fun j => hf 49 j (by decide) (by decide) (by decide)
  have f50 : ∀ j, H 50 j = G 50 j := fun j => hf 50 j (by decide) (by decide) (by decide)
  have e : ∀ q i, q ≠ 45 → q ≠ 46 → q ≠ 47 → mCpy L (mCpy L (mCpy L H 48 45) 49 46) 50 47 q i = H q i := fun q i a1 a2 a3 => by rw [mCpy_ne a3, mCpy_ne a2, mCpy_ne a1]
  refine v_223 (m_copy (by decide) (by omega) (m_copy (by decide) (by omega) (m_copy (by decide) (by omega) (hQ _ ⟨hS.of (fun i hi => e 35 i (by decide) (by decide) (by decide)) (fun i => e 36 i (by decide) (by decide) (by decide)), fun j j0 j1 => ?_, fun j j0 j1 => ?_, fun j j0 j1 => ?_, fun q i a1 a2 a3 => ?_⟩))))
  · rw [mCpy_ne (by decide), mCpy_ne (by decide), mCpy_in j0 (by omega), f48]; exact g48 j j0 j1
  · rw [mCpy_ne (by decide), mCpy_in j0 (by omega), mCpy_ne (by decide), f49]; exact g49 j j0 j1
  · rw [mCpy_in j0 (by omega), mCpy_ne (by decide), mCpy_ne (by decide), f50]; exact g50 j j0 j1
  · rw [e q i a1 a2 a3]; exact hf q i a1 a2 a3
end MBYTES
