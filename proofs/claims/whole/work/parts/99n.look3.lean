/-! look: counts and the sequence. -/
theorem by8_ext {x y : Int} (hx : z64 x = x) (hy : z64 y = y) (h : ∀ k, 0 ≤ k → k < 8 → by8 x k = by8 y k) : x = y := by
  have a0 : x % 18446744073709551616 / 1 % 256 = y % 18446744073709551616 / 1 % 256 := h 0 (by decide) (by decide)
  have a1 : x % 18446744073709551616 / 256 % 256 = y % 18446744073709551616 / 256 % 256 := h 1 (by decide) (by decide)
  have a2 : x % 18446744073709551616 / 65536 % 256 = y % 18446744073709551616 / 65536 % 256 := h 2 (by decide) (by decide)
  have a3 : x % 18446744073709551616 / 16777216 % 256 = y % 18446744073709551616 / 16777216 % 256 := h 3 (by decide) (by decide)
  have a4 : x % 18446744073709551616 / 4294967296 % 256 = y % 18446744073709551616 / 4294967296 % 256 := h 4 (by decide) (by decide)
  have a5 : x % 18446744073709551616 / 1099511627776 % 256 = y % 18446744073709551616 / 1099511627776 % 256 := h 5 (by decide) (by decide)
  have a6 : x % 18446744073709551616 / 281474976710656 % 256 = y % 18446744073709551616 / 281474976710656 % 256 := h 6 (by decide) (by decide)
  have a7 : x % 18446744073709551616 / 72057594037927936 % 256 = y % 18446744073709551616 / 72057594037927936 % 256 := h 7 (by decide) (by decide)
  have e : x % 18446744073709551616 = y % 18446744073709551616 := by omega
  unfold z64 at hx hy
  omega
theorem zor_sum {n k : Nat} {c : Int} (hk : k < 24) (hn : n < 2 ^ k) (h0 : 0 ≤ c) (h1 : c < 256) (hs : c * ((2 ^ k : Nat) : Int) < 2147483648) : zor (n : Int) (zshl c k) = (n : Int) + c * ((2 ^ k : Nat) : Int) := by
  obtain ⟨m, rfl⟩ := Int.eq_ofNat_of_zero_le h0
  have h1 : m < 256 := by omega
  have hp : 0 < 2 ^ k := Nat.two_pow_pos k
  have hs2 : m * 2 ^ k < 2147483648 := by
    have : ((m * 2 ^ k : Nat) : Int) < 2147483648 := by rw [Int.natCast_mul]; exact hs
    omega
  have hn2 : n < 2147483648 := Nat.lt_of_lt_of_le hn (Nat.le_of_lt (Nat.lt_of_lt_of_le (Nat.pow_lt_pow_right (by decide) hk) (by decide)))
  rw [zshl_eq _ (by omega), ← Int.natCast_mul, z32_id (by omega) (by omega), zor_nat hn2 hs2]
  have e := Nat.two_pow_add_eq_or_of_lt hn m
  rw [Nat.or_comm, Nat.mul_comm m, ← e]
  rw [Int.natCast_add, Int.add_comm, Nat.mul_comm (2 ^ k) m]
theorem zlor_sum {n : Nat} {c : Int} (hn : n < 16777216) (h0 : 0 ≤ c) (h1 : c < 256) : z32 (zlor (n : Int) (zlshl c 24)) = z32 ((n : Int) + 16777216 * c) := by
  have e := congrArg BitVec.toNat (zlor_bv (n : Int) (zlshl c ((24 : Nat) : Int)))
  rw [zlshl_bv c (show 24 < 64 by decide), BitVec.toNat_or, BitVec.toNat_shiftLeft] at e
  simp only [BitVec.toNat_ofInt] at e
  obtain ⟨m, rfl⟩ := Int.eq_ofNat_of_zero_le h0
  have h1 : m < 256 := by omega
  have e1 : ((n : Int) % ((2 ^ 64 : Nat) : Int)).toNat = n := by
    show ((n : Int) % 18446744073709551616).toNat = n
    omega
  have e2 : ((m : Int) % ((2 ^ 64 : Nat) : Int)).toNat <<< 24 % 2 ^ 64 = 2 ^ 24 * m := by
    have : ((m : Int) % ((2 ^ 64 : Nat) : Int)).toNat = m := by
      show ((m : Int) % 18446744073709551616).toNat = m
      omega
    rw [this, Nat.shiftLeft_eq, Nat.mod_eq_of_lt (by omega), Nat.mul_comm]
  rw [e1, e2, Nat.or_comm, ← Nat.two_pow_add_eq_or_of_lt (show n < 2 ^ 24 by omega) m] at e
  have e : (zlor (n : Int) (zlshl (m : Int) 24) % 18446744073709551616).toNat = 16777216 * m + n := e
  unfold z32
  omega
theorem sq_eq {a b c e : Int} (ha : 0 ≤ a ∧ a < 256) (hb : 0 ≤ b ∧ b < 256) (hc : 0 ≤ c ∧ c < 256) (he : 0 ≤ e ∧ e < 256) : z32 (zlor (zor (zor a (zshl b 8)) (zshl c 16)) (zlshl e 24)) = z32 (a + 256 * b + 65536 * c + 16777216 * e) := by
  obtain ⟨n, rfl⟩ := Int.eq_ofNat_of_zero_le ha.1
  have z1 : zor (n : Int) (zshl b 8) = (n : Int) + b * 256 := zor_sum (k := 8) (by decide) (show n < 2 ^ 8 by omega) hb.1 hb.2 (by show b * 256 < _; omega)
  rw [z1]
  obtain ⟨m, hm⟩ := Int.eq_ofNat_of_zero_le (show 0 ≤ (n : Int) + b * 256 by omega)
  rw [hm]
  have z2 : zor (m : Int) (zshl c 16) = (m : Int) + c * 65536 := zor_sum (k := 16) (by decide) (show m < 2 ^ 16 by omega) hc.1 hc.2 (by show c * 65536 < _; omega)
  rw [z2]
  obtain ⟨k, hk⟩ := Int.eq_ofNat_of_zero_le (show 0 ≤ (m : Int) + c * 65536 by omega)
  rw [hk, zlor_sum (by omega) he.1 he.2]
  congr 1
  omega
theorem gCnt_shift {P : Int → Prop} {c : Int} : ∀ (n : Nat) (a : Int), gCnt P (c + a) n = gCnt (fun q => P (c + q)) a n := by
  intro n
  induction n with
  | zero => intro a; rfl
  | succ n ih =>
    intro a
    show _ + _ = _ + _
    rw [Int.add_assoc c a 1, ih (a + 1)]
theorem gCnt_rows {P : Int → Prop} {p : Nat} : ∀ (n : Nat) (a : Int), gCnt P (a * p) (n * p) = gSum (fun row => gCnt (fun q => P (row * p + q)) 0 p) a n := by
  intro n
  induction n with
  | zero => intro a; rw [Nat.zero_mul]; rfl
  | succ n ih =>
    intro a
    rw [Nat.succ_mul, Nat.add_comm, gCnt_add]
    show _ = _ + _
    rw [← ih (a + 1), Int.add_mul, Int.one_mul]
    have e := gCnt_shift (P := P) (c := a * p) p 0
    rw [Int.add_zero] at e
    rw [e]
section LOOKS
variable {d w r : Int} {t : Nat} {L : Int → Int} {H M X : zHp} {Qr Qt : Int → zS → Prop} {C : Int → Int → Int}
theorem zB8_by {G : zHp} {o b k : Int} (hk : 0 ≤ k ∧ k < 64) : zB8 G o (64 * b + k) = by8 (G o (8 * b + k / 8)) (k % 8) := by
  unfold zB8 by8
  rw [show (64 * b + k) / 8 = 8 * b + k / 8 by omega, show (64 * b + k) % 8 = k % 8 by omega]
theorem zhR.word {o i : Int} (hz : zhR (t, L, H)) (ho : lg o = true) : z64 (H o i) = H o i := (hz.2 o i).1 ho
/-- a block in use has the reference's bytes -/
theorem rOn.by {b k : Int} (hk : gOK d w r) (h : rOn d w r C H M) (hb : 25 ≤ b ∧ b < r * gGr d w * (w - 1)) (ho : 0 < M 46 b) (k0 : 0 ≤ k ∧ k < 64) : by8 (H 19 (8 * b + k / 8)) (k % 8) = mBy (r * gGr d w * (w - 1)) (mTr M) (M 43) b k := by
  have bl := gBl_le hk
  rw [← zB8_by k0]
  exact aE_by h.e h.g.1.1.1 (fun j _ => by unfold zB8; omega) hb bl ho k0
theorem rOn.st {b k : Int} (h : rOn d w r C H M) (hb : 25 ≤ b ∧ b < r * gGr d w * (w - 1)) (k0 : 0 ≤ k ∧ k < 64) : by8 (H 20 (8 * b + k / 8)) (k % 8) = M 43 (64 * b + k) := by
  rw [h.2.2.1.2.1 b (k / 8) hb.1 hb.2 (by omega) (by omega)]
  exact h.2.1 b k (by omega) hb.2 k0.1 k0.2 (fun u => by omega)
theorem rOn.ow {b : Int} (h : rOn d w r C H M) (hb : 0 ≤ b ∧ b < 768) : 0 ≤ M 46 b := by
  have o := h.g.2.2.1
  by_cases c : b < 59
  · have : M 46 b = 100 := o.1 b hb.1 c
    omega
  · rcases o.2 b (by omega) hb.2 with u | ⟨-, i, u, v, -⟩
    · have u : M 46 b = 0 := u
      omega
    · have v : M 46 b = i + 1 := v
      omega
theorem r_ch {b : Int} (hk : gOK d w r) (hz : zhR (t, L, H)) (h : rOn d w r C H M) (hb : 25 ≤ b ∧ b < r * gGr d w * (w - 1)) : iCh (zB8 H 19) H b ↔ mCh (r * gGr d w * (w - 1)) (mTr M) (M 43) b := by
  have bl := gBl_le hk
  constructor
  · rintro ⟨-, u2, j, j0, j1, u3⟩
    have ho : 0 < M 46 b := ((h.e.2.1 b (by omega) (by omega)).mp u2).2
    apply Classical.byContradiction
    intro z
    refine u3 (by8_ext (hz.word rfl) (hz.word rfl) (fun k k0 k1 => ?_))
    have a := h.by hk hb ho (k := 8 * j + k) (by omega)
    have c := h.st hb (k := 8 * j + k) (by omega)
    rw [show (8 * j + k) / 8 = j by omega, show (8 * j + k) % 8 = k by omega] at a c
    rw [a, c]
    apply Classical.byContradiction
    intro y
    exact z ⟨8 * j + k, by omega, by omega, y⟩
  · rintro ⟨k, k0, k1, u⟩
    have ho : 0 < M 46 b := by
      rcases Int.lt_or_eq_of_le (h.ow (b := b) (by omega)) with y | y
      · exact y
      · refine absurd ?_ u
        unfold mBy
        rw [if_pos (Or.inr (by show M 46 b = 0; omega))]
    have ne : ¬ ∀ j, 0 ≤ j → j < 8 → H 19 (8 * b + j) = H 20 (8 * b + j) := fun y => u (by
      rw [← h.by hk hb ho ⟨k0, k1⟩, ← h.st hb ⟨k0, k1⟩, y (k / 8) (by omega) (by omega)])
    refine ⟨fun y => ne (h.2.2.1.2.2.1 b hb.1 hb.2 y ho), (h.e.2.1 b (by omega) (by omega)).mpr ⟨hb.2, ho⟩, ?_⟩
    apply Classical.byContradiction
    intro y
    refine ne (fun j j0 j1 => ?_)
    apply Classical.byContradiction
    intro x
    exact y ⟨j, j0, j1, x⟩
theorem r_chs (hk : gOK d w r) (hz : zhR (t, L, H)) (h : rOn d w r C H M) : gCnt (iCh (zB8 H 19) H) 25 (r * gGr d w * (w - 1) - 25).toNat = gCnt (mCh (r * gGr d w * (w - 1)) (mTr M) (M 43)) 25 (r * gGr d w * (w - 1) - 25).toNat := by
  have hB2 := gBl_ge hk
  exact gCnt_congr _ _ (fun b b0 b1 => r_ch hk hz h ⟨b0, by omega⟩)
/-- none strayed -/
theorem k_strayed (h : rAll d w r t L H M) (hn : rOn d w r C H M) (hQ : ∀ K, (∀ q i, q ≠ 21 → K q i = H q i) → Qr 0 (t, L, K)) : zEnds 80 94 0 [(25, 18), (23, 12), (9, 0), (9, 0)] [] (t, L, H) Qr Qt := by
  have hk := h.1.1.1.1.1
  have hB := gBl_le hk
  have hB2 := gBl_ge hk
  have n1 : H 18 1 = r * gGr d w * (w - 1) := h.1.1.1.1.2.2.1.2.2.2.2
  have l20 : L 20 = 8 * (r * gGr d w * (w - 1)) := h.1.1.1.1.2.1.2.2.2.1
  have l21 : L 21 = 8 := h.1.1.1.1.2.1.2.2.2.2.1
  have key : ∀ (n : Nat) (b : Int) (G : zHp), 25 ≤ b → b + n = r * gGr d w * (w - 1) → (∀ q i, q ≠ 21 → G q i = H q i) → zEnds 80 94 5 [(25, 18), (23, 12), (0, 0), (0, b)] [] (t, L, G) Qr Qt := by
    intro n
    induction n with
    | zero =>
      intro b G b0 b1 e
      exact v_94_5 ⟨fun _ => hQ G e, fun u => absurd (by show G 18 1 ≤ b; rw [e 18 1 (by decide)]; omega) u⟩
    | succ n ih =>
      intro b G b0 b1 e
      have e19 : zB8 G 19 = zB8 H 19 := funext (fun j => by unfold zB8; rw [e 19 _ (by decide)])
      have iG : gI d w r t L G := h.1.1.1.keep (fun q i hq => e q i (by omega)) (fun q i hq => by rw [e q i (by omega)]; exact h.1.1.1.1.2.2.2 q i (by omega))
      have hcG : rCm d w r t L G M := h.1.keep2 iG (fun q i hq => e q i (by omega)) (fun _ _ _ => rfl)
      have hnG : rOn d w r C G M := hn.keep (fun q i hq => e q i (by omega)) (fun _ _ _ => rfl) (fun q i hq => e q i (by omega)) (fun _ _ _ => rfl) (e 0 11 (by decide))
      have hs := hcG.s
      have hb : 0 ≤ b ∧ b < r * gGr d w * (w - 1) := by omega
      have eb : z32 (b + 1) = b + 1 := z32_id (by omega) (by omega)
      refine v_94_5 ⟨fun u => absurd u (by show ¬ G 18 1 ≤ b; rw [e 18 1 (by decide)]; omega), fun _ => ?_⟩
      rw [eb]
      refine i_isTaken hs hb (fun mt => ⟨fun u => absurd u (by decide), fun _ => i_isChanged hs hb (fun _ => ⟨fun _ => ih (b + 1) G (by omega) (by omega) e, fun u => absurd (by decide) u⟩) (fun nc => ⟨fun u => absurd rfl u, fun _ => g_load iG.1 iG.2 hb gW21 (by omega) ?_⟩)⟩) (fun _ => ⟨fun _ => ih (b + 1) G (by omega) (by omega) e, fun u => absurd rfl u⟩)
      have e2 : ∀ q i, q ≠ 21 → gLd d w r G 21 0 (gSo w b) q i = H q i := fun q i hq => by rw [gLd_ne hq]; exact e q i hq
      have e21 : ∀ j, 0 ≤ j → j < 8 → gLd d w r G 21 0 (gSo w b) 21 (0 + j) = H 20 (8 * b + j) := fun j j0 j1 => by
        rw [hnG.1.ld hk hb gW21 j j0 j1, hn.2.2.1.2.1 b j b0 hb.2 j0 j1]
      rw [z32_id (x := 8 * b) (by omega) (by omega)]
      refine i_areSame (by show 0 ≤ (0 : Int) ∧ 0 + 8 ≤ L 21 ∧ (0 : Int) ≤ 1000000; omega) (by show 0 ≤ 8 * b ∧ 8 * b + 8 ≤ L 20 ∧ 8 * b ≤ 1000000; omega) (fun _ => ⟨fun u => absurd u (by decide), fun _ => ih (b + 1) _ (by omega) (by omega) e2⟩) (fun u => ?_)
      obtain ⟨j, j0, j1, j2⟩ := u
      exact absurd ((e21 j j0 j1).trans (e2 20 _ (by decide)).symm) j2
  exact v_94 (key (r * gGr d w * (w - 1) - 25).toNat 25 H (by omega) (by omega) (fun _ _ _ => rfl))
end LOOKS
