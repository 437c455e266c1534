theorem zdiv_pos {a b : Int} (h : 0 ≤ a) (h1 : a ≤ 2147483647) (hb : 0 < b) : zdiv a b = a / b := by
  unfold zdiv
  rw [Int.tdiv_eq_ediv_of_nonneg h]
  have h2 := Int.ediv_le_self b h
  have h3 := Int.ediv_nonneg h (Int.le_of_lt hb)
  exact z32_id (by omega) (by omega)
theorem zrem_pos {a b : Int} (h : 0 ≤ a) : zrem a b = a % b := Int.tmod_eq_emod_of_nonneg h
/-- the byte i of a row of longs -/
def zB8 (H : Int → Int → Int) (w i : Int) : Int := H w (i / 8) % 18446744073709551616 / ((2 ^ (8 * (i % 8).toNat) : Nat) : Int) % 256
theorem zB8_rg (H : Int → Int → Int) (w i : Int) : 0 ≤ zB8 H w i ∧ zB8 H w i < 256 := by unfold zB8; omega
/-- Bytes.one -/
theorem s_one {S : zS} {w f a : Int} {Qr Qt : Int → zS → Prop} (hf : 0 ≤ f) (ha : 0 ≤ a) (hb : 8 * f + a < 8 * S.2.1 w) (hL : S.2.1 w ≤ 1000000) (hQ : Qr (zB8 S.2.2 w (8 * f + a)) S) : zEnds 80 0 0 [(11, w), (0, f), (0, a)] [] S Qr Qt := by
  have e1 : zdiv a 8 = a / 8 := zdiv_pos ha (by omega) (by decide)
  have e2 : zrem a 8 = a % 8 := zrem_pos ha
  have e3 : z32 (f + a / 8) = f + a / 8 := z32_id (by omega) (by omega)
  have e4 : z32 (8 * (a % 8)) = ((8 * (a % 8).toNat : Nat) : Int) := by rw [z32_id (by omega) (by omega)]; omega
  refine v_0 ?_
  rw [e1, e2, e3, e4, zbyte _ (by omega)]
  refine ⟨by decide, by omega, by decide, ?_⟩
  unfold zB8 at hQ
  rw [show (8 * f + a) / 8 = f + a / 8 by omega, show (8 * f + a) % 8 = a % 8 by omega] at hQ
  exact hQ
/-- what Bytes.setOne leaves -/
def zset (x k v : Int) : Int := zlor (zland x (zlxor (zlshl 255 (8 * k)) (-1))) (zlshl (zand v 255) (8 * k))
def zupB (H : Int → Int → Int) (w i v : Int) : Int → Int → Int := zupd H w (i / 8) (zset (H w (i / 8)) (i % 8) v)
/-- Bytes.setOne -/
theorem s_setOne {S : zS} {w f a v : Int} {Qr Qt : Int → zS → Prop} (hf : 0 ≤ f) (ha : 0 ≤ a) (hb : 8 * f + a < 8 * S.2.1 w) (hL : S.2.1 w ≤ 1000000) (hQ : Qr 0 (S.1, S.2.1, zupB S.2.2 w (8 * f + a) v)) : zEnds 80 1 0 [(11, w), (0, f), (0, a), (0, v), (9, 0), (9, 0), (9, 0)] [] S Qr Qt := by
  have e1 : zdiv a 8 = a / 8 := zdiv_pos ha (by omega) (by decide)
  have e2 : zrem a 8 = a % 8 := zrem_pos ha
  have e3 : z32 (f + a / 8) = f + a / 8 := z32_id (by omega) (by omega)
  have e4 : z32 (8 * (a % 8)) = 8 * (a % 8) := z32_id (by omega) (by omega)
  refine v_1 ?_
  rw [e1, e2, e3, e4]
  refine ⟨by decide, by decide, by omega, by decide, by omega, ?_⟩
  unfold zupB zset at hQ
  rw [show (8 * f + a) / 8 = f + a / 8 by omega, show (8 * f + a) % 8 = a % 8 by omega] at hQ
  exact hQ
/-- the bytes behind Bytes.setOne -/
theorem zB8_set {H : Int → Int → Int} {w i v o j : Int} (hi : 0 ≤ i) (hj : 0 ≤ j) : zB8 (zupB H w i v) o j = if o = w ∧ j = i then v % 256 else zB8 H o j := by
  unfold zB8 zupB zupd
  by_cases h1 : o = w ∧ j / 8 = i / 8
  · rw [if_pos h1]
    have e1 : (8 : Int) * (i % 8) = ((8 * (i % 8).toNat : Nat) : Int) := by omega
    unfold zset
    rw [e1, zset_byte _ _ (by omega) (by omega), h1.2, h1.1]
    by_cases h2 : j = i
    · rw [if_pos (by rw [h2]), if_pos ⟨rfl, h2⟩]
    · rw [if_neg (by omega), if_neg (fun z => h2 z.2)]
  · rw [if_neg h1, if_neg (fun z => h1 ⟨z.1, by rw [z.2]⟩)]
