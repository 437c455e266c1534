/-! DiskPoolModel.becomes, writes. -/
def mBk (M : zHp) (b wd fr k : Int) : zHp := fun q j => if q = 44 ∧ 0 ≤ j ∧ j < k then M 43 (64 * b + j) else if q = 43 ∧ 64 * b ≤ j ∧ j < 64 * b + k then M wd (fr + (j - 64 * b)) else M q j
theorem mBc_ne {M : zHp} {b wd fr q j : Int} (h : q ≠ 43 ∧ q ≠ 44) : mBc M b wd fr q j = M q j := by
  unfold mBc
  rw [if_neg (fun u => h.2 u.1), if_neg (fun u => h.1 u.1)]
section MWRITES
variable {d w r : Int} {t : Nat} {L : Int → Int} {H : zHp} {Qr Qt : Int → zS → Prop}
theorem m_becomes {b wd fr : Int} (l43 : L 43 = 49152) (l44 : L 44 = 64) (hb : 0 ≤ b ∧ b < 768) (hw : wd ≠ 44) (hf : 0 ≤ fr ∧ fr + 64 ≤ L wd ∧ L wd ≤ 1000000) (hd : wd = 43 → fr + 64 ≤ 64 * b ∨ 64 * b + 64 ≤ fr) (hQ : Qr 0 (t, L, mBc H b wd fr)) : zEnds 118 196 0 [(29, 35), (0, b), (10, wd), (0, fr), (9, 0)] [] (t, L, H) Qr Qt := by
  have key : ∀ (n : Nat) (k : Int), 0 ≤ k → k + n = 64 → zEnds 118 196 3 [(29, 35), (0, b), (10, wd), (0, fr), (0, k)] [] (t, L, mBk H b wd fr k) Qr Qt := by
    intro n
    induction n with
    | zero =>
      intro k k0 k1
      have ek : k = 64 := by omega
      rw [ek]
      exact v_196_3 ⟨fun _ => hQ, fun u => absurd (by decide) u⟩
    | succ n ih =>
      intro k k0 k1
      refine v_196_3 ⟨fun u => by omega, fun _ => ?_⟩
      rw [z32_id (x := 64 * b) (by omega) (by omega), z32_id (x := 64 * b + k) (by omega) (by omega), z32_id (x := fr + k) (by omega) (by omega), z32_id (x := k + 1) (by omega) (by omega)]
      have e1 : mBk H b wd fr k 43 (64 * b + k) = H 43 (64 * b + k) := by
        unfold mBk
        rw [if_neg (by omega), if_neg (by omega)]
      have e2 : mBk H b wd fr k wd (fr + k) = H wd (fr + k) := by
        unfold mBk
        rw [if_neg (by omega), if_neg (fun u => by have := hd u.1; omega)]
      have e3 : zupd (zupd (mBk H b wd fr k) 44 k (H 43 (64 * b + k))) 43 (64 * b + k) (H wd (fr + k)) = mBk H b wd fr (k + 1) := by
        funext q j
        by_cases c1 : q = 43 ∧ j = 64 * b + k
        · rw [c1.1, c1.2, zupd_at]
          unfold mBk
          rw [if_neg (by omega), if_pos ⟨rfl, by omega, by omega⟩, show fr + (64 * b + k - 64 * b) = fr + k by omega]
        · rw [zupd_no c1]
          by_cases c2 : q = 44 ∧ j = k
          · rw [c2.1, c2.2, zupd_at]
            unfold mBk
            rw [if_pos ⟨rfl, by omega, by omega⟩]
          · rw [zupd_no c2]
            unfold mBk
            by_cases c3 : q = 44 ∧ 0 ≤ j ∧ j < k
            · rw [if_pos c3, if_pos (by omega)]
            · have c3' : ¬ (q = 44 ∧ 0 ≤ j ∧ j < k + 1) := by omega
              rw [if_neg c3, if_neg c3']
              by_cases c4 : q = 43 ∧ 64 * b ≤ j ∧ j < 64 * b + k
              · have c4' : q = 43 ∧ 64 * b ≤ j ∧ j < 64 * b + (k + 1) := by omega
                rw [if_pos c4, if_pos c4']
              · have c4' : ¬ (q = 43 ∧ 64 * b ≤ j ∧ j < 64 * b + (k + 1)) := by omega
                rw [if_neg c4, if_neg c4']
      show (0 ≤ 64 * b + k ∧ 64 * b + k < L 43) ∧ ((0 ≤ k ∧ k < L 44) ∧ ((0 ≤ fr + k ∧ fr + k < L wd) ∧ ((0 ≤ 64 * b + k ∧ 64 * b + k < L 43) ∧ zEnds 118 196 3 [(29, 35), (0, b), (10, wd), (0, fr), (0, k + 1)] [] (t, L, zupd (zupd (mBk H b wd fr k) 44 k (mBk H b wd fr k 43 (64 * b + k))) 43 (64 * b + k) ((zupd (mBk H b wd fr k) 44 k (mBk H b wd fr k 43 (64 * b + k))) wd (fr + k))) Qr Qt)))
      rw [zupd_ne hw, e1, e2, e3]
      exact ⟨by omega, by omega, by omega, by omega, ih (k + 1) (by omega) (by omega)⟩
  have e0 : mBk H b wd fr 0 = H := by
    funext q j
    unfold mBk
    rw [if_neg (by omega), if_neg (by omega)]
  have k0 := key 64 0 (by decide) (by decide)
  rw [e0] at k0
  exact v_196 k0
theorem mS.bc {b wd fr : Int} (h : mS d w r L H) : mS d w r L (mBc H b wd fr) := h.of (fun i _ => mBc_ne (by decide)) (fun i => mBc_ne (by decide))
theorem mPt_S {x o as : Int} (h : mS d w r L H) : mS d w r L (mPt H x o as).2 := by
  unfold mPt
  by_cases c : H 35 13 = 0
  · rw [if_pos c]
    exact (h.upd (by omega)).upd (by omega)
  · rw [if_neg c]
    obtain ⟨m0, -, -, -, m35⟩ := mPw_all (M := H) (x := x) (o := o) (as := as)
    refine h.of (fun i hi => ?_) (fun i => m0 36 i (by decide) (by decide) (by decide) (by decide))
    show mPw H x o as 35 i = H 35 i
    rw [m35, if_neg (by omega), if_neg (by omega)]
theorem mPt_13 {x o as : Int} (h : -1 ≤ H 35 13 ∧ H 35 13 ≤ 2147483647) : -1 ≤ (mPt H x o as).2 35 13 ∧ (mPt H x o as).2 35 13 ≤ 2147483647 := by
  unfold mPt
  by_cases c : H 35 13 = 0
  · rw [if_pos c]
    show -1 ≤ zupd (zupd H 35 12 0) 35 13 (-1) 35 13 ∧ zupd (zupd H 35 12 0) 35 13 (-1) 35 13 ≤ 2147483647
    rw [zupd_at]
    decide
  · rw [if_neg c]
    obtain ⟨-, -, -, -, m35⟩ := mPw_all (M := H) (x := x) (o := o) (as := as)
    show -1 ≤ mPw H x o as 35 13 ∧ mPw H x o as 35 13 ≤ 2147483647
    rw [m35, if_neg (by decide), if_pos rfl]
    by_cases z : H 35 13 ≤ 0
    · rw [if_pos z]; exact h
    · rw [if_neg z]; omega
theorem mPt_01 {x o as : Int} : (mPt H x o as).1 = 0 ∨ (mPt H x o as).1 = 1 := by
  unfold mPt
  by_cases c : H 35 13 = 0
  · rw [if_pos c]; exact Or.inl rfl
  · rw [if_neg c]; exact Or.inr rfl
/-- rows and positions of a block's spot -/
theorem gSo_row {b : Int} (hk : gOK d w r) (hb : 0 ≤ b ∧ b < r * gGr d w * (w - 1)) : b / (w - 1) / gGr d w = gSo w b / gPo d w ∧ w * (b / (w - 1) % gGr d w) + b % (w - 1) = gSo w b % gPo d w ∧ (gSo w b - gSo w b % w + w - 1) / gPo d w = gSo w b / gPo d w ∧ w * (b / (w - 1) % gGr d w) + w - 1 = (gSo w b - gSo w b % w + w - 1) % gPo d w := by
  obtain ⟨hs, g1, g2, g3, g4⟩ := gSo_rg hk hb
  have po := gPo_rg hk
  have w3 := hk.2.2.1
  have m0 := Int.emod_nonneg b (show w - 1 ≠ 0 by omega)
  have es : gSo w b = w * (b / (w - 1)) + b % (w - 1) := rfl
  have eq : ∀ j, 0 ≤ j → j < w → (w * (b / (w - 1)) + j) / gPo d w = b / (w - 1) / gGr d w ∧ (w * (b / (w - 1)) + j) % gPo d w = w * (b / (w - 1) % gGr d w) + j := fun j j0 j1 => by
    have h0 := Int.mul_ediv_add_emod (b / (w - 1)) (gGr d w)
    have m1 := Int.emod_nonneg (b / (w - 1)) (show gGr d w ≠ 0 by omega)
    have m2 := Int.emod_lt_of_pos (b / (w - 1)) (show 0 < gGr d w by omega)
    generalize b / (w - 1) = s at h0 m1 m2
    have e : w * s + j = (w * (s % gGr d w) + j) + gPo d w * (s / gGr d w) := by
      have e1 : w * s = w * (gGr d w * (s / gGr d w) + s % gGr d w) := by rw [h0]
      have e2 : gPo d w * (s / gGr d w) = w * (gGr d w * (s / gGr d w)) := by unfold gPo; rw [Int.mul_assoc]
      rw [Int.mul_add] at e1
      omega
    have lo : 0 ≤ w * (s % gGr d w) := Int.mul_nonneg (by omega) m1
    have hi : w * (s % gGr d w + 1) ≤ w * gGr d w := Int.mul_le_mul_of_nonneg_left (by omega) (by omega)
    have hi2 : w * (s % gGr d w) + j < gPo d w := by
      rw [Int.mul_add, Int.mul_one] at hi
      show _ < w * gGr d w
      omega
    rw [e]
    exact ⟨by rw [Int.add_mul_ediv_left _ _ (by omega), Int.ediv_eq_zero_of_lt (by omega) hi2, Int.zero_add], by rw [Int.add_mul_emod_self_left, Int.emod_eq_of_lt (by omega) hi2]⟩
  have a := eq (b % (w - 1)) m0 (by omega)
  have c := eq (w - 1) (by omega) (by omega)
  have ep : gSo w b - gSo w b % w + w - 1 = w * (b / (w - 1)) + (w - 1) := by rw [g2, es]; omega
  rw [← es] at a
  rw [ep]
  refine ⟨a.1.symm, a.2.symm, by rw [c.1, a.1], by rw [c.2]; omega⟩
theorem m_writes {b wd fr : Int} (h : mS d w r L H) (hO : mOk d w r H) (hl : -1 ≤ H 35 13 ∧ H 35 13 ≤ 2147483647) (hb : 0 ≤ b ∧ b < r * gGr d w * (w - 1)) (hw : wd ≠ 44 ∧ wd ≠ 35 ∧ wd ≠ 38 ∧ wd ≠ 39 ∧ wd ≠ 40) (hf : 0 ≤ fr ∧ fr + 64 ≤ L wd ∧ L wd ≤ 1000000) (hd : wd = 43 → fr + 64 ≤ 64 * b ∨ 64 * b + 64 ≤ fr) (hne : ¬ (mPs d w H (gSo w b) < 0 ∧ mPs d w H (gSo w b - gSo w b % w + w - 1) < 0))
    (hQ : Qr (mWr d w r H b (gSo w b) (gSo w b - gSo w b % w + w - 1) wd fr).1 (t, L, (mWr d w r H b (gSo w b) (gSo w b - gSo w b % w + w - 1) wd fr).2)) : zEnds 118 197 0 [(29, 35), (0, b), (10, wd), (0, fr), (9, 0), (9, 0), (9, 0), (9, 0), (9, 0), (9, 0), (9, 0)] [] (t, L, H) Qr Qt := by
  have hk := h.1
  have hB := gBl_le hk
  obtain ⟨hs, g1, g2, g3, g4⟩ := gSo_rg hk hb
  obtain ⟨r1, r2, r3, r4⟩ := gSo_row hk hb
  have po := gPo_rg hk
  obtain ⟨d1, d2, w3, w8, wd', r48, r64⟩ := hk
  have hk := h.1
  have qs := gSp_rg hk hs
  obtain ⟨s1, s2, s3, s4⟩ := gStripe hk hs
  have hp : 0 ≤ gSo w b - gSo w b % w + w - 1 ∧ gSo w b - gSo w b % w + w - 1 < r * gPo d w := by omega
  have qp := gSp_rg hk hp
  have l43 : L 43 = 49152 := h.2.1.2.2.2.2.2.2.2.1
  have l44 : L 44 = 64 := h.2.1.2.2.2.2.2.2.2.2
  have e2 : H 35 2 = w := h.2.2.2.1.2.1
  have e3 : H 35 3 = r := h.2.2.2.1.2.2.1
  have e4 : H 35 4 = gGr d w := h.2.2.2.1.2.2.2.1
  have ew : z32 (H 35 2 - 1) = w - 1 := by rw [e2]; exact z32_id (by omega) (by omega)
  have q0 : 0 ≤ b / (w - 1) := Int.ediv_nonneg hb.1 (by omega)
  have q1 : b / (w - 1) ≤ b := Int.ediv_le_self _ hb.1
  have m0 := Int.emod_nonneg b (show w - 1 ≠ 0 by omega)
  have m1 := Int.emod_lt_of_pos b (show 0 < w - 1 by omega)
  have n0 := Int.emod_nonneg (b / (w - 1)) (show gGr d w ≠ 0 by omega)
  have lo : 0 ≤ w * (b / (w - 1) % gGr d w) := Int.mul_nonneg (by omega) n0
  have oks := hO _ _ qs.1.1 qs.1.2 qs.2.1.1 qs.2.1.2
  have okp := hO _ _ qp.1.1 qp.1.2 qp.2.1.1 qp.2.1.2
  have oks : -1 ≤ mPs d w H (gSo w b) ∧ mPs d w H (gSo w b) < d := oks
  have okp : -1 ≤ mPs d w H (gSo w b - gSo w b % w + w - 1) ∧ mPs d w H (gSo w b - gSo w b % w + w - 1) < d := okp
  refine j_197 ?_
  show ((z32 (H 35 2 - 1) : Int) ≠ 0) ∧ zEnds 118 197 10 [(29, 35), (0, b), (10, wd), (0, fr), (0, zdiv b (z32 (H 35 2 - 1))), (9, 0), (9, 0), (9, 0), (9, 0), (9, 0), (9, 0)] [] (t, L, H) Qr Qt
  rw [ew, zdiv_pos hb.1 (by omega) (by omega)]
  refine ⟨by omega, j_197_10 ?_⟩
  show ((z32 (H 35 2 - 1) : Int) ≠ 0) ∧ zEnds 118 197 20 [(29, 35), (0, b), (10, wd), (0, fr), (0, b / (w - 1)), (0, zrem b (z32 (H 35 2 - 1))), (9, 0), (9, 0), (9, 0), (9, 0), (9, 0)] [] (t, L, H) Qr Qt
  rw [ew, zrem_pos hb.1]
  refine ⟨by omega, j_197_20 ?_⟩
  show ((H 35 4 : Int) ≠ 0) ∧ zEnds 118 197 29 [(29, 35), (0, b), (10, wd), (0, fr), (0, b / (w - 1)), (0, b % (w - 1)), (0, zdiv (b / (w - 1)) (H 35 4)), (9, 0), (9, 0), (9, 0), (9, 0)] [] (t, L, H) Qr Qt
  rw [e4, zdiv_pos q0 (by omega) (by omega), r1]
  refine ⟨by omega, j_197_29 ?_⟩
  show ((H 35 4 : Int) ≠ 0) ∧ zEnds 118 197 46 [(29, 35), (0, b), (10, wd), (0, fr), (0, b / (w - 1)), (0, b % (w - 1)), (0, gSo w b / gPo d w), (0, z32 (z32 ((H 35 2) * (zrem (b / (w - 1)) (H 35 4))) + b % (w - 1))), (9, 0), (9, 0), (9, 0)] [] (t, L, H) Qr Qt
  rw [e4, e2, zrem_pos q0, z32_id (x := w * (b / (w - 1) % gGr d w)) (by omega) (by omega), r2, z32_id (x := gSo w b % gPo d w) (by omega) (by omega)]
  refine ⟨by omega, j_197_46 ?_⟩
  show ((H 35 4 : Int) ≠ 0) ∧ zEnds 118 197 67 [(29, 35), (0, b), (10, wd), (0, fr), (0, b / (w - 1)), (0, b % (w - 1)), (0, gSo w b / gPo d w), (0, gSo w b % gPo d w), (0, z32 (z32 (z32 ((H 35 2) * (zrem (b / (w - 1)) (H 35 4))) + H 35 2) - 1)), (9, 0), (9, 0)] [] (t, L, H) Qr Qt
  rw [e4, e2, zrem_pos q0, z32_id (x := w * (b / (w - 1) % gGr d w)) (by omega) (by omega), z32_id (x := w * (b / (w - 1) % gGr d w) + w) (by omega) (by omega), z32_id (x := w * (b / (w - 1) % gGr d w) + w - 1) (by omega) (by omega), r4]
  refine ⟨by omega, j_197_67 (m_placeOf h qs.1 qs.2.1 (j_197_77 (m_placeOf h (by omega) qp.2.1 ?_)))⟩
  have e9 : mPl d w H (gSo w b / gPo d w) (gSo w b % gPo d w) = mPs d w H (gSo w b) := rfl
  have e10 : mPl d w H (gSo w b / gPo d w) ((gSo w b - gSo w b % w + w - 1) % gPo d w) = mPs d w H (gSo w b - gSo w b % w + w - 1) := by unfold mPs; rw [r3]
  rw [e9, e10]
  have log : z32 (z32 (1 + z32 (8 * (b / (w - 1)))) + b % (w - 1)) = 1 + 8 * (gSo w b / w) + gSo w b % w := by
    rw [g1, g2, z32_id (x := 8 * (b / (w - 1))) (by omega) (by omega), z32_id (x := 1 + 8 * (b / (w - 1))) (by omega) (by omega), z32_id (by omega) (by omega)]
  unfold mWr at hQ
  generalize gSo w b - gSo w b % w + w - 1 = p at hQ hp qp okp hne r3
  generalize gSo w b = s at hQ hs qs oks hne log
  generalize hx9 : mPs d w H s = x9 at hQ oks hne
  generalize hx10 : mPs d w H p = x10 at hQ okp hne
  have bc : ∀ G : zHp, mS d w r L G → ∀ Qr' Qt', Qr' 0 (t, L, mBc G b wd fr) → zEnds 118 196 0 [(29, 35), (0, b), (10, wd), (0, fr), (9, 0)] [] (t, L, G) Qr' Qt' := fun G _ Qr' Qt' q => m_becomes l43 l44 (by omega) hw.1 hf hd q
  -- one of both is lost
  have lost : ∀ x tag : Int, (0 ≤ x ∧ x < d) → Qr (fAnd (mPt H x (s / gPo d w) tag) (fun M1 => (1, mBc M1 b wd fr))).1 (t, L, (fAnd (mPt H x (s / gPo d w) tag) (fun M1 => (1, mBc M1 b wd fr))).2) → zEnds 118 197 128 [(29, 35), (0, b), (10, wd), (0, fr), (9, 0), (9, 0), (0, s / gPo d w), (0, s % gPo d w), (0, p % gPo d w), (0, x9), (0, x10)] [(0, tag), (0, s / gPo d w), (0, x), (29, 35)] (t, L, H) Qr Qt := fun x tag hx q => by
    refine j_197_128 (m_puts h hx (by omega) hl ?_)
    have S1 := mPt_S (x := x) (o := s / gPo d w) (as := tag) h
    have c01 := mPt_01 (H := H) (x := x) (o := s / gPo d w) (as := tag)
    generalize mPt H x (s / gPo d w) tag = Y at q S1 c01
    unfold fAnd at q
    refine ⟨fun u => bc _ S1 _ _ ⟨Or.inr rfl, ?_⟩, fun u => ⟨Or.inl rfl, ?_⟩⟩
    · rw [if_neg u] at q; exact q
    · have u : Y.1 = 0 := by omega
      rw [if_pos u] at q; exact q
  have z1 : z32 (s % gPo d w + 1) = s % gPo d w + 1 := z32_id (by omega) (by omega)
  have z2 : z32 (p % gPo d w + 1) = p % gPo d w + 1 := z32_id (by omega) (by omega)
  have go97 : (x9 < 0 ∨ x10 < 0) → zEnds 118 197 97 [(29, 35), (0, b), (10, wd), (0, fr), (9, 0), (9, 0), (0, s / gPo d w), (0, s % gPo d w), (0, p % gPo d w), (0, x9), (0, x10)] [] (t, L, H) Qr Qt := fun c => by
    rw [if_pos c] at hQ
    refine j_197_97 ⟨fun u => j_197_110 ⟨fun _ => ?_, fun v => absurd u v⟩, fun u => j_197_110 ⟨fun v => absurd v u, fun _ => ?_⟩⟩
    · rw [if_neg (by omega), if_neg (by omega)] at hQ
      rw [z1]
      exact lost x9 _ (by omega) hQ
    · rw [if_pos (by omega), if_pos (by omega)] at hQ
      rw [z2]
      exact lost x10 _ (by omega) hQ
  refine j_197_87 ⟨fun c => go97 (Or.inl c), fun c => ⟨fun c2 => ?_, fun c2 => go97 (Or.inr (by omega))⟩⟩
  rw [if_neg (by omega)] at hQ
  show zEnds 118 194 0 [(29, 35), (0, x10), (0, H 35 3), (0, z32 (z32 (1 + z32 (8 * (b / (w - 1)))) + b % (w - 1))), (9, 0)] [] (t, L, H) _ Qt
  rw [log, e3]
  refine m_puts h (by omega) (by omega) hl ?_
  have S1 := mPt_S (x := x10) (o := r) (as := 1 + 8 * (s / w) + s % w) h
  have L1 := mPt_13 (x := x10) (o := r) (as := 1 + 8 * (s / w) + s % w) hl
  have c1 := mPt_01 (H := H) (x := x10) (o := r) (as := 1 + 8 * (s / w) + s % w)
  generalize mPt H x10 r (1 + 8 * (s / w) + s % w) = Y1 at hQ S1 L1 c1
  unfold fAnd at hQ
  refine ⟨fun u => j_197_183 ⟨Or.inl rfl, ?_⟩, fun u => ?_⟩
  · rw [if_pos u] at hQ; exact hQ
  rw [if_neg u] at hQ
  try dsimp only at hQ
  rw [z1]
  refine m_puts S1 (by omega) (by omega) L1 ?_
  have S2 := mPt_S (x := x9) (o := s / gPo d w) (as := s % gPo d w + 1) S1
  have L2 := mPt_13 (x := x9) (o := s / gPo d w) (as := s % gPo d w + 1) L1
  have c2' := mPt_01 (H := Y1.2) (x := x9) (o := s / gPo d w) (as := s % gPo d w + 1)
  generalize mPt Y1.2 x9 (s / gPo d w) (s % gPo d w + 1) = Y2 at hQ S2 L2 c2'
  refine ⟨fun u2 => ?_, fun u2 => j_197_183 ⟨Or.inl rfl, ?_⟩⟩
  · rw [if_neg u2] at hQ
    try dsimp only at hQ
    refine bc _ S2 _ _ ⟨Or.inr rfl, ?_⟩
    rw [z2]
    have S3 : mS d w r L (zupd (zupd (mBc Y2.2 b wd fr) 35 19 b) 35 20 1) := ((mS.bc S2).upd (by omega)).upd (by omega)
    have L3 : -1 ≤ (zupd (zupd (mBc Y2.2 b wd fr) 35 19 b) 35 20 1) 35 13 ∧ (zupd (zupd (mBc Y2.2 b wd fr) 35 19 b) 35 20 1) 35 13 ≤ 2147483647 := by
      rw [zupd_no (by decide), zupd_no (by decide), mBc_ne (by decide)]
      exact L2
    generalize zupd (zupd (mBc Y2.2 b wd fr) 35 19 b) 35 20 1 = G3 at hQ S3 L3
    refine m_puts S3 (by omega) (by omega) L3 ?_
    have S4 := mPt_S (x := x10) (o := s / gPo d w) (as := p % gPo d w + 1) S3
    have L4 := mPt_13 (x := x10) (o := s / gPo d w) (as := p % gPo d w + 1) L3
    have c4 := mPt_01 (H := G3) (x := x10) (o := s / gPo d w) (as := p % gPo d w + 1)
    generalize mPt G3 x10 (s / gPo d w) (p % gPo d w + 1) = Y4 at hQ S4 L4 c4
    refine ⟨fun u4 => ⟨Or.inl rfl, ?_⟩, fun u4 => ⟨Or.inl rfl, ?_⟩⟩
    · rw [if_neg u4] at hQ
      try dsimp only at hQ
      have S5 : mS d w r L (zupd Y4.2 35 20 0) := S4.upd (by omega)
      have L5 : -1 ≤ (zupd Y4.2 35 20 0) 35 13 ∧ (zupd Y4.2 35 20 0) 35 13 ≤ 2147483647 := by
        rw [zupd_no (by decide)]
        exact L4
      show zEnds 118 194 0 [(29, 35), (0, x10), (0, zupd Y4.2 35 20 0 35 3), (0, 0), (9, 0)] [] (t, L, zupd Y4.2 35 20 0) _ Qt
      rw [show zupd Y4.2 35 20 0 35 3 = r from S5.2.2.2.1.2.2.1]
      exact m_puts S5 (by omega) (by omega) L5 ⟨mPt_01, hQ⟩
    · have u4 : Y4.1 = 0 := by omega
      rw [if_pos u4] at hQ
      exact hQ
  · have u2 : Y2.1 = 0 := by omega
    rw [if_pos u2] at hQ
    exact hQ
end MWRITES
