/-! open: what was announced is carried out. -/
theorem z32_by8 (x : Int) : z32 x = z32 (by8 x 0 + 256 * by8 x 1 + 65536 * by8 x 2 + 16777216 * by8 x 3) := by
  have a0 : by8 x 0 = x % 18446744073709551616 / 1 % 256 := rfl
  have a1 : by8 x 1 = x % 18446744073709551616 / 256 % 256 := rfl
  have a2 : by8 x 2 = x % 18446744073709551616 / 65536 % 256 := rfl
  have a3 : by8 x 3 = x % 18446744073709551616 / 16777216 % 256 := rfl
  rw [a0, a1, a2, a3]
  unfold z32
  omega
theorem zor_two {a b : Int} (ha : 0 ≤ a ∧ a < 256) (hb : 0 ≤ b ∧ b < 256) : zor a (zshl b 8) = a + 256 * b := by
  obtain ⟨n, rfl⟩ := Int.eq_ofNat_of_zero_le ha.1
  have z1 : zor (n : Int) (zshl b 8) = (n : Int) + b * 256 := zor_sum (k := 8) (by decide) (show n < 2 ^ 8 by omega) hb.1 hb.2 (by show b * 256 < _; omega)
  rw [z1]
  omega
theorem gLd_out {d w r : Int} {H : zHp} {wd at' s q i : Int} (h : ¬ (at' ≤ i ∧ i < at' + 8)) : gLd d w r H wd at' s q i = H q i := by
  unfold gLd
  by_cases c : gSound d w r H s
  · rw [if_pos c]
    unfold zcpy
    rw [if_neg (fun z => h z.2)]
  · rw [if_neg c]
    unfold gRk gAO
    rw [if_neg (fun z => h z.2)]
    unfold zfil
    rw [if_neg (fun z => h z.2)]
section RECOVER
variable {d w r : Int} {t : Nat} {L : Int → Int} {H M X : zHp} {Qr Qt : Int → zS → Prop} {C : Int → Int → Int} {O : Int → Int}
/-- all logs settled, all spares in order -/
theorem oS.on (hk : gOK d w r) (h : oS d w r C O H M) (vl : vL d r H) (sp : vSp d w r H) : ∃ C2, vS d w r C2 H (zupd M 35 20 0) ∧ vVal d w r C2 (M 43) ∧ Jr (r * gGr d w * (w - 1)) (M 43) := by
  obtain ⟨⟨bw, lo, ls, uq⟩, ⟨hK, hL⟩, on, pl, cut, vv, J, dp⟩ := h
  have hB := bw.b sp
  have w3 := hk.2.2.1
  have e12 : zupd M 35 20 0 35 12 = 1 := by rw [zupd_no (by decide)]; exact on
  have fin : ∀ C2, vB d w r C2 H → vVal d w r C2 (M 43) → (∀ f, 0 ≤ f → f + w ≤ r * gPo d w → f % w = 0 → vP w C2 f) → ∃ C2, vS d w r C2 H (zupd M 35 20 0) ∧ vVal d w r C2 (M 43) ∧ Jr (r * gGr d w * (w - 1)) (M 43) := fun C2 b v p => ⟨C2, ⟨⟨b, vl, p⟩, hK.of (fun _ _ _ => rfl) (fun q i hq => zupd_ne (by omega)), hL.of (fun _ _ => rfl) (fun i hi => zupd_no (by omega)), ⟨e12, zupd_at⟩, fun s s0 s1 => by rw [pl s s0 s1]; exact (mPs_of on e12 (fun i => zupd_ne (by decide))).symm⟩, v, J⟩
  rcases cut with u | ⟨u1, u2, ⟨v1, v2, v3, v4⟩, -⟩
  · exact fin C hB vv u.2
  · obtain ⟨hs, -, -, h3, -⟩ := gSo_rg hk u2
    generalize gSo w (M 35 19) = s at hs h3 v1 v2 v3 v4
    obtain ⟨s1, s2, s3, s4⟩ := gStripe hk hs
    have spar : (s - s % w + w - 1) % w = w - 1 := gPar_mod w3
    have tg := gTag hk hs
    have ps : H 13 (s - s % w + w - 1) = -1 := by
      apply Classical.byContradiction
      intro z
      obtain ⟨a1, a2⟩ := v2 z
      have hp := bw.1.2.1 (s - s % w + w - 1) (by omega) (by omega) z
      have gp : 0 ≤ H 13 (s - s % w + w - 1) ∧ H 13 (s - s % w + w - 1) < d := by
        rcases hp.1.2.2 with e | ⟨q, q0, q1, e⟩
        · rw [e]; exact gDk_rg hk
        · rw [e]; exact gDk_rg hk
      have := vl _ gp.1 gp.2 a1
      omega
    refine fin (vUp C (s - s % w + w - 1) (fun i => zlxor (vQ w C s i) (C s i))) (hB.other ps (fun i _ _ => zlxor_64 _ _)) (vv.par hk spar) (fun f f0 f1 f2 => ?_)
    refine vP_eq (vN_P (C := vUp C s O) (s := s) (W := C s) hk (vUp_R hB.1.1 (fun i _ _ => v3.1 i)) (fun i _ _ => hB.1.1 s i) h3 (fun f f0 f1 f2 => ?_) f f0 f1 f2) (fun u i i0 i1 => ?_)
    · by_cases fs : f = s - s % w
      · exact (v4 f f0 f1 f2).2 fs
      · refine vP_up ((v4 f f0 f1 f2).1 fs) (fun z => fs ?_)
        have a := Int.mul_ediv_add_emod f w
        have b := Int.mul_ediv_add_emod s w
        have e : s / w = f / w := by
          have : s = (s - f) + w * (f / w) := by omega
          rw [this, Int.add_mul_ediv_left _ _ (by omega), Int.ediv_eq_zero_of_lt (a := s - f) (b := w) (by omega) (by omega)]
          omega
        rw [e] at b
        omega
    · unfold vN
      by_cases up : u = s - s % w + w - 1
      · rw [up, vUp_at ⟨i0, i1⟩, vUp_at ⟨i0, i1⟩, vQ_up]
      · rw [vUp_ne up, vUp_ne up]
        by_cases us : u = s
        · rw [us, vUp_at ⟨i0, i1⟩]
        · rw [vUp_ne us, vUp_ne us]
theorem vVal.bt {V : Int → Int} {b k : Int} (h : vVal d w r C V) (hb : 0 ≤ b ∧ b < r * gGr d w * (w - 1)) (hk : 0 ≤ k ∧ k < 64) (n : b = 0 → ¬ (59 ≤ k ∧ k < 63)) : 0 ≤ V (64 * b + k) ∧ V (64 * b + k) < 256 := by
  rw [← h b k hb.1 hb.2 hk.1 hk.2 n]
  exact by8_rg _ _
/-- Journal.recover -/
theorem c_recover (gi : gI d w r t L H) (ms : mS d w r L M) (h8 : cT8 L H) (vs : vS d w r C H M) (vv : vVal d w r C (M 43)) (J : Jr (r * gGr d w * (w - 1)) (M 43))
    (hok : ∀ C1 H1 M1, gI d w r t L H1 → mS d w r L M1 → vS d w r C1 H1 M1 → vVal d w r C1 (M1 43) → Jr (r * gGr d w * (w - 1)) (M1 43) → M1 43 4 = 0 → H1 29 6 = jSq (M1 43) → (∀ q i, q ≠ 3 → q ≠ 5 → q ≠ 6 → q ≠ 7 → q ≠ 8 → q ≠ 9 → q ≠ 14 → q ≠ 15 → q ≠ 30 → q ≠ 31 → q ≠ 32 → ¬ (q = 29 ∧ i = 6) → H1 q i = H q i) → kJm M M1 → mRet t L 205 0 [(29, 35), (9, 0), (9, 0), (9, 0)] M 1 M1 → Qr 1 (t, L, H1))
    (hbad : ∀ H1 M1, gI d w r t L H1 → mS d w r L M1 → jX d w r H1 M1 → (∀ q i, q ≠ 3 → q ≠ 5 → q ≠ 6 → q ≠ 7 → q ≠ 8 → q ≠ 9 → q ≠ 14 → q ≠ 15 → q ≠ 30 → q ≠ 31 → q ≠ 32 → ¬ (q = 29 ∧ i = 6) → H1 q i = H q i) → kJm M M1 → mRet t L 205 0 [(29, 35), (9, 0), (9, 0), (9, 0)] M 0 M1 → Qr 0 (t, L, H1)) : zEnds 80 144 0 [(28, 29), (9, 0), (9, 0)] [] (t, L, H) Qr Qt := by
  have hk := gi.1.1
  have bl := gBl_le hk
  have hB2 := gBl_ge hk
  have l30 : L 30 = 24 := gi.1.2.1.2.2.2.2.2.2.2.2.2.2.1
  have l31 : L 31 = 192 := gi.1.2.1.2.2.2.2.2.2.2.2.2.2.2.1
  have l32 : L 32 = 8 := gi.1.2.1.2.2.2.2.2.2.2.2.2.2.2.2.1
  have l43 : L 43 = 49152 := ms.2.1.2.2.2.2.2.2.2.1
  have l51 : L 51 = 48 := ms.2.2.1.2.2.2.2.2.2.1
  have l53 : L 53 = 64 := ms.2.2.1.2.2.2.2.2.2.2.2
  have wd32 : gWd 32 := Or.inr (Or.inr (Or.inr (Or.inr (Or.inr (Or.inr (Or.inl rfl))))))
  have wd31 : gWd 31 := Or.inr (Or.inr (Or.inr (Or.inr (Or.inr (Or.inl rfl)))))
  have hV : ∀ k, 0 ≤ k → k < 59 → 0 ≤ M 43 k ∧ M 43 k < 256 := fun k k0 k1 => vv.byte hk ⟨k0, k1⟩
  have ld := vs.ld (b := 0) (wd := 32) (at' := 0) hk (by omega) wd32
  have e32 : ∀ q i, q ≠ 32 → gLd d w r H 32 0 (gSo w 0) q i = H q i := fun q i hq => gLd_ne hq
  have by0 : ∀ k, 0 ≤ k → k < 59 → by8 (C (gSo w 0) (k / 8)) (k % 8) = M 43 k := fun k k0 k1 => by
    have q := vv 0 k (by decide) (by omega) k0 (by omega) (fun _ => by omega)
    rw [show 64 * 0 + k = k by omega] at q
    exact q
  have n24 : 0 ≤ M 43 4 ∧ M 43 4 ≤ 24 := by
    rcases J.1 with u | u
    · omega
    · omega
  have hjT : ∀ i, 0 ≤ i → i < M 43 4 → 25 ≤ jT (M 43) i ∧ jT (M 43) i < r * gGr d w * (w - 1) := fun i i0 i1 => by
    rcases J.1 with u | u
    · omega
    · exact u.2.1 i i0 i1
  have hdi : ∀ i j, 0 ≤ i → i < M 43 4 → 0 ≤ j → j < M 43 4 → jT (M 43) i = jT (M 43) j → i = j := fun i j i0 i1 j0 j1 e => by
    rcases J.1 with u | u
    · omega
    · exact u.2.2 i j i0 i1 j0 j1 e
  refine v_144 (g_load gi.1 gi.2 (by omega) wd32 (by show (0 : Int) ≤ 0 ∧ 0 + 8 ≤ L 32 ∧ L 32 ≤ 1000000; omega) ⟨by show (0 : Int) ≤ 0 ∧ 0 < L 32; omega, ?_⟩)
  have h0 : gLd d w r H 32 0 (gSo w 0) 32 0 = C (gSo w 0) 0 := ld 0 (by decide) (by decide)
  have sq : z32 (gLd d w r H 32 0 (gSo w 0) 32 0) = jSq (M 43) := by
    rw [h0, z32_by8]
    unfold jSq
    rw [← by0 0 (by decide) (by decide), ← by0 1 (by decide) (by decide), ← by0 2 (by decide) (by decide), ← by0 3 (by decide) (by decide)]
    rfl
  generalize hH1 : gLd d w r H 32 0 (gSo w 0) = K at ld e32 sq
  show zEnds 80 0 0 [(11, 32), (0, 0), (0, 4)] [] (t, L, zupd K 29 6 (z32 (K 32 0))) _ _
  rw [sq]
  have k32 : ∀ k, 0 ≤ k → k < 59 → zB8 (zupd K 29 6 (jSq (M 43))) 32 k = M 43 k := fun k k0 k1 => by
    have q := zB8_by (G := zupd K 29 6 (jSq (M 43))) (o := 32) (b := 0) (k := k) ⟨k0, by omega⟩
    rw [show 64 * 0 + k = k by omega, show 8 * 0 + k / 8 = k / 8 by omega] at q
    rw [q, zupd_ne (by decide)]
    have := ld (k / 8) (by omega) (by omega)
    rw [show 0 + k / 8 = k / 8 by omega] at this
    rw [this]
    exact by0 k k0 k1
  refine s_one (by decide) (by decide) (by show (8 : Int) * 0 + 4 < 8 * L 32; omega) (by show L 32 ≤ 1000000; omega) ?_
  show zEnds 80 144 41 [(28, 29), (0, if zB8 (zupd K 29 6 (jSq (M 43))) 32 (8 * 0 + 4) ≤ 24 then zB8 (zupd K 29 6 (jSq (M 43))) 32 (8 * 0 + 4) else 24), (0, 0)] [] _ _ _
  rw [show (8 : Int) * 0 + 4 = 4 by decide, k32 4 (by decide) (by decide), if_pos n24.2]
  have key : ∀ (m : Nat) (i : Int) (G : zHp), 0 ≤ i → i + m = M 43 4 → gI d w r t L G → (∀ q j, q ≠ 30 → q ≠ 31 → q ≠ 32 → ¬ (q = 29 ∧ j = 6) → G q j = H q j) → G 29 6 = jSq (M 43) → (∀ j, G 32 j = zupd K 29 6 (jSq (M 43)) 32 j) → (∀ j, 0 ≤ j → j < i → G 30 j = jT (M 43) j) → (∀ j k, 0 ≤ j → j < i → 0 ≤ k → k < 8 → G 31 (8 * j + k) = C (gSo w (1 + j)) k) → zEnds 80 144 41 [(28, 29), (0, M 43 4), (0, i)] [] (t, L, G) Qr Qt := by
    intro m
    induction m with
    | zero =>
      intro i G i0 i1 g g1 g2 g3 g4 g5
      have e : i = M 43 4 := by omega
      have vsG : vS d w r C G M := vs.keep (fun q j hq => g1 q j (by omega) (by omega) (by omega) (by omega)) (fun _ _ _ => rfl)
      refine v_144_41 ⟨fun _ => ⟨fun u => ⟨Or.inr rfl, ?_⟩, fun u => ?_⟩, fun u => absurd (by omega) u⟩
      · refine hok C G M g ms vsG vv J u g2 (fun q j a1 a2 a3 a4 a5 a6 a7 a8 a9 b1 b2 b3 => g1 q j a9 b1 b2 b3) kJm.rfl' (fun F FT hF => v_205 ⟨by show (0 : Int) ≤ 4 ∧ 4 < L 43; omega, ?_⟩)
        show zEnds 118 205 11 [(29, 35), (0, M 43 4), (0, 1), (0, 0)] [] _ _ _
        rw [u]
        exact v_205_11 ⟨fun _ => ⟨fun _ => ⟨Or.inr rfl, hF⟩, fun z => absurd rfl z⟩, fun z => absurd (by decide) z⟩
      · have e4 := e
        rw [e] at g4 g5
        have mstep : ∀ {i v : Int} {N N1 : zHp} {F FT : Int → zS → Prop}, 0 ≤ i → i < M 43 4 → (∀ j, 0 ≤ j → j < 1600 → N 43 j = M 43 j) → (∀ F FT : Int → zS → Prop, F v (t, L, N1) → zEnds 118 197 0 [(29, 35), (0, G 30 i), (10, 43), (0, 64 * (1 + i)), (9, 0), (9, 0), (9, 0), (9, 0), (9, 0), (9, 0), (9, 0)] [] (t, L, N) F FT) → zEnds 118 205 11 [(29, 35), (0, M 43 4), (0, v), (0, i + 1)] [] (t, L, N1) F FT → zEnds 118 205 11 [(29, 35), (0, M 43 4), (0, 1), (0, i)] [] (t, L, N) F FT := fun {i v N N1 F FT} i0 i1 eV a8 hF => by
          have z1 : z32 (5 + z32 (2 * i)) = 5 + 2 * i := by rw [z32_id (x := 2 * i) (by omega) (by omega), z32_id (by omega) (by omega)]
          have z2 : z32 (6 + z32 (2 * i)) = 6 + 2 * i := by rw [z32_id (x := 2 * i) (by omega) (by omega), z32_id (by omega) (by omega)]
          have z3 : z32 (64 + z32 (64 * i)) = 64 * (1 + i) := by rw [z32_id (x := 64 * i) (by omega) (by omega), z32_id (by omega) (by omega)]; omega
          refine v_205_11 ⟨fun z => by omega, fun _ => ⟨fun z => absurd z (by decide), fun _ => ⟨by rw [z1]; show 0 ≤ 5 + 2 * i ∧ 5 + 2 * i < L 43; omega, by rw [z2]; show 0 ≤ 6 + 2 * i ∧ 6 + 2 * i < L 43; omega, ?_⟩⟩⟩
          show zEnds 118 197 0 [(29, 35), (0, zor (N 43 (z32 (5 + z32 (2 * i)))) (zshl (N 43 (z32 (6 + z32 (2 * i)))) 8)), (10, 43), (0, z32 (64 + z32 (64 * i))), (9, 0), (9, 0), (9, 0), (9, 0), (9, 0), (9, 0), (9, 0)] [] _ _ _
          rw [z1, z2, z3, eV _ (by omega) (by omega), eV _ (by omega) (by omega), zor_two (hV _ (by omega) (by omega)) (hV _ (by omega) (by omega)), z32_id (x := i + 1) (by omega) (by omega)]
          have := a8 (fun v5 S5 => zEnds 118 205 11 [(29, 35), (0, M 43 4), (0, v5), (0, i + 1)] [] S5 F FT) FT hF
          rw [g4 i i0 i1] at this
          exact this
        have done0 : ∀ {N : zHp} {i : Int} {F FT : Int → zS → Prop}, F 0 (t, L, N) → zEnds 118 205 11 [(29, 35), (0, M 43 4), (0, 0), (0, i)] [] (t, L, N) F FT := fun {N i F FT} hF => v_205_11 ⟨fun _ => ⟨fun z => absurd z u, fun _ => ⟨fun _ => ⟨Or.inl rfl, hF⟩, fun z => absurd rfl z⟩⟩, fun _ => ⟨fun _ => ⟨fun z => absurd z u, fun _ => ⟨fun _ => ⟨Or.inl rfl, hF⟩, fun z => absurd rfl z⟩⟩, fun z => absurd rfl z⟩⟩
        have start : ∀ F FT, zEnds 118 205 11 [(29, 35), (0, M 43 4), (0, 1), (0, 0)] [] (t, L, M) F FT → zEnds 118 205 0 [(29, 35), (9, 0), (9, 0), (9, 0)] [] (t, L, M) F FT := fun F FT hF => v_205 ⟨by show (0 : Int) ≤ 4 ∧ 4 < L 43; omega, hF⟩
        refine c_carry (n := M 43 4) (wm := 43) (o := 1) (bad := 0) (good := 1) (fin := fun N => N) (V0 := M 43) (H0 := G) (M0 := M) (G := fun i N F FT => zEnds 118 205 11 [(29, 35), (0, M 43 4), (0, 1), (0, i)] [] (t, L, N) F FT) ⟨h8.1, fun j j0 j1 => by rw [g1 (-8) j (by decide) (by decide) (by decide) (by omega)]; exact h8.2 j j0 j1⟩ rfl n24 (fun i i0 i1 => by rw [g4 i i0 i1]; exact hjT i i0 i1) (fun i i0 i1 => (g4 i i0 i1).symm) (fun i j i0 i1 j0 j1 e => hdi i j i0 i1 j0 j1 (by rw [← g4 i i0 i1, ← g4 j j0 j1]; exact e)) (fun i k i0 i1 k0 k1 => by rw [g5 i (k / 8) i0 i1 (by omega) (by omega)]; exact vv (1 + i) k (by omega) (by omega) k0 k1 (fun z => by omega)) (fun i j i0 i1 j0 j1 => by rw [g5 i j i0 i1 j0 j1]; exact vs.1.1.1.1 _ _) (Or.inr ⟨rfl, rfl⟩) J g2 (fun i N N1 i0 i1 _ _ eV a8 F FT hG => mstep i0 i1 eV a8 hG) (fun i N N1 i0 i1 _ _ eV a8 F FT hF => mstep i0 i1 eV a8 (done0 hF)) (fun N N1 mN kN a8 F FT hF => ?_) (fun N N1 mN kN a8 F FT hF => ?_) (fun C2 H2 M2 b1 b2 b3 b4 b5 b6 b7 b8 b9 b10 b11 b12 => ⟨fun z => absurd z (by decide), fun _ => ⟨Or.inr rfl, ?_⟩⟩) (fun H2 M2 b1 b2 b3 b4 b5 b6 => ⟨fun _ => ⟨Or.inl rfl, ?_⟩, fun z => absurd rfl z⟩) g ms vsG vv rfl
        · exact v_205_11 ⟨fun _ => ⟨fun z => absurd z u, fun _ => ⟨fun z => absurd z (by decide), fun _ => m_seq l43 (m_heads l51 l53 (by decide) (fun j j0 j1 => by omega) (a8 _ _ ⟨Or.inr rfl, fun z => absurd z (by decide), fun _ => ⟨Or.inr rfl, hF⟩⟩))⟩⟩, fun z => absurd (Int.le_refl _) z⟩
        · exact v_205_11 ⟨fun _ => ⟨fun z => absurd z u, fun _ => ⟨fun z => absurd z (by decide), fun _ => m_seq l43 (m_heads l51 l53 (by decide) (fun j j0 j1 => by omega) (a8 _ _ ⟨Or.inl rfl, fun _ => ⟨Or.inl rfl, hF⟩, fun z => absurd rfl z⟩))⟩⟩, fun z => absurd (Int.le_refl _) z⟩
        · exact hok C2 H2 M2 b1 b2 b3 b4 b11 b8 (by rw [b9]; exact (sY_sq b7).symm) (fun q j a1 a2 a3 a4 a5 a6 a7 a8 a9 c1 c2 c3 => (b5.1 q j a1 a2 a3 a4 a5 a6 a7 a8 c2 c3).trans (g1 q j a9 c1 c2 c3)) b6 (fun F FT hF => start F FT (b12 F FT hF))
        · exact hbad H2 M2 b1 b2 b3 (fun q j a1 a2 a3 a4 a5 a6 a7 a8 a9 c1 c2 c3 => (b4.1 q j a1 a2 a3 a4 a5 a6 a7 a8 c2 c3).trans (g1 q j a9 c1 c2 c3)) b5 (fun F FT hF => start F FT (b6 F FT hF))
    | succ m ih =>
      intro i G i0 i1 g g1 g2 g3 g4 g5
      have hin : i < M 43 4 := by omega
      have z1 : z32 (5 + z32 (2 * i)) = 5 + 2 * i := by rw [z32_id (x := 2 * i) (by omega) (by omega), z32_id (by omega) (by omega)]
      refine v_144_41 ⟨fun z => by omega, fun _ => ?_⟩
      rw [z1, z32_id (x := 1 + i) (by omega) (by omega), z32_id (x := 8 * i) (by omega) (by omega), z32_id (x := i + 1) (by omega) (by omega)]
      have k3 : ∀ k, 0 ≤ k → k < 59 → zB8 G 32 k = M 43 k := fun k k0 k1 => by
        rw [← k32 k k0 k1]
        unfold zB8
        rw [g3]
      refine v_2 (s_one (by decide) (by omega) (by show 8 * 0 + (5 + 2 * i) < 8 * L 32; omega) (by show L 32 ≤ 1000000; omega) ?_)
      rw [z32_id (x := 5 + 2 * i + 1) (by omega) (by omega)]
      refine s_one (by decide) (by omega) (by show 8 * 0 + (5 + 2 * i + 1) < 8 * L 32; omega) (by show L 32 ≤ 1000000; omega) ⟨by show 0 ≤ i ∧ i < L 30; omega, ?_⟩
      have n7 : G 1 7 = r * gGr d w * (w - 1) := g.1.2.2.1.1.2.2.2.2.2.2.2.1
      have eT : (if zor (zB8 G 32 (8 * 0 + (5 + 2 * i))) (zshl (zB8 G 32 (8 * 0 + (5 + 2 * i + 1))) 8) ≤ z32 (G 1 7 - 1) then zor (zB8 G 32 (8 * 0 + (5 + 2 * i))) (zshl (zB8 G 32 (8 * 0 + (5 + 2 * i + 1))) 8) else z32 (G 1 7 - 1)) = jT (M 43) i := by
        have h1 := hjT i i0 hin
        have e : zor (zB8 G 32 (8 * 0 + (5 + 2 * i))) (zshl (zB8 G 32 (8 * 0 + (5 + 2 * i + 1))) 8) = jT (M 43) i := by
          rw [k3 _ (by omega) (by omega), k3 _ (by omega) (by omega), zor_two (hV _ (by omega) (by omega)) (hV _ (by omega) (by omega))]
          unfold jT
          rw [show 8 * 0 + (5 + 2 * i) = 5 + 2 * i by omega, show 8 * 0 + (5 + 2 * i + 1) = 6 + 2 * i by omega]
        rw [e, n7, z32_id (by omega) (by omega), if_pos (by omega)]
      show zEnds 80 57 0 [(23, 12), (0, 1 + i), (11, 31), (0, 8 * i)] [] (t, L, zupd G 30 i (if zor (zB8 G 32 (8 * 0 + (5 + 2 * i))) (zshl (zB8 G 32 (8 * 0 + (5 + 2 * i + 1))) 8) ≤ z32 (G 1 7 - 1) then zor (zB8 G 32 (8 * 0 + (5 + 2 * i))) (zshl (zB8 G 32 (8 * 0 + (5 + 2 * i + 1))) 8) else z32 (G 1 7 - 1))) _ _
      rw [eT]
      have gz : gI d w r t L (zupd G 30 i (jT (M 43) i)) := g.keep (fun q j hq => zupd_ne (by omega)) (fun q j hq => by rw [zupd_ne (by omega)]; exact g.1.2.2.2 q j (by omega))
      have vsz : vS d w r C (zupd G 30 i (jT (M 43) i)) M := vs.keep (fun q j hq => by rw [zupd_ne (by omega)]; exact g1 q j (by omega) (by omega) (by omega) (by omega)) (fun _ _ _ => rfl)
      refine g_load gz.1 gz.2 (by omega) wd31 (by show 0 ≤ 8 * i ∧ 8 * i + 8 ≤ L 31 ∧ L 31 ≤ 1000000; omega) ?_
      have ld2 := vsz.ld (b := 1 + i) (wd := 31) (at' := 8 * i) hk (by omega) wd31
      have e31 : ∀ q j, q ≠ 31 → gLd d w r (zupd G 30 i (jT (M 43) i)) 31 (8 * i) (gSo w (1 + i)) q j = zupd G 30 i (jT (M 43) i) q j := fun q j hq => gLd_ne hq
      have keep31 : ∀ j, ¬ (8 * i ≤ j ∧ j < 8 * i + 8) → gLd d w r (zupd G 30 i (jT (M 43) i)) 31 (8 * i) (gSo w (1 + i)) 31 j = G 31 j := fun j hj => by
        rw [gLd_out hj, zupd_ne (by decide)]
      refine ih (i + 1) _ (by omega) (by omega) (gz.of wd31 e31) (fun q j a b c e => by rw [e31 q j b, zupd_ne a]; exact g1 q j a b c e) (by rw [e31 29 6 (by decide), zupd_ne (by decide)]; exact g2) (fun j => by rw [e31 32 j (by decide), zupd_ne (by decide)]; exact g3 j) (fun j j0 j1 => ?_) (fun j k j0 j1 k0 k1 => ?_)
      · rw [e31 30 j (by decide)]
        by_cases c : j = i
        · rw [c, zupd_at]
        · rw [zupd_no (fun z => c z.2)]
          exact g4 j j0 (by omega)
      · by_cases c : j = i
        · rw [c]
          exact ld2 k k0 k1
        · rw [keep31 _ (by omega)]
          exact g5 j k j0 (by omega) k0 k1
  refine key (M 43 4).toNat 0 _ (by decide) (by omega) ?_ (fun q j a b c e => by rw [zupd_no e]; exact e32 q j c) zupd_at (fun _ => rfl) (fun j j0 j1 => by omega) (fun j k j0 j1 => by omega)
  have gK : gI d w r t L K := gi.of wd32 e32
  exact gK.keep (fun q j hq => zupd_ne (by omega)) (fun q j hq => by rw [zupd_ne (by omega)]; exact gK.1.2.2.2 q j (by omega))
end RECOVER
