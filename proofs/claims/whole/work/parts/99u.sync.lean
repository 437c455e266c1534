/-! commit as a whole; sync. -/
section SYNC
variable {d w r : Int} {t : Nat} {L : Int → Int} {H M X : zHp} {Qr Qt : Int → zS → Prop} {C : Int → Int → Int}
/-- power is on, but for the two counters -/
def tOc (d w r : Int) (C : Int → Int → Int) (H M : zHp) : Prop :=
  (aE (r * gGr d w * (w - 1)) (M 45, M 46, M 47) (zB8 H 19) ∧ aGood (r * gGr d w * (w - 1)) (M 45, M 46, M 47)) ∧
  (∀ b j, 25 ≤ b → b < r * gGr d w * (w - 1) → 0 ≤ j → j < 8 → H 20 (8 * b + j) = C (gSo w b) j) ∧
  (∀ b, 25 ≤ b → b < r * gGr d w * (w - 1) → H 22 b = 0 → 0 < M 46 b → ∀ j, 0 ≤ j → j < 8 → H 19 (8 * b + j) = H 20 (8 * b + j)) ∧
  gCnt (mCh (r * gGr d w * (w - 1)) (M 45, M 46, M 47) (M 43)) 25 (r * gGr d w * (w - 1) - 25).toNat ≤ 24 ∧
  (M 43 4 = 0 ∧ H 29 6 = jSq (M 43))
def jOn (d w r : Int) (C : Int → Int → Int) (H M : zHp) : Prop := vS d w r C H M ∧ vVal d w r C (M 43) ∧ tOc d w r C H M ∧ Jr (r * gGr d w * (w - 1)) (M 43) ∧ H 0 11 = 1
theorem jOn.on {H' M' : zHp} (h : jOn d w r C H M) (e : ∀ q i, ¬ (q = 0 ∧ (i = 12 ∨ i = 13)) → H' q i = H q i) (e' : ∀ q i, ¬ (q = 35 ∧ (i = 28 ∨ i = 29)) → M' q i = M q i) (c : H' 0 12 = M' 35 28 ∧ H' 0 13 = M' 35 29) : rOn d w r C H' M' := by
  obtain ⟨h1, h2, ⟨t1, t2, t3, t4, t5⟩, h4, h5⟩ := h
  have f : ∀ q, q ≠ 35 → M' q = M q := fun q hq => funext (fun i => e' q i (fun z => hq z.1))
  have g : ∀ q, q ≠ 0 → H' q = H q := fun q hq => funext (fun i => e q i (fun z => hq z.1))
  have z19 : zB8 H' 19 = zB8 H 19 := by funext j; unfold zB8; rw [g 19 (by decide)]
  refine ⟨h1.keep (fun q i hq => e q i (by omega)) (fun q i hq => e' q i (by omega)), by rw [f 43 (by decide)]; exact h2, ⟨?_, ?_, ?_, ?_, ?_, c⟩, by rw [f 43 (by decide)]; exact h4, by rw [e 0 11 (by omega)]; exact h5⟩
  · rw [f 45 (by decide), f 46 (by decide), f 47 (by decide), z19]; exact t1
  · rw [g 20 (by decide)]; exact t2
  · rw [g 20 (by decide), g 19 (by decide), g 22 (by decide), f 46 (by decide)]; exact t3
  · rw [f 45 (by decide), f 46 (by decide), f 47 (by decide), f 43 (by decide)]; exact t4
  · rw [g 29 (by decide), f 43 (by decide)]; exact t5
theorem jX.of {H' : zHp} (h : jX d w r H M) (e : ∀ q i, (q = 3 ∨ q = 4 ∨ q = 5 ∨ q = 6 ∨ q = 7 ∨ q = 8 ∨ q = 9 ∨ q = 13) → H' q i = H q i) : jX d w r H' M := by
  obtain ⟨C, O, x1, x2⟩ := h
  obtain ⟨⟨b, lo⟩, k, c, o, y⟩ := x1
  refine ⟨C, O, ⟨⟨b.of (fun q i hq => e q i (by omega)), ?_⟩, k.of (fun q i hq => e q i (by omega)) (fun _ _ _ => rfl), by rw [e 3 10 (by omega)]; exact c, o, ?_⟩, x2⟩
  · rcases lo with u | ⟨x, s, u1, u2, u3, u4⟩
    · exact Or.inl (fun x x0 x1 => by rw [e 5 _ (by omega), e 7 _ (by omega)]; exact u x x0 x1)
    · refine Or.inr ⟨x, s, u1, u2, u3, ?_⟩
      unfold vT at u4 ⊢
      simp only [e 5 _ (by omega), e 7 _ (by omega), e 8 _ (by omega)]
      exact u4
  · rcases y with u | ⟨u1, u2, u3⟩
    · exact Or.inl u
    · exact Or.inr ⟨u1, u2, u3.of (fun q i hq => e q i (by omega))⟩
/-- behind a commit, or where none was wanted -/
theorem t_settled {C1 : Int → Int → Int} {H2 M1 : zHp} (hk : gOK d w r) (hz : zhR (t, L, H)) (hn : rOn d w r C H M) (vs : vS d w r C1 H2 M1) (vv : vVal d w r C1 (M1 43)) (j : Jr (r * gGr d w * (w - 1)) (M1 43)) (on : H2 0 11 = 1)
    (e19 : ∀ i, H2 19 i = H 19 i) (e20 : ∀ b j, 25 ≤ b → b < r * gGr d w * (w - 1) → 0 ≤ j → j < 8 → (iCh (zB8 H 19) H b → H2 20 (8 * b + j) = H 19 (8 * b + j)) ∧ (¬ iCh (zB8 H 19) H b → H2 20 (8 * b + j) = H 20 (8 * b + j))) (em : ∀ q i, (q = 45 ∨ q = 46 ∨ q = 47) → M1 q i = M q i)
    (ev : ∀ b k, 25 ≤ b → b < r * gGr d w * (w - 1) → 0 ≤ k → k < 64 → (iCh (zB8 H 19) H b → M1 43 (64 * b + k) = mBy (r * gGr d w * (w - 1)) (mTr M) (M 43) b k) ∧ (¬ iCh (zB8 H 19) H b → M1 43 (64 * b + k) = M 43 (64 * b + k))) (e4 : M1 43 4 = 0) (sq : H2 29 6 = jSq (M1 43)) (gi : gI d w r t L H) : jOn d w r C1 H2 M1 := by
  have hB := gBl_le hk
  have hB2 := gBl_ge hk
  have f : ∀ q, (q = 45 ∨ q = 46 ∨ q = 47) → M1 q = M q := fun q hq => funext (fun i => em q i hq)
  have z19 : zB8 H2 19 = zB8 H 19 := by funext j; unfold zB8; rw [e19]
  have f45 := f 45 (by omega)
  have f46 := f 46 (by omega)
  have f47 := f 47 (by omega)
  refine ⟨vs, vv, ⟨⟨by rw [f45, f46, f47, z19]; exact hn.2.2.1.1.1, by rw [f45, f46, f47]; exact hn.2.2.1.1.2⟩, fun b j b0 b1 j0 j1 => ?_, fun b b0 b1 _ o j j0 j1 => ?_, ?_, e4, sq⟩, j, on⟩
  · refine by8_ext ?_ (vs.1.1.1.1 _ _) (fun k k0 k1 => ?_)
    · by_cases c : iCh (zB8 H 19) H b
      · rw [(e20 b j b0 b1 j0 j1).1 c]; exact hz.word rfl
      · rw [(e20 b j b0 b1 j0 j1).2 c]; exact hz.word rfl
    · have q := vv b (8 * j + k) (by omega) b1 (by omega) (by omega) (fun u => by omega)
      rw [show (8 * j + k) / 8 = j by omega, show (8 * j + k) % 8 = k by omega] at q
      rw [q]
      by_cases c : iCh (zB8 H 19) H b
      · have o : 0 < M 46 b := ((hn.e.2.1 b (by omega) (by omega)).mp c.2.1).2
        have a := hn.by hk ⟨b0, b1⟩ o (k := 8 * j + k) (by omega)
        rw [show (8 * j + k) / 8 = j by omega, show (8 * j + k) % 8 = k by omega] at a
        rw [(e20 b j b0 b1 j0 j1).1 c, a, (ev b (8 * j + k) b0 b1 (by omega) (by omega)).1 c]
      · have a := hn.st ⟨b0, b1⟩ (k := 8 * j + k) (by omega)
        rw [show (8 * j + k) / 8 = j by omega, show (8 * j + k) % 8 = k by omega] at a
        rw [(e20 b j b0 b1 j0 j1).2 c, a, (ev b (8 * j + k) b0 b1 (by omega) (by omega)).2 c]
  · rw [f46] at o
    rw [e19]
    by_cases c : iCh (zB8 H 19) H b
    · exact ((e20 b j b0 b1 j0 j1).1 c).symm
    · rw [(e20 b j b0 b1 j0 j1).2 c, hn.2.2.1.2.1 b j b0 b1 j0 j1]
      exact (hn.seen (G := H) hk gi ⟨b0, b1⟩ o c j j0 j1).symm
  · rw [f45, f46, f47, gCnt_none _ _ (fun b b0 b1 u => ?_)]
    · decide
    · obtain ⟨k, k0, k1, u⟩ := u
      have b1 : b < r * gGr d w * (w - 1) := by omega
      refine u ?_
      by_cases o : M 46 b = 0
      · unfold mBy
        rw [if_pos (Or.inr (by exact o))]
      · have op : 0 < M 46 b := by have := hn.ow (b := b) (by omega); omega
        refine (mBy_V (V' := M 43) b0 o).trans ?_
        by_cases c : iCh (zB8 H 19) H b
        · exact ((ev b k b0 b1 k0 k1).1 c).symm
        · rw [(ev b k b0 b1 k0 k1).2 c]
          apply Classical.byContradiction
          intro y
          exact c ((r_ch hk hz hn ⟨b0, b1⟩).mpr ⟨k, k0, k1, y⟩)
/-- Journal.commit -/
theorem c_commit (hz : zhR (t, L, H)) (h : rAll d w r t L H M) (hn : rOn d w r C H M)
    (hok : ∀ C1 H1 M1 v, 0 ≤ v → (∀ b, 25 ≤ b → b < r * gGr d w * (w - 1) → H1 22 b = 0) → jOn d w r C1 H1 M1 → rCm d w r t L H1 M1 → (∀ q i, q ≠ 3 → q ≠ 5 → q ≠ 6 → q ≠ 7 → q ≠ 8 → q ≠ 9 → q ≠ 14 → q ≠ 15 → q ≠ 20 → q ≠ 22 → q ≠ 30 → q ≠ 31 → q ≠ 32 → ¬ (q = 29 ∧ i = 6) → H1 q i = H q i) → (∀ q i, q ≠ 35 → q ≠ 38 → q ≠ 39 → q ≠ 40 → q ≠ 43 → q ≠ 44 → q ≠ 51 → q ≠ 52 → q ≠ 53 → M1 q i = M q i) → (∀ i, i ≠ 12 → i ≠ 13 → i ≠ 14 → i ≠ 19 → i ≠ 20 → i ≠ 28 → M1 35 i = M 35 i) → M1 35 28 = 0 → mRet t L 204 0 [(29, 35), (9, 0), (9, 0), (9, 0)] M v M1 → Qr v (t, L, H1))
    (hbad : ∀ H1 M1, jX d w r H1 M1 → rCm d w r t L H1 M1 → (∀ q i, q ≠ 3 → q ≠ 5 → q ≠ 6 → q ≠ 7 → q ≠ 8 → q ≠ 9 → q ≠ 14 → q ≠ 15 → q ≠ 20 → q ≠ 22 → q ≠ 30 → q ≠ 31 → q ≠ 32 → ¬ (q = 29 ∧ i = 6) → H1 q i = H q i) → (∀ q i, q ≠ 35 → q ≠ 38 → q ≠ 39 → q ≠ 40 → q ≠ 43 → q ≠ 44 → q ≠ 51 → q ≠ 52 → q ≠ 53 → M1 q i = M q i) → (∀ i, i ≠ 12 → i ≠ 13 → i ≠ 14 → i ≠ 19 → i ≠ 20 → i ≠ 28 → M1 35 i = M 35 i) → mRet t L 204 0 [(29, 35), (9, 0), (9, 0), (9, 0)] M (-9) M1 → Qr (-9) (t, L, H1)) : zEnds 80 139 0 [(28, 29), (9, 0)] [] (t, L, H) Qr Qt := by
  have hk := h.1.1.1.1.1
  have bl := gBl_le hk
  have hB2 := gBl_ge hk
  have gi := h.1.1.1
  have ms := h.1.1.2.1
  have l30 : L 30 = 24 := gi.1.2.1.2.2.2.2.2.2.2.2.2.2.1
  have l31 : L 31 = 192 := gi.1.2.1.2.2.2.2.2.2.2.2.2.2.2.1
  have l51 : L 51 = 48 := ms.2.2.1.2.2.2.2.2.2.1
  have l52 : L 52 = 3072 := ms.2.2.1.2.2.2.2.2.2.2.1
  have l43 : L 43 = 49152 := ms.2.1.2.2.2.2.2.2.2.1
  have l53 : L 53 = 64 := ms.2.2.1.2.2.2.2.2.2.2.2
  have hs0 := h.1.s
  generalize eB : r * gGr d w * (w - 1) = B at bl hB2
  have pq : ∀ x, 25 ≤ x → x < B → (iCh (zB8 H 19) H x ↔ mCh B (mTr M) (M 43) x) := fun x x0 x1 => by
    have := r_ch hk hz hn (b := x) ⟨x0, by rw [eB]; exact x1⟩
    rw [eB] at this
    exact this
  have cn : ∀ b, 25 ≤ b → b ≤ B → cN (iCh (zB8 H 19) H) b = cN (mCh B (mTr M) (M 43)) b := fun b b0 b1 => cN_congr pq ⟨b0, b1⟩
  have few : cN (mCh B (mTr M) (M 43)) B ≤ 24 := by
    have := hn.2.2.1.2.2.2.1
    rw [eB] at this
    exact this
  have nn := (cN_mono (P := mCh B (mTr M) (M 43)) (a := 25) (b := B) (by decide) (by omega)).2
  rw [cN_0] at nn
  rw [eB] at hs0
  refine v_139 (c_list hs0 (by omega) l30 l31 (by rw [cn B (by omega) (Int.le_refl _)]; exact few) (fun H' g1 g2 => ?_))
  rw [cn B (by omega) (Int.le_refl _)]
  have ha := hn.g.1.1.1
  rw [eB] at ha
  have e43 : (lsM B (mTr M) M) 43 = M 43 := funext (fun j => by unfold lsM; rw [if_neg (by omega), if_neg (by omega)])
  have eM : ∀ q i, q ≠ 51 → q ≠ 52 → lsM B (mTr M) M q i = M q i := fun q i q1 q2 => by unfold lsM; rw [if_neg (fun z => q1 z.1), if_neg (fun z => q2 z.1)]
  have run0 : ∀ F FT, zEnds 118 204 75 [(29, 35), (0, cN (mCh B (mTr M) (M 43)) B), (0, 1), (0, 0)] [] (t, L, lsM B (mTr M) M) F FT → zEnds 118 204 0 [(29, 35), (9, 0), (9, 0), (9, 0)] [] (t, L, M) F FT := fun F FT u => m_list2 ms.a (by rw [eB]; exact ha) (by rw [eB]; omega) (by rw [eB]; exact few) (by rw [eB]; exact u)
  have lf : ∀ i, 0 ≤ i → i < cN (mCh B (mTr M) (M 43)) B → ∃ b, (25 ≤ b ∧ b < B) ∧ mCh B (mTr M) (M 43) b ∧ cN (mCh B (mTr M) (M 43)) b = i ∧ lsM B (mTr M) M 51 i = b ∧ (∀ k, 0 ≤ k → k < 64 → lsM B (mTr M) M 52 (64 * i + k) = mBy B (mTr M) (M 43) b k) ∧ H' 30 i = b ∧ ∀ j, 0 ≤ j → j < 8 → H' 31 (8 * i + j) = H 19 (8 * b + j) := fun i i0 i1 => by
    obtain ⟨a1, a2, a3⟩ := lsT_spec (P := mCh B (mTr M) (M 43)) (B := B) (i := i) (by omega) ⟨i0, i1⟩
    have g := g2 _ a1.1 a1.2 ((pq _ a1.1 a1.2).mpr a2)
    rw [cn _ a1.1 (by omega), a3] at g
    refine ⟨_, a1, a2, a3, ?_, fun k k0 k1 => ?_, g⟩
    · unfold lsM
      rw [if_pos ⟨rfl, i0, i1⟩]
    · unfold lsM
      rw [if_neg (by omega), if_pos ⟨rfl, by omega, by omega⟩, show (64 * i + k) / 64 = i by omega, show (64 * i + k) % 64 = k by omega]
  have own : ∀ b, 25 ≤ b → b < B → mCh B (mTr M) (M 43) b → 0 < M 46 b := fun b b0 b1 u => ((hn.e.2.1 b (by omega) (by omega)).mp ((pq b b0 b1).mpr u).2.1).2
  have seen : ∀ b, 25 ≤ b → b < B → mCh B (mTr M) (M 43) b → ∃ i, 0 ≤ i ∧ i < cN (mCh B (mTr M) (M 43)) B ∧ lsM B (mTr M) M 51 i = b ∧ H' 30 i = b := fun b b0 b1 u => by
    have q0 := (cN_mono (P := mCh B (mTr M) (M 43)) (a := b) (b := b) b0 (Int.le_refl _)).1
    have q1 := cN_lt (P := mCh B (mTr M) (M 43)) b0 b1 u
    obtain ⟨b', b2, b3, b4, b5, -, b6, -⟩ := lf _ q0 q1
    have : b' = b := by
      by_cases c : b' < b
      · have := cN_lt (P := mCh B (mTr M) (M 43)) b2.1 c b3
        omega
      · by_cases c2 : b < b'
        · have := cN_lt (P := mCh B (mTr M) (M 43)) b0 c2 u
          omega
        · omega
    rw [this] at b5 b6
    exact ⟨_, q0, q1, b5, b6⟩
  have gi' : gI d w r t L H' := gi.keep (fun q i hq => g1 q i (by omega) (by omega)) (fun q i hq => by rw [g1 q i (by omega) (by omega)]; exact gi.1.2.2.2 q i (by omega))
  have ms' : mS d w r L (lsM B (mTr M) M) := ms.of (fun i _ => eM 35 i (by decide) (by decide)) (fun i => eM 36 i (by decide) (by decide))
  have vs' : vS d w r C H' (lsM B (mTr M) M) := hn.1.keep (fun q i hq => g1 q i (by omega) (by omega)) (fun q i hq => eM q i (by omega) (by omega))
  have vv' : vVal d w r C ((lsM B (mTr M) M) 43) := by rw [e43]; exact hn.2.1
  have fin : ∀ (C1 : Int → Int → Int) (K N : zHp), gI d w r t L K → mS d w r L N → vS d w r C1 K N → vVal d w r C1 (N 43) → Jr B (N 43) → kJ H' K → kJm (lsM B (mTr M) M) N → (∀ b k, 25 ≤ b → b < B → 0 ≤ k → k < 64 → (iCh (zB8 H 19) H b → N 43 (64 * b + k) = mBy B (mTr M) (M 43) b k) ∧ (¬ iCh (zB8 H 19) H b → N 43 (64 * b + k) = M 43 (64 * b + k))) → N 43 4 = 0 → K 29 6 = jSq (N 43) → (∀ F FT, F (cN (mCh B (mTr M) (M 43)) B) (t, L, zupd N 35 28 0) → zEnds 118 204 0 [(29, 35), (9, 0), (9, 0), (9, 0)] [] (t, L, M) F FT) → zEnds 80 95 0 [(25, 18), (9, 0)] [] (t, L, K) (fun _ S2 => Qr (cN (mCh B (mTr M) (M 43)) B) S2) Qt := by
    intro C1 K N k1 k2 k3 k4 k5 k6 k7 k8 k9 k10 k11
    have eK : ∀ q i, q ≠ 3 → q ≠ 5 → q ≠ 6 → q ≠ 7 → q ≠ 8 → q ≠ 9 → q ≠ 14 → q ≠ 15 → q ≠ 30 → q ≠ 31 → q ≠ 32 → ¬ (q = 29 ∧ i = 6) → K q i = H q i := fun q i a b c e f g u v x y z s => (k6.1 q i a b c e f g u v z s).trans (g1 q i x y)
    have eN : ∀ q i, q ≠ 35 → q ≠ 38 → q ≠ 39 → q ≠ 40 → q ≠ 43 → q ≠ 44 → q ≠ 51 → q ≠ 52 → q ≠ 53 → zupd N 35 28 0 q i = M q i := fun q i a b c e f g u v x => by rw [zupd_ne a, k7.1 q i a b c e f g x]; exact eM q i u v
    have eN35 : ∀ i, i ≠ 12 → i ≠ 13 → i ≠ 14 → i ≠ 19 → i ≠ 20 → i ≠ 28 → zupd N 35 28 0 35 i = M 35 i := fun i a b c e f g => by rw [zupd_no (fun z => g z.2), k7.2 i a b c e f]; exact eM 35 i (by decide) (by decide)
    have n43 : (zupd N 35 28 0) 43 = N 43 := funext (fun i => zupd_ne (by decide))
    have hsK : fS K B 0 [] (zB8 H 19) L K := hs0.rest (fun q i hq => eK q i (by omega) (by omega) (by omega) (by omega) (by omega) (by omega) (by omega) (by omega) (by omega) (by omega) (by omega) (by omega))
    have ic : ∀ b, iCh (zB8 H 19) K b ↔ iCh (zB8 H 19) H b := fun b => iCh.of (fun q i hq => eK q i (by omega) (by omega) (by omega) (by omega) (by omega) (by omega) (by omega) (by omega) (by omega) (by omega) (by omega) (by omega))
    refine k_settle hsK (fun H2 s1 s2 s3 s4 s5 => ?_)
    have eH : ∀ q i, q ≠ 3 → q ≠ 5 → q ≠ 6 → q ≠ 7 → q ≠ 8 → q ≠ 9 → q ≠ 14 → q ≠ 15 → q ≠ 20 → q ≠ 22 → q ≠ 30 → q ≠ 31 → q ≠ 32 → ¬ (q = 29 ∧ i = 6) → H2 q i = H q i := fun q i a b c e f g u v m n x y z s => (s5 q i m n).trans (eK q i a b c e f g u v x y z s)
    have gi2 : gI d w r t L H2 := k1.keep (fun q i hq => s5 q i (by omega) (by omega)) (fun q i hq => by
      by_cases c : q = 22
      · rw [c]
        rcases s4 i with u | u
        · exact Or.inl u
        · rw [u]; exact k1.1.2.2.2 22 i (by omega)
      · rw [s5 q i (by omega) c]; exact k1.1.2.2.2 q i (by omega))
    have e19 : ∀ i, H2 19 i = H 19 i := fun i => eH 19 i (by decide) (by decide) (by decide) (by decide) (by decide) (by decide) (by decide) (by decide) (by decide) (by decide) (by decide) (by decide) (by decide) (by omega)
    refine hok C1 H2 (zupd N 35 28 0) _ nn (by rw [eB]; exact s1) (t_settled hk hz hn (k3.keep (fun q i hq => s5 q i (by omega) (by omega)) (fun q i hq => zupd_no (by omega))) (by rw [n43]; exact k4) (by rw [n43, eB]; exact k5) ?_ e19 (fun b j b0 b1 j0 j1 => ?_) (fun q i hq => eN q i (by omega) (by omega) (by omega) (by omega) (by omega) (by omega) (by omega) (by omega) (by omega)) (by rw [n43, eB]; exact k8) (by rw [n43]; exact k9) (by rw [n43, s5 29 6 (by decide) (by decide)]; exact k10) gi) (h.1.keep2 gi2 (fun q i hq => ?_) (fun q i hq => ?_)) eH eN eN35 zupd_at (fun F FT hF => k11 F FT hF)
    · rw [eH 0 11 (by decide) (by decide) (by decide) (by decide) (by decide) (by decide) (by decide) (by decide) (by decide) (by decide) (by decide) (by decide) (by decide) (by decide)]
      exact hn.2.2.2.2
    · rw [eB] at b1
      have q := s2 b j b0 b1 j0 j1
      refine ⟨fun u => ?_, fun u => ?_⟩
      · rw [q.1 ((ic b).mpr u)]
        exact eK 19 _ (by decide) (by decide) (by decide) (by decide) (by decide) (by decide) (by decide) (by decide) (by decide) (by decide) (by decide) (by omega)
      · rw [q.2 (fun z => u ((ic b).mp z))]
        exact eK 20 _ (by decide) (by decide) (by decide) (by decide) (by decide) (by decide) (by decide) (by decide) (by decide) (by decide) (by decide) (by omega)
    · exact eH q i (by omega) (by omega) (by omega) (by omega) (by omega) (by omega) (by omega) (by omega) (by omega) (by omega) (by omega) (by omega) (by omega) (by omega)
    · by_cases c : q = 35
      · rw [c]
        exact eN35 i (by omega) (by omega) (by omega) (by omega) (by omega) (by omega)
      · exact eN q i c (by omega) (by omega) (by omega) (by omega) (by omega) (by omega) (by omega) (by omega)
  -- what is lost
  have lost : ∀ K N : zHp, gI d w r t L K → mS d w r L N → jX d w r K N → kJ H' K → kJm (lsM B (mTr M) M) N → mRet t L 204 75 [(29, 35), (0, cN (mCh B (mTr M) (M 43)) B), (0, 1), (0, 0)] (lsM B (mTr M) M) (-9) N → Qr (-9) (t, L, K) := by
    intro K N k1 k2 k3 k6 k7 k8
    have eK : ∀ q i, q ≠ 3 → q ≠ 5 → q ≠ 6 → q ≠ 7 → q ≠ 8 → q ≠ 9 → q ≠ 14 → q ≠ 15 → q ≠ 30 → q ≠ 31 → q ≠ 32 → ¬ (q = 29 ∧ i = 6) → K q i = H q i := fun q i a b c e f g u v x y z s => (k6.1 q i a b c e f g u v z s).trans (g1 q i x y)
    have eN : ∀ q i, q ≠ 35 → q ≠ 38 → q ≠ 39 → q ≠ 40 → q ≠ 43 → q ≠ 44 → q ≠ 51 → q ≠ 52 → q ≠ 53 → N q i = M q i := fun q i a b c e f g u v x => by rw [k7.1 q i a b c e f g x]; exact eM q i u v
    have eN35 : ∀ i, i ≠ 12 → i ≠ 13 → i ≠ 14 → i ≠ 19 → i ≠ 20 → i ≠ 28 → N 35 i = M 35 i := fun i a b c e f g => by rw [k7.2 i a b c e f]; exact eM 35 i (by decide) (by decide)
    refine hbad K N k3 (h.1.keep2 k1 (fun q i hq => ?_) (fun q i hq => ?_)) (fun q i a b c e f g u v m n x y z s => eK q i a b c e f g u v x y z s) eN eN35 (fun F FT hF => run0 F FT (k8 F FT hF))
    · exact eK q i (by omega) (by omega) (by omega) (by omega) (by omega) (by omega) (by omega) (by omega) (by omega) (by omega) (by omega) (by omega)
    · by_cases c : q = 35
      · rw [c]
        exact eN35 i (by omega) (by omega) (by omega) (by omega) (by omega) (by omega)
      · exact eN q i c (by omega) (by omega) (by omega) (by omega) (by omega) (by omega) (by omega) (by omega)
  have JV : Jr B (M 43) := by have := hn.2.2.2.1; rw [eB] at this; exact this
  have h29 : H' 29 6 = jSq (M 43) := by rw [g1 29 6 (by decide) (by decide)]; exact hn.2.2.1.2.2.2.2.1.2
  refine ⟨fun u => ?_, fun u => ?_⟩
  · have n0 : cN (mCh B (mTr M) (M 43)) B = 0 := by omega
    refine fin C H' (lsM B (mTr M) M) gi' ms' vs' vv' (by rw [e43]; exact JV) kJ.rfl' kJm.rfl' (fun b k b0 b1 k0 k1 => ⟨fun y => ?_, fun _ => by rw [e43]⟩) (by rw [e43]; exact hn.2.2.1.2.2.2.2.1.1) (by rw [e43]; exact h29) (fun F FT hF => run0 F FT ?_)
    · have := cN_lt (P := mCh B (mTr M) (M 43)) b0 b1 ((pq b b0 b1).mp y)
      have := (cN_mono (P := mCh B (mTr M) (M 43)) (a := b) (b := b) b0 (Int.le_refl _)).1
      omega
    · rw [n0] at hF ⊢
      exact v_204_75 ⟨fun _ => ⟨fun _ => v_204_134 ⟨fun _ => ⟨fun _ => ⟨fun _ => hF, fun z => absurd (by decide) z⟩, fun z => absurd (by decide) z⟩, fun z => absurd (by decide) z⟩, fun z => absurd (by decide) z⟩, fun z => absurd (by decide) z⟩
  · have n1 : 0 < cN (mCh B (mTr M) (M 43)) B := by omega
    have hP : ∀ i k, 0 ≤ i → i < cN (mCh B (mTr M) (M 43)) B → 0 ≤ k → k < 64 → by8 (H' 31 (8 * i + k / 8)) (k % 8) = lsM B (mTr M) M 52 (64 * i + k) := fun i k i0 i1 k0 k1 => by
      obtain ⟨b, b2, b3, b4, b5, b6, b7, b8⟩ := lf i i0 i1
      rw [b6 k k0 k1, b8 (k / 8) (by omega) (by omega)]
      have := hn.by hk (b := b) (k := k) (by rw [eB]; exact b2) (own b b2.1 b2.2 b3) ⟨k0, k1⟩
      rw [eB] at this
      exact this
    have hW : ∀ i j, 0 ≤ i → i < cN (mCh B (mTr M) (M 43)) B → 0 ≤ j → j < 8 → z64 (H' 31 (8 * i + j)) = H' 31 (8 * i + j) := fun i j i0 i1 j0 j1 => by
      obtain ⟨b, b2, b3, b4, b5, b6, b7, b8⟩ := lf i i0 i1
      rw [b8 j j0 j1]
      exact hz.word rfl
    have hT : ∀ i, 0 ≤ i → i < cN (mCh B (mTr M) (M 43)) B → (25 ≤ H' 30 i ∧ H' 30 i < r * gGr d w * (w - 1)) ∧ lsM B (mTr M) M 51 i = H' 30 i := fun i i0 i1 => by
      obtain ⟨b, b2, b3, b4, b5, b6, b7, b8⟩ := lf i i0 i1
      rw [b5, b7, eB]
      exact ⟨b2, rfl⟩
    have hdi : ∀ i j, 0 ≤ i → i < cN (mCh B (mTr M) (M 43)) B → 0 ≤ j → j < cN (mCh B (mTr M) (M 43)) B → H' 30 i = H' 30 j → i = j := fun i j i0 i1 j0 j1 e => by
      obtain ⟨b, b2, b3, b4, b5, b6, b7, b8⟩ := lf i i0 i1
      obtain ⟨c, c2, c3, c4, c5, c6, c7, c8⟩ := lf j j0 j1
      rw [b7, c7] at e
      rw [← b4, ← c4, e]
    have h8 : cT8 L H' := ⟨h.1.1.2.2.1, fun j j0 j1 => by rw [g1 (-8) j (by decide) (by decide)]; exact h.1.1.2.2.2 j j0 j1⟩
    have hB4 : ∀ V' : Int → Int, (∀ k, 0 ≤ k → k < 64 → V' k = hB (cN (mCh B (mTr M) (M 43)) B) (jSq (M 43)) (H' 30) k) → V' 4 = cN (mCh B (mTr M) (M 43)) B ∧ (∀ i, 0 ≤ i → i < cN (mCh B (mTr M) (M 43)) B → jT V' i = H' 30 i) ∧ jSq V' = z32 (jSq (M 43)) := fun V' hV => by
      refine ⟨?_, fun i i0 i1 => ?_, ?_⟩
      · rw [hV 4 (by decide) (by decide)]
        unfold hB
        rw [if_neg (by decide), if_pos rfl]
      · have := hT i i0 i1
        unfold jT
        rw [hV _ (by omega) (by omega), hV _ (by omega) (by omega)]
        unfold hB
        rw [if_neg (show ¬ 5 + 2 * i < 4 by omega), if_neg (show ¬ 5 + 2 * i = 4 by omega), if_pos (show 5 + 2 * i < 5 + 2 * cN (mCh B (mTr M) (M 43)) B by omega), if_pos (show (5 + 2 * i - 5) % 2 = 0 by omega), if_neg (show ¬ 6 + 2 * i < 4 by omega), if_neg (show ¬ 6 + 2 * i = 4 by omega), if_pos (show 6 + 2 * i < 5 + 2 * cN (mCh B (mTr M) (M 43)) B by omega), if_neg (show ¬ (6 + 2 * i - 5) % 2 = 0 by omega), show (5 + 2 * i - 5) / 2 = i by omega, show (6 + 2 * i - 5) / 2 = i by omega]
        omega
      · exact sY_sq (fun k k0 k1 => by rw [hV k k0 (by omega)]; unfold hB; rw [if_pos k1])
    have J1 : ∀ V' : Int → Int, (∀ k, 0 ≤ k → k < 64 → V' k = hB (cN (mCh B (mTr M) (M 43)) B) (jSq (M 43)) (H' 30) k) → (∀ i k, 0 ≤ i → i < cN (mCh B (mTr M) (M 43)) B → 0 ≤ k → k < 64 → V' (64 * (1 + i) + k) = lsM B (mTr M) M 52 (64 * i + k)) → (∀ j, 1600 ≤ j → V' j = M 43 j) → Jr B V' := fun V' v1 v2 v3 => by
      obtain ⟨x1, x2, x3⟩ := hB4 V' v1
      have hg := hn.g
      rw [eB] at hg
      refine ⟨Or.inr ⟨by rw [x1]; omega, fun i i0 i1 => ?_, fun i j i0 i1 j0 j1 e => ?_⟩, mTr M, hg, fun b k b0 b1 k0 k1 o => ⟨fun i i0 i1 e => ?_, fun y => ?_⟩⟩
      · rw [x1] at i1
        have := hT i i0 i1
        rw [x2 i i0 i1, ← eB]
        exact this.1
      · rw [x1] at i1 j1
        rw [x2 i i0 i1, x2 j j0 j1] at e
        exact hdi i j i0 i1 j0 j1 e
      · rw [x1] at i1
        rw [x2 i i0 i1] at e
        obtain ⟨b', b2, b3, b4, b5, b6, b7, b8⟩ := lf i i0 i1
        rw [b7] at e
        subst e
        rw [v2 i k i0 i1 k0 k1, b6 k k0 k1]
        exact mBy_V b0 (by omega)
      · have nc : ¬ mCh B (mTr M) (M 43) b := fun z => by
          obtain ⟨i, i0, i1, -, i3⟩ := seen b b0 b1 z
          exact y i i0 (by rw [x1]; exact i1) (by rw [x2 i i0 i1]; exact i3)
        rw [mBy_V (V' := M 43) b0 (by omega), v3 _ (by omega)]
        apply Classical.byContradiction
        intro z
        exact nc ⟨k, k0, k1, z⟩
    refine c_ann (n := cN (mCh B (mTr M) (M 43)) B) (V0 := M 43) (M0 := lsM B (mTr M) M) h8 ⟨n1, few⟩ hT hP hW (by rw [eB]; exact JV) hn.2.2.1.2.2.2.2.1.1 h29 (by rw [eB]; exact J1) (fun C1 H1 M1 a1 a2 a3 a4 a5 a6 a7 a8 a9 a10 a11 a12 => ⟨fun z => absurd z (by decide), fun _ => ?_⟩) (fun H1 M1 a1 a2 a3 a4 a5 a6 => ⟨fun _ => lost H1 M1 a1 a2 a3 a4 a5 a6, fun z => absurd rfl z⟩) gi' ms' vs' vv' e43
    obtain ⟨x1, x2, x3⟩ := hB4 (M1 43) a8
    have e30 : ∀ i, H1 30 i = H' 30 i := fun i => a5.1 30 i (by decide) (by decide) (by decide) (by decide) (by decide) (by decide) (by decide) (by decide) (by decide) (by omega)
    have e31 : ∀ i, H1 31 i = H' 31 i := fun i => a5.1 31 i (by decide) (by decide) (by decide) (by decide) (by decide) (by decide) (by decide) (by decide) (by decide) (by omega)
    have m51 : ∀ i, M1 51 i = lsM B (mTr M) M 51 i := fun i => a6.1 51 i (by decide) (by decide) (by decide) (by decide) (by decide) (by decide) (by decide)
    have m52 : ∀ i, M1 52 i = lsM B (mTr M) M 52 i := fun i => a6.1 52 i (by decide) (by decide) (by decide) (by decide) (by decide) (by decide) (by decide)
    have sq1 : H1 29 6 = jSq (M1 43) := by rw [a7, h29, x3]; exact (z32_z32 _).symm
    have tr : ∀ {K N P : zHp}, kJ K N → kJ N P → kJ K P := fun {K N P} u v => ⟨fun q i a b c e f g x y z s => (v.1 q i a b c e f g x y z s).trans (u.1 q i a b c e f g x y z s), fun i a b => (v.2 i a b).trans (u.2 i a b)⟩
    have trm : ∀ {K N P : zHp}, kJm K N → kJm N P → kJm K P := fun {K N P} u v => ⟨fun q i a b c e f g x => (v.1 q i a b c e f g x).trans (u.1 q i a b c e f g x), fun i a b c e f => (v.2 i a b c e f).trans (u.2 i a b c e f)⟩
    have mstep : ∀ {i v : Int} {N N1 : zHp} {F FT : Int → zS → Prop}, 0 ≤ i → i < cN (mCh B (mTr M) (M 43)) B → kJm M1 N → (∀ F FT : Int → zS → Prop, F v (t, L, N1) → zEnds 118 197 0 [(29, 35), (0, H1 30 i), (10, 52), (0, 64 * (0 + i)), (9, 0), (9, 0), (9, 0), (9, 0), (9, 0), (9, 0), (9, 0)] [] (t, L, N) F FT) → zEnds 118 204 134 [(29, 35), (0, cN (mCh B (mTr M) (M 43)) B), (0, v), (0, i + 1)] [] (t, L, N1) F FT → zEnds 118 204 134 [(29, 35), (0, cN (mCh B (mTr M) (M 43)) B), (0, 1), (0, i)] [] (t, L, N) F FT := fun {i v N N1 F FT} i0 i1 kN a8 hF => by
      refine v_204_134 ⟨fun z => by omega, fun _ => ⟨fun z => absurd z (by decide), fun _ => ⟨by show 0 ≤ i ∧ i < L 51; omega, ?_⟩⟩⟩
      have e51 : N 51 i = H1 30 i := by
        rw [kN.1 51 i (by decide) (by decide) (by decide) (by decide) (by decide) (by decide) (by decide), m51, e30]
        exact (hT i i0 i1).2
      show zEnds 118 197 0 [(29, 35), (0, N 51 i), (10, 52), (0, z32 (64 * i)), (9, 0), (9, 0), (9, 0), (9, 0), (9, 0), (9, 0), (9, 0)] [] _ _ _
      rw [e51, z32_id (x := 64 * i) (by omega) (by omega), z32_id (x := i + 1) (by omega) (by omega)]
      have := a8 (fun v5 S5 => zEnds 118 204 134 [(29, 35), (0, cN (mCh B (mTr M) (M 43)) B), (0, v5), (0, i + 1)] [] S5 F FT) FT hF
      rw [Int.zero_add] at this
      exact this
    refine c_carry (n := cN (mCh B (mTr M) (M 43)) B) (wm := 52) (o := 0) (bad := -9) (good := cN (mCh B (mTr M) (M 43)) B) (fin := fun N => zupd N 35 28 0) (V0 := M1 43) (H0 := H1) (M0 := M1) (G := fun i N F FT => zEnds 118 204 134 [(29, 35), (0, cN (mCh B (mTr M) (M 43)) B), (0, 1), (0, i)] [] (t, L, N) F FT) ⟨h8.1, fun j j0 j1 => by rw [a5.1 (-8) j (by decide) (by decide) (by decide) (by decide) (by decide) (by decide) (by decide) (by decide) (by decide) (by omega)]; exact h8.2 j j0 j1⟩ x1 ⟨by omega, few⟩ (fun i i0 i1 => by rw [e30]; exact (hT i i0 i1).1) (fun i i0 i1 => by rw [e30]; exact x2 i i0 i1) (fun i j i0 i1 j0 j1 e => hdi i j i0 i1 j0 j1 (by rw [← e30, ← e30]; exact e)) (fun i k i0 i1 k0 k1 => by rw [e31, a9 i k i0 i1 k0 k1]; exact hP i k i0 i1 k0 k1) (fun i j i0 i1 j0 j1 => by rw [e31]; exact hW i j i0 i1 j0 j1) (Or.inl ⟨rfl, rfl, fun i k i0 i1 k0 k1 => by rw [m52]; exact (a9 i k i0 i1 k0 k1).symm⟩) a11 sq1 (fun i N N1 i0 i1 _ kN _ a8 F FT hG => mstep i0 i1 kN a8 hG) (fun i N N1 i0 i1 _ kN _ a8 F FT hF => mstep i0 i1 kN a8 (m_cut n1 hF)) (fun N N1 mN kN a8 F FT hF => ?_) (fun N N1 mN kN a8 F FT hF => ?_) (fun C2 H2 M2 b1 b2 b3 b4 b5 b6 b7 b8 b9 b10 b11 b12 => ⟨fun _ => ?_, fun z => absurd (by decide) z⟩) (fun H2 M2 b1 b2 b3 b4 b5 b6 => ⟨fun z => absurd rfl z, fun _ => ?_⟩) a1 a2 a3 a4 rfl
    · exact v_204_134 ⟨fun _ => ⟨fun z => by omega, fun _ => ⟨fun z => absurd z (by decide), fun _ => m_seq l43 (m_heads l51 l53 (by decide) (fun j j0 j1 => by omega) (a8 _ _ ⟨Or.inr rfl, fun z => absurd z (by decide), fun _ => ⟨fun _ => hF, fun z => absurd (by decide) z⟩⟩))⟩⟩, fun z => absurd (Int.le_refl _) z⟩
    · exact v_204_134 ⟨fun _ => ⟨fun z => by omega, fun _ => ⟨fun z => absurd z (by decide), fun _ => m_seq l43 (m_heads l51 l53 (by decide) (fun j j0 j1 => by omega) (a8 _ _ ⟨Or.inl rfl, fun _ => ⟨fun z => absurd rfl z, fun _ => hF⟩, fun z => absurd rfl z⟩))⟩⟩, fun z => absurd (Int.le_refl _) z⟩
    · refine fin C2 H2 M2 b1 b2 b3 b4 (by rw [eB] at b11; exact b11) (tr a5 b5) (trm a6 b6) (fun b k b0 b1' k0 k1 => ⟨fun y => ?_, fun y => ?_⟩) b8 (by rw [b9]; exact (sY_sq b7).symm) (fun F FT hF => run0 F FT (a12 F FT (b12 F FT hF)))
      · obtain ⟨i, i0, i1, i2, i3⟩ := seen b b0 b1' ((pq b b0 b1').mp y)
        obtain ⟨b', c2, c3, c4, c5, c6, c7, c8⟩ := lf i i0 i1
        have eb : b' = b := by rw [← c7]; exact i3
        subst eb
        rw [(b10 b' k b0 (by rw [eB]; exact b1') k0 k1).1 i i0 i1 (by rw [e30]; exact c7), a9 i k i0 i1 k0 k1, c6 k k0 k1]
      · rw [(b10 b k b0 (by rw [eB]; exact b1') k0 k1).2 (fun i i0 i1 e => ?_), a10 _ (by omega)]
        obtain ⟨b', c2, c3, c4, c5, c6, c7, c8⟩ := lf i i0 i1
        rw [e30, c7] at e
        subst e
        exact y ((pq b' b0 b1').mpr c3)
    · exact lost H2 M2 b1 b2 b3 (tr a5 b4) (trm a6 b5) (fun F FT hF => a12 F FT (b6 F FT hF))
theorem q_sync (ht : 118 ≤ t) (hX : lR X H) (hz : zhR (t, L, H)) (h : rAll d w r t L H H) : cOK rP 274 154 [(20, 0), (9, 0)] 259 [(29, 35)] X t L H := by
  have hk := h.1.1.1.1.1
  refine cOK_rel (Q := fun M v H1 => H 0 11 = 1 ∧ ∃ M1, mRet t L 204 0 [(29, 35), (9, 0), (9, 0), (9, 0)] (zupd M 35 0 0) v M1 ∧ M1 35 0 = 0 ∧ fM M M1 ∧ rAll d w r t L H1 M1) (TT := fun c => c = 2 ∧ H 0 11 = 0) ht hX hz h (za_c (za_9 za_0)) (za_m za_0) rfl (fun M hM => ?_) (fun v H1 M hM q => ?_) (fun c q => ?_)
  · refine v_154 (k_on2 ht (fun u => ?_) (fun u => ⟨rfl, rfl, u⟩))
    have h1 : rAll d w r t L H (zupd M 35 0 0) := hM.up
    have on : H 0 11 = 1 := by
      rcases h.on with v | v
      · exact v.1
      · exact absurd v.1 u
    obtain ⟨C, hn⟩ : ∃ C, rOn d w r C H (zupd M 35 0 0) := by
      rcases h1.2 with a | ⟨C, O, a⟩
      · exact a
      · have := a.2.2.1.2
        omega
    refine c_commit hz h1 hn (fun C1 H1 M1 v v0 _ a1 a2 a3 a4 a5 a6 a7 => ?_) (fun H1 M1 a1 a2 a3 a4 a5 a7 => ?_)
    · refine v_174 ⟨fun _ => ?_, fun y => by omega⟩
      have e0 : ∀ q i, ¬ (q = 0 ∧ i = 12) → zupd H1 0 12 0 q i = H1 q i := fun q i y => zupd_no y
      have gi : gI d w r t L (zupd H1 0 12 0) := a2.1.1.keep (fun q i hq => e0 q i (by omega)) (fun q i hq => by rw [e0 q i (by omega)]; exact a2.1.1.1.2.2.2 q i (by omega))
      refine ⟨zupd H1 0 12 0, rfl, fun q i hq => ?_, on, M1, a7, ?_, fun q i hq => ?_, a2.keep2 gi (fun q i hq => e0 q i (by omega)) (fun _ _ _ => rfl), Or.inl ⟨C1, a1.on (fun q i y => e0 q i (by omega)) (fun _ _ _ => rfl) ⟨by rw [zupd_at, a6], ?_⟩⟩⟩
      · rw [e0 q i (by omega)]
        exact a3 q i (by omega) (by omega) (by omega) (by omega) (by omega) (by omega) (by omega) (by omega) (by omega) (by omega) (by omega) (by omega) (by omega) (by omega)
      · rw [a5 0 (by decide) (by decide) (by decide) (by decide) (by decide) (by decide), zupd_at]
      · rw [a4 q i (by omega) (by omega) (by omega) (by omega) (by omega) (by omega) (by omega) (by omega) (by omega), zupd_ne (by omega)]
      · rw [e0 0 13 (by decide), a3 0 13 (by decide) (by decide) (by decide) (by decide) (by decide) (by decide) (by decide) (by decide) (by decide) (by decide) (by decide) (by decide) (by decide) (by decide), a5 29 (by decide) (by decide) (by decide) (by decide) (by decide) (by decide)]
        exact hn.2.2.1.2.2.2.2.2.2
    · refine v_174 ⟨fun y => absurd rfl y, fun _ => ?_⟩
      have e0 : ∀ q i, ¬ (q = 0 ∧ i = 12) → zupd H1 0 12 0 q i = H1 q i := fun q i y => zupd_no y
      have gi : gI d w r t L (zupd H1 0 12 0) := a2.1.1.keep (fun q i hq => e0 q i (by omega)) (fun q i hq => by rw [e0 q i (by omega)]; exact a2.1.1.1.2.2.2 q i (by omega))
      have jx : jX d w r (zupd H1 0 12 0) M1 := a1.of (fun q i hq => e0 q i (by omega))
      refine r_gone (a2.keep2 gi (fun q i hq => e0 q i (by omega)) (fun _ _ _ => rfl)) jx (fun H2 b1 b2 => ⟨H2, rfl, fun q i hq => ?_, on, M1, a7, ?_, fun q i hq => ?_, b1⟩)
      · rw [b2 q i (by omega), e0 q i (by omega)]
        exact a3 q i (by omega) (by omega) (by omega) (by omega) (by omega) (by omega) (by omega) (by omega) (by omega) (by omega) (by omega) (by omega) (by omega) (by omega)
      · rw [a5 0 (by decide) (by decide) (by decide) (by decide) (by decide) (by decide), zupd_at]
      · rw [a4 q i (by omega) (by omega) (by omega) (by omega) (by omega) (by omega) (by omega) (by omega) (by omega), zupd_ne (by omega)]
  · obtain ⟨on, M1, a1, a2, a3, a4⟩ := q
    have m12 : M 35 12 ≠ 0 := by
      rcases hM.on with v | v
      · rw [v.2]; decide
      · omega
    exact j_259 ⟨fun _ => j_259_13 (m_f0 ⟨fun _ => a1 _ _ ⟨rfl, M1, rfl, a3, a2, a4⟩, fun u => absurd rfl u⟩), fun u => absurd m12 u⟩
  · obtain ⟨e, off⟩ := q
    have m12 : ¬ H 35 12 ≠ 0 := by
      rcases h.on with v | v
      · omega
      · rw [v.2]; decide
    exact ⟨1, by rw [e]; rfl, by decide, fun t' ht' => j_259 ⟨fun u => absurd u m12, fun _ => j_259_13 (m_f1 ⟨fun u => absurd u (by decide), fun _ => rfl⟩)⟩⟩
end SYNC
