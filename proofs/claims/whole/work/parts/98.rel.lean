/-! What holds between the class and the reference at every call. -/
/-- a live entry of a directory -/
def aNd (A : aSt) (d e : Int) : Prop := (0 ≤ d ∧ d < 64) ∧ A.1 (20 * d) = 2 ∧ (0 ≤ e ∧ e < A.1 (20 * d + 1) / 4) ∧ aNm A d e ≠ 0
/-- the directory that an inode is in, or none -/
noncomputable def aPar (A : aSt) (j : Int) : Int := gFirst (fun d => ∃ e, aNd A d e ∧ aNo A d e = j) 0 64
noncomputable def aUp (A : aSt) : Nat → Int → Int
  | 0, j => j
  | n + 1, j => aUp A n (if j = -1 then -1 else aPar A j)
def aTr (A : aSt) : Prop := (∀ d e, aNd A d e → (1 ≤ aNo A d e ∧ aNo A d e < 64) ∧ A.1 (20 * aNo A d e) ≠ 0) ∧ (∀ d e d' e', aNd A d e → aNd A d' e' → aNo A d e = aNo A d' e' → d = d' ∧ e = e') ∧ ∀ j, 0 ≤ j → j < 64 → ∃ n, aUp A n j = -1
/-- owners are those that have the block -/
def aOw (B : Int) (A : aSt) : Prop := (∀ b, 0 ≤ b → b < 59 → A.2.1 b = 100) ∧ ∀ b, 59 ≤ b → b < 768 → A.2.1 b = 0 ∨ (b < B ∧ ∃ i, (0 ≤ i ∧ i < 64) ∧ A.2.1 b = i + 1 ∧ aIn A.1 i b)
/-- a free inode has no size; the root is none -/
def aT0 (N : Int → Int) : Prop := ∀ i, 0 ≤ i → i < 64 → N (20 * i) = 0 → N (20 * i + 1) = 0 ∧ 1 ≤ i
/-- nothing behind the sizes -/
def aTl (A : aSt) : Prop := ∀ i k, 0 ≤ i → i < 64 → A.1 (20 * i + 1) ≤ k → k < 64 * aTot A.1 i → aGet A i k = 0
def aGood (B : Int) (A : aSt) : Prop := aG B A ∧ aBy B A ∧ aOw B A ∧ aT0 A.1 ∧ aTl A ∧ aTr A
theorem aOw.p {B : Int} {A : aSt} (h : aOw B A) : aP A.2.1 := ⟨fun b b0 b1 => by rw [h.1 b b0 b1]; decide, fun b b0 b1 => by
  rcases h.2 b b0 b1 with e | ⟨-, i, hi, e, -⟩
  · omega
  · omega⟩
/-- the targets that the head names -/
def jT (V : Int → Int) (i : Int) : Int := V (5 + 2 * i) + 256 * V (6 + 2 * i)
def jSq (V : Int → Int) : Int := z32 (V 0 + 256 * V 1 + 65536 * V 2 + 16777216 * V 3)
def jHd (B : Int) (V : Int → Int) : Prop := V 4 = 0 ∨ ((1 ≤ V 4 ∧ V 4 ≤ 24) ∧ (∀ i, 0 ≤ i → i < V 4 → 25 ≤ jT V i ∧ jT V i < B) ∧ ∀ i j, 0 ≤ i → i < V 4 → 0 ≤ j → j < V 4 → jT V i = jT V j → i = j)
/-- what is committed is a tree -/
def jTr (B : Int) (V : Int → Int) (A : aSt) : Prop := ∀ b k, 25 ≤ b → b < B → 0 ≤ k → k < 64 → 0 < A.2.1 b → (∀ i, 0 ≤ i → i < V 4 → jT V i = b → mBy B A V b k = V (64 * (1 + i) + k)) ∧ ((∀ i, 0 ≤ i → i < V 4 → jT V i ≠ b) → mBy B A V b k = V (64 * b + k))
def Jr (B : Int) (V : Int → Int) : Prop := jHd B V ∧ ∃ A, aGood B A ∧ jTr B V A
/-- the content is the value, but for the head's check -/
def vVal (d w r : Int) (C : Int → Int → Int) (V : Int → Int) : Prop := ∀ b k, 0 ≤ b → b < r * gGr d w * (w - 1) → 0 ≤ k → k < 64 → (b = 0 → ¬ (59 ≤ k ∧ k < 63)) → by8 (C (gSo w b) (k / 8)) (k % 8) = V (64 * b + k)
/-- the value with the cut block as it was -/
def vRev (M : zHp) : Int → Int := fun j => if 64 * M 35 19 ≤ j ∧ j < 64 * M 35 19 + 64 then M 44 (j - 64 * M 35 19) else M 43 j
def tOn (d w r : Int) (C : Int → Int → Int) (H M : zHp) : Prop :=
  (aE (r * gGr d w * (w - 1)) (M 45, M 46, M 47) (zB8 H 19) ∧ aGood (r * gGr d w * (w - 1)) (M 45, M 46, M 47)) ∧
  (∀ b j, 25 ≤ b → b < r * gGr d w * (w - 1) → 0 ≤ j → j < 8 → H 20 (8 * b + j) = C (gSo w b) j) ∧
  (∀ b, 25 ≤ b → b < r * gGr d w * (w - 1) → H 22 b = 0 → 0 < M 46 b → ∀ j, 0 ≤ j → j < 8 → H 19 (8 * b + j) = H 20 (8 * b + j)) ∧
  gCnt (mCh (r * gGr d w * (w - 1)) (M 45, M 46, M 47) (M 43)) 25 (r * gGr d w * (w - 1) - 25).toNat ≤ 24 ∧
  (M 43 4 = 0 ∧ H 29 6 = jSq (M 43)) ∧ (H 0 12 = M 35 28 ∧ H 0 13 = M 35 29)
def rOn (d w r : Int) (C : Int → Int → Int) (H M : zHp) : Prop := vS d w r C H M ∧ vVal d w r C (M 43) ∧ tOn d w r C H M ∧ Jr (r * gGr d w * (w - 1)) (M 43) ∧ H 0 11 = 1
def rOff (d w r : Int) (C : Int → Int → Int) (O : Int → Int) (H M : zHp) : Prop := vOf d w r C O H M ∧ rL H M ∧ (M 35 12 = 0 ∧ H 0 11 = 0) ∧ vVal d w r C (M 43) ∧ Jr (r * gGr d w * (w - 1)) (M 43) ∧ (M 35 20 = 1 → vVal d w r (vUp C (gSo w (M 35 19)) O) (vRev M) ∧ Jr (r * gGr d w * (w - 1)) (vRev M))
def rCm (d w r : Int) (t : Nat) (L : Int → Int) (H M : zHp) : Prop := (gI d w r t L H ∧ mS d w r L M ∧ cT8 L H) ∧ (H 0 10 = M 35 17 ∧ (0 ≤ H 0 10 ∧ H 0 10 ≤ 512) ∧ ∀ k, 0 ≤ k → k < H 0 10 → M 42 k = H 33 k % 256) ∧ (H 16 4 = M 35 15 ∧ (0 ≤ H 16 4 ∧ H 16 4 < r * gGr d w) ∧ H 16 5 = 0) ∧ (H 18 8 = 0 ∧ ∀ b, 0 ≤ b → b < r * gGr d w * (w - 1) → H 23 b = 0)
def rAll (d w r : Int) (t : Nat) (L : Int → Int) (H M : zHp) : Prop := rCm d w r t L H M ∧ ((∃ C, rOn d w r C H M) ∨ ∃ C O, rOff d w r C O H M)
/-- what the class's heap keeps for the tree; what the reference's keeps -/
def kTr (H H' : zHp) : Prop := (∀ q i, (q = 19 ∨ q = 20 ∨ q = 22 ∨ q = 29 ∨ (q = 0 ∧ (i = 12 ∨ i = 13))) → H' q i = H q i)
def kMt (M M' : zHp) : Prop := (∀ q i, (q = 43 ∨ q = 45 ∨ q = 46 ∨ q = 47 ∨ (q = 35 ∧ (i = 28 ∨ i = 29))) → M' q i = M q i)
theorem tOn.keep {d w r : Int} {C : Int → Int → Int} {H H' M M' : zHp} (h : tOn d w r C H M) (e : kTr H H') (e' : kMt M M') : tOn d w r C H' M' := by
  obtain ⟨⟨h1, h2⟩, h3, h4, h5, h6, h7⟩ := h
  have f19 : zB8 H' 19 = zB8 H 19 := by funext i; unfold zB8; rw [e 19 _ (by omega)]
  have f43 : M' 43 = M 43 := funext (fun i => e' 43 i (by omega))
  have f45 : M' 45 = M 45 := funext (fun i => e' 45 i (by omega))
  have f46 : M' 46 = M 46 := funext (fun i => e' 46 i (by omega))
  have f47 : M' 47 = M 47 := funext (fun i => e' 47 i (by omega))
  unfold tOn
  rw [f19, f43, f45, f46, f47]
  refine ⟨⟨h1, h2⟩, fun b j b0 b1 j0 j1 => by rw [e 20 _ (by omega)]; exact h3 b j b0 b1 j0 j1, fun b b0 b1 hm ho j j0 j1 => ?_, h5, ⟨h6.1, by rw [e 29 _ (by omega)]; exact h6.2⟩, by rw [e 0 12 (by omega), e' 35 28 (by omega)]; exact h7.1, by rw [e 0 13 (by omega), e' 35 29 (by omega)]; exact h7.2⟩
  rw [e 22 _ (by omega)] at hm
  rw [e 19 _ (by omega), e 20 _ (by omega)]
  exact h4 b b0 b1 hm ho j j0 j1
theorem vSp.of {d w r : Int} {H H' : zHp} (h : vSp d w r H) (e : ∀ q i, (q = 5 ∨ q = 6 ∨ q = 7 ∨ q = 13) → H' q i = H q i) : vSp d w r H' := fun row q a b c f v t => by
  unfold gVal at v
  rw [e 5 _ (by omega), e 6 _ (by omega)] at v
  rw [e 7 _ (by omega)] at t ⊢
  obtain ⟨p, p0, p1, p2⟩ := h row q a b c f v t
  exact ⟨p, p0, p1, by rw [e 13 _ (by omega)]; exact p2⟩
theorem vBw.of {d w r : Int} {C : Int → Int → Int} {H H' : zHp} (h : vBw d w r C H) (e : ∀ q i, (q = 5 ∨ q = 6 ∨ q = 7 ∨ q = 8 ∨ q = 13) → H' q i = H q i) : vBw d w r C H' := by
  obtain ⟨⟨hR, hA, hC⟩, hH, hS, hF, hO⟩ := h
  have eat : ∀ u, gAt d w r H' u = gAt d w r H u := fun u => gAt_of (e 13 u (by omega))
  have so : ∀ u, gSound d w r H' u ↔ gSound d w r H u := fun u => gSound_of (e 13 u (by omega)) (fun c => e 5 c (by omega)) (fun c => e 6 c (by omega))
  refine ⟨⟨hR, fun u u0 u1 pu => ?_, ⟨fun u u0 u1 a => ?_, fun row q a b c f v t => ?_⟩⟩, fun u u0 u1 hu => ?_, fun row q a b c f v t => ?_, fun x x0 x1 => by rw [e 6 _ (by omega)]; exact hF x x0 x1, fun u v a b c f g k => by rw [so, so]; exact hO u v a b c f g k⟩
  · rw [e 13 u (by omega)] at pu
    rw [eat, e 5 _ (by omega), e 7 _ (by omega), e 13 u (by omega)]
    exact ⟨(hA u u0 u1 pu).1, fun i i0 i1 => by rw [e 8 _ (by omega)]; exact (hA u u0 u1 pu).2 i i0 i1⟩
  · rw [e 5 _ (by omega)] at a
    rw [e 7 _ (by omega)]
    exact ⟨(hC.1 u u0 u1 a).1, fun i i0 i1 => by rw [e 8 _ (by omega)]; exact (hC.1 u u0 u1 a).2 i i0 i1⟩
  · unfold gVal at v
    rw [e 5 _ (by omega), e 6 _ (by omega)] at v
    rw [e 7 _ (by omega)] at t ⊢
    obtain ⟨p, p0, p1, p2⟩ := hC.2 row q a b c f v t
    exact ⟨p, p0, p1, fun i i0 i1 => by rw [e 8 _ (by omega)]; exact p2 i i0 i1⟩
  · rw [e 5 _ (by omega)] at hu
    rw [e 13 u (by omega)]
    exact hH u u0 u1 hu
  · unfold gVal at v
    rw [e 5 _ (by omega), e 6 _ (by omega)] at v
    rw [e 7 _ (by omega)] at t ⊢
    obtain ⟨p, p0, p1, p2⟩ := hS row q a b c f v t
    exact ⟨p, p0, p1, by rw [e 13 _ (by omega), e 5 _ (by omega)]; exact p2⟩
theorem vDeep.of {d w r s : Int} {C : Int → Int → Int} {O : Int → Int} {H H' : zHp} (h : vDeep d w r C O H s) (e : ∀ q i, (q = 5 ∨ q = 6 ∨ q = 7 ∨ q = 13) → H' q i = H q i) : vDeep d w r C O H' s := by
  obtain ⟨d1, d2, ⟨d3, d4⟩, d5⟩ := h
  refine ⟨(gSound_of (e 13 s (by omega)) (fun c => e 5 c (by omega)) (fun c => e 6 c (by omega))).mpr d1, fun u => ?_, ⟨d3, fun x x0 x1 a b => ?_⟩, d5⟩
  · rw [e 13 _ (by omega)] at u ⊢
    rw [e 5 _ (by omega), e 7 _ (by omega)]
    exact d2 u
  · rw [e 5 _ (by omega)] at a
    rw [e 7 _ (by omega)] at b ⊢
    exact d4 x x0 x1 a b
/-- the volume's part stays where its cells stay -/
def kVo (H H' : zHp) : Prop := (∀ q i, (q = 4 ∨ q = 5 ∨ q = 6 ∨ q = 7 ∨ q = 8 ∨ q = 9 ∨ q = 13 ∨ (q = 3 ∧ (i = 10 ∨ i = 11))) → H' q i = H q i)
def kMv (M M' : zHp) : Prop := (∀ q i, (q = 37 ∨ q = 38 ∨ q = 39 ∨ q = 40 ∨ q = 41 ∨ (q = 35 ∧ (i = 12 ∨ i = 13 ∨ i = 14 ∨ i = 19 ∨ i = 20))) → M' q i = M q i)
theorem vS.keep {d w r : Int} {C : Int → Int → Int} {H H' M M' : zHp} (h : vS d w r C H M) (e : kVo H H') (e' : kMv M M') : vS d w r C H' M' := by
  obtain ⟨⟨hB, hL, hP⟩, hK, hR, ⟨on, nc⟩, pl⟩ := h
  refine ⟨⟨hB.of (fun q i hq => e q i (by omega)), hL.of (fun q i hq => e q i (by omega)), hP⟩, hK.of (fun q i hq => e q i (by omega)) (fun q i hq => e' q i (by omega)), hR.of (fun i hi => e 3 i (by omega)) (fun i hi => e' 35 i (by omega)), ⟨by rw [e' 35 12 (by omega)]; exact on, by rw [e' 35 20 (by omega)]; exact nc⟩, fun s s0 s1 => ?_⟩
  rw [e 13 _ (by omega), pl s s0 s1]
  exact (mPs_of on (by rw [e' 35 12 (by omega)]; exact on) (fun i => e' 41 i (by omega))).symm
theorem vCut.of {d w r : Int} {C : Int → Int → Int} {O : Int → Int} {H H' M M' : zHp} (h : vCut d w r C O H M) (e : ∀ q i, (q = 5 ∨ q = 6 ∨ q = 7 ∨ q = 13) → H' q i = H q i) (e' : ∀ i, (i = 19 ∨ i = 20) → M' 35 i = M 35 i) : vCut d w r C O H' M' := by
  rcases h with ⟨a, b⟩ | ⟨a, b, c, f⟩
  · exact Or.inl ⟨by rw [e' 20 (by omega)]; exact a, b⟩
  · rw [← e' 19 (by omega)] at b c
    exact Or.inr ⟨by rw [e' 20 (by omega)]; exact a, b, c.of e, f.of e⟩
theorem vOf.keep {d w r : Int} {C : Int → Int → Int} {O : Int → Int} {H H' M M' : zHp} (h : vOf d w r C O H M) (e : ∀ q i, (q = 4 ∨ q = 5 ∨ q = 6 ∨ q = 7 ∨ q = 8 ∨ q = 9 ∨ q = 13) → H' q i = H q i) (e' : ∀ q i, (q = 37 ∨ q = 38 ∨ q = 39 ∨ q = 40 ∨ (q = 35 ∧ (i = 19 ∨ i = 20))) → M' q i = M q i) : vOf d w r C O H' M' := by
  obtain ⟨⟨hB, hL, hx, hu⟩, hf, hK, hc⟩ := h
  refine ⟨⟨hB.of (fun q i hq => e q i (by omega)), hL.of (fun q i hq => e q i (by omega)), hx.imp (fun u => u.of (fun q i hq => e q i (by omega))) (fun u => u.of (fun q i hq => e q i (by omega))), hu.of (fun q i hq => e q i (by omega))⟩, fun s s0 s1 => ?_, hK.of (fun q i hq => e q i (by omega)) (fun q i hq => e' q i (by omega)), hc.of (fun q i hq => e q i (by omega)) (fun i hi => e' 35 i (by omega))⟩
  rw [e 13 _ (by omega), hf s s0 s1]
  exact (gFound_congr (fun i => e 5 i (by omega)) (fun i => e 6 i (by omega)) (fun i => e 7 i (by omega))).symm
theorem rOn.keep {d w r : Int} {C : Int → Int → Int} {H H' M M' : zHp} (h : rOn d w r C H M) (e : kVo H H') (e' : kMv M M') (eT : kTr H H') (eM : kMt M M') (e11 : H' 0 11 = H 0 11) : rOn d w r C H' M' := by
  obtain ⟨h1, h2, h3, h4, h5⟩ := h
  have f43 : M' 43 = M 43 := funext (fun i => eM 43 i (by omega))
  refine ⟨h1.keep e e', ?_, h3.keep eT eM, ?_, by rw [e11]; exact h5⟩
  · rw [f43]; exact h2
  · rw [f43]; exact h4
theorem vRev_of {M M' : zHp} (e' : ∀ q i, (q = 43 ∨ q = 44 ∨ (q = 35 ∧ i = 19)) → M' q i = M q i) : vRev M' = vRev M := by
  funext j
  unfold vRev
  rw [e' 35 19 (by omega), e' 44 _ (by omega), e' 43 _ (by omega)]
theorem rOff.keep {d w r : Int} {C : Int → Int → Int} {O : Int → Int} {H H' M M' : zHp} (h : rOff d w r C O H M) (e : ∀ q i, (q = 4 ∨ q = 5 ∨ q = 6 ∨ q = 7 ∨ q = 8 ∨ q = 9 ∨ q = 13 ∨ (q = 0 ∧ i = 11)) → H' q i = H q i) (e' : ∀ q i, (q = 37 ∨ q = 38 ∨ q = 39 ∨ q = 40 ∨ q = 43 ∨ q = 44 ∨ (q = 35 ∧ (i = 12 ∨ i = 19 ∨ i = 20))) → M' q i = M q i) (hL : rL H' M') : rOff d w r C O H' M' := by
  obtain ⟨h1, h2, h3, h4, h5, h6⟩ := h
  have f43 : M' 43 = M 43 := funext (fun i => e' 43 i (by omega))
  refine ⟨h1.keep (fun q i hq => e q i (by omega)) (fun q i hq => e' q i (by omega)), hL, ⟨by rw [e' 35 12 (by omega)]; exact h3.1, by rw [e 0 11 (by omega)]; exact h3.2⟩, by rw [f43]; exact h4, by rw [f43]; exact h5, fun u => ?_⟩
  rw [e' 35 20 (by omega)] at u
  rw [e' 35 19 (by omega), vRev_of (fun q i hq => e' q i (by omega))]
  exact h6 u
theorem rCm.keep {d w r : Int} {t t' : Nat} {L : Int → Int} {H H' M M' : zHp} (h : rCm d w r t L H M) (e : ∀ q i, q < 35 → H' q i = H q i) (e' : ∀ q i, 35 ≤ q → q < 54 → ¬ (q = 35 ∧ i = 0) → M' q i = M q i) : rCm d w r t' L H' M' := by
  obtain ⟨⟨h1, h2, h3⟩, ⟨a1, a2, a3⟩, ⟨b1, b2, b3⟩, c1, c2⟩ := h
  refine ⟨⟨h1.keep (fun q i hq => e q i (by omega)) (fun q i hq => by rw [e q i (by omega)]; exact h1.1.2.2.2 q i (by omega)), h2.of (fun i hi => e' 35 i (by decide) (by decide) (by omega)) (fun i => e' 36 i (by decide) (by decide) (by omega)), h3.1, fun i i0 i1 => by rw [e (-8) i (by decide)]; exact h3.2 i i0 i1⟩, ?_, ?_, by rw [e 18 8 (by decide)]; exact c1, fun b b0 b1' => by rw [e 23 b (by decide)]; exact c2 b b0 b1'⟩
  · rw [e 0 10 (by decide), e' 35 17 (by decide) (by decide) (by decide)]
    exact ⟨a1, a2, fun k k0 k1 => by rw [e' 42 k (by decide) (by decide) (by omega), e 33 k (by decide)]; exact a3 k k0 k1⟩
  · rw [e 16 4 (by decide), e 16 5 (by decide), e' 35 15 (by decide) (by decide) (by decide)]
    exact ⟨b1, b2, b3⟩
theorem rAll.keep {d w r : Int} {t t' : Nat} {L : Int → Int} {H H' M M' : zHp} (h : rAll d w r t L H M) (e : ∀ q i, q < 35 → H' q i = H q i) (e' : ∀ q i, 35 ≤ q → q < 54 → ¬ (q = 35 ∧ i = 0) → M' q i = M q i) : rAll d w r t' L H' M' := by
  obtain ⟨h1, h2⟩ := h
  refine ⟨h1.keep e e', ?_⟩
  rcases h2 with ⟨C, h2⟩ | ⟨C, O, h2⟩
  · exact Or.inl ⟨C, h2.keep (fun q i hq => e q i (by omega)) (fun q i hq => e' q i (by omega) (by omega) (by omega)) (fun q i hq => e q i (by omega)) (fun q i hq => e' q i (by omega) (by omega) (by omega)) (e 0 11 (by decide))⟩
  · exact Or.inr ⟨C, O, h2.keep (fun q i hq => e q i (by omega)) (fun q i hq => e' q i (by omega) (by omega) (by omega)) (h2.2.1.of (fun i hi => e 3 i (by decide)) (fun i hi => e' 35 i (by decide) (by decide) (by omega)))⟩
/-- ahead of every call, and behind it -/
def rI (S : zS) : Prop := ∃ d w r, rAll d w r S.1 S.2.1 S.2.2 S.2.2
def rP (S : zS) : Prop := rI S ∧ zhR S
theorem zEnds_rg2 {md m pc : Nat} {ls st : List zV} {S : zS} {Qr Qt : Int → zS → Prop} (hl : zlR ls) (hs : zlR st) (hS : zhR S) (h : zEnds md m pc ls st S Qr Qt) : zEnds md m pc ls st S (fun v S' => Qr v S' ∧ zhR S' ∧ zrR m v) (fun c S' => Qt c S' ∧ zhR S') := by
  obtain ⟨n, c, v, S', e, hq⟩ := h
  have q := zex_r n _ _ _ _ _ _ _ _ hl hs hS e
  refine ⟨n, c, v, S', e, ?_⟩
  rcases hq with hq | hq
  · exact Or.inl ⟨hq.1, hq.2, q.1, q.2 hq.1⟩
  · exact Or.inr ⟨hq.1, hq.2, q.1⟩
theorem zrR.l {m : Nat} {v : Int} (h : zrR m v) (hm : (zmi m).isSome = true) : z64 v = v := by
  cases e : zmi m with
  | none => rw [e] at hm; cases hm
  | some q =>
    obtain ⟨tags, ml, rt⟩ := q
    have a := h tags ml rt e
    by_cases c : rt = 1
    · exact a.1 c
    · have b := a.2 c
      unfold z32 at b
      unfold z64
      omega
theorem zhR.t {t t' : Nat} {L : Int → Int} {H : zHp} (h : zhR (t, L, H)) : zhR (t', L, H) := h
section COK
variable {t : Nat} {L : Int → Int} {H X : zHp} {hd cm mm : Nat} {ca ma : List zV} {K KT : Int → zHp → Prop}
theorem fC.x {H1 : zHp} (hX : lR X H) (h : fC H H1) : lR X H1 := fun j => by rw [h (-7) j (Or.inr (by decide))]; exact hX j
theorem fM.x {H1 : zHp} (hX : lR X H) (h : fM H H1) : lR X H1 := fun j => by rw [h (-7) j (Or.inl (by decide))]; exact hX j
theorem cOK_of (ht : 118 ≤ t) (hX : lR X H) (hz : zhR (t, L, H)) (hca : zlR ca) (hma : zlR ma) (hmi : (zmi cm).isSome = true)
    (hC : zEnds 80 cm 0 ca [] (t, L, H) (fun v S1 => ∃ H1, S1 = (t, L, H1) ∧ fC H H1 ∧ K v H1) (fun c S1 => ∃ H1, S1 = (t, L, H1) ∧ fC H H1 ∧ KT c H1))
    (hM : ∀ v H1, fC H H1 → K v H1 → zEnds 118 mm 0 ma [] (t, L, zupd H1 54 0 v) (fun b S2 => b = v ∧ ∃ H2, S2 = (t, L, H2) ∧ fM (zupd H1 54 0 v) H2 ∧ H2 35 0 = 0 ∧ rI (t, L, H2)) (fun _ _ => False))
    (hT : ∀ c H1, fC H H1 → KT c H1 → ∃ k, zhd hd c = some k ∧ k ≠ 0 ∧ zEnds 118 mm 0 ma [] (t + 1, L, H1) (fun _ S2 => ∃ H2, S2 = (t + 1, L, H2) ∧ fM H1 H2 ∧ H2 35 0 = k ∧ rI (t + 1, L, H2)) (fun _ _ => False)) : cOK rP hd cm ca mm ma X t L H := by
  refine (zEnds_md h80 (by show 80 ≤ t; omega) (zEnds_rg2 hca (fun x hx => by cases hx) hz hC)).imp (fun v S1 h => ?_) (fun c S1 h => ?_)
  · obtain ⟨⟨H1, e, f, k⟩, zr, vr⟩ := h
    subst e
    have fx := fC.x hX f
    have lx : lR X (zupd H1 54 0 v) := fun j => by rw [zupd_ne (by decide)]; exact fx j
    have zr2 : zhR (t, L, zupd H1 54 0 v) := zr.upd rfl rfl (fun _ => vr.l hmi) (fun u => absurd u (by decide))
    refine ⟨H1, rfl, fx, (zEnds_md h118 (by show 118 ≤ t; omega) (zEnds_rg hma (fun x hx => by cases hx) zr2 (hM v H1 f k))).imp (fun b S2 h2 => ?_) (fun _ _ u => u.1)⟩
    obtain ⟨⟨eb, H2, e2, f2, t0, p⟩, z2⟩ := h2
    subst e2
    exact ⟨H2, rfl, fM.x lx f2, t0, by rw [f2 54 0 (Or.inr (by decide)), zupd_at], eb, p, z2⟩
  · obtain ⟨⟨H1, e, f, k⟩, zr⟩ := h
    subst e
    have fx := fC.x hX f
    obtain ⟨k', a, b, c'⟩ := hT c H1 f k
    refine ⟨H1, k', rfl, fx, a, b, (zEnds_md h118 (by show 118 ≤ t + 1; omega) (zEnds_rg hma (fun x hx => by cases hx) (S := (t + 1, L, H1)) zr c')).imp (fun b S2 h2 => ?_) (fun _ _ u => u.1)⟩
    obtain ⟨⟨H2, e2, f2, t0, p⟩, z2⟩ := h2
    subst e2
    exact ⟨H2, rfl, fM.x fx f2, t0, p, z2⟩
theorem cOKb_of (ht : 118 ≤ t) (hX : lR X H) (hz : zhR (t, L, H)) (hca : zlR ca) (hma : zlR ma) (hmi : (zmi cm).isSome = true)
    (hC : zEnds 80 cm 0 ca [] (t, L, H) (fun v S1 => (v = 0 ∨ v = 1) ∧ ∃ H1, S1 = (t, L, H1) ∧ fC H H1 ∧ K v H1) (fun c S1 => ∃ H1, S1 = (t, L, H1) ∧ fC H H1 ∧ KT c H1))
    (hM : ∀ v H1, fC H H1 → K v H1 → zEnds 118 mm 0 ma [] (t, L, zupd H1 54 0 v) (fun b S2 => b = v ∧ ∃ H2, S2 = (t, L, H2) ∧ fM (zupd H1 54 0 v) H2 ∧ H2 35 0 = 0 ∧ rI (t, L, H2)) (fun _ _ => False))
    (hT : ∀ c H1, fC H H1 → KT c H1 → ∃ k, zhd hd c = some k ∧ k ≠ 0 ∧ zEnds 118 mm 0 ma [] (t + 1, L, H1) (fun _ S2 => ∃ H2, S2 = (t + 1, L, H2) ∧ fM H1 H2 ∧ H2 35 0 = k ∧ rI (t + 1, L, H2)) (fun _ _ => False)) : cOKb rP hd cm ca mm ma X t L H := by
  refine (zEnds_md h80 (by show 80 ≤ t; omega) (zEnds_rg2 hca (fun x hx => by cases hx) hz hC)).imp (fun v S1 h => ?_) (fun c S1 h => ?_)
  · obtain ⟨⟨v01, H1, e, f, k⟩, zr, vr⟩ := h
    subst e
    have fx := fC.x hX f
    have lx : lR X (zupd H1 54 0 v) := fun j => by rw [zupd_ne (by decide)]; exact fx j
    have zr2 : zhR (t, L, zupd H1 54 0 v) := zr.upd rfl rfl (fun _ => vr.l hmi) (fun u => absurd u (by decide))
    refine ⟨H1, rfl, fx, v01, (zEnds_md h118 (by show 118 ≤ t; omega) (zEnds_rg hma (fun x hx => by cases hx) zr2 (hM v H1 f k))).imp (fun b S2 h2 => ?_) (fun _ _ u => u.1)⟩
    obtain ⟨⟨eb, H2, e2, f2, t0, p⟩, z2⟩ := h2
    subst e2
    exact ⟨H2, rfl, fM.x lx f2, t0, by rw [f2 54 0 (Or.inr (by decide)), zupd_at], eb, p, z2⟩
  · obtain ⟨⟨H1, e, f, k⟩, zr⟩ := h
    subst e
    have fx := fC.x hX f
    obtain ⟨k', a, b, c'⟩ := hT c H1 f k
    refine ⟨H1, k', rfl, fx, a, b, (zEnds_md h118 (by show 118 ≤ t + 1; omega) (zEnds_rg hma (fun x hx => by cases hx) (S := (t + 1, L, H1)) zr c')).imp (fun b S2 h2 => ?_) (fun _ _ u => u.1)⟩
    obtain ⟨⟨H2, e2, f2, t0, p⟩, z2⟩ := h2
    subst e2
    exact ⟨H2, rfl, fM.x fx f2, t0, p, z2⟩
theorem cOKv_of (ht : 118 ≤ t) (hX : lR X H) (hz : zhR (t, L, H)) (hca : zlR ca) (hma : zlR ma)
    (hC : zEnds 80 cm 0 ca [] (t, L, H) (fun v S1 => ∃ H1, S1 = (t, L, H1) ∧ fC H H1 ∧ K v H1) (fun c S1 => ∃ H1, S1 = (t, L, H1) ∧ fC H H1 ∧ KT c H1))
    (hM : ∀ v H1, fC H H1 → K v H1 → zEnds 118 mm 0 ma [] (t, L, H1) (fun _ S2 => ∃ H2, S2 = (t, L, H2) ∧ fM H1 H2 ∧ H2 35 0 = 0 ∧ rI (t, L, H2)) (fun _ _ => False))
    (hT : ∀ c H1, fC H H1 → KT c H1 → ∃ k, zhd hd c = some k ∧ k ≠ 0 ∧ zEnds 118 mm 0 ma [] (t + 1, L, H1) (fun _ S2 => ∃ H2, S2 = (t + 1, L, H2) ∧ fM H1 H2 ∧ H2 35 0 = k ∧ rI (t + 1, L, H2)) (fun _ _ => False)) : cOKv rP hd cm ca mm ma X t L H := by
  refine (zEnds_md h80 (by show 80 ≤ t; omega) (zEnds_rg hca (fun x hx => by cases hx) hz hC)).imp (fun v S1 h => ?_) (fun c S1 h => ?_)
  · obtain ⟨⟨H1, e, f, k⟩, zr⟩ := h
    subst e
    have fx := fC.x hX f
    refine ⟨H1, rfl, fx, (zEnds_md h118 (by show 118 ≤ t; omega) (zEnds_rg hma (fun x hx => by cases hx) zr (hM v H1 f k))).imp (fun b S2 h2 => ?_) (fun _ _ u => u.1)⟩
    obtain ⟨⟨H2, e2, f2, t0, p⟩, z2⟩ := h2
    subst e2
    exact ⟨H2, rfl, fM.x fx f2, t0, p, z2⟩
  · obtain ⟨⟨H1, e, f, k⟩, zr⟩ := h
    subst e
    have fx := fC.x hX f
    obtain ⟨k', a, b, c'⟩ := hT c H1 f k
    refine ⟨H1, k', rfl, fx, a, b, (zEnds_md h118 (by show 118 ≤ t + 1; omega) (zEnds_rg hma (fun x hx => by cases hx) (S := (t + 1, L, H1)) zr c')).imp (fun b S2 h2 => ?_) (fun _ _ u => u.1)⟩
    obtain ⟨⟨H2, e2, f2, t0, p⟩, z2⟩ := h2
    subst e2
    exact ⟨H2, rfl, fM.x fx f2, t0, p, z2⟩
end COK
/-- ranges of arguments -/
theorem za_i {x : Int} (h : z32 x = x) {l : List zV} (hl : zlR l) : zlR ((0, x) :: l) := zl_c (zv_i h) hl
theorem za_l {x : Int} (h : z64 x = x) {l : List zV} (hl : zlR l) : zlR ((1, x) :: l) := zl_c (zv_l h) hl
theorem za_9 {l : List zV} (hl : zlR l) : zlR ((9, 0) :: l) := zl_c zv_9 hl
theorem za_0 : zlR [] := fun x hx => by cases hx
theorem za_c {l : List zV} (hl : zlR l) : zlR ((20, 0) :: l) := zl_c ⟨fun u => absurd u (show (20 : Nat) ≠ 0 by decide), fun u => absurd u (show (20 : Nat) ≠ 1 by decide), fun _ => ⟨fun u => absurd u (by decide), fun u => absurd u (show (20 : Nat) ≠ 11 by decide)⟩⟩ hl
theorem za_m {l : List zV} (hl : zlR l) : zlR ((29, 35) :: l) := zl_c ⟨fun u => absurd u (show (29 : Nat) ≠ 0 by decide), fun u => absurd u (show (29 : Nat) ≠ 1 by decide), fun _ => ⟨fun u => absurd u (by decide), fun u => absurd u (show (29 : Nat) ≠ 11 by decide)⟩⟩ hl
