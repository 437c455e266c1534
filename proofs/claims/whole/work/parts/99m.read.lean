/-! read. -/
section READ
variable {d w r : Int} {t : Nat} {L : Int → Int} {H M X : zHp} {Qr Qt : Int → zS → Prop} {C : Int → Int → Int}
theorem gW34 : gWd 34 := Or.inr (Or.inr (Or.inr (Or.inr (Or.inr (Or.inr (Or.inr rfl))))))
/-- what the volume has of a block in use that is not changed is what the image has -/
theorem rOn.seen {G : zHp} {b : Int} (hk : gOK d w r) (hg : gI d w r t L H) (h : rOn d w r C H M) (hb : 25 ≤ b ∧ b < r * gGr d w * (w - 1)) (ho : 0 < M 46 b) (nc : ¬ iCh (zB8 H 19) H b) : ∀ j, 0 ≤ j → j < 8 → C (gSo w b) j = H 19 (8 * b + j) := fun j j0 j1 => by
  obtain ⟨h1, h2, ⟨⟨e1, e2⟩, e3, e4, -⟩, -⟩ := h
  have bl := gBl_le hk
  have mt : mT (zB8 H 19) b := (e1.2.1 b (by omega) (by omega)).mpr ⟨hb.2, ho⟩
  rw [← e3 b j hb.1 hb.2 j0 j1]
  by_cases m : H 22 b = 0
  · exact (e4 b hb.1 hb.2 m ho j j0 j1).symm
  · apply Classical.byContradiction
    intro z
    exact nc ⟨m, mt, j, j0, j1, fun y => z y.symm⟩
theorem vS.ld {b wd at' : Int} (hk : gOK d w r) (h : vS d w r C H M) (hb : 0 ≤ b ∧ b < r * gGr d w * (w - 1)) (hw : gWd wd) : ∀ i, 0 ≤ i → i < 8 → gLd d w r H wd at' (gSo w b) wd (at' + i) = C (gSo w b) i := by
  obtain ⟨⟨hB, hL, hP⟩, -⟩ := h
  obtain ⟨hs, -⟩ := gSo_rg hk hb
  have st := gStripe hk hs
  refine v_ld hk hB.1.2 hB.2.2.2.2 (hP _ st.1 st.2.2.2 ?_) hB.1.1 hs hw
  have := Int.mul_ediv_add_emod (gSo w b) w
  rw [show gSo w b - gSo w b % w = 0 + w * (gSo w b / w) by omega, Int.add_mul_emod_self_left]
  rfl
/-- DiskPool.see -/
theorem c_see {G : zHp} {b : Int} (h : rAll d w r t L H M) (hn : rOn d w r C H M) (e : ∀ q i, q ≠ 34 → G q i = H q i) (hb : 25 ≤ b ∧ b < r * gGr d w * (w - 1)) (ho : 0 < M 46 b) (hQ : ∀ K, (∀ q i, q ≠ 34 → K q i = H q i) → (∀ j, 0 ≤ j → j < 64 → zB8 K 34 j = zB8 H 19 (64 * b + j)) → Qr 0 (t, L, K)) : zEnds 80 178 0 [(20, 0), (0, b)] [] (t, L, G) Qr Qt := by
  have hk := h.1.1.1.1.1
  have bl := gBl_le hk
  have l34 : L 34 = 8 := h.1.1.1.1.2.1.2.2.2.2.2.2.2.2.2.2.2.2.2.2
  have l19 : L 19 = 8 * (r * gGr d w * (w - 1)) := h.1.1.1.1.2.1.2.2.1
  have cG : rCm d w r t L G M := h.1.keep2 (h.1.1.1.of gW34 e) (fun q i hq => e q i (by omega)) (fun _ _ _ => rfl)
  have nG : rOn d w r C G M := hn.keep (fun q i hq => e q i (by omega)) (fun _ _ _ => rfl) (fun q i hq => e q i (by omega)) (fun _ _ _ => rfl) (e 0 11 (by decide))
  have z19 : ∀ j, zB8 G 19 j = zB8 H 19 j := fun j => by unfold zB8; rw [e 19 _ (by decide)]
  refine v_178 (i_isChanged cG.s ⟨by omega, hb.2⟩ (fun u => ⟨fun z => absurd z (by decide), fun _ => v_82 ⟨?_, hQ _ (fun q i hq => ?_) (fun j j0 j1 => ?_)⟩⟩) (fun u => ⟨fun _ => g_load cG.1.1.1 cG.1.1.2 ⟨by omega, hb.2⟩ gW34 (by omega) (hQ _ (fun q i hq => by rw [gLd_ne hq]; exact e q i hq) (fun j j0 j1 => ?_)), fun z => absurd rfl z⟩))
  · rw [z32_id (x := 8 * b) (by omega) (by omega)]
    exact ⟨by decide, by omega, by decide, by show 8 * b + 8 ≤ L 19; omega, by show 0 + 8 ≤ L 34; omega, by decide⟩
  · show zcpy G 19 (z32 (8 * b)) 34 0 8 q i = H q i
    rw [zcpy_ne hq]; exact e q i hq
  · rw [← z19]
    unfold zB8
    show zcpy G 19 (z32 (8 * b)) 34 0 8 34 (j / 8) % _ / _ % _ = _
    unfold zcpy
    rw [if_pos ⟨rfl, by omega, by omega⟩, z32_id (x := 8 * b) (by omega) (by omega), show 8 * b + (j / 8 - 0) = (64 * b + j) / 8 by omega, show (64 * b + j) % 8 = j % 8 by omega]
  · have q1 := nG.1.ld (at' := 0) hk (b := b) ⟨by omega, hb.2⟩ gW34 (j / 8) (by omega) (by omega)
    have q2 := nG.seen (G := G) hk cG.1.1 hb ho u (j / 8) (by omega) (by omega)
    rw [← z19]
    unfold zB8
    rw [show j / 8 = 0 + j / 8 by omega, q1, q2, show 8 * b + j / 8 = (64 * b + j) / 8 by omega, show (64 * b + j) % 8 = j % 8 by omega]
/-- bytes as a number -/
def rdF (A : aSt) (x off : Int) : Nat → Int → Int → Int
  | 0, _, acc => acc
  | n + 1, k, acc => rdF A x off n (k + 1) (zlor acc (zlshl (aGet A x (off + k)) (8 * k)))
theorem q_read (ht : 118 ≤ t) (hX : lR X H) (hz : zhR (t, L, H)) (h : rAll d w r t L H H) (x y : Int) (hx : z32 x = x) (hy : z32 y = y) : cOK rP 271 151 [(20, 0), (0, x), (0, y), (9, 0), (9, 0), (9, 0), (9, 0), (9, 0)] 256 [(29, 35), (0, x), (0, y), (9, 0), (9, 0), (9, 0)] X t L H := by
  have hk := h.1.1.1.1.1
  have bl := gBl_le hk
  have bg := gBl_ge hk
  refine cOK_rel (Q := fun M v H1 => (0 ≤ x ∧ x ≤ 63) ∧ H 0 11 = 1 ∧ (0 ≤ y ∧ y < M 45 (20 * x + 1)) ∧ (∀ q i, q ≠ 34 → H1 q i = H q i) ∧ v = rdF (mTr M) x y (if y + 8 ≤ M 45 (20 * x + 1) then 8 else M 45 (20 * x + 1) - y).toNat 0 0) (TT := fun c => (c = 1 ∧ ¬ (0 ≤ x ∧ x ≤ 63)) ∨ (c = 2 ∧ (0 ≤ x ∧ x ≤ 63) ∧ H 0 11 = 0) ∨ (c = 3 ∧ (0 ≤ x ∧ x ≤ 63) ∧ H 0 11 = 1 ∧ ∀ M, rAll d w r t L H M → ¬ (0 ≤ y ∧ y < M 45 (20 * x + 1)))) ht hX hz h (za_c (za_i hx (za_i hy (za_9 (za_9 (za_9 (za_9 (za_9 za_0)))))))) (za_m (za_i hx (za_i hy (za_9 (za_9 (za_9 za_0)))))) rfl (fun M hM => ?_) (fun v H1 M hM q => ?_) (fun c q => ?_)
  · refine v_151 (k_inode ht (fun cx => k_on2 ht (fun u => ?_) (fun u => ⟨rfl, Or.inr (Or.inl ⟨rfl, cx, u⟩)⟩)) (fun cx => ⟨rfl, Or.inl ⟨rfl, cx⟩⟩))
    have on : H 0 11 = 1 := by rcases hM.on with z | z <;> omega
    obtain ⟨C, hn⟩ := hM.ison on
    have hE := hn.e.1 x cx.1 (by omega)
    have hg := hn.g
    have ki := hg.1.1.1 x cx.1 (by omega)
    have hS := hg.1.s
    have szl := hg.1.le ⟨bg, bl⟩ (i := x) ⟨cx.1, by omega⟩
    have sz : ∀ M', rAll d w r t L H M' → M' 45 (20 * x + 1) = M 45 (20 * x + 1) := fun M' hM' => by
      obtain ⟨C', hn'⟩ := hM'.ison on
      have hE' := hn'.e.1 x cx.1 (by omega)
      have k' : 0 ≤ M' 45 (20 * x + 1) ∧ M' 45 (20 * x + 1) ≤ 65535 := (hn'.g.1.1.1 x cx.1 (by omega)).2.1
      have k : 0 ≤ M 45 (20 * x + 1) ∧ M 45 (20 * x + 1) ≤ 65535 := ki.2.1
      have a1 : M' 45 (20 * x + 1) % 256 = M 45 (20 * x + 1) % 256 := hE'.2.2.1.symm.trans hE.2.2.1
      have a2 : M' 45 (20 * x + 1) / 256 % 256 = M 45 (20 * x + 1) / 256 % 256 := hE'.2.2.2.1.symm.trans hE.2.2.2.1
      omega
    refine n_size hM.1.s hE (by omega) ki.2.1 ⟨fun u => ⟨ht, by decide, rfl, Or.inr (Or.inr ⟨rfl, cx, on, fun M' hM' z => by omega⟩)⟩, fun y0 => ⟨fun y1 => ?_, fun y1 => ⟨ht, by decide, rfl, Or.inr (Or.inr ⟨rfl, cx, on, fun M' hM' z => y1 (by show y < M 45 (20 * x + 1); rw [← sz M' hM']; exact z.2)⟩)⟩⟩⟩
    have y1 : y < M 45 (20 * x + 1) := y1
    have szl : 0 ≤ M 45 (20 * x + 1) ∧ M 45 (20 * x + 1) ≤ 45376 := szl
    show zEnds 80 151 53 [(20, 0), (0, x), (0, y), (9, 0), (0, if z32 (y + 8) ≤ M 45 (20 * x + 1) then z32 (y + 8) else M 45 (20 * x + 1)), (1, 0), (9, 0), (0, y)] [] (t, L, H) _ _
    rw [z32_id (x := y + 8) (by omega) (by omega)]
    have eE : (if y + 8 ≤ M 45 (20 * x + 1) then y + 8 else M 45 (20 * x + 1)) = y + (if y + 8 ≤ M 45 (20 * x + 1) then 8 else M 45 (20 * x + 1) - y) := by
      by_cases c : y + 8 ≤ M 45 (20 * x + 1)
      · rw [if_pos c, if_pos c]
      · rw [if_neg c, if_neg c]; omega
    have nr : 1 ≤ (if y + 8 ≤ M 45 (20 * x + 1) then 8 else M 45 (20 * x + 1) - y) ∧ (if y + 8 ≤ M 45 (20 * x + 1) then 8 else M 45 (20 * x + 1) - y) ≤ 8 ∧ y + (if y + 8 ≤ M 45 (20 * x + 1) then 8 else M 45 (20 * x + 1) - y) ≤ M 45 (20 * x + 1) := by
      by_cases c : y + 8 ≤ M 45 (20 * x + 1)
      · rw [if_pos c]; omega
      · rw [if_neg c]; omega
    rw [eE]
    generalize hN : (if y + 8 ≤ M 45 (20 * x + 1) then 8 else M 45 (20 * x + 1) - y) = N at nr
    have tot := (hg.1.2 x cx.1 (by omega)).1
    have key : ∀ (n : Nat) (k acc : Int) (G : zHp), 0 ≤ k → k + n = N → (∀ q i, q ≠ 34 → G q i = H q i) → (0 < k → ∀ j, 0 ≤ j → j < 64 → zB8 G 34 j = aGet (mTr M) x (64 * ((y + k - 1) / 64) + j)) → rdF (mTr M) x y n k acc = rdF (mTr M) x y N.toNat 0 0 → zEnds 80 151 53 [(20, 0), (0, x), (0, y), (9, 0), (0, y + N), (1, acc), (9, 0), (0, y + k)] [] (t, L, G) (fun v S1 => ∃ H1, S1 = (t, L, H1) ∧ fC H H1 ∧ (0 ≤ x ∧ x ≤ 63) ∧ H 0 11 = 1 ∧ (0 ≤ y ∧ y < M 45 (20 * x + 1)) ∧ (∀ q i, q ≠ 34 → H1 q i = H q i) ∧ v = rdF (mTr M) x y N.toNat 0 0) (fun c S1 => S1 = (t, L, H) ∧ ((c = 1 ∧ ¬ (0 ≤ x ∧ x ≤ 63)) ∨ (c = 2 ∧ (0 ≤ x ∧ x ≤ 63) ∧ H 0 11 = 0) ∨ (c = 3 ∧ (0 ≤ x ∧ x ≤ 63) ∧ H 0 11 = 1 ∧ ∀ M, rAll d w r t L H M → ¬ (0 ≤ y ∧ y < M 45 (20 * x + 1))))) := by
      intro n
      induction n with
      | zero =>
        intro k acc G k0 k1 e _ ea
        exact v_151_53 ⟨fun _ => ⟨G, rfl, fun q i hq => e q i (by omega), cx, on, by omega, e, ea⟩, fun u => absurd (by omega) u⟩
      | succ n ih =>
        intro k acc G k0 k1 e es ea
        have l34 : L 34 = 8 := hM.1.1.1.1.2.1.2.2.2.2.2.2.2.2.2.2.2.2.2.2
        have ez : z32 (y + k + 1) = y + (k + 1) := by rw [z32_id (by omega) (by omega)]; omega
        have ek : z32 (8 * z32 (y + k - y)) = 8 * k := by rw [z32_id (x := y + k - y) (by omega) (by omega), show y + k - y = k by omega]; exact z32_id (by omega) (by omega)
        have cG : rCm d w r t L G M := hM.1.keep2 (hM.1.1.1.of gW34 e) (fun q i hq => e q i (by omega)) (fun _ _ _ => rfl)
        have eG : aE (r * gGr d w * (w - 1)) (mTr M) (zB8 G 19) := by
          have : zB8 G 19 = zB8 H 19 := by funext j; unfold zB8; rw [e 19 _ (by decide)]
          rw [this]; exact hn.e
        have bk := hS.blk (i := x) (k := (y + k) / 64) ⟨cx.1, by omega⟩ ⟨by omega, by show 64 * ((y + k) / 64) < M 45 (20 * x + 1); omega⟩
        -- a step, once the block is seen
        have step : ∀ K : zHp, (∀ q i, q ≠ 34 → K q i = H q i) → (∀ j, 0 ≤ j → j < 64 → zB8 K 34 j = aGet (mTr M) x (64 * ((y + k) / 64) + j)) → zEnds 80 0 0 [(11, 34), (0, 0), (0, zrem (y + k) 64)] [] (t, L, K) (fun v3 S3 => zEnds 80 151 53 [(20, 0), (0, x), (0, y), (9, 0), (0, y + N), (1, zlor acc (zlshl v3 (z32 (8 * (z32 (y + k - y)))))), (9, 0), (0, z32 (y + k + 1))] [] S3 (fun v S1 => ∃ H1, S1 = (t, L, H1) ∧ fC H H1 ∧ (0 ≤ x ∧ x ≤ 63) ∧ H 0 11 = 1 ∧ (0 ≤ y ∧ y < M 45 (20 * x + 1)) ∧ (∀ q i, q ≠ 34 → H1 q i = H q i) ∧ v = rdF (mTr M) x y N.toNat 0 0) (fun c S1 => S1 = (t, L, H) ∧ ((c = 1 ∧ ¬ (0 ≤ x ∧ x ≤ 63)) ∨ (c = 2 ∧ (0 ≤ x ∧ x ≤ 63) ∧ H 0 11 = 0) ∨ (c = 3 ∧ (0 ≤ x ∧ x ≤ 63) ∧ H 0 11 = 1 ∧ ∀ M, rAll d w r t L H M → ¬ (0 ≤ y ∧ y < M 45 (20 * x + 1)))))) (fun c S1 => S1 = (t, L, H) ∧ ((c = 1 ∧ ¬ (0 ≤ x ∧ x ≤ 63)) ∨ (c = 2 ∧ (0 ≤ x ∧ x ≤ 63) ∧ H 0 11 = 0) ∨ (c = 3 ∧ (0 ≤ x ∧ x ≤ 63) ∧ H 0 11 = 1 ∧ ∀ M, rAll d w r t L H M → ¬ (0 ≤ y ∧ y < M 45 (20 * x + 1))))) := fun K eK bK => by
          rw [zrem_pos (by omega)]
          refine s_one (by decide) (by omega) (by show 8 * 0 + (y + k) % 64 < 8 * L 34; omega) (by show L 34 ≤ 1000000; omega) ?_
          rw [show 8 * 0 + (y + k) % 64 = (y + k) % 64 by omega, ez, ek]
          show zEnds 80 151 53 [(20, 0), (0, x), (0, y), (9, 0), (0, y + N), (1, zlor acc (zlshl (zB8 K 34 ((y + k) % 64)) (8 * k))), (9, 0), (0, y + (k + 1))] [] (t, L, K) _ _
          rw [bK _ (by omega) (by omega), show 64 * ((y + k) / 64) + (y + k) % 64 = y + k by omega]
          refine ih (k + 1) _ K (by omega) (by omega) eK (fun _ j j0 j1 => by rw [show y + (k + 1) - 1 = y + k by omega]; exact bK j j0 j1) ?_
          rw [← ea]
          rfl
        have see : zEnds 80 113 0 [(26, 26), (0, x), (0, zdiv (y + k) 64), (9, 0), (9, 0), (9, 0), (9, 0)] [] (t, L, G) (fun v1 S1 => zEnds 80 178 0 [(20, 0), (0, v1)] [] S1 (fun v2 S2 => ((64 : Int) ≠ 0) ∧ zEnds 80 0 0 [(11, 34), (0, 0), (0, zrem (y + k) 64)] [] S2 (fun v3 S3 => zEnds 80 151 53 [(20, 0), (0, x), (0, y), (9, 0), (0, y + N), (1, zlor acc (zlshl v3 (z32 (8 * (z32 (y + k - y)))))), (9, 0), (0, z32 (y + k + 1))] [] S3 (fun v S1 => ∃ H1, S1 = (t, L, H1) ∧ fC H H1 ∧ (0 ≤ x ∧ x ≤ 63) ∧ H 0 11 = 1 ∧ (0 ≤ y ∧ y < M 45 (20 * x + 1)) ∧ (∀ q i, q ≠ 34 → H1 q i = H q i) ∧ v = rdF (mTr M) x y N.toNat 0 0) (fun c S1 => S1 = (t, L, H) ∧ ((c = 1 ∧ ¬ (0 ≤ x ∧ x ≤ 63)) ∨ (c = 2 ∧ (0 ≤ x ∧ x ≤ 63) ∧ H 0 11 = 0) ∨ (c = 3 ∧ (0 ≤ x ∧ x ≤ 63) ∧ H 0 11 = 1 ∧ ∀ M, rAll d w r t L H M → ¬ (0 ≤ y ∧ y < M 45 (20 * x + 1)))))) (fun c S1 => S1 = (t, L, H) ∧ ((c = 1 ∧ ¬ (0 ≤ x ∧ x ≤ 63)) ∨ (c = 2 ∧ (0 ≤ x ∧ x ≤ 63) ∧ H 0 11 = 0) ∨ (c = 3 ∧ (0 ≤ x ∧ x ≤ 63) ∧ H 0 11 = 1 ∧ ∀ M, rAll d w r t L H M → ¬ (0 ≤ y ∧ y < M 45 (20 * x + 1)))))) (fun c S1 => S1 = (t, L, H) ∧ ((c = 1 ∧ ¬ (0 ≤ x ∧ x ≤ 63)) ∨ (c = 2 ∧ (0 ≤ x ∧ x ≤ 63) ∧ H 0 11 = 0) ∨ (c = 3 ∧ (0 ≤ x ∧ x ≤ 63) ∧ H 0 11 = 1 ∧ ∀ M, rAll d w r t L H M → ¬ (0 ≤ y ∧ y < M 45 (20 * x + 1)))))) (fun c S1 => S1 = (t, L, H) ∧ ((c = 1 ∧ ¬ (0 ≤ x ∧ x ≤ 63)) ∨ (c = 2 ∧ (0 ≤ x ∧ x ≤ 63) ∧ H 0 11 = 0) ∨ (c = 3 ∧ (0 ≤ x ∧ x ≤ 63) ∧ H 0 11 = 1 ∧ ∀ M, rAll d w r t L H M → ¬ (0 ≤ y ∧ y < M 45 (20 * x + 1))))) := by
          rw [zdiv_pos (by omega) (by omega) (by decide)]
          refine n_blockOf cG.s (eG.1 x cx.1 (by omega)) ki ⟨cx.1, by omega⟩ (by omega) (c_see hM hn e ⟨by omega, bk.1.2⟩ (by have := bk.2; show 0 < M 46 _; have e2 : M 46 (aBlk (mTr M).1 x ((y + k) / 64)) = x + 1 := this; omega) (fun K eK bK => ⟨by decide, step K eK (fun j j0 j1 => ?_)⟩))
          rw [bK j j0 j1]
          exact hn.e.get hS ⟨cx.1, by omega⟩ ⟨by omega, by show 64 * ((y + k) / 64) < M 45 (20 * x + 1); omega⟩ ⟨j0, j1⟩
        refine v_151_53 ⟨fun u => by omega, fun _ => ⟨fun u => ⟨by decide, see⟩, fun u => ⟨by decide, fun v => ⟨by decide, step G e (fun j j0 j1 => ?_)⟩, fun v => ⟨by decide, see⟩⟩⟩⟩
        rw [zrem_pos (by omega)] at v
        rw [es (by omega) j j0 j1, show (y + k - 1) / 64 = (y + k) / 64 by omega]
    have := key N.toNat 0 0 H (by omega) (by omega) (fun _ _ _ => rfl) (fun u => by omega) rfl
    rw [Int.add_zero] at this
    exact this
  · obtain ⟨cx, on, cy, e, ev⟩ := q
    have hM1 : rAll d w r t L H (zupd M 35 0 0) := hM.up
    have onM : zupd M 35 0 0 35 12 = 1 := by rcases hM1.on with z | z <;> omega
    obtain ⟨C, hn⟩ := hM1.ison on
    have hA : mA d w r (zupd M 35 0 0) (mTr (zupd M 35 0 0)) L (zupd M 35 0 0) := hM1.1.1.2.1.a
    have hg := hn.g
    have ki := hg.1.1.1 x cx.1 (by omega)
    have szl := hg.1.le ⟨bg, bl⟩ (i := x) ⟨cx.1, by omega⟩
    have tot := (hg.1.2 x cx.1 (by omega)).1
    have fin : rAll d w r t L H1 (zupd M 35 0 0) := by
      refine ⟨hM1.1.keep2 (hM1.1.1.1.of gW34 e) (fun q i hq => e q i (by omega)) (fun _ _ _ => rfl), Or.inl ⟨C, hn.keep (fun q i hq => e q i (by omega)) (fun _ _ _ => rfl) (fun q i hq => e q i (by omega)) (fun _ _ _ => rfl) (e 0 11 (by decide))⟩⟩
    rw [← mTr_up (k := 0)] at ev
    have e45 : (mTr (zupd M 35 0 0)).1 (20 * x + 1) = M 45 (20 * x + 1) := by rw [mTr_up]; rfl
    rw [e45] at szl tot
    have kind0 : (mTr (zupd M 35 0 0)).1 (20 * x) ≠ 0 := fun z => by
      have := (hg.2.2.2.1 x cx.1 (by omega) z).1
      rw [e45] at this
      omega
    refine j_256 (m_isBad (fun _ => m_f0 ⟨fun u => absurd rfl u, fun _ => ⟨fun _ => j_256_25 (m_f0 ⟨fun u => absurd rfl u, fun _ => ?_⟩), fun u => absurd (by show zupd M 35 0 0 35 12 ≠ 0; omega) u⟩⟩) (fun u => absurd cx u))
    rw [zupd_zupd]
    refine m_kind hA ⟨cx.1, by omega⟩ ⟨fun u => absurd u kind0, fun _ => m_sizeOf hA ⟨cx.1, by omega⟩ ?_⟩
    rw [e45, z32_id (x := M 45 (20 * x + 1) - 1) (by omega) (by omega)]
    refine m_in (fun _ => ⟨fun _ => j_256_61 (m_f0 ⟨fun _ => ?_, fun u => absurd rfl u⟩), fun u => absurd (by decide) u⟩) (fun u => absurd (by omega) u)
    rw [zupd_zupd]
    have nr : 1 ≤ (if y + 8 ≤ M 45 (20 * x + 1) then 8 else M 45 (20 * x + 1) - y) ∧ (if y + 8 ≤ M 45 (20 * x + 1) then 8 else M 45 (20 * x + 1) - y) ≤ 8 ∧ y + (if y + 8 ≤ M 45 (20 * x + 1) then 8 else M 45 (20 * x + 1) - y) ≤ M 45 (20 * x + 1) ∧ ((if y + 8 ≤ M 45 (20 * x + 1) then 8 else M 45 (20 * x + 1) - y) = 8 ∨ y + (if y + 8 ≤ M 45 (20 * x + 1) then 8 else M 45 (20 * x + 1) - y) = M 45 (20 * x + 1)) := by
      by_cases c : y + 8 ≤ M 45 (20 * x + 1)
      · rw [if_pos c]; omega
      · rw [if_neg c]; omega
    generalize (if y + 8 ≤ M 45 (20 * x + 1) then 8 else M 45 (20 * x + 1) - y) = N at nr ev
    have key : ∀ (n : Nat) (k acc : Int), 0 ≤ k → k + n = N → rdF (mTr (zupd M 35 0 0)) x y n k acc = v → zEnds 118 256 75 [(29, 35), (0, x), (0, y), (1, acc), (9, 0), (0, k)] [] (t, L, zupd M 35 0 0) (fun b S2 => b = v ∧ ∃ H2, S2 = (t, L, H2) ∧ fM M H2 ∧ H2 35 0 = 0 ∧ rAll d w r t L H1 H2) (fun _ _ => False) := by
      intro n
      induction n with
      | zero =>
        intro k acc k0 k1 ea
        have done : zEnds 118 256 119 [(29, 35), (0, x), (0, y), (1, acc), (9, 0), (0, k)] [] (t, L, zupd M 35 0 0) (fun b S2 => b = v ∧ ∃ H2, S2 = (t, L, H2) ∧ fM M H2 ∧ H2 35 0 = 0 ∧ rAll d w r t L H1 H2) (fun _ _ => False) := j_256_119 ⟨ea, _, rfl, fM.rfl'.upd (by decide), zupd_at, fin⟩
        refine j_256_75 ⟨fun _ => done, fun u => m_sizeOf hA ⟨cx.1, by omega⟩ ⟨fun _ => done, fun u2 => absurd ?_ u2⟩⟩
        rw [e45, z32_id (x := y + k) (by omega) (by omega)]
        omega
      | succ n ih =>
        intro k acc k0 k1 ea
        refine j_256_75 ⟨fun u => by omega, fun u => m_sizeOf hA ⟨cx.1, by omega⟩ ⟨fun u2 => absurd u2 ?_, fun u2 => ?_⟩⟩
        · rw [e45, z32_id (x := y + k) (by omega) (by omega)]
          omega
        · rw [z32_id (x := y + k) (by omega) (by omega)]
          refine m_get hA ki bl ⟨cx.1, by omega⟩ (by omega) ?_
          rw [z32_id (x := 8 * k) (by omega) (by omega), z32_id (x := k + 1) (by omega) (by omega)]
          exact ih (k + 1) _ (by omega) (by omega) ea
    exact key N.toNat 0 0 (by omega) (by omega) ev.symm
  · rcases q with ⟨e, c⟩ | ⟨e, c, off⟩ | ⟨e, cx, on, cy⟩
    · exact ⟨1, by rw [e]; rfl, by decide, fun t' ht' => j_256 (m_isBad (fun u => absurd u c) (fun _ => m_f1 ⟨fun _ => j_256_68 rfl, fun u => absurd (by decide) u⟩))⟩
    · have offM : H 35 12 = 0 := by rcases h.on with z | z <;> omega
      exact ⟨2, by rw [e]; rfl, by decide, fun t' ht' => j_256 (m_isBad (fun _ => m_f0 ⟨fun u => absurd rfl u, fun _ => ⟨fun u => absurd (by show zupd H 35 0 0 35 12 = 0; rw [zupd_no (by decide)]; exact offM) u, fun _ => j_256_25 (m_f1 ⟨fun _ => j_256_68 (by rw [zupd_zupd]), fun u => absurd (by decide) u⟩)⟩⟩) (fun u => absurd c u))⟩
    · have cy := cy H h
      have hM1 : rAll d w r t L H (zupd H 35 0 0) := h.up
      obtain ⟨C, hn⟩ := hM1.ison on
      have onM : zupd H 35 0 0 35 12 = 1 := by rcases hM1.on with z | z <;> omega
      have hA : mA d w r (zupd H 35 0 0) (mTr (zupd H 35 0 0)) L (zupd H 35 0 0) := hM1.1.1.2.1.a
      have szl := hn.g.1.le ⟨bg, bl⟩ (i := x) ⟨cx.1, by omega⟩
      have e45 : (mTr (zupd H 35 0 0)).1 (20 * x + 1) = H 45 (20 * x + 1) := by rw [mTr_up]; rfl
      rw [e45] at szl
      have yr : -2147483648 ≤ y ∧ y ≤ 2147483647 := by unfold z32 at hy; omega
      refine ⟨3, by rw [e]; rfl, by decide, fun t' ht' => j_256 (m_isBad (fun _ => m_f0 ⟨fun u => absurd rfl u, fun _ => ⟨fun _ => j_256_25 (m_f0 ⟨fun u => absurd rfl u, fun _ => ?_⟩), fun u => absurd (by show zupd H 35 0 0 35 12 ≠ 0; omega) u⟩⟩) (fun u => absurd cx u))⟩
      rw [zupd_zupd]
      have q : zEnds 118 256 56 [(29, 35), (0, x), (0, y), (9, 0), (9, 0), (9, 0)] [(29, 35)] (t', L, zupd H 35 0 0) (fun _ S2 => S2 = (t', L, zupd H 35 0 3)) (fun _ _ => False) := j_256_56 (j_256_61 (m_f1 ⟨fun u => absurd u (by decide), fun _ => j_256_68 (by rw [zupd_zupd])⟩))
      refine m_kind hA ⟨cx.1, by omega⟩ ⟨fun _ => q, fun _ => m_sizeOf hA ⟨cx.1, by omega⟩ ?_⟩
      rw [e45, z32_id (x := H 45 (20 * x + 1) - 1) (by omega) (by omega)]
      exact m_in (fun u => absurd (by omega) cy) (fun _ => ⟨fun u => absurd rfl u, fun _ => q⟩)
end READ
