/-! The reference: blocks given back, sizes, entries added, makes. -/
section MSIZE
variable {d w r : Int} {t : Nat} {L : Int → Int} {H G : zHp} {Qr Qt : Int → zS → Prop} {N O W : Int → Int} {i k v s : Int} {A : aSt}
theorem m_gives {B : Int} (h : mA d w r G A L H) (ha : aN B A.1) (hB : B ≤ 768) (hi : 0 ≤ i ∧ i < 64) (hc0 : 0 < A.1 (20 * i + 2)) (hQ : ∀ H', mA d w r G (aGive A i) L H' → Qr 0 (t, L, H')) : zEnds 118 229 0 [(29, 35), (0, i), (9, 0), (9, 0)] [] (t, L, H) Qr Qt := by
  obtain ⟨N, O, W⟩ := A
  have hA : aI B N i := ha i hi.1 hi.2
  have hc := hA.2.2.1
  have hl := h.l
  have eN : ∀ j, 0 ≤ j → j < 1280 → H 45 j = N j := h.2.1
  have hc0 : 0 < N (20 * i + 2) := hc0
  have hx := hA.2.2.2 (N (20 * i + 2) - 1) (by omega) (by omega)
  have hG1 : 0 < N (20 * i + 4 + 2 * (N (20 * i + 2) - 1)) - 1 → aGive (N, O, W) i = (bU N (20 * i + 4 + 2 * (N (20 * i + 2) - 1)) (N (20 * i + 4 + 2 * (N (20 * i + 2) - 1)) - 1), bU O (N (20 * i + 3 + 2 * (N (20 * i + 2) - 1)) + (N (20 * i + 4 + 2 * (N (20 * i + 2) - 1)) - 1)) 0, W) := fun z => by
    unfold aGive
    dsimp only
    rw [if_pos z]
  have hG2 : ¬ 0 < N (20 * i + 4 + 2 * (N (20 * i + 2) - 1)) - 1 → aGive (N, O, W) i = (bU (bU (bU N (20 * i + 4 + 2 * (N (20 * i + 2) - 1)) 0) (20 * i + 3 + 2 * (N (20 * i + 2) - 1)) 0) (20 * i + 2) (N (20 * i + 2) - 1), bU O (N (20 * i + 3 + 2 * (N (20 * i + 2) - 1)) + (N (20 * i + 4 + 2 * (N (20 * i + 2) - 1)) - 1)) 0, W) := fun z => by
    unfold aGive
    dsimp only
    rw [if_neg z]
  generalize aGive (N, O, W) i = A' at hQ hG1 hG2
  refine v_229 ?_
  dsimp only
  rw [z32_id (x := 20 * i) (by omega) (by omega), z32_id (x := 20 * i + 2) (by omega) (by omega), z32_id (x := 20 * i + 3) (by omega) (by omega), z32_id (x := 20 * i + 4) (by omega) (by omega), eN (20 * i + 2) (by omega) (by omega), z32_id (x := N (20 * i + 2) - 1) (by omega) (by omega), z32_id (x := 2 * (N (20 * i + 2) - 1)) (by omega) (by omega), z32_id (x := 20 * i + 3 + 2 * (N (20 * i + 2) - 1)) (by omega) (by omega), z32_id (x := 20 * i + 4 + 2 * (N (20 * i + 2) - 1)) (by omega) (by omega), eN (20 * i + 4 + 2 * (N (20 * i + 2) - 1)) (by omega) (by omega)]
  have ef := eN (20 * i + 3 + 2 * (N (20 * i + 2) - 1)) (by omega) (by omega)
  have ec := eN (20 * i + 2) (by omega) (by omega)
  generalize hcc : N (20 * i + 2) = c at hc hc0 hx hG1 hG2 ef ec ⊢
  generalize hff : N (20 * i + 3 + 2 * (c - 1)) = f at hx hG1 hG2 ef ⊢
  generalize hll : N (20 * i + 4 + 2 * (c - 1)) = l at hx hG1 hG2 ⊢
  have q3 : ∀ v, zupd H 45 (20 * i + 4 + 2 * (c - 1)) v 45 (20 * i + 3 + 2 * (c - 1)) = f := fun v => by rw [zupd_no (by omega), ef]
  rw [z32_id (x := l - 1) (by omega) (by omega), q3, zupd_at, z32_id (x := f + (l - 1)) (by omega) (by omega)]
  have q5 : zupd (zupd H 45 (20 * i + 4 + 2 * (c - 1)) (l - 1)) 46 (f + (l - 1)) 0 45 (20 * i + 4 + 2 * (c - 1)) = l - 1 := by rw [zupd_ne (by decide), zupd_at]
  have q6 : zupd (zupd (zupd H 45 (20 * i + 4 + 2 * (c - 1)) (l - 1)) 46 (f + (l - 1)) 0) 45 (20 * i + 3 + 2 * (c - 1)) 0 45 (20 * i + 2) = c := by rw [zupd_no (by omega), zupd_ne (by decide), zupd_no (by omega), ec]
  rw [q5, q6, z32_id (x := c - 1) (by omega) (by omega)]
  refine ⟨by omega, by omega, by omega, by omega, by omega, by omega, by omega, fun z => ⟨by omega, by omega, by omega, hQ _ ?_⟩, fun z => hQ _ ?_⟩
  · rw [hG2 (by omega)]
    have g : mA d w r G (bU (bU (bU N (20 * i + 4 + 2 * (c - 1)) (l - 1)) (20 * i + 3 + 2 * (c - 1)) 0) (20 * i + 2) (c - 1), bU O (f + (l - 1)) 0, W) L (zupd (zupd (zupd (zupd H 45 (20 * i + 4 + 2 * (c - 1)) (l - 1)) 46 (f + (l - 1)) 0) 45 (20 * i + 3 + 2 * (c - 1)) 0) 45 (20 * i + 2) (c - 1)) := h.nd.od.nd.nd
    rw [show l - 1 = 0 by omega] at g ⊢
    exact g
  · rw [hG1 (by omega)]
    exact h.nd.od
theorem aTake_P {B i : Int} {A A' : aSt} (hP : aP A.2.1) (hi : 0 ≤ i) (ha : aN B A.1) (hi2 : i < 64) (h : aTake B A i = some A') : aP A'.2.1 := by
  obtain ⟨N, O, W⟩ := A
  have key : ∀ b, aP (bU O b (i + 1)) := fun b => ⟨fun x x0 x1 => by
    by_cases c : x = b
    · rw [c, bU_at]; omega
    · rw [bU_ne c]; exact hP.1 x x0 x1, fun x x0 x1 => by
    by_cases c : x = b
    · rw [c, bU_at]; omega
    · rw [bU_ne c]; exact hP.2 x x0 x1⟩
  unfold aTake at h
  by_cases g : aGrow B (N, O, W) i
  · rw [if_pos g] at h
    rw [← Option.some.inj h]
    exact key _
  · rw [if_neg g] at h
    by_cases c : aLeast B O = -1 ∨ 8 ≤ N (20 * i + 2)
    · rw [if_pos c] at h; cases h
    · rw [if_neg c] at h
      rw [← Option.some.inj h]
      exact key _
theorem m_sizes (h : mA d w r G A L H) (ha : aN (r * gGr d w * (w - 1)) A.1) (hP : aP A.2.1) (hB : 96 ≤ r * gGr d w * (w - 1)) (hi : 0 ≤ i ∧ i < 64) (hs : 0 ≤ s ∧ s ≤ 65535) (ht : aTot A.1 i = (A.1 (20 * i + 1) + 63) / 64)
    (h0 : aRes (r * gGr d w * (w - 1)) A i s = none → ∀ A' H', mA d w r G A' L H' → Qr 0 (t, L, H')) (h1 : ∀ A' H', aRes (r * gGr d w * (w - 1)) A i s = some A' → mA d w r G A' L H' → Qr 1 (t, L, H')) : zEnds 118 230 0 [(29, 35), (0, i), (0, s), (9, 0), (9, 0), (9, 0)] [] (t, L, H) Qr Qt := by
  have hB2 := gBl_le h.1.1
  have hA0 := ha i hi.1 hi.2
  have hs0 := hA0.2.1
  generalize hsz : A.1 (20 * i + 1) = s0 at hs0 ht h1 h0
  have hres : ∀ A1, aTakeN (r * gGr d w * (w - 1)) i ((s + 63) / 64 - (s0 + 63) / 64).toNat A = some A1 → aRes (r * gGr d w * (w - 1)) A i s = some (aFit (aGiveN i ((s0 + 63) / 64 - (s + 63) / 64).toNat A1) i s) := fun A1 u => by
    unfold aRes
    rw [hsz, u]
  have hres0 : aTakeN (r * gGr d w * (w - 1)) i ((s + 63) / 64 - (s0 + 63) / 64).toNat A = none → aRes (r * gGr d w * (w - 1)) A i s = none := fun u => by
    unfold aRes
    rw [hsz, u]
  have fin : ∀ (A2 : aSt) (H2 : zHp) (f : Int), mA d w r G A2 L H2 → aN (r * gGr d w * (w - 1)) A2.1 → (f = 0 ∨ f = 1) → (f = 0 → aRes (r * gGr d w * (w - 1)) A i s = none) → (f = 1 → aTot A2.1 i = (s + 63) / 64 ∧ aRes (r * gGr d w * (w - 1)) A i s = some (aFit A2 i s)) → zEnds 118 230 67 [(29, 35), (0, i), (9, 0), (0, (s + 63) / 64), (0, f), (0, s)] [] (t, L, zupd H2 45 (20 * i + 1) s) Qr Qt := by
    intro A2 H2 f g ga hf g0 g1
    obtain ⟨N, O, W⟩ := A2
    have gA : aI (r * gGr d w * (w - 1)) N i := ga i hi.1 hi.2
    have gl := g.l
    have gn := g.nd (j := 20 * i + 1) (v := s)
    rcases hf with hf | hf
    · rw [hf]
      exact v_230_67 ⟨fun _ => ⟨Or.inl rfl, h0 (g0 hf) _ _ gn⟩, fun z => ⟨fun _ => ⟨Or.inl rfl, h0 (g0 hf) _ _ gn⟩, fun y => absurd rfl y⟩⟩
    · rw [hf]
      obtain ⟨gt, gr⟩ := g1 hf
      have gt : aTot N i = (s + 63) / 64 := gt
      have gA2 : aI (r * gGr d w * (w - 1)) (bU N (20 * i + 1) s) i := by
        obtain ⟨q1, q2, q3, q4⟩ := gA
        refine ⟨by rw [bU_ne (by omega)]; exact q1, by rw [bU_at]; exact hs, by rw [bU_ne (by omega)]; exact q3, fun e e1 e2 => ?_⟩
        rw [bU_ne (by omega)] at e2
        rw [bU_ne (by omega), bU_ne (by omega)]
        exact q4 e e1 e2
      have loop : ∀ (m : Nat) (k : Int) (H3 : zHp), s ≤ k → k + m = 64 * ((s + 63) / 64) → mA d w r G (bU N (20 * i + 1) s, O, bR W (64 * aBlk N i (s / 64) + s % 64) (64 * aBlk N i (s / 64) + s % 64 + (k - s))) L H3 → zEnds 118 230 67 [(29, 35), (0, i), (9, 0), (0, (s + 63) / 64), (0, 1), (0, k)] [] (t, L, H3) Qr Qt := by
        intro m
        induction m with
        | zero =>
          intro k H3 k0 k1 g3
          refine v_230_67 ⟨fun _ => ⟨Or.inr rfl, h1 _ H3 gr (g3.zero (fun j => ?_))⟩, fun z => absurd (by rw [z32_id (by omega) (by omega)]; omega) z⟩
          unfold aClr
          dsimp only
          by_cases c : s % 64 = 0
          · rw [if_pos c]
            unfold bR
            rw [if_neg (by omega)]
          · rw [if_neg c]
            unfold bR
            by_cases c2 : 64 * aBlk N i (s / 64) + s % 64 ≤ j ∧ j < 64 * aBlk N i (s / 64) + 64
            · rw [if_pos (by omega), if_pos c2]
            · rw [if_neg (by omega), if_neg c2]
        | succ m ih =>
          intro k H3 k0 k1 g3
          refine v_230_67 ⟨fun z => ?_, fun _ => ⟨fun z => absurd z (by decide), fun _ => m_put g3 gA2 hB2 hi ?_ (fun H4 g4 => ?_)⟩⟩
          · rw [z32_id (by omega) (by omega)] at z; omega
          · show 0 ≤ k ∧ k < 64 * aTot (bU N (20 * i + 1) s) i ∧ k ≤ 1000000
            rw [aTot_size gA.2.2.1.2, gt]
            omega
          · rw [z32_id (x := k + 1) (by omega) (by omega)]
            refine ih (k + 1) H4 (by omega) (by omega) (mA.zero g4 (fun j => ?_))
            dsimp only
            unfold aIx
            rw [aBlk_size gA.2.2.1.2, show k / 64 = s / 64 by omega]
            unfold bU bR
            by_cases c : j = 64 * aBlk N i (s / 64) + k % 64
            · rw [if_pos c, if_pos (by omega)]
            · rw [if_neg c]
              by_cases c2 : 64 * aBlk N i (s / 64) + s % 64 ≤ j ∧ j < 64 * aBlk N i (s / 64) + s % 64 + (k - s)
              · rw [if_pos c2, if_pos (by omega)]
              · rw [if_neg c2, if_neg (by omega)]
      refine loop (64 * ((s + 63) / 64) - s).toNat s _ (by omega) (by omega) (gn.zero (fun j => ?_))
      unfold bR
      rw [if_neg (by omega)]
  have give : ∀ (m : Nat) (A2 : aSt) (H2 : zHp) (f : Int), mA d w r G A2 L H2 → aN (r * gGr d w * (w - 1)) A2.1 → (f = 0 ∨ f = 1) → (f = 0 → m = 0 ∧ aTot A2.1 i ≤ (s + 63) / 64 ∧ aRes (r * gGr d w * (w - 1)) A i s = none) → (f = 1 → aTot A2.1 i = (s + 63) / 64 + m ∧ aRes (r * gGr d w * (w - 1)) A i s = some (aFit (aGiveN i m A2) i s)) → zEnds 118 230 35 [(29, 35), (0, i), (0, s), (0, (s + 63) / 64), (0, f), (9, 0)] [] (t, L, H2) Qr Qt := by
    intro m
    induction m with
    | zero =>
      intro A2 H2 f g ga hf g0 g1
      have gl := g.l
      refine v_230_35 (m_blocksOf g (ga i hi.1 hi.2) hi ⟨fun _ => ?_, fun z => absurd ?_ z⟩)
      · dsimp only
        rw [z32_id (x := 20 * i) (by omega) (by omega), z32_id (x := 20 * i + 1) (by omega) (by omega)]
        exact ⟨by omega, fin A2 H2 f g ga hf (fun u => (g0 u).2.2) (fun u => ⟨by have := (g1 u).1; omega, (g1 u).2⟩)⟩
      · rcases hf with u | u
        · have := g0 u; omega
        · have := (g1 u).1; omega
    | succ m ih =>
      intro A2 H2 f g ga hf g0 g1
      have hf1 : f = 1 := by
        rcases hf with u | u
        · have := g0 u; omega
        · exact u
      obtain ⟨gt, gr⟩ := g1 hf1
      have gA := ga i hi.1 hi.2
      have gc := aTot_pos gA (by omega)
      obtain ⟨q1, q2, -, q3, -⟩ := aGive_N ga hi gc
      refine v_230_35 (m_blocksOf g gA hi ⟨fun z => by omega, fun _ => m_gives g ga hB2 hi gc (fun H3 g3 => ih (aGive A2 i) H3 f g3 q1 hf (fun u => by omega) (fun _ => ⟨by omega, gr⟩))⟩)
  have take : ∀ (m : Nat) (A2 : aSt) (H2 : zHp), mA d w r G A2 L H2 → aN (r * gGr d w * (w - 1)) A2.1 → aP A2.2.1 → aTakeN (r * gGr d w * (w - 1)) i ((s + 63) / 64 - (s0 + 63) / 64).toNat A = aTakeN (r * gGr d w * (w - 1)) i m A2 → (m = 0 → (s + 63) / 64 ≤ aTot A2.1 i ∧ (aTot A2.1 i = (s0 + 63) / 64 ∨ aTot A2.1 i = (s + 63) / 64 ∧ (s0 + 63) / 64 ≤ (s + 63) / 64)) → (m ≠ 0 → aTot A2.1 i + m = (s + 63) / 64 ∧ (s0 + 63) / 64 ≤ (s + 63) / 64) → zEnds 118 230 11 [(29, 35), (0, i), (0, s), (0, (s + 63) / 64), (0, 1), (9, 0)] [] (t, L, H2) Qr Qt := by
    intro m
    induction m with
    | zero =>
      intro A2 H2 g ga gP gr k1 k2
      have k1 := k1 rfl
      have gr : aTakeN (r * gGr d w * (w - 1)) i ((s + 63) / 64 - (s0 + 63) / 64).toNat A = some A2 := gr
      exact v_230_11 ⟨fun z => absurd z (by decide), fun _ => m_blocksOf g (ga i hi.1 hi.2) hi ⟨fun _ => give ((s0 + 63) / 64 - (s + 63) / 64).toNat A2 H2 1 g ga (Or.inr rfl) (fun u => by omega) (fun _ => ⟨by omega, hres A2 gr⟩), fun z => absurd k1.1 z⟩⟩
    | succ m ih =>
      intro A2 H2 g ga gP gr k1 k2
      have k2 := k2 (by omega)
      refine v_230_11 ⟨fun z => absurd z (by decide), fun _ => m_blocksOf g (ga i hi.1 hi.2) hi ⟨fun z => by omega, fun _ => m_takes g ga gP hB hi (fun y => ?_) (fun A3 H3 y g3 => ?_)⟩⟩
      · have hn : aRes (r * gGr d w * (w - 1)) A i s = none := by
          refine hres0 ?_
          rw [gr]
          show (match aTake (r * gGr d w * (w - 1)) A2 i with | none => none | some A' => aTakeN (r * gGr d w * (w - 1)) i m A') = none
          rw [y]
        exact v_230_11 ⟨fun _ => give 0 A2 H2 0 g ga (Or.inl rfl) (fun _ => ⟨rfl, by omega, hn⟩) (fun u => by omega), fun z => absurd rfl z⟩
      · obtain ⟨q1, q2, -, q3, -⟩ := aTake_N ga hi y
        refine ih A3 H3 g3 q1 (aTake_P gP hi.1 ga hi.2 y) ?_ (fun u => by omega) (fun u => by omega)
        rw [gr]
        show (match aTake (r * gGr d w * (w - 1)) A2 i with | none => none | some A' => aTakeN (r * gGr d w * (w - 1)) i m A') = _
        rw [y]
  refine v_230 ?_
  rw [z32_id (x := s + 63) (by omega) (by omega), zdiv_pos (by omega) (by omega) (by decide)]
  exact ⟨by decide, take ((s + 63) / 64 - (s0 + 63) / 64).toNat A H h ha hP rfl (fun u => by omega) (fun u => by omega)⟩
end MSIZE
