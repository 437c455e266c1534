/-! The class as new: all of it. -/
theorem gFr.keep {d w r : Int} {H H' : zHp} (h : gFr d w r H) (e : ∀ q i, (q = 4 ∨ q = 5 ∨ q = 6 ∨ q = 7 ∨ q = 9 ∨ q = 13 ∨ (q = 3 ∧ i = 11)) → H' q i = H q i) : gFr d w r H' := by
  obtain ⟨⟨a1, a2, a3, a4, a5⟩, a6, a7, a8⟩ := h
  refine ⟨⟨by rw [e 3 11 (by omega)]; exact a1, fun c c0 c1 => by rw [e 5 c (by omega)]; exact a2 c c0 c1, fun c => by rw [e 6 c (by omega)]; exact a3 c, fun c => by rw [e 9 c (by omega)]; exact a4 c, fun c c0 c1 => by rw [e 4 c (by omega)]; exact a5 c c0 c1⟩, fun s s0 s1 => by rw [e 13 s (by omega)]; exact a6 s s0 s1, fun row pos b0 b1 b2 b3 => by rw [e 7 _ (by omega)]; exact a7 row pos b0 b1 b2 b3, fun x x0 x1 => by rw [e 7 _ (by omega)]; exact a8 x x0 x1⟩
theorem gDat.keep {d w r : Int} {V V' : Int → Int → Int} {H H' : zHp} (h : gDat d w r V H) (e : ∀ i, H' 8 i = H 8 i) (ev : ∀ b i, 0 ≤ i → i < 8 → V b i = V' b i) : gDat d w r V' H' := fun s i s0 s1 s2 i0 i1 => by
  rw [e, h s i s0 s1 s2 i0 i1]
  exact ev _ _ i0 i1
theorem gI.keep {d w r : Int} {t t' : Nat} {L : Int → Int} {H H' : zHp} (h : gI d w r t L H) (e : ∀ q i, (q = 1 ∨ q = 2 ∨ (q = 3 ∧ i ≤ 1) ∨ (q = 18 ∧ i = 1) ∨ q = 4 ∨ q = 5 ∨ q = 6 ∨ q = 13) → H' q i = H q i) (b : ∀ q i, (q = 22 ∨ q = 23 ∨ (q = 0 ∧ i = 11)) → H' q i = 0 ∨ H' q i = 1) : gI d w r t' L H' := by
  refine ⟨⟨h.1.1, h.1.2.1, h.1.2.2.1.keep (fun i => e 1 i (by omega)) (fun i => e 2 i (by omega)) (e 3 0 (by omega)) (e 3 1 (by omega)) (e 18 1 (by omega)), fun o i ho => ?_⟩, h.2.keep (fun i => e 13 i (by omega))⟩
  show H' o i = 0 ∨ H' o i = 1
  by_cases c : o = 22 ∨ o = 23 ∨ (o = 0 ∧ i = 11)
  · exact b o i c
  · rw [e o i (by omega)]
    exact h.1.2.2.2 o i ho
theorem gBl_ge {d w r : Int} (h : gOK d w r) : 96 ≤ r * gGr d w * (w - 1) := by
  obtain ⟨p1, p2, p3, p4⟩ := gPo_rg h
  obtain ⟨h1, h2, h3, h4, h5, h6, h7⟩ := h
  have a : 48 * 1 ≤ r * gGr d w := Int.mul_le_mul h6 p1 (by decide) (by omega)
  have b : 48 * 2 ≤ r * gGr d w * (w - 1) := Int.mul_le_mul (by omega) (by omega) (by decide) (by omega)
  omega
theorem gLen.i {d w r : Int} {L : Int → Int} (hk : gOK d w r) (h : gLen d w r L) : iLen (r * gGr d w * (w - 1)) L := by
  obtain ⟨-, -, l19, l20, l21, l22, l23, l24, l25, -⟩ := h
  exact ⟨⟨gBl_ge hk, gBl_le hk⟩, l19, l20, l21, l22, l23, l24, l25⟩
/-- the class as new; H0 is the heap ahead of its constructor -/
def kNew (d w r : Int) (L0 L : Int → Int) (H0 H : zHp) : Prop :=
  (gI d w r 80 L H ∧ gFr d w r H ∧ gDat d w r (fun b i => H 20 (8 * b + i)) H) ∧
  (aE (r * gGr d w * (w - 1)) nA0 (zB8 H 19) ∧ H 18 8 = 0 ∧ (∀ b, 0 ≤ b → b < r * gGr d w * (w - 1) → H 23 b = 0) ∧ (∀ b, 25 ≤ b → b < r * gGr d w * (w - 1) → H 22 b = 0) ∧ (∀ b j, 25 ≤ b → b < r * gGr d w * (w - 1) → 0 ≤ j → j < 8 → H 20 (8 * b + j) = H 19 (8 * b + j)) ∧ ∀ i, (i < 200 ∨ 472 ≤ i) → i < 8 * (r * gGr d w * (w - 1)) → H 20 i = 0) ∧
  (H 0 10 = 0 ∧ H 0 11 = 1 ∧ H 0 12 = 0 ∧ H 0 13 = 0 ∧ H 3 10 = 0 ∧ H 16 4 = 0 ∧ H 16 5 = 0 ∧ H 29 6 = 0) ∧
  (∀ o j, 35 ≤ o → H o j = 0) ∧ (∀ o j, o < 0 → H o j = H0 o j) ∧ ∀ o, o < 0 ∨ 35 ≤ o → L o = L0 o
theorem k_new {x1 x2 x3 : Int} {L : Int → Int} {H : zHp} {Qr Qt : Int → zS → Prop} (h0 : ∀ o j, 0 ≤ o → H o j = 0) (hQ : ∀ L' H', kNew (kD x1) (kW (kD x1) x2) (kR x3) L L' H H' → Qr 0 (80, L', H')) : zEnds 0 145 0 [(20, 0), (0, x1), (0, x2), (0, x3), (9, 0), (9, 0), (9, 0)] [] (1, L, H) Qr Qt := by
  refine k_class h0 (fun L' H' hm => ?_)
  obtain ⟨hS, h4, hz, h00, h3, hneg, hlen⟩ := hm
  refine zEnds_md (md := 80) (T := 80) (fun r ci k ft tg tm _ _ h => Nat.le_of_ble_eq_true h) (Nat.le_refl 80) ?_
  refine v_145_234 ?_
  generalize kD x1 = d at *
  generalize kW d x2 = w at *
  generalize kR x3 = r at *
  have hk := hS.1
  have hl := gLen.i hk hS.2.1
  obtain ⟨⟨hB0, hB1⟩, l19, -⟩ := hl
  have hl := gLen.i hk hS.2.1
  refine k_layOut hS (fun x x0 x1 => by rw [h4, if_pos ⟨x0, x1⟩]) (h3 11 (by decide) (by decide)) (fun o j ho => hz o j (by omega) (by omega)) (fun H1 i1 f1 z8 e1 e13 => ?_)
  have n1 : H1 18 1 = r * gGr d w * (w - 1) := i1.1.2.2.1.2.2.2.2
  generalize hBe : r * gGr d w * (w - 1) = B at *
  have l19' : L' 19 = 8 * B := hl.2.1
  have z1 : ∀ o j, 14 ≤ o → ¬ (o = 18 ∧ j = 1) → H1 o j = 0 := fun o j ho hj => by rw [e1 o j (by omega) (by omega) (by omega) (by omega) (by omega)]; exact hz o j (by omega) hj
  refine k_imageLay hl n1 (z1 18 8 (by decide) (by decide)) (fun o j ho => z1 o j (by omega) (by omega)) (fun β H2 g1 g2 g3 g4 g5 g6 gm g7 => ?_)
  have i2 : gI d w r 80 L' H2 := i1.keep (fun q i hq => g7 q i (by unfold iFr; omega)) (fun q i hq => by
    rcases hq with u | u | u
    · rw [u]; exact (g5 i).1
    · rw [u]; exact (g5 i).2
    · rw [u.1, u.2, g7 0 11 (by unfold iFr; omega), e1 0 11 (by decide) (by decide) (by decide) (by decide) (by decide)]; exact Or.inl (h00 11))
  have f2 : gFr d w r H2 := f1.keep (fun q i hq => g7 q i (by unfold iFr; omega))
  have d2 : gDat d w r (fun _ _ => 0) H2 := fun s i s0 s1 s2 j0 j1 => by rw [g7 8 _ (by unfold iFr; omega)]; exact z8 _
  refine k_store i2 f2 d2 (b := 25) (at' := 200) (by omega) (by omega) (fun H3 i3 f3 d3 e3 e33 => ?_)
  refine k_store i3 f3 d3 (b := 57) (at' := 456) (by omega) (by omega) (fun H4 i4 f4 d4 e4 e43 => ?_)
  have q4 : ∀ q i, q ≠ 3 → q ≠ 5 → q ≠ 7 → q ≠ 8 → q ≠ 14 → q ≠ 15 → H4 q i = H2 q i := fun q i c1 c2 c3 c4 c5 c6 => by rw [e4 q i c1 c2 c3 c4 c5 c6]; exact e3 q i c1 c2 c3 c4 c5 c6
  have p19 : ∀ i, H4 19 i = H2 19 i := fun i => q4 19 i (by decide) (by decide) (by decide) (by decide) (by decide) (by decide)
  have p22 : ∀ i, H4 22 i = H2 22 i := fun i => q4 22 i (by decide) (by decide) (by decide) (by decide) (by decide) (by decide)
  have p23 : ∀ i, H4 23 i = H2 23 i := fun i => q4 23 i (by decide) (by decide) (by decide) (by decide) (by decide) (by decide)
  have p20 : ∀ i, H4 20 i = 0 := fun i => by
    rw [q4 20 i (by decide) (by decide) (by decide) (by decide) (by decide) (by decide), g7 20 i (by unfold iFr; omega)]
    exact z1 20 i (by decide) (by omega)
  have s4 : fS H4 B 0 [] β L' H4 := ⟨hl, iT.rest (by rw [q4 18 1 (by decide) (by decide) (by decide) (by decide) (by decide) (by decide), g7 18 1 (by unfold iFr; omega)]; exact n1) (by rw [q4 18 8 (by decide) (by decide) (by decide) (by decide) (by decide) (by decide)]; exact g3) (fun b b0 b1 => by rw [p23]; exact g4 b b0 b1) (fun b => by rw [p22, p23]; exact g5 b), fun j hj => by
    rw [← g2 j hj]
    unfold zB8
    rw [p19]⟩
  refine k_settle s4 (fun H5 m1 m2 m3 m4 m5 => v_21 ⟨Or.inr rfl, ?_⟩)
  -- held where nothing was written
  have un : ∀ b j, 0 ≤ b → b < B → b ≠ 25 → b ≠ 57 → 0 ≤ j → j < 8 → H2 19 (8 * b + j) = 0 := fun b j b0 b1 n25 n57 j0 j1 => g6 b b0 b1 (gm b b0 b1 n25 n57) j j0 j1
  have tk : ∀ b, 25 ≤ b → b < B → (mT β b ↔ b < 59) := fun b b0 b1 => by
    rw [g1.2.1 b (by omega) (by omega)]
    show b < B ∧ 0 < nO0 b ↔ _
    unfold nO0
    by_cases c : b < 59
    · rw [if_pos ⟨by omega, c⟩]; omega
    · rw [if_neg (by omega)]; omega
  have s5 : ∀ b j, 25 ≤ b → b < 59 → 0 ≤ j → j < 8 → H5 20 (8 * b + j) = H2 19 (8 * b + j) := fun b j b0 b1 j0 j1 => by
    obtain ⟨y, n⟩ := m2 b j b0 (by omega) j0 j1
    by_cases c : iCh β H4 b
    · rw [y c, p19]
    · rw [n c, p20]
      by_cases c2 : H4 22 b = 0
      · rw [p22] at c2
        exact (g6 b (by omega) (by omega) c2 j j0 j1).symm
      · by_cases c3 : H4 19 (8 * b + j) = H4 20 (8 * b + j)
        · rw [p20, p19] at c3; exact c3.symm
        · exact absurd ⟨c2, (tk b b0 (by omega)).mpr b1, j, j0, j1, c3⟩ c
  have s6 : ∀ b j, 59 ≤ b → b < B → 0 ≤ j → j < 8 → H5 20 (8 * b + j) = 0 := fun b j b0 b1 j0 j1 => by
    rw [(m2 b j (by omega) b1 j0 j1).2 (fun c => by have := (tk b (by omega) b1).mp c.2.1; omega)]
    exact p20 _
  have k5 : ∀ q i, ¬ (q = 3 ∧ i = 10) → ¬ (q = 0 ∧ i = 11) → zupd (zupd H5 3 10 0) 0 11 1 q i = H5 q i := fun q i c1 c2 => by rw [zupd_no c2, zupd_no c1]
  have q5 : ∀ q i, q ≠ 3 → q ≠ 5 → q ≠ 7 → q ≠ 8 → q ≠ 14 → q ≠ 15 → q ≠ 20 → q ≠ 22 → H5 q i = H2 q i := fun q i c1 c2 c3 c4 c5 c6 c7 c8 => by rw [m5 q i c7 c8]; exact q4 q i c1 c2 c3 c4 c5 c6
  have z5 : ∀ q i, q ≠ 3 → q ≠ 5 → q ≠ 7 → q ≠ 8 → q ≠ 13 → q ≠ 14 → q ≠ 15 → q ≠ 20 → q ≠ 22 → iFr q i → H5 q i = H' q i := fun q i c1 c2 c3 c4 c4b c5 c6 c7 c8 c9 => by rw [q5 q i c1 c2 c3 c4 c5 c6 c7 c8, g7 q i c9, e1 q i c1 c2 c3 c4 c4b]
  show Qr 0 (80, L', zupd (zupd H5 3 10 0) 0 11 1)
  refine hQ L' (zupd (zupd H5 3 10 0) 0 11 1) ?_
  unfold kNew
  rw [hBe]
  refine ⟨⟨?_, ?_, ?_⟩, ⟨?_, ?_, ?_, ?_, ?_, ?_⟩, ⟨?_, ?_, ?_, ?_, ?_, ?_, ?_, ?_⟩, ?_, ?_, hlen⟩
  · refine i4.keep (fun q i hq => ?_) (fun q i hq => ?_)
    · rw [k5 q i (by omega) (by omega)]; exact m5 q i (by omega) (by omega)
    · rcases hq with u | u | u
      · rw [k5 q i (by omega) (by omega), u]
        rcases m4 i with v | v
        · exact Or.inl v
        · rw [v, p22]; exact (g5 i).1
      · rw [k5 q i (by omega) (by omega), u, m5 23 i (by decide) (by decide), p23]; exact (g5 i).2
      · rw [u.1, u.2, zupd_at]; exact Or.inr rfl
  · exact f4.keep (fun q i hq => by rw [k5 q i (by omega) (by omega)]; exact m5 q i (by omega) (by omega))
  · refine fun s i s0 s1 s2 j0 j1 => ?_
    show zupd (zupd H5 3 10 0) 0 11 1 8 (8 * gCe r (gHome d w s) (s / gPo d w) + i) = zupd (zupd H5 3 10 0) 0 11 1 20 (8 * gBk w s + i)
    rw [k5 8 _ (by omega) (by omega), m5 8 _ (by decide) (by decide), d4 s i s0 s1 s2 j0 j1, k5 20 _ (by omega) (by omega)]
    unfold vU
    by_cases c57 : gBk w s = 57
    · rw [if_pos c57, c57, s5 57 i (by decide) (by decide) j0 j1]
      exact e3 19 (456 + i) (by decide) (by decide) (by decide) (by decide) (by decide) (by decide)
    · rw [if_neg c57]
      by_cases c25 : gBk w s = 25
      · rw [if_pos c25, c25, s5 25 i (by decide) (by decide) j0 j1]
        rfl
      · rw [if_neg c25]
        have hb0 : 0 ≤ gBk w s ∧ gBk w s < B := by
          have hw := hk.2.2.1
          have e := Int.mul_ediv_add_emod s w
          have m0 := Int.emod_nonneg s (show w ≠ 0 by omega)
          have q0 : 0 ≤ s / w := Int.ediv_nonneg s0 (by omega)
          have q1 : s / w < r * gGr d w := by
            refine Int.ediv_lt_of_lt_mul (by omega) ?_
            have : r * gPo d w = r * gGr d w * w := by unfold gPo; rw [Int.mul_assoc, Int.mul_comm w]
            omega
          have q2 : (s / w + 1) * (w - 1) ≤ r * gGr d w * (w - 1) := Int.mul_le_mul_of_nonneg_right (by omega) (by omega)
          have q3 : (s / w + 1) * (w - 1) = s / w * (w - 1) + (w - 1) := by rw [Int.add_mul, Int.one_mul]
          have q4 : 0 ≤ s / w * (w - 1) := Int.mul_nonneg q0 (by omega)
          unfold gBk
          omega
        by_cases lo : gBk w s < 25
        · exact (by rw [m3 _ (by omega)]; exact p20 _ : H5 20 (8 * gBk w s + i) = 0).symm
        · by_cases hi : gBk w s < 59
          · rw [s5 _ i (by omega) hi j0 j1]
            exact (un _ i (by omega) (by omega) c25 c57 j0 j1).symm
          · exact (s6 _ i (by omega) (by omega) j0 j1).symm
  · have e8 : ∀ j, 0 ≤ j → zB8 (zupd (zupd H5 3 10 0) 0 11 1) 19 j = β j := fun j hj => by
      rw [← g2 j hj]
      unfold zB8
      rw [k5 19 _ (by omega) (by omega), q5 19 _ (by decide) (by decide) (by decide) (by decide) (by decide) (by decide) (by decide) (by decide)]
    refine ⟨fun i i0 i1 => ?_, fun b b0 b1 => ?_, fun b k b0 b1 b2 j0 j1 => ?_⟩
    · have u := g1.1 i i0 i1
      unfold eI at u ⊢
      rw [e8 _ (by omega), e8 _ (by omega), e8 _ (by omega), e8 _ (by omega), e8 _ (by omega)]
      refine ⟨u.1, u.2.1, u.2.2.1, u.2.2.2.1, u.2.2.2.2.1, fun e e0 e1 => ?_⟩
      rw [e8 _ (by omega), e8 _ (by omega), e8 _ (by omega)]
      exact u.2.2.2.2.2 e e0 e1
    · have u := g1.2.1 b b0 b1
      unfold mT at u ⊢
      rw [e8 _ (by omega)]
      exact u
    · rw [e8 _ (by omega)]
      exact g1.2.2 b k b0 b1 b2 j0 j1
  · rw [k5 18 8 (by omega) (by omega), q5 18 8 (by decide) (by decide) (by decide) (by decide) (by decide) (by decide) (by decide) (by decide)]; exact g3
  · intro b b0 b1
    rw [k5 23 b (by omega) (by omega), q5 23 b (by decide) (by decide) (by decide) (by decide) (by decide) (by decide) (by decide) (by decide)]; exact g4 b b0 b1
  · intro b b0 b1
    rw [k5 22 b (by omega) (by omega)]; exact m1 b b0 b1
  · intro b j b0 b1 j0 j1
    rw [k5 20 _ (by omega) (by omega), k5 19 _ (by omega) (by omega), q5 19 _ (by decide) (by decide) (by decide) (by decide) (by decide) (by decide) (by decide) (by decide)]
    by_cases c : b < 59
    · exact s5 b j b0 c j0 j1
    · rw [s6 b j (by omega) b1 j0 j1]
      exact (un b j (by omega) b1 (by omega) (by omega) j0 j1).symm
  · intro i hi hi2
    rw [k5 20 _ (by omega) (by omega)]
    rcases hi with u | u
    · rw [m3 i u]; exact p20 i
    · have := s6 (i / 8) (i % 8) (by omega) (by omega) (by omega) (by omega)
      rw [show 8 * (i / 8) + i % 8 = i by omega] at this
      exact this
  · rw [k5 0 10 (by omega) (by omega), z5 0 10 (by decide) (by decide) (by decide) (by decide) (by decide) (by decide) (by decide) (by decide) (by decide) (by unfold iFr; omega)]; exact h00 10
  · exact zupd_at
  · rw [k5 0 12 (by omega) (by omega), z5 0 12 (by decide) (by decide) (by decide) (by decide) (by decide) (by decide) (by decide) (by decide) (by decide) (by unfold iFr; omega)]; exact h00 12
  · rw [k5 0 13 (by omega) (by omega), z5 0 13 (by decide) (by decide) (by decide) (by decide) (by decide) (by decide) (by decide) (by decide) (by decide) (by unfold iFr; omega)]; exact h00 13
  · rw [zupd_ne (by decide), zupd_at]
  · rw [k5 16 4 (by omega) (by omega), z5 16 4 (by decide) (by decide) (by decide) (by decide) (by decide) (by decide) (by decide) (by decide) (by decide) (by unfold iFr; omega)]; exact hz 16 4 (by decide) (by decide)
  · rw [k5 16 5 (by omega) (by omega), z5 16 5 (by decide) (by decide) (by decide) (by decide) (by decide) (by decide) (by decide) (by decide) (by decide) (by unfold iFr; omega)]; exact hz 16 5 (by decide) (by decide)
  · rw [k5 29 6 (by omega) (by omega), z5 29 6 (by decide) (by decide) (by decide) (by decide) (by decide) (by decide) (by decide) (by decide) (by decide) (by unfold iFr; omega)]; exact hz 29 6 (by decide) (by decide)
  · intro o j ho
    rw [k5 o j (by omega) (by omega), z5 o j (by omega) (by omega) (by omega) (by omega) (by omega) (by omega) (by omega) (by omega) (by omega) (by unfold iFr; omega)]; exact hz o j (by omega) (by omega)
  · intro o j ho
    rw [k5 o j (by omega) (by omega), z5 o j (by omega) (by omega) (by omega) (by omega) (by omega) (by omega) (by omega) (by omega) (by omega) (by unfold iFr; omega)]; exact hneg o j ho
