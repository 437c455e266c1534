/-! The reference: blocks taken and given, sizes, entries added. -/
section MTAKE
variable {d w r : Int} {t : Nat} {L : Int → Int} {H G : zHp} {Qr Qt : Int → zS → Prop} {N O W : Int → Int} {i k v : Int} {A : aSt}
theorem mA.zero {W' : Int → Int} (h : mA d w r G (N, O, W) L H) (he : ∀ j, W j = W' j) : mA d w r G (N, O, W') L H := ⟨h.1, h.2.1, h.2.2.1, fun j j0 j1 => by rw [h.2.2.2.1 j j0 j1]; exact he j, h.2.2.2.2⟩
theorem m_takes (h : mA d w r G A L H) (ha : aN (r * gGr d w * (w - 1)) A.1) (hP : aP A.2.1) (hB : 96 ≤ r * gGr d w * (w - 1)) (hi : 0 ≤ i ∧ i < 64)
    (h0 : aTake (r * gGr d w * (w - 1)) A i = none → Qr 0 (t, L, H)) (h1 : ∀ A' H', aTake (r * gGr d w * (w - 1)) A i = some A' → mA d w r G A' L H' → Qr 1 (t, L, H')) : zEnds 118 228 0 [(29, 35), (0, i), (9, 0), (9, 0), (9, 0), (9, 0), (9, 0), (9, 0)] [] (t, L, H) Qr Qt := by
  obtain ⟨N, O, W⟩ := A
  have hB2 := gBl_le h.1.1
  have hS := h.1
  have hA : aI (r * gGr d w * (w - 1)) N i := ha i hi.1 hi.2
  have hc := hA.2.2.1
  have hl := h.l
  have eN : ∀ j, 0 ≤ j → j < 1280 → H 45 j = N j := h.2.1
  have eO : ∀ j, 0 ≤ j → j < 768 → H 46 j = O j := h.2.2.1
  have hP : aP O := hP
  -- the end: a block b for the inode, at the extent e
  have fin : ∀ (e b : Int) (N' : Int → Int) (H' : zHp), mA d w r G (N', O, W) L H' → 0 ≤ e → e < 8 → 0 ≤ b → b < 768 → 0 ≤ N' (20 * i + 4 + 2 * e) → N' (20 * i + 4 + 2 * e) ≤ 255 → aTake (r * gGr d w * (w - 1)) (N, O, W) i = some (bU N' (20 * i + 4 + 2 * e) (N' (20 * i + 4 + 2 * e) + 1), bU O b (i + 1), bZ W b) → zEnds 118 228 193 [(29, 35), (0, i), (0, 20 * i), (0, e), (9, 0), (9, 0), (0, b), (9, 0)] [] (t, L, H') Qr Qt := by
    intro e b N' H' g e0 e1 b0 b1 l0 l1 ht
    have loop : ∀ (m : Nat) (x : Int) (H2 : zHp), 0 ≤ x → x + m = 64 → mA d w r G (bU N' (20 * i + 4 + 2 * e) (N' (20 * i + 4 + 2 * e) + 1), bU O b (i + 1), bR W (64 * b) (64 * b + x)) L H2 → zEnds 118 228 222 [(29, 35), (9, 0), (9, 0), (9, 0), (9, 0), (9, 0), (0, b), (0, x)] [] (t, L, H2) Qr Qt := by
      intro m
      induction m with
      | zero =>
        intro x H2 x0 x1 g2
        have ex : x = 64 := by omega
        rw [ex] at g2
        exact v_228_222 ⟨fun _ => ⟨Or.inr rfl, h1 _ H2 ht g2⟩, fun z => absurd (by omega) z⟩
      | succ m ih =>
        intro x H2 x0 x1 g2
        refine v_228_222 ⟨fun z => by omega, fun _ => ?_⟩
        dsimp only
        rw [z32_id (x := 64 * b) (by omega) (by omega), z32_id (x := 64 * b + x) (by omega) (by omega), z32_id (x := x + 1) (by omega) (by omega)]
        refine ⟨by omega, ih (x + 1) _ (by omega) (by omega) (g2.wd.zero (fun j => ?_))⟩
        unfold bU bR
        by_cases c : j = 64 * b + x
        · rw [if_pos c, if_pos (by omega)]
        · rw [if_neg c]
          by_cases c2 : 64 * b ≤ j ∧ j < 64 * b + x
          · rw [if_pos c2, if_pos (by omega)]
          · rw [if_neg c2, if_neg (by omega)]
    refine v_228_193 ?_
    dsimp only
    rw [z32_id (x := 20 * i + 4) (by omega) (by omega), z32_id (x := 2 * e) (by omega) (by omega), z32_id (x := 20 * i + 4 + 2 * e) (by omega) (by omega), g.2.1 _ (by omega) (by omega), z32_id (x := i + 1) (by omega) (by omega)]
    dsimp only
    rw [z32_id (x := N' (20 * i + 4 + 2 * e) + 1) (by omega) (by omega)]
    refine ⟨by omega, by omega, by omega, loop 64 0 _ (by omega) (by omega) (g.nd.od.zero (fun j => ?_))⟩
    unfold bR
    rw [if_neg (by omega)]
  -- a new extent
  have fresh : ∀ e, e = N (20 * i + 2) - 1 → ¬ aGrow (r * gGr d w * (w - 1)) (N, O, W) i → zEnds 118 228 110 [(29, 35), (0, i), (0, 20 * i), (0, e), (9, 0), (9, 0), (0, 0), (9, 0)] [] (t, L, H) Qr Qt := by
    intro e he hg
    unfold aTake at h0 h1 fin
    rw [if_neg hg] at h0 h1 fin
    dsimp only at h0 h1 fin
    have stop : ∀ b, 0 ≤ b → (b = r * gGr d w * (w - 1) ∧ aLeast (r * gGr d w * (w - 1)) O = -1 ∨ b ≠ -1 ∧ b < r * gGr d w * (w - 1) ∧ aLeast (r * gGr d w * (w - 1)) O = b) → zEnds 118 228 135 [(29, 35), (0, i), (0, 20 * i), (0, e), (9, 0), (9, 0), (0, b), (9, 0)] [] (t, L, H) Qr Qt := by
      intro b b0 hb
      refine v_228_135 (m_blocks hS ⟨fun z => v_228_150 ⟨Or.inl rfl, h0 ?_⟩, fun z => ⟨fun y => ?_, fun y => v_228_150 ⟨Or.inl rfl, h0 ?_⟩⟩⟩)
      · rcases hb with hb | hb
        · rw [if_pos (Or.inl hb.2)]
        · omega
      · rcases hb with hb | hb
        · exact absurd hb.1 z
        · rw [hb.2.2, if_neg (by omega)] at fin
          dsimp only
          rw [z32_id (x := 20 * i + 2) (by omega) (by omega), z32_id (x := 20 * i + 3) (by omega) (by omega), z32_id (x := 20 * i + 4) (by omega) (by omega), z32_id (x := e + 1) (by omega) (by omega), z32_id (x := 2 * (e + 1)) (by omega) (by omega), z32_id (x := 20 * i + 3 + 2 * (e + 1)) (by omega) (by omega), z32_id (x := 20 * i + 4 + 2 * (e + 1)) (by omega) (by omega), z32_id (x := e + 1 + 1) (by omega) (by omega)]
          have ee : e + 1 = N (20 * i + 2) := by omega
          rw [ee]
          refine ⟨by omega, by omega, by omega, fin (N (20 * i + 2)) b _ _ h.nd.nd.nd (by omega) (by omega) b0 (by omega) ?_ ?_ ?_⟩
          · rw [bU_at]; omega
          · rw [bU_at]; omega
          · rw [bU_at]
            congr 2
            funext j
            unfold bU
            by_cases c : j = 20 * i + 4 + 2 * N (20 * i + 2)
            · rw [if_pos c, if_pos c]; rfl
            · rw [if_neg c, if_neg c, if_neg c]
      · rw [if_pos (Or.inr (by omega))]
    have scan : ∀ (m : Nat) (b : Int), 0 ≤ b → b + m = r * gGr d w * (w - 1) → (∀ x, 0 ≤ x → x < b → 0 < O x) → zEnds 118 228 110 [(29, 35), (0, i), (0, 20 * i), (0, e), (9, 0), (9, 0), (0, b), (9, 0)] [] (t, L, H) Qr Qt := by
      intro m
      induction m with
      | zero =>
        intro b b0 b1 hall
        refine v_228_110 (m_blocks hS ⟨fun _ => stop b b0 (Or.inl ⟨by omega, ?_⟩), fun z => absurd (by omega) z⟩)
        unfold aLeast
        rcases gFirst_spec (fun b => ¬ 0 < O b) (r * gGr d w * (w - 1) - 59).toNat 59 with ⟨g, -⟩ | ⟨g1, g2, g3, -⟩
        · exact g
        · exact absurd (hall _ (by omega) (by omega)) g3
      | succ m ih =>
        intro b b0 b1 hall
        refine v_228_110 (m_blocks hS ⟨fun z => by omega, fun _ => ⟨⟨b0, by show b < L 46; omega⟩, fun z => stop b b0 (Or.inr ⟨by omega, by omega, ?_⟩), fun z => ?_⟩⟩)
        · have z : O b ≤ 0 := by rw [← eO b (by omega) (by omega)]; exact z
          have b59 : 59 ≤ b := by
            by_cases c : 59 ≤ b
            · exact c
            · have := hP.1 b b0 (by omega); omega
          unfold aLeast
          rcases gFirst_spec (fun b => ¬ 0 < O b) (r * gGr d w * (w - 1) - 59).toNat 59 with ⟨g, g'⟩ | ⟨g1, g2, g3, g4⟩
          · exact absurd (by omega) (g' b b59 (by omega))
          · by_cases c : gFirst (fun b => ¬ 0 < O b) 59 (r * gGr d w * (w - 1) - 59).toNat < b
            · exact absurd (hall _ (by omega) c) g3
            · by_cases c2 : b < gFirst (fun b => ¬ 0 < O b) 59 (r * gGr d w * (w - 1) - 59).toNat
              · exact absurd (by omega) (g4 b b59 c2)
              · omega
        · have z : ¬ O b ≤ 0 := by rw [← eO b (by omega) (by omega)]; exact z
          rw [z32_id (x := b + 1) (by omega) (by omega)]
          refine ih (b + 1) (by omega) (by omega) (fun x x0 x1 => ?_)
          by_cases c : x = b
          · rw [c]; omega
          · exact hall x x0 (by omega)
    exact scan (r * gGr d w * (w - 1)).toNat 0 (by omega) (by omega) (fun x x0 x1 => by omega)
  have no : ∀ (e b : Int), e = N (20 * i + 2) - 1 → ¬ aGrow (r * gGr d w * (w - 1)) (N, O, W) i → zEnds 118 228 95 [(29, 35), (0, i), (0, 20 * i), (0, e), (0, b), (9, 0), (9, 0), (9, 0)] [] (t, L, H) Qr Qt := fun e b he hg => v_228_95 ⟨fun z => absurd rfl z, fun _ => fresh e he hg⟩
  refine v_228 ?_
  dsimp only
  rw [z32_id (x := 20 * i) (by omega) (by omega), z32_id (x := 20 * i + 2) (by omega) (by omega), z32_id (x := 20 * i + 3) (by omega) (by omega), z32_id (x := 20 * i + 4) (by omega) (by omega), eN (20 * i + 2) (by omega) (by omega), z32_id (x := N (20 * i + 2) - 1) (by omega) (by omega), z32_id (x := 2 * (N (20 * i + 2) - 1)) (by omega) (by omega), z32_id (x := 20 * i + 3 + 2 * (N (20 * i + 2) - 1)) (by omega) (by omega), z32_id (x := 20 * i + 4 + 2 * (N (20 * i + 2) - 1)) (by omega) (by omega), eN (20 * i + 3 + 2 * (N (20 * i + 2) - 1)) (by omega) (by omega), eN (20 * i + 4 + 2 * (N (20 * i + 2) - 1)) (by omega) (by omega)]
  refine ⟨by omega, fun z => ?_, fun z => ?_⟩
  · have hx := hA.2.2.2 (N (20 * i + 2) - 1) (by omega) (by omega)
    rw [z32_id (x := N (20 * i + 3 + 2 * (N (20 * i + 2) - 1)) + N (20 * i + 4 + 2 * (N (20 * i + 2) - 1))) (by omega) (by omega)]
    refine ⟨by omega, by omega, m_blocks hS ⟨fun y => no _ _ rfl (fun u => by have u := u.2.2.1; dsimp only at u; omega), fun y => ?_⟩⟩
    dsimp only
    rw [eO _ (by omega) (by omega)]
    try rw [eN (20 * i + 4 + 2 * (N (20 * i + 2) - 1)) (by omega) (by omega)]
    refine ⟨by omega, fun u => no _ _ rfl (fun q => by have q := q.2.2.2; dsimp only at q; have := hP.2 (N (20 * i + 3 + 2 * (N (20 * i + 2) - 1)) + N (20 * i + 4 + 2 * (N (20 * i + 2) - 1))) (by omega) (by omega); omega), fun u => ⟨by omega, fun q => no _ _ rfl (fun q2 => by have q2 := q2.2.1; dsimp only at q2; omega), fun q => ⟨fun _ => ?_, fun q2 => absurd (by decide) q2⟩⟩⟩
    have hg : aGrow (r * gGr d w * (w - 1)) (N, O, W) i := ⟨by show 0 < N (20 * i + 2); omega, by show N (20 * i + 4 + 2 * (N (20 * i + 2) - 1)) < 255; omega, by show N (20 * i + 3 + 2 * (N (20 * i + 2) - 1)) + N (20 * i + 4 + 2 * (N (20 * i + 2) - 1)) < r * gGr d w * (w - 1); omega, by show ¬ 0 < O (N (20 * i + 3 + 2 * (N (20 * i + 2) - 1)) + N (20 * i + 4 + 2 * (N (20 * i + 2) - 1))); omega⟩
    refine fin (N (20 * i + 2) - 1) _ N H h (by omega) (by omega) (by omega) (by omega) (by omega) (by omega) ?_
    unfold aTake
    rw [if_pos hg]
  · refine m_blocks hS (m_blocks hS ⟨fun y => no _ _ rfl (fun u => by have u := u.1; dsimp only at u; omega), fun y => absurd (Int.le_refl _) y⟩)
end MTAKE
