/-! One look at a new object. -/
section LOOK
variable {d w r : Int} {t : Nat} {L : Int → Int} {H X : zHp} {Qr Qt : Int → zS → Prop}
theorem kF.S1 {G : zHp} (h : kF d w r t L H) (e : ∀ q i, (q = 18 ∨ q = 19 ∨ q = 22 ∨ q = 23) → G q i = H q i) : fS G (r * gGr d w * (w - 1)) 0 [] (zB8 H 19) L G := by
  obtain ⟨⟨g, -⟩, ⟨-, b2, b3, -⟩, -⟩ := h
  refine ⟨gLen.i g.1.1 g.1.2.1, iT.rest (by rw [e 18 1 (by omega)]; exact g.1.2.2.1.2.2.2.2) (by rw [e 18 8 (by omega)]; exact b2) (fun b b0 b1 => by rw [e 23 b (by omega)]; exact b3 b b0 b1) (fun b => ⟨by rw [e 22 b (by omega)]; exact g.1.2.2.2 22 b (by omega), by rw [e 23 b (by omega)]; exact g.1.2.2.2 23 b (by omega)⟩), fun j _ => ?_⟩
  unfold zB8
  rw [e 19 _ (by omega)]
theorem gW21 : gWd 21 := Or.inr (Or.inr (Or.inr (Or.inr (Or.inl rfl))))
/-- no block strayed -/
theorem p_strayed (h : kF d w r t L H) : zEnds 80 94 0 [(25, 18), (23, 12), (9, 0), (9, 0)] [] (t, L, H) (fun v' S1 => v' = 0 ∧ ∃ H1, S1 = (t, L, H1) ∧ fC H H1) (fun _ _ => False) := by
  have hk := h.1.1.1.1
  have hB := gBl_le hk
  have hB2 := gBl_ge hk
  have n1 : H 18 1 = r * gGr d w * (w - 1) := h.1.1.1.2.2.1.2.2.2.2
  have l20 : L 20 = 8 * (r * gGr d w * (w - 1)) := h.1.1.1.2.1.2.2.2.1
  have l21 : L 21 = 8 := h.1.1.1.2.1.2.2.2.2.1
  have key : ∀ (n : Nat) (b : Int) (G : zHp), 25 ≤ b → b + n = r * gGr d w * (w - 1) → (∀ q i, q ≠ 21 → G q i = H q i) → zEnds 80 94 5 [(25, 18), (23, 12), (0, 0), (0, b)] [] (t, L, G) (fun v' S1 => v' = 0 ∧ ∃ H1, S1 = (t, L, H1) ∧ fC H H1) (fun _ _ => False) := by
    intro n
    induction n with
    | zero =>
      intro b G b0 b1 e
      exact v_94_5 ⟨fun _ => ⟨rfl, G, rfl, fun q i hq => e q i (by omega)⟩, fun u => absurd (by show G 18 1 ≤ b; rw [e 18 1 (by decide)]; omega) u⟩
    | succ n ih =>
      intro b G b0 b1 e
      have hs := h.S1 (G := G) (fun q i hq => e q i (by omega))
      have iG : gI d w r t L G := h.1.1.keep (fun q i hq => e q i (by omega)) (fun q i hq => by rw [e q i (by omega)]; exact h.1.1.1.2.2.2 q i (by omega))
      have hb : 0 ≤ b ∧ b < r * gGr d w * (w - 1) := by omega
      have eb : z32 (b + 1) = b + 1 := z32_id (by omega) (by omega)
      refine v_94_5 ⟨fun u => absurd u (by show ¬ G 18 1 ≤ b; rw [e 18 1 (by decide)]; omega), fun _ => ?_⟩
      rw [eb]
      refine i_isTaken hs hb (fun _ => ⟨fun u => absurd u (by decide), fun _ => i_isChanged hs hb (fun u => absurd (by rw [e 22 b (by decide)]; exact h.2.1.2.2.2.1 b b0 (by omega)) u.1) (fun _ => ⟨fun u => absurd rfl u, fun _ => g_load iG.1 iG.2 hb gW21 (by omega) ?_⟩)⟩) (fun _ => ⟨fun _ => ih (b + 1) G (by omega) (by omega) e, fun u => absurd rfl u⟩)
      obtain ⟨hs0, g1, g2, g3, g4⟩ := gSo_rg hk hb
      have so : gSound d w r G (gSo w b) := by
        have := p_sound h hs0
        unfold gSound gVal gAt at this ⊢
        rw [e 13 _ (by decide), e 5 _ (by decide), e 6 _ (by decide)]
        exact this
      have e2 : ∀ q i, q ≠ 21 → gLd d w r G 21 0 (gSo w b) q i = H q i := fun q i hq => by rw [gLd_ne hq]; exact e q i hq
      have e21 : ∀ j, 0 ≤ j → j < 8 → gLd d w r G 21 0 (gSo w b) 21 (0 + j) = H 20 (8 * b + j) := fun j j0 j1 => by
        unfold gLd
        rw [if_pos so]
        unfold zcpy
        rw [if_pos ⟨rfl, by omega, by omega⟩, e 8 _ (by decide)]
        have q := h.1.2.2 (gSo w b) j hs0.1 hs0.2 g3 j0 j1
        have ea : gAt d w r G (gSo w b) = gCe r (gHome d w (gSo w b)) (gSo w b / gPo d w) := by
          unfold gAt
          rw [e 13 _ (by decide), h.1.2.1.2.1 _ hs0.1 hs0.2]
        rw [ea, show 0 + j - 0 = j by omega, q]
        show H 20 (8 * gBk w (gSo w b) + j) = _
        rw [gBk_so hk.2.2.1 hb.1]
      rw [z32_id (x := 8 * b) (by omega) (by omega)]
      refine i_areSame (by show 0 ≤ (0 : Int) ∧ 0 + 8 ≤ L 21 ∧ (0 : Int) ≤ 1000000; omega) (by show 0 ≤ 8 * b ∧ 8 * b + 8 ≤ L 20 ∧ 8 * b ≤ 1000000; omega) (fun _ => ⟨fun u => absurd u (by decide), fun _ => ih (b + 1) _ (by omega) (by omega) e2⟩) (fun u => ?_)
      obtain ⟨j, j0, j1, j2⟩ := u
      exact absurd ((e21 j j0 j1).trans (e2 20 _ (by decide)).symm) j2
  exact v_94 (key (r * gGr d w * (w - 1) - 25).toNat 25 H (by omega) (by omega) (fun _ _ _ => rfl))
theorem p_free (h : kF d w r t L H) {row q : Int} (hr : 0 ≤ row ∧ row < r) (hq : gPo d w ≤ q ∧ q < d) : gFree d w r H row q := by
  have hk := h.1.1.1.1
  have po := gPo_rg hk
  have w3 := hk.2.2.1
  have hg := gDk_rg (row := row) (pos := q) hk
  refine ⟨by rw [h.1.2.1.1.2.2.2.2 _ hg.1 hg.2]; decide, fun s s0 s1 u => ?_⟩
  have m1 : (row + 1) * gPo d w ≤ r * gPo d w := Int.mul_le_mul_of_nonneg_right (by omega) (by omega)
  have m2 : 0 ≤ row * gPo d w := Int.mul_nonneg hr.1 (by omega)
  rw [Int.add_mul, Int.one_mul] at m1
  rw [h.1.2.1.2.1 s (by omega) (by omega)] at u
  unfold gHome at u
  have e1 : s / gPo d w = row := by
    have : s = (s - row * gPo d w) + gPo d w * row := by rw [Int.mul_comm (gPo d w)]; omega
    rw [this, Int.add_mul_ediv_left _ _ (by omega), Int.ediv_eq_zero_of_lt (by omega) (by omega), Int.zero_add]
  have e2 := Int.emod_nonneg s (show gPo d w ≠ 0 by omega)
  have e3 := Int.emod_lt_of_pos s (show 0 < gPo d w by omega)
  rw [e1] at u
  have := gDk_inj hk (row := row) (a := s % gPo d w) (b := q) (by omega) (by omega) u
  omega
theorem p_mfree (hm : mF d w r L H) {row q : Int} (hr : 0 ≤ row ∧ row < r) (hq : gPo d w ≤ q ∧ q < d) : mFree d w H row q := by
  have hk := hm.1.1
  have po := gPo_rg hk
  have w3 := hk.2.2.1
  have hg := gDk_rg (row := row) (pos := q) hk
  refine ⟨(p_mval hm hg (o := 0) (by have := hk.2.2.2.2.2.1; omega)).1, ?_⟩
  rcases gFirst_spec (fun p => mPl d w H row p = gDk d row q) (gPo d w).toNat 0 with u | u
  · rw [u.1]; decide
  · obtain ⟨u0, u1, u2, -⟩ := u
    have u1 : gFirst (fun p => mPl d w H row p = gDk d row q) 0 (gPo d w).toNat < gPo d w := by omega
    have u2 : mPl d w H row (gFirst (fun p => mPl d w H row p = gDk d row q) 0 (gPo d w).toNat) = gDk d row q := u2
    rw [p_mpl hm hr ⟨u0, u1⟩] at u2
    have := gDk_inj hk (row := row) (by omega) (by omega) u2
    omega
theorem p_lookC (ht : 118 ≤ t) (h : kF d w r t L H) : cR 166 [(20, 0), (0, 0)] t L H (1) ∧ cR 166 [(20, 0), (0, 1)] t L H (0) ∧ cR 166 [(20, 0), (0, 2)] t L H (0) ∧ cR 166 [(20, 0), (0, 3)] t L H (0) ∧ cR 166 [(20, 0), (0, 4)] t L H (gSum (fun _ => gCnt (fun _ => True) (gPo d w) (d - gPo d w).toNat) 0 r.toNat) ∧ cR 166 [(20, 0), (0, 5)] t L H (r * gGr d w * (w - 1)) ∧ cR 166 [(20, 0), (0, 6)] t L H (0) ∧ cR 166 [(20, 0), (0, 7)] t L H (r * gGr d w) ∧ cR 166 [(20, 0), (0, 8)] t L H (0) ∧ cR 166 [(20, 0), (0, 9)] t L H (w) ∧ cR 166 [(20, 0), (0, 10)] t L H (d) ∧ cR 166 [(20, 0), (0, 11)] t L H (gCnt (fun _ => True) 0 d.toNat) ∧ cR 166 [(20, 0), (0, 12)] t L H (0) ∧ cR 166 [(20, 0), (0, 13)] t L H (gCnt (fun _ => True) 59 (r * gGr d w * (w - 1) - 59).toNat) ∧ cR 166 [(20, 0), (0, 14)] t L H (gCnt (fun i => nN0 (20 * i) = 0) 0 64) ∧ cR 166 [(20, 0), (0, 15)] t L H (0) ∧ cR 166 [(20, 0), (0, 16)] t L H (0) ∧ cR 166 [(20, 0), (0, 17)] t L H (0) ∧ cR 166 [(20, 0), (0, 18)] t L H (0) ∧ cR 166 [(20, 0), (0, 19)] t L H (0) := by
  have hk := h.1.1.1.1
  have hB := gBl_le hk
  have hB2 := gBl_ge hk
  have po := gPo_rg hk
  have w3 := hk.2.2.1
  have r1 := hk.2.2.2.2.2.1
  obtain ⟨c1, c2, c3, c4, c5, c6, c7, c8⟩ := h.2.2
  have n0 : H 1 0 = d := h.1.1.1.2.2.1.1.1
  have n1 : H 1 1 = w := h.1.1.1.2.2.1.1.2.1
  have n5 : H 1 5 = r * gGr d w := h.1.1.1.2.2.1.1.2.2.2.2.2.1
  have n7 : H 1 7 = r * gGr d w * (w - 1) := h.1.1.1.2.2.1.1.2.2.2.2.2.2.2.1
  refine ⟨?_, ?_, ?_, ?_, ?_, ?_, ?_, ?_, ?_, ?_, ?_, ?_, ?_, ?_, ?_, ?_, ?_, ?_, ?_, ?_⟩
  · exact j_166 ⟨fun u => absurd u (by decide), fun _ => ⟨fun _ => ⟨fun u => absurd u (by decide), fun _ => j_167 (⟨fun _ => ⟨fun u => absurd u (by show ¬ H 0 11 = 0; omega), fun _ => ⟨rfl, H, rfl, fC.rfl'⟩⟩, fun u => absurd rfl u⟩)⟩, fun u => absurd (by decide) u⟩⟩
  · exact j_166 ⟨fun u => absurd u (by decide), fun _ => ⟨fun _ => ⟨fun u => absurd u (by decide), fun _ => j_167 (⟨fun u => absurd u (by decide), fun _ => ⟨fun _ => v_20 ⟨c5, H, rfl, fC.rfl'⟩, fun u => absurd rfl u⟩⟩)⟩, fun u => absurd (by decide) u⟩⟩
  · exact j_166 ⟨fun u => absurd u (by decide), fun _ => ⟨fun _ => ⟨fun u => absurd u (by decide), fun _ => j_167 (⟨fun u => absurd u (by decide), fun _ => ⟨fun u => absurd u (by decide), fun _ => ⟨fun _ => g_countLost h.1.1.1 ⟨gCnt_none _ _ (fun s s0 s1 u => (p_sound h (s := s) (by omega)).1 u), H, rfl, fC.rfl'⟩, fun u => absurd rfl u⟩⟩⟩)⟩, fun u => absurd (by decide) u⟩⟩
  · exact j_166 ⟨fun u => absurd u (by decide), fun _ => ⟨fun _ => ⟨fun u => absurd u (by decide), fun _ => j_167 (⟨fun u => absurd u (by decide), fun _ => ⟨fun u => absurd u (by decide), fun _ => ⟨fun u => absurd u (by decide), fun _ => ⟨fun _ => g_countSpoilt h.1.1.1 h.1.1.2 ⟨gCnt_none _ _ (fun s s0 s1 u => u.2 (p_sound h (s := s) (by omega))), H, rfl, fC.rfl'⟩, fun u => absurd rfl u⟩⟩⟩⟩)⟩, fun u => absurd (by decide) u⟩⟩
  · exact j_166 ⟨fun u => absurd u (by decide), fun _ => ⟨fun _ => ⟨fun u => absurd u (by decide), fun _ => j_167 (⟨fun u => absurd u (by decide), fun _ => ⟨fun u => absurd u (by decide), fun _ => ⟨fun u => absurd u (by decide), fun _ => ⟨fun u => absurd u (by decide), fun _ => ⟨fun _ => g_countFree h.1.1.1 ⟨gSum_congr _ _ (fun row a b => gCnt_congr _ _ (fun q x y => ⟨fun _ => trivial, fun _ => p_free h (row := row) (q := q) (by omega) (by omega)⟩)), H, rfl, fC.rfl'⟩, fun u => absurd rfl u⟩⟩⟩⟩⟩)⟩, fun u => absurd (by decide) u⟩⟩
  · exact j_166 ⟨fun u => absurd u (by decide), fun _ => ⟨fun _ => ⟨fun u => absurd u (by decide), fun _ => j_167 (⟨fun u => absurd u (by decide), fun _ => ⟨fun u => absurd u (by decide), fun _ => ⟨fun u => absurd u (by decide), fun _ => ⟨fun u => absurd u (by decide), fun _ => ⟨fun u => absurd u (by decide), fun _ => ⟨fun _ => ⟨n7, H, rfl, fC.rfl'⟩, fun u => absurd rfl u⟩⟩⟩⟩⟩⟩)⟩, fun u => absurd (by decide) u⟩⟩
  · exact j_166 ⟨fun u => absurd u (by decide), fun _ => ⟨fun _ => ⟨fun u => absurd u (by decide), fun _ => j_167 (⟨fun u => absurd u (by decide), fun _ => ⟨fun u => absurd u (by decide), fun _ => ⟨fun u => absurd u (by decide), fun _ => ⟨fun u => absurd u (by decide), fun _ => ⟨fun u => absurd u (by decide), fun _ => ⟨fun u => absurd u (by decide), fun _ => ⟨fun _ => v_63 ⟨c7, H, rfl, fC.rfl'⟩, fun u => absurd rfl u⟩⟩⟩⟩⟩⟩⟩)⟩, fun u => absurd (by decide) u⟩⟩
  · exact j_166 ⟨fun u => absurd u (by decide), fun _ => ⟨fun _ => ⟨fun u => absurd u (by decide), fun _ => j_167 (⟨fun u => absurd u (by decide), fun _ => ⟨fun u => absurd u (by decide), fun _ => ⟨fun u => absurd u (by decide), fun _ => ⟨fun u => absurd u (by decide), fun _ => ⟨fun u => absurd u (by decide), fun _ => ⟨fun u => absurd u (by decide), fun _ => ⟨fun u => absurd u (by decide), fun _ => ⟨fun _ => ⟨n5, H, rfl, fC.rfl'⟩, fun u => absurd rfl u⟩⟩⟩⟩⟩⟩⟩⟩)⟩, fun u => absurd (by decide) u⟩⟩
  · exact j_166 ⟨fun u => absurd u (by decide), fun _ => ⟨fun _ => ⟨fun u => absurd u (by decide), fun _ => j_167 (⟨fun u => absurd u (by decide), fun _ => ⟨fun u => absurd u (by decide), fun _ => ⟨fun u => absurd u (by decide), fun _ => ⟨fun u => absurd u (by decide), fun _ => ⟨fun u => absurd u (by decide), fun _ => ⟨fun u => absurd u (by decide), fun _ => ⟨fun u => absurd u (by decide), fun _ => ⟨fun u => absurd u (by decide), fun _ => ⟨fun _ => v_62 ⟨c6, H, rfl, fC.rfl'⟩, fun u => absurd rfl u⟩⟩⟩⟩⟩⟩⟩⟩⟩)⟩, fun u => absurd (by decide) u⟩⟩
  · exact j_166 ⟨fun u => absurd u (by decide), fun _ => ⟨fun _ => ⟨fun u => absurd u (by decide), fun _ => j_167 (⟨fun u => absurd u (by decide), fun _ => ⟨fun u => absurd u (by decide), fun _ => ⟨fun u => absurd u (by decide), fun _ => ⟨fun u => absurd u (by decide), fun _ => ⟨fun u => absurd u (by decide), fun _ => ⟨fun u => absurd u (by decide), fun _ => ⟨fun u => absurd u (by decide), fun _ => ⟨fun u => absurd u (by decide), fun _ => ⟨fun u => absurd u (by decide), fun _ => ⟨fun _ => ⟨n1, H, rfl, fC.rfl'⟩, fun u => absurd rfl u⟩⟩⟩⟩⟩⟩⟩⟩⟩⟩)⟩, fun u => absurd (by decide) u⟩⟩
  · exact j_166 ⟨fun u => absurd u (by decide), fun _ => ⟨fun _ => ⟨fun u => absurd u (by decide), fun _ => j_167 (⟨fun u => absurd u (by decide), fun _ => ⟨fun u => absurd u (by decide), fun _ => ⟨fun u => absurd u (by decide), fun _ => ⟨fun u => absurd u (by decide), fun _ => ⟨fun u => absurd u (by decide), fun _ => ⟨fun u => absurd u (by decide), fun _ => ⟨fun u => absurd u (by decide), fun _ => ⟨fun u => absurd u (by decide), fun _ => ⟨fun u => absurd u (by decide), fun _ => ⟨fun u => absurd u (by decide), fun _ => ⟨fun _ => ⟨n0, H, rfl, fC.rfl'⟩, fun u => absurd rfl u⟩⟩⟩⟩⟩⟩⟩⟩⟩⟩⟩)⟩, fun u => absurd (by decide) u⟩⟩
  · exact j_166 ⟨fun u => absurd u (by decide), fun _ => ⟨fun _ => ⟨fun u => absurd u (by decide), fun _ => j_167 (⟨fun u => absurd u (by decide), fun _ => ⟨fun u => absurd u (by decide), fun _ => ⟨fun u => absurd u (by decide), fun _ => ⟨fun u => absurd u (by decide), fun _ => ⟨fun u => absurd u (by decide), fun _ => ⟨fun u => absurd u (by decide), fun _ => ⟨fun u => absurd u (by decide), fun _ => ⟨fun u => absurd u (by decide), fun _ => ⟨fun u => absurd u (by decide), fun _ => ⟨fun u => absurd u (by decide), fun _ => ⟨fun u => absurd u (by decide), fun _ => ⟨fun _ => g_countLive h.1.1.1 ⟨gCnt_congr _ _ (fun x a b => ⟨fun _ => trivial, fun _ => by show H 4 x ≠ 0; rw [h.1.2.1.1.2.2.2.2 x a (by omega)]; decide⟩), H, rfl, fC.rfl'⟩, fun u => absurd rfl u⟩⟩⟩⟩⟩⟩⟩⟩⟩⟩⟩⟩)⟩, fun u => absurd (by decide) u⟩⟩
  · exact j_166 ⟨fun u => absurd u (by decide), fun _ => ⟨fun _ => ⟨fun u => absurd u (by decide), fun _ => j_167 (⟨fun u => absurd u (by decide), fun _ => ⟨fun u => absurd u (by decide), fun _ => ⟨fun u => absurd u (by decide), fun _ => ⟨fun u => absurd u (by decide), fun _ => ⟨fun u => absurd u (by decide), fun _ => ⟨fun u => absurd u (by decide), fun _ => ⟨fun u => absurd u (by decide), fun _ => ⟨fun u => absurd u (by decide), fun _ => ⟨fun u => absurd u (by decide), fun _ => ⟨fun u => absurd u (by decide), fun _ => ⟨fun u => absurd u (by decide), fun _ => ⟨fun u => absurd u (by decide), fun _ => ⟨c1, H, rfl, fC.rfl'⟩⟩⟩⟩⟩⟩⟩⟩⟩⟩⟩⟩⟩)⟩, fun u => absurd (by decide) u⟩⟩
  · exact j_166 ⟨fun u => absurd u (by decide), fun _ => ⟨fun _ => ⟨fun _ => ⟨fun u => absurd u (by show ¬ H 0 11 = 0; omega), fun _ => j_168 (⟨fun _ => i_countFree h.S ⟨gCnt_congr _ _ (fun b x y => ⟨fun _ => trivial, fun _ u => by have := ((h.2.1.1.2.1 b (by omega) (by omega)).mp u).2; have z : nO0 b = 0 := (by rw [nO0_at, if_neg (by omega)]); have this : 0 < nO0 b := this; omega⟩), H, rfl, fC.rfl'⟩, fun u => absurd rfl u⟩)⟩, fun u => absurd (by decide) u⟩, fun u => absurd (by decide) u⟩⟩
  · exact j_166 ⟨fun u => absurd u (by decide), fun _ => ⟨fun _ => ⟨fun _ => ⟨fun u => absurd u (by show ¬ H 0 11 = 0; omega), fun _ => j_168 (⟨fun u => absurd u (by decide), fun _ => ⟨fun _ => n_countFree h.S h.2.1.1.1 ⟨rfl, H, rfl, fC.rfl'⟩, fun u => absurd rfl u⟩⟩)⟩, fun u => absurd (by decide) u⟩, fun u => absurd (by decide) u⟩⟩
  · exact j_166 ⟨fun u => absurd u (by decide), fun _ => ⟨fun _ => ⟨fun _ => ⟨fun u => absurd u (by show ¬ H 0 11 = 0; omega), fun _ => j_168 (⟨fun u => absurd u (by decide), fun _ => ⟨fun u => absurd u (by decide), fun _ => ⟨fun _ => i_countChanged h.S ⟨gCnt_none _ _ (fun b x y u => u.1 (h.2.1.2.2.2.1 b x (by omega))), H, rfl, fC.rfl'⟩, fun u => absurd rfl u⟩⟩⟩)⟩, fun u => absurd (by decide) u⟩, fun u => absurd (by decide) u⟩⟩
  · exact j_166 ⟨fun u => absurd u (by decide), fun _ => ⟨fun _ => ⟨fun _ => ⟨fun u => absurd u (by show ¬ H 0 11 = 0; omega), fun _ => j_168 (⟨fun u => absurd u (by decide), fun _ => ⟨fun u => absurd u (by decide), fun _ => ⟨fun u => absurd u (by decide), fun _ => ⟨fun _ => ⟨c3, H, rfl, fC.rfl'⟩, fun u => absurd rfl u⟩⟩⟩⟩)⟩, fun u => absurd (by decide) u⟩, fun u => absurd (by decide) u⟩⟩
  · exact j_166 ⟨fun u => absurd u (by decide), fun _ => ⟨fun _ => ⟨fun _ => ⟨fun u => absurd u (by show ¬ H 0 11 = 0; omega), fun _ => j_168 (⟨fun u => absurd u (by decide), fun _ => ⟨fun u => absurd u (by decide), fun _ => ⟨fun u => absurd u (by decide), fun _ => ⟨fun u => absurd u (by decide), fun _ => ⟨fun _ => ⟨c4, H, rfl, fC.rfl'⟩, fun u => absurd rfl u⟩⟩⟩⟩⟩)⟩, fun u => absurd (by decide) u⟩, fun u => absurd (by decide) u⟩⟩
  · exact j_166 ⟨fun u => absurd u (by decide), fun _ => ⟨fun _ => ⟨fun _ => ⟨fun u => absurd u (by show ¬ H 0 11 = 0; omega), fun _ => j_168 (⟨fun u => absurd u (by decide), fun _ => ⟨fun u => absurd u (by decide), fun _ => ⟨fun u => absurd u (by decide), fun _ => ⟨fun u => absurd u (by decide), fun _ => ⟨fun u => absurd u (by decide), fun _ => ⟨fun _ => v_138 ⟨c8, H, rfl, fC.rfl'⟩, fun u => absurd rfl u⟩⟩⟩⟩⟩⟩)⟩, fun u => absurd (by decide) u⟩, fun u => absurd (by decide) u⟩⟩
  · exact j_166 ⟨fun u => absurd u (by decide), fun _ => ⟨fun _ => ⟨fun _ => ⟨fun u => absurd u (by show ¬ H 0 11 = 0; omega), fun _ => j_168 (⟨fun u => absurd u (by decide), fun _ => ⟨fun u => absurd u (by decide), fun _ => ⟨fun u => absurd u (by decide), fun _ => ⟨fun u => absurd u (by decide), fun _ => ⟨fun u => absurd u (by decide), fun _ => ⟨fun u => absurd u (by decide), fun _ => p_strayed h⟩⟩⟩⟩⟩⟩)⟩, fun u => absurd (by decide) u⟩, fun u => absurd (by decide) u⟩⟩
theorem p_lookF {K : zHp} (hm2 : mF d w r L K) : (∀ k : Int, (k = 2 ∨ k = 3) → gSum (fun row => gCnt (mCP d w K k row) 0 d.toNat) 0 r.toNat = 0) ∧ gSum (fun row => gCnt (mCP d w K 4 row) 0 d.toNat) 0 r.toNat = gSum (fun _ => gCnt (fun _ => True) (gPo d w) (d - gPo d w).toNat) 0 r.toNat ∧ z32 (K 35 3 * K 35 4) = r * gGr d w ∧ gCnt (fun b => K 46 b = 0) 0 (r * gGr d w * (w - 1)).toNat = gCnt (fun _ => True) 59 (r * gGr d w * (w - 1) - 59).toNat ∧ (∀ b, 25 ≤ b → b < r * gGr d w * (w - 1) → ¬ mCh (r * gGr d w * (w - 1)) nA0 (K 43) b) ∧ z32 (zlor (zor (zor (K 43 0) (zshl (K 43 1) 8)) (zshl (K 43 2) 16)) (zlshl (K 43 3) 24)) = 0 := by
  have hk := hm2.1.1
  have hB := gBl_le hk
  have hB2 := gBl_ge hk
  have po := gPo_rg hk
  have w3 := hk.2.2.1
  have r1 := hk.2.2.2.2.2.1
  have hd := hk.1
  have r2 := hk.2.2.2.2.2.2
  have g5 : r * gGr d w ≤ 64 * 5 := Int.mul_le_mul r2 po.2.1 (by omega) (by decide)
  have g0 : 0 ≤ r * gGr d w := Int.mul_nonneg (by omega) (by omega)
  refine ⟨fun k hk0 => ?_, ?_, ?_, ?_, fun b b0 b1 u => ?_, ?_⟩
  · have e : gSum (fun row => gCnt (mCP d w K k row) 0 d.toNat) 0 r.toNat = gSum (fun _ => 0) 0 r.toNat := gSum_congr _ _ (fun row a b => gCnt_none _ _ (fun p x y u => by
      have hr : 0 ≤ row ∧ row < r := by omega
      rcases u with u | u | u
      · have := gDk_rg (row := row) (pos := p) hk
        have q := u.2.2
        rw [p_mpl hm2 hr ⟨x, u.2.1⟩] at q
        omega
      · exact p_mspt hm2 hr ⟨x, u.2.1⟩ u.2.2
      · omega))
    rw [e]
    have z := gSum_bd (f := fun _ => (0 : Int)) (c := 0) r.toNat 0 (fun _ _ _ => ⟨Int.le_refl 0, Int.le_refl 0⟩)
    rw [Int.mul_zero] at z
    omega
  · refine gSum_congr _ _ (fun row a b => ?_)
    have hr : 0 ≤ row ∧ row < r := by omega
    rw [show d.toNat = (gPo d w).toNat + (d - gPo d w).toNat by omega, gCnt_add, gCnt_none (gPo d w).toNat 0 (fun p x y u => by
      rcases u with u | u | u
      · omega
      · omega
      · omega), Int.zero_add, show (0 : Int) + (((gPo d w).toNat : Nat) : Int) = gPo d w by omega]
    exact gCnt_congr _ _ (fun p x y => ⟨fun _ => trivial, fun _ => Or.inr (Or.inr ⟨rfl, x, p_mfree hm2 hr (by omega)⟩)⟩)
  · rw [hm2.1.2.2.2.1.2.2.1, hm2.1.2.2.2.1.2.2.2.1]
    exact z32_id (by omega) (by omega)
  · rw [show (r * gGr d w * (w - 1)).toNat = 59 + (r * gGr d w * (w - 1) - 59).toNat by omega, gCnt_add, gCnt_none 59 0 (fun b x y u => by
      have u : K 46 b = 0 := u
      rw [hm2.2.2.2.1.2.1 b x (by omega), nO0_at, if_pos (by omega)] at u
      omega), Int.zero_add]
    exact gCnt_congr _ _ (fun b x y => ⟨fun _ => trivial, fun _ => by
      have x : 59 ≤ b := x
      show K 46 b = 0
      rw [hm2.2.2.2.1.2.1 b (by omega) (by omega), nO0_at, if_neg (by omega)]⟩)
  · obtain ⟨k, k0, k1, k2⟩ := u
    refine k2 ?_
    by_cases c : b < 59
    · rw [hm2.2.2.2.1.2.2.1 b k b0 c k0 k1]
      exact mBy_V b0 (by show nO0 b ≠ 0; rw [nO0_at, if_pos (by omega)]; decide)
    · unfold mBy
      rw [if_pos (Or.inr (by show nO0 b = 0; rw [nO0_at, if_neg (by omega)]))]
  · rw [hm2.2.2.2.1.2.2.2 0 (by omega), hm2.2.2.2.1.2.2.2 1 (by omega), hm2.2.2.2.1.2.2.2 2 (by omega), hm2.2.2.2.1.2.2.2 3 (by omega)]
    decide +kernel
theorem p_lookM (hk : gOK d w r) : mR 263 [(29, 35), (0, 0), (9, 0), (9, 0)] L (mF d w r L) (1) ∧ mR 263 [(29, 35), (0, 1), (9, 0), (9, 0)] L (mF d w r L) (0) ∧ mR 263 [(29, 35), (0, 2), (9, 0), (9, 0)] L (mF d w r L) (0) ∧ mR 263 [(29, 35), (0, 3), (9, 0), (9, 0)] L (mF d w r L) (0) ∧ mR 263 [(29, 35), (0, 4), (9, 0), (9, 0)] L (mF d w r L) (gSum (fun _ => gCnt (fun _ => True) (gPo d w) (d - gPo d w).toNat) 0 r.toNat) ∧ mR 263 [(29, 35), (0, 5), (9, 0), (9, 0)] L (mF d w r L) (r * gGr d w * (w - 1)) ∧ mR 263 [(29, 35), (0, 6), (9, 0), (9, 0)] L (mF d w r L) (0) ∧ mR 263 [(29, 35), (0, 7), (9, 0), (9, 0)] L (mF d w r L) (r * gGr d w) ∧ mR 263 [(29, 35), (0, 8), (9, 0), (9, 0)] L (mF d w r L) (0) ∧ mR 263 [(29, 35), (0, 9), (9, 0), (9, 0)] L (mF d w r L) (w) ∧ mR 263 [(29, 35), (0, 10), (9, 0), (9, 0)] L (mF d w r L) (d) ∧ mR 263 [(29, 35), (0, 11), (9, 0), (9, 0)] L (mF d w r L) (gCnt (fun _ => True) 0 d.toNat) ∧ mR 263 [(29, 35), (0, 12), (9, 0), (9, 0)] L (mF d w r L) (0) ∧ mR 263 [(29, 35), (0, 13), (9, 0), (9, 0)] L (mF d w r L) (gCnt (fun _ => True) 59 (r * gGr d w * (w - 1) - 59).toNat) ∧ mR 263 [(29, 35), (0, 14), (9, 0), (9, 0)] L (mF d w r L) (gCnt (fun i => nN0 (20 * i) = 0) 0 64) ∧ mR 263 [(29, 35), (0, 15), (9, 0), (9, 0)] L (mF d w r L) (0) ∧ mR 263 [(29, 35), (0, 16), (9, 0), (9, 0)] L (mF d w r L) (0) ∧ mR 263 [(29, 35), (0, 17), (9, 0), (9, 0)] L (mF d w r L) (0) ∧ mR 263 [(29, 35), (0, 18), (9, 0), (9, 0)] L (mF d w r L) (0) ∧ mR 263 [(29, 35), (0, 19), (9, 0), (9, 0)] L (mF d w r L) (0) := by
  have hB2 := gBl_ge hk
  have hd := hk.1
  have r1 := hk.2.2.2.2.2.1
  refine ⟨?_, ?_, ?_, ?_, ?_, ?_, ?_, ?_, ?_, ?_, ?_, ?_, ?_, ?_, ?_, ?_, ?_, ?_, ?_, ?_⟩
  · intro t H' ht hm'
    have hm2 : mF d w r L (zupd H' 35 0 0) := hm'.up
    have e12 : zupd H' 35 0 0 35 12 = 1 := hm2.2.1.1
    have l43 : L 43 = 49152 := hm2.1.2.1.2.2.2.2.2.2.2.1
    obtain ⟨cnt0, cnt4, mul7, free13, mch, seq0⟩ := p_lookF hm2
    exact j_263 ⟨fun u => absurd u (by decide), fun _ => ⟨fun _ => j_263_16 (m_f0 ⟨fun _ => ⟨fun _ => ⟨fun _ => ⟨fun u => absurd u (by show ¬ zupd H' 35 0 0 35 12 = 0; rw [hm2.2.1.1]; decide), fun _ => ⟨rfl, _, rfl, zupd_at, fM.rfl'.upd (by decide)⟩⟩, fun u => absurd rfl u⟩, fun u => absurd (by decide) u⟩, fun u => absurd rfl u⟩), fun u => absurd (by decide) u⟩⟩
  · intro t H' ht hm'
    have hm2 : mF d w r L (zupd H' 35 0 0) := hm'.up
    have e12 : zupd H' 35 0 0 35 12 = 1 := hm2.2.1.1
    have l43 : L 43 = 49152 := hm2.1.2.1.2.2.2.2.2.2.2.1
    obtain ⟨cnt0, cnt4, mul7, free13, mch, seq0⟩ := p_lookF hm2
    exact j_263 ⟨fun u => absurd u (by decide), fun _ => ⟨fun _ => j_263_16 (m_f0 ⟨fun _ => ⟨fun _ => ⟨fun u => absurd u (by decide), fun _ => ⟨fun _ => ⟨(hm2.2.1.2.2.2 14 (by decide) (by decide) (by decide) (by decide) (by decide) (by decide) (by decide) (by decide) (by decide)), _, rfl, zupd_at, fM.rfl'.upd (by decide)⟩, fun u => absurd rfl u⟩⟩, fun u => absurd (by decide) u⟩, fun u => absurd rfl u⟩), fun u => absurd (by decide) u⟩⟩
  · intro t H' ht hm'
    have hm2 : mF d w r L (zupd H' 35 0 0) := hm'.up
    have e12 : zupd H' 35 0 0 35 12 = 1 := hm2.2.1.1
    have l43 : L 43 = 49152 := hm2.1.2.1.2.2.2.2.2.2.2.1
    obtain ⟨cnt0, cnt4, mul7, free13, mch, seq0⟩ := p_lookF hm2
    exact j_263 ⟨fun u => absurd u (by decide), fun _ => ⟨fun _ => j_263_16 (m_f0 ⟨fun _ => ⟨fun _ => ⟨fun u => absurd u (by decide), fun _ => ⟨fun u => absurd u (by decide), fun _ => ⟨fun _ => m_count hm2.1 (p_mok hm2) ⟨cnt0 2 (by decide), _, rfl, zupd_at, fM.rfl'.upd (by decide)⟩, fun u => absurd rfl u⟩⟩⟩, fun u => absurd (by decide) u⟩, fun u => absurd rfl u⟩), fun u => absurd (by decide) u⟩⟩
  · intro t H' ht hm'
    have hm2 : mF d w r L (zupd H' 35 0 0) := hm'.up
    have e12 : zupd H' 35 0 0 35 12 = 1 := hm2.2.1.1
    have l43 : L 43 = 49152 := hm2.1.2.1.2.2.2.2.2.2.2.1
    obtain ⟨cnt0, cnt4, mul7, free13, mch, seq0⟩ := p_lookF hm2
    exact j_263 ⟨fun u => absurd u (by decide), fun _ => ⟨fun _ => j_263_16 (m_f0 ⟨fun _ => ⟨fun _ => ⟨fun u => absurd u (by decide), fun _ => ⟨fun u => absurd u (by decide), fun _ => ⟨fun u => absurd u (by decide), fun _ => ⟨fun _ => m_count hm2.1 (p_mok hm2) ⟨cnt0 3 (by decide), _, rfl, zupd_at, fM.rfl'.upd (by decide)⟩, fun u => absurd rfl u⟩⟩⟩⟩, fun u => absurd (by decide) u⟩, fun u => absurd rfl u⟩), fun u => absurd (by decide) u⟩⟩
  · intro t H' ht hm'
    have hm2 : mF d w r L (zupd H' 35 0 0) := hm'.up
    have e12 : zupd H' 35 0 0 35 12 = 1 := hm2.2.1.1
    have l43 : L 43 = 49152 := hm2.1.2.1.2.2.2.2.2.2.2.1
    obtain ⟨cnt0, cnt4, mul7, free13, mch, seq0⟩ := p_lookF hm2
    exact j_263 ⟨fun u => absurd u (by decide), fun _ => ⟨fun _ => j_263_16 (m_f0 ⟨fun _ => ⟨fun _ => ⟨fun u => absurd u (by decide), fun _ => ⟨fun u => absurd u (by decide), fun _ => ⟨fun u => absurd u (by decide), fun _ => ⟨fun u => absurd u (by decide), fun _ => ⟨fun _ => m_count hm2.1 (p_mok hm2) ⟨cnt4, _, rfl, zupd_at, fM.rfl'.upd (by decide)⟩, fun u => absurd rfl u⟩⟩⟩⟩⟩, fun u => absurd (by decide) u⟩, fun u => absurd rfl u⟩), fun u => absurd (by decide) u⟩⟩
  · intro t H' ht hm'
    have hm2 : mF d w r L (zupd H' 35 0 0) := hm'.up
    have e12 : zupd H' 35 0 0 35 12 = 1 := hm2.2.1.1
    have l43 : L 43 = 49152 := hm2.1.2.1.2.2.2.2.2.2.2.1
    obtain ⟨cnt0, cnt4, mul7, free13, mch, seq0⟩ := p_lookF hm2
    exact j_263 ⟨fun u => absurd u (by decide), fun _ => ⟨fun _ => j_263_16 (m_f0 ⟨fun _ => ⟨fun _ => ⟨fun u => absurd u (by decide), fun _ => ⟨fun u => absurd u (by decide), fun _ => ⟨fun u => absurd u (by decide), fun _ => ⟨fun u => absurd u (by decide), fun _ => ⟨fun u => absurd u (by decide), fun _ => ⟨fun _ => m_blocks hm2.1 ⟨rfl, _, rfl, zupd_at, fM.rfl'.upd (by decide)⟩, fun u => absurd rfl u⟩⟩⟩⟩⟩⟩, fun u => absurd (by decide) u⟩, fun u => absurd rfl u⟩), fun u => absurd (by decide) u⟩⟩
  · intro t H' ht hm'
    have hm2 : mF d w r L (zupd H' 35 0 0) := hm'.up
    have e12 : zupd H' 35 0 0 35 12 = 1 := hm2.2.1.1
    have l43 : L 43 = 49152 := hm2.1.2.1.2.2.2.2.2.2.2.1
    obtain ⟨cnt0, cnt4, mul7, free13, mch, seq0⟩ := p_lookF hm2
    exact j_263 ⟨fun u => absurd u (by decide), fun _ => ⟨fun _ => j_263_16 (m_f0 ⟨fun _ => ⟨fun _ => ⟨fun u => absurd u (by decide), fun _ => ⟨fun u => absurd u (by decide), fun _ => ⟨fun u => absurd u (by decide), fun _ => ⟨fun u => absurd u (by decide), fun _ => ⟨fun u => absurd u (by decide), fun _ => ⟨fun u => absurd u (by decide), fun _ => ⟨fun _ => ⟨rfl, _, rfl, zupd_at, fM.rfl'.upd (by decide)⟩, fun u => absurd rfl u⟩⟩⟩⟩⟩⟩⟩, fun u => absurd (by decide) u⟩, fun u => absurd rfl u⟩), fun u => absurd (by decide) u⟩⟩
  · intro t H' ht hm'
    have hm2 : mF d w r L (zupd H' 35 0 0) := hm'.up
    have e12 : zupd H' 35 0 0 35 12 = 1 := hm2.2.1.1
    have l43 : L 43 = 49152 := hm2.1.2.1.2.2.2.2.2.2.2.1
    obtain ⟨cnt0, cnt4, mul7, free13, mch, seq0⟩ := p_lookF hm2
    exact j_263 ⟨fun u => absurd u (by decide), fun _ => ⟨fun _ => j_263_16 (m_f0 ⟨fun _ => ⟨fun _ => ⟨fun u => absurd u (by decide), fun _ => ⟨fun u => absurd u (by decide), fun _ => ⟨fun u => absurd u (by decide), fun _ => ⟨fun u => absurd u (by decide), fun _ => ⟨fun u => absurd u (by decide), fun _ => ⟨fun u => absurd u (by decide), fun _ => ⟨fun u => absurd u (by decide), fun _ => ⟨fun _ => ⟨mul7, _, rfl, zupd_at, fM.rfl'.upd (by decide)⟩, fun u => absurd rfl u⟩⟩⟩⟩⟩⟩⟩⟩, fun u => absurd (by decide) u⟩, fun u => absurd rfl u⟩), fun u => absurd (by decide) u⟩⟩
  · intro t H' ht hm'
    have hm2 : mF d w r L (zupd H' 35 0 0) := hm'.up
    have e12 : zupd H' 35 0 0 35 12 = 1 := hm2.2.1.1
    have l43 : L 43 = 49152 := hm2.1.2.1.2.2.2.2.2.2.2.1
    obtain ⟨cnt0, cnt4, mul7, free13, mch, seq0⟩ := p_lookF hm2
    exact j_263 ⟨fun u => absurd u (by decide), fun _ => ⟨fun _ => j_263_16 (m_f0 ⟨fun _ => ⟨fun _ => ⟨fun u => absurd u (by decide), fun _ => ⟨fun u => absurd u (by decide), fun _ => ⟨fun u => absurd u (by decide), fun _ => ⟨fun u => absurd u (by decide), fun _ => ⟨fun u => absurd u (by decide), fun _ => ⟨fun u => absurd u (by decide), fun _ => ⟨fun u => absurd u (by decide), fun _ => ⟨fun u => absurd u (by decide), fun _ => ⟨fun _ => ⟨(hm2.2.1.2.2.2 15 (by decide) (by decide) (by decide) (by decide) (by decide) (by decide) (by decide) (by decide) (by decide)), _, rfl, zupd_at, fM.rfl'.upd (by decide)⟩, fun u => absurd rfl u⟩⟩⟩⟩⟩⟩⟩⟩⟩, fun u => absurd (by decide) u⟩, fun u => absurd rfl u⟩), fun u => absurd (by decide) u⟩⟩
  · intro t H' ht hm'
    have hm2 : mF d w r L (zupd H' 35 0 0) := hm'.up
    have e12 : zupd H' 35 0 0 35 12 = 1 := hm2.2.1.1
    have l43 : L 43 = 49152 := hm2.1.2.1.2.2.2.2.2.2.2.1
    obtain ⟨cnt0, cnt4, mul7, free13, mch, seq0⟩ := p_lookF hm2
    exact j_263 ⟨fun u => absurd u (by decide), fun _ => ⟨fun _ => j_263_16 (m_f0 ⟨fun _ => ⟨fun _ => ⟨fun u => absurd u (by decide), fun _ => ⟨fun u => absurd u (by decide), fun _ => ⟨fun u => absurd u (by decide), fun _ => ⟨fun u => absurd u (by decide), fun _ => ⟨fun u => absurd u (by decide), fun _ => ⟨fun u => absurd u (by decide), fun _ => ⟨fun u => absurd u (by decide), fun _ => ⟨fun u => absurd u (by decide), fun _ => ⟨fun u => absurd u (by decide), fun _ => ⟨fun _ => ⟨hm2.1.2.2.2.1.2.1, _, rfl, zupd_at, fM.rfl'.upd (by decide)⟩, fun u => absurd rfl u⟩⟩⟩⟩⟩⟩⟩⟩⟩⟩, fun u => absurd (by decide) u⟩, fun u => absurd rfl u⟩), fun u => absurd (by decide) u⟩⟩
  · intro t H' ht hm'
    have hm2 : mF d w r L (zupd H' 35 0 0) := hm'.up
    have e12 : zupd H' 35 0 0 35 12 = 1 := hm2.2.1.1
    have l43 : L 43 = 49152 := hm2.1.2.1.2.2.2.2.2.2.2.1
    obtain ⟨cnt0, cnt4, mul7, free13, mch, seq0⟩ := p_lookF hm2
    exact j_263 ⟨fun u => absurd u (by decide), fun _ => ⟨fun _ => j_263_16 (m_f0 ⟨fun _ => ⟨fun _ => ⟨fun u => absurd u (by decide), fun _ => ⟨fun u => absurd u (by decide), fun _ => ⟨fun u => absurd u (by decide), fun _ => ⟨fun u => absurd u (by decide), fun _ => ⟨fun u => absurd u (by decide), fun _ => ⟨fun u => absurd u (by decide), fun _ => ⟨fun u => absurd u (by decide), fun _ => ⟨fun u => absurd u (by decide), fun _ => ⟨fun u => absurd u (by decide), fun _ => ⟨fun u => absurd u (by decide), fun _ => ⟨fun _ => ⟨hm2.1.2.2.2.1.1, _, rfl, zupd_at, fM.rfl'.upd (by decide)⟩, fun u => absurd rfl u⟩⟩⟩⟩⟩⟩⟩⟩⟩⟩⟩, fun u => absurd (by decide) u⟩, fun u => absurd rfl u⟩), fun u => absurd (by decide) u⟩⟩
  · intro t H' ht hm'
    have hm2 : mF d w r L (zupd H' 35 0 0) := hm'.up
    have e12 : zupd H' 35 0 0 35 12 = 1 := hm2.2.1.1
    have l43 : L 43 = 49152 := hm2.1.2.1.2.2.2.2.2.2.2.1
    obtain ⟨cnt0, cnt4, mul7, free13, mch, seq0⟩ := p_lookF hm2
    exact j_263 ⟨fun u => absurd u (by decide), fun _ => ⟨fun _ => j_263_16 (m_f0 ⟨fun _ => ⟨fun _ => ⟨fun u => absurd u (by decide), fun _ => ⟨fun u => absurd u (by decide), fun _ => ⟨fun u => absurd u (by decide), fun _ => ⟨fun u => absurd u (by decide), fun _ => ⟨fun u => absurd u (by decide), fun _ => ⟨fun u => absurd u (by decide), fun _ => ⟨fun u => absurd u (by decide), fun _ => ⟨fun u => absurd u (by decide), fun _ => ⟨fun u => absurd u (by decide), fun _ => ⟨fun u => absurd u (by decide), fun _ => ⟨fun u => absurd u (by decide), fun _ => ⟨fun _ => m_live hm2.1 ⟨(gCnt_congr _ _ (fun x a b => ⟨fun _ => trivial, fun _ => (p_mval hm2 (x := x) (o := 0) (by omega) (by omega)).1⟩)), _, rfl, zupd_at, fM.rfl'.upd (by decide)⟩, fun u => absurd rfl u⟩⟩⟩⟩⟩⟩⟩⟩⟩⟩⟩⟩, fun u => absurd (by decide) u⟩, fun u => absurd rfl u⟩), fun u => absurd (by decide) u⟩⟩
  · intro t H' ht hm'
    have hm2 : mF d w r L (zupd H' 35 0 0) := hm'.up
    have e12 : zupd H' 35 0 0 35 12 = 1 := hm2.2.1.1
    have l43 : L 43 = 49152 := hm2.1.2.1.2.2.2.2.2.2.2.1
    obtain ⟨cnt0, cnt4, mul7, free13, mch, seq0⟩ := p_lookF hm2
    exact j_263 ⟨fun u => absurd u (by decide), fun _ => ⟨fun _ => j_263_16 (m_f0 ⟨fun _ => ⟨fun _ => ⟨fun u => absurd u (by decide), fun _ => ⟨fun u => absurd u (by decide), fun _ => ⟨fun u => absurd u (by decide), fun _ => ⟨fun u => absurd u (by decide), fun _ => ⟨fun u => absurd u (by decide), fun _ => ⟨fun u => absurd u (by decide), fun _ => ⟨fun u => absurd u (by decide), fun _ => ⟨fun u => absurd u (by decide), fun _ => ⟨fun u => absurd u (by decide), fun _ => ⟨fun u => absurd u (by decide), fun _ => ⟨fun u => absurd u (by decide), fun _ => ⟨fun u => absurd u (by decide), fun _ => ⟨fun _ => ⟨(hm2.2.1.2.2.2 17 (by decide) (by decide) (by decide) (by decide) (by decide) (by decide) (by decide) (by decide) (by decide)), _, rfl, zupd_at, fM.rfl'.upd (by decide)⟩, fun u => absurd rfl u⟩⟩⟩⟩⟩⟩⟩⟩⟩⟩⟩⟩⟩, fun u => absurd (by decide) u⟩, fun u => absurd rfl u⟩), fun u => absurd (by decide) u⟩⟩
  · intro t H' ht hm'
    have hm2 : mF d w r L (zupd H' 35 0 0) := hm'.up
    have e12 : zupd H' 35 0 0 35 12 = 1 := hm2.2.1.1
    have l43 : L 43 = 49152 := hm2.1.2.1.2.2.2.2.2.2.2.1
    obtain ⟨cnt0, cnt4, mul7, free13, mch, seq0⟩ := p_lookF hm2
    exact j_263 ⟨fun u => absurd u (by decide), fun _ => ⟨fun _ => j_263_16 (m_f0 ⟨fun _ => ⟨fun u => absurd u (by decide), fun _ => ⟨fun u => absurd u (by show ¬ zupd H' 35 0 0 35 12 = 0; omega), fun _ => j_262 (⟨fun _ => m_freeB hm2.1 ⟨free13, _, rfl, zupd_at, fM.rfl'.upd (by decide)⟩, fun u => absurd rfl u⟩)⟩⟩, fun u => absurd rfl u⟩), fun u => absurd (by decide) u⟩⟩
  · intro t H' ht hm'
    have hm2 : mF d w r L (zupd H' 35 0 0) := hm'.up
    have e12 : zupd H' 35 0 0 35 12 = 1 := hm2.2.1.1
    have l43 : L 43 = 49152 := hm2.1.2.1.2.2.2.2.2.2.2.1
    obtain ⟨cnt0, cnt4, mul7, free13, mch, seq0⟩ := p_lookF hm2
    exact j_263 ⟨fun u => absurd u (by decide), fun _ => ⟨fun _ => j_263_16 (m_f0 ⟨fun _ => ⟨fun u => absurd u (by decide), fun _ => ⟨fun u => absurd u (by show ¬ zupd H' 35 0 0 35 12 = 0; omega), fun _ => j_262 (⟨fun u => absurd u (by decide), fun _ => ⟨fun _ => m_freeI hm2.A ⟨rfl, _, rfl, zupd_at, fM.rfl'.upd (by decide)⟩, fun u => absurd rfl u⟩⟩)⟩⟩, fun u => absurd rfl u⟩), fun u => absurd (by decide) u⟩⟩
  · intro t H' ht hm'
    have hm2 : mF d w r L (zupd H' 35 0 0) := hm'.up
    have e12 : zupd H' 35 0 0 35 12 = 1 := hm2.2.1.1
    have l43 : L 43 = 49152 := hm2.1.2.1.2.2.2.2.2.2.2.1
    obtain ⟨cnt0, cnt4, mul7, free13, mch, seq0⟩ := p_lookF hm2
    exact j_263 ⟨fun u => absurd u (by decide), fun _ => ⟨fun _ => j_263_16 (m_f0 ⟨fun _ => ⟨fun u => absurd u (by decide), fun _ => ⟨fun u => absurd u (by show ¬ zupd H' 35 0 0 35 12 = 0; omega), fun _ => j_262 (⟨fun u => absurd u (by decide), fun _ => ⟨fun u => absurd u (by decide), fun _ => ⟨fun _ => m_changes hm2.A nN0_N hB2 ⟨(gCnt_none _ _ (fun b x y u => mch b x (by omega) u)), _, rfl, zupd_at, fM.rfl'.upd (by decide)⟩, fun u => absurd rfl u⟩⟩⟩)⟩⟩, fun u => absurd rfl u⟩), fun u => absurd (by decide) u⟩⟩
  · intro t H' ht hm'
    have hm2 : mF d w r L (zupd H' 35 0 0) := hm'.up
    have e12 : zupd H' 35 0 0 35 12 = 1 := hm2.2.1.1
    have l43 : L 43 = 49152 := hm2.1.2.1.2.2.2.2.2.2.2.1
    obtain ⟨cnt0, cnt4, mul7, free13, mch, seq0⟩ := p_lookF hm2
    exact j_263 ⟨fun u => absurd u (by decide), fun _ => ⟨fun _ => j_263_16 (m_f0 ⟨fun _ => ⟨fun u => absurd u (by decide), fun _ => ⟨fun u => absurd u (by show ¬ zupd H' 35 0 0 35 12 = 0; omega), fun _ => j_262 (⟨fun u => absurd u (by decide), fun _ => ⟨fun u => absurd u (by decide), fun _ => ⟨fun u => absurd u (by decide), fun _ => ⟨fun _ => ⟨(hm2.2.1.2.2.2 28 (by decide) (by decide) (by decide) (by decide) (by decide) (by decide) (by decide) (by decide) (by decide)), _, rfl, zupd_at, fM.rfl'.upd (by decide)⟩, fun u => absurd rfl u⟩⟩⟩⟩)⟩⟩, fun u => absurd rfl u⟩), fun u => absurd (by decide) u⟩⟩
  · intro t H' ht hm'
    have hm2 : mF d w r L (zupd H' 35 0 0) := hm'.up
    have e12 : zupd H' 35 0 0 35 12 = 1 := hm2.2.1.1
    have l43 : L 43 = 49152 := hm2.1.2.1.2.2.2.2.2.2.2.1
    obtain ⟨cnt0, cnt4, mul7, free13, mch, seq0⟩ := p_lookF hm2
    exact j_263 ⟨fun u => absurd u (by decide), fun _ => ⟨fun _ => j_263_16 (m_f0 ⟨fun _ => ⟨fun u => absurd u (by decide), fun _ => ⟨fun u => absurd u (by show ¬ zupd H' 35 0 0 35 12 = 0; omega), fun _ => j_262 (⟨fun u => absurd u (by decide), fun _ => ⟨fun u => absurd u (by decide), fun _ => ⟨fun u => absurd u (by decide), fun _ => ⟨fun u => absurd u (by decide), fun _ => ⟨fun _ => ⟨(hm2.2.1.2.2.2 29 (by decide) (by decide) (by decide) (by decide) (by decide) (by decide) (by decide) (by decide) (by decide)), _, rfl, zupd_at, fM.rfl'.upd (by decide)⟩, fun u => absurd rfl u⟩⟩⟩⟩⟩)⟩⟩, fun u => absurd rfl u⟩), fun u => absurd (by decide) u⟩⟩
  · intro t H' ht hm'
    have hm2 : mF d w r L (zupd H' 35 0 0) := hm'.up
    have e12 : zupd H' 35 0 0 35 12 = 1 := hm2.2.1.1
    have l43 : L 43 = 49152 := hm2.1.2.1.2.2.2.2.2.2.2.1
    obtain ⟨cnt0, cnt4, mul7, free13, mch, seq0⟩ := p_lookF hm2
    exact j_263 ⟨fun u => absurd u (by decide), fun _ => ⟨fun _ => j_263_16 (m_f0 ⟨fun _ => ⟨fun u => absurd u (by decide), fun _ => ⟨fun u => absurd u (by show ¬ zupd H' 35 0 0 35 12 = 0; omega), fun _ => j_262 (⟨fun u => absurd u (by decide), fun _ => ⟨fun u => absurd u (by decide), fun _ => ⟨fun u => absurd u (by decide), fun _ => ⟨fun u => absurd u (by decide), fun _ => ⟨fun u => absurd u (by decide), fun _ => ⟨fun _ => v_203 ⟨⟨by decide, by show 0 < L 43; omega⟩, ⟨by decide, by show 1 < L 43; omega⟩, ⟨by decide, by show 2 < L 43; omega⟩, ⟨by decide, by show 3 < L 43; omega⟩, ⟨seq0, _, rfl, zupd_at, fM.rfl'.upd (by decide)⟩⟩, fun u => absurd rfl u⟩⟩⟩⟩⟩⟩)⟩⟩, fun u => absurd rfl u⟩), fun u => absurd (by decide) u⟩⟩
  · intro t H' ht hm'
    have hm2 : mF d w r L (zupd H' 35 0 0) := hm'.up
    have e12 : zupd H' 35 0 0 35 12 = 1 := hm2.2.1.1
    have l43 : L 43 = 49152 := hm2.1.2.1.2.2.2.2.2.2.2.1
    obtain ⟨cnt0, cnt4, mul7, free13, mch, seq0⟩ := p_lookF hm2
    exact j_263 ⟨fun u => absurd u (by decide), fun _ => ⟨fun _ => j_263_16 (m_f0 ⟨fun _ => ⟨fun u => absurd u (by decide), fun _ => ⟨fun u => absurd u (by show ¬ zupd H' 35 0 0 35 12 = 0; omega), fun _ => j_262 (⟨fun u => absurd u (by decide), fun _ => ⟨fun u => absurd u (by decide), fun _ => ⟨fun u => absurd u (by decide), fun _ => ⟨fun u => absurd u (by decide), fun _ => ⟨fun u => absurd u (by decide), fun _ => ⟨fun u => absurd u (by decide), fun _ => ⟨rfl, _, rfl, zupd_at, fM.rfl'.upd (by decide)⟩⟩⟩⟩⟩⟩⟩)⟩⟩, fun u => absurd rfl u⟩), fun u => absurd (by decide) u⟩⟩
theorem p_look (ht : 118 ≤ t) (hX : lR X H) (h : kF d w r t L H) (hm : mF d w r L H) (x : Int) : cOK pT 286 166 [(20, 0), (0, x)] 263 [(29, 35), (0, x), (9, 0), (9, 0)] X t L H := by
  by_cases c : 0 ≤ x ∧ x ≤ 19
  · have a := p_lookC ht h
    have b := p_lookM (L := L) h.1.1.1.1
    have e : x = 0 ∨ x = 1 ∨ x = 2 ∨ x = 3 ∨ x = 4 ∨ x = 5 ∨ x = 6 ∨ x = 7 ∨ x = 8 ∨ x = 9 ∨ x = 10 ∨ x = 11 ∨ x = 12 ∨ x = 13 ∨ x = 14 ∨ x = 15 ∨ x = 16 ∨ x = 17 ∨ x = 18 ∨ x = 19 := by omega
    rcases e with rfl | rfl | rfl | rfl | rfl | rfl | rfl | rfl | rfl | rfl | rfl | rfl | rfl | rfl | rfl | rfl | rfl | rfl | rfl | rfl
    · exact cOK_ret ht hX hm a.1 b.1
    · exact cOK_ret ht hX hm a.2.1 b.2.1
    · exact cOK_ret ht hX hm a.2.2.1 b.2.2.1
    · exact cOK_ret ht hX hm a.2.2.2.1 b.2.2.2.1
    · exact cOK_ret ht hX hm a.2.2.2.2.1 b.2.2.2.2.1
    · exact cOK_ret ht hX hm a.2.2.2.2.2.1 b.2.2.2.2.2.1
    · exact cOK_ret ht hX hm a.2.2.2.2.2.2.1 b.2.2.2.2.2.2.1
    · exact cOK_ret ht hX hm a.2.2.2.2.2.2.2.1 b.2.2.2.2.2.2.2.1
    · exact cOK_ret ht hX hm a.2.2.2.2.2.2.2.2.1 b.2.2.2.2.2.2.2.2.1
    · exact cOK_ret ht hX hm a.2.2.2.2.2.2.2.2.2.1 b.2.2.2.2.2.2.2.2.2.1
    · exact cOK_ret ht hX hm a.2.2.2.2.2.2.2.2.2.2.1 b.2.2.2.2.2.2.2.2.2.2.1
    · exact cOK_ret ht hX hm a.2.2.2.2.2.2.2.2.2.2.2.1 b.2.2.2.2.2.2.2.2.2.2.2.1
    · exact cOK_ret ht hX hm a.2.2.2.2.2.2.2.2.2.2.2.2.1 b.2.2.2.2.2.2.2.2.2.2.2.2.1
    · exact cOK_ret ht hX hm a.2.2.2.2.2.2.2.2.2.2.2.2.2.1 b.2.2.2.2.2.2.2.2.2.2.2.2.2.1
    · exact cOK_ret ht hX hm a.2.2.2.2.2.2.2.2.2.2.2.2.2.2.1 b.2.2.2.2.2.2.2.2.2.2.2.2.2.2.1
    · exact cOK_ret ht hX hm a.2.2.2.2.2.2.2.2.2.2.2.2.2.2.2.1 b.2.2.2.2.2.2.2.2.2.2.2.2.2.2.2.1
    · exact cOK_ret ht hX hm a.2.2.2.2.2.2.2.2.2.2.2.2.2.2.2.2.1 b.2.2.2.2.2.2.2.2.2.2.2.2.2.2.2.2.1
    · exact cOK_ret ht hX hm a.2.2.2.2.2.2.2.2.2.2.2.2.2.2.2.2.2.1 b.2.2.2.2.2.2.2.2.2.2.2.2.2.2.2.2.2.1
    · exact cOK_ret ht hX hm a.2.2.2.2.2.2.2.2.2.2.2.2.2.2.2.2.2.2.1 b.2.2.2.2.2.2.2.2.2.2.2.2.2.2.2.2.2.2.1
    · exact cOK_ret ht hX hm a.2.2.2.2.2.2.2.2.2.2.2.2.2.2.2.2.2.2.2 b.2.2.2.2.2.2.2.2.2.2.2.2.2.2.2.2.2.2.2
  · refine cOK_thr (c := 1) (k := 1) ht hX hm (j_166 ⟨fun _ => j_166_10 ⟨ht, by decide, rfl, H, rfl, fC.rfl'⟩, fun _ => ⟨fun u => absurd ⟨by omega, u⟩ c, fun _ => j_166_10 ⟨ht, by decide, rfl, H, rfl, fC.rfl'⟩⟩⟩) rfl (by decide) (fun t' H' ht' hm' => ?_)
    have q : zEnds 118 263 16 [(29, 35), (0, x), (9, 0), (9, 0)] [(0, 1), (29, 35)] (t', L, H') (fun _ S2 => ∃ H2, S2 = (t', L, H2) ∧ H2 35 0 = 1 ∧ fM H' H2) (fun _ _ => False) := j_263_16 (m_f1 ⟨fun u => absurd u (by decide), fun _ => ⟨_, rfl, zupd_at, fM.rfl'.upd (by decide)⟩⟩)
    exact j_263 ⟨fun _ => j_263_11 q, fun _ => ⟨fun u => absurd ⟨by omega, u⟩ c, fun _ => j_263_11 q⟩⟩
end LOOK
