/-! One call on a new object: the disks' calls. -/
theorem gW17 : gWd 17 := Or.inr (Or.inr (Or.inl rfl))
/-- Upkeep.addsUp: it answers -/
theorem g_addsUp {d w r s : Int} {t : Nat} {L : Int → Int} {H : zHp} {Qr Qt : Int → zS → Prop} (h : gI d w r t L H) (hs : 0 ≤ s ∧ s < r * gPo d w) (hp : H 13 s ≠ -1)
    (hQ : ∀ v H', (∀ q i, q ≠ 17 → H' q i = H q i) → (∀ i, 0 ≤ i → i < 8 → H' 17 i = zlxor (gRk d w r H 17 0 s 17 i) (H 8 (8 * gAt d w r H s + i))) → (v = 0 ∨ v = 1) → (v = 1 ↔ ∀ i, 0 ≤ i → i < 8 → H' 17 i = 0) → Qr v (t, L, H')) : zEnds 80 74 0 [(24, 16), (0, s), (9, 0)] [] (t, L, H) Qr Qt := by
  have hk := h.1.1
  have l17 : L 17 = 8 := h.1.2.1.2.1.2.2.2
  have l13 : L 13 = r * gPo d w := h.1.2.1.2.1.1
  have qs := gSp_rg hk hs
  have pl := h.2 s hs.1 hs.2
  have e13 : ∀ i, gRk d w r H 17 0 s 13 i = H 13 i := fun i => gRk_ne (by decide)
  have i1 : gI d w r t L (gRk d w r H 17 0 s) := h.of gW17 (fun q i hq => gRk_ne hq)
  refine v_74 (g_reckon h.1 h.2 hs gW17 (by omega) (v_39 ⟨by show 0 ≤ s ∧ s < L 13; omega, g_rowOf i1.1 hs ?_⟩))
  show zEnds 80 27 0 [(22, 3), (11, 17), (0, 0), (0, gRk d w r H 17 0 s 13 s), (0, s / gPo d w), (9, 0), (9, 0)] [] (t, L, gRk d w r H 17 0 s) _ Qt
  rw [e13]
  refine g_addTo i1.1 (x := H 13 s) (by omega) (by omega) (by omega) (by omega) ?_
  have fr : ∀ q i, q ≠ 17 → gAdd (gRk d w r H 17 0 s) 17 0 (gCe r (H 13 s) (s / gPo d w)) q i = H q i := fun q i hq => by rw [gAdd_ne hq, gRk_ne hq]
  have va : ∀ i, 0 ≤ i → i < 8 → gAdd (gRk d w r H 17 0 s) 17 0 (gCe r (H 13 s) (s / gPo d w)) 17 i = zlxor (gRk d w r H 17 0 s 17 i) (H 8 (8 * gAt d w r H s + i)) := fun i i0 i1 => by
    unfold gAdd
    rw [if_pos ⟨rfl, by omega, by omega⟩, gRk_ne (show (8 : Int) ≠ 17 by decide), show i - 0 = i by omega]
    rfl
  generalize gAdd (gRk d w r H 17 0 s) 17 0 (gCe r (H 13 s) (s / gPo d w)) = K at fr va
  have key : ∀ (n : Nat) (j : Int), 0 ≤ j → j + n = 8 → (∀ i, 0 ≤ i → i < j → K 17 i = 0) → zEnds 80 74 43 [(24, 16), (9, 0), (0, j)] [] (t, L, K) Qr Qt := by
    intro n
    induction n with
    | zero =>
      intro j j0 j1 z
      exact v_74_43 ⟨fun _ => ⟨Or.inr rfl, hQ 1 K fr va (Or.inr rfl) ⟨fun _ i i0 i1 => z i i0 (by omega), fun _ => rfl⟩⟩, fun u => absurd (by omega) u⟩
    | succ n ih =>
      intro j j0 j1 z
      refine v_74_43 ⟨fun u => by omega, fun _ => ⟨by show 0 ≤ j ∧ j < L 17; omega, fun u => ?_, fun u => ⟨Or.inl rfl, hQ 0 K fr va (Or.inl rfl) ⟨fun v => absurd v (by decide), fun v => absurd (zcmp_0.mpr (v j j0 (by omega))) u⟩⟩⟩⟩
      rw [z32_id (x := j + 1) (by omega) (by omega)]
      refine ih (j + 1) (by omega) (by omega) (fun i i0 i1 => ?_)
      by_cases c : i = j
      · rw [c]; exact zcmp_0.mp u
      · exact z i i0 (by omega)
  exact key 8 0 (by omega) (by omega) (fun i i0 i1 => by omega)
/-- the cells of a disk -/
def gOn (r x c : Int) : Prop := x * (r + 1) ≤ c ∧ c < x * (r + 1) + (r + 1)
/-- Rack.takeOut -/
theorem g_takeOut {d w r x : Int} {t : Nat} {L : Int → Int} {H : zHp} {Qr Qt : Int → zS → Prop} (h : gS d w r (t, L, H)) (hx : 0 ≤ x ∧ x < d)
    (hQ : ∀ H', gS d w r (t, L, H') → (∀ q i, q ≠ 4 → q ≠ 5 → q ≠ 6 → q ≠ 9 → H' q i = H q i) → (∀ i, (i = x → H' 4 i = 0) ∧ (i ≠ x → H' 4 i = H 4 i)) → (∀ c, (gOn r x c → H' 5 c = 0 ∧ H' 6 c = 0) ∧ (¬ gOn r x c → H' 5 c = H 5 c ∧ H' 6 c = H 6 c)) → (∀ j, (gOn r x (j / 9) ∧ H 6 (j / 9) ≠ 0 → H' 9 j = 0) ∧ (¬ (gOn r x (j / 9) ∧ H 6 (j / 9) ≠ 0) → H' 9 j = H 9 j)) → Qr 0 (t, L, H')) : zEnds 80 31 0 [(22, 3), (0, x), (9, 0)] [] (t, L, H) Qr Qt := by
  have hk := h.1
  obtain ⟨d1, d2, w1, w2, wd, r1, r2⟩ := hk
  have hk := h.1
  have l4 : L 4 = d := h.2.1.1.2.1
  have l5 : L 5 = d * (r + 1) := h.2.1.1.2.2.1
  have l6 : L 6 = d * (r + 1) := h.2.1.1.2.2.2.1
  have l9 : L 9 = 9 * (d * (r + 1)) := h.2.1.1.2.2.2.2.2.2.1
  have bd := (gCe_rg (x := x) (o := r) hk hx (by omega))
  unfold gCe at bd
  have nn : 0 ≤ x * (r + 1) := Int.mul_nonneg hx.1 (by omega)
  have ex : (x + 1) * (r + 1) = x * (r + 1) + (r + 1) := by rw [Int.add_mul, Int.one_mul]
  have key : ∀ (n : Nat) (c : Int) (G : zHp), x * (r + 1) ≤ c → c + n = x * (r + 1) + (r + 1) → gS d w r (t, L, G) → (∀ q i, q ≠ 4 → q ≠ 5 → q ≠ 6 → q ≠ 9 → G q i = H q i) → (∀ i, (i = x → G 4 i = 0) ∧ (i ≠ x → G 4 i = H 4 i)) → (∀ y, (x * (r + 1) ≤ y ∧ y < c → G 5 y = 0 ∧ G 6 y = 0) ∧ (¬ (x * (r + 1) ≤ y ∧ y < c) → G 5 y = H 5 y ∧ G 6 y = H 6 y)) → (∀ j, ((x * (r + 1) ≤ j / 9 ∧ j / 9 < c) ∧ H 6 (j / 9) ≠ 0 → G 9 j = 0) ∧ (¬ ((x * (r + 1) ≤ j / 9 ∧ j / 9 < c) ∧ H 6 (j / 9) ≠ 0) → G 9 j = H 9 j)) → zEnds 80 31 14 [(22, 3), (0, x), (0, c)] [] (t, L, G) Qr Qt := by
    intro n
    induction n with
    | zero =>
      intro c G c0 c1 g0 g1 g2 g3 g4
      have e31 : G 3 1 = r + 1 := g0.2.2.1.2.2.2.1
      have ec : c = x * (r + 1) + (r + 1) := by omega
      rw [ec] at g3 g4
      refine v_31_14 ⟨fun _ => hQ G g0 g1 g2 g3 g4, fun u => absurd ?_ u⟩
      show z32 (z32 (x + 1) * G 3 1) ≤ c
      rw [e31, z32_id (x := x + 1) (by omega) (by omega), ex, z32_id (by omega) (by omega)]
      omega
    | succ n ih =>
      intro c G c0 c1 g0 g1 g2 g3 g4
      have e31 : G 3 1 = r + 1 := g0.2.2.1.2.2.2.1
      refine v_31_14 ⟨fun u => absurd u ?_, fun _ => ⟨⟨by show 0 ≤ c ∧ c < L 5; omega, Or.inl rfl⟩, g_mend (by show 0 ≤ c ∧ c < L 6 ∧ 9 * c + 9 ≤ L 9 ∧ c ≤ 2000; omega) ?_⟩⟩
      · show ¬ z32 (z32 (x + 1) * G 3 1) ≤ c
        rw [e31, z32_id (x := x + 1) (by omega) (by omega), ex, z32_id (by omega) (by omega)]
        omega
      · rw [z32_id (x := c + 1) (by omega) (by omega)]
        have g0' : gS d w r (t, L, gMend (zupd G 5 c 0) c) := (g0.upd (by omega) (fun _ => Or.inl rfl)).mend
        have e6c : zupd G 5 c 0 6 c = H 6 c := by rw [zupd_ne (by decide)]; exact ((g3 c).2 (by omega)).2
        refine ih (c + 1) _ (by omega) (by omega) g0' (fun q i n4 n5 n6 n9 => ?_) (fun i => ?_) (fun y => ?_) (fun j => ?_)
        · rw [gMend_ne ⟨n6, n9⟩, zupd_ne n5]; exact g1 q i n4 n5 n6 n9
        · rw [gMend_ne (by decide), zupd_ne (by decide)]; exact g2 i
        · rw [gMend_ne (by decide)]
          have m6 : ∀ y, gMend (zupd G 5 c 0) c 6 y = if y = c then 0 else G 6 y := fun y => by
            unfold gMend
            by_cases z : zupd G 5 c 0 6 c = 0
            · rw [if_pos z]
              by_cases u : y = c
              · rw [if_pos u, u]; exact z
              · rw [if_neg u, zupd_ne (by decide)]
            · rw [if_neg z, zfil_ne (by decide)]
              by_cases u : y = c
              · rw [if_pos u, u, zupd_at]
              · rw [if_neg u, zupd_no (fun v => u v.2), zupd_ne (by decide)]
          rw [m6]
          by_cases u : y = c
          · rw [if_pos u, u, zupd_at]
            exact ⟨fun _ => ⟨rfl, rfl⟩, fun v => absurd (by omega) v⟩
          · rw [if_neg u, zupd_no (fun v => u v.2)]
            exact ⟨fun v => (g3 y).1 (by omega), fun v => (g3 y).2 (by omega)⟩
        · have m9 : gMend (zupd G 5 c 0) c 9 j = if j / 9 = c ∧ H 6 c ≠ 0 then 0 else G 9 j := by
            unfold gMend
            rw [e6c]
            by_cases z : H 6 c = 0
            · rw [if_pos z, if_neg (fun u => u.2 z), zupd_ne (by decide)]
            · rw [if_neg z]
              unfold zfil
              by_cases u : j / 9 = c
              · rw [if_pos ⟨rfl, by omega, by omega⟩, if_pos ⟨u, z⟩]
              · rw [if_neg (by omega), if_neg (fun v => u v.1), zupd_ne (by decide), zupd_ne (by decide)]
          rw [m9]
          by_cases u : j / 9 = c
          · by_cases z : H 6 c = 0
            · rw [if_neg (fun v => v.2 z), u]
              refine ⟨fun v => absurd z v.2, fun _ => ?_⟩
              exact (g4 j).2 (fun v => v.2 (by rw [u]; exact z))
            · rw [if_pos ⟨u, z⟩, u]
              exact ⟨fun _ => rfl, fun v => absurd ⟨by omega, z⟩ v⟩
          · rw [if_neg (fun v => u v.1)]
            exact ⟨fun v => (g4 j).1 ⟨by omega, v.2⟩, fun v => (g4 j).2 (fun y => v ⟨by omega, y.2⟩)⟩
  refine v_31 ⟨⟨by show 0 ≤ x ∧ x < L 4; omega, Or.inl rfl⟩, ?_⟩
  have e31 : zupd H 4 x 0 3 1 = r + 1 := by rw [zupd_ne (by decide)]; exact h.2.2.1.2.2.2.1
  show zEnds 80 31 14 [(22, 3), (0, x), (0, z32 (x * zupd H 4 x 0 3 1))] [] (t, L, zupd H 4 x 0) Qr Qt
  rw [e31, z32_id (x := x * (r + 1)) (by omega) (by omega)]
  refine key (r + 1).toNat _ _ (by omega) (by omega) (h.upd (by omega) (fun _ => Or.inl rfl)) (fun q i n4 _ _ _ => zupd_ne n4) (fun i => ⟨fun e => by rw [e, zupd_at], fun e => zupd_no (fun v => e v.2)⟩) (fun y => ⟨fun v => by omega, fun _ => ⟨zupd_ne (by decide), zupd_ne (by decide)⟩⟩) (fun j => ⟨fun v => by omega, fun _ => zupd_ne (by decide)⟩)
theorem gCnt_le1 {P : Int → Prop} : ∀ (n : Nat) (a : Int), (∀ i j, a ≤ i → i < a + n → a ≤ j → j < a + n → P i → P j → i = j) → gCnt P a n ≤ 1 := by
  intro n
  induction n with
  | zero => intro a _; exact (by decide : (0 : Int) ≤ 1)
  | succ n ih =>
    intro a h
    by_cases p : P a
    · rw [gCnt_yes p]
      have z : ∀ (m : Nat) (b : Int), a + 1 ≤ b → b + m ≤ a + (n + 1 : Nat) → gCnt P b m = 0 := by
        intro m
        induction m with
        | zero => intro b _ _; rfl
        | succ m ihm =>
          intro b b0 b1
          rw [gCnt_no (fun q => by have := h a b (by omega) (by omega) (by omega) (by omega) p q; omega)]
          exact ihm (b + 1) (by omega) (by omega)
      rw [z n (a + 1) (by omega) (by omega)]
      decide
    · rw [gCnt_no p]
      exact ih (a + 1) (fun i j i0 i1 j0 j1 => h i j (by omega) (by omega) (by omega) (by omega))
section DISKS
variable {d w r : Int} {t : Nat} {L : Int → Int} {H X : zHp} {Qr Qt : Int → zS → Prop}
theorem p_sound (h : kF d w r t L H) {s : Int} (hs : 0 ≤ s ∧ s < r * gPo d w) : gSound d w r H s := by
  have hk := h.1.1.1.1
  have qs := gSp_rg hk hs
  obtain ⟨⟨f3, f5, f6, f9, f4⟩, f13, f7, f7l⟩ := h.1.2.1
  have e := f13 s hs.1 hs.2
  have hg : 0 ≤ gHome d w s ∧ gHome d w s < d := gDk_rg (row := s / gPo d w) (pos := s % gPo d w) hk
  have hc := gCe_rg (x := gHome d w s) (o := s / gPo d w) hk hg (by omega)
  refine ⟨by rw [e]; omega, ?_, ?_⟩
  · unfold gAt
    rw [e, f5 _ hc.1 (by omega)]
    decide
  · unfold gAt
    exact f6 _
theorem p_mval (hm : mF d w r L H) {x o : Int} (hx : 0 ≤ x ∧ x < d) (ho : 0 ≤ o ∧ o ≤ r) : mVal H x o := ⟨by rw [hm.2.2.1.1 x, if_pos hx]; decide, by rw [hm.2.2.1.2.1 x o hx.1 hx.2 ho.1 ho.2]; decide, fun k _ _ => hm.2.2.2.2 40 _ (by omega)⟩
theorem p_mpl (hm : mF d w r L H) {row p : Int} (hr : 0 ≤ row ∧ row < r) (hp : 0 ≤ p ∧ p < gPo d w) : mPl d w H row p = gDk d row p := by
  unfold mPl
  rw [if_neg (by rw [hm.2.1.1]; decide)]
  exact hm.2.2.1.2.2.1 row p hr.1 hr.2 hp.1 hp.2
theorem p_mok (hm : mF d w r L H) : mOk d w r H := fun row p r0 r1 q0 q1 => by
  have := gDk_rg (row := row) (pos := p) hm.1.1
  rw [p_mpl hm ⟨r0, r1⟩ ⟨q0, q1⟩]
  omega
theorem p_mspt (hm : mF d w r L H) {row p : Int} (hr : 0 ≤ row ∧ row < r) (hp : 0 ≤ p ∧ p < gPo d w) : ¬ mSpt d w H row p := fun u => by
  have := gDk_rg (row := row) (pos := p) hm.1.1
  refine u.2 ?_
  rw [p_mpl hm hr hp]
  exact p_mval hm this (by omega)
theorem p_mul (hm : mF d w r L H) : z32 (H 35 2 * H 35 4) = gPo d w := by
  obtain ⟨p1, p2, p3, p4⟩ := gPo_rg hm.1.1
  have h1 := hm.1.1.1
  have h2 := hm.1.1.2.1
  have h3 := hm.1.1.2.2.1
  rw [hm.1.2.2.2.1.2.1, hm.1.2.2.2.1.2.2.2.1]
  show z32 (gPo d w) = gPo d w
  exact z32_id (by omega) (by omega)
-- rebuild
theorem p_rebuild (ht : 118 ≤ t) (hX : lR X H) (h : kF d w r t L H) (hm : mF d w r L H) : cOK pT 281 161 [(20, 0)] 213 [(29, 35), (9, 0), (9, 0), (9, 0)] X t L H := by
  have on : H 0 11 = 1 := h.2.2.2.1
  have hk := h.1.1.1.1
  have sp := gSpots hk
  have n6 : H 1 6 = r * gPo d w := h.1.1.1.2.2.1.1.2.2.2.2.2.2.1
  have l13 : L 13 = r * gPo d w := h.1.1.1.2.1.2.1.1
  have key : ∀ (n : Nat) (s : Int), 0 ≤ s → s + n = r * gPo d w → ∀ Qr Qt, Qr 0 (t, L, H) → zEnds 80 69 2 [(24, 16), (0, s), (9, 0)] [] (t, L, H) Qr Qt := by
    intro n
    induction n with
    | zero =>
      intro s s0 s1 Qr Qt hq
      exact v_69_2 ⟨fun _ => hq, fun u => absurd (by show H 1 6 ≤ s; omega) u⟩
    | succ n ih =>
      intro s s0 s1 Qr Qt hq
      have so := (p_sound h (s := s) (by omega)).1
      refine v_69_2 ⟨fun u => absurd u (by show ¬ H 1 6 ≤ s; omega), fun _ => v_39 ⟨by show 0 ≤ s ∧ s < L 13; omega, fun _ => ?_, fun u => absurd so u⟩⟩
      rw [z32_id (x := s + 1) (by omega) (by omega)]
      exact ih (s + 1) (by omega) (by omega) Qr Qt hq
  refine cOK_ret (v := 0) ht hX hm (v_161 (k_on on (v_69 (key (r * gPo d w).toNat 0 (by omega) (by omega) _ _ (v_174 ⟨fun _ => ⟨rfl, H, rfl, fC.rfl'⟩, fun u => absurd (by decide) u⟩))))) (fun t' H' ht' hm' => ?_)
  obtain ⟨d1, d2, w1, w2, wd, r1, r2⟩ := hk
  have hm2 : mF d w r L (zupd H' 35 0 0) := hm'.up
  have e3 : zupd H' 35 0 0 35 3 = r := hm2.1.2.2.2.1.2.2.1
  have po := gPo_rg hm2.1.1
  have rows : ∀ (n : Nat) (row : Int), 0 ≤ row → row + n = r → zEnds 118 213 24 [(29, 35), (0, row), (9, 0), (9, 0)] [] (t', L, zupd H' 35 0 0) (fun b S2 => b = 0 ∧ ∃ H2, S2 = (t', L, H2) ∧ H2 35 0 = 0 ∧ fM H' H2) (fun _ _ => False) := by
    intro n
    induction n with
    | zero =>
      intro row w0 w1
      exact j_213_24 ⟨fun _ => ⟨rfl, _, rfl, zupd_at, fM.rfl'.upd (by decide)⟩, fun u => absurd (by show zupd H' 35 0 0 35 3 ≤ row; omega) u⟩
    | succ n ih =>
      intro row w0 w1
      have nx : ∀ x2 x3 : Int, zEnds 118 213 118 [(29, 35), (0, row), (0, x2), (0, x3)] [] (t', L, zupd H' 35 0 0) (fun b S2 => b = 0 ∧ ∃ H2, S2 = (t', L, H2) ∧ H2 35 0 = 0 ∧ fM H' H2) (fun _ _ => False) := fun x2 x3 => j_213_118 (by
        rw [z32_id (x := row + 1) (by omega) (by omega)]
        exact ih (row + 1) (by omega) (by omega))
      refine j_213_24 ⟨fun u => absurd u (by show ¬ zupd H' 35 0 0 35 3 ≤ row; omega), fun _ => m_freeSpare hm2.1 (by omega) ?_⟩
      generalize mSpare d w (zupd H' 35 0 0) row = sp2
      have inner : ∀ (m : Nat) (p : Int), 0 ≤ p → p + m = gPo d w → zEnds 118 213 40 [(29, 35), (0, row), (0, sp2), (0, p)] [] (t', L, zupd H' 35 0 0) (fun b S2 => b = 0 ∧ ∃ H2, S2 = (t', L, H2) ∧ H2 35 0 = 0 ∧ fM H' H2) (fun _ _ => False) := by
        intro m
        induction m with
        | zero =>
          intro p q0 q1
          exact j_213_40 ⟨fun _ => nx _ _, fun u => absurd (by show z32 (zupd H' 35 0 0 35 2 * zupd H' 35 0 0 35 4) ≤ p; rw [p_mul hm2]; omega) u⟩
        | succ m ihm =>
          intro p q0 q1
          refine j_213_40 ⟨fun u => absurd u (by show ¬ z32 (zupd H' 35 0 0 35 2 * zupd H' 35 0 0 35 4) ≤ p; rw [p_mul hm2]; omega), fun _ => ⟨fun _ => nx _ _, fun _ => m_placeOf hm2.1 (by omega) (by omega) ⟨fun _ => j_213_112 ?_, fun u => absurd ?_ u⟩⟩⟩
          · rw [z32_id (x := p + 1) (by omega) (by omega)]
            exact ihm (p + 1) (by omega) (by omega)
          · rw [p_mpl hm2 (by omega) (by omega)]
            exact (gDk_rg hm2.1.1).1
      exact inner (gPo d w).toNat 0 (by omega) (by omega)
  exact j_213 ⟨fun _ => j_213_13 (m_f0 ⟨fun _ => rows r.toNat 0 (by omega) (by omega), fun u => absurd rfl u⟩), fun u => absurd (by show H' 35 12 ≠ 0; rw [hm'.2.1.1]; decide) u⟩
-- copyBack
theorem p_copyBack (ht : 118 ≤ t) (hX : lR X H) (h : kF d w r t L H) (hm : mF d w r L H) : cOK pT 282 162 [(20, 0)] 214 [(29, 35), (9, 0), (9, 0), (9, 0), (9, 0)] X t L H := by
  have on : H 0 11 = 1 := h.2.2.2.1
  have hk := h.1.1.1.1
  have sp := gSpots hk
  have n6 : H 1 6 = r * gPo d w := h.1.1.1.2.2.1.1.2.2.2.2.2.2.1
  have key : ∀ (n : Nat) (s : Int), 0 ≤ s → s + n = r * gPo d w → ∀ Qr Qt, Qr 0 (t, L, H) → zEnds 80 70 2 [(24, 16), (0, s), (9, 0)] [] (t, L, H) Qr Qt := by
    intro n
    induction n with
    | zero =>
      intro s s0 s1 Qr Qt hq
      exact v_70_2 ⟨fun _ => hq, fun u => absurd (by show H 1 6 ≤ s; omega) u⟩
    | succ n ih =>
      intro s s0 s1 Qr Qt hq
      have hs : 0 ≤ s ∧ s < r * gPo d w := by omega
      have qs := gSp_rg hk hs
      have hg := gDk_rg (row := s / gPo d w) (pos := s % gPo d w) hk
      have hc := gCe_rg (x := gDk d (s / gPo d w) (s % gPo d w)) (o := s / gPo d w) hk hg (by omega)
      have e4 : H 4 (gDk d (s / gPo d w) (s % gPo d w)) = 1 := h.1.2.1.1.2.2.2.2 _ hg.1 hg.2
      have e5 : H 5 (gCe r (gDk d (s / gPo d w) (s % gPo d w)) (s / gPo d w)) = 1 := h.1.2.1.1.2.1 _ hc.1 (by omega)
      refine v_70_2 ⟨fun u => absurd u (by show ¬ H 1 6 ≤ s; omega), fun _ => g_homeOf h.1.1.1 hs (g_isLive h.1.1.1 hg ⟨fun u => absurd u (by show ¬ H 4 _ = 0; omega), fun _ => g_rowOf h.1.1.1 hs (g_isWritten h.1.1.1 hg (by omega) ⟨fun _ => ?_, fun u => absurd (by show H 5 _ ≠ 0; omega) u⟩)⟩)⟩
      rw [z32_id (x := s + 1) (by omega) (by omega)]
      exact ih (s + 1) (by omega) (by omega) Qr Qt hq
  refine cOK_ret (v := 0) ht hX hm (v_162 (k_on on (v_70 (key (r * gPo d w).toNat 0 (by omega) (by omega) _ _ (v_174 ⟨fun _ => ⟨rfl, H, rfl, fC.rfl'⟩, fun u => absurd (by decide) u⟩))))) (fun t' H' ht' hm' => ?_)
  obtain ⟨d1, d2, w1, w2, wd, r1, r2⟩ := hk
  have hm2 : mF d w r L (zupd H' 35 0 0) := hm'.up
  have e3 : zupd H' 35 0 0 35 3 = r := hm2.1.2.2.2.1.2.2.1
  have po := gPo_rg hm2.1.1
  have l37 : L 37 = 16 := hm2.1.2.1.2.1
  have l38 : L 38 = 1040 := hm2.1.2.1.2.2.1
  have rows : ∀ (n : Nat) (row : Int), 0 ≤ row → row + n = r → zEnds 118 214 24 [(29, 35), (0, row), (9, 0), (9, 0), (9, 0)] [] (t', L, zupd H' 35 0 0) (fun b S2 => b = 0 ∧ ∃ H2, S2 = (t', L, H2) ∧ H2 35 0 = 0 ∧ fM H' H2) (fun _ _ => False) := by
    intro n
    induction n with
    | zero =>
      intro row w0 w1
      exact j_214_24 ⟨fun _ => ⟨rfl, _, rfl, zupd_at, fM.rfl'.upd (by decide)⟩, fun u => absurd (by show zupd H' 35 0 0 35 3 ≤ row; omega) u⟩
    | succ n ih =>
      intro row w0 w1
      refine j_214_24 ⟨fun u => absurd u (by show ¬ zupd H' 35 0 0 35 3 ≤ row; omega), fun _ => ?_⟩
      have inner : ∀ (m : Nat) (p : Int), 0 ≤ p → p + m = gPo d w → zEnds 118 214 34 [(29, 35), (0, row), (0, p), (9, 0), (9, 0)] [] (t', L, zupd H' 35 0 0) (fun b S2 => b = 0 ∧ ∃ H2, S2 = (t', L, H2) ∧ H2 35 0 = 0 ∧ fM H' H2) (fun _ _ => False) := by
        intro m
        induction m with
        | zero =>
          intro p q0 q1
          refine j_214_34 ⟨fun _ => ?_, fun u => absurd (by show z32 (zupd H' 35 0 0 35 2 * zupd H' 35 0 0 35 4) ≤ p; rw [p_mul hm2]; omega) u⟩
          rw [z32_id (x := row + 1) (by omega) (by omega)]
          exact ih (row + 1) (by omega) (by omega)
        | succ m ihm =>
          intro p q0 q1
          have hg := gDk_rg (row := row) (pos := p) hm2.1.1
          have mv := p_mval hm2 hg (o := row) (by omega)
          refine j_214_34 ⟨fun u => absurd u (by show ¬ z32 (zupd H' 35 0 0 35 2 * zupd H' 35 0 0 35 4) ≤ p; rw [p_mul hm2]; omega), fun _ => m_diskOf hm2.1 (by omega) (by omega) ⟨by show 0 ≤ gDk d row p ∧ gDk d row p < L 37; omega, fun u => absurd u mv.1, fun _ => m_at (by omega) (by omega) ⟨by show 0 ≤ 65 * gDk d row p + row ∧ 65 * gDk d row p + row < L 38; omega, fun u => absurd u mv.2.1, fun _ => j_214_137 ?_⟩⟩⟩
          rw [z32_id (x := p + 1) (by omega) (by omega)]
          exact ihm (p + 1) (by omega) (by omega)
      exact inner (gPo d w).toNat 0 (by omega) (by omega)
  exact j_214 ⟨fun _ => j_214_13 (m_f0 ⟨fun _ => rows r.toNat 0 (by omega) (by omega), fun u => absurd rfl u⟩), fun u => absurd (by show H' 35 12 ≠ 0; rw [hm'.2.1.1]; decide) u⟩
-- scrub
theorem p_scrub (ht : 118 ≤ t) (hX : lR X H) (h : kF d w r t L H) (hm : mF d w r L H) : cOK pT 283 163 [(20, 0)] 215 [(29, 35), (9, 0), (9, 0), (9, 0)] X t L H := by
  have on : H 0 11 = 1 := h.2.2.2.1
  have hk := h.1.1.1.1
  have sp := gSpots hk
  have po := gPo_rg hk
  obtain ⟨d1, d2, w1, w2, wd, r1, r2⟩ := hk
  have hk := h.1.1.1.1
  have n1 : H 1 1 = w := h.1.1.1.2.2.1.1.2.1
  have n5 : H 1 5 = r * gGr d w := h.1.1.1.2.2.1.1.2.2.2.2.2.1
  have n16 : H 16 4 = 0 := h.2.2.2.2.2.2.2.1
  have wsp : w ≤ r * gPo d w := by
    have : 1 * gPo d w ≤ r * gPo d w := Int.mul_le_mul_of_nonneg_right (by omega) (by omega)
    omega
  have st1 : 48 * 1 ≤ r * gGr d w := Int.mul_le_mul r1 po.1 (by decide) (by omega)
  have step : ∀ K : zHp, (∀ q i, q ≠ 16 → K q i = H q i) → zEnds 80 73 35 [(24, 16), (0, 0), (0, 1), (0, 0)] [] (t, L, K) (fun v2 S2 => zEnds 80 174 0 [(20, 0), (0, v2)] [] S2 (fun v3 S3 => v3 = 0 ∧ ∃ H1, S3 = (t, L, H1) ∧ fC H H1) (fun _ _ => False)) (fun _ _ => False) := by
    intro K e
    have iK : gI d w r t L K := h.1.1.keep (fun q i hq => e q i (by omega)) (fun q i hq => by rw [e q i (by omega)]; exact h.1.1.1.2.2.2 q i (by omega))
    have so : ∀ s, 0 ≤ s → s < r * gPo d w → gSound d w r K s := fun s s0 s1 => by
      have := p_sound h ⟨s0, s1⟩
      unfold gSound gVal gAt at this ⊢
      rw [e 13 s (by decide), e 5 _ (by decide), e 6 _ (by decide)]
      exact this
    have k1 : K 1 1 = w := by rw [e 1 1 (by decide)]; exact n1
    have key : ∀ (n : Nat) (s : Int), 0 ≤ s → s + n = w → zEnds 80 73 35 [(24, 16), (0, 0), (0, 1), (0, s)] [] (t, L, K) (fun v2 S2 => zEnds 80 174 0 [(20, 0), (0, v2)] [] S2 (fun v3 S3 => v3 = 0 ∧ ∃ H1, S3 = (t, L, H1) ∧ fC H H1) (fun _ _ => False)) (fun _ _ => False) := by
      intro n
      induction n with
      | zero =>
        intro s s0 s1
        refine v_73_35 ⟨fun _ => ⟨fun u => absurd u (by decide), fun _ => g_addsUp iK ⟨by decide, by omega⟩ (so 0 (by decide) (by omega)).1 (fun v H' f _ _ _ => ⟨fun _ => v_174 ⟨fun _ => ⟨rfl, H', rfl, fun q i hq => by rw [f q i (by omega), e q i (by omega)]⟩, fun u => absurd (by decide) u⟩, fun _ => v_174 ⟨fun _ => ⟨rfl, _, rfl, fun q i hq => by rw [zupd_ne (by omega)]; show H' q i = H q i; rw [f q i (by omega), e q i (by omega)]⟩, fun u => absurd (by decide) u⟩⟩)⟩, fun u => absurd ?_ u⟩
        show z32 (0 + K 1 1) ≤ s
        rw [k1, z32_id (x := 0 + w) (by omega) (by omega)]
        omega
      | succ n ih =>
        intro s s0 s1
        refine v_73_35 ⟨fun u => absurd u ?_, fun _ => g_isSpoilt iK.1 iK.2 (by omega) (fun _ u => absurd (so s s0 (by omega)) u) (fun _ => ⟨fun _ => ⟨fun u => absurd u (by decide), fun _ => g_isSound iK.1 iK.2 (by omega) (fun _ => ⟨fun u => absurd u (by decide), fun _ => ?_⟩) (fun u => absurd (so s s0 (by omega)) u)⟩, fun u => absurd rfl u⟩)⟩
        · show ¬ z32 (0 + K 1 1) ≤ s
          rw [k1, z32_id (x := 0 + w) (by omega) (by omega)]
          omega
        · rw [z32_id (x := s + 1) (by omega) (by omega)]
          exact ih (s + 1) (by omega) (by omega)
    exact key w.toNat 0 (by omega) (by omega)
  refine cOK_ret (v := 0) ht hX hm (v_163 (k_on on (v_73 ?_))) (fun t' H' ht' hm' => ?_)
  · show ((H 1 5 : Int) ≠ 0) ∧ zEnds 80 73 35 [(24, 16), (0, z32 ((H 1 1) * (H 16 4))), (0, 1), (0, z32 ((H 1 1) * (H 16 4)))] [] (t, L, zupd H 16 4 (zrem (z32 (H 16 4 + 1)) (H 1 5))) _ _
    rw [n16, Int.mul_zero, show z32 0 = 0 from rfl]
    exact ⟨by omega, step _ (fun q i hq => zupd_ne hq)⟩
  · have hm2 : mF d w r L (zupd H' 35 0 0) := hm'.up
    have e15 : zupd H' 35 0 0 35 15 = 0 := hm2.2.1.2.2.2 15 (by decide) (by decide) (by decide) (by decide) (by decide) (by decide) (by decide) (by decide) (by decide)
    have e4 : zupd H' 35 0 0 35 4 = gGr d w := hm2.1.2.2.2.1.2.2.2.1
    have e3 : zupd H' 35 0 0 35 3 = r := hm2.1.2.2.2.1.2.2.1
    have e2 : zupd H' 35 0 0 35 2 = w := hm2.1.2.2.2.1.2.1
    have gb := gBl_le hk
    have g5 : r * gGr d w ≤ 64 * 5 := Int.mul_le_mul r2 po.2.1 (by omega) (by decide)
    have mstep : ∀ K : zHp, mS d w r L K → mOk d w r K → (∀ row p, 0 ≤ row → row < r → 0 ≤ p → p < gPo d w → ¬ mSpt d w K row p) → fM H' K → K 35 0 = 0 → ∀ (n : Nat) (p : Int), 0 ≤ p → p + n = w → zEnds 118 215 69 [(29, 35), (0, 0), (0, 0), (0, p)] [] (t', L, K) (fun b S2 => b = 0 ∧ ∃ H2, S2 = (t', L, H2) ∧ H2 35 0 = 0 ∧ fM H' H2) (fun _ _ => False) := by
      intro K kS kO kN kF k0 n
      have k2 : K 35 2 = w := kS.2.2.2.1.2.1
      induction n with
      | zero =>
        intro p q0 q1
        refine j_215_69 ⟨fun _ => ⟨rfl, K, rfl, k0, kF⟩, fun u => absurd ?_ u⟩
        show z32 (0 + K 35 2) ≤ p
        rw [k2, z32_id (x := 0 + w) (by omega) (by omega)]
        omega
      | succ n ih =>
        intro p q0 q1
        refine j_215_69 ⟨fun u => absurd u ?_, fun _ => m_isSpoilt kS kO (by omega) (by omega) (fun u => absurd u (kN 0 p (by decide) (by omega) q0 (by omega))) (fun _ => ⟨fun _ => ?_, fun u => absurd rfl u⟩)⟩
        · show ¬ z32 (0 + K 35 2) ≤ p
          rw [k2, z32_id (x := 0 + w) (by omega) (by omega)]
          omega
        · rw [z32_id (x := p + 1) (by omega) (by omega)]
          exact ih (p + 1) (by omega) (by omega)
    refine j_215 ⟨fun _ => j_215_13 (m_f0 ⟨fun _ => ?_, fun u => absurd rfl u⟩), fun u => absurd (by show H' 35 12 ≠ 0; rw [hm'.2.1.1]; decide) u⟩
    show ((zupd H' 35 0 0 35 4 : Int) ≠ 0) ∧ (((zupd H' 35 0 0 35 4 : Int) ≠ 0) ∧ (((z32 ((zupd H' 35 0 0 35 3) * (zupd H' 35 0 0 35 4)) : Int) ≠ 0) ∧ zEnds 118 215 69 [(29, 35), (0, zdiv (zupd H' 35 0 0 35 15) (zupd H' 35 0 0 35 4)), (0, z32 ((zupd H' 35 0 0 35 2) * (zrem (zupd H' 35 0 0 35 15) (zupd H' 35 0 0 35 4)))), (0, z32 ((zupd H' 35 0 0 35 2) * (zrem (zupd H' 35 0 0 35 15) (zupd H' 35 0 0 35 4))))] [] (t', L, zupd (zupd H' 35 0 0) 35 15 (zrem (z32 (zupd H' 35 0 0 35 15 + 1)) (z32 ((zupd H' 35 0 0 35 3) * (zupd H' 35 0 0 35 4))))) _ _))
    rw [e15, e4, e3, e2, zdiv_pos (Int.le_refl 0) (by decide) (by omega), zrem_pos (Int.le_refl 0), Int.zero_ediv, Int.zero_emod, Int.mul_zero, show z32 0 = 0 from rfl, z32_id (x := r * gGr d w) (by omega) (by omega)]
    have kp : ∀ row p, mPl d w (zupd (zupd H' 35 0 0) 35 15 (zrem (z32 (0 + 1)) (r * gGr d w))) row p = mPl d w (zupd H' 35 0 0) row p := fun row p => by
      unfold mPl
      rw [zupd_no (by decide), zupd_ne (show (41 : Int) ≠ 35 by decide), if_neg (by rw [hm2.2.1.1]; decide), if_neg (by rw [hm2.2.1.1]; decide)]
    refine ⟨by omega, by omega, by omega, mstep _ (hm2.1.upd (by omega)) (fun row p a b c e => by rw [kp]; exact p_mok hm2 row p a b c e) (fun row p a b c e u => ?_) ((fM.rfl'.upd (by decide)).upd (by decide)) (by rw [zupd_no (by decide)]; exact zupd_at) w.toNat 0 (by omega) (by omega)⟩
    refine p_mspt hm2 ⟨a, b⟩ ⟨c, e⟩ ?_
    unfold mSpt mVal at u ⊢
    rw [kp] at u
    rw [zupd_ne (show (37 : Int) ≠ 35 by decide), zupd_ne (show (38 : Int) ≠ 35 by decide)] at u
    refine ⟨u.1, fun z => u.2 ⟨z.1, z.2.1, fun k k0 k1 => ?_⟩⟩
    rw [zupd_ne (show (40 : Int) ≠ 35 by decide)]
    exact z.2.2 k k0 k1
end DISKS
