/-! The new rack: laid out, blocks stored. -/
theorem gPut_at {H : zHp} {c tag wd at' : Int} (h3 : H 3 11 ≤ 1) (h6 : H 6 c = 0) (hw : wd ≠ 3) : (∀ q i, q ≠ 3 → q ≠ 5 → q ≠ 7 → q ≠ 8 → gPut H c tag wd at' q i = H q i) ∧ (∀ i, gPut H c tag wd at' 5 i = if i = c then 1 else H 5 i) ∧ (∀ i, gPut H c tag wd at' 7 i = if i = c then tag else H 7 i) ∧ (∀ i, gPut H c tag wd at' 8 i = if 8 * c ≤ i ∧ i < 8 * c + 8 then H wd (at' + (i - 8 * c)) else H 8 i) ∧ (∀ i, i ≠ 10 → gPut H c tag wd at' 3 i = H 3 i) := by
  have e : gPut H c tag wd at' = zupd (zupd (zcpy (zupd H 3 10 (z32 (H 3 10 + 1))) wd at' 8 (8 * c) 8) 7 c tag) 5 c 1 := by
    unfold gPut gMend
    rw [if_pos h3, if_pos (by rw [zupd_ne (by decide), zupd_ne (by decide), zcpy_ne (by decide), zupd_ne (by decide)]; exact h6)]
  rw [e]
  refine ⟨fun q i q3 q5 q7 q8 => ?_, fun i => ?_, fun i => ?_, fun i => ?_, fun i hi => ?_⟩
  · rw [zupd_ne q5, zupd_ne q7, zcpy_ne q8, zupd_ne q3]
  · by_cases x : i = c
    · rw [if_pos x, x, zupd_at]
    · rw [if_neg x, zupd_no (fun u => x u.2), zupd_ne (by decide), zcpy_ne (by decide), zupd_ne (by decide)]
  · rw [zupd_ne (by decide)]
    by_cases x : i = c
    · rw [if_pos x, x, zupd_at]
    · rw [if_neg x, zupd_no (fun u => x u.2), zcpy_ne (by decide), zupd_ne (by decide)]
  · rw [zupd_ne (by decide), zupd_ne (by decide)]
    unfold zcpy
    by_cases x : 8 * c ≤ i ∧ i < 8 * c + 8
    · rw [if_pos ⟨rfl, x⟩, if_pos x, zupd_ne hw]
    · rw [if_neg (fun u => x u.2), if_neg x, zupd_ne (by decide)]
  · rw [zupd_ne (by decide), zupd_ne (by decide), zcpy_ne (by decide), zupd_no (fun u => hi u.2)]
def gHome (d w s : Int) : Int := gDk d (s / gPo d w) (s % gPo d w)
/-- the rack as new: all disks live, all cells written and sound, every spot at home -/
def gFr (d w r : Int) (H : zHp) : Prop := (H 3 11 = 0 ∧ (∀ c, 0 ≤ c → c < d * (r + 1) → H 5 c = 1) ∧ (∀ c, H 6 c = 0) ∧ (∀ j, H 9 j = 0) ∧ (∀ x, 0 ≤ x → x < d → H 4 x = 1)) ∧ (∀ s, 0 ≤ s → s < r * gPo d w → H 13 s = gHome d w s) ∧ (∀ row pos, 0 ≤ row → row < r → 0 ≤ pos → pos < d → H 7 (gCe r (gDk d row pos) row) = if pos < gPo d w then pos + 1 else 0) ∧ ∀ x, 0 ≤ x → x < d → H 7 (gCe r x r) = 0
def gBk (w s : Int) : Int := s / w * (w - 1) + s % w
/-- the data that lies in it -/
def gDat (d w r : Int) (V : Int → Int → Int) (H : zHp) : Prop := ∀ s i, 0 ≤ s → s < r * gPo d w → s % w < w - 1 → 0 ≤ i → i < 8 → H 8 (8 * gCe r (gHome d w s) (s / gPo d w) + i) = V (gBk w s) i
theorem gBk_so {w b : Int} (hw : 3 ≤ w) (hb : 0 ≤ b) : gBk w (gSo w b) = b := by
  have m1 := Int.emod_nonneg b (b := w - 1) (by omega)
  have m2 := Int.emod_lt_of_pos b (b := w - 1) (by omega)
  have e1 : gSo w b / w = b / (w - 1) := by
    unfold gSo
    rw [Int.add_comm, Int.add_mul_ediv_left _ _ (by omega), Int.ediv_eq_zero_of_lt m1 (by omega)]
    omega
  have e2 : gSo w b % w = b % (w - 1) := by
    unfold gSo
    rw [Int.add_comm, Int.add_mul_emod_self_left, Int.emod_eq_of_lt m1 (by omega)]
  unfold gBk
  rw [e1, e2, Int.mul_comm]
  exact Int.mul_ediv_add_emod b (w - 1)
theorem gSo_bk {w s : Int} (hw : 3 ≤ w) (hs : s % w < w - 1) : gSo w (gBk w s) = s := by
  have m1 := Int.emod_nonneg s (b := w) (by omega)
  have e1 : gBk w s / (w - 1) = s / w := by
    unfold gBk
    rw [Int.add_comm, Int.add_mul_ediv_right _ _ (by omega), Int.ediv_eq_zero_of_lt m1 (by omega)]
    omega
  have e2 : gBk w s % (w - 1) = s % w := by
    unfold gBk
    rw [Int.add_comm, Int.add_mul_emod_self_right, Int.emod_eq_of_lt m1 (by omega)]
  unfold gSo
  rw [e1, e2]
  exact Int.mul_ediv_add_emod s w
/-- two spots of one cell -/
theorem gHome_inj {d w r s u : Int} (hk : gOK d w r) (hs : 0 ≤ s ∧ s < r * gPo d w) (hu : 0 ≤ u ∧ u < r * gPo d w) (e : gCe r (gHome d w s) (s / gPo d w) = gCe r (gHome d w u) (u / gPo d w)) : s = u := by
  have p := gPo_rg hk
  have w3 := hk.2.2.1
  have qs := gSp_rg hk hs
  have qu := gSp_rg hk hu
  obtain ⟨e1, e2⟩ := gCe_inj hk (x := gHome d w s) (x' := gHome d w u) (o := s / gPo d w) (o' := u / gPo d w) (by omega) (by omega) e
  unfold gHome at e1
  rw [e2] at e1
  have e3 := gDk_inj hk (a := s % gPo d w) (b := u % gPo d w) (by omega) (by omega) e1
  have d1 := Int.mul_ediv_add_emod s (gPo d w)
  have d2 := Int.mul_ediv_add_emod u (gPo d w)
  rw [e2, e3] at d1
  omega
/-- Volume.layOut -/
theorem k_layOut {d w r : Int} {t : Nat} {L : Int → Int} {H : zHp} {Qr Qt : Int → zS → Prop} (h : gS d w r (t, L, H)) (h4 : ∀ x, 0 ≤ x → x < d → H 4 x = 1) (h3 : H 3 11 = 0) (hz : ∀ o j, (o = 5 ∨ o = 6 ∨ o = 7 ∨ o = 8 ∨ o = 9 ∨ o = 11 ∨ o = 13 ∨ o = 15) → H o j = 0)
    (hQ : ∀ H', gI d w r t L H' → gFr d w r H' → (∀ j, H' 8 j = 0) → (∀ q i, q ≠ 3 → q ≠ 5 → q ≠ 7 → q ≠ 8 → q ≠ 13 → H' q i = H q i) → (∀ i, i ≠ 10 → H' 3 i = H 3 i) → Qr 0 (t, L, H')) : zEnds 80 38 0 [(23, 12), (9, 0), (9, 0)] [] (t, L, H) Qr Qt := by
  have hk := h.1
  have hk' := hk
  obtain ⟨d1, d2, w1, w2, wd, r1, r2⟩ := hk
  obtain ⟨p1, p2, p3, p4⟩ := gPo_rg hk'
  have hsp := gSpots hk'
  have hl13 : L 13 = r * gPo d w := h.2.1.2.1.1
  have hl11 : L 11 = 8 := h.2.1.1.2.2.2.2.2.2.2.2
  have hl15 : L 15 = 8 := h.2.1.2.1.2.2.1
  -- what stays as it is through all puts
  let St : zHp → Prop := fun G => gI d w r t L G ∧ (∀ q i, q ≠ 3 → q ≠ 5 → q ≠ 7 → q ≠ 8 → q ≠ 13 → G q i = H q i) ∧ (∀ i, i ≠ 10 → G 3 i = H 3 i) ∧ (∀ j, G 8 j = 0)
  have put : ∀ G c tag wz, St G → (wz = 11 ∨ wz = 15) → fPr G c tag wz 0 = (1, gPut G c tag wz 0) ∧ St (gPut G c tag wz 0) ∧ (∀ i, gPut G c tag wz 0 5 i = if i = c then 1 else G 5 i) ∧ (∀ i, gPut G c tag wz 0 7 i = if i = c then tag else G 7 i) ∧ (∀ i, gPut G c tag wz 0 13 i = G 13 i) := by
    intro G c tag wz g hwz
    obtain ⟨g1, g2, g3, g4⟩ := g
    have e11 : G 3 11 = 0 := by rw [g3 11 (by decide)]; exact h3
    have e6 : G 6 c = 0 := by rw [g2 6 c (by decide) (by decide) (by decide) (by decide) (by decide)]; exact hz 6 c (by omega)
    obtain ⟨a1, a2, a3, a4, a5⟩ := gPut_at (H := G) (c := c) (tag := tag) (wd := wz) (at' := 0) (by omega) e6 (by omega)
    refine ⟨?_, ⟨g1.put, fun q i q3 q5 q7 q8 q13 => by rw [a1 q i q3 q5 q7 q8]; exact g2 q i q3 q5 q7 q8 q13, fun i hi => by rw [a5 i hi]; exact g3 i hi, fun j => ?_⟩, a2, a3, fun i => a1 13 i (by decide) (by decide) (by decide) (by decide)⟩
    · unfold fPr
      rw [if_neg (by omega)]
    · rw [a4]
      by_cases x : 8 * c ≤ j ∧ j < 8 * c + 8
      · rw [if_pos x]
        rcases hwz with u | u
        · rw [u, g2 11 _ (by decide) (by decide) (by decide) (by decide) (by decide)]; exact hz 11 _ (by omega)
        · rw [u, g2 15 _ (by decide) (by decide) (by decide) (by decide) (by decide)]; exact hz 15 _ (by omega)
      · rw [if_neg x]; exact g4 j
  -- the spots
  have spots : ∀ (n : Nat) (s : Int) (G : zHp), 0 ≤ s → s + n = r * gPo d w → St G → (∀ c, 0 ≤ c → c < d * (r + 1) → G 5 c = 1) → (∀ u, 0 ≤ u → u < s → G 13 u = gHome d w u) → (∀ x o, 0 ≤ x → x < d → 0 ≤ o → o ≤ r → (∀ u, 0 ≤ u → u < s → ¬ (gHome d w u = x ∧ u / gPo d w = o)) → G 7 (gCe r x o) = 0) → (∀ u, 0 ≤ u → u < s → G 7 (gCe r (gHome d w u) (u / gPo d w)) = u % gPo d w + 1) → zEnds 80 38 50 [(23, 12), (0, s), (9, 0)] [] (t, L, G) Qr Qt := by
    intro n
    induction n with
    | zero =>
      intro s G s0 s1 g g5 g13 g7a g7b
      have es : s = r * gPo d w := by omega
      obtain ⟨g1, g2, g3, g4⟩ := g
      have hN : G 1 6 = r * gPo d w := g1.1.2.2.1.1.2.2.2.2.2.2.1
      refine v_38_50 ⟨fun _ => hQ G g1 ⟨⟨by rw [g3 11 (by decide)]; exact h3, g5, fun c => by rw [g2 6 c (by decide) (by decide) (by decide) (by decide) (by decide)]; exact hz 6 c (by omega), fun j => by rw [g2 9 j (by decide) (by decide) (by decide) (by decide) (by decide)]; exact hz 9 j (by omega), fun x x0 x1 => by rw [g2 4 x (by decide) (by decide) (by decide) (by decide) (by decide)]; exact h4 x x0 x1⟩, fun u u0 u1 => g13 u u0 (by omega), fun row pos a0 a1 b0 b1 => ?_, fun x x0 x1 => g7a x r x0 x1 (by omega) (by omega) (fun u u0 u1 q => by have := gSp_rg hk' (s := u) (by omega); omega)⟩ g4 g2 g3, fun z => absurd (by show G 1 6 ≤ s; omega) z⟩
      have hg := gDk_rg (row := row) (pos := pos) hk'
      by_cases c : pos < gPo d w
      · rw [if_pos c]
        have m1 : (row * gPo d w + pos) / gPo d w = row := by
          rw [Int.add_comm, Int.add_mul_ediv_right _ _ (by omega), Int.ediv_eq_zero_of_lt b0 c]; omega
        have m2 : (row * gPo d w + pos) % gPo d w = pos := by
          rw [Int.add_comm, Int.add_mul_emod_self_right, Int.emod_eq_of_lt b0 c]
        have m3 : 0 ≤ row * gPo d w := Int.mul_nonneg a0 (by omega)
        have m4 : (row + 1) * gPo d w ≤ r * gPo d w := Int.mul_le_mul_of_nonneg_right (by omega) (by omega)
        have m5 : (row + 1) * gPo d w = row * gPo d w + gPo d w := by rw [Int.add_mul, Int.one_mul]
        have := g7b (row * gPo d w + pos) (by omega) (by omega)
        unfold gHome at this
        rw [m1, m2] at this
        exact this
      · rw [if_neg c]
        refine g7a _ row hg.1 hg.2 a0 (by omega) (fun u u0 u1 q => ?_)
        have qu := gSp_rg hk' (s := u) (by omega)
        obtain ⟨q1, q2⟩ := q
        unfold gHome at q1
        rw [q2] at q1
        have := gDk_inj hk' (a := u % gPo d w) (b := pos) (by omega) (by omega) q1
        omega
    | succ n ih =>
      intro s G s0 s1 g g5 g13 g7a g7b
      have hN : G 1 6 = r * gPo d w := g.1.1.2.2.1.1.2.2.2.2.2.2.1
      have hss : 0 ≤ s ∧ s < r * gPo d w := by omega
      have q := gSp_rg hk' hss
      have hg := gDk_rg (row := s / gPo d w) (pos := s % gPo d w) hk'
      refine v_38_50 ⟨fun z => absurd z (by show ¬ G 1 6 ≤ s; omega), fun _ => g_homeOf g.1.1 hss ⟨⟨s0, by show s < L 13; omega⟩, ?_⟩⟩
      show zEnds 80 58 0 [(23, 12), (0, s), (11, 15), (0, 0)] [] (t, L, zupd G 13 s (gHome d w s)) _ Qt
      have hI : gI d w r t L (zupd G 13 s (gHome d w s)) := by
        refine ⟨g.1.1.upd (by omega) (by omega), fun u u0 u1 => ?_⟩
        by_cases c : u = s
        · rw [c, zupd_at]
          unfold gHome
          omega
        · rw [zupd_no (fun v => c v.2)]; exact g.1.2 u u0 u1
      have hSt : St (zupd G 13 s (gHome d w s)) := ⟨hI, fun q i q3 q5 q7 q8 q13 => by rw [zupd_ne q13]; exact g.2.1 q i q3 q5 q7 q8 q13, fun i hi => by rw [zupd_ne (by decide)]; exact g.2.2.1 i hi, fun j => by rw [zupd_ne (by decide)]; exact g.2.2.2 j⟩
      obtain ⟨a1, a2, a3, a4, a5⟩ := put _ (gAt d w r (zupd G 13 s (gHome d w s)) s) (s % gPo d w + 1) 15 hSt (Or.inr rfl)
      have eat : gAt d w r (zupd G 13 s (gHome d w s)) s = gCe r (gHome d w s) (s / gPo d w) := by
        unfold gAt
        rw [zupd_at]
      have epa : fPa d w r (zupd G 13 s (gHome d w s)) s 15 0 = (1, gPut (zupd G 13 s (gHome d w s)) (gAt d w r (zupd G 13 s (gHome d w s)) s) (s % gPo d w + 1) 15 0) := by
        unfold fPa
        rw [if_neg (by rw [zupd_at]; unfold gHome; omega)]
        exact a1
      refine f_putAt hI hss (by omega) ?_
      rw [epa]
      rw [eat] at a2 a3 a4 a5 ⊢
      dsimp only
      rw [z32_id (x := s + 1) (by omega) (by omega)]
      refine ih (s + 1) _ (by omega) (by omega) a2 (fun c c0 c1 => ?_) (fun u u0 u1 => ?_) (fun x o x0 x1 o0 o1 hno => ?_) (fun u u0 u1 => ?_)
      · rw [a3, zupd_ne (by decide)]
        by_cases e : c = gCe r (gHome d w s) (s / gPo d w)
        · rw [if_pos e]
        · rw [if_neg e]; exact g5 c c0 c1
      · rw [a5]
        by_cases c : u = s
        · rw [c, zupd_at]
        · rw [zupd_no (fun v => c v.2)]; exact g13 u u0 (by omega)
      · rw [a4, zupd_ne (by decide)]
        have hns := hno s s0 (by omega)
        by_cases e : gCe r x o = gCe r (gHome d w s) (s / gPo d w)
        · have := gCe_inj hk' (x := x) (x' := gHome d w s) (o := o) (o' := s / gPo d w) (by omega) (by omega) e
          exact absurd ⟨this.1.symm, this.2.symm⟩ hns
        · rw [if_neg e]
          exact g7a x o x0 x1 o0 o1 (fun u u0 u1 => hno u u0 (by omega))
      · rw [a4, zupd_ne (by decide)]
        by_cases e : gCe r (gHome d w u) (u / gPo d w) = gCe r (gHome d w s) (s / gPo d w)
        · rw [if_pos e, gHome_inj hk' (s := u) (u := s) (by omega) hss e]
        · rw [if_neg e]
          exact g7b u u0 (by
            by_cases c : u = s
            · rw [c] at e; exact absurd rfl e
            · omega)
  -- the cells
  have cells : ∀ (n : Nat) (x : Int) (G : zHp), 0 ≤ x → x + n = d → St G → (∀ j, G 13 j = 0) → (∀ j, G 7 j = 0) → (∀ y o, 0 ≤ y → y < x → 0 ≤ o → o ≤ r → G 5 (gCe r y o) = 1) → zEnds 80 38 2 [(23, 12), (0, x), (9, 0)] [] (t, L, G) Qr Qt := by
    intro n
    induction n with
    | zero =>
      intro x G x0 x1 g g13 g7 g5
      have hD : G 1 0 = d := g.1.1.2.2.1.1.1
      refine v_38_2 ⟨fun _ => spots (r * gPo d w).toNat 0 G (by omega) (by omega) g (fun c c0 c1 => ?_) (fun u u0 u1 => by omega) (fun y o y0 y1 o0 o1 _ => g7 _) (fun u u0 u1 => by omega), fun z => absurd (by show G 1 0 ≤ x; omega) z⟩
      have c2 : c / (r + 1) < d := by
        rw [Int.ediv_lt_iff_lt_mul (by omega)]
        exact c1
      have c3 : 0 ≤ c / (r + 1) := Int.ediv_nonneg c0 (by omega)
      have c4 := Int.mul_ediv_add_emod c (r + 1)
      have c5 := Int.emod_nonneg c (b := r + 1) (by omega)
      have c6 := Int.emod_lt_of_pos c (b := r + 1) (by omega)
      have := g5 (c / (r + 1)) (c % (r + 1)) c3 (by omega) c5 (by omega)
      unfold gCe at this
      rw [Int.mul_comm, c4] at this
      exact this
    | succ n ih =>
      intro x G x0 x1 g g13 g7 g5
      have hD : G 1 0 = d := g.1.1.2.2.1.1.1
      have inner : ∀ (m : Nat) (o : Int) (K : zHp), 0 ≤ o → o + m = r + 1 → St K → (∀ j, K 13 j = 0) → (∀ j, K 7 j = 0) → (∀ y p, 0 ≤ y → y < x → 0 ≤ p → p ≤ r → K 5 (gCe r y p) = 1) → (∀ p, 0 ≤ p → p < o → K 5 (gCe r x p) = 1) → zEnds 80 38 15 [(23, 12), (0, x), (0, o)] [] (t, L, K) Qr Qt := by
        intro m
        induction m with
        | zero =>
          intro o K o0 o1 g g13 g7 g5 g5x
          have hR : K 1 2 = r := g.1.1.2.2.1.1.2.2.1
          refine v_38_15 ⟨fun _ => ?_, fun z => absurd (by show K 1 2 < o; omega) z⟩
          rw [z32_id (x := x + 1) (by omega) (by omega)]
          refine ih (x + 1) K (by omega) (by omega) g g13 g7 (fun y p y0 y1 p0 p1 => ?_)
          by_cases c : y = x
          · rw [c]; exact g5x p p0 (by omega)
          · exact g5 y p y0 (by omega) p0 p1
        | succ m ihm =>
          intro o K o0 o1 g g13 g7 g5 g5x
          have hR : K 1 2 = r := g.1.1.2.2.1.1.2.2.1
          obtain ⟨a1, a2, a3, a4, a5⟩ := put K (gCe r x o) 0 11 g (Or.inl rfl)
          refine v_38_15 ⟨fun z => absurd z (by show ¬ K 1 2 < o; omega), fun _ => f_wipe g.1 (by omega) (by omega) ?_⟩
          rw [a1]
          dsimp only
          rw [z32_id (x := o + 1) (by omega) (by omega)]
          refine ihm (o + 1) _ (by omega) (by omega) a2 (fun j => by rw [a5]; exact g13 j) (fun j => ?_) (fun y p y0 y1 p0 p1 => ?_) (fun p p0 p1 => ?_)
          · rw [a4]
            by_cases c : j = gCe r x o
            · rw [if_pos c]
            · rw [if_neg c]; exact g7 j
          · rw [a3]
            by_cases c : gCe r y p = gCe r x o
            · rw [if_pos c]
            · rw [if_neg c]; exact g5 y p y0 y1 p0 p1
          · rw [a3]
            by_cases c : gCe r x p = gCe r x o
            · rw [if_pos c]
            · rw [if_neg c]
              exact g5x p p0 (by
                by_cases cp : p = o
                · rw [cp] at c; exact absurd rfl c
                · omega)
      refine v_38_2 ⟨fun z => absurd z (by show ¬ G 1 0 ≤ x; omega), fun _ => inner (r + 1).toNat 0 G (by omega) (by omega) g g13 g7 g5 (fun p p0 p1 => by omega)⟩
  have hSt0 : St H := ⟨⟨h, fun u u0 u1 => by rw [hz 13 u (by omega)]; omega⟩, fun _ _ _ _ _ _ _ => rfl, fun _ _ => rfl, fun j => hz 8 j (by omega)⟩
  exact v_38 (cells d.toNat 0 H (by omega) (by omega) hSt0 (fun j => hz 13 j (by omega)) (fun j => hz 7 j (by omega)) (fun y o y0 y1 _ _ => by omega))
