/-! The volume: counts, free spares, places found and forgotten. -/
theorem gSpots {d w r : Int} (hk : gOK d w r) : 0 ≤ r * gPo d w ∧ r * gPo d w ≤ 960 ∧ 48 ≤ r * gPo d w := by
  obtain ⟨p1, p2, p3, p4⟩ := gPo_rg hk
  have h2 := hk.2.1
  have h3 := hk.2.2.1
  have h6 := hk.2.2.2.2.2.1
  have h7 := hk.2.2.2.2.2.2
  have a1 : r * gPo d w ≤ 64 * gPo d w := Int.mul_le_mul_of_nonneg_right h7 (by omega)
  have a2 : 48 * gPo d w ≤ r * gPo d w := Int.mul_le_mul_of_nonneg_right h6 (by omega)
  omega
/-- Volume.countLost -/
theorem g_countLost {d w r : Int} {S : zS} {Qr Qt : Int → zS → Prop} (h : gS d w r S) (hQ : Qr (gCnt (fun s => S.2.2 13 s = -1) 0 (r * gPo d w).toNat) S) : zEnds 80 51 0 [(23, 12), (9, 0), (9, 0)] [] S Qr Qt := by
  have hl : S.2.1 13 = r * gPo d w := h.2.1.2.1.1
  have hN : S.2.2 1 6 = r * gPo d w := h.2.2.1.1.2.2.2.2.2.2.1
  have hs := gSpots h.1
  have key : ∀ (n : Nat) (c s : Int), 0 ≤ s → s + n = r * gPo d w → 0 ≤ c → c ≤ s → Qr (c + gCnt (fun s => S.2.2 13 s = -1) s n) S → zEnds 80 51 4 [(23, 12), (0, c), (0, s)] [] S Qr Qt := by
    intro n
    induction n with
    | zero =>
      intro c s s1 s2 c1 c2 hq
      refine v_51_4 ⟨fun _ => ?_, fun z => absurd (by rw [hN]; omega) z⟩
      have e : c + gCnt (fun s => S.2.2 13 s = -1) s 0 = c := by show c + 0 = c; omega
      rw [e] at hq
      exact hq
    | succ n ih =>
      intro c s s1 s2 c1 c2 hq
      refine v_51_4 ⟨fun z => absurd z (by rw [hN]; omega), fun _ => ⟨⟨s1, by omega⟩, fun z => ?_, fun z => ?_⟩⟩
      · rw [z32_id (x := c + 0) (by omega) (by omega), z32_id (x := s + 1) (by omega) (by omega)]
        rw [gCnt_no (P := fun s => S.2.2 13 s = -1) z] at hq
        exact ih (c + 0) (s + 1) (by omega) (by omega) (by omega) (by omega) (by rw [show c + 0 = c by omega]; exact hq)
      · rw [z32_id (x := c + 1) (by omega) (by omega), z32_id (x := s + 1) (by omega) (by omega)]
        rw [gCnt_yes (P := fun s => S.2.2 13 s = -1) (Classical.not_not.mp z), ← Int.add_assoc] at hq
        exact ih (c + 1) (s + 1) (by omega) (by omega) (by omega) (by omega) hq
  refine v_51 (key (r * gPo d w).toNat 0 0 (by omega) (by omega) (by omega) (by omega) ?_)
  rw [Int.zero_add]
  exact hQ
/-- Volume.countSpoilt -/
def gSpoilt (d w r : Int) (H : Int → Int → Int) (s : Int) : Prop := H 13 s ≠ -1 ∧ ¬ gSound d w r H s
theorem g_countSpoilt {d w r : Int} {S : zS} {Qr Qt : Int → zS → Prop} (h : gS d w r S) (hp : gPl d w r S.2.2) (hQ : Qr (gCnt (gSpoilt d w r S.2.2) 0 (r * gPo d w).toNat) S) : zEnds 80 52 0 [(23, 12), (9, 0), (9, 0)] [] S Qr Qt := by
  have hN : S.2.2 1 6 = r * gPo d w := h.2.2.1.1.2.2.2.2.2.2.1
  have hs := gSpots h.1
  have key : ∀ (n : Nat) (c s : Int), 0 ≤ s → s + n = r * gPo d w → 0 ≤ c → c ≤ s → Qr (c + gCnt (gSpoilt d w r S.2.2) s n) S → zEnds 80 52 4 [(23, 12), (0, c), (0, s)] [] S Qr Qt := by
    intro n
    induction n with
    | zero =>
      intro c s s1 s2 c1 c2 hq
      refine v_52_4 ⟨fun _ => ?_, fun z => absurd (by rw [hN]; omega) z⟩
      have e : c + gCnt (gSpoilt d w r S.2.2) s 0 = c := by show c + 0 = c; omega
      rw [e] at hq
      exact hq
    | succ n ih =>
      intro c s s1 s2 c1 c2 hq
      refine v_52_4 ⟨fun z => absurd z (by rw [hN]; omega), fun _ => g_isSpoilt h hp (by omega) (fun y1 y2 => ⟨fun u => absurd u (by decide), fun _ => ?_⟩) (fun y => ⟨fun _ => ?_, fun u => absurd rfl u⟩)⟩
      · rw [z32_id (x := c + 1) (by omega) (by omega), z32_id (x := s + 1) (by omega) (by omega)]
        rw [gCnt_yes (P := gSpoilt d w r S.2.2) ⟨y1, y2⟩, ← Int.add_assoc] at hq
        exact ih (c + 1) (s + 1) (by omega) (by omega) (by omega) (by omega) hq
      · rw [z32_id (x := c + 0) (by omega) (by omega), z32_id (x := s + 1) (by omega) (by omega)]
        rw [gCnt_no (P := gSpoilt d w r S.2.2) (fun u => y.elim (fun v => u.1 v) (fun v => u.2 v))] at hq
        exact ih (c + 0) (s + 1) (by omega) (by omega) (by omega) (by omega) (by rw [show c + 0 = c by omega]; exact hq)
  refine v_52 (key (r * gPo d w).toNat 0 0 (by omega) (by omega) (by omega) (by omega) ?_)
  rw [Int.zero_add]
  exact hQ
/-- sums -/
noncomputable def gSum (f : Int → Int) : Int → Nat → Int
  | _, 0 => 0
  | a, n + 1 => f a + gSum f (a + 1) n
theorem gSum_congr {f g : Int → Int} : ∀ (n : Nat) (a : Int), (∀ i, a ≤ i → i < a + n → f i = g i) → gSum f a n = gSum g a n := by
  intro n
  induction n with
  | zero => intro a _; rfl
  | succ n ih =>
    intro a h
    show f a + gSum f (a + 1) n = g a + gSum g (a + 1) n
    rw [h a (by omega) (by omega), ih (a + 1) (fun i h2 h3 => h i (by omega) (by omega))]
/-- Volume.countFreeSpares -/
theorem g_countFree {d w r : Int} {S : zS} {Qr Qt : Int → zS → Prop} (h : gS d w r S) (hQ : Qr (gSum (fun row => gCnt (gFree d w r S.2.2 row) (gPo d w) (d - gPo d w).toNat) 0 r.toNat) S) : zEnds 80 53 0 [(23, 12), (9, 0), (9, 0), (9, 0)] [] S Qr Qt := by
  have hD : S.2.2 1 0 = d := h.2.2.1.1.1
  have hRr : S.2.2 1 2 = r := h.2.2.1.1.2.2.1
  have hP : S.2.2 1 4 = gPo d w := h.2.2.1.1.2.2.2.2.1
  obtain ⟨p1, p2, p3, p4⟩ := gPo_rg h.1
  have h2 := h.1.2.1
  have h3 := h.1.2.2.1
  have h6 := h.1.2.2.2.2.2.1
  have h7 := h.1.2.2.2.2.2.2
  have inner : ∀ (n : Nat) (c row q : Int), 0 ≤ row → row < r → gPo d w ≤ q → q + n = d → 0 ≤ c → c + n ≤ 16 * row + 16 → (∀ c', 0 ≤ c' → c' ≤ 16 * row + 16 → c' = c + gCnt (gFree d w r S.2.2 row) q n → zEnds 80 53 4 [(23, 12), (0, c'), (0, row + 1), (9, 0)] [] S Qr Qt) → zEnds 80 53 23 [(23, 12), (0, c), (0, row), (0, q)] [] S Qr Qt := by
    intro n
    induction n with
    | zero =>
      intro c row q r1 r2 q1 q2 c1 c2 hk
      refine v_53_23 ⟨fun _ => ?_, fun z => absurd (by rw [hD]; omega) z⟩
      rw [z32_id (x := row + 1) (by omega) (by omega)]
      exact hk c c1 (by omega) (by show c = c + 0; omega)
    | succ n ih =>
      intro c row q r1 r2 q1 q2 c1 c2 hk
      refine v_53_23 ⟨fun z => absurd z (by rw [hD]; omega), fun _ => g_isFreeSpare h (by omega) (by omega) (fun y => ⟨fun u => absurd u (by decide), fun _ => ?_⟩) (fun y => ⟨fun _ => ?_, fun u => absurd rfl u⟩)⟩
      · rw [z32_id (x := c + 1) (by omega) (by omega), z32_id (x := q + 1) (by omega) (by omega)]
        refine ih (c + 1) row (q + 1) r1 r2 (by omega) (by omega) (by omega) (by omega) (fun c' a1 a2 a3 => hk c' a1 a2 ?_)
        rw [gCnt_yes (P := gFree d w r S.2.2 row) y]
        omega
      · rw [z32_id (x := c + 0) (by omega) (by omega), z32_id (x := q + 1) (by omega) (by omega)]
        refine ih (c + 0) row (q + 1) r1 r2 (by omega) (by omega) (by omega) (by omega) (fun c' a1 a2 a3 => hk c' a1 a2 ?_)
        rw [gCnt_no (P := gFree d w r S.2.2 row) y]
        omega
  have outer : ∀ (n : Nat) (c row : Int), 0 ≤ row → row + n = r → 0 ≤ c → c ≤ 16 * row → Qr (c + gSum (fun row => gCnt (gFree d w r S.2.2 row) (gPo d w) (d - gPo d w).toNat) row n) S → zEnds 80 53 4 [(23, 12), (0, c), (0, row), (9, 0)] [] S Qr Qt := by
    intro n
    induction n with
    | zero =>
      intro c row r1 r2 c1 c2 hq
      refine v_53_4 ⟨fun _ => ?_, fun z => absurd (by rw [hRr]; omega) z⟩
      have e : c + gSum (fun row => gCnt (gFree d w r S.2.2 row) (gPo d w) (d - gPo d w).toNat) row 0 = c := by show c + 0 = c; omega
      rw [e] at hq
      exact hq
    | succ n ih =>
      intro c row r1 r2 c1 c2 hq
      refine v_53_4 ⟨fun z => absurd z (by rw [hRr]; omega), fun _ => ?_⟩
      rw [hP]
      refine inner (d - gPo d w).toNat c row (gPo d w) r1 (by omega) (by omega) (by omega) c1 (by omega) (fun c' a1 a2 a3 => ih c' (row + 1) (by omega) (by omega) a1 (by omega) ?_)
      have e : c + gSum (fun row => gCnt (gFree d w r S.2.2 row) (gPo d w) (d - gPo d w).toNat) row (n + 1) = c' + gSum (fun row => gCnt (gFree d w r S.2.2 row) (gPo d w) (d - gPo d w).toNat) (row + 1) n := by
        show c + (gCnt (gFree d w r S.2.2 row) (gPo d w) (d - gPo d w).toNat + gSum (fun row => gCnt (gFree d w r S.2.2 row) (gPo d w) (d - gPo d w).toNat) (row + 1) n) = _
        omega
      rw [e] at hq
      exact hq
  refine v_53 (outer r.toNat 0 0 (by omega) (by omega) (by omega) (by omega) ?_)
  rw [Int.zero_add]
  exact hQ
/-- Volume.firstFreeSpare -/
noncomputable def gSpare (d w r : Int) (H : Int → Int → Int) (row : Int) : Int := if gFirst (gFree d w r H row) (gPo d w) (d - gPo d w).toNat = -1 then -1 else gDk d row (gFirst (gFree d w r H row) (gPo d w) (d - gPo d w).toNat)
theorem g_firstFree {d w r row : Int} {S : zS} {Qr Qt : Int → zS → Prop} (h : gS d w r S) (hr : 0 ≤ row ∧ row < r) (hQ : Qr (gSpare d w r S.2.2 row) S) : zEnds 80 46 0 [(23, 12), (0, row), (9, 0)] [] S Qr Qt := by
  have hD : S.2.2 1 0 = d := h.2.2.1.1.1
  have hP : S.2.2 1 4 = gPo d w := h.2.2.1.1.2.2.2.2.1
  obtain ⟨p1, p2, p3, p4⟩ := gPo_rg h.1
  have h2 := h.1.2.1
  have h3 := h.1.2.2.1
  have h7 := h.1.2.2.2.2.2.2
  unfold gSpare at hQ
  have key : ∀ (n : Nat) (q : Int), gPo d w ≤ q → q + n = d → Qr (if gFirst (gFree d w r S.2.2 row) q n = -1 then -1 else gDk d row (gFirst (gFree d w r S.2.2 row) q n)) S → zEnds 80 46 8 [(23, 12), (0, row), (0, q)] [] S Qr Qt := by
    intro n
    induction n with
    | zero =>
      intro q q1 q2 hq
      exact v_46_8 ⟨fun _ => hq, fun z => absurd (by rw [hD]; omega) z⟩
    | succ n ih =>
      intro q q1 q2 hq
      refine v_46_8 ⟨fun z => absurd z (by rw [hD]; omega), fun _ => g_isFreeSpare h hr (by omega) (fun y => ⟨fun u => absurd u (by decide), fun _ => ?_⟩) (fun y => ⟨fun _ => ?_, fun u => absurd rfl u⟩)⟩
      · rw [gFirst_yes (P := gFree d w r S.2.2 row) y, if_neg (by omega)] at hq
        exact g_diskOf h (by omega) (by omega) hq
      · rw [gFirst_no (P := gFree d w r S.2.2 row) y] at hq
        rw [z32_id (x := q + 1) (by omega) (by omega)]
        exact ih (q + 1) (by omega) (by omega) hq
  refine v_46 ?_
  rw [hP]
  exact key (d - gPo d w).toNat (gPo d w) (by omega) (by omega) hQ
/-- Volume.foundPlace -/
def gTold (d w r : Int) (H : Int → Int → Int) (s q : Int) : Prop := gVal H (gCe r (gDk d (s / gPo d w) q) (s / gPo d w)) ∧ H 7 (gCe r (gDk d (s / gPo d w) q) (s / gPo d w)) = s % gPo d w + 1
noncomputable def gFs (d w r : Int) (H : Int → Int → Int) (s q : Int) (n : Nat) : Int := if gFirst (gTold d w r H s) q n = -1 then -1 else gDk d (s / gPo d w) (gFirst (gTold d w r H s) q n)
noncomputable def gFound (d w r : Int) (H : Int → Int → Int) (s : Int) : Int := if H 5 (gCe r (gDk d (s / gPo d w) (s % gPo d w)) (s / gPo d w)) ≠ 0 then gDk d (s / gPo d w) (s % gPo d w) else gFs d w r H s (gPo d w) (d - gPo d w).toNat
theorem g_found {d w r s : Int} {S : zS} {Qr Qt : Int → zS → Prop} (h : gS d w r S) (hs : 0 ≤ s ∧ s < r * gPo d w) (hQ : Qr (gFound d w r S.2.2 s) S) : zEnds 80 42 0 [(23, 12), (0, s), (9, 0), (9, 0), (9, 0), (9, 0)] [] S Qr Qt := by
  have hD : S.2.2 1 0 = d := h.2.2.1.1.1
  have hP : S.2.2 1 4 = gPo d w := h.2.2.1.1.2.2.2.2.1
  obtain ⟨p1, p2, p3, p4⟩ := gPo_rg h.1
  have h2 := h.1.2.1
  have h3 := h.1.2.2.1
  have h7 := h.1.2.2.2.2.2.2
  have q := gSp_rg h.1 hs
  have key : ∀ (n : Nat) (u : Int), gPo d w ≤ u → u + n = d → Qr (gFs d w r S.2.2 s u n) S → zEnds 80 42 41 [(23, 12), (0, s), (0, s / gPo d w), (9, 0), (0, u), (9, 0)] [] S Qr Qt := by
    intro n
    induction n with
    | zero =>
      intro u u1 u2 hq
      exact v_42_41 ⟨fun _ => hq, fun z => absurd (by rw [hD]; omega) z⟩
    | succ n ih =>
      intro u u1 u2 hq
      have no : ¬ gTold d w r S.2.2 s u → zEnds 80 42 41 [(23, 12), (0, s), (0, s / gPo d w), (9, 0), (0, u + 1), (9, 0)] [] S Qr Qt := by
        intro c
        unfold gFs at hq
        rw [gFirst_no (P := gTold d w r S.2.2 s) c] at hq
        exact ih (u + 1) (by omega) (by omega) hq
      have eu : z32 (u + 1) = u + 1 := z32_id (by omega) (by omega)
      have hg := gDk_rg (row := s / gPo d w) (pos := u) h.1
      refine v_42_41 ⟨fun z => absurd z (by rw [hD]; omega), fun _ => g_diskOf h (by omega) (by omega) (g_isValid h hg (by omega) (fun y => ⟨fun z => absurd z (by decide), fun _ => g_cellTag h hg (by omega) (g_tagOf h hs ⟨fun z => ?_, fun z => ?_⟩)⟩) (fun y => ⟨fun _ => ?_, fun z => absurd rfl z⟩))⟩
      · rw [eu]; exact no (fun c => z c.2)
      · unfold gFs at hq
        rw [gFirst_yes (P := gTold d w r S.2.2 s) ⟨y, Classical.not_not.mp z⟩, if_neg (by omega)] at hq
        exact hq
      · rw [eu]; exact no (fun c => y c.1)
  have hg := gDk_rg (row := s / gPo d w) (pos := s % gPo d w) h.1
  unfold gFound at hQ
  refine v_42 (g_rowOf h hs (g_homeOf h hs (g_isWritten h hg (by omega) ⟨fun z => ?_, fun z => ?_⟩)))
  · rw [if_neg (fun y => y z)] at hQ
    rw [hP]
    exact key (d - gPo d w).toNat (gPo d w) (by omega) (by omega) hQ
  · rw [if_pos z] at hQ
    exact hQ
theorem gFs_rg {d w r : Int} {H : Int → Int → Int} {s q : Int} {n : Nat} (hk : gOK d w r) : -1 ≤ gFs d w r H s q n ∧ gFs d w r H s q n < d := by
  have h1 := hk.1
  have hg := gDk_rg (row := s / gPo d w) (pos := gFirst (gTold d w r H s) q n) hk
  unfold gFs
  by_cases c : gFirst (gTold d w r H s) q n = -1
  · rw [if_pos c]; omega
  · rw [if_neg c]; omega
theorem gFound_rg {d w r : Int} {H : Int → Int → Int} {s : Int} (hk : gOK d w r) : -1 ≤ gFound d w r H s ∧ gFound d w r H s < d := by
  have hg := gDk_rg (row := s / gPo d w) (pos := s % gPo d w) hk
  have h1 := gFs_rg (H := H) (s := s) (q := gPo d w) (n := (d - gPo d w).toNat) hk
  unfold gFound
  by_cases c : H 5 (gCe r (gDk d (s / gPo d w) (s % gPo d w)) (s / gPo d w)) ≠ 0
  · rw [if_pos c]; omega
  · rw [if_neg c]; exact h1
theorem gFound_congr {d w r : Int} {H H' : Int → Int → Int} {s : Int} (h5 : ∀ i, H' 5 i = H 5 i) (h6 : ∀ i, H' 6 i = H 6 i) (h7 : ∀ i, H' 7 i = H 7 i) : gFound d w r H' s = gFound d w r H s := by
  have e : gTold d w r H' s = gTold d w r H s := by
    funext q
    unfold gTold gVal
    rw [h5, h6, h7]
  unfold gFound gFs
  rw [h5, e]
/-- Volume.findPlaces -/
noncomputable def gFP (d w r : Int) (H : Int → Int → Int) (a : Int) : Int → Int → Int := fun q i => if q = 13 ∧ a ≤ i ∧ i < r * gPo d w then gFound d w r H i else H q i
theorem g_findPlaces {d w r : Int} {t : Nat} {L : Int → Int} {H : Int → Int → Int} {Qr Qt : Int → zS → Prop} (h : gS d w r (t, L, H)) (hQ : Qr 0 (t, L, gFP d w r H 0)) : zEnds 80 41 0 [(23, 12), (9, 0)] [] (t, L, H) Qr Qt := by
  have hs := gSpots h.1
  have hl : L 13 = r * gPo d w := h.2.1.2.1.1
  have key : ∀ (n : Nat) (s : Int) (H : Int → Int → Int), gS d w r (t, L, H) → 0 ≤ s → s + n = r * gPo d w → Qr 0 (t, L, gFP d w r H s) → zEnds 80 41 2 [(23, 12), (0, s)] [] (t, L, H) Qr Qt := by
    intro n
    induction n with
    | zero =>
      intro s H h s1 s2 hq
      have hN : H 1 6 = r * gPo d w := h.2.2.1.1.2.2.2.2.2.2.1
      refine v_41_2 ⟨fun _ => ?_, fun z => absurd (by show H 1 6 ≤ s; omega) z⟩
      have e : gFP d w r H s = H := by
        funext q i
        unfold gFP
        rw [if_neg (by omega)]
      rw [e] at hq
      exact hq
    | succ n ih =>
      intro s H h s1 s2 hq
      have hN : H 1 6 = r * gPo d w := h.2.2.1.1.2.2.2.2.2.2.1
      refine v_41_2 ⟨fun z => absurd z (by show ¬ H 1 6 ≤ s; omega), fun _ => g_found h (by omega) ⟨⟨s1, by show s < L 13; omega⟩, ?_⟩⟩
      rw [z32_id (x := s + 1) (by omega) (by omega)]
      refine ih (s + 1) _ (h.upd (by omega) (by omega)) (by omega) (by omega) ?_
      have e : gFP d w r (zupd H 13 s (gFound d w r H s)) (s + 1) = gFP d w r H s := by
        funext q i
        unfold gFP
        by_cases c1 : q = 13
        · by_cases c2 : i = s
          · rw [if_neg (by omega), if_pos (by omega), c1, c2]
            unfold zupd
            rw [if_pos ⟨rfl, rfl⟩]
          · by_cases c3 : s + 1 ≤ i ∧ i < r * gPo d w
            · rw [if_pos ⟨c1, c3⟩, if_pos (by omega)]
              exact gFound_congr (fun j => by unfold zupd; rw [if_neg (by omega)]) (fun j => by unfold zupd; rw [if_neg (by omega)]) (fun j => by unfold zupd; rw [if_neg (by omega)])
            · rw [if_neg (by omega), if_neg (by omega)]
              unfold zupd
              rw [if_neg (by omega)]
        · rw [if_neg (by omega), if_neg (by omega)]
          unfold zupd
          rw [if_neg (by omega)]
      rw [e]
      exact hq
  exact v_41 (key (r * gPo d w).toNat 0 H h (by omega) (by omega) hQ)
/-- Volume.forgetPlacesOn -/
def gFo (d w r : Int) (H : Int → Int → Int) (x a : Int) : Int → Int → Int := fun q i => if q = 13 ∧ a ≤ i ∧ i < r * gPo d w ∧ H 13 i = x then -1 else H q i
theorem g_forget {d w r x : Int} {t : Nat} {L : Int → Int} {H : Int → Int → Int} {Qr Qt : Int → zS → Prop} (h : gS d w r (t, L, H)) (hx : x ≠ -1) (hQ : Qr 0 (t, L, gFo d w r H x 0)) : zEnds 80 43 0 [(23, 12), (0, x), (9, 0)] [] (t, L, H) Qr Qt := by
  have hs := gSpots h.1
  have hl : L 13 = r * gPo d w := h.2.1.2.1.1
  have key : ∀ (n : Nat) (s : Int) (H : Int → Int → Int), gS d w r (t, L, H) → 0 ≤ s → s + n = r * gPo d w → Qr 0 (t, L, gFo d w r H x s) → zEnds 80 43 2 [(23, 12), (0, x), (0, s)] [] (t, L, H) Qr Qt := by
    intro n
    induction n with
    | zero =>
      intro s H h s1 s2 hq
      have hN : H 1 6 = r * gPo d w := h.2.2.1.1.2.2.2.2.2.2.1
      refine v_43_2 ⟨fun _ => ?_, fun z => absurd (by show H 1 6 ≤ s; omega) z⟩
      have e : gFo d w r H x s = H := by
        funext q i
        unfold gFo
        rw [if_neg (by omega)]
      rw [e] at hq
      exact hq
    | succ n ih =>
      intro s H h s1 s2 hq
      have hN : H 1 6 = r * gPo d w := h.2.2.1.1.2.2.2.2.2.2.1
      have es : z32 (s + 1) = s + 1 := z32_id (by omega) (by omega)
      refine v_43_2 ⟨fun z => absurd z (by show ¬ H 1 6 ≤ s; omega), fun _ => ⟨⟨s1, by show s < L 13; omega⟩, fun z => ?_, fun z => ⟨⟨s1, by show s < L 13; omega⟩, ?_⟩⟩⟩
      · have z : H 13 s ≠ x := z
        rw [es]
        refine ih (s + 1) H h (by omega) (by omega) ?_
        have e : gFo d w r H x (s + 1) = gFo d w r H x s := by
          funext q i
          unfold gFo
          by_cases c2 : q = 13 ∧ i = s
          · rw [if_neg (by omega), if_neg (fun y => z (by rw [← c2.2]; exact y.2.2.2))]
          · by_cases c3 : q = 13 ∧ s ≤ i ∧ i < r * gPo d w ∧ H 13 i = x
            · rw [if_pos (by omega), if_pos c3]
            · rw [if_neg (by omega), if_neg c3]
        rw [e]
        exact hq
      · have z : H 13 s = x := Classical.not_not.mp z
        rw [es]
        refine ih (s + 1) _ (h.upd (by omega) (by omega)) (by omega) (by omega) ?_
        have e : gFo d w r (zupd H 13 s (-1)) x (s + 1) = gFo d w r H x s := by
          funext q i
          unfold gFo zupd
          by_cases c2 : q = 13 ∧ i = s
          · rw [if_neg (by omega), if_pos c2, if_pos ⟨c2.1, by omega, by omega, by rw [c2.2]; exact z⟩]
          · by_cases c4 : i = s
            · rw [if_neg (by omega), if_neg c2, if_neg (by omega)]
            · rw [if_neg (c := (13 : Int) = 13 ∧ i = s) (by omega), if_neg c2]
              by_cases c3 : q = 13 ∧ s ≤ i ∧ i < r * gPo d w ∧ H 13 i = x
              · rw [if_pos (by omega), if_pos c3]
              · rw [if_neg (by omega), if_neg c3]
        rw [e]
        exact hq
  exact v_43 (key (r * gPo d w).toNat 0 H h (by omega) (by omega) hQ)
