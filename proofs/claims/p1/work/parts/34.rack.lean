/-! The spots' numbers, and the rack. -/
theorem gSp_rg {d w r s : Int} (h : gOK d w r) (hs : 0 ≤ s ∧ s < r * gPo d w) : (0 ≤ s / gPo d w ∧ s / gPo d w < r) ∧ (0 ≤ s % gPo d w ∧ s % gPo d w < gPo d w) ∧ s < 960 := by
  obtain ⟨p1, p2, p3, p4⟩ := gPo_rg h
  obtain ⟨h1, h2, h3, h4, h5, h6, h7⟩ := h
  have a1 : r * gPo d w ≤ 64 * gPo d w := Int.mul_le_mul_of_nonneg_right h7 (by omega)
  refine ⟨⟨Int.ediv_nonneg hs.1 (by omega), ?_⟩, ⟨Int.emod_nonneg _ (by omega), Int.emod_lt_of_pos _ (by omega)⟩, by omega⟩
  rw [Int.ediv_lt_iff_lt_mul (by omega)]
  exact hs.2
/-- Layout.rowOf, homeOf, tagOf -/
theorem g_rowOf {d w r s : Int} {S : zS} {Qr Qt : Int → zS → Prop} (h : gS d w r S) (hs : 0 ≤ s ∧ s < r * gPo d w) (hQ : Qr (s / gPo d w) S) : zEnds 80 9 0 [(21, 1), (0, s)] [] S Qr Qt := by
  obtain ⟨hk, hl, hn, -⟩ := h
  have p := gPo_rg hk
  have q := gSp_rg hk hs
  have h3 := hk.2.2.1
  refine v_9 ?_
  rw [hn.1.2.2.2.2.1, zdiv_pos hs.1 (by omega) (by omega)]
  exact ⟨by omega, hQ⟩
theorem g_homeOf {d w r s : Int} {S : zS} {Qr Qt : Int → zS → Prop} (h : gS d w r S) (hs : 0 ≤ s ∧ s < r * gPo d w) (hQ : Qr (gDk d (s / gPo d w) (s % gPo d w)) S) : zEnds 80 10 0 [(21, 1), (0, s)] [] S Qr Qt := by
  have hS := h
  obtain ⟨hk, hl, hn, -⟩ := h
  have p := gPo_rg hk
  have q := gSp_rg hk hs
  have h3 := hk.2.2.1
  have h7 := hk.2.2.2.2.2.2
  refine v_10 ?_
  rw [hn.1.2.2.2.2.1, zdiv_pos hs.1 (by omega) (by omega), zrem_pos hs.1]
  exact ⟨by omega, by omega, g_diskOf hS (by omega) (by omega) hQ⟩
theorem g_tagOf {d w r s : Int} {S : zS} {Qr Qt : Int → zS → Prop} (h : gS d w r S) (hs : 0 ≤ s ∧ s < r * gPo d w) (hQ : Qr (s % gPo d w + 1) S) : zEnds 80 11 0 [(21, 1), (0, s)] [] S Qr Qt := by
  obtain ⟨hk, hl, hn, -⟩ := h
  have p := gPo_rg hk
  have q := gSp_rg hk hs
  have h3 := hk.2.2.1
  have h2 := hk.2.1
  refine v_11 ?_
  rw [hn.1.2.2.2.2.1, zrem_pos hs.1, z32_id (by omega) (by omega)]
  exact ⟨by omega, hQ⟩
/-- Layout.firstSpotBeside, paritySpotBeside, logTagOf -/
theorem g_firstBeside {d w r s : Int} {S : zS} {Qr Qt : Int → zS → Prop} (h : gS d w r S) (hs : 0 ≤ s ∧ s < r * gPo d w) (hQ : Qr (s - s % w) S) : zEnds 80 13 0 [(21, 1), (0, s)] [] S Qr Qt := by
  obtain ⟨hk, hl, hn, -⟩ := h
  have q := gSp_rg hk hs
  have h3 := hk.2.2.1
  have m1 := Int.emod_nonneg s (b := w) (by omega)
  have m2 := Int.emod_lt_of_pos s (b := w) (by omega)
  have h4 := hk.2.2.2.1
  refine v_13 ?_
  rw [hn.1.2.1, zrem_pos hs.1, z32_id (by omega) (by omega)]
  exact ⟨by omega, hQ⟩
theorem g_parBeside {d w r s : Int} {S : zS} {Qr Qt : Int → zS → Prop} (h : gS d w r S) (hs : 0 ≤ s ∧ s < r * gPo d w) (hQ : Qr (s - s % w + w - 1) S) : zEnds 80 14 0 [(21, 1), (0, s)] [] S Qr Qt := by
  obtain ⟨hk, hl, hn, -⟩ := h
  have q := gSp_rg hk hs
  have h3 := hk.2.2.1
  have m1 := Int.emod_nonneg s (b := w) (by omega)
  have m2 := Int.emod_lt_of_pos s (b := w) (by omega)
  have h4 := hk.2.2.2.1
  refine v_14 ?_
  rw [hn.1.2.1, zrem_pos hs.1, z32_id (x := s - s % w) (by omega) (by omega), z32_id (x := s - s % w + w) (by omega) (by omega), z32_id (by omega) (by omega)]
  exact ⟨by omega, hQ⟩
theorem g_logTag {d w r s : Int} {S : zS} {Qr Qt : Int → zS → Prop} (h : gS d w r S) (hs : 0 ≤ s ∧ s < r * gPo d w) (hQ : Qr (1 + 8 * (s / w) + s % w) S) : zEnds 80 15 0 [(21, 1), (0, s)] [] S Qr Qt := by
  obtain ⟨hk, hl, hn, -⟩ := h
  have q := gSp_rg hk hs
  have h3 := hk.2.2.1
  have h4 := hk.2.2.2.1
  have m1 := Int.emod_nonneg s (b := w) (by omega)
  have m2 := Int.emod_lt_of_pos s (b := w) (by omega)
  have m3 := Int.ediv_nonneg hs.1 (b := w) (by omega)
  have m4 := Int.ediv_le_self w hs.1
  refine v_15 ?_
  rw [hn.1.2.1, zrem_pos hs.1, zdiv_pos hs.1 (by omega) (by omega), z32_id (x := 8 * (s / w)) (by omega) (by omega), z32_id (x := 1 + 8 * (s / w)) (by omega) (by omega), z32_id (by omega) (by omega)]
  exact ⟨by omega, by omega, hQ⟩
/-- Rack.isLive, isWritten, isValid, tagOf -/
theorem g_isLive {d w r x : Int} {S : zS} {Qr Qt : Int → zS → Prop} (h : gS d w r S) (hx : 0 ≤ x ∧ x < d) (hQ : Qr (S.2.2 4 x) S) : zEnds 80 18 0 [(22, 3), (0, x)] [] S Qr Qt := by
  obtain ⟨hk, hl, hn, hb⟩ := h
  refine v_18 ⟨⟨hx.1, by rw [hl.1.2.1]; exact hx.2⟩, hb 4 x (Or.inl rfl), hQ⟩
theorem g_isWritten {d w r x o : Int} {S : zS} {Qr Qt : Int → zS → Prop} (h : gS d w r S) (hx : 0 ≤ x ∧ x < d) (ho : 0 ≤ o ∧ o ≤ r) (hQ : Qr (S.2.2 5 (gCe r x o)) S) : zEnds 80 23 0 [(22, 3), (0, x), (0, o)] [] S Qr Qt := by
  obtain ⟨hk, hl, hn, hb⟩ := h
  have q := gCe_rg hk hx ho
  refine v_23 ?_
  rw [hn.2.2.2.1, gCe_z hk hx ho, hl.1.2.2.1]
  exact ⟨⟨q.1, by omega⟩, hb 5 _ (Or.inr (Or.inl rfl)), hQ⟩
/-- whether a cell is valid -/
def gVal (H : Int → Int → Int) (c : Int) : Prop := H 5 c ≠ 0 ∧ H 6 c = 0
theorem g_isValid {d w r x o : Int} {S : zS} {Qr Qt : Int → zS → Prop} (h : gS d w r S) (hx : 0 ≤ x ∧ x < d) (ho : 0 ≤ o ∧ o ≤ r) (h1 : gVal S.2.2 (gCe r x o) → Qr 1 S) (h0 : ¬ gVal S.2.2 (gCe r x o) → Qr 0 S) : zEnds 80 24 0 [(22, 3), (0, x), (0, o), (9, 0)] [] S Qr Qt := by
  obtain ⟨hk, hl, hn, hb⟩ := h
  have q := gCe_rg hk hx ho
  refine v_24 ?_
  rw [hn.2.2.2.1, gCe_z hk hx ho, hl.1.2.2.1, hl.1.2.2.2.1]
  refine ⟨⟨q.1, by omega⟩, fun z => ⟨Or.inl rfl, h0 (fun y => y.1 z)⟩, fun z => ⟨⟨q.1, by omega⟩, fun y => ⟨Or.inl rfl, h0 (fun u => y u.2)⟩, fun y => ⟨Or.inr rfl, h1 ⟨z, Classical.not_not.mp y⟩⟩⟩⟩
theorem g_cellTag {d w r x o : Int} {S : zS} {Qr Qt : Int → zS → Prop} (h : gS d w r S) (hx : 0 ≤ x ∧ x < d) (ho : 0 ≤ o ∧ o ≤ r) (hQ : Qr (S.2.2 7 (gCe r x o)) S) : zEnds 80 25 0 [(22, 3), (0, x), (0, o)] [] S Qr Qt := by
  obtain ⟨hk, hl, hn, hb⟩ := h
  have q := gCe_rg hk hx ho
  refine v_25 ?_
  rw [hn.2.2.2.1, gCe_z hk hx ho, hl.1.2.2.2.2.1]
  exact ⟨⟨q.1, by omega⟩, hQ⟩
/-- Rack.copyTo -/
theorem g_copyTo {d w r x o wd at' : Int} {t : Nat} {L : Int → Int} {H : Int → Int → Int} {Qr Qt : Int → zS → Prop} (h : gS d w r (t, L, H)) (hx : 0 ≤ x ∧ x < d) (ho : 0 ≤ o ∧ o ≤ r) (hw : wd ≠ 8 ∧ 0 ≤ at' ∧ at' + 8 ≤ L wd) (hQ : Qr 0 (t, L, zcpy H 8 (8 * gCe r x o) wd at' 8)) : zEnds 80 26 0 [(22, 3), (11, wd), (0, at'), (0, x), (0, o)] [] (t, L, H) Qr Qt := by
  obtain ⟨hk, hl, hn, hb⟩ := h
  have q := gCe_rg hk hx ho
  refine v_26 ?_
  have e1 : H 3 1 = r + 1 := hn.2.2.2.1
  have e2 : L 8 = 8 * (d * (r + 1)) := hl.1.2.2.2.2.2.1
  show (0 ≤ (8 : Int) ∧ 0 ≤ z32 (8 * (z32 (z32 (x * (H 3 1)) + o))) ∧ 0 ≤ at' ∧ z32 (8 * (z32 (z32 (x * (H 3 1)) + o))) + 8 ≤ L 8 ∧ at' + 8 ≤ L wd ∧ (8 : Int) ≠ wd) ∧ Qr 0 (t, L, zcpy H 8 (z32 (8 * (z32 (z32 (x * (H 3 1)) + o)))) wd at' 8)
  rw [e1, e2, gCe_z hk hx ho, z32_id (by omega) (by omega)]
  exact ⟨⟨by decide, by omega, hw.2.1, by omega, hw.2.2, fun z => hw.1 z.symm⟩, hQ⟩
/-- what Rack.addTo leaves -/
def gAdd (H : Int → Int → Int) (wd at' c : Int) : Int → Int → Int := fun o i => if o = wd ∧ at' ≤ i ∧ i < at' + 8 then zlxor (H o i) (H 8 (8 * c + (i - at'))) else H o i
theorem l_addTo {t : Nat} {L : Int → Int} {wd at' c : Int} {Qr Qt : Int → zS → Prop} (hw : wd ≠ 8 ∧ 0 ≤ at' ∧ at' + 8 ≤ L wd) (hLw : L wd ≤ 1000000) (hc : 0 ≤ c ∧ 8 * c + 8 ≤ L 8 ∧ c ≤ 2000) : ∀ (k : Nat) (i : Int) (H : Int → Int → Int), 0 ≤ i → i + k = 8 →
    Qr 0 (t, L, fun o j => if o = wd ∧ at' + i ≤ j ∧ j < at' + 8 then zlxor (H o j) (H 8 (8 * c + (j - at'))) else H o j) → zEnds 80 27 17 [(22, 3), (11, wd), (0, at'), (9, 0), (9, 0), (0, 8 * c), (0, i)] [] (t, L, H) Qr Qt := by
  intro k
  induction k with
  | zero =>
    intro i H h0 hk hQ
    refine v_27_17 ⟨fun _ => ?_, fun z => by omega⟩
    have e : (fun (o j : Int) => if o = wd ∧ at' + i ≤ j ∧ j < at' + 8 then zlxor (H o j) (H 8 (8 * c + (j - at'))) else H o j) = H := by
      funext o j
      rw [if_neg (by omega)]
    rw [e] at hQ
    exact hQ
  | succ k ih =>
    intro i H h0 hk hQ
    refine v_27_17 ⟨fun z => by omega, fun _ => ?_⟩
    show (0 ≤ z32 (at' + i) ∧ z32 (at' + i) < L wd) ∧ ((0 ≤ z32 (8 * c + i) ∧ z32 (8 * c + i) < L 8) ∧ ((0 ≤ z32 (at' + i) ∧ z32 (at' + i) < L wd) ∧ zEnds 80 27 17 [(22, 3), (11, wd), (0, at'), (9, 0), (9, 0), (0, 8 * c), (0, z32 (i + 1))] [] (t, L, zupd H wd (z32 (at' + i)) (zlxor (H wd (z32 (at' + i))) (H 8 (z32 (8 * c + i))))) Qr Qt))
    rw [z32_id (x := at' + i) (by omega) (by omega), z32_id (x := 8 * c + i) (by omega) (by omega), z32_id (x := i + 1) (by omega) (by omega)]
    refine ⟨by omega, by omega, by omega, ih (i + 1) _ (by omega) (by omega) ?_⟩
    have e : (fun (o j : Int) => if o = wd ∧ at' + (i + 1) ≤ j ∧ j < at' + 8 then zlxor (zupd H wd (at' + i) (zlxor (H wd (at' + i)) (H 8 (8 * c + i))) o j) (zupd H wd (at' + i) (zlxor (H wd (at' + i)) (H 8 (8 * c + i))) 8 (8 * c + (j - at'))) else zupd H wd (at' + i) (zlxor (H wd (at' + i)) (H 8 (8 * c + i))) o j) = fun (o j : Int) => if o = wd ∧ at' + i ≤ j ∧ j < at' + 8 then zlxor (H o j) (H 8 (8 * c + (j - at'))) else H o j := by
      funext o j
      unfold zupd
      rw [if_neg (c := (8 : Int) = wd ∧ 8 * c + (j - at') = at' + i) (fun z => hw.1 z.1.symm)]
      by_cases c1 : o = wd
      · by_cases c2 : j = at' + i
        · rw [if_neg (by omega), if_pos ⟨c1, c2⟩, if_pos (by omega), c1, c2, show at' + i - at' = i by omega]
        · rw [if_neg (c := o = wd ∧ j = at' + i) (by omega)]
          by_cases c3 : at' + (i + 1) ≤ j ∧ j < at' + 8
          · rw [if_pos ⟨c1, c3⟩, if_pos (by omega)]
          · rw [if_neg (by omega), if_neg (by omega)]
      · rw [if_neg (by omega), if_neg (by omega), if_neg (by omega)]
    rw [e]
    exact hQ
theorem g_addTo {d w r x o wd at' : Int} {t : Nat} {L : Int → Int} {H : Int → Int → Int} {Qr Qt : Int → zS → Prop} (h : gS d w r (t, L, H)) (hx : 0 ≤ x ∧ x < d) (ho : 0 ≤ o ∧ o ≤ r) (hw : wd ≠ 8 ∧ 0 ≤ at' ∧ at' + 8 ≤ L wd) (hLw : L wd ≤ 1000000) (hQ : Qr 0 (t, L, gAdd H wd at' (gCe r x o))) : zEnds 80 27 0 [(22, 3), (11, wd), (0, at'), (0, x), (0, o), (9, 0), (9, 0)] [] (t, L, H) Qr Qt := by
  obtain ⟨hk, hl, hn, hb⟩ := h
  have q := gCe_rg hk hx ho
  have e1 : H 3 1 = r + 1 := hn.2.2.2.1
  have e2 : L 8 = 8 * (d * (r + 1)) := hl.1.2.2.2.2.2.1
  refine v_27 ?_
  show zEnds 80 27 17 [(22, 3), (11, wd), (0, at'), (9, 0), (9, 0), (0, z32 (8 * (z32 (z32 (x * (H 3 1)) + o)))), (0, 0)] [] (t, L, H) Qr Qt
  rw [e1, gCe_z hk hx ho, z32_id (by omega) (by omega)]
  refine l_addTo hw hLw ⟨q.1, by omega, by omega⟩ 8 0 H (by omega) (by omega) ?_
  rw [show at' + 0 = at' by omega]
  exact hQ
/-- what Rack.mend leaves -/
def gMend (H : Int → Int → Int) (c : Int) : Int → Int → Int := if H 6 c = 0 then H else zfil (zupd H 6 c 0) 9 (9 * c) 9
theorem l_mend {t : Nat} {L : Int → Int} {c : Int} {Qr Qt : Int → zS → Prop} (hc : 0 ≤ c ∧ 9 * c + 9 ≤ L 9 ∧ c ≤ 2000) : ∀ (k : Nat) (i : Int) (H : Int → Int → Int), 0 ≤ i → i + k = 9 → Qr 0 (t, L, zfil H 9 (9 * c + i) (9 - i)) → zEnds 80 30 18 [(22, 3), (0, c), (0, i)] [] (t, L, H) Qr Qt := by
  intro k
  induction k with
  | zero =>
    intro i H h0 hk hQ
    refine v_30_18 ⟨fun _ => ?_, fun z => by omega⟩
    have e : zfil H 9 (9 * c + i) (9 - i) = H := by
      funext o j
      unfold zfil
      rw [if_neg (by omega)]
    rw [e] at hQ
    exact hQ
  | succ k ih =>
    intro i H h0 hk hQ
    refine v_30_18 ⟨fun z => by omega, fun _ => ?_⟩
    show (0 ≤ z32 (z32 (9 * c) + i) ∧ z32 (z32 (9 * c) + i) < L 9) ∧ zEnds 80 30 18 [(22, 3), (0, c), (0, z32 (i + 1))] [] (t, L, zupd H 9 (z32 (z32 (9 * c) + i)) 0) Qr Qt
    rw [z32_id (x := 9 * c) (by omega) (by omega), z32_id (x := 9 * c + i) (by omega) (by omega), z32_id (x := i + 1) (by omega) (by omega)]
    refine ⟨by omega, ih (i + 1) _ (by omega) (by omega) ?_⟩
    have e : zfil (zupd H 9 (9 * c + i) 0) 9 (9 * c + (i + 1)) (9 - (i + 1)) = zfil H 9 (9 * c + i) (9 - i) := by
      funext o j
      unfold zfil zupd
      by_cases c1 : o = 9
      · by_cases c2 : j = 9 * c + i
        · rw [if_neg (by omega), if_pos ⟨c1, c2⟩, if_pos (by omega)]
        · by_cases c3 : 9 * c + (i + 1) ≤ j ∧ j < 9 * c + (i + 1) + (9 - (i + 1))
          · rw [if_pos ⟨c1, c3⟩, if_pos (by omega)]
          · rw [if_neg (by omega), if_neg (by omega), if_neg (by omega)]
      · rw [if_neg (by omega), if_neg (by omega), if_neg (by omega)]
    rw [e]
    exact hQ
theorem g_mend {t : Nat} {L : Int → Int} {H : Int → Int → Int} {c : Int} {Qr Qt : Int → zS → Prop} (hc : 0 ≤ c ∧ c < L 6 ∧ 9 * c + 9 ≤ L 9 ∧ c ≤ 2000) (hQ : Qr 0 (t, L, gMend H c)) : zEnds 80 30 0 [(22, 3), (0, c), (9, 0)] [] (t, L, H) Qr Qt := by
  refine v_30 ⟨⟨hc.1, hc.2.1⟩, fun z => ?_, fun z => ⟨⟨⟨hc.1, hc.2.1⟩, Or.inl rfl⟩, ?_⟩⟩
  · have z : H 6 c = 0 := z
    unfold gMend at hQ
    rw [if_pos z] at hQ
    exact hQ
  · have z : ¬ H 6 c = 0 := z
    unfold gMend at hQ
    rw [if_neg z] at hQ
    refine l_mend ⟨hc.1, hc.2.2.1, hc.2.2.2⟩ 9 0 _ (by omega) (by omega) ?_
    rw [show 9 * c + 0 = 9 * c by omega, show (9 : Int) - 0 = 9 by omega]
    exact hQ
theorem gS.mend {d w r c : Int} {t : Nat} {L : Int → Int} {H : Int → Int → Int} (h : gS d w r (t, L, H)) : gS d w r (t, L, gMend H c) := by
  unfold gMend
  by_cases z : H 6 c = 0
  · rw [if_pos z]; exact h
  · rw [if_neg z]
    exact (h.upd (by omega) (fun _ => Or.inl rfl)).fil (by omega)
/-- what Rack.put leaves, where power stays -/
def gPut (H : Int → Int → Int) (c tag wd at' : Int) : Int → Int → Int :=
  gMend (zupd (zupd (zcpy (zupd (if H 3 11 ≤ 1 then H else zupd H 3 11 (z32 (H 3 11 - 1))) 3 10 (z32 (H 3 10 + 1))) wd at' 8 (8 * c) 8) 7 c tag) 5 c 1) c
theorem g_put {d w r x o tag wd at' : Int} {t : Nat} {L : Int → Int} {H : Int → Int → Int} {Qr Qt : Int → zS → Prop} (h : gS d w r (t, L, H)) (hx : 0 ≤ x ∧ x < d) (ho : 0 ≤ o ∧ o ≤ r) (hw : wd ≠ 8 ∧ wd ≠ 3 ∧ 0 ≤ at' ∧ at' + 8 ≤ L wd)
    (h0 : H 3 11 = 1 → Qr 0 (t, L, H)) (h1 : H 3 11 ≠ 1 → Qr 1 (t, L, gPut H (gCe r x o) tag wd at')) : zEnds 80 28 0 [(22, 3), (0, x), (0, o), (0, tag), (11, wd), (0, at'), (9, 0)] [] (t, L, H) Qr Qt := by
  obtain ⟨hk, hl, hn, hb⟩ := h
  have q := gCe_rg hk hx ho
  have e1 : H 3 1 = r + 1 := hn.2.2.2.1
  obtain ⟨-, -, l5, l6, l7, l8, l9, -⟩ := hl.1
  have l5 : L 5 = d * (r + 1) := l5
  have l6 : L 6 = d * (r + 1) := l6
  have l7 : L 7 = d * (r + 1) := l7
  have l8 : L 8 = 8 * (d * (r + 1)) := l8
  have l9 : L 9 = 9 * (d * (r + 1)) := l9
  have e3 : ∀ v, zupd H 3 10 v 3 1 = r + 1 := fun v => by unfold zupd; rw [if_neg (by decide)]; exact e1
  have e4 : ∀ v u, zupd (zupd H 3 11 u) 3 10 v 3 1 = r + 1 := fun v u => by unfold zupd; rw [if_neg (by decide), if_neg (by decide)]; exact e1
  have e5 : ∀ u, zupd H 3 11 u 3 10 = H 3 10 := fun u => by unfold zupd; rw [if_neg (by decide)]
  have hz : z32 (z32 (x * (r + 1)) + o) = gCe r x o := gCe_z hk hx ho
  have hz8 : z32 (8 * gCe r x o) = 8 * gCe r x o := z32_id (by omega) (by omega)
  refine v_28 ?_
  simp only [e3, e4, e5, hz, hz8]
  refine ⟨fun z => ⟨fun y => ?_, fun y => ?_⟩, fun z => ⟨Or.inl trivial, h0 (Classical.not_not.mp z)⟩⟩
  · refine ⟨⟨by decide, hw.2.2.1, by omega, hw.2.2.2, by omega, hw.1⟩, ⟨q.1, by omega⟩, ⟨⟨q.1, by omega⟩, Or.inr trivial⟩, ?_⟩
    have h2 := h1 z
    unfold gPut at h2
    rw [if_pos y] at h2
    exact g_mend ⟨q.1, by omega, by omega, by omega⟩ ⟨Or.inr trivial, h2⟩
  · refine ⟨⟨by decide, hw.2.2.1, by omega, hw.2.2.2, by omega, hw.1⟩, ⟨q.1, by omega⟩, ⟨⟨q.1, by omega⟩, Or.inr trivial⟩, ?_⟩
    have h2 := h1 z
    unfold gPut at h2
    rw [if_neg y] at h2
    exact g_mend ⟨q.1, by omega, by omega, by omega⟩ ⟨Or.inr trivial, h2⟩
