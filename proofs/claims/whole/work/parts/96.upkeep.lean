/-! Going off; the steps of rebuilding, copying back and scrubbing: the class's. -/
theorem gI.fp {d w r : Int} {t : Nat} {L : Int → Int} {H : zHp} (h : gS d w r (t, L, H)) : gI d w r t L (gFP d w r H 0) := by
  obtain ⟨hk, hl, hn, hb⟩ := h
  have e : ∀ q i, q ≠ 13 → gFP d w r H 0 q i = H q i := fun q i hq => by unfold gFP; rw [if_neg (fun z => hq z.1)]
  refine ⟨⟨hk, hl, hn.keep (fun i => e 1 i (by decide)) (fun i => e 2 i (by decide)) (e 3 0 (by decide)) (e 3 1 (by decide)) (e 18 1 (by decide)), fun o i ho => ?_⟩, fun s s0 s1 => ?_⟩
  · show gFP d w r H 0 o i = 0 ∨ gFP d w r H 0 o i = 1
    rw [e o i (by omega)]; exact hb o i ho
  · unfold gFP
    rw [if_pos ⟨rfl, s0, s1⟩]
    exact gFound_rg hk
theorem c_goOff {d w r : Int} {t : Nat} {L : Int → Int} {H : zHp} {Qr Qt : Int → zS → Prop} (h : gS d w r (t, L, H)) (hQ : ∀ H', gI d w r t L H' → vFd d w r H H' → H' 0 11 = 0 → H' 3 11 = 0 → (∀ q i, ¬ (q = 0 ∧ i = 11) → ¬ (q = 3 ∧ i = 11) → q ≠ 13 → H' q i = H q i) → Qr 0 (t, L, H')) : zEnds 80 173 0 [(20, 0)] [] (t, L, H) Qr Qt := by
  have h1 : gS d w r (t, L, zupd (zupd H 0 11 0) 3 11 0) := (h.upd (by omega) (fun _ => Or.inl rfl)).upd (by omega) (fun u => by omega)
  refine v_173 ⟨Or.inl rfl, v_22 (g_findPlaces h1 ?_)⟩
  have e : ∀ q i, ¬ (q = 0 ∧ i = 11) → ¬ (q = 3 ∧ i = 11) → zupd (zupd H 0 11 0) 3 11 0 q i = H q i := fun q i a b => by rw [zupd_no b, zupd_no a]
  have f : ∀ q i, q ≠ 13 → gFP d w r (zupd (zupd H 0 11 0) 3 11 0) 0 q i = zupd (zupd H 0 11 0) 3 11 0 q i := fun q i hq => by unfold gFP; rw [if_neg (fun z => hq z.1)]
  refine hQ _ (gI.fp h1) ⟨fun q i hq => by rw [f q i (by omega), e q i (by omega) (by omega)], fun s s0 s1 => ?_⟩ (by rw [f 0 11 (by decide), zupd_ne (by decide), zupd_at]) (by rw [f 3 11 (by decide), zupd_at]) (fun q i a b c => by rw [f q i c, e q i a b])
  have g : gFP d w r (zupd (zupd H 0 11 0) 3 11 0) 0 13 s = gFound d w r (zupd (zupd H 0 11 0) 3 11 0) s := by unfold gFP; rw [if_pos ⟨rfl, s0, s1⟩]
  rw [g]
  exact gFound_congr (fun i => e 5 i (by omega) (by omega)) (fun i => e 6 i (by omega) (by omega)) (fun i => e 7 i (by omega) (by omega))
section UPKEEP
variable {d w r : Int} {t : Nat} {L : Int → Int} {H : zHp} {Qr Qt : Int → zS → Prop}
theorem g_settleAt {s x : Int} (h : gI d w r t L H) (hs : 0 ≤ s ∧ s < r * gPo d w) (hx : 0 ≤ x ∧ x < d) (h0 : H 3 11 = 1 → Qr 0 (t, L, H)) (h1 : H 3 11 ≠ 1 → Qr 1 (t, L, zupd (gPut H (gCe r x (s / gPo d w)) (s % gPo d w + 1) 17 0) 13 s x)) : zEnds 80 72 0 [(24, 16), (0, s), (0, x)] [] (t, L, H) Qr Qt := by
  have hk := h.1.1
  have q := gSp_rg hk hs
  have l17 : L 17 = 8 := h.1.2.1.2.1.2.2.2
  have l13 : L 13 = r * gPo d w := h.1.2.1.2.1.1
  refine v_72 (g_rowOf h.1 hs (g_tagOf h.1 hs (g_put h.1 hx (by omega) (by omega) (fun z => ⟨fun u => absurd rfl u, fun _ => ⟨Or.inl rfl, h0 z⟩⟩) (fun z => ⟨fun _ => v_40 ⟨⟨hs.1, by show s < L 13; omega⟩, Or.inr rfl, h1 z⟩, fun u => absurd (by decide) u⟩))))
theorem g_wipe {x o : Int} (h : gI d w r t L H) (hx : 0 ≤ x ∧ x < d) (ho : 0 ≤ o ∧ o ≤ r) (h0 : H 3 11 = 1 → Qr 0 (t, L, H)) (h1 : H 3 11 ≠ 1 → Qr 1 (t, L, gPut H (gCe r x o) 0 11 0)) : zEnds 80 29 0 [(22, 3), (0, x), (0, o)] [] (t, L, H) Qr Qt := by
  refine f_wipe h hx ho ?_
  unfold fPr
  by_cases c : H 3 11 = 1
  · rw [if_pos c]; exact h0 c
  · rw [if_neg c]; exact h1 c
/-- a spot that rebuilding may take -/
def gCr (d w r : Int) (H : zHp) (s : Int) : Prop := H 13 s = -1 ∧ H 4 (gHome d w s) = 0 ∧ gSpare d w r H (s / gPo d w) ≠ -1
theorem gSpare_rg {row : Int} (hk : gOK d w r) (h : gSpare d w r H row ≠ -1) : ∃ q, (gPo d w ≤ q ∧ q < d) ∧ gSpare d w r H row = gDk d row q ∧ gFree d w r H row q := by
  unfold gSpare at h ⊢
  rcases gFirst_spec (gFree d w r H row) (d - gPo d w).toNat (gPo d w) with e | ⟨e1, e2, e3, e4⟩
  · rw [if_pos e.1] at h; exact absurd rfl h
  · have po := gPo_rg hk
    have w3 := hk.2.2.1
    rw [if_neg (by omega)]
    exact ⟨_, by omega, rfl, e3⟩
theorem g_rebuild (h : gI d w r t L H) (h0 : (∀ s, 0 ≤ s → s < r * gPo d w → ¬ gCr d w r H s) → Qr 0 (t, L, H))
    (h1 : ∀ s, (0 ≤ s ∧ s < r * gPo d w) → gCr d w r H s → (∀ u, 0 ≤ u → u < s → ¬ gCr d w r H u) → (H 3 11 = 1 → Qr (-9) (t, L, gRk d w r H 17 0 s)) ∧ (H 3 11 ≠ 1 → Qr 1 (t, L, zupd (gPut (gRk d w r H 17 0 s) (gCe r (gSpare d w r H (s / gPo d w)) (s / gPo d w)) (s % gPo d w + 1) 17 0) 13 s (gSpare d w r H (s / gPo d w))))) : zEnds 80 69 0 [(24, 16), (9, 0), (9, 0)] [] (t, L, H) Qr Qt := by
  have hk := h.1.1
  have sp := gSpots hk
  have n6 : H 1 6 = r * gPo d w := h.1.2.2.1.1.2.2.2.2.2.2.1
  have l13 : L 13 = r * gPo d w := h.1.2.1.2.1.1
  have l17 : L 17 = 8 := h.1.2.1.2.1.2.2.2
  have key : ∀ (n : Nat) (s : Int), 0 ≤ s → s + n = r * gPo d w → (∀ u, 0 ≤ u → u < s → ¬ gCr d w r H u) → zEnds 80 69 2 [(24, 16), (0, s), (9, 0)] [] (t, L, H) Qr Qt := by
    intro n
    induction n with
    | zero =>
      intro s s0 s1 hn
      exact v_69_2 ⟨fun _ => h0 (fun u u0 u1 => hn u u0 (by omega)), fun u => absurd (by show H 1 6 ≤ s; omega) u⟩
    | succ n ih =>
      intro s s0 s1 hn
      have hs : 0 ≤ s ∧ s < r * gPo d w := by omega
      have qs := gSp_rg hk hs
      have hg := gDk_rg (row := s / gPo d w) (pos := s % gPo d w) hk
      have nx : ¬ gCr d w r H s → zEnds 80 69 2 [(24, 16), (0, z32 (s + 1)), (9, 0)] [] (t, L, H) Qr Qt := fun hc => by
        rw [z32_id (x := s + 1) (by omega) (by omega)]
        exact ih (s + 1) (by omega) (by omega) (fun u u0 u1 => by
          by_cases c : u = s
          · rw [c]; exact hc
          · exact hn u u0 (by omega))
      refine v_69_2 ⟨fun u => absurd u (by show ¬ H 1 6 ≤ s; omega), fun _ => v_39 ⟨⟨s0, by show s < L 13; omega⟩, fun u => nx (fun c => u c.1), fun u => ?_⟩⟩
      have u : H 13 s = -1 := Classical.not_not.mp u
      refine g_homeOf h.1 hs (g_isLive h.1 hg ⟨fun v => nx (fun c => v c.2.1), fun v => ?_⟩)
      have v : H 4 (gHome d w s) = 0 := Classical.not_not.mp v
      refine g_rowOf h.1 hs (g_firstFree h.1 qs.1 ⟨fun z => nx (fun c => c.2.2 z), fun z => ?_⟩)
      have cr : gCr d w r H s := ⟨u, v, z⟩
      obtain ⟨q, hq, eq, -⟩ := gSpare_rg hk z
      have xr : 0 ≤ gSpare d w r H (s / gPo d w) ∧ gSpare d w r H (s / gPo d w) < d := by rw [eq]; exact gDk_rg hk
      refine g_reckon h.1 h.2 hs gW17 (by omega) (g_settleAt (h.of gW17 (fun q i hq => gRk_ne hq)) hs xr (fun y => ⟨fun _ => ?_, fun u => absurd rfl u⟩) (fun y => ⟨fun u => absurd u (by decide), fun _ => ?_⟩))
      · rw [gRk_ne (by decide)] at y
        exact (h1 s hs cr hn).1 y
      · rw [gRk_ne (by decide)] at y
        exact (h1 s hs cr hn).2 y
  exact v_69 (key (r * gPo d w).toNat 0 (by omega) (by omega) (fun u u0 u1 => by omega))
/-- a spot that copying back may take -/
def gCc (d w r : Int) (H : zHp) (s : Int) : Prop := H 4 (gHome d w s) ≠ 0 ∧ H 5 (gCe r (gHome d w s) (s / gPo d w)) = 0
theorem g_copyBack (h : gI d w r t L H) (h0 : (∀ s, 0 ≤ s → s < r * gPo d w → ¬ gCc d w r H s) → Qr 0 (t, L, H))
    (h1 : ∀ s, (0 ≤ s ∧ s < r * gPo d w) → gCc d w r H s → (∀ u, 0 ≤ u → u < s → ¬ gCc d w r H u) → (H 3 11 = 1 → Qr (-9) (t, L, gLd d w r H 17 0 s)) ∧ (H 3 11 ≠ 1 → ∀ K, K = zupd (gPut (gLd d w r H 17 0 s) (gCe r (gHome d w s) (s / gPo d w)) (s % gPo d w + 1) 17 0) 13 s (gHome d w s) → (H 13 s = -1 → Qr 1 (t, L, K)) ∧ (H 13 s ≠ -1 → (K 3 11 = 1 → Qr (-9) (t, L, K)) ∧ (K 3 11 ≠ 1 → Qr 1 (t, L, gPut K (gCe r (H 13 s) (s / gPo d w)) 0 11 0))))) : zEnds 80 70 0 [(24, 16), (9, 0), (9, 0)] [] (t, L, H) Qr Qt := by
  have hk := h.1.1
  have sp := gSpots hk
  have n6 : H 1 6 = r * gPo d w := h.1.2.2.1.1.2.2.2.2.2.2.1
  have l13 : L 13 = r * gPo d w := h.1.2.1.2.1.1
  have l17 : L 17 = 8 := h.1.2.1.2.1.2.2.2
  have l11 : L 11 = 8 := h.1.2.1.1.2.2.2.2.2.2.2.2
  have key : ∀ (n : Nat) (s : Int), 0 ≤ s → s + n = r * gPo d w → (∀ u, 0 ≤ u → u < s → ¬ gCc d w r H u) → zEnds 80 70 2 [(24, 16), (0, s), (9, 0)] [] (t, L, H) Qr Qt := by
    intro n
    induction n with
    | zero =>
      intro s s0 s1 hn
      exact v_70_2 ⟨fun _ => h0 (fun u u0 u1 => hn u u0 (by omega)), fun u => absurd (by show H 1 6 ≤ s; omega) u⟩
    | succ n ih =>
      intro s s0 s1 hn
      have hs : 0 ≤ s ∧ s < r * gPo d w := by omega
      have qs := gSp_rg hk hs
      have hg := gDk_rg (row := s / gPo d w) (pos := s % gPo d w) hk
      have nx : ¬ gCc d w r H s → zEnds 80 70 2 [(24, 16), (0, z32 (s + 1)), (9, 0)] [] (t, L, H) Qr Qt := fun hc => by
        rw [z32_id (x := s + 1) (by omega) (by omega)]
        exact ih (s + 1) (by omega) (by omega) (fun u u0 u1 => by
          by_cases c : u = s
          · rw [c]; exact hc
          · exact hn u u0 (by omega))
      refine v_70_2 ⟨fun u => absurd u (by show ¬ H 1 6 ≤ s; omega), fun _ => g_homeOf h.1 hs (g_isLive h.1 hg ⟨fun u => nx (fun c => c.1 u), fun u => g_rowOf h.1 hs (g_isWritten h.1 hg (by omega) ⟨fun v => nx (fun c => v c.2), fun v => ?_⟩)⟩)⟩
      have cr : gCc d w r H s := ⟨u, Classical.not_not.mp v⟩
      have hh := h1 s hs cr hn
      have e3 : gLd d w r H 17 0 s 3 11 = H 3 11 := gLd_ne (by decide)
      have hl := h.2 s hs.1 hs.2
      refine v_71 (v_39 ⟨⟨s0, by show s < L 13; omega⟩, g_loadSpot h.1 h.2 hs gW17 (by omega) (g_settleAt (h.of gW17 (fun q i hq => gLd_ne hq)) hs hg (fun y => ⟨fun _ => ⟨Or.inl rfl, fun _ => ?_, fun u => absurd rfl u⟩, fun u => absurd rfl u⟩) (fun y => ⟨fun u => absurd u (by decide), fun _ => ⟨fun z => ⟨Or.inr rfl, fun u => absurd u (by decide), fun _ => ?_⟩, fun z => ?_⟩⟩))⟩)
      · rw [e3] at y
        exact hh.1 y
      · rw [e3] at y
        exact (hh.2 y _ rfl).1 z
      · rw [e3] at y
        have hK := (hh.2 y _ rfl).2 z
        have z : H 13 s ≠ -1 := z
        have gK : gI d w r t L (zupd (gPut (gLd d w r H 17 0 s) (gCe r (gHome d w s) (s / gPo d w)) (s % gPo d w + 1) 17 0) 13 s (gHome d w s)) := by
          have g1 : gI d w r t L (gPut (gLd d w r H 17 0 s) (gCe r (gHome d w s) (s / gPo d w)) (s % gPo d w + 1) 17 0) := (h.of gW17 (fun q i hq => gLd_ne hq)).put
          refine ⟨g1.1.upd (by omega) (fun u => by omega), fun u u0 u1 => ?_⟩
          by_cases c : u = s
          · rw [c, zupd_at]
            have : -1 ≤ gDk d (s / gPo d w) (s % gPo d w) ∧ gDk d (s / gPo d w) (s % gPo d w) < d := by omega
            exact this
          · rw [zupd_no (fun y => c y.2)]
            exact g1.2 u u0 u1
        have hx : 0 ≤ H 13 s ∧ H 13 s < d := by omega
        exact g_rowOf gK.1 hs (g_wipe gK hx (by omega) (fun c => ⟨fun _ => ⟨Or.inl rfl, fun _ => hK.1 c, fun u => absurd rfl u⟩, fun u => absurd rfl u⟩) (fun c => ⟨fun u => absurd u (show ¬ (1 : Int) = 0 by decide), fun _ => ⟨Or.inr rfl, fun u => absurd u (by decide), fun _ => hK.2 c⟩⟩))
  exact v_70 (key (r * gPo d w).toNat 0 (by omega) (by omega) (fun u u0 u1 => by omega))
/-- Upkeep.scrubStep -/
theorem g_scrub (h : gI d w r t L H) (hn : 0 ≤ H 16 4 ∧ H 16 4 < r * gGr d w) {H1 : zHp} (e1 : H1 = zupd H 16 4 ((H 16 4 + 1) % (r * gGr d w)))
    (h1 : ∀ u, w * H 16 4 ≤ u → u < w * H 16 4 + w → gSpoilt d w r H1 u → (∀ v, w * H 16 4 ≤ v → v < u → ¬ gSpoilt d w r H1 v) → (H 3 11 = 1 → Qr (-9) (t, L, gRk d w r H1 17 0 u)) ∧ (H 3 11 ≠ 1 → Qr 1 (t, L, gPut (gRk d w r H1 17 0 u) (gAt d w r H1 u) (u % gPo d w + 1) 17 0)))
    (h0 : (∀ v, w * H 16 4 ≤ v → v < w * H 16 4 + w → ¬ gSpoilt d w r H1 v) → ∀ H', (∀ q i, q ≠ 17 → H' q i = H1 q i) → Qr 0 (t, L, H'))
    (hz : (∀ v, w * H 16 4 ≤ v → v < w * H 16 4 + w → gSound d w r H1 v) → ∀ i, 0 ≤ i → i < 8 → zlxor (gRk d w r H1 17 0 (w * H 16 4) 17 i) (H1 8 (8 * gAt d w r H1 (w * H 16 4) + i)) = 0) : zEnds 80 73 0 [(24, 16), (9, 0), (9, 0), (9, 0)] [] (t, L, H) Qr Qt := by
  have hk := h.1.1
  have sp := gSpots hk
  have po := gPo_rg hk
  have w3 := hk.2.2.1
  have w8 := hk.2.2.2.1
  have n1 : H 1 1 = w := h.1.2.2.1.1.2.1
  have n5 : H 1 5 = r * gGr d w := h.1.2.2.1.1.2.2.2.2.2.1
  have l17 : L 17 = 8 := h.1.2.1.2.1.2.2.2
  have eq1 : r * gPo d w = w * (r * gGr d w) := by unfold gPo; rw [← Int.mul_assoc, ← Int.mul_assoc, Int.mul_comm r w]
  have fr : 0 ≤ w * H 16 4 ∧ w * H 16 4 + w ≤ r * gPo d w := by
    refine ⟨Int.mul_nonneg (by omega) hn.1, ?_⟩
    have := Int.mul_le_mul_of_nonneg_left (show H 16 4 + 1 ≤ r * gGr d w by omega) (show 0 ≤ w by omega)
    rw [Int.mul_add] at this
    omega
  have st : r * gGr d w ≤ 320 := by
    have := Int.mul_le_mul (show r ≤ 64 by have := hk.2.2.2.2.2.2; omega) (show gGr d w ≤ 5 by omega) (by omega) (by omega)
    omega
  have g1 : gI d w r t L H1 := by
    rw [e1]
    exact ⟨h.1.upd (by omega) (fun u => by omega), h.2.keep (fun i => zupd_ne (by decide))⟩
  have m1 : H1 1 1 = w := by rw [e1, zupd_ne (by decide)]; exact n1
  have m3 : H1 3 11 = H 3 11 := by rw [e1, zupd_ne (by decide)]
  generalize hF : w * H 16 4 = F at *
  have key : ∀ (n : Nat) (u a : Int), F ≤ u → u + n = F + w → (a = 0 ∨ a = 1) → (a = 1 → ∀ v, F ≤ v → v < u → gSound d w r H1 v) → (∀ v, F ≤ v → v < u → ¬ gSpoilt d w r H1 v) → zEnds 80 73 35 [(24, 16), (0, F), (0, a), (0, u)] [] (t, L, H1) Qr Qt := by
    intro n
    induction n with
    | zero =>
      intro u a u0 u1 ha hs hp
      have hp' : ∀ v, F ≤ v → v < F + w → ¬ gSpoilt d w r H1 v := fun v v0 v1 => hp v v0 (by omega)
      have e32 : z32 (F + H1 1 1) = F + w := by rw [m1]; exact z32_id (by omega) (by omega)
      refine v_73_35 ⟨fun _ => ⟨fun _ => h0 hp' H1 (fun _ _ _ => rfl), fun z => ?_⟩, fun z => absurd (by show z32 (F + H1 1 1) ≤ u; omega) z⟩
      have a1 : a = 1 := ha.resolve_left z
      have hs' : ∀ v, F ≤ v → v < F + w → gSound d w r H1 v := fun v v0 v1 => hs a1 v v0 (by omega)
      refine g_addsUp g1 ⟨fr.1, by omega⟩ (hs' F (by omega) (by omega)).1 (fun v H' e' e17 hv hv1 => ?_)
      have v1 : v = 1 := hv1.mpr (fun i i0 i1 => by rw [e17 i i0 i1]; exact hz hs' i i0 i1)
      exact ⟨fun _ => h0 hp' H' e', fun y => absurd (by rw [v1]; decide) y⟩
    | succ n ih =>
      intro u a u0 u1 ha hs hp
      have hu : 0 ≤ u ∧ u < r * gPo d w := by omega
      have e32 : z32 (F + H1 1 1) = F + w := by rw [m1]; exact z32_id (by omega) (by omega)
      have eu : z32 (u + 1) = u + 1 := z32_id (by omega) (by omega)
      have sub : ¬ gSpoilt d w r H1 u → ∀ v, F ≤ v → v < u + 1 → ¬ gSpoilt d w r H1 v := fun z v v0 v1 => by
        by_cases c : v = u
        · rw [c]; exact z
        · exact hp v v0 (by omega)
      refine v_73_35 ⟨fun z => absurd z (by show ¬ z32 (F + H1 1 1) ≤ u; omega), fun _ => g_isSpoilt g1.1 g1.2 hu (fun y z => ⟨fun x => absurd x (by decide), fun _ => ?_⟩) (fun y => ⟨fun _ => ?_, fun x => absurd rfl x⟩)⟩
      · have hh := h1 u u0 (by omega) ⟨y, z⟩ hp
        have l13 : L 13 = r * gPo d w := h.1.2.1.2.1.1
        refine g_reckon g1.1 g1.2 hu gW17 (by omega) (g_putAt (g1.of gW17 (fun q i hq => gRk_ne hq)).1 (g1.of gW17 (fun q i hq => gRk_ne hq)).2 hu (by omega) (fun x => ?_) (fun _ x => ⟨fun _ => ?_, fun x => absurd rfl x⟩) (fun _ x => ⟨fun x => absurd x (by decide), fun _ => ?_⟩))
        · rw [gRk_ne (by decide)] at x
          exact absurd x y
        · rw [gRk_ne (by decide), m3] at x
          exact hh.1 x
        · rw [gRk_ne (by decide), m3] at x
          have ea : gAt d w r (gRk d w r H1 17 0 u) u = gAt d w r H1 u := gAt_of (gRk_ne (by decide))
          rw [ea]
          exact hh.2 x
      · have ns : ¬ gSpoilt d w r H1 u := fun x => y.elim x.1 (fun y => x.2 y)
        rw [eu]
        refine ⟨fun _ => ih (u + 1) 0 (by omega) (by omega) (Or.inl rfl) (fun x => absurd x (by decide)) (sub ns), fun z => ?_⟩
        have a1 : a = 1 := ha.resolve_left z
        refine g_isSound g1.1 g1.2 hu (fun y => ⟨fun x => absurd x (by decide), fun _ => ih (u + 1) 1 (by omega) (by omega) (Or.inr rfl) (fun _ v v0 v1 => ?_) (sub ns)⟩) (fun y => ⟨fun _ => ih (u + 1) 0 (by omega) (by omega) (Or.inl rfl) (fun x => absurd x (by decide)) (sub ns), fun x => absurd rfl x⟩)
        by_cases c : v = u
        · rw [c]; exact y
        · exact hs a1 v v0 (by omega)
  have ef : z32 (H 1 1 * H 16 4) = F := by rw [n1, hF]; exact z32_id (by omega) (by omega)
  have en : zrem (z32 (H 16 4 + 1)) (H 1 5) = (H 16 4 + 1) % (r * gGr d w) := by
    rw [z32_id (x := H 16 4 + 1) (by omega) (by omega), n5]
    exact zrem_pos (by omega)
  refine v_73 ⟨by show H 1 5 ≠ 0; omega, ?_⟩
  show zEnds 80 73 35 [(24, 16), (0, z32 (H 1 1 * H 16 4)), (0, 1), (0, z32 (H 1 1 * H 16 4))] [] (t, L, zupd H 16 4 (zrem (z32 (H 16 4 + 1)) (H 1 5))) Qr Qt
  rw [ef, en, ← e1]
  exact key w.toNat F 1 (by omega) (by omega) (Or.inr rfl) (fun _ v v0 v1 => by omega) (fun v v0 v1 => by omega)
end UPKEEP
