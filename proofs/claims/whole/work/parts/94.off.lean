/-! Power off: what is left, and how places are found. -/
theorem gFound_home {d w r s : Int} {H : zHp} (h : H 5 (gCe r (gHome d w s) (s / gPo d w)) ≠ 0) : gFound d w r H s = gHome d w s := by
  unfold gFound
  exact if_pos h
theorem gFound_fs {d w r s : Int} {H : zHp} (h : H 5 (gCe r (gHome d w s) (s / gPo d w)) = 0) : gFound d w r H s = gFs d w r H s (gPo d w) (d - gPo d w).toNat := by
  unfold gFound
  exact if_neg (fun u => u h)
theorem gFound_none {d w r s : Int} {H : zHp} (h : H 5 (gCe r (gHome d w s) (s / gPo d w)) = 0) (hn : ∀ q, gPo d w ≤ q → q < d → ¬ gTold d w r H s q) : gFound d w r H s = -1 := by
  rw [gFound_fs h]
  unfold gFs
  rcases gFirst_spec (gTold d w r H s) (d - gPo d w).toNat (gPo d w) with e | ⟨e1, e2, e3, -⟩
  · rw [if_pos e.1]
  · exact absurd e3 (hn _ e1 (by omega))
theorem gFound_spare {d w r s q : Int} {H : zHp} (hk : gOK d w r) (h : H 5 (gCe r (gHome d w s) (s / gPo d w)) = 0) (hq : gPo d w ≤ q ∧ q < d) (ht : gTold d w r H s q) (hn : ∀ q', gPo d w ≤ q' → q' < q → ¬ gTold d w r H s q') : gFound d w r H s = gDk d (s / gPo d w) q := by
  rw [gFound_fs h]
  unfold gFs
  rcases gFirst_spec (gTold d w r H s) (d - gPo d w).toNat (gPo d w) with e | ⟨e1, e2, e3, e4⟩
  · exact absurd ht (e.2 q hq.1 (by omega))
  · have e : gFirst (gTold d w r H s) (gPo d w) (d - gPo d w).toNat = q := by
      rcases Int.lt_trichotomy (gFirst (gTold d w r H s) (gPo d w) (d - gPo d w).toNat) q with c | c | c
      · exact absurd e3 (hn _ e1 c)
      · exact c
      · exact absurd ht (e4 q hq.1 c)
    rw [e]
    by_cases c : q = -1
    · have po := gPo_rg hk
      have w3 := hk.2.2.1
      omega
    · rw [if_neg c]
theorem gFound_spec {d w r : Int} (hk : gOK d w r) (s : Int) (H : zHp) : (H 5 (gCe r (gHome d w s) (s / gPo d w)) ≠ 0 ∧ gFound d w r H s = gHome d w s) ∨ (H 5 (gCe r (gHome d w s) (s / gPo d w)) = 0 ∧ ((gFound d w r H s = -1 ∧ ∀ q, gPo d w ≤ q → q < d → ¬ gTold d w r H s q) ∨ ∃ q, (gPo d w ≤ q ∧ q < d) ∧ gFound d w r H s = gDk d (s / gPo d w) q ∧ gTold d w r H s q ∧ ∀ q', gPo d w ≤ q' → q' < q → ¬ gTold d w r H s q')) := by
  by_cases h : H 5 (gCe r (gHome d w s) (s / gPo d w)) = 0
  · refine Or.inr ⟨h, ?_⟩
    rcases gFirst_spec (gTold d w r H s) (d - gPo d w).toNat (gPo d w) with e | ⟨e1, e2, e3, e4⟩
    · have hn : ∀ q, gPo d w ≤ q → q < d → ¬ gTold d w r H s q := fun q a b => e.2 q a (by omega)
      exact Or.inl ⟨gFound_none h hn, hn⟩
    · have b : gPo d w ≤ gFirst (gTold d w r H s) (gPo d w) (d - gPo d w).toNat ∧ gFirst (gTold d w r H s) (gPo d w) (d - gPo d w).toNat < d := by omega
      exact Or.inr ⟨_, b, gFound_spare hk h b e3 e4, e3, e4⟩
  · exact Or.inl ⟨h, gFound_home h⟩
/-- the cells have the content C, whatever the places -/
def vCel (d w r : Int) (C : Int → Int → Int) (H : zHp) : Prop :=
  (∀ s, 0 ≤ s → s < r * gPo d w → H 5 (gCe r (gHome d w s) (s / gPo d w)) ≠ 0 → H 7 (gCe r (gHome d w s) (s / gPo d w)) = s % gPo d w + 1 ∧ ∀ i, 0 ≤ i → i < 8 → H 8 (8 * gCe r (gHome d w s) (s / gPo d w) + i) = C s i) ∧
  ∀ row q, 0 ≤ row → row < r → gPo d w ≤ q → q < d → gVal H (gCe r (gDk d row q) row) → H 7 (gCe r (gDk d row q) row) ≠ 0 → ∃ p, (0 ≤ p ∧ p < gPo d w) ∧ H 7 (gCe r (gDk d row q) row) = p + 1 ∧ ∀ i, 0 ≤ i → i < 8 → H 8 (8 * gCe r (gDk d row q) row + i) = C (row * gPo d w + p) i
/-- a told spare is its spot's place, or the spot is at home -/
def vSw (d w r : Int) (H : zHp) : Prop := ∀ row q, 0 ≤ row → row < r → gPo d w ≤ q → q < d → gVal H (gCe r (gDk d row q) row) → H 7 (gCe r (gDk d row q) row) ≠ 0 → ∃ p, (0 ≤ p ∧ p < gPo d w) ∧ H 7 (gCe r (gDk d row q) row) = p + 1 ∧ (H 13 (row * gPo d w + p) = gDk d row q ∨ H 5 (gCe r (gHome d w (row * gPo d w + p)) row) ≠ 0)
theorem vSp.w {d w r : Int} {H : zHp} (h : vSp d w r H) : vSw d w r H := fun row q a b c e v t => by
  obtain ⟨p, p0, p1, p2⟩ := h row q a b c e v t
  exact ⟨p, p0, p1, Or.inl p2⟩
/-- no two spares tell of one spot -/
def vUq (d w r : Int) (H : zHp) : Prop := ∀ row q q', 0 ≤ row → row < r → gPo d w ≤ q → q < d → gPo d w ≤ q' → q' < d → gVal H (gCe r (gDk d row q) row) → gVal H (gCe r (gDk d row q') row) → H 7 (gCe r (gDk d row q) row) ≠ 0 → H 7 (gCe r (gDk d row q) row) = H 7 (gCe r (gDk d row q') row) → q = q'
theorem vSp.u {d w r : Int} {H : zHp} (hk : gOK d w r) (h : vSp d w r H) : vUq d w r H := fun row q q' a b c e c' e' v v' t te => by
  obtain ⟨p, p0, p1, p2⟩ := h row q a b c e v t
  obtain ⟨p', p0', p1', p2'⟩ := h row q' a b c' e' v' (by rw [← te]; exact t)
  have ep : p = p' := by omega
  rw [← ep, p2] at p2'
  have po := gPo_rg hk
  have w3 := hk.2.2.1
  exact gDk_inj hk (row := row) (a := q) (b := q') (by omega) (by omega) p2'
theorem vUq.of {d w r : Int} {H H' : zHp} (h : vUq d w r H) (e : ∀ q i, (q = 5 ∨ q = 6 ∨ q = 7) → H' q i = H q i) : vUq d w r H' := fun row q q' a b c f c' f' v v' t te => by
  unfold gVal at v v'
  rw [e 5 _ (by omega), e 6 _ (by omega)] at v v'
  rw [e 7 _ (by omega)] at t te
  rw [e 7 _ (by omega)] at te
  exact h row q q' a b c f c' f' v v' t te
/-- what Volume reads through places, without the spares' rule -/
def vBw (d w r : Int) (C : Int → Int → Int) (H : zHp) : Prop := (vR C ∧ vA d w r C H ∧ vCel d w r C H) ∧ vHm d w r H ∧ vSw d w r H ∧ vF0 d r H ∧ vOne d w r H
theorem vB.w {d w r : Int} {C : Int → Int → Int} {H : zHp} (hk : gOK d w r) (h : vB d w r C H) : vBw d w r C H := by
  obtain ⟨⟨hR, hA⟩, hH, hS, hF, hO⟩ := h
  refine ⟨⟨hR, hA, fun s s0 s1 hw => ?_, fun row q a b c e v t => ?_⟩, hH, hS.w, hF, hO⟩
  · have e := hH s s0 s1 hw
    have po := gPo_rg hk
    have hn : H 13 s ≠ -1 := by
      rw [e]
      have := gDk_rg (row := s / gPo d w) (pos := s % gPo d w) hk
      unfold gHome
      omega
    have q := hA s s0 s1 hn
    unfold gAt at q
    rw [e] at q
    exact ⟨q.1.2.1, q.2⟩
  · obtain ⟨p, p0, p1, p2⟩ := hS row q a b c e v t
    refine ⟨p, p0, p1, ?_⟩
    have rg := gRow_of (row := row) hk p0
    have hn : H 13 (row * gPo d w + p) ≠ -1 := by
      rw [p2]
      have := gDk_rg (row := row) (pos := q) hk
      omega
    have po := gPo_rg hk
    have w3 := hk.2.2.1
    have s0 : 0 ≤ row * gPo d w + p := by have := Int.mul_nonneg a (show 0 ≤ gPo d w by omega); omega
    have s1 : row * gPo d w + p < r * gPo d w := by
      have := Int.mul_le_mul_of_nonneg_right (show row + 1 ≤ r by omega) (show 0 ≤ gPo d w by omega)
      rw [Int.add_mul] at this
      omega
    have z := (hA _ s0 s1 hn).2
    unfold gAt at z
    rw [p2, rg.1] at z
    exact z
theorem gHome_sp {d w r s q : Int} (hk : gOK d w r) (hs : 0 ≤ s ∧ s < r * gPo d w) (hq : gPo d w ≤ q ∧ q < d) : gHome d w s ≠ gDk d (s / gPo d w) q := fun e => by
  have a := gSp_rg hk hs
  have po := gPo_rg hk
  have := gDk_inj hk (row := s / gPo d w) (a := s % gPo d w) (b := q) (by omega) (by omega) e
  omega
/-- what is told of a spot is its place -/
theorem vSw.told {d w r s q : Int} {H : zHp} (hk : gOK d w r) (h : vSw d w r H) (hs : 0 ≤ s ∧ s < r * gPo d w) (hq : gPo d w ≤ q ∧ q < d) (hu : H 5 (gCe r (gHome d w s) (s / gPo d w)) = 0) (ht : gTold d w r H s q) : H 13 s = gDk d (s / gPo d w) q := by
  have a := gSp_rg hk hs
  obtain ⟨p, p0, p1, p2⟩ := h (s / gPo d w) q a.1.1 a.1.2 hq.1 hq.2 ht.1 (by rw [ht.2]; omega)
  have e : p = s % gPo d w := by have := ht.2; omega
  rw [e, gSpot_of hk] at p2
  exact p2.resolve_right (fun u => u hu)
/-- a sound spot is found where it is -/
theorem vBw.found {d w r s : Int} {C : Int → Int → Int} {H : zHp} (hk : gOK d w r) (h : vBw d w r C H) (hs : 0 ≤ s ∧ s < r * gPo d w) (so : gSound d w r H s) : gFound d w r H s = H 13 s := by
  obtain ⟨⟨hR, hA, hC⟩, hH, hS, hF, hO⟩ := h
  rcases gFound_spec hk s H with ⟨a, b⟩ | ⟨a, b⟩
  · rw [b, hH s hs.1 hs.2 a]
  · obtain ⟨⟨a1, a2, a3⟩, a4⟩ := hA s hs.1 hs.2 so.1
    rcases a3 with a3 | ⟨q, q0, q1, q2⟩
    · unfold gAt at a1
      rw [a3] at a1
      exact absurd a a1
    · have ht : gTold d w r H s q := by
        have v := so.2
        unfold gAt at v a2
        rw [q2] at v a2
        exact ⟨v, a2⟩
      rcases b with ⟨b1, b2⟩ | ⟨q', q'0, b1, b2, b3⟩
      · exact absurd ht (b2 q q0 q1)
      · rw [b1, hS.told hk hs q'0 a b2]
theorem vB.found2 {d w r s : Int} {C : Int → Int → Int} {H : zHp} (hk : gOK d w r) (h : vB d w r C H) (hs : 0 ≤ s ∧ s < r * gPo d w) : gFound d w r H s = H 13 s ∨ gFound d w r H s = -1 := by
  have hw := h.w hk
  rcases gFound_spec hk s H with ⟨a, b⟩ | ⟨a, b⟩
  · rw [b, h.2.1 s hs.1 hs.2 a]
    exact Or.inl rfl
  · rcases b with ⟨b1, b2⟩ | ⟨q', q'0, b1, b2, b3⟩
    · exact Or.inr b1
    · rw [b1, hw.2.2.1.told hk hs q'0 a b2]
      exact Or.inl rfl
/-- how far a write had come when power went -/
def vCut (d w r : Int) (C : Int → Int → Int) (O : Int → Int) (H M : zHp) : Prop := (M 35 20 = 0 ∧ ∀ f, 0 ≤ f → f + w ≤ r * gPo d w → f % w = 0 → vP w C f) ∨ (M 35 20 = 1 ∧ (0 ≤ M 35 19 ∧ M 35 19 < r * gGr d w * (w - 1)) ∧ vDeep d w r C O H (gSo w (M 35 19)) ∧ vSp d w r H)
/-- off, or opening: the places are those that are found -/
def vOf (d w r : Int) (C : Int → Int → Int) (O : Int → Int) (H M : zHp) : Prop := (vBw d w r C H ∧ vLog d w r C H ∧ (vL d r H ∨ vSp d w r H) ∧ vUq d w r H) ∧ (∀ s, 0 ≤ s → s < r * gPo d w → H 13 s = gFound d w r H s) ∧ rK d r H M ∧ vCut d w r C O H M
/-- the same heap, its places found -/
def vFd (d w r : Int) (H H' : zHp) : Prop := (∀ q i, (q = 4 ∨ q = 5 ∨ q = 6 ∨ q = 7 ∨ q = 8 ∨ q = 9) → H' q i = H q i) ∧ ∀ s, 0 ≤ s → s < r * gPo d w → H' 13 s = gFound d w r H s
theorem gSpot_rg {d w r row p : Int} (hk : gOK d w r) (hr : 0 ≤ row ∧ row < r) (hp : 0 ≤ p ∧ p < gPo d w) : 0 ≤ row * gPo d w + p ∧ row * gPo d w + p < r * gPo d w := by
  have po := gPo_rg hk
  have w3 := hk.2.2.1
  have a := Int.mul_nonneg hr.1 (show 0 ≤ gPo d w by omega)
  have b := Int.mul_le_mul_of_nonneg_right (show row + 1 ≤ r by omega) (show 0 ≤ gPo d w by omega)
  rw [Int.add_mul] at b
  omega
theorem vFd.sound {d w r s : Int} {C : Int → Int → Int} {H H' : zHp} (hk : gOK d w r) (h : vBw d w r C H) (f : vFd d w r H H') (hs : 0 ≤ s ∧ s < r * gPo d w) (u : gSound d w r H s) : gSound d w r H' s := by
  have e := f.1
  have g := h.found hk hs u
  unfold gSound gVal gAt
  rw [f.2 s hs.1 hs.2, g, e 5 _ (by omega), e 6 _ (by omega)]
  exact u
theorem vFd.sp {d w r : Int} {C : Int → Int → Int} {H H' : zHp} (hk : gOK d w r) (h : vBw d w r C H) (f : vFd d w r H H') (hS : vSp d w r H) : vSp d w r H' := by
  intro row q a b c g v t
  have e := f.1
  unfold gVal at v
  rw [e 5 _ (by omega), e 6 _ (by omega)] at v
  rw [e 7 _ (by omega)] at t ⊢
  obtain ⟨p, p0, p1, p2⟩ := hS row q a b c g v t
  refine ⟨p, p0, p1, ?_⟩
  have rg := gRow_of (row := row) hk p0
  have sr := gSpot_rg hk ⟨a, b⟩ p0
  have so : gSound d w r H (row * gPo d w + p) := by
    refine ⟨?_, ?_⟩
    · rw [p2]
      have := gDk_rg (row := row) (pos := q) hk
      omega
    · unfold gAt
      rw [p2, rg.1]
      exact v
  rw [f.2 _ sr.1 sr.2, h.found hk sr so, p2]
theorem vFd.bw {d w r : Int} {C : Int → Int → Int} {H H' : zHp} (hk : gOK d w r) (h : vBw d w r C H) (f : vFd d w r H H') : vBw d w r C H' := by
  have e := f.1
  have e13 := f.2
  have h0 := h
  obtain ⟨⟨hR, hA, hC⟩, hH, hS, hF, hO⟩ := h
  refine ⟨⟨hR, fun s s0 s1 hn => ?_, ⟨fun s s0 s1 a => ?_, fun row q a b c f v t => ?_⟩⟩, fun s s0 s1 a => ?_, fun row q a b c g v t => ?_, fun x x0 x1 => by rw [e 6 _ (by omega)]; exact hF x x0 x1, fun s u s0 s1 u0 u1 a b => ?_⟩
  · have eat : gAt d w r H' s = gCe r (gFound d w r H s) (s / gPo d w) := by unfold gAt; rw [e13 s s0 s1]
    rw [e13 s s0 s1] at hn ⊢
    rw [eat, e 5 _ (by omega), e 7 _ (by omega)]
    have rg := gSp_rg hk ⟨s0, s1⟩
    rcases gFound_spec hk s H with ⟨a, b⟩ | ⟨a, ⟨b, -⟩ | ⟨q, hq, b1, b2, -⟩⟩
    · rw [b]
      have z := hC.1 s s0 s1 a
      exact ⟨⟨a, z.1, Or.inl rfl⟩, fun i i0 i1 => by rw [e 8 _ (by omega)]; exact z.2 i i0 i1⟩
    · exact absurd b hn
    · rw [b1]
      refine ⟨⟨b2.1.1, b2.2, Or.inr ⟨q, hq.1, hq.2, rfl⟩⟩, fun i i0 i1 => ?_⟩
      obtain ⟨p, p0, p1, p2⟩ := hC.2 (s / gPo d w) q rg.1.1 rg.1.2 hq.1 hq.2 b2.1 (by rw [b2.2]; omega)
      have ep : p = s % gPo d w := by have := b2.2; omega
      rw [e 8 _ (by omega), p2 i i0 i1, ep, gSpot_of hk]
  · rw [e 5 _ (by omega)] at a
    rw [e 7 _ (by omega)]
    exact ⟨(hC.1 s s0 s1 a).1, fun i i0 i1 => by rw [e 8 _ (by omega)]; exact (hC.1 s s0 s1 a).2 i i0 i1⟩
  · unfold gVal at v
    rw [e 5 _ (by omega), e 6 _ (by omega)] at v
    rw [e 7 _ (by omega)] at t ⊢
    obtain ⟨p, p0, p1, p2⟩ := hC.2 row q a b c f v t
    exact ⟨p, p0, p1, fun i i0 i1 => by rw [e 8 _ (by omega)]; exact p2 i i0 i1⟩
  · rw [e 5 _ (by omega)] at a
    rw [e13 s s0 s1, gFound_home a]
  · unfold gVal at v
    rw [e 5 _ (by omega), e 6 _ (by omega)] at v
    rw [e 7 _ (by omega)] at t ⊢
    obtain ⟨p, p0, p1, p2⟩ := hS row q a b c g v t
    refine ⟨p, p0, p1, ?_⟩
    rcases p2 with p2 | p2
    · have rg := gRow_of (row := row) hk p0
      have sr := gSpot_rg hk ⟨a, b⟩ p0
      have so : gSound d w r H (row * gPo d w + p) := by
        refine ⟨?_, ?_⟩
        · rw [p2]
          have := gDk_rg (row := row) (pos := q) hk
          omega
        · unfold gAt
          rw [p2, rg.1]
          exact v
      rw [e13 _ sr.1 sr.2, h0.found hk sr so, p2]
      exact Or.inl rfl
    · rw [e 5 _ (by omega)]
      exact Or.inr p2
  · exact (hO s u s0 s1 u0 u1 a b).imp (vFd.sound hk h0 f ⟨s0, s1⟩) (vFd.sound hk h0 f ⟨u0, u1⟩)
theorem vLog.of {d w r : Int} {C : Int → Int → Int} {H H' : zHp} (h : vLog d w r C H) (e : ∀ q i, (q = 5 ∨ q = 7 ∨ q = 8) → H' q i = H q i) : vLog d w r C H' := by
  rcases h with h | ⟨x, s, hx, hs, h3, hT⟩
  · refine Or.inl (fun x x0 x1 a => ?_)
    rw [e 5 _ (by omega)] at a
    rw [e 7 _ (by omega)]
    exact h x x0 x1 a
  · refine Or.inr ⟨x, s, hx, hs, h3, ⟨by rw [e 5 _ (by omega)]; exact hT.1.1, by rw [e 7 _ (by omega)]; exact hT.1.2.1, fun i i0 i1 => by rw [e 8 _ (by omega)]; exact hT.1.2.2 i i0 i1⟩, fun y y0 y1 ne a => ?_⟩
    rw [e 5 _ (by omega)] at a
    rw [e 7 _ (by omega)]
    exact hT.2 y y0 y1 ne a
theorem vL.of {d r : Int} {H H' : zHp} (h : vL d r H) (e : ∀ q i, (q = 5 ∨ q = 7) → H' q i = H q i) : vL d r H' := fun x x0 x1 a => by
  rw [e 5 _ (by omega)] at a
  rw [e 7 _ (by omega)]
  exact h x x0 x1 a
/-- no write was cut: the places found -/
theorem vBw.off {d w r : Int} {C : Int → Int → Int} {O : Int → Int} {H H' M : zHp} (hk : gOK d w r) (h : vBw d w r C H) (hu : vUq d w r H) (hL : vL d r H) (hK : rK d r H M) (f : vFd d w r H H') (hc : M 35 20 = 0 ∧ ∀ f, 0 ≤ f → f + w ≤ r * gPo d w → f % w = 0 → vP w C f) : vOf d w r C O H' M := by
  have e := f.1
  refine ⟨⟨f.bw hk h, hL.log.of (fun q i hq => e q i (by omega)), Or.inl (hL.of (fun q i hq => e q i (by omega))), hu.of (fun q i hq => e q i (by omega))⟩, fun s s0 s1 => ?_, hK.of (fun q i hq => e q i (by omega)) (fun _ _ _ => rfl), Or.inl hc⟩
  rw [f.2 s s0 s1]
  exact (gFound_congr (fun i => e 5 i (by omega)) (fun i => e 6 i (by omega)) (fun i => e 7 i (by omega))).symm
/-- power gone in a write: the places found -/
theorem vX.off {d w r : Int} {C : Int → Int → Int} {O : Int → Int} {H H' M : zHp} (hk : gOK d w r) (h : vX d w r C O H M) (f : vFd d w r H H') : vOf d w r C O H' M := by
  obtain ⟨⟨hB, hL⟩, hK, -, -, hc⟩ := h
  have e := f.1
  have e13 := f.2
  have hw := hB.w hk
  have sp := f.sp hk hw hB.2.2.1
  refine ⟨⟨f.bw hk hw, hL.of (fun q i hq => e q i (by omega)), Or.inr sp, sp.u hk⟩, fun s s0 s1 => ?_, hK.of (fun q i hq => e q i (by omega)) (fun _ _ _ => rfl), ?_⟩
  · rw [e13 s s0 s1]
    exact (gFound_congr (fun i => e 5 i (by omega)) (fun i => e 6 i (by omega)) (fun i => e 7 i (by omega))).symm
  rcases hc with hc | ⟨c1, c2, c3⟩
  · exact Or.inl hc
  · refine Or.inr ⟨c1, c2, ?_, sp⟩
    obtain ⟨hs, -, -, g3, -⟩ := gSo_rg hk c2
    generalize gSo w (M 35 19) = s at *
    obtain ⟨s1, s2, s3, s4⟩ := gStripe hk hs
    have w3 := hk.2.2.1
    have hp : 0 ≤ s - s % w + w - 1 ∧ s - s % w + w - 1 < r * gPo d w := by omega
    obtain ⟨d1, d2, ⟨d3, d4⟩, d5⟩ := c3
    refine ⟨f.sound hk hw hs d1, fun u => ?_, ⟨d3, fun x x0 x1 a b => ?_⟩, d5⟩
    · rw [e13 _ hp.1 hp.2] at u ⊢
      rcases hB.found2 hk hp with g | g
      · rw [g] at u ⊢
        rw [e 5 _ (by omega), e 7 _ (by omega)]
        exact d2 u
      · exact absurd g u
    · rw [e 5 _ (by omega)] at a
      rw [e 7 _ (by omega)] at b ⊢
      exact d4 x x0 x1 a b
