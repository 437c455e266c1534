/-! fail: what a dead disk takes with it. -/
theorem gOn_iff {d w r x y o : Int} (hk : gOK d w r) (ho : 0 ≤ o ∧ o ≤ r) : gOn r x (gCe r y o) ↔ y = x := by
  unfold gOn gCe
  have r48 := hk.2.2.2.2.2.1
  constructor
  · intro u
    have a : x < y + 1 := Int.lt_of_mul_lt_mul_right (a := r + 1) (by rw [Int.add_mul]; omega) (by omega)
    have b : y < x + 1 := Int.lt_of_mul_lt_mul_right (a := r + 1) (by rw [Int.add_mul]; omega) (by omega)
    omega
  · intro u
    rw [u]
    omega
/-- the cells of the disk x are gone -/
def dC (r x : Int) (H K : zHp) : Prop := (∀ c, (gOn r x c → K 5 c = 0 ∧ K 6 c = 0) ∧ (¬ gOn r x c → K 5 c = H 5 c ∧ K 6 c = H 6 c)) ∧ (∀ i, K 7 i = H 7 i) ∧ ∀ i, K 8 i = H 8 i
section DEAD
variable {d w r x : Int} {t : Nat} {L : Int → Int} {H K M X : zHp} {Qr Qt : Int → zS → Prop} {C : Int → Int → Int}
theorem dC.yes {o : Int} (hk : gOK d w r) (h : dC r x H K) (ho : 0 ≤ o ∧ o ≤ r) : K 5 (gCe r x o) = 0 ∧ K 6 (gCe r x o) = 0 := (h.1 _).1 ((gOn_iff hk ho).mpr rfl)
theorem dC.no {y o : Int} (hk : gOK d w r) (h : dC r x H K) (ho : 0 ≤ o ∧ o ≤ r) (hy : y ≠ x) : K 5 (gCe r y o) = H 5 (gCe r y o) ∧ K 6 (gCe r y o) = H 6 (gCe r y o) := (h.1 _).2 (fun u => hy ((gOn_iff hk ho).mp u))
theorem dC.wr {y o : Int} (hk : gOK d w r) (h : dC r x H K) (ho : 0 ≤ o ∧ o ≤ r) (u : K 5 (gCe r y o) ≠ 0) : y ≠ x ∧ H 5 (gCe r y o) ≠ 0 := by
  by_cases c : y = x
  · rw [c, (h.yes hk ho).1] at u; exact absurd rfl u
  · exact ⟨c, by rw [← (h.no hk ho c).1]; exact u⟩
theorem dC.val {y o : Int} (hk : gOK d w r) (h : dC r x H K) (ho : 0 ≤ o ∧ o ≤ r) : gVal K (gCe r y o) ↔ y ≠ x ∧ gVal H (gCe r y o) := by
  unfold gVal
  constructor
  · intro u
    have a := h.wr hk ho u.1
    exact ⟨a.1, a.2, by rw [← (h.no hk ho a.1).2]; exact u.2⟩
  · intro u
    rw [(h.no hk ho u.1).1, (h.no hk ho u.1).2]
    exact u.2
theorem vCel.dead (hk : gOK d w r) (h : vCel d w r C H) (D : dC r x H K) : vCel d w r C K := by
  refine ⟨fun s s0 s1 a => ?_, fun row q a b c e v t => ?_⟩
  · have q := gSp_rg hk ⟨s0, s1⟩
    have z := h.1 s s0 s1 (D.wr hk (by omega) a).2
    rw [D.2.1]
    exact ⟨z.1, fun i i0 i1 => by rw [D.2.2]; exact z.2 i i0 i1⟩
  · rw [D.2.1] at t ⊢
    obtain ⟨p, p0, p1, p2⟩ := h.2 row q a b c e ((D.val hk (by omega)).mp v).2 t
    exact ⟨p, p0, p1, fun i i0 i1 => by rw [D.2.2]; exact p2 i i0 i1⟩
theorem vUq.dead (hk : gOK d w r) (h : vUq d w r H) (D : dC r x H K) : vUq d w r K := fun row q q' a b c e c' e' v v' t te => by
  rw [D.2.1] at t te
  rw [D.2.1] at te
  exact h row q q' a b c e c' e' ((D.val hk (by omega)).mp v).2 ((D.val hk (by omega)).mp v').2 t te
theorem vF0.dead (hk : gOK d w r) (h : vF0 d r H) (D : dC r x H K) : vF0 d r K := fun y y0 y1 => by
  have r48 := hk.2.2.2.2.2.1
  by_cases c : y = x
  · rw [c]; exact (D.yes hk (by omega)).2
  · rw [(D.no hk (by omega) c).2]; exact h y y0 y1
theorem vL.dead (hk : gOK d w r) (h : vL d r H) (D : dC r x H K) : vL d r K := fun y y0 y1 a => by
  have r48 := hk.2.2.2.2.2.1
  rw [D.2.1]
  exact h y y0 y1 (D.wr hk (by omega) a).2
theorem vLog.dead (hk : gOK d w r) (h : vLog d w r C H) (D : dC r x H K) : vLog d w r C K := by
  have r48 := hk.2.2.2.2.2.1
  rcases h with h | ⟨y, s, hy, hs, h3, hT⟩
  · exact Or.inl (h.dead hk D)
  · by_cases c : y = x
    · refine Or.inl (fun z z0 z1 a => ?_)
      have b := D.wr hk (by omega) a
      rw [D.2.1]
      exact hT.2 z z0 z1 (by rw [c]; exact b.1) b.2
    · refine Or.inr ⟨y, s, hy, hs, h3, ⟨by rw [(D.no hk (by omega) c).1]; exact hT.1.1, by rw [D.2.1]; exact hT.1.2.1, fun i i0 i1 => by rw [D.2.2]; exact hT.1.2.2 i i0 i1⟩, fun z z0 z1 n a => ?_⟩
      rw [D.2.1]
      exact hT.2 z z0 z1 n (D.wr hk (by omega) a).2
theorem gTold.dead {s q : Int} (hk : gOK d w r) (D : dC r x H K) (hs : 0 ≤ s ∧ s < r * gPo d w) : gTold d w r K s q ↔ gDk d (s / gPo d w) q ≠ x ∧ gTold d w r H s q := by
  have a := gSp_rg hk hs
  unfold gTold
  rw [D.val hk (by omega), D.2.1, and_assoc]
/-- what is not on the dead disk is found where it was -/
theorem found_dead {s : Int} (hk : gOK d w r) (D : dC r x H K) (hs : 0 ≤ s ∧ s < r * gPo d w) (h1 : gFound d w r H s ≠ -1) (h2 : gFound d w r H s ≠ x) : gFound d w r K s = gFound d w r H s := by
  have a := gSp_rg hk hs
  rcases gFound_spec hk s H with ⟨b, c⟩ | ⟨b, ⟨c, -⟩ | ⟨q, hq, c, e, f⟩⟩
  · rw [c] at h2 ⊢
    exact gFound_home (by rw [(D.no hk (by omega) h2).1]; exact b)
  · exact absurd c h1
  · rw [c] at h2 ⊢
    refine gFound_spare hk ?_ hq ((gTold.dead hk D hs).mpr ⟨h2, e⟩) (fun q' q0 q1 u => f q' q0 q1 ((gTold.dead hk D hs).mp u).2)
    by_cases z : gHome d w s = x
    · rw [z]; exact (D.yes hk (by omega)).1
    · rw [(D.no hk (by omega) z).1]; exact b
/-- the places found, out of the cells alone -/
theorem vBw.make (hk : gOK d w r) (hR : vR C) (hC : vCel d w r C K) (hU : vUq d w r K) (hF : vF0 d r K) (hf : ∀ s, 0 ≤ s → s < r * gPo d w → K 13 s = gFound d w r K s) (hO : vOne d w r K) : vBw d w r C K := by
  refine ⟨⟨hR, fun s s0 s1 hn => ?_, hC⟩, fun s s0 s1 a => ?_, fun row q a b c g v t => ?_, hF, hO⟩
  · rw [hf s s0 s1] at hn ⊢
    have eat : gAt d w r K s = gCe r (gFound d w r K s) (s / gPo d w) := by unfold gAt; rw [hf s s0 s1]
    rw [eat]
    have rg := gSp_rg hk ⟨s0, s1⟩
    rcases gFound_spec hk s K with ⟨a, b⟩ | ⟨a, ⟨b, -⟩ | ⟨q, hq, b1, b2, -⟩⟩
    · rw [b]
      have z := hC.1 s s0 s1 a
      exact ⟨⟨a, z.1, Or.inl rfl⟩, z.2⟩
    · exact absurd b hn
    · rw [b1]
      refine ⟨⟨b2.1.1, b2.2, Or.inr ⟨q, hq.1, hq.2, rfl⟩⟩, fun i i0 i1 => ?_⟩
      obtain ⟨p, p0, p1, p2⟩ := hC.2 (s / gPo d w) q rg.1.1 rg.1.2 hq.1 hq.2 b2.1 (by rw [b2.2]; omega)
      have ep : p = s % gPo d w := by have := b2.2; omega
      rw [p2 i i0 i1, ep, gSpot_of hk]
  · rw [hf s s0 s1, gFound_home a]
  · obtain ⟨p, p0, p1, p2⟩ := hC.2 row q a b c g v t
    refine ⟨p, p0, p1, ?_⟩
    have rg := gRow_of (row := row) hk p0
    have sr := gSpot_rg hk ⟨a, b⟩ p0
    rw [hf _ sr.1 sr.2]
    rcases gFound_spec hk (row * gPo d w + p) K with ⟨u, -⟩ | ⟨u, ⟨e1, e2⟩ | ⟨q', hq', e1, e2, -⟩⟩
    · rw [rg.1] at u
      exact Or.inr u
    · exact absurd (show gTold d w r K (row * gPo d w + p) q from by unfold gTold; rw [rg.1, rg.2]; exact ⟨v, p1⟩) (e2 q c g)
    · unfold gTold at e2
      rw [rg.1] at e1
      rw [rg.1, rg.2] at e2
      have := hU row q q' a b c g hq'.1 hq'.2 v e2.1 t (by rw [p1, e2.2])
      rw [e1, this]
      exact Or.inl rfl
/-- places are apart -/
theorem vA.apart {s u : Int} (hk : gOK d w r) (hA : vA d w r C H) (hs : 0 ≤ s ∧ s < r * gPo d w) (hu : 0 ≤ u ∧ u < r * gPo d w) (ne : s ≠ u) (row : s / gPo d w = u / gPo d w) (ps : H 13 s ≠ -1) (pu : H 13 u ≠ -1) : H 13 s ≠ H 13 u := fun e => hA.ne hk hs hu ps pu ne (by unfold gAt; rw [e, row])
theorem gStr_row {s u : Int} (hk : gOK d w r) (hs : 0 ≤ s ∧ s < r * gPo d w) (hu : 0 ≤ u ∧ u < r * gPo d w) (e : s / w = u / w) : (s - s % w ≤ u ∧ u ≤ s - s % w + w - 1) ∧ s / gPo d w = u / gPo d w := by
  have w3 := hk.2.2.1
  have a := Int.mul_ediv_add_emod s w
  have b := Int.mul_ediv_add_emod u w
  have c := Int.emod_nonneg u (show w ≠ 0 by omega)
  have f := Int.emod_lt_of_pos u (show 0 < w by omega)
  rw [e] at a
  have k : s - s % w ≤ u ∧ u ≤ s - s % w + w - 1 := by omega
  exact ⟨k, (gRow_same hk hs k.1 (by omega)).symm⟩
/-- a disk may be missed: no stripe has two bad ones without it -/
theorem vOne.dead (hk : gOK d w r) (hA : vA d w r C H) (hO : vOne d w r H) (hm : ∀ s, 0 ≤ s → s < r * gPo d w → H 13 s = x → ¬ gFault d w r H s) (so : ∀ s, 0 ≤ s → s < r * gPo d w → gSound d w r H s → H 13 s ≠ x → gSound d w r K s) : vOne d w r K := by
  have w3 := hk.2.2.1
  have key : ∀ s u, 0 ≤ s → s < r * gPo d w → 0 ≤ u → u < r * gPo d w → s / w = u / w → s ≠ u → H 13 s = x → x ≠ -1 → gSound d w r K u := fun s u s0 s1 u0 u1 e ne hx x1 => by
    have k := gStr_row hk ⟨s0, s1⟩ ⟨u0, u1⟩ e
    have su : gSound d w r H u := Classical.byContradiction (fun c => hm s s0 s1 hx ⟨u, k.1.1, k.1.2, fun z => ne z.symm, c⟩)
    refine so u u0 u1 su (fun c => ?_)
    exact hA.apart hk ⟨s0, s1⟩ ⟨u0, u1⟩ ne k.2 (by rw [hx]; exact x1) su.1 (by rw [hx, c])
  intro s u s0 s1 u0 u1 e ne
  by_cases x1 : x = -1
  · rcases hO s u s0 s1 u0 u1 e ne with z | z
    · exact Or.inl (so s s0 s1 z (by rw [x1]; exact z.1))
    · exact Or.inr (so u u0 u1 z (by rw [x1]; exact z.1))
  · by_cases c : H 13 s = x
    · exact Or.inr (key s u s0 s1 u0 u1 e ne c x1)
    · by_cases c' : H 13 u = x
      · exact Or.inl (key u s u0 u1 s0 s1 e.symm (fun z => ne z.symm) c' x1)
      · rcases hO s u s0 s1 u0 u1 e ne with z | z
        · exact Or.inl (so s s0 s1 z c)
        · exact Or.inr (so u u0 u1 z c')
theorem vB.dead (hk : gOK d w r) (h : vB d w r C H) (D : dC r x H K) (x1 : x ≠ -1) (e13 : ∀ s, 0 ≤ s → s < r * gPo d w → K 13 s = if H 13 s = x then -1 else H 13 s) (hm : ∀ s, 0 ≤ s → s < r * gPo d w → H 13 s = x → ¬ gFault d w r H s) : vB d w r C K := by
  obtain ⟨⟨hR, hA⟩, hH, hS, hF, hO⟩ := h
  have po := gPo_rg hk
  have stay : ∀ s, 0 ≤ s → s < r * gPo d w → H 13 s ≠ x → K 13 s = H 13 s := fun s s0 s1 c => by rw [e13 s s0 s1, if_neg c]
  have pla : ∀ s, 0 ≤ s → s < r * gPo d w → K 13 s ≠ -1 → H 13 s ≠ x ∧ K 13 s = H 13 s := fun s s0 s1 c => by
    by_cases z : H 13 s = x
    · rw [e13 s s0 s1, if_pos z] at c; exact absurd rfl c
    · exact ⟨z, stay s s0 s1 z⟩
  refine ⟨⟨hR, fun s s0 s1 ps => ?_⟩, fun s s0 s1 a => ?_, fun row q a b c e v t => ?_, hF.dead hk D, hO.dead hk hA hm (fun s s0 s1 z c => ?_)⟩
  · have q := gSp_rg hk ⟨s0, s1⟩
    obtain ⟨z, e⟩ := pla s s0 s1 ps
    have y := hA s s0 s1 (by rw [← e]; exact ps)
    have ea : gAt d w r K s = gAt d w r H s := gAt_of e
    have n := D.no (o := s / gPo d w) hk (by omega) z
    unfold gAt at y ea
    unfold gAt
    rw [ea, e, n.1, D.2.1]
    exact ⟨y.1, fun i i0 i1 => by rw [D.2.2]; exact y.2 i i0 i1⟩
  · have q := gSp_rg hk ⟨s0, s1⟩
    have z := D.wr hk (by omega) a
    have y := hH s s0 s1 z.2
    rw [stay s s0 s1 (by rw [y]; exact z.1), y]
  · have z := (D.val hk (by omega)).mp v
    rw [D.2.1] at t ⊢
    obtain ⟨p, p0, p1, p2⟩ := hS row q a b c e z.2 t
    have sr := gSpot_rg hk ⟨a, b⟩ p0
    exact ⟨p, p0, p1, by rw [stay _ sr.1 sr.2 (by rw [p2]; exact z.1), p2]⟩
  · have q := gSp_rg hk ⟨s0, s1⟩
    have e := stay s s0 s1 c
    have n := D.no (o := s / gPo d w) hk (by omega) c
    unfold gSound gVal gAt
    rw [e, n.1, n.2]
    exact z
/-- the racks agree still -/
theorem rK.dead (hk : gOK d w r) (h : rK d r H M) (hx : 0 ≤ x ∧ x < d) (D : dC r x H K) (e4 : ∀ i, (i = x → K 4 i = 0) ∧ (i ≠ x → K 4 i = H 4 i)) (e9 : ∀ j, (gOn r x (j / 9) ∧ H 6 (j / 9) ≠ 0 → K 9 j = 0) ∧ (¬ (gOn r x (j / 9) ∧ H 6 (j / 9) ≠ 0) → K 9 j = H 9 j)) : rK d r K (zupd M 37 x 0) := by
  obtain ⟨h1, h2, h3, h4⟩ := h
  refine ⟨fun y y0 y1 => ?_, fun y o y0 y1 o0 o1 => ?_, fun j => ?_, fun j => by rw [zupd_ne (by decide)]; exact h4 j⟩
  · by_cases c : y = x
    · rw [(e4 y).1 c, c, zupd_at]
    · rw [(e4 y).2 c, zupd_no (fun u => c u.2)]; exact h1 y y0 y1
  · obtain ⟨a1, a2, a3, a4⟩ := h2 y o y0 y1 o0 o1
    rw [zupd_ne (show (38 : Int) ≠ 37 by decide), zupd_ne (show (39 : Int) ≠ 37 by decide), D.2.1]
    by_cases c : y = x
    · have n := D.yes (o := o) hk ⟨o0, o1⟩
      have on : gOn r x (gCe r y o) := (gOn_iff hk ⟨o0, o1⟩).mpr c
      have w0 : ∀ j, 0 ≤ j → j < 9 → K 9 (9 * gCe r y o + j) = 0 := fun j j0 j1 => by
        have ej : (9 * gCe r y o + j) / 9 = gCe r y o := by omega
        by_cases z : H 6 (gCe r y o) = 0
        · rw [(e9 _).2 (by rw [ej]; exact fun u => u.2 z)]
          by_cases y' : H 9 (9 * gCe r y o + j) = 0
          · exact y'
          · exact absurd (a4.mpr ⟨j, j0, j1, y'⟩) (fun u => u z)
        · exact (e9 _).1 (by rw [ej]; exact ⟨on, z⟩)
      rw [c, zupd_at] at *
      rw [n.1, n.2]
      refine ⟨⟨fun u => absurd rfl u, fun u => absurd rfl u.1⟩, fun u => absurd rfl u, fun k k0 k1 => ?_, ⟨fun u => absurd rfl u, fun ⟨j, j0, j1, j2⟩ => absurd (w0 j j0 j1) j2⟩⟩
      rw [if_neg (fun u => u.1 rfl)]
      exact zB8_0 (by rw [show (72 * gCe r x o + k) / 8 = 9 * gCe r x o + k / 8 by omega]; exact w0 (k / 8) (by omega) (by omega))
    · have n := D.no (o := o) hk ⟨o0, o1⟩ c
      have on : ¬ gOn r x (gCe r y o) := fun u => c ((gOn_iff hk ⟨o0, o1⟩).mp u)
      have w0 : ∀ j, 0 ≤ j → j < 9 → K 9 (9 * gCe r y o + j) = H 9 (9 * gCe r y o + j) := fun j j0 j1 => (e9 _).2 (by rw [show (9 * gCe r y o + j) / 9 = gCe r y o by omega]; exact fun u => on u.1)
      have b0 : ∀ k, 0 ≤ k → k < 72 → zB8 K 9 (72 * gCe r y o + k) = zB8 H 9 (72 * gCe r y o + k) := fun k k0 k1 => by
        unfold zB8
        rw [show (72 * gCe r y o + k) / 8 = 9 * gCe r y o + k / 8 by omega, w0 (k / 8) (by omega) (by omega)]
      rw [zupd_no (show ¬ ((37 : Int) = 37 ∧ y = x) from fun u => c u.2), n.1, n.2]
      refine ⟨a1, a2, fun k k0 k1 => ?_, ?_⟩
      · rw [b0 k k0 k1, a3 k k0 k1, zupd_ne (by decide)]
      · rw [a4]
        exact ⟨fun ⟨j, j0, j1, j2⟩ => ⟨j, j0, j1, by rw [w0 j j0 j1]; exact j2⟩, fun ⟨j, j0, j1, j2⟩ => ⟨j, j0, j1, by rw [w0 j j0 j1] at j2; exact j2⟩⟩
  · by_cases c : gOn r x (j / 9) ∧ H 6 (j / 9) ≠ 0
    · rw [(e9 j).1 c]; rfl
    · rw [(e9 j).2 c]; exact h3 j
end DEAD
