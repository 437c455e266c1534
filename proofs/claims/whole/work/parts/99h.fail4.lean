/-! fail: what holds behind it. -/
section FAIL4
variable {d w r x : Int} {t : Nat} {L : Int → Int} {H K M N X : zHp} {Qr Qt : Int → zS → Prop} {C : Int → Int → Int} {O : Int → Int}
/-- what failing leaves of the class's heap, places aside -/
def dK (r x : Int) (H K : zHp) : Prop := dC r x H K ∧ (∀ i, (i = x → K 4 i = 0) ∧ (i ≠ x → K 4 i = H 4 i)) ∧ (∀ j, (gOn r x (j / 9) ∧ H 6 (j / 9) ≠ 0 → K 9 j = 0) ∧ (¬ (gOn r x (j / 9) ∧ H 6 (j / 9) ≠ 0) → K 9 j = H 9 j)) ∧ ∀ q i, q ≠ 4 → q ≠ 5 → q ≠ 6 → q ≠ 9 → q ≠ 13 → K q i = H q i
theorem rOn.dead (hk : gOK d w r) (h : rOn d w r C H M) (hx : 0 ≤ x ∧ x < d) (D : dK r x H K) (e13 : ∀ s, 0 ≤ s → s < r * gPo d w → K 13 s = if H 13 s = x then -1 else H 13 s) (hm : ∀ s, 0 ≤ s → s < r * gPo d w → H 13 s = x → ¬ gFault d w r H s) (eN : ∀ q i, q ≠ 37 → q ≠ 41 → N q i = M q i) (e37 : ∀ i, N 37 i = zupd M 37 x 0 37 i) (e41 : ∀ i, 0 ≤ i → i < 16 * r → i % 16 < gPo d w → N 41 i = if M 41 i = x then -1 else M 41 i) : rOn d w r C K N := by
  obtain ⟨⟨⟨hB, hL, hP⟩, hK, hR, ⟨on, nc⟩, pl⟩, hv, ht, hj, o⟩ := h
  obtain ⟨D1, D4, D9, De⟩ := D
  have f43 : N 43 = M 43 := funext (fun i => eN 43 i (by decide) (by decide))
  have on' : N 35 12 = 1 := by rw [eN 35 12 (by decide) (by decide)]; exact on
  have po := gPo_rg hk
  have d16 := hk.2.1
  refine ⟨⟨⟨hB.dead hk D1 (by omega) e13 hm, hL.dead hk D1, hP⟩, (hK.dead hk hx D1 D4 D9).of (fun _ _ _ => rfl) (fun q i hq => ?_), hR.of (fun i _ => De 3 i (by decide) (by decide) (by decide) (by decide) (by decide)) (fun i _ => eN 35 i (by decide) (by decide)), ⟨on', by rw [eN 35 20 (by decide) (by decide)]; exact nc⟩, fun s s0 s1 => ?_⟩, by rw [f43]; exact hv, ht.keep (fun q i hq => De q i (by omega) (by omega) (by omega) (by omega) (by omega)) (fun q i hq => eN q i (by omega) (by omega)), by rw [f43]; exact hj, by rw [De 0 11 (by decide) (by decide) (by decide) (by decide) (by decide)]; exact o⟩
  · by_cases c : q = 37
    · rw [c]; exact e37 i
    · rw [eN q i c (by omega), zupd_ne c]
  · have q := gSp_rg hk ⟨s0, s1⟩
    rw [e13 s s0 s1, pl s s0 s1, mPs_on on, mPs_on on', e41 _ (by omega) (by omega) (by omega)]
theorem rOff.dead (hk : gOK d w r) (h : rOff d w r C O H M) (hx : 0 ≤ x ∧ x < d) (D : dK r x H K) (e13 : ∀ s, 0 ≤ s → s < r * gPo d w → K 13 s = gFound d w r K s) (hm : ∀ s, 0 ≤ s → s < r * gPo d w → H 13 s = x → ¬ gFault d w r H s) (eN : ∀ q i, q ≠ 37 → q ≠ 43 → ¬ (q = 35 ∧ i = 20) → N q i = M q i) (e37 : ∀ i, N 37 i = zupd M 37 x 0 37 i)
    (eT : (M 35 20 = 1 ∧ H 13 (gSo w (M 35 19)) = x ∧ N 43 = vRev M ∧ N 35 20 = 0) ∨ (¬ (M 35 20 = 1 ∧ H 13 (gSo w (M 35 19)) = x) ∧ N 43 = M 43 ∧ N 35 20 = M 35 20)) : ∃ C' O', rOff d w r C' O' K N := by
  obtain ⟨⟨⟨hB, hG, hx', hU⟩, hf, hK, hc⟩, hR, ho, hv, hj, hd⟩ := h
  obtain ⟨D1, D4, D9, De⟩ := D
  have hB0 := hB
  obtain ⟨⟨hR', hA, hC⟩, hH, hS, hF, hO⟩ := hB
  have w3 := hk.2.2.1
  have fd : ∀ s, 0 ≤ s → s < r * gPo d w → H 13 s ≠ -1 → H 13 s ≠ x → K 13 s = H 13 s := fun s s0 s1 a b => by
    rw [hf s s0 s1] at a b ⊢
    rw [e13 s s0 s1]
    exact found_dead hk D1 ⟨s0, s1⟩ a b
  have so : ∀ s, 0 ≤ s → s < r * gPo d w → gSound d w r H s → H 13 s ≠ x → gSound d w r K s := fun s s0 s1 z c => by
    have q := gSp_rg hk ⟨s0, s1⟩
    have e := fd s s0 s1 z.1 c
    have n := D1.no (o := s / gPo d w) hk (by omega) c
    unfold gSound gVal gAt
    rw [e, n.1, n.2]
    exact z
  have one : vOne d w r K := hO.dead hk hA hm so
  have kK : rK d r K N := (hK.dead hk hx D1 D4 D9).of (fun _ _ _ => rfl) (fun q i hq => by
    by_cases c : q = 37
    · rw [c]; exact e37 i
    · rw [eN q i c (by omega) (by omega), zupd_ne c])
  have kR : rL K N := hR.of (fun i _ => De 3 i (by decide) (by decide) (by decide) (by decide) (by decide)) (fun i hi => eN 35 i (by decide) (by decide) (by omega))
  have ko : N 35 12 = 0 ∧ K 0 11 = 0 := ⟨by rw [eN 35 12 (by decide) (by decide) (by decide)]; exact ho.1, by rw [De 0 11 (by decide) (by decide) (by decide) (by decide) (by decide)]; exact ho.2⟩
  have sp : vSp d w r H → vSp d w r K := fun hs row q a b c e v t => by
    have z := (D1.val hk (by omega)).mp v
    rw [D1.2.1] at t ⊢
    obtain ⟨p, p0, p1, p2⟩ := hs row q a b c e z.2 t
    have sr := gSpot_rg hk ⟨a, b⟩ p0
    have g := gDk_rg (row := row) (pos := q) hk
    exact ⟨p, p0, p1, by rw [fd _ sr.1 sr.2 (by rw [p2]; omega) (by rw [p2]; exact z.1), p2]⟩
  have ls : vL d r K ∨ vSp d w r K := hx'.imp (fun u => u.dead hk D1) sp
  rcases eT with ⟨c1, c2, n43, n20⟩ | ⟨c, n43, n20⟩
  · -- the data of the cut write goes: the block is as it was
    rcases hc with ⟨z, -⟩ | ⟨-, b1, b2, b3⟩
    · omega
    obtain ⟨hv', hj'⟩ := hd c1
    obtain ⟨hs, -, -, g3, -⟩ := gSo_rg hk b1
    generalize gSo w (M 35 19) = s at *
    obtain ⟨d1, d2, ⟨d3, d4⟩, d5⟩ := b2
    have q := gSp_rg hk hs
    have cu : ∀ u, u ≠ s → ∀ i, vUp C s O u i = C u i := fun u n i => vUp_ne n
    have hR2 : vR (vUp C s O) := vUp_R hR' (fun i _ _ => d3 i)
    have noH : K 5 (gCe r (gHome d w s) (s / gPo d w)) = 0 := by
      by_cases z : gHome d w s = x
      · rw [z]; exact (D1.yes hk (by omega)).1
      · rw [(D1.no hk (by omega) z).1]
        by_cases y : H 5 (gCe r (gHome d w s) (s / gPo d w)) = 0
        · exact y
        · exact absurd (by rw [← hH s hs.1 hs.2 y]; exact c2) z
    have hC2 : vCel d w r (vUp C s O) K := by
      have hC1 := hC.dead hk D1
      refine ⟨fun u u0 u1 a => ?_, fun row q a b c e v t => ?_⟩
      · have n : u ≠ s := fun z => by rw [z] at a; exact a noH
        obtain ⟨y1, y2⟩ := hC1.1 u u0 u1 a
        exact ⟨y1, fun i i0 i1 => by rw [cu u n i]; exact y2 i i0 i1⟩
      · obtain ⟨p, p0, p1, p2⟩ := hC1.2 row q a b c e v t
        refine ⟨p, p0, p1, fun i i0 i1 => ?_⟩
        have n : row * gPo d w + p ≠ s := fun z => by
          have v' := (D1.val hk (by omega)).mp v
          rw [D1.2.1] at t p1
          obtain ⟨p', p0', p1', p2'⟩ := b3 row q a b c e v'.2 t
          have ep : p' = p := by omega
          rw [ep, z, c2] at p2'
          exact v'.1 p2'.symm
        rw [cu _ n i]
        exact p2 i i0 i1
    have hG2 : vLog d w r (vUp C s O) K := by
      rcases hG.dead hk D1 with u | ⟨y, s', hy, hs', h3', hT⟩
      · exact Or.inl u
      · have r48 := hk.2.2.2.2.2.1
        have a := D1.wr hk (show 0 ≤ r ∧ r ≤ r by omega) hT.1.1
        have e7 : H 7 (gCe r y r) = 1 + 8 * (s' / w) + s' % w := by rw [← D1.2.1]; exact hT.1.2.1
        have m' := Int.emod_nonneg s' (show w ≠ 0 by omega)
        have m0 := Int.emod_nonneg s (show w ≠ 0 by omega)
        have dv' := Int.ediv_nonneg hs'.1 (show 0 ≤ w by omega)
        have e8 := d4 y hy.1 hy.2 a.2 (by rw [e7]; omega)
        have w8 := hk.2.2.2.1
        have es : s' = s := by
          rw [e7] at e8
          have k1 : s' / w = s / w := by omega
          have k2 : s' % w = s % w := by omega
          have m1 := Int.mul_ediv_add_emod s' w
          have m2 := Int.mul_ediv_add_emod s w
          rw [k1, k2] at m1
          omega
        rw [es] at hT hs' h3'
        exact Or.inr ⟨y, s, hy, hs', h3', hT.eq (fun i => vQ_up)⟩
    refine ⟨vUp C s O, O, ⟨⟨vBw.make hk hR2 hC2 (hU.dead hk D1) (hF.dead hk D1) e13 one, hG2, ls, hU.dead hk D1⟩, e13, kK, Or.inl ⟨n20, fun f f0 f1 f2 => ?_⟩⟩, kR, ko, by rw [n43]; exact hv', by rw [n43]; exact hj', fun u => by rw [n20] at u; cases u⟩
    by_cases z : f = s - s % w
    · exact (d5 f f0 f1 f2).2 z
    · refine vP_up ((d5 f f0 f1 f2).1 z) (fun y => z ?_)
      have := (gStr w3 f2 y).2
      omega
  · refine ⟨C, O, ⟨⟨vBw.make hk hR' (hC.dead hk D1) (hU.dead hk D1) (hF.dead hk D1) e13 one, hG.dead hk D1, ls, hU.dead hk D1⟩, e13, kK, ?_⟩, kR, ko, by rw [n43]; exact hv, by rw [n43]; exact hj, fun u => ?_⟩
    · rcases hc with ⟨z1, z2⟩ | ⟨z1, b1, b2, b3⟩
      · exact Or.inl ⟨by rw [n20]; exact z1, z2⟩
      · have e19 : N 35 19 = M 35 19 := eN 35 19 (by decide) (by decide) (by decide)
        refine Or.inr ⟨by rw [n20]; exact z1, by rw [e19]; exact b1, ?_, sp b3⟩
        rw [e19]
        have c' : H 13 (gSo w (M 35 19)) ≠ x := fun z => c ⟨z1, z⟩
        obtain ⟨hs, -, -, g3, -⟩ := gSo_rg hk b1
        generalize gSo w (M 35 19) = s at *
        obtain ⟨d1, d2, ⟨d3, d4⟩, d5⟩ := b2
        obtain ⟨s1, s2, s3, s4⟩ := gStripe hk hs
        have hp : 0 ≤ s - s % w + w - 1 ∧ s - s % w + w - 1 < r * gPo d w := by omega
        have r48 := hk.2.2.2.2.2.1
        refine ⟨so s hs.1 hs.2 d1 c', fun u => ?_, ⟨d3, fun y y0 y1 a b => ?_⟩, d5⟩
        · -- where the parity was
          generalize s - s % w + w - 1 = p at *
          have nx : H 13 p ≠ x := fun z => by
            apply u
            rw [e13 p hp.1 hp.2]
            have qp := gSp_rg hk hp
            refine gFound_none ?_ (fun q q0 q1 v => ?_)
            · by_cases y : gHome d w p = x
              · rw [y]; exact (D1.yes hk (by omega)).1
              · rw [(D1.no hk (by omega) y).1]
                by_cases y' : H 5 (gCe r (gHome d w p) (p / gPo d w)) = 0
                · exact y'
                · exact absurd (by rw [← hH p hp.1 hp.2 y']; exact z) y
            · have v' := (gTold.dead hk D1 hp).mp v
              obtain ⟨p', p0', p1', p2'⟩ := b3 (p / gPo d w) q qp.1.1 qp.1.2 q0 q1 v'.2.1 (by rw [v'.2.2]; omega)
              have ep : p' = p % gPo d w := by have := v'.2.2; omega
              rw [ep, gSpot_of hk, z] at p2'
              exact v'.1 p2'.symm
          have n1 : H 13 p ≠ -1 := fun z => by
            apply u
            rw [e13 p hp.1 hp.2]
            have qp := gSp_rg hk hp
            refine gFound_none ?_ (fun q q0 q1 v => ?_)
            · by_cases y : gHome d w p = x
              · rw [y]; exact (D1.yes hk (by omega)).1
              · rw [(D1.no hk (by omega) y).1]
                by_cases y' : H 5 (gCe r (gHome d w p) (p / gPo d w)) = 0
                · exact y'
                · have := hH p hp.1 hp.2 y'
                  have g := gDk_rg (row := p / gPo d w) (pos := p % gPo d w) hk
                  unfold gHome at this
                  omega
            · have v' := (gTold.dead hk D1 hp).mp v
              obtain ⟨p', p0', p1', p2'⟩ := b3 (p / gPo d w) q qp.1.1 qp.1.2 q0 q1 v'.2.1 (by rw [v'.2.2]; omega)
              have ep : p' = p % gPo d w := by have := v'.2.2; omega
              rw [ep, gSpot_of hk, z] at p2'
              have g := gDk_rg (row := p / gPo d w) (pos := q) hk
              omega
          rw [fd p hp.1 hp.2 n1 nx, (D1.no hk (by omega) nx).1, D1.2.1]
          exact d2 n1
        · have z := D1.wr hk (by omega) a
          rw [D1.2.1] at b ⊢
          exact d4 y y0 y1 z.2 b
    · have e19 : N 35 19 = M 35 19 := eN 35 19 (by decide) (by decide) (by decide)
      rw [n20] at u
      have ev : vRev N = vRev M := by
        funext j
        unfold vRev
        rw [e19, n43, eN 44 _ (by decide) (by decide) (by omega)]
      rw [e19, ev]
      exact hd u
end FAIL4
