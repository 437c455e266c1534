/-! open: the logs. -/
section OPEN1
variable {d w r : Int} {t : Nat} {L : Int → Int} {H M X : zHp} {Qr Qt : Int → zS → Prop} {C : Int → Int → Int} {O : Int → Int}
/-- opening: power is on in the reference -/
def oS (d w r : Int) (C : Int → Int → Int) (O : Int → Int) (H M : zHp) : Prop :=
  (vBw d w r C H ∧ vLog d w r C H ∧ (vL d r H ∨ vSp d w r H) ∧ vUq d w r H) ∧ (rK d r H M ∧ rL H M) ∧ M 35 12 = 1 ∧ (∀ s, 0 ≤ s → s < r * gPo d w → H 13 s = mPs d w M s) ∧ vCut d w r C O H M ∧
  vVal d w r C (M 43) ∧ Jr (r * gGr d w * (w - 1)) (M 43) ∧ (M 35 20 = 1 → vVal d w r (vUp C (gSo w (M 35 19)) O) (vRev M) ∧ Jr (r * gGr d w * (w - 1)) (vRev M))
/-- power went while it was opened -/
def oX (d w r : Int) (H M : zHp) : Prop := jX d w r H M ∨ ∃ C, (vBw d w r C H ∧ vUq d w r H ∧ vL d r H) ∧ (rK d r H M ∧ H 3 10 = M 35 14) ∧ (M 35 12 = 0 ∧ M 35 13 = -1) ∧ (M 35 20 = 0 ∧ ∀ f, 0 ≤ f → f + w ≤ r * gPo d w → f % w = 0 → vP w C f) ∧ vVal d w r C (M 43) ∧ Jr (r * gGr d w * (w - 1)) (M 43)
theorem oS.off (h : oS d w r C O H M) : oX d w r H (mOff M) := by
  obtain ⟨⟨bw, lo, ls, uq⟩, ⟨hK, hL⟩, on, pl, cut, vv, J, dp⟩ := h
  have e43 : (mOff M) 43 = M 43 := funext (fun i => mOff_no (by omega))
  have eR : vRev (mOff M) = vRev M := vRev_of (fun q i hq => mOff_no (by omega))
  have e19 : mOff M 35 19 = M 35 19 := mOff_no (by omega)
  have e20 : mOff M 35 20 = M 35 20 := mOff_no (by omega)
  have e14 : mOff M 35 14 = M 35 14 := mOff_no (by omega)
  have key : vSp d w r H → oX d w r H (mOff M) := fun sp => by
    refine Or.inl ⟨C, O, ⟨⟨bw.b sp, lo⟩, hK.off, by rw [e14]; exact hL.2.2, ⟨mOff_12, mOff_13⟩, ?_⟩, by rw [e43]; exact vv, by rw [e43]; exact J, by rw [e20, e19, eR]; exact dp⟩
    rcases cut with u | ⟨u1, u2, u3, -⟩
    · exact Or.inl (by rw [e20]; exact u)
    · exact Or.inr (by rw [e20, e19]; exact ⟨u1, u2, u3⟩)
  rcases ls with vl | sp
  · rcases cut with u | ⟨-, -, -, sp⟩
    · exact Or.inr ⟨C, ⟨bw, uq, vl⟩, ⟨hK.off, by rw [e14]; exact hL.2.2⟩, ⟨mOff_12, mOff_13⟩, by rw [e20]; exact u, by rw [e43]; exact vv, by rw [e43]; exact J⟩
    · exact key sp
  · exact key sp
theorem r_gone2 (hc : rCm d w r t L H M) (hx : oX d w r H M) (hq : ∀ H', rAll d w r t L H' M → (∀ q i, (35 ≤ q ∨ q < 0) → H' q i = H q i) → Qr 0 (t, L, H')) : zEnds 80 173 0 [(20, 0)] [] (t, L, H) Qr Qt := by
  rcases hx with hx | ⟨C, ⟨bw, uq, vl⟩, ⟨hK, c10⟩, ⟨o1, o2⟩, cut, vv, J⟩
  · exact r_gone hc hx hq
  · have hk := hc.1.1.1.1
    refine c_goOff hc.1.1.1 (fun H' g f e1 e2 e3 => hq H' ⟨hc.keep2 g (fun q i hq => e3 q i (by omega) (by omega) (by omega)) (fun _ _ _ => rfl), Or.inr ⟨C, fun _ => 0, bw.off hk uq vl hK f cut, ⟨by rw [e2, o2]; rfl, by rw [e2]; decide, ?_⟩, ⟨o1, e1⟩, vv, J, fun u => by rw [cut.1] at u; cases u⟩⟩ (fun q i hq => e3 q i (by omega) (by omega) (by omega)))
    rw [e3 3 10 (by decide) (by decide) (by decide)]
    exact c10
/-- numbers of a log's tag -/
theorem gTag {s : Int} (hk : gOK d w r) (hs : 0 ≤ s ∧ s < r * gPo d w) : (0 ≤ s / w ∧ s / w < 1000) ∧ (0 ≤ s % w ∧ s % w < w) ∧ w ≤ 8 ∧ s / w / gGr d w = s / gPo d w ∧ w * (s / w % gGr d w) + s % w = s % gPo d w ∧ s < 960 := by
  have po := gPo_rg hk
  have w3 := hk.2.2.1
  have q := gSp_rg hk hs
  have m0 := Int.emod_nonneg s (show w ≠ 0 by omega)
  have m1 := Int.emod_lt_of_pos s (show 0 < w by omega)
  have e0 : gPo d w = w * gGr d w := by
    unfold gPo
    first | rfl | rw [Int.mul_comm]
  have e1 : s / w / gGr d w = s / gPo d w := by rw [e0]; exact Int.ediv_ediv_of_nonneg (by omega)
  have d0 : 0 ≤ s / w := Int.ediv_nonneg hs.1 (by omega)
  have d1 : s / w ≤ s := Int.ediv_le_self _ hs.1
  refine ⟨⟨d0, by omega⟩, ⟨m0, m1⟩, by have := hk.2.2.2.1; omega, e1, ?_, q.2.2⟩
  have a := Int.mul_ediv_add_emod s w
  have b := Int.mul_ediv_add_emod (s / w) (gGr d w)
  have c := Int.mul_ediv_add_emod s (gPo d w)
  rw [e1] at b
  have e2 : w * (s / w) = w * (gGr d w * (s / gPo d w)) + w * (s / w % gGr d w) := by rw [← Int.mul_add, b]
  rw [← Int.mul_assoc, ← e0] at e2
  omega
/-- Upkeep.settleLog -/
theorem g_settleLog {x s : Int} (gi : gI d w r t L H) (hx : 0 ≤ x ∧ x < d) (hs : 0 ≤ s ∧ s < r * gPo d w) (tag : H 7 (gCe r x r) = 1 + 8 * (s / w) + s % w)
    (h1 : H 13 (s - s % w + w - 1) = x → gSound d w r H s → (H 3 11 = 1 → Qr 0 (t, L, gAdd (gLd d w r H 17 0 s) 17 0 (gCe r x r))) ∧ (H 3 11 ≠ 1 → ((gPut (gAdd (gLd d w r H 17 0 s) 17 0 (gCe r x r)) (gCe r x (s / gPo d w)) ((s - s % w + w - 1) % gPo d w + 1) 17 0) 3 11 = 1 → Qr 0 (t, L, gPut (gAdd (gLd d w r H 17 0 s) 17 0 (gCe r x r)) (gCe r x (s / gPo d w)) ((s - s % w + w - 1) % gPo d w + 1) 17 0)) ∧ ((gPut (gAdd (gLd d w r H 17 0 s) 17 0 (gCe r x r)) (gCe r x (s / gPo d w)) ((s - s % w + w - 1) % gPo d w + 1) 17 0) 3 11 ≠ 1 → Qr 1 (t, L, gPut (gPut (gAdd (gLd d w r H 17 0 s) 17 0 (gCe r x r)) (gCe r x (s / gPo d w)) ((s - s % w + w - 1) % gPo d w + 1) 17 0) (gCe r x r) 0 11 0))))
    (h2 : ¬ (H 13 (s - s % w + w - 1) = x ∧ gSound d w r H s) → (H 3 11 = 1 → Qr 0 (t, L, H)) ∧ (H 3 11 ≠ 1 → Qr 1 (t, L, gPut H (gCe r x r) 0 11 0))) : zEnds 80 66 0 [(24, 16), (0, x), (9, 0), (9, 0)] [] (t, L, H) Qr Qt := by
  have hk := gi.1.1
  have w3 := hk.2.2.1
  have r1 := hk.2.2.2.2.2.1
  have n1 : H 1 1 = w := gi.1.2.2.1.1.2.1
  have n2 : H 1 2 = r := gi.1.2.2.1.1.2.2.1
  have l13 : L 13 = r * gPo d w := gi.1.2.1.2.1.1
  have l17 : L 17 = 8 := gi.1.2.1.2.1.2.2.2
  obtain ⟨t1, t2, t3, t4, t5, t6⟩ := gTag hk hs
  obtain ⟨s1, s2, s3, s4⟩ := gStripe hk hs
  have rowp : (s - s % w + w - 1) / gPo d w = s / gPo d w := gRow_same hk hs (by omega) (by omega)
  have hp : 0 ≤ s - s % w + w - 1 ∧ s - s % w + w - 1 < r * gPo d w := by omega
  refine v_66 ?_
  show zEnds 80 25 0 [(22, 3), (0, x), (0, H 1 2)] [] _ _ _
  rw [n2]
  refine g_cellTag gi.1 hx ⟨by omega, Int.le_refl _⟩ ?_
  show zEnds 80 16 0 [(21, 1), (0, H 7 (gCe r x r))] [] _ _ _
  rw [tag]
  have es : z32 (z32 (H 1 1 * zdiv (z32 (1 + 8 * (s / w) + s % w - 1)) 8) + zrem (z32 (1 + 8 * (s / w) + s % w - 1)) 8) = s := by
    have a := Int.mul_ediv_add_emod s w
    have b : w * (s / w) ≤ s := by omega
    have b0 : 0 ≤ w * (s / w) := Int.mul_nonneg (by omega) t1.1
    rw [n1, z32_id (x := 1 + 8 * (s / w) + s % w - 1) (by omega) (by omega), zdiv_pos (by omega) (by omega) (by decide), zrem_pos (by omega), show (1 + 8 * (s / w) + s % w - 1) / 8 = s / w by omega, show (1 + 8 * (s / w) + s % w - 1) % 8 = s % w by omega, z32_id (x := w * (s / w)) (by omega) (by omega), z32_id (by omega) (by omega)]
    exact a
  refine v_16 ⟨by decide, by decide, ?_⟩
  show zEnds 80 14 0 [(21, 1), (0, z32 (z32 (H 1 1 * zdiv (z32 (1 + 8 * (s / w) + s % w - 1)) 8) + zrem (z32 (1 + 8 * (s / w) + s % w - 1)) 8))] [] _ _ _
  rw [es]
  refine g_parBeside gi.1 hs (v_39 ⟨by show 0 ≤ s - s % w + w - 1 ∧ s - s % w + w - 1 < L 13; omega, ?_⟩)
  have wipe : ∀ {G : zHp} {Q : Int → zS → Prop}, gI d w r t L G → (G 3 11 = 1 → Q 0 (t, L, G)) → (G 3 11 ≠ 1 → Q 1 (t, L, gPut G (gCe r x r) 0 11 0)) → zEnds 80 29 0 [(22, 3), (0, x), (0, G 1 2)] [] (t, L, G) (fun v S1 => (v = 0 ∨ v = 1) ∧ Q v S1) Qt := fun {G Q} g a b => by
    have : G 1 2 = r := g.1.2.2.1.1.2.2.1
    rw [this]
    exact g_wipe g hx ⟨by omega, Int.le_refl _⟩ (fun u => ⟨Or.inl rfl, a u⟩) (fun u => ⟨Or.inr rfl, b u⟩)
  by_cases c : H 13 (s - s % w + w - 1) = x
  · refine ⟨fun u => absurd c u, fun _ => g_isSound gi.1 gi.2 hs (fun so => ⟨fun u => absurd u (by decide), fun _ => ?_⟩) (fun so => ⟨fun _ => ?_, fun u => absurd rfl u⟩)⟩
    · have a := h1 c so
      refine g_loadSpot gi.1 gi.2 hs (Or.inr (Or.inr (Or.inl rfl))) (by show (0 : Int) ≤ 0 ∧ 0 + 8 ≤ L 17 ∧ L 17 ≤ 1000000; omega) ?_
      have e1 : ∀ q i, q ≠ 17 → gLd d w r H 17 0 s q i = H q i := fun q i hq => gLd_ne hq
      have g1 : gI d w r t L (gLd d w r H 17 0 s) := gi.of (Or.inr (Or.inr (Or.inl rfl))) e1
      show zEnds 80 27 0 [(22, 3), (11, 17), (0, 0), (0, x), (0, gLd d w r H 17 0 s 1 2), (9, 0), (9, 0)] [] _ _ _
      rw [e1 1 2 (by decide), n2]
      refine g_addTo g1.1 hx ⟨by omega, Int.le_refl _⟩ (by show (17 : Int) ≠ 8 ∧ (0 : Int) ≤ 0 ∧ 0 + 8 ≤ L 17; omega) (by omega) ?_
      have e2 : ∀ q i, q ≠ 17 → gAdd (gLd d w r H 17 0 s) 17 0 (gCe r x r) q i = H q i := fun q i hq => by rw [gAdd_ne hq]; exact e1 q i hq
      have g2 : gI d w r t L (gAdd (gLd d w r H 17 0 s) 17 0 (gCe r x r)) := gi.of (Or.inr (Or.inr (Or.inl rfl))) e2
      have e13 : gAdd (gLd d w r H 17 0 s) 17 0 (gCe r x r) 13 (s - s % w + w - 1) = x := by rw [e2 13 _ (by decide)]; exact c
      refine f_putAt g2 hp (by show (17 : Int) ≠ 8 ∧ (17 : Int) ≠ 3 ∧ (0 : Int) ≤ 0 ∧ 0 + 8 ≤ L 17; omega) ?_
      have ef : fPa d w r (gAdd (gLd d w r H 17 0 s) 17 0 (gCe r x r)) (s - s % w + w - 1) 17 0 = fPr (gAdd (gLd d w r H 17 0 s) 17 0 (gCe r x r)) (gCe r x (s / gPo d w)) ((s - s % w + w - 1) % gPo d w + 1) 17 0 := by
        unfold fPa
        rw [if_neg (by rw [e13]; omega)]
        unfold gAt
        rw [e13, rowp]
      rw [ef]
      unfold fPr
      rw [e2 3 11 (by decide)]
      by_cases y : H 3 11 = 1
      · rw [if_pos y]
        exact ⟨fun u => absurd rfl u, fun _ => ⟨Or.inl rfl, a.1 y⟩⟩
      · rw [if_neg y]
        exact ⟨fun _ => wipe g2.put (a.2 y).1 (a.2 y).2, fun u => absurd (show (1 : Int) ≠ 0 by decide) u⟩
    · have a := h2 (fun z => so z.2)
      exact wipe gi a.1 a.2
  · have a := h2 (fun z => c z.1)
    exact ⟨fun _ => wipe gi a.1 a.2, fun u => absurd c u⟩
theorem sub_110 {a b y1 y2 c y3 e y4 f : zV} : zsub [a, b, (9, 0), (9, 0), c, (9, 0), e, (9, 0), f] [a, b, y1, y2, c, y3, e, y4, f] := ⟨rfl, fun i v hv n => by
  rcases i with _ | _ | _ | _ | _ | _ | _ | _ | _ | i
  · exact hv
  · exact hv
  · exact absurd (by have hv : some ((9, 0) : zV) = some v := hv; injection hv with hv; rw [← hv]) n
  · exact absurd (by have hv : some ((9, 0) : zV) = some v := hv; injection hv with hv; rw [← hv]) n
  · exact hv
  · exact absurd (by have hv : some ((9, 0) : zV) = some v := hv; injection hv with hv; rw [← hv]) n
  · exact hv
  · exact absurd (by have hv : some ((9, 0) : zV) = some v := hv; injection hv with hv; rw [← hv]) n
  · exact hv
  · simp at hv⟩
/-- DiskPoolModel.unlogs -/
theorem m_unlogs {x s : Int} (ms : mS d w r L M) (hl : -1 ≤ M 35 13 ∧ M 35 13 ≤ 2147483647) (ho : mOk d w r M) (hx : 0 ≤ x ∧ x < d) (hs : 0 ≤ s ∧ s < r * gPo d w) (tag : M 39 (65 * x + r) = 1 + 8 * (s / w) + s % w)
    (h1 : mPs d w M (s - s % w + w - 1) = x → ¬ mPs d w M s < 0 → mVal M (mPs d w M s) (s / gPo d w) → (M 35 13 = 0 → Qr 0 (t, L, mOff M)) ∧ (M 35 13 ≠ 0 → ((zupd (mPw M x (s / gPo d w) ((s - s % w + w - 1) % gPo d w + 1)) 35 20 0) 35 13 = 0 → Qr 0 (t, L, mOff (zupd (mPw M x (s / gPo d w) ((s - s % w + w - 1) % gPo d w + 1)) 35 20 0))) ∧ ((zupd (mPw M x (s / gPo d w) ((s - s % w + w - 1) % gPo d w + 1)) 35 20 0) 35 13 ≠ 0 → Qr 1 (t, L, mPw (zupd (mPw M x (s / gPo d w) ((s - s % w + w - 1) % gPo d w + 1)) 35 20 0) x r 0))))
    (h2 : ¬ (mPs d w M (s - s % w + w - 1) = x ∧ ¬ mPs d w M s < 0 ∧ mVal M (mPs d w M s) (s / gPo d w)) → (M 35 13 = 0 → Qr 0 (t, L, mOff M)) ∧ (M 35 13 ≠ 0 → Qr 1 (t, L, mPw M x r 0))) : zEnds 118 200 0 [(29, 35), (0, x), (9, 0), (9, 0), (9, 0), (9, 0), (9, 0), (9, 0), (9, 0)] [] (t, L, M) Qr Qt := by
  have hk := ms.1
  have w3 := hk.2.2.1
  have r1 := hk.2.2.2.2.2.1
  have r2 := hk.2.2.2.2.2.2
  have d2 := hk.2.1
  have po := gPo_rg hk
  have l39 : L 39 = 1040 := ms.2.1.2.2.2.1
  have e2 : M 35 2 = w := ms.2.2.2.1.2.1
  have e3 : M 35 3 = r := ms.2.2.2.1.2.2.1
  have e4 : M 35 4 = gGr d w := ms.2.2.2.1.2.2.2.1
  obtain ⟨t1, t2, t3, t4, t5, t6⟩ := gTag hk hs
  obtain ⟨s1, s2, s3, s4⟩ := gStripe hk hs
  have hp : 0 ≤ s - s % w + w - 1 ∧ s - s % w + w - 1 < r * gPo d w := by omega
  have rowp : (s - s % w + w - 1) / gPo d w = s / gPo d w := gRow_same hk hs (by omega) (by omega)
  have pg := gSp_rg hk hs
  have pgp := gSp_rg hk hp
  have sp : w * (s / w % gGr d w) + w - 1 = (s - s % w + w - 1) % gPo d w := by
    have a := Int.mul_ediv_add_emod s (gPo d w)
    have b := Int.mul_ediv_add_emod (s - s % w + w - 1) (gPo d w)
    rw [rowp] at b
    omega
  have q0 : 0 ≤ s / w % gGr d w := Int.emod_nonneg _ (by omega)
  have w0 : 0 ≤ w * (s / w % gGr d w) := Int.mul_nonneg (by omega) q0
  have pl := gPo_rg hk
  have pole : gPo d w ≤ d := by omega
  refine j_200 ?_
  show zEnds 118 183 0 [(0, x), (0, M 35 3)] [] _ _ _
  rw [e3]
  refine m_at (by omega) (by omega) ⟨by show 0 ≤ 65 * x + r ∧ 65 * x + r < L 39; omega, ?_⟩
  show zEnds 118 200 16 [(29, 35), (0, x), (0, z32 (M 39 (65 * x + r) - 1)), (9, 0), (9, 0), (9, 0), (9, 0), (9, 0), (9, 0)] [] _ _ _
  rw [tag, z32_id (x := 1 + 8 * (s / w) + s % w - 1) (by omega) (by omega)]
  refine j_200_16 ⟨by decide, ?_⟩
  rw [zdiv_pos (by omega) (by omega) (by decide), show (1 + 8 * (s / w) + s % w - 1) / 8 = s / w by omega]
  refine j_200_21 ⟨by show M 35 4 ≠ 0; omega, ?_⟩
  show zEnds 118 200 29 [(29, 35), (0, x), (0, 1 + 8 * (s / w) + s % w - 1), (0, s / w), (0, zdiv (s / w) (M 35 4)), (9, 0), (9, 0), (9, 0), (9, 0)] [] _ _ _
  rw [e4, zdiv_pos (by omega) (by omega) (by omega), t4]
  refine j_200_29 ⟨by show M 35 4 ≠ 0; omega, by decide, ?_⟩
  show zEnds 118 200 47 [(29, 35), (0, x), (0, 1 + 8 * (s / w) + s % w - 1), (0, s / w), (0, s / gPo d w), (0, z32 (z32 (M 35 2 * zrem (s / w) (M 35 4)) + zrem (1 + 8 * (s / w) + s % w - 1) 8)), (9, 0), (9, 0), (9, 0)] [] _ _ _
  rw [e2, e4, zrem_pos (a := s / w) (by omega), zrem_pos (a := 1 + 8 * (s / w) + s % w - 1) (by omega), show (1 + 8 * (s / w) + s % w - 1) % 8 = s % w by omega, z32_id (x := w * (s / w % gGr d w)) (by omega) (by omega), z32_id (x := w * (s / w % gGr d w) + s % w) (by omega) (by omega), t5]
  refine j_200_47 ⟨by show M 35 4 ≠ 0; omega, ?_⟩
  show zEnds 118 200 67 [(29, 35), (0, x), (0, 1 + 8 * (s / w) + s % w - 1), (0, s / w), (0, s / gPo d w), (0, s % gPo d w), (0, z32 (z32 (z32 (M 35 2 * zrem (s / w) (M 35 4)) + M 35 2) - 1)), (9, 0), (9, 0)] [] _ _ _
  rw [e2, e4, zrem_pos (a := s / w) (by omega), z32_id (x := w * (s / w % gGr d w)) (by omega) (by omega), z32_id (x := w * (s / w % gGr d w) + w) (by omega) (by omega), z32_id (x := w * (s / w % gGr d w) + w - 1) (by omega) (by omega), sp]
  have wipe : ∀ {N : zHp} {Q : Int → zS → Prop}, mS d w r L N → (-1 ≤ N 35 13 ∧ N 35 13 ≤ 2147483647) → (N 35 13 = 0 → Q 0 (t, L, mOff N)) → (N 35 13 ≠ 0 → Q 1 (t, L, mPw N x r 0)) → zEnds 118 200 143 [(29, 35), (0, x), (9, 0), (9, 0), (9, 0), (9, 0), (9, 0), (9, 0), (9, 0)] [] (t, L, N) Q Qt := fun {N Q} a b c e => by
    refine j_200_143 ?_
    show zEnds 118 194 0 [(29, 35), (0, x), (0, N 35 3), (0, 0), (9, 0)] [] _ _ _
    have : N 35 3 = r := a.2.2.2.1.2.2.1
    rw [this]
    exact m_putsC a hx ⟨by omega, Int.le_refl _⟩ b (fun u => ⟨Or.inl rfl, c u⟩) (fun u => ⟨Or.inr rfl, e u⟩)
  have no : ¬ (mPs d w M (s - s % w + w - 1) = x ∧ ¬ mPs d w M s < 0 ∧ mVal M (mPs d w M s) (s / gPo d w)) → zEnds 118 200 109 [(29, 35), (0, x), (9, 0), (9, 0), (0, s / gPo d w), (9, 0), (0, (s - s % w + w - 1) % gPo d w), (9, 0), (9, 0)] [] (t, L, M) Qr Qt := fun u => j_200_109 (j_200_110 (j_200_112 ⟨fun _ => j_200_133 ⟨fun _ => wipe ms hl (h2 u).1 (h2 u).2, fun z => absurd rfl z⟩, fun z => absurd rfl z⟩))
  refine j_200_67 (m_placeOf ms pg.1 pg.2.1 (j_200_77 (m_placeOf ms pg.1 (by rw [← rowp] at *; exact pgp.2.1) ?_)))
  have eS : mPl d w M (s / gPo d w) (s % gPo d w) = mPs d w M s := rfl
  have eP : mPl d w M (s / gPo d w) ((s - s % w + w - 1) % gPo d w) = mPs d w M (s - s % w + w - 1) := by unfold mPs; rw [rowp]
  rw [eS, eP]
  have hO := ho (s / gPo d w) (s % gPo d w) pg.1.1 pg.1.2 pg.2.1.1 pg.2.1.2
  rw [eS] at hO
  refine ⟨fun u => no (fun z => u z.1), fun u => ⟨fun v => no (fun z => z.2.1 v), fun v => m_isValid ms (by omega) (by omega) (fun y => ⟨fun z => absurd z (by decide), fun _ => ?_⟩) (fun y => ⟨fun _ => no (fun z => y z.2.2), fun z => absurd rfl z⟩)⟩⟩
  have u : mPs d w M (s - s % w + w - 1) = x := by
    by_cases c : mPs d w M (s - s % w + w - 1) = x
    · exact c
    · exact absurd c u
  have a := h1 u v y
  refine zEnds.sub sub_110 (j_200_110 (j_200_112 ⟨fun z => absurd z (by decide), fun _ => ?_⟩))
  rw [z32_id (x := (s - s % w + w - 1) % gPo d w + 1) (by omega) (by omega)]
  refine m_putsC ms hx (by omega) hl (fun z => ⟨fun k => absurd rfl k, fun _ => ⟨Or.inl rfl, a.1 z⟩⟩) (fun z => ⟨fun _ => j_200_133 ⟨fun k => absurd k (by decide), fun _ => ⟨Or.inl rfl, ?_⟩⟩, fun k => absurd (by decide) k⟩)
  have mp := mPw_all (M := M) (x := x) (o := s / gPo d w) (as := (s - s % w + w - 1) % gPo d w + 1)
  refine wipe (N := zupd (mPw M x (s / gPo d w) ((s - s % w + w - 1) % gPo d w + 1)) 35 20 0) ?_ ?_ (a.2 z).1 (a.2 z).2
  · refine ms.of (fun i hi => ?_) (fun i => ?_)
    · rw [zupd_no (by omega), mp.2.2.2.2 i, if_neg (by omega), if_neg (by omega)]
    · rw [zupd_ne (by decide), mp.1 36 i (by decide) (by decide) (by decide) (by decide)]
  · rw [zupd_no (by decide), mp.2.2.2.2 13, if_neg (by decide), if_pos rfl]
    by_cases c : M 35 13 ≤ 0
    · rw [if_pos c]; exact hl
    · rw [if_neg c]; omega
end OPEN1
