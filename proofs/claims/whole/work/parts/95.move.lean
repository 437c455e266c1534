/-! Cells that become places, cells that are wiped. -/
/-- what a spot is loaded as -/
theorem v_rk {d w r s wd at' : Int} {C : Int → Int → Int} {H : zHp} (hk : gOK d w r) (hA : vA d w r C H) (hU : vOne d w r H) (hP : vP w C (s - s % w)) (hC : vR C) (hs : 0 ≤ s ∧ s < r * gPo d w) (hn : ¬ gSound d w r H s) (hw : gWd wd) : ∀ i, 0 ≤ i → i < 8 → gRk d w r H wd at' s wd (at' + i) = C s i := by
  intro i i0 i1
  have w3 := hk.2.2.1
  obtain ⟨s1, s2, s3, s4⟩ := gStripe hk hs
  have sm : (s - s % w) % w = 0 := by
    rw [show s - s % w = 0 + w * (s / w) by have := Int.mul_ediv_add_emod s w; omega, Int.add_mul_emod_self_left]
    rfl
  have ne := hw.ne
  unfold gRk gAO
  rw [if_pos ⟨rfl, by omega, by omega⟩]
  have z : zfil H wd at' 8 wd (at' + i) = 0 := by unfold zfil; rw [if_pos ⟨rfl, by omega, by omega⟩]
  rw [z]
  have e := hP.rec (o := s) (v := 0) hC ⟨s2, by omega⟩ ⟨i0, i1⟩ rfl
  rw [zlxor_zero' (hC s i)] at e
  rw [← e]
  have e13 : ∀ u, zfil H wd at' 8 13 u = H 13 u := fun u => zfil_ne (fun q => ne.2.2.1 q.symm)
  refine gXs_congr _ _ _ (fun u u0 u1 => ⟨⟨fun q => q.1, fun q => ⟨q, ?_⟩⟩, fun q => ?_⟩)
  · have su := (hU s u hs.1 hs.2 (by omega) (by omega) ?_ (fun z => q z.symm)).resolve_left hn
    · rw [e13]; exact su.1
    · rw [(gStr w3 sm ⟨s2, by omega⟩).1, (gStr w3 sm (o := u) ⟨u0, by omega⟩).1]
  · have at'' : gAt d w r (zfil H wd at' 8) u = gAt d w r H u := by unfold gAt; rw [e13]
    have q2 := q.2
    rw [e13] at q2
    rw [at'', zfil_ne (fun q => ne.1 q.symm), show at' + i - at' = i by omega]
    exact (hA u (by omega) (by omega) q2).2 i i0 i1
theorem v_ld {d w r s wd at' : Int} {C : Int → Int → Int} {H : zHp} (hk : gOK d w r) (hA : vA d w r C H) (hU : vOne d w r H) (hP : vP w C (s - s % w)) (hC : vR C) (hs : 0 ≤ s ∧ s < r * gPo d w) (hw : gWd wd) : ∀ i, 0 ≤ i → i < 8 → gLd d w r H wd at' s wd (at' + i) = C s i := by
  intro i i0 i1
  unfold gLd
  by_cases c : gSound d w r H s
  · rw [if_pos c]
    unfold zcpy
    rw [if_pos ⟨rfl, by omega, by omega⟩, show 8 * gAt d w r H s + (at' + i - at') = 8 * gAt d w r H s + i by omega]
    exact (hA s hs.1 hs.2 c.1).2 i i0 i1
  · rw [if_neg c]
    exact v_rk hk hA hU hP hC hs c hw i i0 i1
/-- a told spare is its spot's place, but for the spare y of the spot s -/
def vSy (d w r : Int) (s y : Int) (H : zHp) : Prop := ∀ row q, 0 ≤ row → row < r → gPo d w ≤ q → q < d → gVal H (gCe r (gDk d row q) row) → H 7 (gCe r (gDk d row q) row) ≠ 0 → ∃ p, (0 ≤ p ∧ p < gPo d w) ∧ H 7 (gCe r (gDk d row q) row) = p + 1 ∧ (H 13 (row * gPo d w + p) = gDk d row q ∨ (row * gPo d w + p = s ∧ gDk d row q = y))
theorem vB.move {d w r s x : Int} {C : Int → Int → Int} {H G : zHp} (hk : gOK d w r) (hp : gPl d w r H) (h : vB d w r C H) (hs : 0 ≤ s ∧ s < r * gPo d w) (hx : x = gHome d w s ∨ (∃ q, (gPo d w ≤ q ∧ q < d) ∧ x = gDk d (s / gPo d w) q) ∧ H 13 s = -1) (hf : ∀ u, 0 ≤ u → u < r * gPo d w → u / gPo d w = s / gPo d w → H 13 u ≠ x) (hu : H 5 (gCe r (gHome d w s) (s / gPo d w)) = 0) (e : ∀ q i, q ≠ 17 → G q i = H q i) (e17 : ∀ i, 0 ≤ i → i < 8 → G 17 i = C s i) :
    vBw d w r C (zupd (gPut G (gCe r x (s / gPo d w)) (s % gPo d w + 1) 17 0) 13 s x) ∧ vSy d w r s (H 13 s) (zupd (gPut G (gCe r x (s / gPo d w)) (s % gPo d w + 1) 17 0) 13 s x) ∧ gSound d w r (zupd (gPut G (gCe r x (s / gPo d w)) (s % gPo d w + 1) 17 0) 13 s x) s := by
  have h0 := h
  obtain ⟨⟨hR, hA⟩, hH, hS, hF, hO⟩ := h
  obtain ⟨g0, g5, g6, g7, g8, g9, g3⟩ := gPut_all (H := G) (c := gCe r x (s / gPo d w)) (tag := s % gPo d w + 1) (wd := 17) (at' := 0) (by decide)
  have po := gPo_rg hk
  have w3 := hk.2.2.1
  have r48 := hk.2.2.2.2.2.1
  have qs := gSp_rg hk hs
  have hC := (h0.w hk).1.2.2
  generalize hK : zupd (gPut G (gCe r x (s / gPo d w)) (s % gPo d w + 1) 17 0) 13 s x = K
  have k13 : ∀ u, u ≠ s → K 13 u = H 13 u := fun u c => by rw [← hK, zupd_no (fun z => c z.2), g0 13 u (by decide) (by decide) (by decide) (by decide) (by decide) (by decide), e 13 u (by decide)]
  have k13s : K 13 s = x := by rw [← hK, zupd_at]
  have k5 : ∀ i, K 5 i = if i = gCe r x (s / gPo d w) then 1 else H 5 i := fun i => by rw [← hK, zupd_ne (by decide), g5, e 5 i (by decide)]
  have k6 : ∀ i, K 6 i = if i = gCe r x (s / gPo d w) then 0 else H 6 i := fun i => by rw [← hK, zupd_ne (by decide), g6, e 6 i (by decide)]
  have k7 : ∀ i, K 7 i = if i = gCe r x (s / gPo d w) then s % gPo d w + 1 else H 7 i := fun i => by rw [← hK, zupd_ne (by decide), g7, e 7 i (by decide)]
  have k8 : ∀ i, K 8 i = if 8 * gCe r x (s / gPo d w) ≤ i ∧ i < 8 * gCe r x (s / gPo d w) + 8 then C s (i - 8 * gCe r x (s / gPo d w)) else H 8 i := fun i => by
    rw [← hK, zupd_ne (by decide), g8, e 8 i (by decide)]
    by_cases c : 8 * gCe r x (s / gPo d w) ≤ i ∧ i < 8 * gCe r x (s / gPo d w) + 8
    · rw [if_pos c, if_pos c, show 0 + (i - 8 * gCe r x (s / gPo d w)) = i - 8 * gCe r x (s / gPo d w) by omega, e17 _ (by omega) (by omega)]
    · rw [if_neg c, if_neg c]
  clear hK g0 g5 g6 g7 g8 g9 g3
  have xrg : 0 ≤ x ∧ x < d := by
    rcases hx with hx | ⟨⟨q, hq, hx⟩, -⟩
    · rw [hx]; exact gDk_rg hk
    · rw [hx]; exact gDk_rg hk
  have cin : ∀ y o, 0 ≤ o → o ≤ r → gCe r y o = gCe r x (s / gPo d w) → y = x ∧ o = s / gPo d w := fun y o o0 o1 c => gCe_inj hk ⟨o0, o1⟩ ⟨qs.1.1, by omega⟩ c
  -- places of others are other cells
  have ne : ∀ u, 0 ≤ u → u < r * gPo d w → H 13 u ≠ -1 → gCe r (H 13 u) (u / gPo d w) ≠ gCe r x (s / gPo d w) := fun u u0 u1 pu c => by
    have qu := gSp_rg hk ⟨u0, u1⟩
    obtain ⟨c1, c2⟩ := cin _ _ qu.1.1 (by omega) c
    exact hf u u0 u1 c2 c1
  -- homes of others too
  have hne : ∀ u, 0 ≤ u → u < r * gPo d w → gCe r (gHome d w u) (u / gPo d w) = gCe r x (s / gPo d w) → u = s ∧ x = gHome d w s := fun u u0 u1 c => by
    have qu := gSp_rg hk ⟨u0, u1⟩
    obtain ⟨c1, c2⟩ := cin _ _ qu.1.1 (by omega) c
    unfold gHome at c1
    rw [c2] at c1
    rcases hx with hx | ⟨⟨q, hq, hx⟩, -⟩
    · rw [hx] at c1
      have := gDk_inj hk (row := s / gPo d w) (a := u % gPo d w) (b := s % gPo d w) (by omega) (by omega) c1
      exact ⟨by rw [← gSpot_of (s := u) hk, ← gSpot_of (s := s) hk, c2, this], hx⟩
    · rw [hx] at c1
      have := gDk_inj hk (row := s / gPo d w) (a := u % gPo d w) (b := q) (by omega) (by omega) c1
      omega
  have so : ∀ u, 0 ≤ u → u < r * gPo d w → gSound d w r H u → gSound d w r K u := fun u u0 u1 su => by
    by_cases c : u = s
    · rw [c]
      unfold gSound gVal gAt
      rw [k13s, k5, k6, if_pos rfl, if_pos rfl]
      exact ⟨by omega, by decide, rfl⟩
    · have n := ne u u0 u1 su.1
      unfold gSound gVal gAt
      rw [k13 u c, k5, k6, if_neg n, if_neg n]
      exact su
  have sos : gSound d w r K s := by
    unfold gSound gVal gAt
    rw [k13s, k5, k6, if_pos rfl, if_pos rfl]
    exact ⟨by omega, by decide, rfl⟩
  have hy : vSy d w r s (H 13 s) K := fun row q a b c f v t => by
    by_cases cc : gCe r (gDk d row q) row = gCe r x (s / gPo d w)
    · obtain ⟨c1, c2⟩ := cin _ _ a (by omega) cc
      rw [k7, if_pos cc]
      exact ⟨s % gPo d w, by omega, rfl, Or.inl (by rw [c2, gSpot_of hk, k13s, ← c1, c2])⟩
    · unfold gVal at v
      rw [k5, k6, if_neg cc, if_neg cc] at v
      rw [k7, if_neg cc] at t ⊢
      obtain ⟨p, p0, p1, p2⟩ := hS row q a b c f v t
      refine ⟨p, p0, p1, ?_⟩
      by_cases cs : row * gPo d w + p = s
      · rw [cs] at p2
        exact Or.inr ⟨cs, p2.symm⟩
      · rw [k13 _ cs]
        exact Or.inl p2
  refine ⟨⟨⟨hR, fun u u0 u1 pu => ?_, ⟨fun u u0 u1 a => ?_, fun row q a b c f v t => ?_⟩⟩, fun u u0 u1 a => ?_, fun row q a b c f v t => ?_, fun y y0 y1 => ?_, fun u v a b c f g i => ?_⟩, hy, sos⟩
  · by_cases c : u = s
    · rw [c]
      unfold gAt
      rw [k13s, k5, k7, if_pos rfl, if_pos rfl]
      refine ⟨⟨by decide, rfl, ?_⟩, fun i i0 i1 => by rw [k8, if_pos (by omega), show 8 * gCe r x (s / gPo d w) + i - 8 * gCe r x (s / gPo d w) = i by omega]⟩
      rcases hx with hx | ⟨⟨q, hq, hx⟩, -⟩
      · exact Or.inl hx
      · exact Or.inr ⟨q, hq.1, hq.2, hx⟩
    · rw [k13 u c] at pu
      have n := ne u u0 u1 pu
      have z := hA u u0 u1 pu
      unfold gAt at z ⊢
      rw [k13 u c, k5, k7, if_neg n, if_neg n]
      exact ⟨z.1, fun i i0 i1 => by rw [k8, if_neg (by omega)]; exact z.2 i i0 i1⟩
  · rw [k7]
    by_cases c : gCe r (gHome d w u) (u / gPo d w) = gCe r x (s / gPo d w)
    · obtain ⟨c1, c2⟩ := hne u u0 u1 c
      rw [if_pos c, c]
      exact ⟨by rw [c1], fun i i0 i1 => by rw [k8, if_pos (by omega), show 8 * gCe r x (s / gPo d w) + i - 8 * gCe r x (s / gPo d w) = i by omega, c1]⟩
    · rw [k5, if_neg c] at a
      rw [if_neg c]
      exact ⟨(hC.1 u u0 u1 a).1, fun i i0 i1 => by rw [k8, if_neg (by omega)]; exact (hC.1 u u0 u1 a).2 i i0 i1⟩
  · by_cases cc : gCe r (gDk d row q) row = gCe r x (s / gPo d w)
    · obtain ⟨c1, c2⟩ := cin _ _ a (by omega) cc
      rw [k7, if_pos cc, cc]
      exact ⟨s % gPo d w, by omega, rfl, fun i i0 i1 => by rw [k8, if_pos (by omega), show 8 * gCe r x (s / gPo d w) + i - 8 * gCe r x (s / gPo d w) = i by omega, c2, gSpot_of hk]⟩
    · unfold gVal at v
      rw [k5, k6, if_neg cc, if_neg cc] at v
      rw [k7, if_neg cc] at t ⊢
      obtain ⟨p, p0, p1, p2⟩ := hC.2 row q a b c f v t
      exact ⟨p, p0, p1, fun i i0 i1 => by rw [k8, if_neg (by omega)]; exact p2 i i0 i1⟩
  · by_cases c : gCe r (gHome d w u) (u / gPo d w) = gCe r x (s / gPo d w)
    · obtain ⟨c1, c2⟩ := hne u u0 u1 c
      rw [c1, k13s, c2]
    · rw [k5, if_neg c] at a
      have cs : u ≠ s := fun z => by rw [z] at a; exact a hu
      rw [k13 u cs]
      exact hH u u0 u1 a
  · obtain ⟨p, p0, p1, p2⟩ := hy row q a b c f v t
    refine ⟨p, p0, p1, ?_⟩
    rcases p2 with p2 | ⟨p2, p3⟩
    · exact Or.inl p2
    · have rg := gRow_of (row := row) hk p0
      rw [p2] at rg ⊢
      refine Or.inr ?_
      rcases hx with hx | ⟨-, hx⟩
      · rw [k5, ← rg.1, hx, if_pos rfl]
        decide
      · have := gDk_rg (row := row) (pos := q) hk
        omega
  · have n : gCe r y r ≠ gCe r x (s / gPo d w) := fun c => by
      have := (cin _ _ (by omega) (by omega) c).2
      omega
    rw [k6, if_neg n]
    exact hF y y0 y1
  · exact (hO u v a b c f g i).imp (so u a b) (so v c f)
/-- a cell that is no place is wiped -/
theorem vBw.wipe {d w r y row : Int} {C : Int → Int → Int} {H : zHp} (hk : gOK d w r) (h : vBw d w r C H) (hr : 0 ≤ row ∧ row < r) (hy : ∃ q, (gPo d w ≤ q ∧ q < d) ∧ y = gDk d row q) (hf : ∀ u, 0 ≤ u → u < r * gPo d w → u / gPo d w = row → H 13 u ≠ y) : vBw d w r C (gPut H (gCe r y row) 0 11 0) ∧ (∀ s, (0 ≤ s ∧ s < r * gPo d w) → s / gPo d w = row → vSy d w r s y H → vSp d w r (gPut H (gCe r y row) 0 11 0)) ∧ (vSp d w r H → vSp d w r (gPut H (gCe r y row) 0 11 0)) ∧ ∀ u, 0 ≤ u → u < r * gPo d w → (gSound d w r H u ↔ gSound d w r (gPut H (gCe r y row) 0 11 0) u) := by
  obtain ⟨⟨hR, hA, hC⟩, hH, hS, hF, hO⟩ := h
  obtain ⟨g0, g5, g6, g7, g8, g9, g3⟩ := gPut_all (H := H) (c := gCe r y row) (tag := 0) (wd := 11) (at' := 0) (by decide)
  have po := gPo_rg hk
  have w3 := hk.2.2.1
  have r48 := hk.2.2.2.2.2.1
  have e13 : ∀ u, gPut H (gCe r y row) 0 11 0 13 u = H 13 u := fun u => g0 13 u (by decide) (by decide) (by decide) (by decide) (by decide) (by decide)
  generalize gPut H (gCe r y row) 0 11 0 = K at *
  have cin : ∀ z o, 0 ≤ o → o ≤ r → gCe r z o = gCe r y row → z = y ∧ o = row := fun z o o0 o1 c => gCe_inj hk ⟨o0, o1⟩ ⟨hr.1, by omega⟩ c
  have ne : ∀ u, 0 ≤ u → u < r * gPo d w → gCe r (H 13 u) (u / gPo d w) ≠ gCe r y row := fun u u0 u1 c => by
    have qu := gSp_rg hk ⟨u0, u1⟩
    obtain ⟨c1, c2⟩ := cin _ _ qu.1.1 (by omega) c
    exact hf u u0 u1 c2 c1
  have hne : ∀ u, 0 ≤ u → u < r * gPo d w → gCe r (gHome d w u) (u / gPo d w) ≠ gCe r y row := fun u u0 u1 c => by
    have qu := gSp_rg hk ⟨u0, u1⟩
    obtain ⟨c1, c2⟩ := cin _ _ qu.1.1 (by omega) c
    obtain ⟨q, hq, e⟩ := hy
    rw [e, ← c2] at c1
    exact gHome_sp hk ⟨u0, u1⟩ hq c1
  have so : ∀ u, 0 ≤ u → u < r * gPo d w → (gSound d w r H u ↔ gSound d w r K u) := fun u u0 u1 => by
    unfold gSound gVal gAt
    rw [e13, g5, g6, if_neg (ne u u0 u1), if_neg (ne u u0 u1)]
  refine ⟨⟨⟨hR, fun u u0 u1 pu => ?_, ⟨fun u u0 u1 a => ?_, fun row' q a b c f v t => ?_⟩⟩, fun u u0 u1 a => ?_, fun row' q a b c f v t => ?_, fun z z0 z1 => ?_, fun u v a b c f g i => ?_⟩, fun s hs hsr hy' row' q a b c f v t => ?_, fun hs row' q a b c f v t => ?_, so⟩
  · rw [e13] at pu
    have z := hA u u0 u1 pu
    have n := ne u u0 u1
    unfold gAt at z ⊢
    rw [e13, g5, g7, if_neg n, if_neg n]
    exact ⟨z.1, fun i i0 i1 => by rw [g8, if_neg (by omega)]; exact z.2 i i0 i1⟩
  · have n := hne u u0 u1
    rw [g5, if_neg n] at a
    rw [g7, if_neg n]
    exact ⟨(hC.1 u u0 u1 a).1, fun i i0 i1 => by rw [g8, if_neg (by omega)]; exact (hC.1 u u0 u1 a).2 i i0 i1⟩
  · by_cases cc : gCe r (gDk d row' q) row' = gCe r y row
    · rw [g7, if_pos cc] at t
      exact absurd rfl t
    · unfold gVal at v
      rw [g5, g6, if_neg cc, if_neg cc] at v
      rw [g7, if_neg cc] at t ⊢
      obtain ⟨p, p0, p1, p2⟩ := hC.2 row' q a b c f v t
      exact ⟨p, p0, p1, fun i i0 i1 => by rw [g8, if_neg (by omega)]; exact p2 i i0 i1⟩
  · rw [g5, if_neg (hne u u0 u1)] at a
    rw [e13]
    exact hH u u0 u1 a
  · by_cases cc : gCe r (gDk d row' q) row' = gCe r y row
    · rw [g7, if_pos cc] at t
      exact absurd rfl t
    · unfold gVal at v
      rw [g5, g6, if_neg cc, if_neg cc] at v
      rw [g7, if_neg cc] at t ⊢
      obtain ⟨p, p0, p1, p2⟩ := hS row' q a b c f v t
      refine ⟨p, p0, p1, ?_⟩
      rw [e13]
      refine p2.imp id (fun p2 => ?_)
      have rg := gRow_of (row := row') hk p0
      have sr := gSpot_rg hk ⟨a, b⟩ p0
      have n := hne _ sr.1 sr.2
      rw [rg.1] at n
      rw [g5, if_neg n]
      exact p2
  · have n : gCe r z r ≠ gCe r y row := fun c => by
      have := (cin _ _ (by omega) (by omega) c).2
      omega
    rw [g6, if_neg n]
    exact hF z z0 z1
  · exact (hO u v a b c f g i).imp (so u a b).mp (so v c f).mp
  · by_cases cc : gCe r (gDk d row' q) row' = gCe r y row
    · rw [g7, if_pos cc] at t
      exact absurd rfl t
    · unfold gVal at v
      rw [g5, g6, if_neg cc, if_neg cc] at v
      rw [g7, if_neg cc] at t ⊢
      obtain ⟨p, p0, p1, p2⟩ := hy' row' q a b c f v t
      refine ⟨p, p0, p1, ?_⟩
      rw [e13]
      rcases p2 with p2 | ⟨p2, p3⟩
      · exact p2
      · have rg := gRow_of (row := row') hk p0
        rw [p2, hsr] at rg
        exact absurd (by rw [p3, ← rg.1]) cc
  · by_cases cc : gCe r (gDk d row' q) row' = gCe r y row
    · rw [g7, if_pos cc] at t
      exact absurd rfl t
    · unfold gVal at v
      rw [g5, g6, if_neg cc, if_neg cc] at v
      rw [g7, if_neg cc] at t ⊢
      obtain ⟨p, p0, p1, p2⟩ := hs row' q a b c f v t
      exact ⟨p, p0, p1, by rw [e13]; exact p2⟩
theorem vBw.b {d w r : Int} {C : Int → Int → Int} {H : zHp} (h : vBw d w r C H) (hs : vSp d w r H) : vB d w r C H := ⟨⟨h.1.1, h.1.2.1⟩, h.2.1, hs, h.2.2.2.1, h.2.2.2.2⟩
