/-! What holds of the class's volume while power is on. -/
theorem gAt_of {d w r u : Int} {G H : zHp} (e : G 13 u = H 13 u) : gAt d w r G u = gAt d w r H u := congrArg (fun x => gCe r x (u / gPo d w)) e
def vHm (d w r : Int) (H : zHp) : Prop := ∀ s, 0 ≤ s → s < r * gPo d w → H 5 (gCe r (gHome d w s) (s / gPo d w)) ≠ 0 → H 13 s = gHome d w s
def vSp (d w r : Int) (H : zHp) : Prop := ∀ row q, 0 ≤ row → row < r → gPo d w ≤ q → q < d → gVal H (gCe r (gDk d row q) row) → H 7 (gCe r (gDk d row q) row) ≠ 0 → ∃ p, (0 ≤ p ∧ p < gPo d w) ∧ H 7 (gCe r (gDk d row q) row) = p + 1 ∧ H 13 (row * gPo d w + p) = gDk d row q
def vF0 (d r : Int) (H : zHp) : Prop := ∀ x, 0 ≤ x → x < d → H 6 (gCe r x r) = 0
/-- no log is told -/
def vL (d r : Int) (H : zHp) : Prop := ∀ x, 0 ≤ x → x < d → H 5 (gCe r x r) ≠ 0 → H 7 (gCe r x r) = 0
def vB (d w r : Int) (C : Int → Int → Int) (H : zHp) : Prop := (vR C ∧ vA d w r C H) ∧ vHm d w r H ∧ vSp d w r H ∧ vF0 d r H ∧ vOne d w r H
/-- the content with another spot -/
def vUp (C : Int → Int → Int) (s : Int) (W : Int → Int) : Int → Int → Int := fun u i => if u = s then (if 0 ≤ i ∧ i < 8 then W i else 0) else C u i
theorem vUp_at {C : Int → Int → Int} {s i : Int} {W : Int → Int} (hi : 0 ≤ i ∧ i < 8) : vUp C s W s i = W i := by
  unfold vUp
  rw [if_pos rfl, if_pos hi]
theorem vUp_ne {C : Int → Int → Int} {s u i : Int} {W : Int → Int} (h : u ≠ s) : vUp C s W u i = C u i := by
  unfold vUp
  rw [if_neg h]
theorem vUp_R {C : Int → Int → Int} {s : Int} {W : Int → Int} (h : vR C) (hW : ∀ i, 0 ≤ i → i < 8 → z64 (W i) = W i) : vR (vUp C s W) := fun u i => by
  unfold vUp
  by_cases c : u = s
  · rw [if_pos c]
    by_cases e : 0 ≤ i ∧ i < 8
    · rw [if_pos e]; exact hW i e.1 e.2
    · rw [if_neg e]; rfl
  · rw [if_neg c]; exact h u i
theorem gRow_of {d w r row p : Int} (hk : gOK d w r) (hp : 0 ≤ p ∧ p < gPo d w) : (row * gPo d w + p) / gPo d w = row ∧ (row * gPo d w + p) % gPo d w = p := by
  have po := gPo_rg hk
  have w3 := hk.2.2.1
  rw [show row * gPo d w + p = p + gPo d w * row by rw [Int.mul_comm]; omega]
  exact ⟨by rw [Int.add_mul_ediv_left _ _ (by omega), Int.ediv_eq_zero_of_lt hp.1 hp.2, Int.zero_add], by rw [Int.add_mul_emod_self_left, Int.emod_eq_of_lt hp.1 hp.2]⟩
theorem gSpot_of {d w r s : Int} (hk : gOK d w r) : s / gPo d w * gPo d w + s % gPo d w = s := by
  have := Int.mul_ediv_add_emod s (gPo d w)
  rw [Int.mul_comm] at this
  exact this
/-- a cell at its place is put -/
theorem vB.put {d w r s wd at' : Int} {C : Int → Int → Int} {H : zHp} (hk : gOK d w r) (hp : gPl d w r H) (h : vB d w r C H) (hs : 0 ≤ s ∧ s < r * gPo d w) (ps : H 13 s ≠ -1) (hw : wd ≠ 3 ∧ wd ≠ 8) (hW : ∀ i, 0 ≤ i → i < 8 → z64 (H wd (at' + i)) = H wd (at' + i)) : vB d w r (vUp C s (fun i => H wd (at' + i))) (gPut H (gAt d w r H s) (s % gPo d w + 1) wd at') ∧ gSound d w r (gPut H (gAt d w r H s) (s % gPo d w + 1) wd at') s := by
  obtain ⟨⟨hR, hA⟩, hH, hS, hF, hO⟩ := h
  obtain ⟨g0, g5, g6, g7, g8, g9, g3⟩ := gPut_all (H := H) (c := gAt d w r H s) (tag := s % gPo d w + 1) (wd := wd) (at' := at') hw
  have po := gPo_rg hk
  have w3 := hk.2.2.1
  have r48 := hk.2.2.2.2.2.1
  have e13 : ∀ u, gPut H (gAt d w r H s) (s % gPo d w + 1) wd at' 13 u = H 13 u := fun u => g0 13 u (by decide) (by decide) (by decide) (by decide) (by decide) (by decide)
  have eat : ∀ u, gAt d w r (gPut H (gAt d w r H s) (s % gPo d w + 1) wd at') u = gAt d w r H u := fun u => gAt_of (e13 u)
  have qs := gSp_rg hk hs
  have pl := hp s hs.1 hs.2
  obtain ⟨⟨a1, a2, a3⟩, a4⟩ := hA s hs.1 hs.2 ps
  have mono : ∀ u, gSound d w r H u → gSound d w r (gPut H (gAt d w r H s) (s % gPo d w + 1) wd at') u := fun u su => by
    refine ⟨by rw [e13]; exact su.1, ?_, ?_⟩
    · rw [eat, g5]
      by_cases c : gAt d w r H u = gAt d w r H s
      · rw [if_pos c]; decide
      · rw [if_neg c]; exact su.2.1
    · rw [eat, g6]
      by_cases c : gAt d w r H u = gAt d w r H s
      · rw [if_pos c]
      · rw [if_neg c]; exact su.2.2
  have lg : ∀ x, gCe r x r ≠ gAt d w r H s := fun x e => by
    unfold gAt at e
    have := (gCe_inj hk (by omega) (by omega) e).2
    omega
  refine ⟨⟨⟨vUp_R hR hW, fun u u0 u1 pu => ?_⟩, fun u u0 u1 hu => ?_, fun row q a b c e v t => ?_, fun x x0 x1 => ?_, fun u v a b c e f g => ?_⟩, ⟨by rw [e13]; exact ps, by rw [eat, g5, if_pos rfl]; decide, by rw [eat, g6, if_pos rfl]⟩⟩
  · rw [e13] at pu
    rw [eat, g5, g7, e13]
    by_cases c : u = s
    · rw [c, if_pos rfl, if_pos rfl]
      refine ⟨⟨by decide, rfl, a3⟩, fun i i0 i1 => ?_⟩
      rw [g8, if_pos (by omega), vUp_at ⟨i0, i1⟩, show at' + (8 * gAt d w r H s + i - 8 * gAt d w r H s) = at' + i by omega]
    · have ne := hA.ne hk ⟨u0, u1⟩ hs pu ps c
      obtain ⟨b1, b2⟩ := hA u u0 u1 pu
      rw [if_neg ne, if_neg ne]
      refine ⟨b1, fun i i0 i1 => ?_⟩
      rw [g8, if_neg (by omega), vUp_ne c]
      exact b2 i i0 i1
  · rw [e13]
    rw [g5] at hu
    by_cases c : gCe r (gHome d w u) (u / gPo d w) = gAt d w r H s
    · have qu := gSp_rg hk (s := u) ⟨u0, u1⟩
      obtain ⟨c1, c2⟩ := gCe_inj hk (x := gHome d w u) (x' := H 13 s) (o := u / gPo d w) (o' := s / gPo d w) (by omega) (by omega) c
      unfold gHome at c1
      rcases a3 with a3 | ⟨q, q0, q1, q2⟩
      · rw [a3] at c1
        unfold gHome at c1
        rw [c2] at c1
        have := gDk_inj hk (row := s / gPo d w) (a := u % gPo d w) (b := s % gPo d w) (by omega) (by omega) c1
        have e : u = s := by rw [← gSpot_of (s := u) hk, ← gSpot_of (s := s) hk, c2, this]
        rw [e]
        exact a3
      · rw [q2, c2] at c1
        have := gDk_inj hk (row := s / gPo d w) (a := u % gPo d w) (b := q) (by omega) (by omega) c1
        omega
    · rw [if_neg c] at hu
      exact hH u u0 u1 hu
  · by_cases cc : gCe r (gDk d row q) row = gAt d w r H s
    · obtain ⟨c1, c2⟩ := gCe_inj hk (x := gDk d row q) (x' := H 13 s) (o := row) (o' := s / gPo d w) (by omega) (by omega) cc
      refine ⟨s % gPo d w, by omega, by rw [g7, if_pos cc], ?_⟩
      rw [e13, c2, gSpot_of hk, ← c1, c2]
    · have v' : gVal H (gCe r (gDk d row q) row) := by
        unfold gVal at v ⊢
        rw [g5, g6, if_neg cc, if_neg cc] at v
        exact v
      rw [g7, if_neg cc] at t ⊢
      obtain ⟨p, p0, p1, p2⟩ := hS row q a b c e v' t
      exact ⟨p, p0, p1, by rw [e13]; exact p2⟩
  · rw [g6, if_neg (lg x)]
    exact hF x x0 x1
  · rcases hO u v a b c e f g with z | z
    · exact Or.inl (mono u z)
    · exact Or.inr (mono v z)
theorem vL.put {d w r s wd at' tag : Int} {H : zHp} (hk : gOK d w r) (h : vL d r H) (hs : 0 ≤ s ∧ s < r * gPo d w) (hw : wd ≠ 3 ∧ wd ≠ 8) : vL d r (gPut H (gAt d w r H s) tag wd at') := fun x x0 x1 hx => by
  obtain ⟨-, g5, -, g7, -⟩ := gPut_all (H := H) (c := gAt d w r H s) (tag := tag) (wd := wd) (at' := at') hw
  have qs := gSp_rg hk hs
  have ne : gCe r x r ≠ gAt d w r H s := fun e => by
    unfold gAt at e
    have := (gCe_inj hk (by have := hk.2.2.2.2.2.1; omega) (by omega) e).2
    omega
  rw [g5, if_neg ne] at hx
  rw [g7, if_neg ne]
  exact h x x0 x1 hx
/-- a log cell is put -/
theorem vB.log {d w r x tag wd at' : Int} {C : Int → Int → Int} {H : zHp} (hk : gOK d w r) (h : vB d w r C H) (hw : wd ≠ 3 ∧ wd ≠ 8) : vB d w r C (gPut H (gCe r x r) tag wd at') := by
  obtain ⟨⟨hR, hA⟩, hH, hS, hF, hO⟩ := h
  obtain ⟨g0, g5, g6, g7, g8, g9, g3⟩ := gPut_all (H := H) (c := gCe r x r) (tag := tag) (wd := wd) (at' := at') hw
  have r48 := hk.2.2.2.2.2.1
  have e13 : ∀ u, gPut H (gCe r x r) tag wd at' 13 u = H 13 u := fun u => g0 13 u (by decide) (by decide) (by decide) (by decide) (by decide) (by decide)
  have eat : ∀ u, gAt d w r (gPut H (gCe r x r) tag wd at') u = gAt d w r H u := fun u => gAt_of (e13 u)
  have low : ∀ y o, 0 ≤ o → o < r → gCe r y o ≠ gCe r x r := fun y o o0 o1 e => by
    have := (gCe_inj hk (by omega) (by omega) e).2
    omega
  have lowA : ∀ u, 0 ≤ u → u < r * gPo d w → gAt d w r H u ≠ gCe r x r := fun u u0 u1 => by
    have qu := gSp_rg hk ⟨u0, u1⟩
    exact low _ _ qu.1.1 qu.1.2
  have so : ∀ u, 0 ≤ u → u < r * gPo d w → gSound d w r H u → gSound d w r (gPut H (gCe r x r) tag wd at') u := fun u u0 u1 su => ⟨by rw [e13]; exact su.1, by rw [eat, g5, if_neg (lowA u u0 u1)]; exact su.2.1, by rw [eat, g6, if_neg (lowA u u0 u1)]; exact su.2.2⟩
  refine ⟨⟨hR, fun u u0 u1 pu => ?_⟩, fun u u0 u1 hu => ?_, fun row q a b c e v t => ?_, fun y y0 y1 => ?_, fun u v a b c e f g => ?_⟩
  · rw [e13] at pu
    obtain ⟨b1, b2⟩ := hA u u0 u1 pu
    have ne := lowA u u0 u1
    rw [eat, g5, g7, e13, if_neg ne, if_neg ne]
    refine ⟨b1, fun i i0 i1 => ?_⟩
    rw [g8, if_neg (by omega)]
    exact b2 i i0 i1
  · have qu := gSp_rg hk (s := u) ⟨u0, u1⟩
    rw [g5, if_neg (low _ _ qu.1.1 qu.1.2)] at hu
    rw [e13]
    exact hH u u0 u1 hu
  · have ne := low (gDk d row q) row a b
    have v' : gVal H (gCe r (gDk d row q) row) := by
      unfold gVal at v ⊢
      rw [g5, g6, if_neg ne, if_neg ne] at v
      exact v
    rw [g7, if_neg ne] at t ⊢
    obtain ⟨p, p0, p1, p2⟩ := hS row q a b c e v' t
    exact ⟨p, p0, p1, by rw [e13]; exact p2⟩
  · rw [g6]
    by_cases u : gCe r y r = gCe r x r
    · rw [if_pos u]
    · rw [if_neg u]; exact hF y y0 y1
  · rcases hO u v a b c e f g with z | z
    · exact Or.inl (so u a b z)
    · exact Or.inr (so v c e z)
/-- a spot that has no place may have any content -/
theorem vB.other {d w r s : Int} {C : Int → Int → Int} {W : Int → Int} {H : zHp} (h : vB d w r C H) (ps : H 13 s = -1) (hW : ∀ i, 0 ≤ i → i < 8 → z64 (W i) = W i) : vB d w r (vUp C s W) H := by
  obtain ⟨⟨hR, hA⟩, h2⟩ := h
  refine ⟨⟨vUp_R hR hW, fun u u0 u1 pu => ?_⟩, h2⟩
  obtain ⟨b1, b2⟩ := hA u u0 u1 pu
  exact ⟨b1, fun i i0 i1 => by rw [vUp_ne (fun e => pu (by rw [e]; exact ps))]; exact b2 i i0 i1⟩
/-- and so may what is only in the words of a row -/
theorem vB.of {d w r : Int} {C : Int → Int → Int} {H H' : zHp} (h : vB d w r C H) (e : ∀ q i, (q = 5 ∨ q = 6 ∨ q = 7 ∨ q = 8 ∨ q = 13) → H' q i = H q i) : vB d w r C H' := by
  obtain ⟨⟨hR, hA⟩, hH, hS, hF, hO⟩ := h
  have eat : ∀ u, gAt d w r H' u = gAt d w r H u := fun u => by unfold gAt; rw [e 13 u (by omega)]
  have so : ∀ u, gSound d w r H' u ↔ gSound d w r H u := fun u => gSound_of (e 13 u (by omega)) (fun c => e 5 c (by omega)) (fun c => e 6 c (by omega))
  refine ⟨⟨hR, fun u u0 u1 pu => ?_⟩, fun u u0 u1 hu => ?_, fun row q a b c f v t => ?_, fun x x0 x1 => by rw [e 6 _ (by omega)]; exact hF x x0 x1, fun u v a b c f g k => by rw [so, so]; exact hO u v a b c f g k⟩
  · rw [e 13 u (by omega)] at pu
    rw [eat, e 5 _ (by omega), e 7 _ (by omega), e 13 u (by omega)]
    exact ⟨(hA u u0 u1 pu).1, fun i i0 i1 => by rw [e 8 _ (by omega)]; exact (hA u u0 u1 pu).2 i i0 i1⟩
  · rw [e 5 _ (by omega)] at hu
    rw [e 13 u (by omega)]
    exact hH u u0 u1 hu
  · unfold gVal at v
    rw [e 5 _ (by omega), e 6 _ (by omega)] at v
    rw [e 7 _ (by omega)] at t ⊢
    obtain ⟨p, p0, p1, p2⟩ := hS row q a b c f v t
    exact ⟨p, p0, p1, by rw [e 13 _ (by omega)]; exact p2⟩
