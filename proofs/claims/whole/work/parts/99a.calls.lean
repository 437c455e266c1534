/-! Calls: the class's run for every reference that goes with it, then the reference's. -/
section CREL
variable {d w r : Int} {t : Nat} {L : Int → Int} {H X : zHp} {hd cm mm : Nat} {ca ma : List zV} {Q : zHp → Int → zHp → Prop} {TT : Int → Prop}
theorem rI_of {H1 H2 : zHp} (h : rAll d w r t L H1 H2) (f : ∀ q i, q < 35 → H2 q i = H1 q i) : rI (t, L, H2) := ⟨d, w, r, h.keep f (fun _ _ _ _ _ => rfl)⟩
theorem crel (h : rAll d w r t L H H) (hC : ∀ M, rAll d w r t L H M → zEnds 80 cm 0 ca [] (t, L, H) (fun v S1 => ∃ H1, S1 = (t, L, H1) ∧ fC H H1 ∧ Q M v H1) (fun c S1 => S1 = (t, L, H) ∧ TT c)) : zEnds 80 cm 0 ca [] (t, L, H) (fun v S1 => ∃ H1, S1 = (t, L, H1) ∧ fC H H1 ∧ ∀ M, rAll d w r t L H M → Q M v H1) (fun c S1 => S1 = (t, L, H) ∧ TT c) := by
  refine (zEnds_all (P := fun M => rAll d w r t L H M) ⟨H, h⟩ hC).imp (fun v S1 u => ?_) (fun c S1 u => u H h)
  obtain ⟨H1, e, f, -⟩ := u H h
  refine ⟨H1, e, f, fun M hM => ?_⟩
  obtain ⟨H1', e', -, q⟩ := u M hM
  rw [e] at e'
  have e2 : H1 = H1' := congrArg (fun x => x.2.2) e'
  rw [e2]
  exact q
theorem rAll.m {H1 : zHp} {v : Int} (h : rAll d w r t L H H) (f : fC H H1) : rAll d w r t L H (zupd H1 54 0 v) := h.keep (fun _ _ _ => rfl) (fun q i a b _ => by rw [zupd_ne (by omega)]; exact f q i (Or.inl a))
theorem rAll.m' {H1 : zHp} (h : rAll d w r t L H H) (f : fC H H1) : rAll d w r t L H H1 := h.keep (fun _ _ _ => rfl) (fun q i a _ _ => f q i (Or.inl a))
theorem rAll.thr {t' : Nat} {k : Int} (h : rAll d w r t L H H) : rI (t', L, zupd H 35 0 k) := ⟨d, w, r, h.keep (fun q i hq => zupd_ne (by omega)) (fun q i _ _ c => zupd_no c)⟩
theorem cOK_rel (ht : 118 ≤ t) (hX : lR X H) (hz : zhR (t, L, H)) (h : rAll d w r t L H H) (hca : zlR ca) (hma : zlR ma) (hmi : (zmi cm).isSome = true)
    (hC : ∀ M, rAll d w r t L H M → zEnds 80 cm 0 ca [] (t, L, H) (fun v S1 => ∃ H1, S1 = (t, L, H1) ∧ fC H H1 ∧ Q M v H1) (fun c S1 => S1 = (t, L, H) ∧ TT c))
    (hM : ∀ v H1 M, rAll d w r t L H M → Q M v H1 → zEnds 118 mm 0 ma [] (t, L, M) (fun b S2 => b = v ∧ ∃ H2, S2 = (t, L, H2) ∧ fM M H2 ∧ H2 35 0 = 0 ∧ rAll d w r t L H1 H2) (fun _ _ => False))
    (hT : ∀ c, TT c → ∃ k, zhd hd c = some k ∧ k ≠ 0 ∧ ∀ t', 118 ≤ t' → zEnds 118 mm 0 ma [] (t', L, H) (fun _ S2 => S2 = (t', L, zupd H 35 0 k)) (fun _ _ => False)) : cOK rP hd cm ca mm ma X t L H := by
  refine cOK_of (K := fun v H1 => ∀ M, rAll d w r t L H M → Q M v H1) (KT := fun c H1 => H1 = H ∧ TT c) ht hX hz hca hma hmi ((crel h hC).imp (fun v S1 u => u) (fun c S1 u => ⟨H, u.1, fC.rfl', rfl, u.2⟩)) (fun v H1 f k => ?_) (fun c H1 f k => ?_)
  · refine (hM v H1 _ (h.m f) (k _ (h.m f))).imp (fun b S2 u => ?_) (fun _ _ u => u)
    obtain ⟨e, H2, e2, f2, t0, p⟩ := u
    exact ⟨e, H2, e2, f2, t0, rI_of p (fun q i hq => by rw [f2 q i (Or.inl hq), zupd_ne (by omega)])⟩
  · obtain ⟨e, k⟩ := k
    subst e
    obtain ⟨k', a, b, c'⟩ := hT c k
    refine ⟨k', a, b, (c' (t + 1) (by omega)).imp (fun _ S2 u => ⟨_, u, fM.rfl'.upd (by decide), zupd_at, h.thr⟩) (fun _ _ u => u)⟩
theorem cOKb_rel (ht : 118 ≤ t) (hX : lR X H) (hz : zhR (t, L, H)) (h : rAll d w r t L H H) (hca : zlR ca) (hma : zlR ma) (hmi : (zmi cm).isSome = true)
    (hC : ∀ M, rAll d w r t L H M → zEnds 80 cm 0 ca [] (t, L, H) (fun v S1 => ∃ H1, S1 = (t, L, H1) ∧ fC H H1 ∧ (v = 0 ∨ v = 1) ∧ Q M v H1) (fun c S1 => S1 = (t, L, H) ∧ TT c))
    (hM : ∀ v H1 M, rAll d w r t L H M → Q M v H1 → zEnds 118 mm 0 ma [] (t, L, M) (fun b S2 => b = v ∧ ∃ H2, S2 = (t, L, H2) ∧ fM M H2 ∧ H2 35 0 = 0 ∧ rAll d w r t L H1 H2) (fun _ _ => False))
    (hT : ∀ c, TT c → ∃ k, zhd hd c = some k ∧ k ≠ 0 ∧ ∀ t', 118 ≤ t' → zEnds 118 mm 0 ma [] (t', L, H) (fun _ S2 => S2 = (t', L, zupd H 35 0 k)) (fun _ _ => False)) : cOKb rP hd cm ca mm ma X t L H := by
  refine cOKb_of (K := fun v H1 => ∀ M, rAll d w r t L H M → Q M v H1) (KT := fun c H1 => H1 = H ∧ TT c) ht hX hz hca hma hmi ((crel (Q := fun M v H1 => (v = 0 ∨ v = 1) ∧ Q M v H1) h hC).imp (fun v S1 u => ?_) (fun c S1 u => ⟨H, u.1, fC.rfl', rfl, u.2⟩)) (fun v H1 f k => ?_) (fun c H1 f k => ?_)
  · obtain ⟨H1, e, f, k⟩ := u
    exact ⟨(k H h).1, H1, e, f, fun M hM => (k M hM).2⟩
  · refine (hM v H1 _ (h.m f) (k _ (h.m f))).imp (fun b S2 u => ?_) (fun _ _ u => u)
    obtain ⟨e, H2, e2, f2, t0, p⟩ := u
    exact ⟨e, H2, e2, f2, t0, rI_of p (fun q i hq => by rw [f2 q i (Or.inl hq), zupd_ne (by omega)])⟩
  · obtain ⟨e, k⟩ := k
    subst e
    obtain ⟨k', a, b, c'⟩ := hT c k
    refine ⟨k', a, b, (c' (t + 1) (by omega)).imp (fun _ S2 u => ⟨_, u, fM.rfl'.upd (by decide), zupd_at, h.thr⟩) (fun _ _ u => u)⟩
theorem cOKv_rel (ht : 118 ≤ t) (hX : lR X H) (hz : zhR (t, L, H)) (h : rAll d w r t L H H) (hca : zlR ca) (hma : zlR ma)
    (hC : ∀ M, rAll d w r t L H M → zEnds 80 cm 0 ca [] (t, L, H) (fun v S1 => ∃ H1, S1 = (t, L, H1) ∧ fC H H1 ∧ Q M v H1) (fun c S1 => S1 = (t, L, H) ∧ TT c))
    (hM : ∀ v H1 M, rAll d w r t L H M → Q M v H1 → zEnds 118 mm 0 ma [] (t, L, M) (fun _ S2 => ∃ H2, S2 = (t, L, H2) ∧ fM M H2 ∧ H2 35 0 = 0 ∧ rAll d w r t L H1 H2) (fun _ _ => False))
    (hT : ∀ c, TT c → ∃ k, zhd hd c = some k ∧ k ≠ 0 ∧ ∀ t', 118 ≤ t' → zEnds 118 mm 0 ma [] (t', L, H) (fun _ S2 => S2 = (t', L, zupd H 35 0 k)) (fun _ _ => False)) : cOKv rP hd cm ca mm ma X t L H := by
  refine cOKv_of (K := fun v H1 => ∀ M, rAll d w r t L H M → Q M v H1) (KT := fun c H1 => H1 = H ∧ TT c) ht hX hz hca hma ((crel h hC).imp (fun v S1 u => u) (fun c S1 u => ⟨H, u.1, fC.rfl', rfl, u.2⟩)) (fun v H1 f k => ?_) (fun c H1 f k => ?_)
  · refine (hM v H1 _ (h.m' f) (k _ (h.m' f))).imp (fun b S2 u => ?_) (fun _ _ u => u)
    obtain ⟨H2, e2, f2, t0, p⟩ := u
    exact ⟨H2, e2, f2, t0, rI_of p (fun q i hq => f2 q i (Or.inl hq))⟩
  · obtain ⟨e, k⟩ := k
    subst e
    obtain ⟨k', a, b, c'⟩ := hT c k
    refine ⟨k', a, b, (c' (t + 1) (by omega)).imp (fun _ S2 u => ⟨_, u, fM.rfl'.upd (by decide), zupd_at, h.thr⟩) (fun _ _ u => u)⟩
end CREL
section SIMPLE
variable {d w r : Int} {t : Nat} {L : Int → Int} {H M X : zHp} {Qr Qt : Int → zS → Prop}
theorem rAll.on (h : rAll d w r t L H M) : (H 0 11 = 1 ∧ M 35 12 = 1) ∨ (H 0 11 = 0 ∧ M 35 12 = 0) := by
  rcases h.2 with ⟨C, h2⟩ | ⟨C, O, h2⟩
  · exact Or.inl ⟨h2.2.2.2.2, h2.1.2.2.2.1.1⟩
  · exact Or.inr ⟨h2.2.2.1.2, h2.2.2.1.1⟩
theorem rAll.up {k : Int} (h : rAll d w r t L H M) : rAll d w r t L H (zupd M 35 0 k) := h.keep (fun _ _ _ => rfl) (fun q i _ _ c => zupd_no c)
theorem rAll.pl (h : rAll d w r t L H M) : ∀ s, 0 ≤ s → s < r * gPo d w → H 13 s = mPs d w M s := by
  rcases h.2 with ⟨C, h2⟩ | ⟨C, O, h2⟩
  · exact h2.1.2.2.2.2
  · intro s s0 s1
    have hk := h.1.1.1.1.1
    have hK := h2.1.2.2.1
    have q := gSp_rg hk ⟨s0, s1⟩
    have po := gPo_rg hk
    have hg := gDk_rg (row := s / gPo d w) (pos := s % gPo d w) hk
    rw [h2.1.2.1 s s0 s1]
    unfold mPs mPl
    rw [if_pos h2.2.2.1.1]
    have tl : ∀ q', gPo d w ≤ q' → q' < d → (gTold d w r H s q' ↔ mTold d M (s / gPo d w) (s % gPo d w) q') := fun q' a b => by
      have hg' := gDk_rg (row := s / gPo d w) (pos := q') hk
      have v := hK.val (x := gDk d (s / gPo d w) q') (o := s / gPo d w) hg' (by omega)
      unfold gTold mTold
      rw [v]
      refine and_congr_right (fun u => ?_)
      rw [(hK.2.1 _ _ hg'.1 hg'.2 q.1.1 (by omega)).2.1 u.1 u.2.1]
    have hw := (hK.2.1 _ (s / gPo d w) hg.1 hg.2 q.1.1 (by omega)).1
    unfold gFound mFound
    by_cases c : H 5 (gCe r (gDk d (s / gPo d w) (s % gPo d w)) (s / gPo d w)) ≠ 0
    · rw [if_pos c, if_pos (hw.mp c)]
    · rw [if_neg c, if_neg (fun u => c (hw.mpr u))]
      have e : gFirst (gTold d w r H s) (gPo d w) (d - gPo d w).toNat = gFirst (mTold d M (s / gPo d w) (s % gPo d w)) (gPo d w) (d - gPo d w).toNat := gFirst_congr _ _ (fun i i0 i1 => tl i i0 (by omega))
      unfold gFs mFs
      rw [e]
theorem rAll.mok (h : rAll d w r t L H M) : mOk d w r M := fun row p r0 r1 p0 p1 => by
  have hk := h.1.1.1.1.1
  have rg := gRow_of (row := row) hk ⟨p0, p1⟩
  have sr := gSpot_rg hk ⟨r0, r1⟩ ⟨p0, p1⟩
  have e := h.pl _ sr.1 sr.2
  unfold mPs at e
  rw [rg.1, rg.2] at e
  rw [← e]
  exact h.1.1.1.2 _ sr.1 sr.2
-- place
theorem q_place (ht : 118 ≤ t) (hX : lR X H) (hz : zhR (t, L, H)) (h : rAll d w r t L H H) (x y : Int) (hx : z32 x = x) (hy : z32 y = y) : cOK rP 285 165 [(20, 0), (0, x), (0, y)] 264 [(29, 35), (0, x), (0, y)] X t L H := by
  have hk := h.1.1.1.1.1
  have po := gPo_rg hk
  have hsp := gSpots hk
  have hd2 := hk.2.1
  have hw3 := hk.2.2.1
  have hr2 := hk.2.2.2.2.2.2
  have n1 : H 1 2 = r := h.1.1.1.1.2.2.1.1.2.2.1
  have n2 : H 1 4 = gPo d w := h.1.1.1.1.2.2.1.1.2.2.2.2.1
  have l13 : L 13 = r * gPo d w := h.1.1.1.1.2.1.2.1.1
  refine cOK_rel (Q := fun M v H1 => ((0 ≤ x ∧ x < r) ∧ (0 ≤ y ∧ y < gPo d w)) ∧ H1 = H ∧ v = H 13 (x * gPo d w + y)) (TT := fun c => c = 1 ∧ ¬ ((0 ≤ x ∧ x < r) ∧ (0 ≤ y ∧ y < gPo d w))) ht hX hz h (za_c (za_i hx (za_i hy za_0))) (za_m (za_i hx (za_i hy za_0))) rfl (fun M hM => ?_) (fun v H1 M hM q => ?_) (fun c q => ?_)
  · by_cases c : (0 ≤ x ∧ x < r) ∧ (0 ≤ y ∧ y < gPo d w)
    · have sr := gSpot_rg hk c.1 c.2
      refine v_165 ⟨fun z => by omega, fun _ => ⟨fun z => absurd z (by show ¬ H 1 2 ≤ x; omega), fun _ => ⟨fun z => by omega, fun _ => ⟨fun _ => ?_, fun z => absurd (by show y < H 1 4; omega) z⟩⟩⟩⟩
      have m2 : 0 ≤ x * gPo d w := Int.mul_nonneg c.1.1 (by omega)
      dsimp only
      rw [n2, z32_id (x := x * gPo d w) (by omega) (by omega), z32_id (x := x * gPo d w + y) (by omega) (by omega)]
      exact v_39 ⟨by show 0 ≤ x * gPo d w + y ∧ x * gPo d w + y < L 13; omega, H, rfl, fC.rfl', c, rfl, rfl⟩
    · refine v_165 ⟨fun _ => ⟨ht, by decide, rfl, rfl, c⟩, fun z1 => ⟨fun _ => ⟨ht, by decide, rfl, rfl, c⟩, fun z2 => ⟨fun _ => ⟨ht, by decide, rfl, rfl, c⟩, fun z3 => ⟨fun z4 => absurd ?_ c, fun _ => ⟨ht, by decide, rfl, rfl, c⟩⟩⟩⟩⟩
      have z2 : ¬ H 1 2 ≤ x := z2
      have z4 : y < H 1 4 := z4
      omega
  · obtain ⟨c, e, ev⟩ := q
    have e3 : M 35 3 = r := hM.1.1.2.1.2.2.2.1.2.2.1
    have pm := mPo_z hM.1.1.2.1
    have rg := gRow_of (row := x) hk c.2
    have sr := gSpot_rg hk c.1 c.2
    refine j_264 ⟨fun z => by omega, fun _ => ⟨fun z => absurd z (by show ¬ M 35 3 ≤ x; omega), fun _ => ⟨fun z => by omega, fun _ => ⟨fun _ => j_264_35 (m_f0 ⟨fun _ => m_placeOf hM.up.1.1.2.1 c.1 c.2 ⟨?_, _, rfl, fM.rfl'.upd (by decide), zupd_at, ?_⟩, fun u => absurd rfl u⟩), fun z => absurd (by show y < z32 (M 35 2 * M 35 4); omega) z⟩⟩⟩⟩
    · rw [ev, (rAll.up (k := 0) hM).pl _ sr.1 sr.2]
      unfold mPs
      rw [rg.1, rg.2]
    · rw [e]; exact hM.up
  · obtain ⟨e, c⟩ := q
    refine ⟨1, by rw [e]; rfl, by decide, fun t' ht' => ?_⟩
    have e3 : H 35 3 = r := h.1.1.2.1.2.2.2.1.2.2.1
    have pm := mPo_z h.1.1.2.1
    have q : zEnds 118 264 35 [(29, 35), (0, x), (0, y)] [(0, 1), (29, 35)] (t', L, H) (fun _ S2 => S2 = (t', L, zupd H 35 0 1)) (fun _ _ => False) := j_264_35 (m_f1 ⟨fun u => absurd u (by decide), fun _ => rfl⟩)
    refine j_264 ⟨fun _ => j_264_30 q, fun z1 => ⟨fun _ => j_264_30 q, fun z2 => ⟨fun _ => j_264_30 q, fun z3 => ⟨fun z4 => absurd ?_ c, fun _ => j_264_30 q⟩⟩⟩⟩
    have z2 : ¬ H 35 3 ≤ x := z2
    have z4 : y < z32 (H 35 2 * H 35 4) := z4
    omega
end SIMPLE
