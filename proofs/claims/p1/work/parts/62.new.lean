set_option maxRecDepth 20000 in
/-- DiskPool.<init> from 234 -/
theorem v_145_234 {x1 x2 x3 x4 x5 x6 : Int} {S : zS} {Qr Qt : Int → zS → Prop} (h : zEnds 80 38 0 [(23, 12), (9, 0), (9, 0)] [] S (fun v1 S1 => zEnds 80 76 0 [(25, 18), (9, 0)] [] S1 (fun v2 S2 => zEnds 80 60 0 [(23, 12), (0, 25), (11, 19), (0, 200), (9, 0), (9, 0), (9, 0), (9, 0)] [] S2 (fun v3 S3 => zEnds 80 60 0 [(23, 12), (0, 57), (11, 19), (0, 456), (9, 0), (9, 0), (9, 0), (9, 0)] [] S3 (fun v4 S4 => zEnds 80 95 0 [(25, 18), (9, 0)] [] S4 (fun v5 S5 => zEnds 80 21 0 [(22, 3)] [] S5 (fun v6 S6 => ((1 : Int) = 0 ∨ (1 : Int) = 1) ∧ Qr 0 (S6.1, S6.2.1, zupd S6.2.2 0 11 1)) Qt) Qt) Qt) Qt) Qt) Qt) : zEnds 80 145 234 [(20, 0), (0, x1), (0, x2), (0, x3), (0, x4), (0, x5), (0, x6)] [] S Qr Qt := zwp_sound 400 234 _ _ _ h
/-! The class as new. -/
def vU (V : Int → Int → Int) (b : Int) (f : Int → Int) : Int → Int → Int := fun x i => if x = b then f i else V x i
theorem fGa_k {d w r s o : Int} {n : Nat} {H : zHp} {wd at' q i : Int} (hq : q ≠ 14 ∧ q ≠ 15) : fWh (fGa d w r s o n (zfil H 14 0 8)) wd at' 0 q i = H q i := by
  unfold fWh
  rw [if_neg (fun u => hq.2 u.1), fGa_ne _ _ _ _ _ hq.1, zfil_ne hq.1]
/-- Volume.store on a new rack -/
theorem k_store {d w r b at' : Int} {t : Nat} {L : Int → Int} {H : zHp} {V : Int → Int → Int} {Qr Qt : Int → zS → Prop} (h : gI d w r t L H) (hF : gFr d w r H) (hD : gDat d w r V H) (hb : 0 ≤ b ∧ b < r * gGr d w * (w - 1)) (ha : 0 ≤ at' ∧ at' + 8 ≤ L 19 ∧ L 19 ≤ 1000000)
    (hQ : ∀ H', gI d w r t L H' → gFr d w r H' → gDat d w r (vU V b (fun i => H 19 (at' + i))) H' → (∀ q i, q ≠ 3 → q ≠ 5 → q ≠ 7 → q ≠ 8 → q ≠ 14 → q ≠ 15 → H' q i = H q i) → (∀ i, i ≠ 10 → H' 3 i = H 3 i) → Qr 1 (t, L, H')) : zEnds 80 60 0 [(23, 12), (0, b), (11, 19), (0, at'), (9, 0), (9, 0), (9, 0), (9, 0)] [] (t, L, H) Qr Qt := by
  have hk := h.1.1
  obtain ⟨hs, g1, g2, g3, g4⟩ := gSo_rg hk hb
  have hbk := gBk_so (w := w) (b := b) hk.2.2.1 hb.1
  refine f_store h hb (Or.inl rfl) ha ?_
  generalize gSo w b = s at hs g1 g2 g3 hbk
  obtain ⟨s1, s2, s3, s4⟩ := gStripe hk hs
  have hw3 := hk.2.2.1
  have hr48 := hk.2.2.2.2.2.1
  obtain ⟨p1, p2, p3, p4⟩ := gPo_rg hk
  have hp : 0 ≤ s - s % w + w - 1 ∧ s - s % w + w - 1 < r * gPo d w := by omega
  have hpm : (s - s % w + w - 1) % w = w - 1 := by
    have e : s - s % w + w - 1 = (w - 1) + w * (s / w) := by
      have := Int.mul_ediv_add_emod s w
      omega
    rw [e, Int.add_mul_emod_self_left, Int.emod_eq_of_lt (by omega) (by omega)]
  generalize hpe : s - s % w + w - 1 = p at hp hpm
  have qs := gSp_rg hk hs
  have qp := gSp_rg hk hp
  have hgs := gDk_rg (row := s / gPo d w) (pos := s % gPo d w) hk
  have hgp := gDk_rg (row := p / gPo d w) (pos := p % gPo d w) hk
  have hgs : 0 ≤ gHome d w s ∧ gHome d w s < d := hgs
  have hgp : 0 ≤ gHome d w p ∧ gHome d w p < d := hgp
  obtain ⟨⟨f3, f5, f6, f9, f4⟩, f13, f7, f7l⟩ := hF
  have e13s := f13 s hs.1 hs.2
  have e13p := f13 p hp.1 hp.2
  unfold fSt
  rw [hpe, if_neg (by rw [e13p]; omega), if_neg (by rw [e13s]; omega), e13p]
  have k0 : ∀ q i, q ≠ 14 → q ≠ 15 → fWh (fGa d w r s (s - s % w) (w - 1).toNat (zfil H 14 0 8)) 19 at' 0 q i = H q i := fun q i q14 q15 => fGa_k ⟨q14, q15⟩
  generalize fWh (fGa d w r s (s - s % w) (w - 1).toNat (zfil H 14 0 8)) 19 at' 0 = K0 at k0
  have i0 : gI d w r t L K0 := by
    refine ⟨⟨hk, h.1.2.1, h.1.2.2.1.keep (fun i => k0 1 i (by decide) (by decide)) (fun i => k0 2 i (by decide) (by decide)) (k0 3 0 (by decide) (by decide)) (k0 3 1 (by decide) (by decide)) (k0 18 1 (by decide) (by decide)), fun o i ho => ?_⟩, h.2.keep (fun i => k0 13 i (by decide) (by decide))⟩
    show K0 o i = 0 ∨ K0 o i = 1
    rw [k0 o i (by omega) (by omega)]
    exact h.1.2.2.2 o i ho
  -- the four puts
  have step : ∀ (K : zHp) (c tag wz az : Int), K 3 11 = 0 → (∀ x, K 6 x = 0) → wz ≠ 3 → fPr K c tag wz az = (1, gPut K c tag wz az) := fun K c tag wz az z3 z6 zw => by
    unfold fPr
    rw [if_neg (by omega)]
  have z30 : K0 3 11 = 0 := by rw [k0 3 11 (by decide) (by decide)]; exact f3
  have z60 : ∀ x, K0 6 x = 0 := fun x => by rw [k0 6 x (by decide) (by decide)]; exact f6 x
  obtain ⟨a1, a2, a3, a4, a5⟩ := gPut_at (H := K0) (c := gCe r (gHome d w p) r) (tag := 1 + 8 * (s / w) + s % w) (wd := 14) (at' := 0) (by omega) (z60 _) (by decide)
  rw [step K0 (gCe r (gHome d w p) r) (1 + 8 * (s / w) + s % w) 14 0 z30 z60 (by decide)]
  have i1 : gI d w r t L (gPut K0 (gCe r (gHome d w p) r) (1 + 8 * (s / w) + s % w) 14 0) := i0.put
  generalize gPut K0 (gCe r (gHome d w p) r) (1 + 8 * (s / w) + s % w) 14 0 = K1 at a1 a2 a3 a4 a5 i1
  have fy : ∀ (x : zHp) (f : zHp → Int × zHp), fAnd (1, x) f = f x := fun x f => by
    unfold fAnd
    rw [if_neg (show ¬ (1 : Int) = 0 by decide)]
  rw [fy]
  have z31 : K1 3 11 = 0 := by rw [a5 11 (by decide)]; exact z30
  have z61 : ∀ x, K1 6 x = 0 := fun x => by rw [a1 6 x (by decide) (by decide) (by decide) (by decide)]; exact z60 x
  have n13 : ∀ x, K1 13 x = H 13 x := fun x => by rw [a1 13 x (by decide) (by decide) (by decide) (by decide), k0 13 x (by decide) (by decide)]
  have ea1 : fPa d w r K1 s 19 at' = (1, gPut K1 (gCe r (gHome d w s) (s / gPo d w)) (s % gPo d w + 1) 19 at') := by
    unfold fPa gAt
    rw [if_neg (by rw [n13, e13s]; omega), n13, e13s]
    exact step _ _ _ _ _ z31 z61 (by decide)
  obtain ⟨b1, b2, b3, b4, b5⟩ := gPut_at (H := K1) (c := gCe r (gHome d w s) (s / gPo d w)) (tag := s % gPo d w + 1) (wd := 19) (at' := at') (by omega) (z61 _) (by decide)
  rw [ea1, fy]
  have i2 : gI d w r t L (gPut K1 (gCe r (gHome d w s) (s / gPo d w)) (s % gPo d w + 1) 19 at') := i1.put
  generalize gPut K1 (gCe r (gHome d w s) (s / gPo d w)) (s % gPo d w + 1) 19 at' = K2 at b1 b2 b3 b4 b5 i2
  have z32' : K2 3 11 = 0 := by rw [b5 11 (by decide)]; exact z31
  have z62 : ∀ x, K2 6 x = 0 := fun x => by rw [b1 6 x (by decide) (by decide) (by decide) (by decide)]; exact z61 x
  have n13b : ∀ x, K2 13 x = H 13 x := fun x => by rw [b1 13 x (by decide) (by decide) (by decide) (by decide), n13]
  have ea2 : fPa d w r K2 p 15 0 = (1, gPut K2 (gCe r (gHome d w p) (p / gPo d w)) (p % gPo d w + 1) 15 0) := by
    unfold fPa gAt
    rw [if_neg (by rw [n13b, e13p]; omega), n13b, e13p]
    exact step _ _ _ _ _ z32' z62 (by decide)
  obtain ⟨c1, c2, c3, c4, c5⟩ := gPut_at (H := K2) (c := gCe r (gHome d w p) (p / gPo d w)) (tag := p % gPo d w + 1) (wd := 15) (at' := 0) (by omega) (z62 _) (by decide)
  rw [ea2, fy]
  have i3 : gI d w r t L (gPut K2 (gCe r (gHome d w p) (p / gPo d w)) (p % gPo d w + 1) 15 0) := i2.put
  generalize gPut K2 (gCe r (gHome d w p) (p / gPo d w)) (p % gPo d w + 1) 15 0 = K3 at c1 c2 c3 c4 c5 i3
  have z33 : K3 3 11 = 0 := by rw [c5 11 (by decide)]; exact z32'
  have z63 : ∀ x, K3 6 x = 0 := fun x => by rw [c1 6 x (by decide) (by decide) (by decide) (by decide)]; exact z62 x
  obtain ⟨d1, d2, d3, d4, d5⟩ := gPut_at (H := K3) (c := gCe r (gHome d w p) r) (tag := 0) (wd := 11) (at' := 0) (by omega) (z63 _) (by decide)
  rw [step K3 (gCe r (gHome d w p) r) 0 11 0 z33 z63 (by decide)]
  have i4 : gI d w r t L (gPut K3 (gCe r (gHome d w p) r) 0 11 0) := i3.put
  generalize gPut K3 (gCe r (gHome d w p) r) 0 11 0 = K4 at d1 d2 d3 d4 d5 i4
  have fr : ∀ q i, q ≠ 3 → q ≠ 5 → q ≠ 7 → q ≠ 8 → q ≠ 14 → q ≠ 15 → K4 q i = H q i := fun q i q3 q5 q7 q8 q14 q15 => by
    rw [d1 q i q3 q5 q7 q8, c1 q i q3 q5 q7 q8, b1 q i q3 q5 q7 q8, a1 q i q3 q5 q7 q8, k0 q i q14 q15]
  have fr3 : ∀ i, i ≠ 10 → K4 3 i = H 3 i := fun i hi => by rw [d5 i hi, c5 i hi, b5 i hi, a5 i hi, k0 3 i (by decide) (by decide)]
  have cl : ∀ x o, 0 ≤ o → o < r → gCe r x o ≠ gCe r (gHome d w p) r := fun x o o0 o1 u => by
    have := gCe_inj hk (x := x) (x' := gHome d w p) (o := o) (o' := r) (by omega) (by omega) u
    omega
  refine hQ K4 i4 ⟨⟨by rw [fr3 11 (by decide)]; exact f3, fun c c0 c1' => ?_, fun c => by rw [fr 6 c (by decide) (by decide) (by decide) (by decide) (by decide) (by decide)]; exact f6 c, fun j => by rw [fr 9 j (by decide) (by decide) (by decide) (by decide) (by decide) (by decide)]; exact f9 j, fun x x0 x1 => by rw [fr 4 x (by decide) (by decide) (by decide) (by decide) (by decide) (by decide)]; exact f4 x x0 x1⟩, fun u u0 u1 => by rw [fr 13 u (by decide) (by decide) (by decide) (by decide) (by decide) (by decide)]; exact f13 u u0 u1, fun row pos r0 r1' q0 q1 => ?_, fun x x0 x1 => ?_⟩ (fun u i u0 u1 u2 j0 j1 => ?_) fr fr3
  · rw [d2]
    by_cases e : c = gCe r (gHome d w p) r
    · rw [if_pos e]
    · rw [if_neg e, c2]
      by_cases e2 : c = gCe r (gHome d w p) (p / gPo d w)
      · rw [if_pos e2]
      · rw [if_neg e2, b2]
        by_cases e3 : c = gCe r (gHome d w s) (s / gPo d w)
        · rw [if_pos e3]
        · rw [if_neg e3, a2, if_neg e, k0 5 c (by decide) (by decide)]
          exact f5 c c0 c1'
  · have hgx := gDk_rg (row := row) (pos := pos) hk
    have same : ∀ u, 0 ≤ u → u < r * gPo d w → gCe r (gDk d row pos) row = gCe r (gHome d w u) (u / gPo d w) → pos = u % gPo d w := fun u u0 u1 e => by
      have qu := gSp_rg hk (s := u) ⟨u0, u1⟩
      obtain ⟨e1, e2⟩ := gCe_inj hk (x := gDk d row pos) (x' := gHome d w u) (o := row) (o' := u / gPo d w) (by omega) (by omega) e
      unfold gHome at e1
      rw [← e2] at e1
      exact gDk_inj hk ⟨q0, q1⟩ (by omega) e1
    rw [d3, if_neg (cl _ row r0 r1'), c3]
    by_cases e2 : gCe r (gDk d row pos) row = gCe r (gHome d w p) (p / gPo d w)
    · have := same p hp.1 hp.2 e2
      rw [if_pos e2, if_pos (by omega), this]
    · rw [if_neg e2, b3]
      by_cases e3 : gCe r (gDk d row pos) row = gCe r (gHome d w s) (s / gPo d w)
      · have := same s hs.1 hs.2 e3
        rw [if_pos e3, if_pos (by omega), this]
      · rw [if_neg e3, a3, if_neg (cl _ row r0 r1'), k0 7 _ (by decide) (by decide)]
        exact f7 row pos r0 r1' q0 q1
  · rw [d3]
    by_cases e : gCe r x r = gCe r (gHome d w p) r
    · rw [if_pos e]
    · rw [if_neg e, c3, if_neg (fun u => by
        have := gCe_inj hk (x := x) (x' := gHome d w p) (o := r) (o' := p / gPo d w) (by omega) (by omega) u
        omega), b3, if_neg (fun u => by
        have := gCe_inj hk (x := x) (x' := gHome d w s) (o := r) (o' := s / gPo d w) (by omega) (by omega) u
        omega), a3, if_neg e, k0 7 _ (by decide) (by decide)]
      exact f7l x x0 x1
  · have qu := gSp_rg hk (s := u) ⟨u0, u1⟩
    have c8 : ∀ c', gCe r (gHome d w u) (u / gPo d w) ≠ c' → ¬ (8 * c' ≤ 8 * gCe r (gHome d w u) (u / gPo d w) + i ∧ 8 * gCe r (gHome d w u) (u / gPo d w) + i < 8 * c' + 8) := fun c' hne q => hne (by omega)
    rw [d4, if_neg (c8 _ (cl _ _ (by omega) (by omega))), c4, if_neg (c8 _ (fun e => by
      have := gHome_inj hk (s := u) (u := p) ⟨u0, u1⟩ hp e
      rw [this, hpm] at u2
      omega)), b4]
    by_cases e : u = s
    · rw [e, if_pos (by omega), hbk]
      unfold vU
      rw [if_pos rfl, a1 19 _ (by decide) (by decide) (by decide) (by decide), k0 19 _ (by decide) (by decide), show at' + (8 * gCe r (gHome d w s) (s / gPo d w) + i - 8 * gCe r (gHome d w s) (s / gPo d w)) = at' + i by omega]
    · rw [if_neg (c8 _ (fun q => e (gHome_inj hk ⟨u0, u1⟩ hs q))), a4, if_neg (c8 _ (cl _ _ (by omega) (by omega))), k0 8 _ (by decide) (by decide), hD u i u0 u1 u2 j0 j1]
      unfold vU
      rw [if_neg (fun q => e (by rw [← gSo_bk hw3 u2, q, ← hbk, gSo_bk hw3 g3]))]
