/-! open: one log, there and here. -/
section OPEN2
variable {d w r : Int} {t : Nat} {L : Int → Int} {H M X : zHp} {Qr Qt : Int → zS → Prop} {C : Int → Int → Int} {O : Int → Int}
def kO (H H1 : zHp) : Prop := ∀ q i, q ≠ 3 → q ≠ 5 → q ≠ 6 → q ≠ 7 → q ≠ 8 → q ≠ 9 → q ≠ 17 → H1 q i = H q i
def kOm (M M1 : zHp) : Prop := (∀ q i, q ≠ 35 → q ≠ 38 → q ≠ 39 → q ≠ 40 → M1 q i = M q i) ∧ ∀ i, i ≠ 12 → i ≠ 13 → i ≠ 14 → i ≠ 20 → M1 35 i = M 35 i
theorem kO.rfl' : kO H H := fun _ _ _ _ _ _ _ _ _ => rfl
theorem kOm.rfl' : kOm M M := ⟨fun _ _ _ _ _ _ => rfl, fun _ _ _ _ _ => rfl⟩
theorem kO.tr {H1 H2 : zHp} (a : kO H H1) (b : kO H1 H2) : kO H H2 := fun q i a1 a2 a3 a4 a5 a6 a7 => (b q i a1 a2 a3 a4 a5 a6 a7).trans (a q i a1 a2 a3 a4 a5 a6 a7)
theorem kOm.tr {M1 M2 : zHp} (a : kOm M M1) (b : kOm M1 M2) : kOm M M2 := ⟨fun q i a1 a2 a3 a4 => (b.1 q i a1 a2 a3 a4).trans (a.1 q i a1 a2 a3 a4), fun i a1 a2 a3 a4 => (b.2 i a1 a2 a3 a4).trans (a.2 i a1 a2 a3 a4)⟩
theorem kO.put {c tag wd at' : Int} (hw : wd ≠ 3 ∧ wd ≠ 8) : kO H (gPut H c tag wd at') := fun q i a1 a2 a3 a4 a5 a6 _ => (gPut_all hw).1 q i a1 a2 a3 a4 a5 a6
theorem kOm.put {x o as : Int} : kOm M (mPw M x o as) := ⟨fun q i a1 a2 a3 a4 => mPw_all.1 q i a1 a2 a3 a4, fun i a1 a2 a3 a4 => by rw [mPw_all.2.2.2.2 i, if_neg a3, if_neg a2]⟩
theorem kOm.off : kOm M (mOff M) := ⟨fun q i a1 _ _ _ => mOff_no (by omega), fun i a1 a2 _ _ => mOff_no (by omega)⟩
theorem kOm.cut : kOm M (zupd M 35 20 0) := ⟨fun q i a1 _ _ _ => zupd_ne a1, fun i _ _ _ a4 => zupd_no (by omega)⟩
theorem kOm.s {M1 : zHp} (a : kOm M M1) (h : mS d w r L M) : mS d w r L M1 := h.of (fun i hi => a.2 i (by omega) (by omega) (by omega) (by omega)) (fun i => a.1 36 i (by decide) (by decide) (by decide) (by decide))
theorem mPw_v {x o as : Int} : (mPw M x o as) 43 = M 43 ∧ vRev (mPw M x o as) = vRev M ∧ mPw M x o as 35 12 = M 35 12 ∧ mPw M x o as 35 19 = M 35 19 ∧ mPw M x o as 35 20 = M 35 20 := by
  have a := mPw_all (M := M) (x := x) (o := o) (as := as)
  have e : ∀ i, i ≠ 13 → i ≠ 14 → mPw M x o as 35 i = M 35 i := fun i a1 a2 => by rw [a.2.2.2.2 i, if_neg a2, if_neg a1]
  exact ⟨funext (fun i => a.1 43 i (by decide) (by decide) (by decide) (by decide)), vRev_of (fun q i hq => by
    by_cases c : q = 35
    · rw [c]; exact e i (by omega) (by omega)
    · exact a.1 q i c (by omega) (by omega) (by omega)), e 12 (by decide) (by decide), e 19 (by decide) (by decide), e 20 (by decide) (by decide)⟩
theorem gSound_log {x tag wd at' u : Int} (hk : gOK d w r) (hw : wd ≠ 3 ∧ wd ≠ 8) (hu : 0 ≤ u ∧ u < r * gPo d w) (su : gSound d w r H u) : gSound d w r (gPut H (gCe r x r) tag wd at') u := by
  obtain ⟨g0, g5, g6, -⟩ := gPut_all (H := H) (c := gCe r x r) (tag := tag) (wd := wd) (at' := at') hw
  have qu := gSp_rg hk hu
  have e13 : gPut H (gCe r x r) tag wd at' 13 u = H 13 u := g0 13 u (by decide) (by decide) (by decide) (by decide) (by decide) (by decide)
  have ne : gAt d w r H u ≠ gCe r x r := fun e => by
    unfold gAt at e
    have := (gCe_inj hk (by omega) (by have := hk.2.2.2.2.2.1; omega) e).2
    omega
  exact ⟨by rw [e13]; exact su.1, by rw [gAt_of e13, g5, if_neg ne]; exact su.2.1, by rw [gAt_of e13, g6, if_neg ne]; exact su.2.2⟩
/-- a log's cell is wiped -/
theorem oS.wipe {x : Int} (hk : gOK d w r) (h : oS d w r C O H M) (sp : vSp d w r H) (hx : 0 ≤ x ∧ x < d) (lg : ∀ y, 0 ≤ y → y < d → y ≠ x → H 5 (gCe r y r) ≠ 0 → H 7 (gCe r y r) = 0) (dn : M 35 20 = 1 → H 13 (gSo w (M 35 19) - gSo w (M 35 19) % w + w - 1) = -1) (h3 : H 3 11 ≠ 1) (hl : M 37 x ≠ 0) : oS d w r C O (gPut H (gCe r x r) 0 11 0) (mPw M x r 0) ∧ vL d r (gPut H (gCe r x r) 0 11 0) := by
  obtain ⟨⟨bw, lo, ls, uq⟩, ⟨hK, hL⟩, on, pl, cut, vv, J, dp⟩ := h
  have r48 := hk.2.2.2.2.2.1
  have hw : (11 : Int) ≠ 3 ∧ (11 : Int) ≠ 8 := by decide
  obtain ⟨g0, g5, g6, g7, -⟩ := gPut_all (H := H) (c := gCe r x r) (tag := 0) (wd := 11) (at' := 0) hw
  obtain ⟨m43, mR, m12, m19, m20⟩ := mPw_v (M := M) (x := x) (o := r) (as := 0)
  have e13 : ∀ u, gPut H (gCe r x r) 0 11 0 13 u = H 13 u := fun u => g0 13 u (by decide) (by decide) (by decide) (by decide) (by decide) (by decide)
  have vb : vB d w r C (gPut H (gCe r x r) 0 11 0) := (bw.b sp).log hk hw
  have vl : vL d r (gPut H (gCe r x r) 0 11 0) := fun y y0 y1 u => by
    rw [g7]
    by_cases c : gCe r y r = gCe r x r
    · rw [if_pos c]
    · rw [if_neg c]
      rw [g5, if_neg c] at u
      exact lg y y0 y1 (fun z => c (by rw [z])) u
  refine ⟨⟨⟨vb.w hk, vl.log, Or.inl vl, vb.2.2.1.u hk⟩, ⟨hK.put hk hx (by omega) hl hw, hL.put hw h3⟩, by rw [m12]; exact on, fun s s0 s1 => ?_, ?_, by rw [m43]; exact vv, by rw [m43]; exact J, by rw [m20, m19, mR]; exact dp⟩, vl⟩
  · rw [e13, pl s s0 s1]
    exact (mPs_of on (by rw [m12]; exact on) (fun i => mPw_all.1 41 i (by decide) (by decide) (by decide) (by decide))).symm
  · rcases cut with u | ⟨u1, u2, ⟨v1, v2, v3, v4⟩, -⟩
    · exact Or.inl (by rw [m20]; exact u)
    · refine Or.inr ⟨by rw [m20]; exact u1, by rw [m19]; exact u2, ?_, vb.2.2.1⟩
      rw [m19]
      have hs := gSo_rg hk u2
      refine ⟨gSound_log hk hw hs.1 v1, fun z => ?_, ⟨v3.1, fun y y0 y1 a b => absurd (vl y y0 y1 a) b⟩, v4⟩
      rw [e13] at z
      exact absurd (dn u1) z
/-- tags tell spots apart -/
theorem gTag_inj {s u : Int} (hk : gOK d w r) (hs : 0 ≤ s ∧ s < r * gPo d w) (hu : 0 ≤ u ∧ u < r * gPo d w) (e : 1 + 8 * (s / w) + s % w = 1 + 8 * (u / w) + u % w) : s = u := by
  have a := gTag hk hs
  have b := gTag hk hu
  have c := Int.mul_ediv_add_emod s w
  have f := Int.mul_ediv_add_emod u w
  have e1 : s / w = u / w := by omega
  rw [e1] at c
  omega
/-- the words that settle a log -/
theorem o_words {x s : Int} (hA : vA d w r C H) (vt : vT d w r C x s H) (hs : 0 ≤ s ∧ s < r * gPo d w) (so : gSound d w r H s) : (∀ q i, q ≠ 17 → gAdd (gLd d w r H 17 0 s) 17 0 (gCe r x r) q i = H q i) ∧ ∀ i, 0 ≤ i → i < 8 → gAdd (gLd d w r H 17 0 s) 17 0 (gCe r x r) 17 i = zlxor (vQ w C s i) (C s i) := by
  refine ⟨fun q i hq => by rw [gAdd_ne hq, gLd_ne hq], fun i i0 i1 => ?_⟩
  unfold gAdd
  rw [if_pos ⟨rfl, by omega, by omega⟩, gLd_ne (show (8 : Int) ≠ 17 by decide), show i - 0 = i by omega, vt.1.2.2 i i0 i1]
  unfold gLd
  rw [if_pos so]
  unfold zcpy
  rw [if_pos ⟨rfl, by omega, by omega⟩, show i - 0 = i by omega, (hA s hs.1 hs.2 so.1).2 i i0 i1]
  exact zlxor_comm _ _
/-- one log -/
theorem o_log {x : Int} (gi : gI d w r t L H) (ms : mS d w r L M) (h : oS d w r C O H M) (hx : 0 ≤ x ∧ x < d) (tv : gVal H (gCe r x r)) (tg : 0 < H 7 (gCe r x r))
    (hok : ∀ C1 H1 M1, gI d w r t L H1 → mS d w r L M1 → oS d w r C1 O H1 M1 → vL d r H1 → kO H H1 → kOm M M1 → (∀ F FT : Int → zS → Prop, F 1 (t, L, M1) → zEnds 118 200 0 [(29, 35), (0, x), (9, 0), (9, 0), (9, 0), (9, 0), (9, 0), (9, 0), (9, 0)] [] (t, L, M) F FT) → Qr 1 (t, L, H1))
    (hbad : ∀ H1 M1, gI d w r t L H1 → mS d w r L M1 → oX d w r H1 M1 → kO H H1 → kOm M M1 → (∀ F FT : Int → zS → Prop, F 0 (t, L, M1) → zEnds 118 200 0 [(29, 35), (0, x), (9, 0), (9, 0), (9, 0), (9, 0), (9, 0), (9, 0), (9, 0)] [] (t, L, M) F FT) → Qr 0 (t, L, H1)) : zEnds 80 66 0 [(24, 16), (0, x), (9, 0), (9, 0)] [] (t, L, H) Qr Qt := by
  have hk := gi.1.1
  have w3 := hk.2.2.1
  have r48 := hk.2.2.2.2.2.1
  have hS := h
  obtain ⟨⟨bw, lo, ls, uq⟩, ⟨hK, hL⟩, on, pl, cut, vv, J, dp⟩ := h
  have nl : ¬ vL d r H := fun z => by
    have := z x hx.1 hx.2 tv.1
    omega
  have sp : vSp d w r H := by
    rcases ls with z | z
    · exact absurd z nl
    · exact z
  have hB := bw.b sp
  obtain ⟨x', s, hx', hs, h3, vt⟩ : ∃ x' s, (0 ≤ x' ∧ x' < d) ∧ (0 ≤ s ∧ s < r * gPo d w) ∧ s % w < w - 1 ∧ vT d w r C x' s H := by
    rcases lo with z | z
    · exact absurd z nl
    · exact z
  have ex : x' = x := by
    by_cases c : x = x'
    · exact c.symm
    · have := vt.2 x hx.1 hx.2 c tv.1
      omega
  subst ex
  have mv : mVal M x' r := (hK.val hx (by omega)).mp tv
  have live : M 37 x' ≠ 0 := ((hK.2.1 x' r hx.1 hx.2 (by omega) (Int.le_refl _)).1.mp tv.1).1
  have fil : M 38 (65 * x' + r) ≠ 0 := ((hK.2.1 x' r hx.1 hx.2 (by omega) (Int.le_refl _)).1.mp tv.1).2
  have mtag : M 39 (65 * x' + r) = 1 + 8 * (s / w) + s % w := by
    rw [← (hK.2.1 x' r hx.1 hx.2 (by omega) (Int.le_refl _)).2.1 live fil]
    exact vt.1.2.1
  have hl := rL.l hL
  have hO : mOk d w r M := fun row p r0 r1 p0 p1 => by
    have rg := gRow_of (row := row) hk ⟨p0, p1⟩
    have sr := gSpot_rg hk ⟨r0, r1⟩ ⟨p0, p1⟩
    have e := pl _ sr.1 sr.2
    unfold mPs at e
    rw [rg.1, rg.2] at e
    rw [← e]
    exact gi.2 _ sr.1 sr.2
  obtain ⟨s1, s2, s3, s4⟩ := gStripe hk hs
  have m0 := Int.emod_nonneg s (show w ≠ 0 by omega)
  have hp : 0 ≤ s - s % w + w - 1 ∧ s - s % w + w - 1 < r * gPo d w := by omega
  have rowp : (s - s % w + w - 1) / gPo d w = s / gPo d w := gRow_same hk hs (by omega) (by omega)
  have pg := gSp_rg hk hs
  have pls := pl s hs.1 hs.2
  have plp := pl _ hp.1 hp.2
  have gs := gi.2 s hs.1 hs.2
  -- a write that was cut is of that spot
  have dsp : M 35 20 = 1 → gSo w (M 35 19) = s ∧ vDeep d w r C O H s := fun u => by
    rcases cut with z | ⟨-, z2, z3, -⟩
    · rw [z.1] at u; cases u
    · have q := gSo_rg hk z2
      have e := z3.2.2.1.2 x' hx.1 hx.2 tv.1 (by omega)
      rw [vt.1.2.1] at e
      have := gTag_inj hk hs q.1 e
      rw [← this]
      rw [← this] at z3
      exact ⟨rfl, z3⟩
  have snd : gSound d w r H s ↔ ¬ mPs d w M s < 0 ∧ mVal M (mPs d w M s) (s / gPo d w) := by
    rw [← pls]
    unfold gSound
    constructor
    · rintro ⟨a, b⟩
      exact ⟨by omega, (hK.val (by omega) (by omega)).mp b⟩
    · rintro ⟨a, b⟩
      exact ⟨by omega, (hK.val (by omega) (by omega)).mpr b⟩
  refine g_settleLog gi hx hs vt.1.2.1 (fun c so => ?_) (fun nc => ?_)
  · obtain ⟨w1, w2⟩ := o_words hB.1.2 vt hs so
    generalize hG : gAdd (gLd d w r H 17 0 s) 17 0 (gCe r x' r) = G at w1 w2
    have gG : gI d w r t L G := gi.of (Or.inr (Or.inr (Or.inl rfl))) w1
    have mk := snd.mp so
    have cp : mPs d w M (s - s % w + w - 1) = x' := by rw [← plp]; exact c
    refine ⟨fun y => ?_, fun y => ?_⟩
    · have y0 : M 35 13 = 0 := (rL.z hL).mp y
      have hSG : oS d w r C O G M := by
        refine ⟨⟨bw.of (fun q i hq => w1 q i (by omega)), lo.of (fun q i hq => w1 q i (by omega)), Or.inr (sp.of (fun q i hq => w1 q i (by omega))), uq.of (fun q i hq => w1 q i (by omega))⟩, ⟨hK.of (fun q i hq => w1 q i (by omega)) (fun _ _ _ => rfl), hL.of (fun i _ => w1 3 i (by decide)) (fun _ _ => rfl)⟩, on, fun u u0 u1 => by rw [w1 13 u (by decide)]; exact pl u u0 u1, cut.of (fun q i hq => w1 q i (by omega)) (fun _ _ => rfl), vv, J, dp⟩
      exact hbad G (mOff M) gG (kOm.off.s ms) hSG.off (fun q i _ _ _ _ _ _ a7 => w1 q i a7) kOm.off (fun F FT hF => m_unlogs ms hl hO hx hs mtag (fun _ _ _ => ⟨fun _ => hF, fun z => absurd y0 z⟩) (fun z => absurd ⟨cp, mk⟩ z))
    · have y0 : M 35 13 ≠ 0 := fun z => y ((rL.z hL).mpr z)
      have hw : (17 : Int) ≠ 3 ∧ (17 : Int) ≠ 8 := by decide
      have vbG : vB d w r C G := hB.of (fun q i hq => w1 q i (by omega))
      have eat : gAt d w r G (s - s % w + w - 1) = gCe r x' (s / gPo d w) := by
        unfold gAt
        rw [w1 13 _ (by decide), c, rowp]
      have z64w : ∀ i, 0 ≤ i → i < 8 → z64 (G 17 (0 + i)) = G 17 (0 + i) := fun i i0 i1 => by
        rw [Int.zero_add, w2 i i0 i1]
        exact zlxor_64 _ _
      have vp := vbG.put (wd := 17) (at' := 0) hk gG.2 hp (by rw [w1 13 _ (by decide), c]; omega) hw z64w
      rw [eat] at vp
      generalize hC1 : vUp C (s - s % w + w - 1) (fun i => G 17 (0 + i)) = C1 at vp
      have spar : (s - s % w + w - 1) % w = w - 1 := gPar_mod w3
      have nps : s ≠ s - s % w + w - 1 := fun z => by rw [← z] at spar; omega
      have eC1 : ∀ u i, u ≠ s - s % w + w - 1 → C1 u i = C u i := fun u i hu => by rw [← hC1]; exact vUp_ne hu
      have vpP : ∀ f, 0 ≤ f → f + w ≤ r * gPo d w → f % w = 0 → vP w C1 f := by
        have fin : ∀ C0 : Int → Int → Int, vR C0 → (∀ u i, u ≠ s → C0 u i = C u i) → (∀ i, vQ w C0 s i = vQ w C s i) → (∀ f, 0 ≤ f → f + w ≤ r * gPo d w → f % w = 0 → vP w C0 f) → ∀ f, 0 ≤ f → f + w ≤ r * gPo d w → f % w = 0 → vP w C1 f := fun C0 c1 c2 c3 c4 f f0 f1 f2 => by
          refine vP_eq (vN_P (s := s) (W := C s) hk c1 (fun i _ _ => hB.1.1 s i) h3 c4 f f0 f1 f2) (fun u i i0 i1 => ?_)
          unfold vN
          by_cases up : u = s - s % w + w - 1
          · rw [up, vUp_at ⟨i0, i1⟩, ← hC1, vUp_at ⟨i0, i1⟩, Int.zero_add, w2 i i0 i1, c3]
          · rw [vUp_ne up, eC1 u i up]
            by_cases us : u = s
            · rw [us, vUp_at ⟨i0, i1⟩]
            · rw [vUp_ne us, c2 u i us]
        by_cases dp1 : M 35 20 = 1
        · obtain ⟨-, v1, v2, v3, v4⟩ := dsp dp1
          refine fin (vUp C s O) (vUp_R hB.1.1 (fun i _ _ => v3.1 i)) (fun u i hu => vUp_ne hu) (fun i => vQ_up) (fun f f0 f1 f2 => ?_)
          by_cases fs : f = s - s % w
          · exact (v4 f f0 f1 f2).2 fs
          · refine vP_up ((v4 f f0 f1 f2).1 fs) (fun z => fs ?_)
            have a := Int.mul_ediv_add_emod f w
            have b := Int.mul_ediv_add_emod s w
            have e : s / w = f / w := by
              have : s = (s - f) + w * (f / w) := by omega
              rw [this, Int.add_mul_ediv_left _ _ (by omega), Int.ediv_eq_zero_of_lt (a := s - f) (b := w) (by omega) (by omega)]
              omega
            rw [e] at b
            omega
        · rcases cut with z | z
          · exact fin C hB.1.1 (fun _ _ _ => rfl) (fun _ => rfl) z.2
          · exact absurd z.1 dp1
      obtain ⟨m43, mR, m12, m19, m20⟩ := mPw_v (M := M) (x := x') (o := s / gPo d w) (as := (s - s % w + w - 1) % gPo d w + 1)
      generalize hH1 : gPut G (gCe r x' (s / gPo d w)) ((s - s % w + w - 1) % gPo d w + 1) 17 0 = H1 at vp
      generalize hM1 : zupd (mPw M x' (s / gPo d w) ((s - s % w + w - 1) % gPo d w + 1)) 35 20 0 = M1
      have kH1 : kO H H1 := fun q i a1 a2 a3 a4 a5 a6 a7 => by rw [← hH1, (gPut_all hw).1 q i a1 a2 a3 a4 a5 a6]; exact w1 q i a7
      have kM1 : kOm M M1 := by rw [← hM1]; exact kOm.put.tr kOm.cut
      have gH1 : gI d w r t L H1 := by rw [← hH1]; exact gG.put
      have n43 : M1 43 = M 43 := by rw [← hM1, ← m43]; exact funext (fun i => zupd_ne (by decide))
      have n20 : M1 35 20 = 0 := by rw [← hM1]; exact zupd_at
      have n12 : M1 35 12 = 1 := by rw [← hM1, zupd_no (by decide), m12]; exact on
      have rk1 : rK d r H1 M1 := by
        rw [← hH1, ← hM1]
        exact (rK.put hk (hK.of (fun q i hq => w1 q i (by omega)) (fun _ _ _ => rfl)) hx (by omega) live hw).of (fun _ _ _ => rfl) (fun q i hq => zupd_ne (by omega))
      have rl1 : rL H1 M1 := by
        rw [← hH1, ← hM1]
        exact (rL.put (hL.of (fun i _ => w1 3 i (by decide)) (fun _ _ => rfl)) hw (by rw [w1 3 11 (by decide)]; exact y)).of (fun _ _ => rfl) (fun i hi => zupd_no (by omega))
      have vt1 : vT d w r C1 x' s H1 := by
        have a := (vT.put (tag := (s - s % w + w - 1) % gPo d w + 1) (wd := 17) (at' := 0) (G := G) hk (u := s - s % w + w - 1) (s := s) (x := x') (C := C) ?_ hp hw)
        · rw [eat, hH1] at a
          refine a.eq (fun i => ?_)
          rw [← hC1]
          unfold vQ
          refine gXs_congr _ _ _ (fun u u0 u1 => ?_)
          exact ⟨Iff.rfl, fun _ => vUp_ne (by omega)⟩
        · refine ⟨⟨by rw [w1 5 _ (by decide)]; exact vt.1.1, by rw [w1 7 _ (by decide)]; exact vt.1.2.1, fun i i0 i1 => by rw [w1 8 _ (by decide)]; exact vt.1.2.2 i i0 i1⟩, fun z z0 z1 z2 z3 => ?_⟩
          rw [w1 5 _ (by decide)] at z3
          rw [w1 7 _ (by decide)]
          exact vt.2 z z0 z1 z2 z3
      have oS1 : oS d w r C1 O H1 M1 := by
        refine ⟨⟨vp.1.w hk, Or.inr ⟨x', s, hx, hs, h3, vt1⟩, Or.inr vp.1.2.2.1, vp.1.2.2.1.u hk⟩, ⟨rk1, rl1⟩, n12, fun u u0 u1 => ?_, Or.inl ⟨n20, vpP⟩, ?_, by rw [n43]; exact J, fun z => by rw [n20] at z; cases z⟩
        · rw [kH1 13 u (by decide) (by decide) (by decide) (by decide) (by decide) (by decide) (by decide), pl u u0 u1]
          exact (mPs_of on n12 (fun i => kM1.1 41 i (by decide) (by decide) (by decide) (by decide))).symm
        · rw [n43, ← hC1]
          exact vv.par hk spar
      refine ⟨fun z => ?_, fun z => ?_⟩
      · have z0 : M1 35 13 = 0 := (rL.z rl1).mp z
        refine hbad H1 (mOff M1) gH1 (kOm.off.s (kM1.s ms)) oS1.off kH1 (kM1.tr kOm.off) (fun F FT hF => m_unlogs ms hl hO hx hs mtag (fun _ _ _ => ⟨fun u => absurd u y0, fun _ => ?_⟩) (fun z => absurd ⟨cp, mk⟩ z))
        rw [hM1]
        exact ⟨fun _ => hF, fun u => absurd z0 u⟩
      · have z0 : M1 35 13 ≠ 0 := fun u => z ((rL.z rl1).mpr u)
        have lv1 : M1 37 x' ≠ 0 := by rw [kM1.1 37 x' (by decide) (by decide) (by decide) (by decide)]; exact live
        obtain ⟨a1, a2⟩ := oS1.wipe hk vp.1.2.2.1 hx (fun y' y0' y1' ny a => vt1.2 y' y0' y1' ny a) (fun u => by rw [n20] at u; cases u) z lv1
        refine hok C1 _ (mPw M1 x' r 0) gH1.put (kOm.put.s (kM1.s ms)) a1 a2 (kH1.tr (kO.put (by decide))) (kM1.tr kOm.put) (fun F FT hF => m_unlogs ms hl hO hx hs mtag (fun _ _ _ => ⟨fun u => absurd u y0, fun _ => ?_⟩) (fun z => absurd ⟨cp, mk⟩ z))
        rw [hM1]
        exact ⟨fun u => absurd u z0, fun _ => hF⟩
  · have nm : ¬ (mPs d w M (s - s % w + w - 1) = x' ∧ ¬ mPs d w M s < 0 ∧ mVal M (mPs d w M s) (s / gPo d w)) := fun z => nc ⟨by rw [plp]; exact z.1, snd.mpr z.2⟩
    refine ⟨fun y => ?_, fun y => ?_⟩
    · have y0 : M 35 13 = 0 := (rL.z hL).mp y
      exact hbad H (mOff M) gi (kOm.off.s ms) hS.off kO.rfl' kOm.off (fun F FT hF => m_unlogs ms hl hO hx hs mtag (fun a b c => absurd ⟨a, b, c⟩ nm) (fun _ => ⟨fun _ => hF, fun z => absurd y0 z⟩))
    · have y0 : M 35 13 ≠ 0 := fun z => y ((rL.z hL).mpr z)
      have dn : M 35 20 = 1 → H 13 (gSo w (M 35 19) - gSo w (M 35 19) % w + w - 1) = -1 := fun u => by
        obtain ⟨e, v1, v2, v3, v4⟩ := dsp u
        rw [e]
        apply Classical.byContradiction
        intro z
        obtain ⟨a1, a2⟩ := v2 z
        have gp := gi.2 _ hp.1 hp.2
        have tgp := gTag hk hs
        have : H 13 (s - s % w + w - 1) = x' := by
          by_cases c : H 13 (s - s % w + w - 1) = x'
          · exact c
          · have := vt.2 _ (by omega) (by omega) c a1
            omega
        exact nc ⟨this, v1⟩
      obtain ⟨a1, a2⟩ := hS.wipe hk sp hx (fun y' y0' y1' ny a => vt.2 y' y0' y1' ny a) dn y live
      exact hok C _ (mPw M x' r 0) gi.put (kOm.put.s ms) a1 a2 (kO.put (by decide)) kOm.put (fun F FT hF => m_unlogs ms hl hO hx hs mtag (fun a b c => absurd ⟨a, b, c⟩ nm) (fun _ => ⟨fun u => absurd u y0, fun _ => hF⟩))
end OPEN2
