/-! rebuild, copyBack, scrub. -/
section STEP
variable {d w r : Int} {t : Nat} {L : Int → Int} {H M X : zHp} {Qr Qt : Int → zS → Prop} {C : Int → Int → Int}
theorem mPs_on {s : Int} (on : M 35 12 = 1) : mPs d w M s = M 41 (16 * (s / gPo d w) + s % gPo d w) := by
  unfold mPs mPl
  rw [if_neg (by rw [on]; decide)]
theorem r_free {row q : Int} (hk : gOK d w r) (hK : rK d r H M) (pl : ∀ s, 0 ≤ s → s < r * gPo d w → H 13 s = mPs d w M s) (hr : 0 ≤ row ∧ row < r) (hq : 0 ≤ q ∧ q < d) : gFree d w r H row q ↔ mFree d w M row q := by
  have hg := gDk_rg (row := row) (pos := q) hk
  have po := gPo_rg hk
  have w3 := hk.2.2.1
  unfold gFree mFree
  rw [hK.1 _ hg.1 hg.2]
  refine and_congr_right (fun _ => ?_)
  constructor
  · intro u
    rcases gFirst_spec (fun p => mPl d w M row p = gDk d row q) (gPo d w).toNat 0 with e | ⟨e1, e2, e3, -⟩
    · omega
    · exfalso
      have hp : 0 ≤ gFirst (fun p => mPl d w M row p = gDk d row q) 0 (gPo d w).toNat ∧ gFirst (fun p => mPl d w M row p = gDk d row q) 0 (gPo d w).toNat < gPo d w := by omega
      generalize gFirst (fun p => mPl d w M row p = gDk d row q) 0 (gPo d w).toNat = p at *
      have rg := gRow_of (row := row) hk hp
      have sr := gSpot_rg hk hr hp
      refine u (row * gPo d w + p) (by omega) (by omega) ?_
      rw [pl _ sr.1 sr.2]
      unfold mPs
      rw [rg.1, rg.2]
      exact e3
  · intro u s s0 s1 e
    rcases gFirst_spec (fun p => mPl d w M row p = gDk d row q) (gPo d w).toNat 0 with e' | ⟨e1, e2, e3, -⟩
    · have hp : 0 ≤ s - row * gPo d w ∧ s - row * gPo d w < gPo d w := by omega
      have rg := gRow_of (row := row) hk hp
      have sr := gSpot_rg hk hr hp
      have es : row * gPo d w + (s - row * gPo d w) = s := by omega
      rw [es] at rg sr
      refine e'.2 (s - row * gPo d w) hp.1 (by omega) ?_
      rw [pl s sr.1 sr.2] at e
      unfold mPs at e
      rw [rg.1, rg.2] at e
      exact e
    · omega
theorem r_spare {row : Int} (hk : gOK d w r) (hK : rK d r H M) (pl : ∀ s, 0 ≤ s → s < r * gPo d w → H 13 s = mPs d w M s) (hr : 0 ≤ row ∧ row < r) : gSpare d w r H row = mSpare d w M row := by
  have po := gPo_rg hk
  have w3 := hk.2.2.1
  have e : gFirst (gFree d w r H row) (gPo d w) (d - gPo d w).toNat = gFirst (mFree d w M row) (gPo d w) (d - gPo d w).toNat := gFirst_congr _ _ (fun i i0 i1 => r_free hk hK pl hr (by omega))
  unfold gSpare mSpare
  rw [e]
theorem r_cr {s : Int} (hk : gOK d w r) (hp : gPl d w r H) (hK : rK d r H M) (pl : ∀ s, 0 ≤ s → s < r * gPo d w → H 13 s = mPs d w M s) (hs : 0 ≤ s ∧ s < r * gPo d w) : gCr d w r H s ↔ mCr d w M s := by
  have q := gSp_rg hk hs
  have hg := gDk_rg (row := s / gPo d w) (pos := s % gPo d w) hk
  have b := hp s hs.1 hs.2
  unfold gCr mCr
  rw [r_spare hk hK pl q.1, ← pl s hs.1 hs.2, hK.1 (gHome d w s) hg.1 hg.2]
  constructor
  · intro u; exact ⟨by omega, u.2⟩
  · intro u; exact ⟨by omega, u.2⟩
theorem r_cc {s : Int} (hk : gOK d w r) (hK : rK d r H M) (hs : 0 ≤ s ∧ s < r * gPo d w) : gCc d w r H s ↔ mCc d w M s := by
  have q := gSp_rg hk hs
  have hg := gDk_rg (row := s / gPo d w) (pos := s % gPo d w) hk
  have a := (hK.2.1 (gHome d w s) (s / gPo d w) hg.1 hg.2 q.1.1 (by omega)).1
  unfold gCc mCc
  rw [hK.1 (gHome d w s) hg.1 hg.2]
  refine and_congr_right (fun u => ?_)
  constructor
  · intro v
    by_cases c : M 38 (65 * gHome d w s + s / gPo d w) = 0
    · exact c
    · exact absurd v (a.mpr ⟨u, c⟩)
  · intro v
    by_cases c : H 5 (gCe r (gHome d w s) (s / gPo d w)) = 0
    · exact c
    · exact absurd v (a.mp c).2
theorem r_spt {s : Int} (hk : gOK d w r) (hp : gPl d w r H) (hK : rK d r H M) (pl : ∀ s, 0 ≤ s → s < r * gPo d w → H 13 s = mPs d w M s) (hs : 0 ≤ s ∧ s < r * gPo d w) : gSpoilt d w r H s ↔ mSps d w M s := by
  have q := gSp_rg hk hs
  have b := hp s hs.1 hs.2
  unfold gSpoilt mSps mSpt gSound
  have e := pl s hs.1 hs.2
  unfold mPs at e
  rw [← e]
  constructor
  · intro u
    refine ⟨by omega, fun v => u.2 ⟨u.1, ?_⟩⟩
    unfold gAt
    exact (hK.val (by omega) (by omega)).mpr v
  · intro u
    refine ⟨by omega, fun v => u.2 ?_⟩
    have v2 := v.2
    unfold gAt at v2
    exact (hK.val (by omega) (by omega)).mp v2
/-- a cell becomes a spot's place, there and here -/
theorem vS.place {s x : Int} {G : zHp} (hk : gOK d w r) (h : vS d w r C H M) (hs : 0 ≤ s ∧ s < r * gPo d w) (hx : 0 ≤ x ∧ x < d) (hl : M 37 x ≠ 0) (e : ∀ q i, q ≠ 17 → G q i = H q i) (h1 : H 3 11 ≠ 1) (hB : vB d w r C (zupd (gPut G (gCe r x (s / gPo d w)) (s % gPo d w + 1) 17 0) 13 s x)) : vS d w r C (zupd (gPut G (gCe r x (s / gPo d w)) (s % gPo d w + 1) 17 0) 13 s x) (zupd (mPw M x (s / gPo d w) (s % gPo d w + 1)) 41 (16 * (s / gPo d w) + s % gPo d w) x) := by
  obtain ⟨⟨-, hL, hP⟩, hK, hR, ⟨on, nc⟩, pl⟩ := h
  have q := gSp_rg hk hs
  have po := gPo_rg hk
  have d16 := hk.2.1
  have hK0 : rK d r G M := hK.of (fun q i hq => e q i (by omega)) (fun _ _ _ => rfl)
  have hR0 : rL G M := hR.of (fun i _ => e 3 i (by decide)) (fun _ _ => rfl)
  have k1 := hK0.put (tag := s % gPo d w + 1) (wd := 17) (at' := 0) hk hx (o := s / gPo d w) (by omega) hl (by decide)
  have r1 := hR0.put (x := x) (o := s / gPo d w) (c := gCe r x (s / gPo d w)) (tag := s % gPo d w + 1) (wd := 17) (at' := 0) (by decide) (by rw [e 3 11 (by decide)]; exact h1)
  obtain ⟨g0, g5, -, g7, -⟩ := gPut_all (H := G) (c := gCe r x (s / gPo d w)) (tag := s % gPo d w + 1) (wd := 17) (at' := 0) (by decide)
  obtain ⟨m0, -, -, -, m35⟩ := mPw_all (M := M) (x := x) (o := s / gPo d w) (as := s % gPo d w + 1)
  have on' : zupd (mPw M x (s / gPo d w) (s % gPo d w + 1)) 41 (16 * (s / gPo d w) + s % gPo d w) x 35 12 = 1 := by rw [zupd_ne (by decide), m35, if_neg (by decide), if_neg (by decide)]; exact on
  refine ⟨⟨hB, fun y y0 y1 a => ?_, hP⟩, k1.of (fun q i hq => zupd_ne (by omega)) (fun q i hq => zupd_ne (by omega)), r1.of (fun i _ => zupd_ne (by decide)) (fun i _ => zupd_ne (by decide)), ⟨on', by rw [zupd_ne (by decide), m35, if_neg (by decide), if_neg (by decide)]; exact nc⟩, fun u u0 u1 => ?_⟩
  · have n : gCe r y r ≠ gCe r x (s / gPo d w) := fun c => by
      have := (gCe_inj hk (by have := hk.2.2.2.2.2.1; omega) (by omega) c).2
      omega
    rw [zupd_ne (by decide), g5, if_neg n, e 5 _ (by decide)] at a
    rw [zupd_ne (by decide), g7, if_neg n, e 7 _ (by decide)]
    exact hL y y0 y1 a
  · rw [mPs_on on']
    have qu := gSp_rg hk ⟨u0, u1⟩
    by_cases c : u = s
    · rw [c, zupd_at, zupd_at]
    · have ne : ¬ ((41 : Int) = 41 ∧ 16 * (u / gPo d w) + u % gPo d w = 16 * (s / gPo d w) + s % gPo d w) := fun z => c (by
        have z2 := z.2
        have a1 : u / gPo d w = s / gPo d w := by omega
        have a2 : u % gPo d w = s % gPo d w := by omega
        rw [← gSpot_of (s := u) hk, ← gSpot_of (s := s) hk, a1, a2])
      rw [zupd_no (fun z => c z.2), zupd_no ne, g0 13 u (by decide) (by decide) (by decide) (by decide) (by decide) (by decide), e 13 u (by decide), m0 41 _ (by decide) (by decide) (by decide) (by decide), pl u u0 u1, mPs_on on]
/-- going off behind a step that wrote nothing -/
theorem r_lost {H1 : zHp} (h : rAll d w r t L H M) (hn : rOn d w r C H1 M) (hc : rCm d w r t L H1 M) (hq : ∀ H', rAll d w r t L H' (mOff M) → (∀ q i, (35 ≤ q ∨ q < 0) → H' q i = H1 q i) → Qr 0 (t, L, H')) : zEnds 80 173 0 [(20, 0)] [] (t, L, H1) Qr Qt := by
  have hk := h.1.1.1.1.1
  refine c_goOff hc.1.1.1 (fun H' g f e1 e2 e3 => hq H' ⟨hc.keep2 g (fun q i hq => e3 q i (by omega) (by omega) (by omega)) (fun q i hq => mOff_no (by omega)), Or.inr ⟨C, _, hn.off hk f ⟨e1, e2, e3 3 10 (by decide) (by decide) (by decide)⟩ (fun q i hq => mOff_no (by omega)) ⟨mOff_12, mOff_13⟩⟩⟩ (fun q i hq => e3 q i (by omega) (by omega) (by omega)))
/-- only the words of a row change -/
theorem rOn.w17 {G : zHp} (h : rOn d w r C H M) (e : ∀ q i, q ≠ 17 → G q i = H q i) : rOn d w r C G M := h.keep (fun q i hq => e q i (by omega)) (fun _ _ _ => rfl) (fun q i hq => e q i (by omega)) (fun _ _ _ => rfl) (e 0 11 (by decide))
theorem rCm.w17 {G : zHp} (h : rCm d w r t L H M) (e : ∀ q i, q ≠ 17 → G q i = H q i) : rCm d w r t L G M := h.keep2 (h.1.1.of gW17 e) (fun q i hq => e q i (by omega)) (fun _ _ _ => rfl)
theorem rAll.ison (h : rAll d w r t L H M) (on : H 0 11 = 1) : ∃ C, rOn d w r C H M := by
  rcases h.2 with h2 | ⟨C, O, h2⟩
  · exact h2
  · have := h2.2.2.1.2
    omega
/-- the reference's left power -/
theorem rL.l (h : rL H M) : -1 ≤ M 35 13 ∧ M 35 13 ≤ 2147483647 := by
  have a := h.1
  have b := h.2.1
  omega
theorem rL.z (h : rL H M) : H 3 11 = 1 ↔ M 35 13 = 0 := by
  have a := h.1
  omega
noncomputable def mRb (d w r : Int) (M : zHp) : Int × zHp := if gFirst (mCr d w M) 0 (r * gPo d w).toNat = -1 then (0, M) else if M 35 13 = 0 then (-9, mOff M) else (1, zupd (mPw M (mSpare d w M (gFirst (mCr d w M) 0 (r * gPo d w).toNat / gPo d w)) (gFirst (mCr d w M) 0 (r * gPo d w).toNat / gPo d w) (gFirst (mCr d w M) 0 (r * gPo d w).toNat % gPo d w + 1)) 41 (16 * (gFirst (mCr d w M) 0 (r * gPo d w).toNat / gPo d w) + gFirst (mCr d w M) 0 (r * gPo d w).toNat % gPo d w) (mSpare d w M (gFirst (mCr d w M) 0 (r * gPo d w).toNat / gPo d w)))
theorem gFirst_is {P : Int → Prop} {n : Int} {s : Int} (hs : 0 ≤ s ∧ s < n) (h : P s) (hn : ∀ u, 0 ≤ u → u < s → ¬ P u) : gFirst P 0 n.toNat = s := by
  rcases gFirst_spec P n.toNat 0 with e | ⟨e1, e2, e3, e4⟩
  · exact absurd h (e.2 s hs.1 (by omega))
  · rcases Int.lt_trichotomy (gFirst P 0 n.toNat) s with c | c | c
    · exact absurd e3 (hn _ e1 c)
    · exact c
    · exact absurd h (e4 s hs.1 c)
theorem gFirst_un {P : Int → Prop} {n : Int} (hn : ∀ u, 0 ≤ u → u < n → ¬ P u) : gFirst P 0 n.toNat = -1 := by
  rcases gFirst_spec P n.toNat 0 with e | ⟨e1, e2, e3, e4⟩
  · exact e.1
  · exact absurd e3 (hn _ e1 (by omega))
theorem m_rb (h : mS d w r L M) (hl : -1 ≤ M 35 13 ∧ M 35 13 ≤ 2147483647) (hQ : Qr (mRb d w r M).1 (t, L, (mRb d w r M).2)) : zEnds 118 213 24 [(29, 35), (0, 0), (9, 0), (9, 0)] [] (t, L, M) Qr Qt := by
  refine m_rebuild h hl (fun hn => ?_) (fun s hs hc hn => ?_)
  · unfold mRb at hQ
    rw [gFirst_un hn, if_pos rfl] at hQ
    exact hQ
  · unfold mRb at hQ
    rw [gFirst_is hs hc hn, if_neg (by omega)] at hQ
    refine ⟨fun z => ?_, fun z => ?_⟩
    · rw [if_pos z] at hQ; exact hQ
    · rw [if_neg z] at hQ; exact hQ
theorem mOff_fr : fM M (mOff M) ∧ mOff M 35 0 = M 35 0 := ⟨fun q i hq => mOff_no (by omega), mOff_no (by decide)⟩
theorem mPw_fr {x o as : Int} : fM M (mPw M x o as) ∧ mPw M x o as 35 0 = M 35 0 := by
  obtain ⟨m0, -, -, -, m35⟩ := mPw_all (M := M) (x := x) (o := o) (as := as)
  exact ⟨fun q i hq => m0 q i (by omega) (by omega) (by omega) (by omega), by rw [m35, if_neg (by decide), if_neg (by decide)]⟩
theorem mRb_fr : fM M (mRb d w r M).2 ∧ (mRb d w r M).2 35 0 = M 35 0 := by
  unfold mRb
  by_cases c : gFirst (mCr d w M) 0 (r * gPo d w).toNat = -1
  · rw [if_pos c]; exact ⟨fM.rfl', rfl⟩
  · rw [if_neg c]
    by_cases z : M 35 13 = 0
    · rw [if_pos z]; exact mOff_fr
    · rw [if_neg z]
      refine ⟨fun q i hq => ?_, ?_⟩
      · dsimp only
        rw [zupd_ne (by omega)]
        exact mPw_fr.1 q i hq
      · dsimp only
        rw [zupd_ne (by decide)]
        exact mPw_fr.2
theorem gI.mv {s x c tag : Int} {G : zHp} (h : gI d w r t L G) (hs : 0 ≤ s ∧ s < r * gPo d w) (hx : 0 ≤ x ∧ x < d) : gI d w r t L (zupd (gPut G c tag 17 0) 13 s x) := by
  have g1 := h.put (c := c) (tag := tag) (wd := 17) (at' := 0)
  refine ⟨g1.1.upd (by omega) (fun u => by omega), fun u u0 u1 => ?_⟩
  by_cases c : u = s
  · rw [c, zupd_at]; omega
  · rw [zupd_no (fun y => c y.2)]; exact g1.2 u u0 u1
theorem mPw_mv {x o as j y : Int} (q i : Int) (a : ¬ (q = 35 ∧ (i = 13 ∨ i = 14))) (b : q ≠ 38) (c : q ≠ 39) (e : q ≠ 40) (f : q ≠ 41) : zupd (mPw M x o as) 41 j y q i = M q i := by
  rw [zupd_ne f]
  by_cases g : q = 35
  · rw [g, mPw_all.2.2.2.2 i, if_neg (by omega), if_neg (by omega)]
  · exact mPw_all.1 q i g b c e
/-- the volume alone has changed -/
theorem rAll.vol {K N : zHp} (hM : rAll d w r t L H M) (hn : rOn d w r C H M) (vs : vS d w r C K N) (gi : gI d w r t L K) (fr : ∀ q i, q ≠ 3 → q ≠ 5 → q ≠ 6 → q ≠ 7 → q ≠ 8 → q ≠ 9 → q ≠ 13 → q ≠ 17 → K q i = H q i) (mfr : ∀ q i, ¬ (q = 35 ∧ (i = 13 ∨ i = 14)) → q ≠ 38 → q ≠ 39 → q ≠ 40 → q ≠ 41 → N q i = M q i) : rAll d w r t L K N := by
  have f43 : N 43 = M 43 := funext (fun i => mfr 43 i (by omega) (by decide) (by decide) (by decide) (by decide))
  refine ⟨hM.1.keep2 gi (fun q i hq => fr q i (by omega) (by omega) (by omega) (by omega) (by omega) (by omega) (by omega) (by omega)) (fun q i hq => mfr q i (by omega) (by omega) (by omega) (by omega) (by omega)), Or.inl ⟨C, vs, by rw [f43]; exact hn.2.1, hn.2.2.1.keep (fun q i hq => fr q i (by omega) (by omega) (by omega) (by omega) (by omega) (by omega) (by omega) (by omega)) (fun q i hq => mfr q i (by omega) (by omega) (by omega) (by omega) (by omega)), by rw [f43]; exact hn.2.2.2.1, by rw [fr 0 11 (by decide) (by decide) (by decide) (by decide) (by decide) (by decide) (by decide) (by decide)]; exact hn.2.2.2.2⟩⟩
theorem q_rebuild (ht : 118 ≤ t) (hX : lR X H) (hz : zhR (t, L, H)) (h : rAll d w r t L H H) : cOK rP 281 161 [(20, 0)] 213 [(29, 35), (9, 0), (9, 0), (9, 0)] X t L H := by
  have hk := h.1.1.1.1.1
  refine cOK_rel (Q := fun M v H1 => H 0 11 = 1 ∧ v = (mRb d w r (zupd M 35 0 0)).1 ∧ rAll d w r t L H1 (mRb d w r (zupd M 35 0 0)).2) (TT := fun c => c = 2 ∧ H 0 11 = 0) ht hX hz h (za_c za_0) (za_m (za_9 (za_9 (za_9 za_0)))) rfl (fun M hM => ?_) (fun v H1 M hM q => ?_) (fun c q => ?_)
  · have hM1 : rAll d w r t L H (zupd M 35 0 0) := hM.up
    generalize zupd M 35 0 0 = M1 at hM1
    rcases hM1.on with ⟨on, -⟩ | ⟨off, -⟩
    · obtain ⟨C, hn⟩ := hM1.ison on
      have hg := hM1.1.1.1
      have hvS := hn.1
      obtain ⟨⟨hB, hL, hP⟩, hK, hR, ⟨onM, nc⟩, pl⟩ := hn.1
      refine v_161 (k_on on (g_rebuild hg (fun hc => v_174 ⟨fun _ => ⟨H, rfl, fC.rfl', on, ?_⟩, fun u => absurd (by decide) u⟩) (fun s hs hc hu => ?_)))
      · have e : mRb d w r M1 = (0, M1) := by
          unfold mRb
          rw [gFirst_un (fun u u0 u1 z => hc u u0 u1 ((r_cr hk hg.2 hK pl ⟨u0, u1⟩).mpr z)), if_pos rfl]
        rw [e]
        exact ⟨rfl, hM1⟩
      · have ef : gFirst (mCr d w M1) 0 (r * gPo d w).toNat = s := gFirst_is hs ((r_cr hk hg.2 hK pl hs).mp hc) (fun u u0 u1 z => hu u u0 u1 ((r_cr hk hg.2 hK pl ⟨u0, by omega⟩).mpr z))
        have qs := gSp_rg hk hs
        have es := r_spare hk hK pl qs.1
        have hrk := v_rk (at' := 0) hk hB.1.2 hB.2.2.2.2 (hP _ (gStripe hk hs).1 (gStripe hk hs).2.2.2 (by
          have := Int.mul_ediv_add_emod s w
          rw [show s - s % w = 0 + w * (s / w) by omega, Int.add_mul_emod_self_left]
          rfl)) hB.1.1 hs (fun z => z.1 hc.1) gW17
        refine ⟨fun z => v_174 ⟨fun u => absurd rfl u, fun _ => ?_⟩, fun z => v_174 ⟨fun _ => ?_, fun u => absurd (by decide) u⟩⟩
        · have e : mRb d w r M1 = (-9, mOff M1) := by
            unfold mRb
            rw [ef, if_neg (by omega), if_pos (hR.z.mp z)]
          rw [e]
          exact r_lost hM1 (hn.w17 (fun q i hq => gRk_ne hq)) (hM1.1.w17 (fun q i hq => gRk_ne hq)) (fun H' hr' e' => ⟨H', rfl, fun q i hq => by rw [e' q i hq, gRk_ne (by omega)], on, rfl, hr'⟩)
        · have e : mRb d w r M1 = (1, zupd (mPw M1 (mSpare d w M1 (s / gPo d w)) (s / gPo d w) (s % gPo d w + 1)) 41 (16 * (s / gPo d w) + s % gPo d w) (mSpare d w M1 (s / gPo d w))) := by
            unfold mRb
            rw [ef, if_neg (by omega), if_neg (fun y => z (hR.z.mpr y))]
          rw [e, ← es]
          obtain ⟨q, hq, eq, hf⟩ := gSpare_rg hk hc.2.2
          have xr : 0 ≤ gSpare d w r H (s / gPo d w) ∧ gSpare d w r H (s / gPo d w) < d := by rw [eq]; exact gDk_rg hk
          have lv : M1 37 (gSpare d w r H (s / gPo d w)) ≠ 0 := by rw [← hK.1 _ xr.1 xr.2, eq]; exact hf.1
          have hu5 : H 5 (gCe r (gHome d w s) (s / gPo d w)) = 0 := by
            by_cases c : H 5 (gCe r (gHome d w s) (s / gPo d w)) = 0
            · exact c
            · have := hB.2.1 s hs.1 hs.2 c
              rw [hc.1] at this
              have := gDk_rg (row := s / gPo d w) (pos := s % gPo d w) hk
              unfold gHome at *
              omega
          have mv := hB.move (G := gRk d w r H 17 0 s) hk hg.2 hs (Or.inr ⟨⟨q, hq, eq⟩, hc.1⟩) (fun u u0 u1 ur => by
            rw [eq]
            refine hf.2 u ?_ ?_
            · rw [← ur]; have := gSpot_of (s := u) hk; have := gSp_rg hk ⟨u0, u1⟩; omega
            · rw [← ur]; have := gSpot_of (s := u) hk; have := gSp_rg hk ⟨u0, u1⟩; omega) hu5 (fun q i hq => gRk_ne hq) (fun i i0 i1 => by have := hrk i i0 i1; rw [show 0 + i = i by omega] at this; exact this)
          have sp : vSp d w r (zupd (gPut (gRk d w r H 17 0 s) (gCe r (gSpare d w r H (s / gPo d w)) (s / gPo d w)) (s % gPo d w + 1) 17 0) 13 s (gSpare d w r H (s / gPo d w))) := fun row q a b c f v t' => by
            obtain ⟨p, p0, p1, p2⟩ := mv.2.1 row q a b c f v t'
            refine ⟨p, p0, p1, p2.resolve_right (fun z => ?_)⟩
            have := gDk_rg (row := row) (pos := q) hk
            have z2 := z.2
            rw [hc.1] at z2
            omega
          have vs := hvS.place hk hs xr lv (fun q i hq => gRk_ne hq) z (mv.1.b sp)
          have fr : ∀ q i, q ≠ 3 → q ≠ 5 → q ≠ 6 → q ≠ 7 → q ≠ 8 → q ≠ 9 → q ≠ 13 → q ≠ 17 → zupd (gPut (gRk d w r H 17 0 s) (gCe r (gSpare d w r H (s / gPo d w)) (s / gPo d w)) (s % gPo d w + 1) 17 0) 13 s (gSpare d w r H (s / gPo d w)) q i = H q i := fun q i a b c f g k l m => by rw [zupd_ne l, gPut_ne ⟨a, b, c, f, g, k⟩, gRk_ne m]
          exact ⟨_, rfl, fun q i hq => fr q i (by omega) (by omega) (by omega) (by omega) (by omega) (by omega) (by omega) (by omega), on, rfl, hM1.vol hn vs (gI.mv (hg.of gW17 (fun q i hq => gRk_ne hq)) hs xr) fr mPw_mv⟩
    · exact v_161 (v_172 ⟨fun u => absurd off u, fun _ => ⟨ht, by decide, rfl, rfl, off⟩⟩)
  · obtain ⟨on, ev, q⟩ := q
    have onM : M 35 12 = 1 := by rcases hM.on with u | u <;> omega
    have hM1 : rAll d w r t L H (zupd M 35 0 0) := hM.up
    obtain ⟨C, hn⟩ := hM1.ison on
    refine j_213 ⟨fun _ => j_213_13 (m_f0 ⟨fun _ => m_rb hM1.1.1.2.1 hn.1.2.2.1.l ⟨ev.symm, _, rfl, fun q' i hq => ?_, ?_, q⟩, fun u => absurd rfl u⟩), fun u => absurd (by show M 35 12 ≠ 0; omega) u⟩
    · rw [mRb_fr.1 q' i hq, zupd_ne (by omega)]
    · rw [mRb_fr.2, zupd_at]
  · obtain ⟨e, c⟩ := q
    have off : H 35 12 = 0 := by rcases h.on with u | u <;> omega
    exact ⟨1, by rw [e]; rfl, by decide, fun t' ht' => j_213 ⟨fun u => absurd off u, fun _ => j_213_13 (m_f1 ⟨fun u => absurd u (by decide), fun _ => rfl⟩)⟩⟩
end STEP
