/-! Writing a block: the theorem. -/
theorem mOff_12 {M : zHp} : mOff M 35 12 = 0 := by unfold mOff; rw [zupd_no (by decide), zupd_at]
theorem mOff_13 {M : zHp} : mOff M 35 13 = -1 := by unfold mOff; rw [zupd_at]
theorem mOff_no {M : zHp} {q i : Int} (h : ¬ (q = 35 ∧ (i = 12 ∨ i = 13))) : mOff M q i = M q i := by
  unfold mOff
  rw [zupd_no (fun u => h ⟨u.1, Or.inr u.2⟩), zupd_no (fun u => h ⟨u.1, Or.inl u.2⟩)]
theorem rK.off {d r : Int} {H M : zHp} (h : rK d r H M) : rK d r H (mOff M) := h.of (fun _ _ _ => rfl) (fun q i hq => mOff_no (by omega))
theorem vA.live {d w r s : Int} {C : Int → Int → Int} {H M : zHp} (hk : gOK d w r) (hp : gPl d w r H) (hA : vA d w r C H) (hK : rK d r H M) (hs : 0 ≤ s ∧ s < r * gPo d w) (ps : H 13 s ≠ -1) : (0 ≤ H 13 s ∧ H 13 s < d) ∧ M 37 (H 13 s) ≠ 0 := by
  have q := gSp_rg hk hs
  have pl := hp s hs.1 hs.2
  refine ⟨by omega, ?_⟩
  have a := (hA s hs.1 hs.2 ps).1.1
  exact ((hK.2.1 (H 13 s) (s / gPo d w) (by omega) (by omega) (by omega) (by omega)).1.mp a).1
/-- power goes ahead of the first put -/
theorem vX.first {d w r : Int} {C : Int → Int → Int} {O : Int → Int} {H M : zHp} (hB : vB d w r C H) (hG : vLog d w r C H) (hP : ∀ f, 0 ≤ f → f + w ≤ r * gPo d w → f % w = 0 → vP w C f) (hK : rK d r H M) (hR : rL H M) (nc : M 35 20 = 0) : vX d w r C O H (mOff M) := ⟨⟨hB, hG⟩, hK.off, by rw [mOff_no (by decide)]; exact hR.2.2, ⟨mOff_12, mOff_13⟩, Or.inl ⟨by rw [mOff_no (by decide)]; exact nc, hP⟩⟩
theorem mBc_43 {M M' : zHp} {b wm fr : Int} (e : ∀ q i, q ≠ 35 → q ≠ 38 → q ≠ 39 → q ≠ 40 → M' q i = M q i) (hm : wm ≠ 35 ∧ wm ≠ 38 ∧ wm ≠ 39 ∧ wm ≠ 40) (q j : Int) (hq : q = 43 ∨ q = 44) : mBc M' b wm fr q j = mBc M b wm fr q j := by
  unfold mBc
  rw [e 43 _ (by decide) (by decide) (by decide) (by decide), e wm _ hm.1 hm.2.1 hm.2.2.1 hm.2.2.2, e q j (by omega) (by omega) (by omega) (by omega)]
theorem vT.eq {d w r x s : Int} {C C' : Int → Int → Int} {G : zHp} (h : vT d w r C x s G) (e : ∀ i, vQ w C' s i = vQ w C s i) : vT d w r C' x s G := ⟨⟨h.1.1, h.1.2.1, fun i i0 i1 => by rw [h.1.2.2 i i0 i1, ← e i]⟩, h.2⟩
theorem vT.log {d w r x s : Int} {C C' : Int → Int → Int} {G : zHp} (h : vT d w r C x s G) (hx : 0 ≤ x ∧ x < d) (hs : 0 ≤ s ∧ s < r * gPo d w) (h3 : s % w < w - 1) (e : ∀ i, vQ w C' s i = vQ w C s i) : vLog d w r C' G := Or.inr ⟨x, s, hx, hs, h3, h.eq e⟩
theorem vT.put {d w r x s u tag wd at' : Int} {C : Int → Int → Int} {G : zHp} (hk : gOK d w r) (h : vT d w r C x s G) (hu : 0 ≤ u ∧ u < r * gPo d w) (hw : wd ≠ 3 ∧ wd ≠ 8) : vT d w r C x s (gPut G (gAt d w r G u) tag wd at') := by
  obtain ⟨-, g5, -, g7, g8, -⟩ := gPut_all (H := G) (c := gAt d w r G u) (tag := tag) (wd := wd) (at' := at') hw
  have qu := gSp_rg hk hu
  have ne : ∀ y, gCe r y r ≠ gAt d w r G u := fun y e => by
    unfold gAt at e
    have := (gCe_inj hk (by have := hk.2.2.2.2.2.1; omega) (by omega) e).2
    omega
  refine ⟨⟨by rw [g5, if_neg (ne x)]; exact h.1.1, by rw [g7, if_neg (ne x)]; exact h.1.2.1, fun i i0 i1 => ?_⟩, fun y y0 y1 c a => ?_⟩
  · rw [g8, if_neg (by have := ne x; omega)]
    exact h.1.2.2 i i0 i1
  · rw [g5, if_neg (ne y)] at a
    rw [g7, if_neg (ne y)]
    exact h.2 y y0 y1 c a
theorem vQ_up {w s i : Int} {C : Int → Int → Int} {W : Int → Int} : vQ w (vUp C s W) s i = vQ w C s i := gXs_congr _ _ _ (fun u _ _ => ⟨Iff.rfl, fun q => vUp_ne q⟩)
theorem vQ_N {w s i : Int} {C : Int → Int → Int} {W : Int → Int} (w3 : 3 ≤ w) : vQ w (vN w C s W) s i = vQ w C s i := gXs_congr _ _ _ (fun u u0 u1 => ⟨Iff.rfl, fun q => by
  show vN w C s W u i = C u i
  unfold vN
  rw [vUp_ne (by omega), vUp_ne q]⟩)
theorem vP_up {w f s : Int} {C : Int → Int → Int} {W : Int → Int} (h : vP w C f) (hs : ¬ (f ≤ s ∧ s < f + w)) : vP w (vUp C s W) f := fun i i0 i1 => by
  refine Eq.trans ?_ (h i i0 i1)
  exact gXs_congr _ _ _ (fun u u0 u1 => ⟨Iff.rfl, fun _ => vUp_ne (by omega)⟩)
theorem vP_eq {w f : Int} {C C' : Int → Int → Int} (h : vP w C f) (e : ∀ u i, 0 ≤ i → i < 8 → C' u i = C u i) : vP w C' f := fun i i0 i1 => by
  refine Eq.trans ?_ (h i i0 i1)
  exact gXs_congr _ _ _ (fun u u0 u1 => ⟨Iff.rfl, fun _ => e u i i0 i1⟩)
theorem fAnd_1 (x : zHp) (f : zHp → Int × zHp) : fAnd (1, x) f = f x := by
  unfold fAnd
  rw [if_neg (show ¬ (1 : Int) = 0 by decide)]
theorem fAnd_0 (x : zHp) (f : zHp → Int × zHp) : fAnd (0, x) f = (0, x) := by
  unfold fAnd
  rw [if_pos (show (0 : Int) = 0 from rfl)]
theorem v_store {d w r b wd at' wm fr : Int} {t : Nat} {L : Int → Int} {C : Int → Int → Int} {H M : zHp} (hi : gI d w r t L H) (hS : vS d w r C H M) (hb : 0 ≤ b ∧ b < r * gGr d w * (w - 1)) (hw : wd = 19 ∨ wd = 31 ∨ wd = 32) (hW : ∀ i, 0 ≤ i → i < 8 → z64 (H wd (at' + i)) = H wd (at' + i)) (hm : wm ≠ 35 ∧ wm ≠ 38 ∧ wm ≠ 39 ∧ wm ≠ 40) :
    (((fSt d w r H (gSo w b) wd at').1 = 1 ∧ (mWr d w r M b (gSo w b) (gSo w b - gSo w b % w + w - 1) wm fr).1 = 1 ∧ vS d w r (vN w C (gSo w b) (fun i => H wd (at' + i))) (fSt d w r H (gSo w b) wd at').2 (mWr d w r M b (gSo w b) (gSo w b - gSo w b % w + w - 1) wm fr).2 ∧ ∀ j, (mWr d w r M b (gSo w b) (gSo w b - gSo w b % w + w - 1) wm fr).2 43 j = mBc M b wm fr 43 j) ∨
     ((fSt d w r H (gSo w b) wd at').1 = 0 ∧ (mWr d w r M b (gSo w b) (gSo w b - gSo w b % w + w - 1) wm fr).1 = 0 ∧ ∃ C', vX d w r C' (C (gSo w b)) (fSt d w r H (gSo w b) wd at').2 (mWr d w r M b (gSo w b) (gSo w b - gSo w b % w + w - 1) wm fr).2 ∧
      ((C' = C ∧ (mWr d w r M b (gSo w b) (gSo w b - gSo w b % w + w - 1) wm fr).2 35 20 = 0 ∧ ∀ j, (mWr d w r M b (gSo w b) (gSo w b - gSo w b % w + w - 1) wm fr).2 43 j = M 43 j) ∨
       (C' = vUp C (gSo w b) (fun i => H wd (at' + i)) ∧ ((mWr d w r M b (gSo w b) (gSo w b - gSo w b % w + w - 1) wm fr).2 35 20 = 1 ∧ (mWr d w r M b (gSo w b) (gSo w b - gSo w b % w + w - 1) wm fr).2 35 19 = b) ∧ ∀ q j, (q = 43 ∨ q = 44) → (mWr d w r M b (gSo w b) (gSo w b - gSo w b % w + w - 1) wm fr).2 q j = mBc M b wm fr q j) ∨
       (C' = vN w C (gSo w b) (fun i => H wd (at' + i)) ∧ (mWr d w r M b (gSo w b) (gSo w b - gSo w b % w + w - 1) wm fr).2 35 20 = 0 ∧ ∀ j, (mWr d w r M b (gSo w b) (gSo w b - gSo w b % w + w - 1) wm fr).2 43 j = mBc M b wm fr 43 j)))) ∧
    kSt H (fSt d w r H (gSo w b) wd at').2 ∧ kMw M (mWr d w r M b (gSo w b) (gSo w b - gSo w b % w + w - 1) wm fr).2 ∧ gI d w r t L (fSt d w r H (gSo w b) wd at').2 := by
  obtain ⟨⟨hB, hL, hP⟩, hK, hR, ⟨on, nc⟩, pl⟩ := hS
  have hk := hi.1.1
  have hpl := hi.2
  have w3 := hk.2.2.1
  have r48 := hk.2.2.2.2.2.1
  have po := gPo_rg hk
  obtain ⟨hs, -, -, g3, -⟩ := gSo_rg hk hb
  generalize hse : gSo w b = s at hs g3
  obtain ⟨s1, s2, s3, s4⟩ := gStripe hk hs
  have m0 := Int.emod_nonneg s (show w ≠ 0 by omega)
  have hp : 0 ≤ s - s % w + w - 1 ∧ s - s % w + w - 1 < r * gPo d w := by omega
  have rowp : (s - s % w + w - 1) / gPo d w = s / gPo d w := gRow_same hk hs (by omega) (by omega)
  have sm : (s - s % w) % w = 0 := by
    rw [show s - s % w = 0 + w * (s / w) by have := Int.mul_ediv_add_emod s w; omega, Int.add_mul_emod_self_left]
    rfl
  have strp : (s - s % w + w - 1) / w = s / w := by rw [(gStr w3 sm (o := s - s % w + w - 1) (by omega)).1, (gStr w3 sm (o := s) (by omega)).1]
  have pm : (s - s % w + w - 1) % w = w - 1 := by rw [(gStr w3 sm (o := s - s % w + w - 1) (by omega)).2]; omega
  have sp : s ≠ s - s % w + w - 1 := fun e => by rw [← e] at pm; omega
  have Pf := hP (s - s % w) s1 s4 sm
  have qs := gSp_rg hk hs
  have qp := gSp_rg hk hp
  have hw1 : wd ≠ 3 ∧ wd ≠ 8 := by omega
  have hw2 : wd ≠ 14 ∧ wd ≠ 15 := by omega
  obtain ⟨k0, k14, k15⟩ := v_gath (wd := wd) (at' := at') hk hB hs Pf hw2
  have es : mPs d w M s = H 13 s := (pl s hs.1 hs.2).symm
  have ep : mPs d w M (s - s % w + w - 1) = H 13 (s - s % w + w - 1) := (pl _ hp.1 hp.2).symm
  have NP := vN_P (s := s) (W := fun i => H wd (at' + i)) hk hB.1.1 hW g3 hP
  have on' : ∀ M' : zHp, kMw M M' → M' 35 12 = 1 → ∀ u, mPs d w M' u = mPs d w M u := fun M' k o u => mPs_of on o (fun i => k.1 41 i (by decide) (by decide) (by decide) (by decide) (by decide) (by decide))
  unfold fSt mWr
  rw [es, ep]
  generalize hpe : s - s % w + w - 1 = p at *
  by_cases cp : H 13 p = -1
  · -- the parity is lost
    have ss : gSound d w r H s := (hB.2.2.2.2 s p hs.1 hs.2 hp.1 hp.2 strp.symm sp).resolve_right (fun u => u.1 cp)
    have ps := ss.1
    obtain ⟨xs, ls⟩ := hB.1.2.live hk hpl hK hs ps
    rw [if_pos cp, if_pos (Or.inr (by omega)), if_neg (by omega), if_neg (by omega)]
    unfold fPa
    rw [if_neg ps]
    rcases st_put (tag := s % gPo d w + 1) (wd := wd) (at' := at') hk hK hR xs (o := s / gPo d w) (by omega) ls hw1 with ⟨e1, e2⟩ | ⟨e1, e2, e3, e4⟩
    · have e1 : fPr H (gAt d w r H s) (s % gPo d w + 1) wd at' = (0, H) := e1
      rw [e1, e2, fAnd_0]
      exact ⟨Or.inr ⟨rfl, rfl, C, vX.first hB hL.log hP hK hR nc, Or.inl ⟨rfl, by show mOff M 35 20 = 0; rw [mOff_no (by decide)]; exact nc, fun j => mOff_no (M := M) (q := 43) (i := j) (by omega)⟩⟩, kSt.rfl', kMw.rfl'.off, hi⟩
    · have e1 : fPr H (gAt d w r H s) (s % gPo d w + 1) wd at' = (1, gPut H (gAt d w r H s) (s % gPo d w + 1) wd at') := e1
      rw [e1, e2, fAnd_1]
      have km : kMw M (mBc (mPw M (H 13 s) (s / gPo d w) (s % gPo d w + 1)) b wm fr) := kMw.rfl'.put.bc
      obtain ⟨m0', -, -, -, m35⟩ := mPw_all (M := M) (x := H 13 s) (o := s / gPo d w) (as := s % gPo d w + 1)
      have k := (hB.put hk hpl hs ps hw1 hW).1
      have g13 : ∀ u, gPut H (gAt d w r H s) (s % gPo d w + 1) wd at' 13 u = H 13 u := fun u => gPut_ne (by decide)
      have o2 : mBc (mPw M (H 13 s) (s / gPo d w) (s % gPo d w + 1)) b wm fr 35 12 = 1 := by rw [mBc_ne (by decide), m35, if_neg (by decide), if_neg (by decide)]; exact on
      have o20 : mBc (mPw M (H 13 s) (s / gPo d w) (s % gPo d w + 1)) b wm fr 35 20 = 0 := by rw [mBc_ne (by decide), m35, if_neg (by decide), if_neg (by decide)]; exact nc
      refine ⟨Or.inl ⟨rfl, rfl, ⟨⟨?_, hL.put hk hs hw1, ?_⟩, e3.of (fun _ _ _ => rfl) (fun q i hq => mBc_ne (by omega)), e4.of (fun _ _ => rfl) (fun i _ => mBc_ne (b := b) (wd := wm) (fr := fr) (q := 35) (by decide)), ⟨o2, o20⟩, fun u u0 u1 => ?_⟩, fun j => mBc_43 m0' hm 43 j (Or.inl rfl)⟩, kSt.rfl'.put hw1, km, hi.put⟩
      · unfold vN
        rw [hpe]
        exact k.other (by rw [g13]; exact cp) (fun i _ _ => zlxor_64 _ _)
      · exact NP
      · show gPut H (gAt d w r H s) (s % gPo d w + 1) wd at' 13 u = _
        rw [g13, pl u u0 u1]
        exact (on' _ km o2 u).symm
  · rw [if_neg cp]
    obtain ⟨xp, lp⟩ := hB.1.2.live hk hpl hK hp cp
    have hB0 : vB d w r C (fWh (fGa d w r s (s - s % w) (w - 1).toNat (zfil H 14 0 8)) wd at' 0) := hB.of (fun q i hq => k0 q i (by omega) (by omega))
    have hK0 : rK d r (fWh (fGa d w r s (s - s % w) (w - 1).toNat (zfil H 14 0 8)) wd at' 0) M := hK.of (fun q i hq => k0 q i (by omega) (by omega)) (fun _ _ _ => rfl)
    have hR0 : rL (fWh (fGa d w r s (s - s % w) (w - 1).toNat (zfil H 14 0 8)) wd at' 0) M := hR.of (fun i _ => k0 3 i (by decide) (by decide)) (fun _ _ => rfl)
    have hi0 : gI d w r t L (fWh (fGa d w r s (s - s % w) (w - 1).toNat (zfil H 14 0 8)) wd at' 0) := hi.keep (fun q i hq => k0 q i (by omega) (by omega)) (fun q i hq => by rw [k0 q i (by omega) (by omega)]; exact hi.1.2.2.2 q i (by omega))
    have ks0 : kSt H (fWh (fGa d w r s (s - s % w) (w - 1).toNat (zfil H 14 0 8)) wd at' 0) := ⟨fun q i a b c e f g k l => k0 q i k l, fun i _ _ => k0 3 i (by decide) (by decide)⟩
    have hL0 : vL d r (fWh (fGa d w r s (s - s % w) (w - 1).toNat (zfil H 14 0 8)) wd at' 0) := fun x x0 x1 a => by
      rw [k0 5 _ (by decide) (by decide)] at a
      rw [k0 7 _ (by decide) (by decide)]
      exact hL x x0 x1 a
    generalize fWh (fGa d w r s (s - s % w) (w - 1).toNat (zfil H 14 0 8)) wd at' 0 = K at k0 k14 k15 hB0 hK0 hR0 hi0 ks0 hL0
    have k13 : ∀ u, K 13 u = H 13 u := fun u => k0 13 u (by decide) (by decide)
    have kat : ∀ u, gAt d w r K u = gCe r (H 13 u) (u / gPo d w) := fun u => by unfold gAt; rw [k13]
    have k15z : ∀ i, 0 ≤ i → i < 8 → z64 (K 15 (0 + i)) = K 15 (0 + i) := fun i i0 i1 => by rw [show 0 + i = i by omega, k15 i i0 i1]; exact zlxor_64 _ _
    have eW' : vUp C p (fun i => K 15 (0 + i)) = vUp C p (fun i => zlxor (vQ w C s i) (H wd (at' + i))) := by
      funext u i
      unfold vUp
      by_cases c : u = p
      · rw [if_pos c, if_pos c]
        by_cases e : 0 ≤ i ∧ i < 8
        · rw [if_pos e, if_pos e]
          show K 15 (0 + i) = zlxor (vQ w C s i) (H wd (at' + i))
          rw [show 0 + i = i by omega, k15 i e.1 e.2]
        · rw [if_neg e, if_neg e]
      · rw [if_neg c, if_neg c]
    by_cases cs : H 13 s = -1
    · -- the data is lost
      rw [if_pos cs, if_pos (Or.inl (by omega)), if_pos (by omega), if_pos (by omega)]
      unfold fPa
      rw [k13, if_neg cp, kat, rowp]
      rcases st_put (tag := p % gPo d w + 1) (wd := 15) (at' := 0) hk hK0 hR0 xp (o := s / gPo d w) (by omega) lp (by decide) with ⟨e1, e2⟩ | ⟨e1, e2, e3, e4⟩
      · rw [e1, e2, fAnd_0]
        exact ⟨Or.inr ⟨rfl, rfl, C, vX.first hB0 hL0.log hP hK0 hR0 nc, Or.inl ⟨rfl, by show mOff M 35 20 = 0; rw [mOff_no (by decide)]; exact nc, fun j => mOff_no (M := M) (q := 43) (i := j) (by omega)⟩⟩, ks0, kMw.rfl'.off, hi0⟩
      · rw [e1, e2, fAnd_1]
        have km : kMw M (mBc (mPw M (H 13 p) (s / gPo d w) (p % gPo d w + 1)) b wm fr) := kMw.rfl'.put.bc
        obtain ⟨m0', -, -, -, m35⟩ := mPw_all (M := M) (x := H 13 p) (o := s / gPo d w) (as := p % gPo d w + 1)
        have k := (hB0.put hk hi0.2 hp (by rw [k13]; exact cp) (wd := 15) (at' := 0) (by decide) k15z).1
        have kL := hL0.put (s := p) (tag := p % gPo d w + 1) (wd := 15) (at' := 0) hk hp (by decide)
        rw [kat, rowp] at k kL
        have g13 : ∀ u, gPut K (gCe r (H 13 p) (s / gPo d w)) (p % gPo d w + 1) 15 0 13 u = H 13 u := fun u => by rw [gPut_ne (by decide)]; exact k13 u
        have o2 : mBc (mPw M (H 13 p) (s / gPo d w) (p % gPo d w + 1)) b wm fr 35 12 = 1 := by rw [mBc_ne (by decide), m35, if_neg (by decide), if_neg (by decide)]; exact on
        have o20 : mBc (mPw M (H 13 p) (s / gPo d w) (p % gPo d w + 1)) b wm fr 35 20 = 0 := by rw [mBc_ne (by decide), m35, if_neg (by decide), if_neg (by decide)]; exact nc
        refine ⟨Or.inl ⟨rfl, rfl, ⟨⟨?_, kL, NP⟩, e3.of (fun _ _ _ => rfl) (fun q i hq => mBc_ne (by omega)), e4.of (fun _ _ => rfl) (fun i _ => mBc_ne (b := b) (wd := wm) (fr := fr) (q := 35) (by decide)), ⟨o2, o20⟩, fun u u0 u1 => ?_⟩, fun j => mBc_43 m0' hm 43 j (Or.inl rfl)⟩, ks0.put (by decide), km, hi0.put⟩
        · rw [eW'] at k
          have k2 := k.other (s := s) (W := fun i => H wd (at' + i)) (by rw [g13]; exact cs) hW
          rw [vUp_comm sp] at k2
          unfold vN
          rw [hpe]
          exact k2
        · show gPut K (gCe r (H 13 p) (s / gPo d w)) (p % gPo d w + 1) 15 0 13 u = _
          rw [g13, pl u u0 u1]
          exact (on' _ km o2 u).symm
    · -- both have their places
      obtain ⟨xs, ls⟩ := hB.1.2.live hk hpl hK hs cs
      rw [if_neg cs, if_neg (by omega)]
      have T0 : 1 + 8 * (s / w) + s % w ≠ 0 := by
        have := Int.ediv_nonneg hs.1 (show 0 ≤ w by omega)
        omega
      rcases st_put (tag := 1 + 8 * (s / w) + s % w) (wd := 14) (at' := 0) hk hK0 hR0 xp (o := r) (by omega) lp (by decide) with ⟨e1, e2⟩ | ⟨e1, e2, e3, e4⟩
      · -- power goes at the log
        have x1 : fAnd (fPr K (gCe r (H 13 p) r) (1 + 8 * (s / w) + s % w) 14 0) (fun H3 => fAnd (fPa d w r H3 s wd at') (fun H4 => fAnd (fPa d w r H4 p 15 0) (fun H5 => fPr H5 (gCe r (H 13 p) r) 0 11 0))) = (0, K) := by
          unfold fAnd
          rw [e1, if_pos rfl]
        have y1 : fAnd (mPt M (H 13 p) r (1 + 8 * (s / w) + s % w)) (fun M1 => fAnd (mPt M1 (H 13 s) (s / gPo d w) (s % gPo d w + 1)) (fun M2 => fAnd (mPt (zupd (zupd (mBc M2 b wm fr) 35 19 b) 35 20 1) (H 13 p) (s / gPo d w) (p % gPo d w + 1)) (fun M4 => mPt (zupd M4 35 20 0) (H 13 p) r 0))) = (0, mOff M) := by
          unfold fAnd
          rw [e2, if_pos rfl]
        rw [x1, y1]
        exact ⟨Or.inr ⟨rfl, rfl, C, vX.first hB0 hL0.log hP hK0 hR0 nc, Or.inl ⟨rfl, by show mOff M 35 20 = 0; rw [mOff_no (by decide)]; exact nc, fun j => mOff_no (M := M) (q := 43) (i := j) (by omega)⟩⟩, ks0, kMw.rfl'.off, hi0⟩
      have an : ∀ (x : zHp) (f : zHp → Int × zHp), fAnd (1, x) f = f x := fun x f => by
        unfold fAnd
        rw [if_neg (show ¬ (1 : Int) = 0 by decide)]
      have az : ∀ (x : zHp) (f : zHp → Int × zHp), fAnd (0, x) f = (0, x) := fun x f => by
        unfold fAnd
        rw [if_pos (show (0 : Int) = 0 from rfl)]
      rw [e1, e2, an, an]
      have hB1 := hB0.log (x := H 13 p) (tag := 1 + 8 * (s / w) + s % w) (wd := 14) (at' := 0) hk (by decide)
      have hT1 : vT d w r C (H 13 p) s (gPut K (gCe r (H 13 p) r) (1 + 8 * (s / w) + s % w) 14 0) := by
        obtain ⟨-, g5, -, g7, g8, -⟩ := gPut_all (H := K) (c := gCe r (H 13 p) r) (tag := 1 + 8 * (s / w) + s % w) (wd := 14) (at' := 0) (by decide)
        refine ⟨⟨by rw [g5, if_pos rfl]; decide, by rw [g7, if_pos rfl], fun i i0 i1 => ?_⟩, fun y y0 y1 c a => ?_⟩
        · rw [g8, if_pos (by omega), show 0 + (8 * gCe r (H 13 p) r + i - 8 * gCe r (H 13 p) r) = i by omega]
          exact k14 i i0 i1
        · have ne : gCe r y r ≠ gCe r (H 13 p) r := fun e => c (gCe_inj hk (by omega) (by omega) e).1
          rw [g5, if_neg ne] at a
          rw [g7, if_neg ne]
          exact hL0 y y0 y1 a
      have hi1 : gI d w r t L (gPut K (gCe r (H 13 p) r) (1 + 8 * (s / w) + s % w) 14 0) := hi0.put
      have ks1 : kSt H (gPut K (gCe r (H 13 p) r) (1 + 8 * (s / w) + s % w) 14 0) := ks0.put (by decide)
      have k1 : ∀ q i, q ≠ 3 → q ≠ 5 → q ≠ 6 → q ≠ 7 → q ≠ 8 → q ≠ 9 → gPut K (gCe r (H 13 p) r) (1 + 8 * (s / w) + s % w) 14 0 q i = K q i := fun q i a b' c e f g => gPut_ne ⟨a, b', c, e, f, g⟩
      have km1 : kMw M (mPw M (H 13 p) r (1 + 8 * (s / w) + s % w)) := kMw.rfl'.put
      obtain ⟨mm1, -, -, -, mm1'⟩ := mPw_all (M := M) (x := H 13 p) (o := r) (as := 1 + 8 * (s / w) + s % w)
      have on1 : mPw M (H 13 p) r (1 + 8 * (s / w) + s % w) 35 12 = 1 := by rw [mm1', if_neg (by decide), if_neg (by decide)]; exact on
      have nc1 : mPw M (H 13 p) r (1 + 8 * (s / w) + s % w) 35 20 = 0 := by rw [mm1', if_neg (by decide), if_neg (by decide)]; exact nc
      have lv1 : ∀ x, mPw M (H 13 p) r (1 + 8 * (s / w) + s % w) 37 x = M 37 x := fun x => mm1 37 x (by decide) (by decide) (by decide) (by decide)
      generalize gPut K (gCe r (H 13 p) r) (1 + 8 * (s / w) + s % w) 14 0 = K1 at e3 e4 hB1 hT1 hi1 ks1 k1
      generalize mPw M (H 13 p) r (1 + 8 * (s / w) + s % w) = M1 at e3 e4 km1 mm1 on1 nc1 lv1
      have k113 : ∀ u, K1 13 u = H 13 u := fun u => by rw [k1 13 u (by decide) (by decide) (by decide) (by decide) (by decide) (by decide)]; exact k13 u
      have k1w : ∀ i, K1 wd i = H wd i := fun i => by rw [k1 wd i (by omega) (by omega) (by omega) (by omega) (by omega) (by omega)]; exact k0 wd i hw2.1 hw2.2
      have at1 : gAt d w r K1 s = gCe r (H 13 s) (s / gPo d w) := by unfold gAt; rw [k113]
      have pa1 : fPa d w r K1 s wd at' = fPr K1 (gCe r (H 13 s) (s / gPo d w)) (s % gPo d w + 1) wd at' := by unfold fPa; rw [k113, if_neg cs, at1]
      rw [pa1]
      rcases st_put (tag := s % gPo d w + 1) (wd := wd) (at' := at') hk e3 e4 xs (o := s / gPo d w) (by omega) (by rw [lv1]; exact ls) hw1 with ⟨f1, f2⟩ | ⟨f1, f2, f3, f4⟩
      · -- power goes at the data
        rw [f1, f2, az, az]
        exact ⟨Or.inr ⟨rfl, rfl, C, vX.first hB1 (hT1.log xp hs g3 (fun _ => rfl)) hP e3 e4 nc1, Or.inl ⟨rfl, by show mOff M1 35 20 = 0; rw [mOff_no (by decide)]; exact nc1, fun j => by show mOff M1 43 j = M 43 j; rw [mOff_no (by omega)]; exact mm1 43 j (by decide) (by decide) (by decide) (by decide)⟩⟩, ks1, km1.off, hi1⟩
      rw [f1, f2, an, an]
      have W1 : (fun i => K1 wd (at' + i)) = (fun i => H wd (at' + i)) := by funext i; rw [k1w]
      have hB2' := hB1.put hk hi1.2 hs (by rw [k113]; exact cs) hw1 (wd := wd) (at' := at') (fun i i0 i1 => by rw [k1w]; exact hW i i0 i1)
      have hT2 := hT1.put (u := s) (tag := s % gPo d w + 1) (wd := wd) (at' := at') hk hs hw1
      rw [at1] at hB2' hT2
      rw [W1] at hB2'
      obtain ⟨hB2, sd2⟩ := hB2'
      have hi2 : gI d w r t L (gPut K1 (gCe r (H 13 s) (s / gPo d w)) (s % gPo d w + 1) wd at') := hi1.put
      have ks2 : kSt H (gPut K1 (gCe r (H 13 s) (s / gPo d w)) (s % gPo d w + 1) wd at') := ks1.put hw1
      have k2 : ∀ q i, q ≠ 3 → q ≠ 5 → q ≠ 6 → q ≠ 7 → q ≠ 8 → q ≠ 9 → gPut K1 (gCe r (H 13 s) (s / gPo d w)) (s % gPo d w + 1) wd at' q i = K1 q i := fun q i a b' c e f g => gPut_ne ⟨a, b', c, e, f, g⟩
      have km2 : kMw M (mPw M1 (H 13 s) (s / gPo d w) (s % gPo d w + 1)) := km1.put
      obtain ⟨mm2, -, -, -, mm2'⟩ := mPw_all (M := M1) (x := H 13 s) (o := s / gPo d w) (as := s % gPo d w + 1)
      have on2 : mPw M1 (H 13 s) (s / gPo d w) (s % gPo d w + 1) 35 12 = 1 := by rw [mm2', if_neg (by decide), if_neg (by decide)]; exact on1
      have mo2 : ∀ q i, q ≠ 35 → q ≠ 38 → q ≠ 39 → q ≠ 40 → mPw M1 (H 13 s) (s / gPo d w) (s % gPo d w + 1) q i = M q i := fun q i a b' c e => by rw [mm2 q i a b' c e]; exact mm1 q i a b' c e
      generalize gPut K1 (gCe r (H 13 s) (s / gPo d w)) (s % gPo d w + 1) wd at' = K2 at f3 f4 hB2 sd2 hT2 hi2 ks2 k2
      generalize mPw M1 (H 13 s) (s / gPo d w) (s % gPo d w + 1) = M2 at f3 f4 km2 on2 mo2
      have k213 : ∀ u, K2 13 u = H 13 u := fun u => by rw [k2 13 u (by decide) (by decide) (by decide) (by decide) (by decide) (by decide)]; exact k113 u
      have k215 : ∀ i, K2 15 i = K 15 i := fun i => by rw [k2 15 i (by decide) (by decide) (by decide) (by decide) (by decide) (by decide), k1 15 i (by decide) (by decide) (by decide) (by decide) (by decide) (by decide)]
      have at2 : gAt d w r K2 p = gCe r (H 13 p) (s / gPo d w) := by unfold gAt; rw [k213, rowp]
      have pa2 : fPa d w r K2 p 15 0 = fPr K2 (gCe r (H 13 p) (s / gPo d w)) (p % gPo d w + 1) 15 0 := by unfold fPa; rw [k213, if_neg cp, at2]
      rw [pa2]
      have e33 : rK d r K2 (zupd (zupd (mBc M2 b wm fr) 35 19 b) 35 20 1) := f3.of (fun _ _ _ => rfl) (fun q i hq => by rw [zupd_ne (by omega), zupd_ne (by omega), mBc_ne (by omega)])
      have e34 : rL K2 (zupd (zupd (mBc M2 b wm fr) 35 19 b) 35 20 1) := f4.of (fun _ _ => rfl) (fun i hi' => by rw [zupd_no (by omega), zupd_no (by omega), mBc_ne (by decide)])
      have km3 : kMw M (zupd (zupd (mBc M2 b wm fr) 35 19 b) 35 20 1) := (km2.bc.up (Or.inl rfl)).up (Or.inr rfl)
      have on3 : zupd (zupd (mBc M2 b wm fr) 35 19 b) 35 20 1 35 12 = 1 := by rw [zupd_no (by decide), zupd_no (by decide), mBc_ne (by decide)]; exact on2
      have b19 : zupd (zupd (mBc M2 b wm fr) 35 19 b) 35 20 1 35 19 = b := by rw [zupd_no (by decide), zupd_at]
      have b20 : zupd (zupd (mBc M2 b wm fr) 35 19 b) 35 20 1 35 20 = 1 := zupd_at
      have v43 : ∀ q j, (q = 43 ∨ q = 44) → zupd (zupd (mBc M2 b wm fr) 35 19 b) 35 20 1 q j = mBc M b wm fr q j := fun q j hq => by rw [zupd_ne (by omega), zupd_ne (by omega)]; exact mBc_43 mo2 hm q j hq
      have lv3 : ∀ x, zupd (zupd (mBc M2 b wm fr) 35 19 b) 35 20 1 37 x = M 37 x := fun x => by rw [zupd_ne (by decide), zupd_ne (by decide), mBc_ne (by decide)]; exact mo2 37 x (by decide) (by decide) (by decide) (by decide)
      generalize zupd (zupd (mBc M2 b wm fr) 35 19 b) 35 20 1 = M3 at e33 e34 km3 on3 b19 b20 v43 lv3
      rcases st_put (tag := p % gPo d w + 1) (wd := 15) (at' := 0) hk e33 e34 xp (o := s / gPo d w) (by omega) (by rw [lv3]; exact lp) (by decide) with ⟨h1, h2⟩ | ⟨h1, h2, h3, h4⟩
      · -- power goes between data and parity
        rw [h1, h2, az, az]
        refine ⟨Or.inr ⟨rfl, rfl, vUp C s (fun i => H wd (at' + i)), ⟨⟨hB2, hT2.log xp hs g3 (fun _ => vQ_up)⟩, e33.off, by show K2 3 10 = mOff M3 35 14; rw [mOff_no (by decide)]; exact e34.2.2, ⟨mOff_12 (M := M3), mOff_13 (M := M3)⟩, Or.inr ⟨by show mOff M3 35 20 = 1; rw [mOff_no (by decide)]; exact b20, by show 0 ≤ mOff M3 35 19 ∧ mOff M3 35 19 < _; rw [mOff_no (by decide), b19]; exact hb, ?_⟩⟩, Or.inr (Or.inl ⟨rfl, ⟨by show mOff M3 35 20 = 1; rw [mOff_no (by decide)]; exact b20, by show mOff M3 35 19 = b; rw [mOff_no (by decide)]; exact b19⟩, fun q j hq => by show mOff M3 q j = _; rw [mOff_no (by omega)]; exact v43 q j hq⟩)⟩, ks2, km3.off, hi2⟩
        show vDeep d w r (vUp C s (fun i => H wd (at' + i))) (C s) K2 (gSo w (mOff M3 35 19))
        rw [mOff_no (by decide), b19, hse]
        unfold vDeep
        rw [hpe, k213]
        refine ⟨sd2, fun _ => ⟨hT2.1.1, hT2.1.2.1⟩, ⟨fun i => hB.1.1 s i, fun y y0 y1 a b' => by
          by_cases c : y = H 13 p
          · rw [c]; exact hT2.1.2.1
          · exact absurd (hT2.2 y y0 y1 c a) b'⟩, fun f f0 f1' f2' => ⟨fun c => vP_up (hP f f0 f1' f2') (fun q => c ?_), fun c => vP_eq (hP f f0 f1' f2') (fun u i i0 i1 => vUp_self ⟨i0, i1⟩)⟩⟩
        have a := (gStr w3 f2' q).2
        omega
      rw [h1, h2, an, an]
      have hB3' := (hB2.put hk hi2.2 hp (by rw [k213]; exact cp) (wd := 15) (at' := 0) (by decide) (fun i i0 i1 => by rw [k215]; exact k15z i i0 i1)).1
      have hT3 := hT2.put (u := p) (tag := p % gPo d w + 1) (wd := 15) (at' := 0) hk hp (by decide)
      rw [at2] at hB3' hT3
      have hB3 : vB d w r (vN w C s (fun i => H wd (at' + i))) (gPut K2 (gCe r (H 13 p) (s / gPo d w)) (p % gPo d w + 1) 15 0) := by
        have e : vUp (vUp C s (fun i => H wd (at' + i))) p (fun i => K2 15 (0 + i)) = vN w C s (fun i => H wd (at' + i)) := by
          unfold vN
          rw [hpe]
          funext u i
          unfold vUp
          by_cases c : u = p
          · rw [if_pos c, if_pos c]
            by_cases e : 0 ≤ i ∧ i < 8
            · rw [if_pos e, if_pos e]
              show K2 15 (0 + i) = zlxor (vQ w C s i) (H wd (at' + i))
              rw [k215, show 0 + i = i by omega, k15 i e.1 e.2]
            · rw [if_neg e, if_neg e]
          · rw [if_neg c, if_neg c]
        rw [e] at hB3'
        exact hB3'
      have hi3 : gI d w r t L (gPut K2 (gCe r (H 13 p) (s / gPo d w)) (p % gPo d w + 1) 15 0) := hi2.put
      have ks3 : kSt H (gPut K2 (gCe r (H 13 p) (s / gPo d w)) (p % gPo d w + 1) 15 0) := ks2.put (by decide)
      have k313 : ∀ u, gPut K2 (gCe r (H 13 p) (s / gPo d w)) (p % gPo d w + 1) 15 0 13 u = H 13 u := fun u => by rw [gPut_ne (by decide)]; exact k213 u
      obtain ⟨mm4, -, -, -, mm4'⟩ := mPw_all (M := M3) (x := H 13 p) (o := s / gPo d w) (as := p % gPo d w + 1)
      have h33 : rK d r (gPut K2 (gCe r (H 13 p) (s / gPo d w)) (p % gPo d w + 1) 15 0) (zupd (mPw M3 (H 13 p) (s / gPo d w) (p % gPo d w + 1)) 35 20 0) := h3.of (fun _ _ _ => rfl) (fun q i hq => zupd_ne (by omega))
      have h34 : rL (gPut K2 (gCe r (H 13 p) (s / gPo d w)) (p % gPo d w + 1) 15 0) (zupd (mPw M3 (H 13 p) (s / gPo d w) (p % gPo d w + 1)) 35 20 0) := h4.of (fun _ _ => rfl) (fun i hi' => zupd_no (by omega))
      have km5 : kMw M (zupd (mPw M3 (H 13 p) (s / gPo d w) (p % gPo d w + 1)) 35 20 0) := km3.put.up (Or.inr rfl)
      have on5 : zupd (mPw M3 (H 13 p) (s / gPo d w) (p % gPo d w + 1)) 35 20 0 35 12 = 1 := by rw [zupd_no (by decide), mm4', if_neg (by decide), if_neg (by decide)]; exact on3
      have nc5 : zupd (mPw M3 (H 13 p) (s / gPo d w) (p % gPo d w + 1)) 35 20 0 35 20 = 0 := zupd_at
      have v5 : ∀ j, zupd (mPw M3 (H 13 p) (s / gPo d w) (p % gPo d w + 1)) 35 20 0 43 j = mBc M b wm fr 43 j := fun j => by rw [zupd_ne (by decide), mm4 43 j (by decide) (by decide) (by decide) (by decide)]; exact v43 43 j (Or.inl rfl)
      have lv5 : ∀ x, zupd (mPw M3 (H 13 p) (s / gPo d w) (p % gPo d w + 1)) 35 20 0 37 x = M 37 x := fun x => by rw [zupd_ne (by decide), mm4 37 x (by decide) (by decide) (by decide) (by decide)]; exact lv3 x
      generalize gPut K2 (gCe r (H 13 p) (s / gPo d w)) (p % gPo d w + 1) 15 0 = K3 at h33 h34 hB3 hT3 hi3 ks3 k313
      generalize zupd (mPw M3 (H 13 p) (s / gPo d w) (p % gPo d w + 1)) 35 20 0 = M5 at h33 h34 km5 on5 nc5 v5 lv5
      rcases st_put (tag := 0) (wd := 11) (at' := 0) hk h33 h34 xp (o := r) (by omega) (by rw [lv5]; exact lp) (by decide) with ⟨j1, j2⟩ | ⟨j1, j2, j3, j4⟩
      · -- power goes at the log's end
        rw [j1, j2]
        exact ⟨Or.inr ⟨rfl, rfl, vN w C s (fun i => H wd (at' + i)), vX.first hB3 (hT3.log xp hs g3 (fun _ => vQ_N w3)) NP h33 h34 nc5, Or.inr (Or.inr ⟨rfl, by show mOff M5 35 20 = 0; rw [mOff_no (by decide)]; exact nc5, fun j => by show mOff M5 43 j = _; rw [mOff_no (by omega)]; exact v5 j⟩)⟩, ks3, km5.off, hi3⟩
      rw [j1, j2]
      have hB4 := hB3.log (x := H 13 p) (tag := 0) (wd := 11) (at' := 0) hk (by decide)
      have km6 : kMw M (mPw M5 (H 13 p) r 0) := km5.put
      obtain ⟨mm6, -, -, -, mm6'⟩ := mPw_all (M := M5) (x := H 13 p) (o := r) (as := 0)
      have o6 : mPw M5 (H 13 p) r 0 35 12 = 1 := by rw [mm6', if_neg (by decide), if_neg (by decide)]; exact on5
      refine ⟨Or.inl ⟨rfl, rfl, ⟨⟨hB4, fun x x0 x1 a => ?_, NP⟩, j3, j4, ⟨o6, by show mPw M5 (H 13 p) r 0 35 20 = 0; rw [mm6', if_neg (by decide), if_neg (by decide)]; exact nc5⟩, fun u u0 u1 => ?_⟩, fun j => by show mPw M5 (H 13 p) r 0 43 j = _; rw [mm6 43 j (by decide) (by decide) (by decide) (by decide)]; exact v5 j⟩, ks3.put (by decide), km6, hi3.put⟩
      · obtain ⟨-, g5, -, g7, -⟩ := gPut_all (H := K3) (c := gCe r (H 13 p) r) (tag := 0) (wd := 11) (at' := 0) (by decide)
        have a : gPut K3 (gCe r (H 13 p) r) 0 11 0 5 (gCe r x r) ≠ 0 := a
        show gPut K3 (gCe r (H 13 p) r) 0 11 0 7 (gCe r x r) = 0
        rw [g7]
        by_cases c : gCe r x r = gCe r (H 13 p) r
        · rw [if_pos c]
        · rw [if_neg c]
          rw [g5, if_neg c] at a
          exact hT3.2 x x0 x1 (fun e => c (by rw [e])) a
      · show gPut K3 (gCe r (H 13 p) r) 0 11 0 13 u = _
        rw [gPut_ne (by decide), k313, pl u u0 u1]
        exact (on' _ km6 o6 u).symm
