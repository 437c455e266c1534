/-! open: the call. -/
section OPENS
variable {d w r : Int} {t : Nat} {L : Int → Int} {H M X : zHp} {Qr Qt : Int → zS → Prop} {C : Int → Int → Int} {O : Int → Int}
/-- the tree that is loaded -/
theorem t_loaded {N K : zHp} (hk : gOK d w r) (hn : vS d w r C K N) (vv : vVal d w r C (N 43)) (J : Jr (r * gGr d w * (w - 1)) (N 43)) (h4 : N 43 4 = 0) (A : aSt) (g : aGood (r * gGr d w * (w - 1)) A) (tr : jTr (r * gGr d w * (w - 1)) (N 43) A) (e45 : aRel A.1 (N 45)) (e46 : ∀ b, 0 ≤ b → b < 768 → N 46 b = A.2.1 b) (e47 : ∀ k, 0 ≤ k → k < 49152 → N 47 k = N 43 k)
    (k20 : ∀ b j, 25 ≤ b → b < r * gGr d w * (w - 1) → 0 ≤ j → j < 8 → K 20 (8 * b + j) = C (gSo w b) j) (k19 : ∀ i, 0 ≤ i → i < 8 * (r * gGr d w * (w - 1)) → K 19 i = K 20 i) (sq : K 29 6 = jSq (N 43)) (cn : K 0 12 = N 35 28 ∧ K 0 13 = N 35 29) : tOn d w r C K N := by
  have bl := gBl_le hk
  have hB2 := gBl_ge hk
  have own : ∀ b k, 25 ≤ b → b < r * gGr d w * (w - 1) → 0 ≤ k → k < 64 → 0 < A.2.1 b → mBy (r * gGr d w * (w - 1)) A (N 43) b k = N 43 (64 * b + k) := fun b k b0 b1 k0 k1 o => (tr b k b0 b1 k0 k1 o).2 (fun i i0 i1 => by omega)
  have sm : aSame (r * gGr d w * (w - 1)) A (N 45, N 46, N 47) := ⟨e45, e46, fun b k b0 b1 o k0 k1 => by
    have q := own b k (by omega) b1 k0 k1 o
    unfold mBy at q
    rw [if_neg (show ¬ (b < 25 ∨ A.2.1 b = 0) by omega), if_neg (show ¬ b < 57 by omega), if_neg (show ¬ b < 59 by omega)] at q
    show N 47 (64 * b + k) = _
    rw [e47 _ (by omega) (by omega), q]⟩
  have gd := sm.good bl g
  have own2 : ∀ b k, 25 ≤ b → b < r * gGr d w * (w - 1) → 0 ≤ k → k < 64 → 0 < N 46 b → mBy (r * gGr d w * (w - 1)) (N 45, N 46, N 47) (N 43) b k = N 43 (64 * b + k) := fun b k b0 b1 k0 k1 o => by
    rw [e46 b (by omega) (by omega)] at o
    rw [sm.mby bl ⟨b0, b1⟩ ⟨k0, k1⟩ o]
    exact own b k b0 b1 k0 k1 o
  have byt : ∀ b k, 25 ≤ b → b < r * gGr d w * (w - 1) → 0 ≤ k → k < 64 → zB8 K 19 (64 * b + k) = N 43 (64 * b + k) := fun b k b0 b1 k0 k1 => by
    rw [zB8_by ⟨k0, k1⟩, k19 _ (by omega) (by omega), k20 b (k / 8) b0 b1 (by omega) (by omega)]
    exact vv b k (by omega) b1 k0 k1 (fun u => by omega)
  refine ⟨⟨aE_of (V := N 43) gd ⟨hB2, bl⟩ (fun b k b0 b1 k0 k1 o => ?_), gd⟩, k20, fun b b0 b1 _ _ j j0 j1 => k19 _ (by omega) (by omega), ?_, ⟨h4, sq⟩, cn⟩
  · rw [byt b k b0 b1 k0 k1]
    exact (own2 b k b0 b1 k0 k1 o).symm
  · rw [gCnt_none _ _ (fun b b0 b1 u => ?_)]
    · decide
    · obtain ⟨k, k0, k1, u⟩ := u
      refine u ?_
      by_cases o : N 46 b = 0
      · unfold mBy
        rw [if_pos (Or.inr o)]
      · have op : 0 < N 46 b := by
          rw [e46 b (by omega) (by omega)] at o ⊢
          by_cases c : b < 59
          · rw [g.2.2.1.1 b (by omega) c]; decide
          · rcases g.2.2.1.2 b (by omega) (by omega) with z | ⟨-, j, jr, z, -⟩
            · exact absurd z o
            · rw [z]; omega
        exact own2 b k b0 (by omega) k0 k1 op
theorem q_open (ht : 118 ≤ t) (hX : lR X H) (hz : zhR (t, L, H)) (h : rAll d w r t L H H) : cOKb rP 277 157 [(20, 0), (9, 0)] 207 [(29, 35), (9, 0), (9, 0)] X t L H := by
  have hk := h.1.1.1.1.1
  have bl := gBl_le hk
  have hB2 := gBl_ge hk
  have po := gPo_rg hk
  have w3 := hk.2.2.1
  have r48 := hk.2.2.2.2.2.1
  refine cOKb_rel (Q := fun M v H1 => zEnds 118 207 0 [(29, 35), (9, 0), (9, 0)] [] (t, L, M) (fun b S2 => b = v ∧ ∃ H2, S2 = (t, L, H2) ∧ fM M H2 ∧ H2 35 0 = 0 ∧ rAll d w r t L H1 H2) (fun _ _ => False)) (TT := fun c => c = 2 ∧ H 0 11 = 1) ht hX hz h (za_c (za_9 za_0)) (za_m (za_9 (za_9 za_0))) rfl (fun M hM => ?_) (fun v H1 M hM q => q) (fun c q => ?_)
  · refine v_157 ⟨fun off => ?_, fun on => ⟨ht, by decide, rfl, rfl, ?_⟩⟩
    · have off : H 0 11 = 0 := off
      have h1 : rAll d w r t L H (zupd M 35 0 0) := hM.up
      generalize hM0 : zupd M 35 0 0 = M0 at h1
      have m00 : M0 35 0 = 0 := by rw [← hM0]; exact zupd_at
      have fM0 : fM M M0 := by rw [← hM0]; exact fM.rfl'.upd (by decide)
      obtain ⟨C, O, ro⟩ : ∃ C O, rOff d w r C O H M0 := by
        rcases h1.2 with ⟨C, a⟩ | a
        · have := a.2.2.2.2
          omega
        · exact a
      obtain ⟨⟨⟨vw1, vw2, vw3, vw4⟩, fnd, hK, cut⟩, hL, ⟨o12, -⟩, vv, J, dp⟩ := ro
      have pl := h1.pl
      obtain ⟨⟨gi, ms, h8⟩, tp, ⟨b1, b2, b3⟩, c1, c2⟩ := h1.1
      -- the class starts anew
      have gsz : gS d w r (t, L, zupd H 16 4 0) := (gi.keep (t' := t) (H' := zupd H 16 4 0) (fun q i hq => zupd_ne (by omega)) (fun q i hq => by rw [zupd_ne (by omega)]; exact gi.1.2.2.2 q i (by omega))).1
      refine v_64 (g_findPlaces gsz ?_)
      have gi1 : gI d w r t L (gFP d w r (zupd H 16 4 0) 0) := gI.fp gsz
      have eH : ∀ q i, ¬ (q = 16 ∧ i = 4) → gFP d w r (zupd H 16 4 0) 0 q i = H q i := fun q i hq => by
        unfold gFP
        by_cases c : q = 13 ∧ 0 ≤ i ∧ i < r * gPo d w
        · rw [if_pos c, c.1, fnd i c.2.1 c.2.2]
          exact gFound_congr (fun _ => zupd_ne (by decide)) (fun _ => zupd_ne (by decide)) (fun _ => zupd_ne (by decide))
        · rw [if_neg c]
          exact zupd_no hq
      have e16 : gFP d w r (zupd H 16 4 0) 0 16 4 = 0 := by
        unfold gFP
        rw [if_neg (by omega)]
        exact zupd_at
      generalize gFP d w r (zupd H 16 4 0) 0 = G at gi1 eH e16
      -- and the reference
      generalize hM1 : zupd (zupd (plK d w M0 r 0) 35 12 1) 35 15 0 = M1
      have eM1 : ∀ q i, q ≠ 41 → ¬ (q = 35 ∧ (i = 12 ∨ i = 15)) → M1 q i = M0 q i := fun q i q1 q2 => by
        rw [← hM1, zupd_no (by omega), zupd_no (by omega)]
        exact plK_ne q1
      have m12 : M1 35 12 = 1 := by rw [← hM1, zupd_no (by decide), zupd_at]
      have m15 : M1 35 15 = 0 := by rw [← hM1]; exact zupd_at
      have e43 : M1 43 = M0 43 := funext (fun i => eM1 43 i (by decide) (by omega))
      have ms1 : mS d w r L M1 := ms.of (fun i hi => eM1 35 i (by decide) (by omega)) (fun i => eM1 36 i (by decide) (by omega))
      have cm1 : rCm d w r t L G M1 := by
        refine ⟨⟨gi1, ms1, h8.1, fun j j0 j1 => by rw [eH (-8) j (by omega)]; exact h8.2 j j0 j1⟩, ⟨by rw [eH 0 10 (by decide), eM1 35 17 (by decide) (by decide)]; exact tp.1, by rw [eH 0 10 (by decide)]; exact tp.2.1, fun k k0 k1 => ?_⟩, ⟨by rw [e16, m15], by rw [e16]; exact ⟨by decide, by omega⟩, by rw [eH 16 5 (by decide)]; exact b3⟩, by rw [eH 18 8 (by decide)]; exact c1, fun b b0 b1 => by rw [eH 23 b (by omega)]; exact c2 b b0 b1⟩
        rw [eH 0 10 (by decide)] at k1
        rw [eH 33 k (by omega), eM1 42 k (by decide) (by omega)]
        exact tp.2.2 k k0 k1
      have os1 : oS d w r C O G M1 := by
        refine ⟨⟨vw1.of (fun q i hq => eH q i (by omega)), vw2.of (fun q i hq => eH q i (by omega)), vw3.imp (fun u => u.of (fun q i hq => eH q i (by omega))) (fun u => u.of (fun q i hq => eH q i (by omega))), vw4.of (fun q i hq => eH q i (by omega))⟩, ⟨hK.of (fun q i hq => eH q i (by omega)) (fun q i hq => eM1 q i (by omega) (by omega)), hL.of (fun i _ => eH 3 i (by omega)) (fun i hi => eM1 35 i (by decide) (by omega))⟩, m12, fun s s0 s1 => ?_, cut.of (fun q i hq => eH q i (by omega)) (fun i hi => eM1 35 i (by decide) (by omega)), by rw [e43]; exact vv, by rw [e43]; exact J, fun u => ?_⟩
        · have pg := gSp_rg hk ⟨s0, s1⟩
          have d2 := hk.2.1
          rw [eH 13 s (by omega), pl s s0 s1]
          unfold mPs mPl
          rw [if_pos o12, if_neg (by rw [m12]; decide), ← hM1, zupd_ne (by decide), zupd_ne (by decide)]
          unfold plK
          rw [if_pos ⟨rfl, by omega, by omega⟩, show (16 * (s / gPo d w) + s % gPo d w) / 16 = s / gPo d w by omega, show (16 * (s / gPo d w) + s % gPo d w) % 16 = s % gPo d w by omega]
        · rw [eM1 35 20 (by decide) (by decide)] at u
          rw [eM1 35 19 (by decide) (by decide), vRev_of (M := M0) (fun q i hq => eM1 q i (by omega) (by omega))]
          exact dp u
      -- from the reference's start to its opens
      have run : ∀ {F FT : Int → zS → Prop}, zEnds 118 201 0 [(29, 35), (9, 0), (9, 0), (9, 0)] [] (t, L, M1) (fun v1 S1 => (v1 ≠ 0 → ((0 : Int) = 0 ∨ (0 : Int) = 1) ∧ zEnds 118 205 0 [(29, 35), (9, 0), (9, 0), (9, 0)] [] (S1.1, S1.2.1, zupd S1.2.2 35 20 0) (fun v2 S2 => (v2 ≠ 0 → zEnds 118 206 0 [(29, 35), (9, 0), (9, 0), (9, 0), (9, 0), (9, 0), (9, 0)] [] S2 (fun v3 S3 => ((1 : Int) = 0 ∨ (1 : Int) = 1) ∧ F 1 (S3.1, S3.2.1, zupd (zupd S3.2.2 35 28 0) 35 29 0)) FT) ∧ (¬ (v2 ≠ 0) → ((0 : Int) = 0 ∨ (0 : Int) = 1) ∧ F 0 S2)) FT) ∧ (¬ (v1 ≠ 0) → ((0 : Int) = 0 ∨ (0 : Int) = 1) ∧ F 0 S1)) FT → zEnds 118 207 0 [(29, 35), (9, 0), (9, 0)] [] (t, L, M) F FT := fun {F FT} hF => by
        have m12' : M 35 12 = 0 := by
          rcases hM.on with v | v
          · omega
          · exact v.2
        refine v_207 ?_
        show zEnds 118 181 0 [(29, 35), (0, M 35 12), (0, 1)] [] _ _ _
        rw [m12']
        refine m_f0 ⟨fun _ => ?_, fun u => absurd rfl u⟩
        rw [hM0]
        refine m_finds ms (v_207_16 ⟨fun _ => ⟨Or.inr rfl, ?_⟩, fun u => absurd ?_ u⟩)
        · rw [hM1]
          exact hF
        · show plK d w M0 r 0 35 3 ≤ r
          rw [plK_ne (by decide), ms.2.2.2.1.2.2.1]
          exact Int.le_refl _
      have fM1 : ∀ {N : zHp}, (∀ q i, (q < 35 ∨ 54 ≤ q) → N q i = M1 q i) → fM M N := fun {N} e q i hq => by
        rw [e q i hq, eM1 q i (by omega) (by omega)]
        exact fM0 q i hq
      have m0 : M1 35 0 = 0 := by rw [eM1 35 0 (by decide) (by decide)]; exact m00
      have kcm : ∀ {K N : zHp}, gI d w r t L K → kO G K → kOm M1 N → rCm d w r t L K N := fun {K N} a b c => cm1.keep2 a (fun q i hq => b q i (by omega) (by omega) (by omega) (by omega) (by omega) (by omega) (by omega)) (fun q i hq => by
        by_cases cq : q = 35
        · rw [cq]
          exact c.2 i (by omega) (by omega) (by omega) (by omega)
        · exact c.1 q i cq (by omega) (by omega) (by omega))
      have kG : ∀ {K : zHp}, kO G K → ∀ q i, (35 ≤ q ∨ q < 0) → K q i = H q i := fun {K} b q i hq => by
        rw [b q i (by omega) (by omega) (by omega) (by omega) (by omega) (by omega) (by omega)]
        exact eH q i (by omega)
      refine o_logs gi1 ms1 os1 (fun C1 H1 N1 a1 a2 a3 a4 a5 a6 a7 => ⟨fun u => absurd u (by decide), fun _ => ?_⟩) (fun H1 N1 a1 a2 a3 a5 a6 a7 => ⟨fun _ => ⟨fun u => absurd rfl u, fun _ => ?_⟩, fun u => absurd rfl u⟩)
      · refine o_spares a1 a2 a3 a4 (fun H2 N2 d1 d2 d3 d4 d5 d6 d7 d8 => ⟨fun u => absurd u (by decide), fun _ => ?_⟩) (fun H2 N2 d1 d2 d3 d6 d7 d8 => ⟨fun _ => ⟨fun u => absurd rfl u, fun _ => ?_⟩, fun u => absurd rfl u⟩)
        · obtain ⟨C2, vs2, vv2, J2⟩ := d3.on hk d4 d5
          have n43 : (zupd N2 35 20 0) 43 = N2 43 := funext (fun i => zupd_ne (by decide))
          have kO2 := a5.tr d6
          have kM2 : kOm M1 (zupd N2 35 20 0) := (a6.tr d7).tr kOm.cut
          have cm2 := kcm d1 kO2 kM2
          refine c_recover d1 (kOm.cut.s d2) cm2.1.2.2 vs2 (by rw [n43]; exact vv2) (by rw [n43]; exact J2) (fun C3 H3 N3 f1 f2 f3 f4 f5 f6 f7 f8 f9 f10 => ⟨fun u => absurd u (by decide), fun _ => ⟨fun _ => ?_, fun u => absurd (by decide) u⟩⟩) (fun H3 N3 f1 f2 f3 f8 f9 f10 => ⟨fun _ => ⟨fun u => absurd rfl u, fun _ => ?_⟩, fun u => absurd rfl u⟩)
          · refine c_fill f1 f3 (fun K k1 k2 k3 k4 => ⟨Or.inr rfl, Or.inr rfl, ?_⟩)
            have eK : ∀ q i, ¬ (q = 0 ∧ (i = 11 ∨ i = 12 ∨ i = 13)) → zupd (zupd (zupd K 0 12 0) 0 13 0) 0 11 1 q i = K q i := fun q i hq => by rw [zupd_no (by omega), zupd_no (by omega), zupd_no (by omega)]
            have gK : gI d w r t L (zupd (zupd (zupd K 0 12 0) 0 13 0) 0 11 1) := k1.keep (fun q i hq => eK q i (by omega)) (fun q i hq => by
              by_cases c : q = 0 ∧ i = 11
              · rw [c.1, c.2, zupd_at]
                exact Or.inr rfl
              · rw [eK q i (by omega)]
                exact k1.1.2.2.2 q i (by omega))
            have kH : ∀ q i, (35 ≤ q ∨ q < 0 ∨ (q = 0 ∧ i = 10) ∨ q = 33 ∨ q = 16 ∨ q = 18 ∨ q = 23) → zupd (zupd (zupd K 0 12 0) 0 13 0) 0 11 1 q i = G q i := fun q i hq => by
              rw [eK q i (by omega), k2 q i (by omega) (by omega) (by omega), f8 q i (by omega) (by omega) (by omega) (by omega) (by omega) (by omega) (by omega) (by omega) (by omega) (by omega) (by omega) (by omega)]
              exact kO2 q i (by omega) (by omega) (by omega) (by omega) (by omega) (by omega) (by omega)
            refine ⟨_, rfl, fun q i hq => ?_, Or.inr rfl, run (a7 _ _ (d8 _ _ ⟨fun _ => ⟨Or.inl rfl, f10 _ _ ⟨fun _ => ?_, fun u => absurd (by decide) u⟩⟩, fun u => absurd (by decide) u⟩))⟩
            · rw [kH q i (by omega)]
              exact eH q i (by omega)
            · obtain ⟨hh, A, g, tr⟩ := f5
              refine m_loads (A := A) f2 ⟨hB2, bl⟩ g (fun b k b0 b1 k0 k1 o => (tr b k b0 b1 k0 k1 o).2 (fun i i0 i1 => by omega)) (fun N n1 n45 n46 n47 => ⟨Or.inr rfl, rfl, _, rfl, ?_, ?_, ?_⟩)
              · refine fM1 (fun q i hq => ?_)
                show zupd (zupd N 35 28 0) 35 29 0 q i = M1 q i
                rw [zupd_ne (by omega), zupd_ne (by omega), n1 q i (by omega) (by omega) (by omega), f9.1 q i (by omega) (by omega) (by omega) (by omega) (by omega) (by omega) (by omega), kM2.1 q i (by omega) (by omega) (by omega) (by omega)]
              · show zupd (zupd N 35 28 0) 35 29 0 35 0 = 0
                rw [zupd_no (by decide), zupd_no (by decide), n1 35 0 (by decide) (by decide) (by decide), f9.2 0 (by decide) (by decide) (by decide) (by decide) (by decide), kM2.2 0 (by decide) (by decide) (by decide) (by decide)]
                exact m0
              · have eN : ∀ q i, ¬ (q = 35 ∧ (i = 28 ∨ i = 29)) → zupd (zupd N 35 28 0) 35 29 0 q i = N q i := fun q i hq => by rw [zupd_no (by omega), zupd_no (by omega)]
                have fe : ∀ q, q ≠ 35 → (zupd (zupd N 35 28 0) 35 29 0) q = N q := fun q hq => funext (fun i => eN q i (by omega))
                have N43 : N 43 = N3 43 := funext (fun i => n1 43 i (by decide) (by decide) (by decide))
                have P43 : (zupd (zupd N 35 28 0) 35 29 0) 43 = N3 43 := (fe 43 (by decide)).trans N43
                have vs4 : vS d w r C3 (zupd (zupd (zupd K 0 12 0) 0 13 0) 0 11 1) (zupd (zupd N 35 28 0) 35 29 0) := f3.keep (fun q i hq => by rw [eK q i (by omega)]; exact k2 q i (by omega) (by omega) (by omega)) (fun q i hq => by rw [eN q i (by omega)]; exact n1 q i (by omega) (by omega) (by omega))
                refine ⟨cm1.keep2 gK (fun q i hq => kH q i (by omega)) (fun q i hq => ?_), Or.inl ⟨C3, vs4, by rw [P43]; exact f4, ?_, by rw [P43]; exact ⟨hh, A, g, tr⟩, zupd_at⟩⟩
                · rw [eN q i (by omega), n1 q i (by omega) (by omega) (by omega)]
                  by_cases c : q = 35
                  · rw [c, f9.2 i (by omega) (by omega) (by omega) (by omega) (by omega)]
                    exact kM2.2 i (by omega) (by omega) (by omega) (by omega)
                  · rw [f9.1 q i c (by omega) (by omega) (by omega) (by omega) (by omega) (by omega)]
                    exact kM2.1 q i c (by omega) (by omega) (by omega)
                · refine t_loaded hk vs4 (by rw [P43]; exact f4) (by rw [P43]; exact ⟨hh, A, g, tr⟩) (by rw [P43]; exact f6) A g (by rw [P43]; exact tr) (by rw [fe 45 (by decide)]; exact n45) (by rw [fe 46 (by decide)]; exact n46) (by rw [fe 47 (by decide), P43]; exact n47) (fun b j b0 b1 j0 j1 => by rw [eK 20 _ (by omega)]; exact k3 b j b0 b1 j0 j1) (fun i i0 i1 => by rw [eK 19 i (by omega), eK 20 i (by omega)]; exact k4 i i0 i1) ?_ ⟨?_, ?_⟩
                  · rw [P43, eK 29 6 (by decide), k2 29 6 (by decide) (by decide) (by decide)]
                    exact f7
                  · rw [zupd_no (by decide), zupd_no (by decide), zupd_at, zupd_no (by decide), zupd_at]
                  · rw [zupd_no (by decide), zupd_at, zupd_at]
          · have cm3 : rCm d w r t L H3 N3 := cm1.keep2 f1 (fun q i hq => by
              rw [f8 q i (by omega) (by omega) (by omega) (by omega) (by omega) (by omega) (by omega) (by omega) (by omega) (by omega) (by omega) (by omega)]
              exact kO2 q i (by omega) (by omega) (by omega) (by omega) (by omega) (by omega) (by omega)) (fun q i hq => by
              by_cases c : q = 35
              · rw [c, f9.2 i (by omega) (by omega) (by omega) (by omega) (by omega)]
                exact kM2.2 i (by omega) (by omega) (by omega) (by omega)
              · rw [f9.1 q i c (by omega) (by omega) (by omega) (by omega) (by omega) (by omega)]
                exact kM2.1 q i c (by omega) (by omega) (by omega))
            refine r_gone cm3 f3 (fun H4 x1 x2 => ⟨Or.inl rfl, H4, rfl, fun q i hq => ?_, Or.inl rfl, run (a7 _ _ (d8 _ _ ⟨fun _ => ⟨Or.inl rfl, f10 _ _ ⟨fun u => absurd rfl u, fun _ => ⟨Or.inl rfl, rfl, N3, rfl, ?_, ?_, x1⟩⟩⟩, fun u => absurd (by decide) u⟩))⟩)
            · rw [x2 q i hq, f8 q i (by omega) (by omega) (by omega) (by omega) (by omega) (by omega) (by omega) (by omega) (by omega) (by omega) (by omega) (by omega)]
              exact kG kO2 q i hq
            · refine fM1 (fun q i hq => ?_)
              rw [f9.1 q i (by omega) (by omega) (by omega) (by omega) (by omega) (by omega) (by omega)]
              exact kM2.1 q i (by omega) (by omega) (by omega) (by omega)
            · rw [f9.2 0 (by decide) (by decide) (by decide) (by decide) (by decide), kM2.2 0 (by decide) (by decide) (by decide) (by decide)]
              exact m0
        · refine r_gone2 (kcm d1 (a5.tr d6) (a6.tr d7)) d3 (fun H4 x1 x2 => ⟨Or.inl rfl, H4, rfl, fun q i hq => ?_, Or.inl rfl, run (a7 _ _ (d8 _ _ ⟨fun u => absurd rfl u, fun _ => ⟨Or.inl rfl, rfl, N2, rfl, fM1 (fun q i hq => (a6.tr d7).1 q i (by omega) (by omega) (by omega) (by omega)), ?_, x1⟩⟩))⟩)
          · rw [x2 q i hq]
            exact kG (a5.tr d6) q i hq
          · rw [(a6.tr d7).2 0 (by decide) (by decide) (by decide) (by decide)]
            exact m0
      · refine r_gone2 (kcm a1 a5 a6) a3 (fun H4 x1 x2 => ⟨Or.inl rfl, H4, rfl, fun q i hq => ?_, Or.inl rfl, run (a7 _ _ ⟨fun u => absurd rfl u, fun _ => ⟨Or.inl rfl, rfl, N1, rfl, fM1 (fun q i hq => a6.1 q i (by omega) (by omega) (by omega) (by omega)), ?_, x1⟩⟩)⟩)
        · rw [x2 q i hq]
          exact kG a5 q i hq
        · rw [a6.2 0 (by decide) (by decide) (by decide) (by decide)]
          exact m0
    · rcases h.on with v | v
      · exact v.1
      · exact absurd v.1 on
  · obtain ⟨e, on⟩ := q
    have m12 : H 35 12 = 1 := by
      rcases h.on with v | v
      · exact v.2
      · omega
    refine ⟨1, by rw [e]; rfl, by decide, fun t' ht' => v_207 ?_⟩
    show zEnds 118 181 0 [(29, 35), (0, H 35 12), (0, 1)] [] _ _ _
    rw [m12]
    exact m_f1 ⟨fun u => absurd u (by decide), fun _ => ⟨Or.inl rfl, rfl⟩⟩
end OPENS
