/-! copyBack, scrub. -/
section STEP2
variable {d w r : Int} {t : Nat} {L : Int → Int} {H M X : zHp} {Qr Qt : Int → zS → Prop} {C : Int → Int → Int}
noncomputable def mCbK (d w : Int) (M : zHp) (s : Int) : zHp := zupd (mPw M (gHome d w s) (s / gPo d w) (s % gPo d w + 1)) 41 (16 * (s / gPo d w) + s % gPo d w) (gHome d w s)
noncomputable def mCbS (d w : Int) (M : zHp) (s : Int) : Int × zHp := if M 35 13 = 0 then (-9, mOff M) else if mPs d w M s < 0 then (1, mCbK d w M s) else if mCbK d w M s 35 13 = 0 then (-9, mOff (mCbK d w M s)) else (1, mPw (mCbK d w M s) (mPs d w M s) (s / gPo d w) 0)
noncomputable def mCb (d w r : Int) (M : zHp) : Int × zHp := if gFirst (mCc d w M) 0 (r * gPo d w).toNat = -1 then (0, M) else mCbS d w M (gFirst (mCc d w M) 0 (r * gPo d w).toNat)
theorem m_cb (h : mS d w r L M) (hO : mOk d w r M) (hl : -1 ≤ M 35 13 ∧ M 35 13 ≤ 2147483647) (hQ : Qr (mCb d w r M).1 (t, L, (mCb d w r M).2)) : zEnds 118 214 24 [(29, 35), (0, 0), (9, 0), (9, 0), (9, 0)] [] (t, L, M) Qr Qt := by
  refine m_copyBack h hO hl (fun hn => ?_) (fun s hs hc hn => ?_)
  · unfold mCb at hQ
    rw [gFirst_un hn, if_pos rfl] at hQ
    exact hQ
  · unfold mCb at hQ
    rw [gFirst_is hs hc hn, if_neg (by omega)] at hQ
    unfold mCbS at hQ
    refine ⟨fun z => ?_, fun z K eK => ?_⟩
    · rw [if_pos z] at hQ; exact hQ
    · rw [if_neg z] at hQ
      have eK : K = mCbK d w M s := eK
      rw [← eK] at hQ
      refine ⟨fun y => ?_, fun y => ⟨fun x => ?_, fun x => ?_⟩⟩
      · rw [if_pos y] at hQ; exact hQ
      · rw [if_neg y, if_pos x] at hQ; exact hQ
      · rw [if_neg y, if_neg x] at hQ; exact hQ
theorem mCbK_fr {s : Int} : fM M (mCbK d w M s) ∧ mCbK d w M s 35 0 = M 35 0 := by
  unfold mCbK
  exact ⟨fun q i hq => by rw [zupd_ne (by omega)]; exact mPw_fr.1 q i hq, by rw [zupd_ne (by decide)]; exact mPw_fr.2⟩
theorem mCb_fr : fM M (mCb d w r M).2 ∧ (mCb d w r M).2 35 0 = M 35 0 := by
  unfold mCb
  by_cases c : gFirst (mCc d w M) 0 (r * gPo d w).toNat = -1
  · rw [if_pos c]; exact ⟨fM.rfl', rfl⟩
  · rw [if_neg c]
    unfold mCbS
    generalize gFirst (mCc d w M) 0 (r * gPo d w).toNat = s
    have k := mCbK_fr (d := d) (w := w) (M := M) (s := s)
    by_cases z : M 35 13 = 0
    · rw [if_pos z]; exact mOff_fr
    · rw [if_neg z]
      by_cases y : mPs d w M s < 0
      · rw [if_pos y]; exact k
      · rw [if_neg y]
        by_cases x : mCbK d w M s 35 13 = 0
        · rw [if_pos x]
          exact ⟨fun q i hq => (mOff_fr.1 q i hq).trans (k.1 q i hq), mOff_fr.2.trans k.2⟩
        · rw [if_neg x]
          have f := mPw_fr (M := mCbK d w M s) (x := mPs d w M s) (o := s / gPo d w) (as := 0)
          exact ⟨fun q i hq => (f.1 q i hq).trans (k.1 q i hq), f.2.trans k.2⟩
theorem vSy.u {s y : Int} (hk : gOK d w r) (h : vSy d w r s y H) (e : H 13 s = gHome d w s) (hs : 0 ≤ s ∧ s < r * gPo d w) : vUq d w r H := fun row q q' a b c f c' f' v v' t te => by
  obtain ⟨p, p0, p1, p2⟩ := h row q a b c f v t
  obtain ⟨p', p0', p1', p2'⟩ := h row q' a b c' f' v' (by rw [← te]; exact t)
  have ep : p = p' := by omega
  rw [← ep] at p2'
  have po := gPo_rg hk
  have w3 := hk.2.2.1
  have inj : gDk d row q = gDk d row q' → q = q' := fun z => gDk_inj hk (row := row) (a := q) (b := q') (by omega) (by omega) z
  have rg := gRow_of (row := row) hk p0
  have nh : ∀ x, gPo d w ≤ x → x < d → row * gPo d w + p = s → H 13 (row * gPo d w + p) ≠ gDk d row x := fun x x0 x1 z u => by
    rw [z, e] at u
    have g := gHome_sp (q := x) hk hs ⟨x0, x1⟩
    rw [← z, rg.1] at g
    rw [← z] at u
    exact g u
  rcases p2 with p2 | ⟨p2, p3⟩
  · rcases p2' with q2 | ⟨q2, q3⟩
    · exact inj (by rw [← p2, ← q2])
    · exact absurd p2 (nh q c f q2)
  · rcases p2' with q2 | ⟨q2, q3⟩
    · exact absurd q2 (nh q' c' f' p2)
    · exact inj (by rw [p3, q3])
theorem q_copyBack (ht : 118 ≤ t) (hX : lR X H) (hz : zhR (t, L, H)) (h : rAll d w r t L H H) : cOK rP 282 162 [(20, 0)] 214 [(29, 35), (9, 0), (9, 0), (9, 0), (9, 0)] X t L H := by
  have hk := h.1.1.1.1.1
  refine cOK_rel (Q := fun M v H1 => H 0 11 = 1 ∧ v = (mCb d w r (zupd M 35 0 0)).1 ∧ rAll d w r t L H1 (mCb d w r (zupd M 35 0 0)).2) (TT := fun c => c = 2 ∧ H 0 11 = 0) ht hX hz h (za_c za_0) (za_m (za_9 (za_9 (za_9 (za_9 za_0))))) rfl (fun M hM => ?_) (fun v H1 M hM q => ?_) (fun c q => ?_)
  · have hM1 : rAll d w r t L H (zupd M 35 0 0) := hM.up
    generalize zupd M 35 0 0 = M1 at hM1
    rcases hM1.on with ⟨on, -⟩ | ⟨off, -⟩
    · obtain ⟨C, hn⟩ := hM1.ison on
      have hg := hM1.1.1.1
      have hvS := hn.1
      obtain ⟨⟨hB, hL, hP⟩, hK, hR, ⟨onM, nc⟩, pl⟩ := hn.1
      refine v_162 (k_on on (g_copyBack hg (fun hc => v_174 ⟨fun _ => ⟨H, rfl, fC.rfl', on, ?_⟩, fun u => absurd (by decide) u⟩) (fun s hs hc hu => ?_)))
      · have e : mCb d w r M1 = (0, M1) := by
          unfold mCb
          rw [gFirst_un (fun u u0 u1 z => hc u u0 u1 ((r_cc hk hK ⟨u0, u1⟩).mpr z)), if_pos rfl]
        rw [e]
        exact ⟨rfl, hM1⟩
      · have ef : gFirst (mCc d w M1) 0 (r * gPo d w).toNat = s := gFirst_is hs ((r_cc hk hK hs).mp hc) (fun u u0 u1 z => hu u u0 u1 ((r_cc hk hK ⟨u0, by omega⟩).mpr z))
        have eM : mCb d w r M1 = mCbS d w M1 s := by
          unfold mCb
          rw [ef, if_neg (by omega)]
        rw [eM]
        have qs := gSp_rg hk hs
        have xr := gDk_rg (row := s / gPo d w) (pos := s % gPo d w) hk
        have xr : 0 ≤ gHome d w s ∧ gHome d w s < d := xr
        have ps := pl s hs.1 hs.2
        have psr := hg.2 s hs.1 hs.2
        have hld := v_ld (at' := 0) hk hB.1.2 hB.2.2.2.2 (hP _ (gStripe hk hs).1 (gStripe hk hs).2.2.2 (by
          have := Int.mul_ediv_add_emod s w
          rw [show s - s % w = 0 + w * (s / w) by omega, Int.add_mul_emod_self_left]
          rfl)) hB.1.1 hs gW17
        have ldn : ∀ q i, q ≠ 17 → gLd d w r H 17 0 s q i = H q i := fun q i hq => gLd_ne hq
        have ld17 : ∀ i, 0 ≤ i → i < 8 → gLd d w r H 17 0 s 17 i = C s i := fun i i0 i1 => by have := hld i i0 i1; rw [show 0 + i = i by omega] at this; exact this
        generalize gLd d w r H 17 0 s = G at ldn ld17
        refine ⟨fun z => v_174 ⟨fun u => absurd rfl u, fun _ => ?_⟩, fun z K eK => ?_⟩
        · have e : mCbS d w M1 s = (-9, mOff M1) := by
            unfold mCbS
            rw [if_pos (hR.z.mp z)]
          rw [e]
          exact r_lost hM1 (hn.w17 ldn) (hM1.1.w17 ldn) (fun H' hr' e' => ⟨H', rfl, fun q i hq => by rw [e' q i hq, ldn q i (by omega)], on, rfl, hr'⟩)
        · have z13 : M1 35 13 ≠ 0 := fun y => z (hR.z.mpr y)
          have lv : M1 37 (gHome d w s) ≠ 0 := by rw [← hK.1 _ xr.1 xr.2]; exact hc.1
          have hfr : ∀ u, 0 ≤ u → u < r * gPo d w → u / gPo d w = s / gPo d w → H 13 u ≠ gHome d w s := fun u u0 u1 ur e => by
            have qu := gSp_rg hk ⟨u0, u1⟩
            have pu : H 13 u ≠ -1 := by rw [e]; omega
            obtain ⟨⟨a1, a2, a3⟩, -⟩ := hB.1.2 u u0 u1 pu
            rcases a3 with a3 | ⟨q, q0, q1, q2⟩
            · rw [e] at a3
              unfold gHome at a3
              rw [ur] at a3
              have := gDk_inj hk (row := s / gPo d w) (a := s % gPo d w) (b := u % gPo d w) (by have := gPo_rg hk; omega) (by have := gPo_rg hk; omega) a3
              have es : u = s := by rw [← gSpot_of (s := u) hk, ← gSpot_of (s := s) hk, ur, this]
              unfold gAt at a1
              rw [es] at e a1
              rw [e] at a1
              exact a1 hc.2
            · rw [e, ur] at q2
              exact gHome_sp hk hs ⟨q0, q1⟩ q2
          have mv := hB.move (G := G) hk hg.2 hs (Or.inl rfl) hfr hc.2 ldn ld17
          rw [← eK] at mv
          have gi : gI d w r t L K := by rw [eK]; exact gI.mv (hg.of gW17 ldn) hs xr
          have fr : ∀ q i, q ≠ 3 → q ≠ 5 → q ≠ 6 → q ≠ 7 → q ≠ 8 → q ≠ 9 → q ≠ 13 → q ≠ 17 → K q i = H q i := fun q i a b c f g k l m => by rw [eK, zupd_ne l, gPut_ne ⟨a, b, c, f, g, k⟩, ldn q i m]
          have k13 : K 13 s = gHome d w s := by rw [eK, zupd_at]
          have mk : ∀ q i, ¬ (q = 35 ∧ (i = 13 ∨ i = 14)) → q ≠ 38 → q ≠ 39 → q ≠ 40 → q ≠ 41 → mCbK d w M1 s q i = M1 q i := fun q i a b c e f => mPw_mv q i a b c e f
          refine ⟨fun y => v_174 ⟨fun _ => ?_, fun u => absurd (by decide) u⟩, fun y => ?_⟩
          · -- it had no place
            have e : mCbS d w M1 s = (1, mCbK d w M1 s) := by
              unfold mCbS
              rw [if_neg z13, if_pos (by omega)]
            rw [e]
            have sp : vSp d w r K := fun row q a b c f v t' => by
              obtain ⟨p, p0, p1, p2⟩ := mv.2.1 row q a b c f v t'
              refine ⟨p, p0, p1, p2.resolve_right (fun z => ?_)⟩
              have := gDk_rg (row := row) (pos := q) hk
              have z2 := z.2
              omega
            have vs : vS d w r C K (mCbK d w M1 s) := by
              have := hvS.place (x := gHome d w s) (G := G) hk hs xr lv ldn z (by rw [← eK]; exact mv.1.b sp)
              rw [← eK] at this
              exact this
            exact ⟨_, rfl, fun q i hq => fr q i (by omega) (by omega) (by omega) (by omega) (by omega) (by omega) (by omega) (by omega), on, rfl, hM1.vol hn vs gi fr mk⟩
          · -- its old place is wiped
            have hK0 : rK d r G M1 := hK.of (fun q i hq => ldn q i (by omega)) (fun _ _ _ => rfl)
            have hR0 : rL G M1 := hR.of (fun i _ => ldn 3 i (by decide)) (fun _ _ => rfl)
            have kK : rK d r K (mCbK d w M1 s) := by
              rw [eK]
              exact (hK0.put (tag := s % gPo d w + 1) (wd := 17) (at' := 0) hk xr (o := s / gPo d w) (by omega) lv (by decide)).of (fun q i hq => zupd_ne (by omega)) (fun q i hq => zupd_ne (by omega))
            have kR : rL K (mCbK d w M1 s) := by
              rw [eK]
              exact (hR0.put (x := gHome d w s) (o := s / gPo d w) (c := gCe r (gHome d w s) (s / gPo d w)) (tag := s % gPo d w + 1) (wd := 17) (at' := 0) (by decide) (by rw [ldn 3 11 (by decide)]; exact z)).of (fun i _ => zupd_ne (by decide)) (fun i _ => zupd_ne (by decide))
            have kon : mCbK d w M1 s 35 12 = 1 := by rw [mk 35 12 (by decide) (by decide) (by decide) (by decide) (by decide)]; exact onM
            have knc : mCbK d w M1 s 35 20 = 0 := by rw [mk 35 20 (by decide) (by decide) (by decide) (by decide) (by decide)]; exact nc
            have kL : vL d r K := fun x x0 x1 a => by
              obtain ⟨-, g5, -, g7, -⟩ := gPut_all (H := G) (c := gCe r (gHome d w s) (s / gPo d w)) (tag := s % gPo d w + 1) (wd := 17) (at' := 0) (by decide)
              have n : gCe r x r ≠ gCe r (gHome d w s) (s / gPo d w) := fun c => by
                have := (gCe_inj hk (by have := hk.2.2.2.2.2.1; omega) (by omega) c).2
                omega
              rw [eK, zupd_ne (by decide), g5, if_neg n, ldn 5 _ (by decide)] at a
              rw [eK, zupd_ne (by decide), g7, if_neg n, ldn 7 _ (by decide)]
              exact hL x x0 x1 a
            have kpl : ∀ u, 0 ≤ u → u < r * gPo d w → K 13 u = mPs d w (mCbK d w M1 s) u := fun u u0 u1 => by
              have qu := gSp_rg hk ⟨u0, u1⟩
              have po := gPo_rg hk
              have d16 := hk.2.1
              rw [mPs_on kon]
              unfold mCbK
              by_cases c : u = s
              · rw [c, k13, zupd_at]
              · have ne : ¬ ((41 : Int) = 41 ∧ 16 * (u / gPo d w) + u % gPo d w = 16 * (s / gPo d w) + s % gPo d w) := fun z => c (by
                  have z2 := z.2
                  have a1 : u / gPo d w = s / gPo d w := by omega
                  have a2 : u % gPo d w = s % gPo d w := by omega
                  rw [← gSpot_of (s := u) hk, ← gSpot_of (s := s) hk, a1, a2])
                rw [zupd_no ne, mPw_all.1 41 _ (by decide) (by decide) (by decide) (by decide), ← mPs_on onM, ← pl u u0 u1, eK, zupd_no (fun z => c z.2), gPut_ne (by decide), ldn 13 u (by decide)]
            have yr : 0 ≤ H 13 s ∧ H 13 s < d := by omega
            obtain ⟨⟨a1, a2, a3⟩, -⟩ := hB.1.2 s hs.1 hs.2 y
            have ysp : ∃ q, (gPo d w ≤ q ∧ q < d) ∧ H 13 s = gDk d (s / gPo d w) q := by
              rcases a3 with a3 | ⟨q, q0, q1, q2⟩
              · exact absurd a3 (hfr s hs.1 hs.2 rfl)
              · exact ⟨q, ⟨q0, q1⟩, q2⟩
            have ynp : ∀ u, 0 ≤ u → u < r * gPo d w → u / gPo d w = s / gPo d w → K 13 u ≠ H 13 s := fun u u0 u1 ur e => by
              by_cases c : u = s
              · rw [c, k13] at e
                obtain ⟨q, hq, q2⟩ := ysp
                rw [q2] at e
                exact gHome_sp hk hs hq e
              · rw [eK, zupd_no (fun z => c z.2), gPut_ne (by decide), ldn 13 u (by decide)] at e
                exact hB.1.2.ne hk ⟨u0, u1⟩ hs (by rw [e]; exact y) y c (by unfold gAt; rw [e, ur])
            have wp := mv.1.wipe hk qs.1 ysp ynp
            have em : mPs d w M1 s = H 13 s := ps.symm
            have ylv : mCbK d w M1 s 37 (H 13 s) ≠ 0 := by
              rw [mk 37 _ (by omega) (by decide) (by decide) (by decide) (by decide)]
              exact (hB.1.2.live hk hg.2 hK hs y).2
            refine ⟨fun x => v_174 ⟨fun u => absurd rfl u, fun _ => ?_⟩, fun x => v_174 ⟨fun _ => ?_, fun u => absurd (by decide) u⟩⟩
            · have e : mCbS d w M1 s = (-9, mOff (mCbK d w M1 s)) := by
                unfold mCbS
                rw [if_neg z13, if_neg (by omega), if_pos (kR.z.mp x)]
              rw [e]
              refine c_goOff gi.1 (fun H' g f e1 e2 e3 => ⟨H', rfl, fun q i hq => by rw [e3 q i (by omega) (by omega) (by omega), fr q i (by omega) (by omega) (by omega) (by omega) (by omega) (by omega) (by omega) (by omega)], on, rfl, hM1.1.keep2 g (fun q i hq => by rw [e3 q i (by omega) (by omega) (by omega), fr q i (by omega) (by omega) (by omega) (by omega) (by omega) (by omega) (by omega) (by omega)]) (fun q i hq => by show mOff (mCbK d w M1 s) q i = M1 q i; rw [mOff_no (by omega), mk q i (by omega) (by omega) (by omega) (by omega) (by omega)]), Or.inr ⟨C, fun _ => 0, ?_⟩⟩)
              have f43 : mOff (mCbK d w M1 s) 43 = M1 43 := funext (fun i => by rw [mOff_no (by omega), mk 43 i (by omega) (by decide) (by decide) (by decide) (by decide)])
              have nc' : mOff (mCbK d w M1 s) 35 20 = 0 := by rw [mOff_no (by decide)]; exact knc
              refine ⟨mv.1.off hk (mv.2.1.u hk k13 hs) kL kK.off f ⟨nc', hP⟩, ⟨by rw [e2]; show 0 = mOff (mCbK d w M1 s) 35 13 + 1; rw [mOff_13]; rfl, by rw [e2]; decide, by rw [e3 3 10 (by decide) (by decide) (by decide)]; show K 3 10 = mOff (mCbK d w M1 s) 35 14; rw [mOff_no (by decide)]; exact kR.2.2⟩, ⟨mOff_12 (M := mCbK d w M1 s), e1⟩, ?_, ?_, fun u => ?_⟩
              · show vVal d w r C (mOff (mCbK d w M1 s) 43)
                rw [f43]; exact hn.2.1
              · show Jr _ (mOff (mCbK d w M1 s) 43)
                rw [f43]; exact hn.2.2.2.1
              · have u : mOff (mCbK d w M1 s) 35 20 = 1 := u
                rw [nc'] at u; cases u
            · have e : mCbS d w M1 s = (1, mPw (mCbK d w M1 s) (H 13 s) (s / gPo d w) 0) := by
                unfold mCbS
                rw [if_neg z13, if_neg (by omega), if_neg (fun y => x (kR.z.mpr y)), em]
              rw [e]
              have bK := (wp.1).b (wp.2.1 s hs rfl mv.2.1)
              obtain ⟨g0, g5, -, g7, -⟩ := gPut_all (H := K) (c := gCe r (H 13 s) (s / gPo d w)) (tag := 0) (wd := 11) (at' := 0) (by decide)
              obtain ⟨m0, -, -, -, m35⟩ := mPw_all (M := mCbK d w M1 s) (x := H 13 s) (o := s / gPo d w) (as := 0)
              have on2 : mPw (mCbK d w M1 s) (H 13 s) (s / gPo d w) 0 35 12 = 1 := by rw [m35, if_neg (by decide), if_neg (by decide)]; exact kon
              have vs : vS d w r C (gPut K (gCe r (H 13 s) (s / gPo d w)) 0 11 0) (mPw (mCbK d w M1 s) (H 13 s) (s / gPo d w) 0) := by
                refine ⟨⟨bK, fun x x0 x1 a => ?_, hP⟩, kK.put hk yr (by omega) ylv (by decide), kR.put (by decide) x, ⟨on2, by rw [m35, if_neg (by decide), if_neg (by decide)]; exact knc⟩, fun u u0 u1 => ?_⟩
                · have n : gCe r x r ≠ gCe r (H 13 s) (s / gPo d w) := fun c => by
                    have := (gCe_inj hk (by have := hk.2.2.2.2.2.1; omega) (by omega) c).2
                    omega
                  rw [g5, if_neg n] at a
                  rw [g7, if_neg n]
                  exact kL x x0 x1 a
                · rw [g0 13 u (by decide) (by decide) (by decide) (by decide) (by decide) (by decide), kpl u u0 u1]
                  exact (mPs_of kon on2 (fun i => m0 41 i (by decide) (by decide) (by decide) (by decide))).symm
              refine ⟨_, rfl, fun q i hq => by rw [gPut_ne (by omega), fr q i (by omega) (by omega) (by omega) (by omega) (by omega) (by omega) (by omega) (by omega)], on, rfl, hM1.vol hn vs gi.put (fun q i a b c e f g k l => by rw [gPut_ne ⟨a, b, c, e, f, g⟩, fr q i a b c e f g k l]) (fun q i a b c e f => ?_)⟩
              show mPw (mCbK d w M1 s) (H 13 s) (s / gPo d w) 0 q i = M1 q i
              rw [← mk q i a b c e f]
              by_cases g : q = 35
              · rw [g, m35, if_neg (by omega), if_neg (by omega)]
              · exact m0 q i g b c e
    · exact v_162 (v_172 ⟨fun u => absurd off u, fun _ => ⟨ht, by decide, rfl, rfl, off⟩⟩)
  · obtain ⟨on, ev, q⟩ := q
    have onM : M 35 12 = 1 := by rcases hM.on with u | u <;> omega
    have hM1 : rAll d w r t L H (zupd M 35 0 0) := hM.up
    obtain ⟨C, hn⟩ := hM1.ison on
    refine j_214 ⟨fun _ => j_214_13 (m_f0 ⟨fun _ => m_cb hM1.1.1.2.1 hM1.mok hn.1.2.2.1.l ⟨ev.symm, _, rfl, fun q' i hq => ?_, ?_, q⟩, fun u => absurd rfl u⟩), fun u => absurd (by show M 35 12 ≠ 0; omega) u⟩
    · rw [mCb_fr.1 q' i hq, zupd_ne (by omega)]
    · rw [mCb_fr.2, zupd_at]
  · obtain ⟨e, c⟩ := q
    have off : H 35 12 = 0 := by rcases h.on with u | u <;> omega
    exact ⟨1, by rw [e]; rfl, by decide, fun t' ht' => j_214 ⟨fun u => absurd off u, fun _ => j_214_13 (m_f1 ⟨fun u => absurd u (by decide), fun _ => rfl⟩)⟩⟩
/-- scrub's place -/
noncomputable def mScU (d w : Int) (M : zHp) (F : Int) : Int × zHp := if gFirst (fun k => mSps d w M (F + k)) 0 w.toNat = -1 then (0, M) else if M 35 13 = 0 then (-9, mOff M) else (1, mPw M (mPs d w M (F + gFirst (fun k => mSps d w M (F + k)) 0 w.toNat)) ((F + gFirst (fun k => mSps d w M (F + k)) 0 w.toNat) / gPo d w) ((F + gFirst (fun k => mSps d w M (F + k)) 0 w.toNat) % gPo d w + 1))
theorem m_sc {F : Int} (h : mS d w r L M) (hO : mOk d w r M) (hl : -1 ≤ M 35 13 ∧ M 35 13 ≤ 2147483647) (hF : 0 ≤ F ∧ F < r * gPo d w ∧ F % w = 0) (hQ : Qr (mScU d w M F).1 (t, L, (mScU d w M F).2)) : zEnds 118 215 69 [(29, 35), (0, F / gPo d w), (0, F % gPo d w), (0, F % gPo d w)] [] (t, L, M) Qr Qt := by
  refine m_scrub h hO hl hF (fun hn => ?_) (fun u u0 u1 hu hn => ?_)
  · unfold mScU at hQ
    rw [gFirst_un (n := w) (fun k k0 k1 => hn (F + k) (by omega) (by omega)), if_pos rfl] at hQ
    exact hQ
  · unfold mScU at hQ
    rw [gFirst_is (n := w) (s := u - F) (by omega) (by show mSps d w M (F + (u - F)); rw [show F + (u - F) = u by omega]; exact hu) (fun k k0 k1 => hn (F + k) (by omega) (by omega)), if_neg (by omega), show F + (u - F) = u by omega] at hQ
    refine ⟨fun z => ?_, fun z => ?_⟩
    · rw [if_pos z] at hQ; exact hQ
    · rw [if_neg z] at hQ; exact hQ
theorem mScU_fr {F : Int} : fM M (mScU d w M F).2 ∧ (mScU d w M F).2 35 0 = M 35 0 := by
  unfold mScU
  by_cases c : gFirst (fun k => mSps d w M (F + k)) 0 w.toNat = -1
  · rw [if_pos c]; exact ⟨fM.rfl', rfl⟩
  · rw [if_neg c]
    by_cases z : M 35 13 = 0
    · rw [if_pos z]; exact mOff_fr
    · rw [if_neg z]; exact mPw_fr
/-- the next stripe -/
def mNx (d w r : Int) (M : zHp) : zHp := zupd (zupd M 35 0 0) 35 15 ((M 35 15 + 1) % (r * gGr d w))
theorem q_scrub (ht : 118 ≤ t) (hX : lR X H) (hz : zhR (t, L, H)) (h : rAll d w r t L H H) : cOK rP 283 163 [(20, 0)] 215 [(29, 35), (9, 0), (9, 0), (9, 0)] X t L H := by
  have hk := h.1.1.1.1.1
  have w3 := hk.2.2.1
  have po := gPo_rg hk
  have r48 := hk.2.2.2.2.2.1
  refine cOK_rel (Q := fun M v H1 => H 0 11 = 1 ∧ v = (mScU d w (mNx d w r M) (w * M 35 15)).1 ∧ rAll d w r t L H1 (mScU d w (mNx d w r M) (w * M 35 15)).2) (TT := fun c => c = 2 ∧ H 0 11 = 0) ht hX hz h (za_c za_0) (za_m (za_9 (za_9 (za_9 za_0)))) rfl (fun M hM => ?_) (fun v H1 M hM q => ?_) (fun c q => ?_)
  · have nx := hM.1.2.2.1
    rcases hM.on with ⟨on, -⟩ | ⟨off, -⟩
    · -- the next stripe, there and here
      have g0 := hM.1.1.1
      have eq1 : r * gPo d w = w * (r * gGr d w) := by unfold gPo; rw [← Int.mul_assoc, ← Int.mul_assoc, Int.mul_comm r w]
      have hM1 : rAll d w r t L (zupd H 16 4 ((H 16 4 + 1) % (r * gGr d w))) (mNx d w r M) := by
        have hM0 : rAll d w r t L H (zupd M 35 0 0) := hM.up
        have ml : (H 16 4 + 1) % (r * gGr d w) < r * gGr d w := Int.emod_lt_of_pos _ (by omega)
        have mg : 0 ≤ (H 16 4 + 1) % (r * gGr d w) := Int.emod_nonneg _ (by omega)
        obtain ⟨⟨⟨h1, h2, h3⟩, a, ⟨b1, b2, b3⟩, c⟩, hr⟩ := hM0
        refine ⟨⟨⟨⟨h1.1.upd (by omega) (fun u => by omega), h1.2.keep (fun i => zupd_ne (by decide))⟩, h2.upd (by omega), h3.1, fun i i0 i1 => by rw [zupd_ne (by decide)]; exact h3.2 i i0 i1⟩, ?_, ⟨?_, ?_, ?_⟩, ?_⟩, ?_⟩
        · show zupd H 16 4 _ 0 10 = zupd (zupd M 35 0 0) 35 15 _ 35 17 ∧ _
          rw [zupd_ne (by decide), zupd_no (by decide)]
          exact ⟨a.1, a.2.1, fun k k0 k1 => by rw [zupd_ne (by decide)]; show zupd (zupd M 35 0 0) 35 15 _ 42 k = _; rw [zupd_ne (by decide)]; exact a.2.2 k k0 k1⟩
        · show zupd H 16 4 _ 16 4 = zupd (zupd M 35 0 0) 35 15 _ 35 15
          rw [zupd_at, zupd_at, nx.1]
        · rw [zupd_at]; exact ⟨mg, ml⟩
        · rw [zupd_no (by decide)]; exact b3
        · rw [zupd_ne (by decide)]
          exact ⟨c.1, fun b b0 b1 => by rw [zupd_ne (by decide)]; exact c.2 b b0 b1⟩
        · rcases hr with ⟨C, hr⟩ | ⟨C, O, hr⟩
          · exact Or.inl ⟨C, hr.keep (fun q i hq => zupd_no (by omega)) (fun q i hq => zupd_no (by omega)) (fun q i hq => zupd_no (by omega)) (fun q i hq => zupd_no (by omega)) (zupd_ne (by decide))⟩
          · have := hr.2.2.1.2
            omega
      have e16 : w * M 35 15 = w * H 16 4 := by rw [nx.1]
      rw [e16]
      have eF : 0 ≤ w * H 16 4 ∧ w * H 16 4 + w ≤ r * gPo d w := by
        refine ⟨Int.mul_nonneg (by omega) nx.2.1.1, ?_⟩
        have := Int.mul_le_mul_of_nonneg_left (show H 16 4 + 1 ≤ r * gGr d w by omega) (show 0 ≤ w by omega)
        rw [Int.mul_add] at this
        omega
      generalize hH1 : zupd H 16 4 ((H 16 4 + 1) % (r * gGr d w)) = H1 at hM1
      generalize mNx d w r M = M1 at hM1
      have on1 : H1 0 11 = 1 := by rw [← hH1, zupd_ne (by decide)]; exact on
      obtain ⟨C, hn⟩ := hM1.ison on1
      have hg := hM1.1.1.1
      have hvS := hn.1
      obtain ⟨⟨hB, hL, hP⟩, hK, hR, ⟨onM, nc⟩, pl⟩ := hn.1
      have e3 : H1 3 11 = H 3 11 := by rw [← hH1, zupd_ne (by decide)]
      have f1 : fC H H1 := fun q i hq => by rw [← hH1, zupd_ne (by omega)]
      have sm : (w * H 16 4) % w = 0 := Int.mul_emod_right _ _
      generalize hF : w * H 16 4 = F at *
      have st : ∀ u, F ≤ u → u < F + w → u - u % w = F := fun u u0 u1 => by have := (gStr w3 sm ⟨u0, u1⟩).2; omega
      have PF := hP F eF.1 eF.2 sm
      refine v_163 (k_on on (g_scrub g0 nx.2.1 (H1 := H1) hH1.symm (fun u u0 u1 hu hb => ?_) (fun hb H' e' => v_174 ⟨fun _ => ⟨H', rfl, fun q i hq => by rw [e' q i (by omega)]; exact f1 q i hq, on, ?_⟩, fun u => absurd (by decide) u⟩) (fun hs i i0 i1 => ?_)))
      · rw [hF] at u0 u1 hb
        have hur : 0 ≤ u ∧ u < r * gPo d w := by omega
        have qu := gSp_rg hk hur
        have ef : gFirst (fun k => mSps d w M1 (F + k)) 0 w.toNat = u - F := gFirst_is (n := w) (by omega) (by show mSps d w M1 (F + (u - F)); rw [show F + (u - F) = u by omega]; exact (r_spt hk hg.2 hK pl hur).mp hu) (fun k k0 k1 z => hb (F + k) (by omega) (by omega) ((r_spt hk hg.2 hK pl (by omega)).mpr z))
        have hrk := v_rk (at' := 0) hk hB.1.2 hB.2.2.2.2 (by rw [st u u0 u1]; exact PF) hB.1.1 hur hu.2 gW17
        have rkn : ∀ q i, q ≠ 17 → gRk d w r H1 17 0 u q i = H1 q i := fun q i hq => gRk_ne hq
        refine ⟨fun z => v_174 ⟨fun x => absurd rfl x, fun _ => ?_⟩, fun z => v_174 ⟨fun _ => ?_, fun x => absurd (by decide) x⟩⟩
        · have e : mScU d w M1 F = (-9, mOff M1) := by
            unfold mScU
            rw [ef, if_neg (by omega), if_pos (hR.z.mp (by rw [e3]; exact z))]
          rw [e]
          exact r_lost hM1 (hn.w17 rkn) (hM1.1.w17 rkn) (fun H' hr' e' => ⟨H', rfl, fun q i hq => by rw [e' q i hq, rkn q i (by omega)]; exact f1 q i hq, on, rfl, hr'⟩)
        · have e : mScU d w M1 F = (1, mPw M1 (H1 13 u) (u / gPo d w) (u % gPo d w + 1)) := by
            unfold mScU
            rw [ef, if_neg (by omega), if_neg (fun y => z (by rw [← e3]; exact hR.z.mpr y)), show F + (u - F) = u by omega, pl u hur.1 hur.2]
          rw [e]
          have hB0 : vB d w r C (gRk d w r H1 17 0 u) := hB.of (fun q i hq => rkn q i (by omega))
          have gi0 := hg.of (H' := gRk d w r H1 17 0 u) gW17 rkn
          have ea : gAt d w r (gRk d w r H1 17 0 u) u = gAt d w r H1 u := gAt_of (rkn 13 u (by decide))
          have lv := hB.1.2.live hk hg.2 hK hur hu.1
          have bp := (hB0.put hk gi0.2 hur (by rw [rkn 13 u (by decide)]; exact hu.1) (wd := 17) (at' := 0) (by decide) (fun i i0 i1 => by rw [hrk i i0 i1]; exact hB.1.1 u i)).1
          rw [ea] at bp
          have eC : vB d w r C (gPut (gRk d w r H1 17 0 u) (gAt d w r H1 u) (u % gPo d w + 1) 17 0) := by
            obtain ⟨⟨b1, b2⟩, b3⟩ := bp
            refine ⟨⟨hB.1.1, fun s s0 s1 ps => ?_⟩, b3⟩
            obtain ⟨c1, c2⟩ := b2 s s0 s1 ps
            refine ⟨c1, fun i i0 i1 => ?_⟩
            rw [c2 i i0 i1]
            by_cases y : s = u
            · rw [y, vUp_at ⟨i0, i1⟩]; exact hrk i i0 i1
            · exact vUp_ne y
          obtain ⟨m0, -, -, -, m35⟩ := mPw_all (M := M1) (x := H1 13 u) (o := u / gPo d w) (as := u % gPo d w + 1)
          have on2 : mPw M1 (H1 13 u) (u / gPo d w) (u % gPo d w + 1) 35 12 = 1 := by rw [m35, if_neg (by decide), if_neg (by decide)]; exact onM
          have hK0 : rK d r (gRk d w r H1 17 0 u) M1 := hK.of (fun q i hq => rkn q i (by omega)) (fun _ _ _ => rfl)
          have hR0 : rL (gRk d w r H1 17 0 u) M1 := hR.of (fun i _ => rkn 3 i (by decide)) (fun _ _ => rfl)
          have hL0 : vL d r (gRk d w r H1 17 0 u) := hL.of (fun q i hq => rkn q i (by omega))
          have vs : vS d w r C (gPut (gRk d w r H1 17 0 u) (gAt d w r H1 u) (u % gPo d w + 1) 17 0) (mPw M1 (H1 13 u) (u / gPo d w) (u % gPo d w + 1)) := by
            refine ⟨⟨eC, ?_, hP⟩, hK0.put hk lv.1 (by omega) lv.2 (by decide), hR0.put (by decide) (by rw [rkn 3 11 (by decide), e3]; exact z), ⟨on2, by rw [m35, if_neg (by decide), if_neg (by decide)]; exact nc⟩, fun s s0 s1 => ?_⟩
            · have := hL0.put (s := u) (tag := u % gPo d w + 1) (wd := 17) (at' := 0) hk hur (by decide)
              rw [ea] at this
              exact this
            · rw [gPut_ne (by decide), rkn 13 s (by decide), pl s s0 s1]
              exact (mPs_of onM on2 (fun i => m0 41 i (by decide) (by decide) (by decide) (by decide))).symm
          refine ⟨_, rfl, fun q i hq => by rw [gPut_ne (by omega), rkn q i (by omega)]; exact f1 q i hq, on, rfl, hM1.vol hn vs gi0.put (fun q i a b c e f g k l => by rw [gPut_ne ⟨a, b, c, e, f, g⟩, rkn q i l]) (fun q i a b c e f => ?_)⟩
          show mPw M1 (H1 13 u) (u / gPo d w) (u % gPo d w + 1) q i = M1 q i
          by_cases g : q = 35
          · rw [g, m35, if_neg (by omega), if_neg (by omega)]
          · exact m0 q i g b c e
      · rw [hF] at hb
        have e : mScU d w M1 F = (0, M1) := by
          unfold mScU
          rw [gFirst_un (n := w) (fun k k0 k1 z => hb (F + k) (by omega) (by omega) ((r_spt hk hg.2 hK pl (by omega)).mpr z)), if_pos rfl]
        rw [e]
        exact ⟨rfl, hM1.1.w17 e', Or.inl ⟨C, hn.w17 e'⟩⟩
      · rw [hF] at hs ⊢
        -- the stripe adds up
        have sF := hs F (by omega) (by omega)
        have er : gRk d w r H1 17 0 F 17 i = C F i := by
          have z : zfil H1 17 0 8 17 i = 0 := by unfold zfil; rw [if_pos ⟨rfl, by omega, by omega⟩]
          unfold gRk gAO
          rw [if_pos ⟨rfl, by omega, by omega⟩, z, show F - F % w = F by omega]
          have e := PF.rec (o := F) (v := 0) hB.1.1 ⟨by omega, by omega⟩ ⟨i0, i1⟩ rfl
          rw [zlxor_zero' (hB.1.1 F i)] at e
          rw [← e]
          refine gXs_congr _ _ _ (fun u u0 u1 => ⟨⟨fun q => q.1, fun q => ⟨q, ?_⟩⟩, fun q => ?_⟩)
          · rw [zfil_ne (by decide)]
            exact (hs u u0 (by omega)).1
          · have at'' : gAt d w r (zfil H1 17 0 8) u = gAt d w r H1 u := gAt_of (zfil_ne (by decide))
            rw [at'', zfil_ne (by decide), show i - 0 = i by omega]
            exact (hB.1.2 u (by omega) (by omega) (hs u u0 (by omega)).1).2 i i0 i1
        rw [er, (hB.1.2 F (by omega) (by omega) sF.1).2 i i0 i1, zlxor_self]
    · exact v_163 (v_172 ⟨fun u => absurd off u, fun _ => ⟨ht, by decide, rfl, rfl, off⟩⟩)
  · obtain ⟨on, ev, q⟩ := q
    have onM : M 35 12 = 1 := by rcases hM.on with u | u <;> omega
    have nx := hM.1.2.2.1
    have ms := hM.1.1.2.1
    have e2 : M 35 2 = w := ms.2.2.2.1.2.1
    have e3 : M 35 3 = r := ms.2.2.2.1.2.2.1
    have e4 : M 35 4 = gGr d w := ms.2.2.2.1.2.2.2.1
    have n0 : 0 ≤ M 35 15 ∧ M 35 15 < r * gGr d w := by rw [← nx.1]; exact nx.2.1
    have st : r * gGr d w ≤ 320 := by
      have := Int.mul_le_mul (show r ≤ 64 by have := hk.2.2.2.2.2.2; omega) (show gGr d w ≤ 5 by omega) (by omega) (by omega)
      omega
    have sn : mS d w r L (mNx d w r M) := (ms.upd (o := 35) (i := 0) (v := 0) (by omega)).upd (by omega)
    have onN : mNx d w r M 35 12 = 1 := by unfold mNx; rw [zupd_no (by decide), zupd_no (by decide)]; exact onM
    have okN : mOk d w r (mNx d w r M) := fun row p r0 r1 p0 p1 => by
      have := hM.mok row p r0 r1 p0 p1
      have e : mPl d w (mNx d w r M) row p = mPl d w M row p := by
        unfold mPl
        rw [if_neg (by rw [onN]; decide), if_neg (by rw [onM]; decide)]
        unfold mNx
        rw [zupd_ne (by decide), zupd_ne (by decide)]
      rw [e]; exact this
    obtain ⟨C, hn⟩ := hM.ison on
    have lN : -1 ≤ mNx d w r M 35 13 ∧ mNx d w r M 35 13 ≤ 2147483647 := by
      have := hn.1.2.2.1.l
      unfold mNx
      rw [zupd_no (by decide), zupd_no (by decide)]
      exact this
    have eq1 : r * gPo d w = w * (r * gGr d w) := by unfold gPo; rw [← Int.mul_assoc, ← Int.mul_assoc, Int.mul_comm r w]
    have hF : 0 ≤ w * M 35 15 ∧ w * M 35 15 < r * gPo d w ∧ (w * M 35 15) % w = 0 := by
      refine ⟨Int.mul_nonneg (by omega) n0.1, ?_, Int.mul_emod_right _ _⟩
      have := Int.mul_le_mul_of_nonneg_left (show M 35 15 + 1 ≤ r * gGr d w by omega) (show 0 ≤ w by omega)
      rw [Int.mul_add] at this
      omega
    have d1 : w * M 35 15 / gPo d w = M 35 15 / gGr d w := by unfold gPo; exact Int.mul_ediv_mul_of_pos _ _ (by omega)
    have d2 : w * M 35 15 % gPo d w = w * (M 35 15 % gGr d w) := by unfold gPo; exact Int.mul_emod_mul_of_pos _ _ (by omega)
    have run := m_sc (t := t) (Qr := fun b S2 => b = v ∧ ∃ H2, S2 = (t, L, H2) ∧ fM M H2 ∧ H2 35 0 = 0 ∧ rAll d w r t L H1 H2) (Qt := fun _ _ => False) sn okN lN hF ⟨ev.symm, _, rfl, fun q' i hq => by
      rw [mScU_fr.1 q' i hq]; unfold mNx; rw [zupd_ne (by omega), zupd_ne (by omega)], by
      rw [mScU_fr.2]; unfold mNx; rw [zupd_no (by decide), zupd_at], q⟩
    have gm := Int.emod_lt_of_pos (M 35 15) (show 0 < gGr d w by omega)
    have gn := Int.emod_nonneg (M 35 15) (show gGr d w ≠ 0 by omega)
    have wb : w * (M 35 15 % gGr d w) ≤ w * gGr d w := Int.mul_le_mul_of_nonneg_left (by omega) (by omega)
    have wb0 : 0 ≤ w * (M 35 15 % gGr d w) := Int.mul_nonneg (by omega) gn
    have wb1 : w * gGr d w = gPo d w := rfl
    have d16 := hk.2.1
    refine j_215 ⟨fun _ => j_215_13 (m_f0 ⟨fun _ => ⟨?_, ?_, ?_, ?_⟩, fun u => absurd rfl u⟩), fun u => absurd (by show M 35 12 ≠ 0; omega) u⟩
    · show zupd M 35 0 0 35 4 ≠ 0
      rw [zupd_no (by decide)]; omega
    · show zupd M 35 0 0 35 4 ≠ 0
      rw [zupd_no (by decide)]; omega
    · show z32 (zupd M 35 0 0 35 3 * zupd M 35 0 0 35 4) ≠ 0
      rw [zupd_no (by decide), zupd_no (by decide), e3, e4, z32_id (by omega) (by omega)]; omega
    · dsimp only
      rw [zupd_no (by decide), zupd_no (by decide), zupd_no (by decide), zupd_no (by decide), e2, e3, e4, z32_id (x := r * gGr d w) (by omega) (by omega), z32_id (x := M 35 15 + 1) (by omega) (by omega), zdiv_pos n0.1 (by omega) (by omega), zrem_pos n0.1, zrem_pos (show 0 ≤ M 35 15 + 1 by omega), z32_id (x := w * (M 35 15 % gGr d w)) (by omega) (by omega)]
      rw [d1, d2] at run
      exact run
  · obtain ⟨e, c⟩ := q
    have off : H 35 12 = 0 := by rcases h.on with u | u <;> omega
    exact ⟨1, by rw [e]; rfl, by decide, fun t' ht' => j_215 ⟨fun u => absurd off u, fun _ => j_215_13 (m_f1 ⟨fun u => absurd u (by decide), fun _ => rfl⟩)⟩⟩
end STEP2
