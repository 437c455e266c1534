/-! open: all logs, then the spares. -/
section OPEN3
variable {d w r : Int} {t : Nat} {L : Int → Int} {H M X : zHp} {Qr Qt : Int → zS → Prop} {C : Int → Int → Int} {O : Int → Int}
theorem o_logs (gi : gI d w r t L H) (ms : mS d w r L M) (h : oS d w r C O H M)
    (hok : ∀ C1 H1 M1, gI d w r t L H1 → mS d w r L M1 → oS d w r C1 O H1 M1 → vL d r H1 → kO H H1 → kOm M M1 → (∀ F FT, zEnds 118 201 56 [(29, 35), (0, 0), (9, 0), (9, 0)] [] (t, L, M1) F FT → zEnds 118 201 0 [(29, 35), (9, 0), (9, 0), (9, 0)] [] (t, L, M) F FT) → Qr 1 (t, L, H1))
    (hbad : ∀ H1 M1, gI d w r t L H1 → mS d w r L M1 → oX d w r H1 M1 → kO H H1 → kOm M M1 → mRet t L 201 0 [(29, 35), (9, 0), (9, 0), (9, 0)] M 0 M1 → Qr 0 (t, L, H1)) : zEnds 80 65 0 [(24, 16), (9, 0), (9, 0)] [] (t, L, H) Qr Qt := by
  have hk := gi.1.1
  have r48 := hk.2.2.2.2.2.1
  have r2 := hk.2.2.2.2.2.2
  have d2 := hk.2.1
  have l39 : L 39 = 1040 := ms.2.1.2.2.2.1
  have key : ∀ (n : Nat) (x : Int) (C1 : Int → Int → Int) (G N : zHp), 0 ≤ x → x + n = d → gI d w r t L G → mS d w r L N → oS d w r C1 O G N → (vL d r G ∨ ∀ y, 0 ≤ y → y < x → G 5 (gCe r y r) ≠ 0 → G 7 (gCe r y r) ≤ 0) → kO H G → kOm M N → (∀ F FT, zEnds 118 201 2 [(29, 35), (0, x), (9, 0), (9, 0)] [] (t, L, N) F FT → zEnds 118 201 0 [(29, 35), (9, 0), (9, 0), (9, 0)] [] (t, L, M) F FT) → zEnds 80 65 2 [(24, 16), (0, x), (9, 0)] [] (t, L, G) Qr Qt := by
    intro n
    induction n with
    | zero =>
      intro x C1 G N x0 x1 g m o iv kH kM go
      have n0 : G 1 0 = d := g.1.2.2.1.1.1
      have e1 : N 35 1 = d := m.2.2.2.1.1
      refine v_65_2 ⟨fun _ => ⟨Or.inr rfl, ?_⟩, fun u => absurd (by show G 1 0 ≤ x; omega) u⟩
      have vl : vL d r G := by
        rcases iv with u | u
        · exact u
        · rcases o.1.2.1 with v | ⟨x', s, hx', hs, h3, vt⟩
          · exact v
          · have a := u x' hx'.1 (by omega) vt.1.1
            have b := gTag hk hs
            have c := vt.1.2.1
            omega
      exact hok C1 G N g m o vl kH kM (fun F FT hF => go F FT (v_201_2 ⟨fun _ => hF, fun u => absurd (by show N 35 1 ≤ x; omega) u⟩))
    | succ n ih =>
      intro x C1 G N x0 x1 g m o iv kH kM go
      have n0 : G 1 0 = d := g.1.2.2.1.1.1
      have n2 : G 1 2 = r := g.1.2.2.1.1.2.2.1
      have e1 : N 35 1 = d := m.2.2.2.1.1
      have e3 : N 35 3 = r := m.2.2.2.1.2.2.1
      have hx : 0 ≤ x ∧ x < d := by omega
      have ex : z32 (x + 1) = x + 1 := z32_id (by omega) (by omega)
      have hK := o.2.1.1
      have vm := hK.val hx (o := r) (by omega)
      have f0 : G 6 (gCe r x r) = 0 := o.1.1.2.2.2.1 x hx.1 hx.2
      have skip : ¬ (gVal G (gCe r x r) ∧ 0 < G 7 (gCe r x r)) → (∀ F FT, zEnds 118 201 2 [(29, 35), (0, x + 1), (9, 0), (9, 0)] [] (t, L, N) F FT → zEnds 118 201 2 [(29, 35), (0, x), (9, 0), (9, 0)] [] (t, L, N) F FT) := fun nt F FT hF => by
        refine v_201_2 ⟨fun u => absurd u (by show ¬ N 35 1 ≤ x; omega), fun _ => ?_⟩
        show zEnds 118 186 0 [(29, 35), (0, x), (0, N 35 3), (9, 0), (9, 0)] [] _ _ _
        rw [e3, ex]
        refine m_isValid m hx (by omega) (fun y => ⟨fun u => absurd u (by decide), fun _ => ?_⟩) (fun y => ⟨fun _ => hF, fun u => absurd rfl u⟩)
        show zEnds 118 183 0 [(0, x), (0, N 35 3)] [] _ _ _
        rw [e3]
        refine m_at (by omega) (by omega) ⟨by show 0 ≤ 65 * x + r ∧ 65 * x + r < L 39; omega, fun _ => hF, fun u => absurd ?_ u⟩
        have gv := vm.mpr y
        have lv := (hK.2.1 x r hx.1 hx.2 (by omega) (Int.le_refl _)).1.mp gv.1
        show N 39 (65 * x + r) ≤ 0
        rw [← (hK.2.1 x r hx.1 hx.2 (by omega) (Int.le_refl _)).2.1 lv.1 lv.2]
        exact Int.not_lt.mp (fun z => nt ⟨gv, z⟩)
      have next : ¬ (gVal G (gCe r x r) ∧ 0 < G 7 (gCe r x r)) → zEnds 80 65 2 [(24, 16), (0, x + 1), (9, 0)] [] (t, L, G) Qr Qt := fun nt => by
        refine ih (x + 1) C1 G N (by omega) (by omega) g m o ?_ kH kM (fun F FT hF => go F FT (skip nt F FT hF))
        rcases iv with u | u
        · exact Or.inl u
        · refine Or.inr (fun y y0 y1 a => ?_)
          by_cases c : y = x
          · rw [c] at a ⊢
            exact Int.not_lt.mp (fun z => nt ⟨⟨a, f0⟩, z⟩)
          · exact u y y0 (by omega) a
      refine v_65_2 ⟨fun u => absurd u (by show ¬ G 1 0 ≤ x; omega), fun _ => ?_⟩
      show zEnds 80 24 0 [(22, 3), (0, x), (0, G 1 2), (9, 0)] [] _ _ _
      rw [n2, ex]
      refine g_isValid g.1 hx (by omega) (fun gv => ⟨fun u => absurd u (by decide), fun _ => ?_⟩) (fun gv => ⟨fun _ => ⟨fun _ => next (fun z => gv z.1), fun u => absurd rfl u⟩, fun u => absurd rfl u⟩)
      show zEnds 80 25 0 [(22, 3), (0, x), (0, G 1 2)] [] _ _ _
      rw [n2]
      refine g_cellTag g.1 hx (by omega) ⟨fun u => ⟨fun _ => next (fun z => by have z2 := z.2; have u : G 7 (gCe r x r) ≤ 0 := u; omega), fun u => absurd rfl u⟩, fun u => ⟨fun z => absurd z (by decide), fun _ => ?_⟩⟩
      have tg : 0 < G 7 (gCe r x r) := by have u : ¬ G 7 (gCe r x r) ≤ 0 := u; omega
      have stepR : ∀ {N1 : zHp} {v : Int} {F FT : Int → zS → Prop}, (∀ F FT : Int → zS → Prop, F v (t, L, N1) → zEnds 118 200 0 [(29, 35), (0, x), (9, 0), (9, 0), (9, 0), (9, 0), (9, 0), (9, 0), (9, 0)] [] (t, L, N) F FT) → ((v ≠ 0 → zEnds 118 201 2 [(29, 35), (0, x + 1), (9, 0), (9, 0)] [] (t, L, N1) F FT) ∧ (¬ (v ≠ 0) → ((0 : Int) = 0 ∨ (0 : Int) = 1) ∧ F 0 (t, L, N1))) → zEnds 118 201 2 [(29, 35), (0, x), (9, 0), (9, 0)] [] (t, L, N) F FT := fun {N1 v F FT} a hF => by
        refine v_201_2 ⟨fun u => absurd u (by show ¬ N 35 1 ≤ x; omega), fun _ => ?_⟩
        show zEnds 118 186 0 [(29, 35), (0, x), (0, N 35 3), (9, 0), (9, 0)] [] _ _ _
        rw [e3, ex]
        refine m_isValid m hx (by omega) (fun y => ⟨fun u => absurd u (by decide), fun _ => ?_⟩) (fun y => absurd (vm.mp gv) y)
        show zEnds 118 183 0 [(0, x), (0, N 35 3)] [] _ _ _
        rw [e3]
        refine m_at (by omega) (by omega) ⟨by show 0 ≤ 65 * x + r ∧ 65 * x + r < L 39; omega, fun u => absurd u ?_, fun _ => a _ _ hF⟩
        have lv := (hK.2.1 x r hx.1 hx.2 (by omega) (Int.le_refl _)).1.mp gv.1
        show ¬ N 39 (65 * x + r) ≤ 0
        rw [← (hK.2.1 x r hx.1 hx.2 (by omega) (Int.le_refl _)).2.1 lv.1 lv.2]
        omega
      refine o_log g m o hx gv tg (fun C2 H2 M2 a1 a2 a3 a4 a5 a6 a7 => ⟨fun _ => ?_, fun u => absurd (by decide) u⟩) (fun H2 M2 a1 a2 a3 a5 a6 a7 => ⟨fun u => absurd rfl u, fun _ => ⟨Or.inl rfl, ?_⟩⟩)
      · exact ih (x + 1) C2 H2 M2 (by omega) (by omega) a1 a2 a3 (Or.inl a4) (kH.tr a5) (kM.tr a6) (fun F FT hF => go F FT (stepR a7 ⟨fun _ => hF, fun u => absurd (by decide) u⟩))
      · exact hbad H2 M2 a1 a2 a3 (kH.tr a5) (kM.tr a6) (fun F FT hF => go F FT (stepR a7 ⟨fun u => absurd rfl u, fun _ => ⟨Or.inl rfl, hF⟩⟩))
  exact v_65 (key d.toNat 0 C H M (by decide) (by have := hk.1; omega) gi ms h (Or.inr (fun y y0 y1 => by omega)) kO.rfl' kOm.rfl' (fun F FT hF => v_201 hF))
/-- a spare that is no place is wiped -/
theorem oS.spare {row q : Int} (hk : gOK d w r) (h : oS d w r C O H M) (vl : vL d r H) (hr : 0 ≤ row ∧ row < r) (hq : gPo d w ≤ q ∧ q < d) (hf : ∀ u, 0 ≤ u → u < r * gPo d w → u / gPo d w = row → H 13 u ≠ gDk d row q) (h3 : H 3 11 ≠ 1) (hl : M 37 (gDk d row q) ≠ 0) : oS d w r C O (gPut H (gCe r (gDk d row q) row) 0 11 0) (mPw M (gDk d row q) row 0) ∧ vL d r (gPut H (gCe r (gDk d row q) row) 0 11 0) := by
  obtain ⟨⟨bw, lo, ls, uq⟩, ⟨hK, hL⟩, on, pl, cut, vv, J, dp⟩ := h
  have r48 := hk.2.2.2.2.2.1
  have hg := gDk_rg (row := row) (pos := q) hk
  have hw : (11 : Int) ≠ 3 ∧ (11 : Int) ≠ 8 := by decide
  obtain ⟨g0, g5, g6, g7, -⟩ := gPut_all (H := H) (c := gCe r (gDk d row q) row) (tag := 0) (wd := 11) (at' := 0) hw
  obtain ⟨m43, mR, m12, m19, m20⟩ := mPw_v (M := M) (x := gDk d row q) (o := row) (as := 0)
  have e13 : ∀ u, gPut H (gCe r (gDk d row q) row) 0 11 0 13 u = H 13 u := fun u => g0 13 u (by decide) (by decide) (by decide) (by decide) (by decide) (by decide)
  obtain ⟨b1, -, b3, b4⟩ := bw.wipe hk hr ⟨q, hq, rfl⟩ hf
  have low : ∀ y, gCe r y r ≠ gCe r (gDk d row q) row := fun y e => by
    have := (gCe_inj hk (by omega) (by omega) e).2
    omega
  have vl1 : vL d r (gPut H (gCe r (gDk d row q) row) 0 11 0) := fun y y0 y1 u => by
    rw [g7, if_neg (low y)]
    rw [g5, if_neg (low y)] at u
    exact vl y y0 y1 u
  have uq1 : vUq d w r (gPut H (gCe r (gDk d row q) row) 0 11 0) := fun row' a b r0 r1 a0 a1 b0 b1' va vb ta te => by
    have na : gCe r (gDk d row' a) row' ≠ gCe r (gDk d row q) row := fun e => by
      rw [g7, if_pos e] at ta
      exact ta rfl
    have nb : gCe r (gDk d row' b) row' ≠ gCe r (gDk d row q) row := fun e => by
      rw [g7, if_neg na, g7, if_pos e] at te
      rw [g7, if_neg na] at ta
      exact ta te
    unfold gVal at va vb
    rw [g5, g6, if_neg na, if_neg na] at va
    rw [g5, g6, if_neg nb, if_neg nb] at vb
    rw [g7, if_neg na] at ta
    rw [g7, if_neg na, g7, if_neg nb] at te
    exact uq row' a b r0 r1 a0 a1 b0 b1' va vb ta te
  refine ⟨⟨⟨b1, vl1.log, Or.inl vl1, uq1⟩, ⟨hK.put hk hg (by omega) hl hw, hL.put hw h3⟩, by rw [m12]; exact on, fun s s0 s1 => ?_, ?_, by rw [m43]; exact vv, by rw [m43]; exact J, by rw [m20, m19, mR]; exact dp⟩, vl1⟩
  · rw [e13, pl s s0 s1]
    exact (mPs_of on (by rw [m12]; exact on) (fun i => mPw_all.1 41 i (by decide) (by decide) (by decide) (by decide))).symm
  · rcases cut with u | ⟨u1, u2, ⟨v1, v2, v3, v4⟩, v5⟩
    · exact Or.inl (by rw [m20]; exact u)
    · refine Or.inr ⟨by rw [m20]; exact u1, by rw [m19]; exact u2, ?_, b3 v5⟩
      rw [m19]
      have hs := gSo_rg hk u2
      refine ⟨(b4 _ hs.1.1 hs.1.2).mp v1, fun z => ?_, ⟨v3.1, fun y y0 y1 a b => absurd (vl1 y y0 y1 a) b⟩, v4⟩
      rw [e13] at z
      rw [e13, g5, g7, if_neg (low _), if_neg (low _)]
      exact v2 z
/-- what was looked at up to a spare -/
def oD (d w r row q : Int) (H : zHp) : Prop := ∀ row' q', 0 ≤ row' → row' < r → gPo d w ≤ q' → q' < d → (row' < row ∨ (row' = row ∧ q' < q)) → gVal H (gCe r (gDk d row' q') row') → H 7 (gCe r (gDk d row' q') row') ≠ 0 → ∃ u, (0 ≤ u ∧ u < r * gPo d w) ∧ u / gPo d w = row' ∧ H 13 u = gDk d row' q'
theorem oD.sp (hk : gOK d w r) (hA : vA d w r C H) (h : oD d w r r 0 H) : vSp d w r H := fun row q r0 r1 q0 q1 v tg => by
  obtain ⟨u, hu, e1, e2⟩ := h row q r0 r1 q0 q1 (Or.inl r1) v tg
  have g := gSp_rg hk hu
  have hg := gDk_rg (row := row) (pos := q) hk
  have a := (hA u hu.1 hu.2 (by rw [e2]; omega)).1.2.1
  unfold gAt at a
  rw [e1, e2] at a
  refine ⟨u % gPo d w, g.2.1, a, ?_⟩
  have := gSpot_of (s := u) hk
  rw [e1] at this
  rw [this]
  exact e2
theorem o_spares (gi : gI d w r t L H) (ms : mS d w r L M) (h : oS d w r C O H M) (vl : vL d r H)
    (hok : ∀ H1 M1, gI d w r t L H1 → mS d w r L M1 → oS d w r C O H1 M1 → vL d r H1 → vSp d w r H1 → kO H H1 → kOm M M1 → mRet t L 201 56 [(29, 35), (0, 0), (9, 0), (9, 0)] M 1 M1 → Qr 1 (t, L, H1))
    (hbad : ∀ H1 M1, gI d w r t L H1 → mS d w r L M1 → oX d w r H1 M1 → kO H H1 → kOm M M1 → mRet t L 201 56 [(29, 35), (0, 0), (9, 0), (9, 0)] M 0 M1 → Qr 0 (t, L, H1)) : zEnds 80 67 0 [(24, 16), (9, 0), (9, 0)] [] (t, L, H) Qr Qt := by
  have hk := gi.1.1
  have r48 := hk.2.2.2.2.2.1
  have r2 := hk.2.2.2.2.2.2
  have d2 := hk.2.1
  have d1 := hk.1
  have w3 := hk.2.2.1
  have po := gPo_rg hk
  have l39 : L 39 = 1040 := ms.2.1.2.2.2.1
  have fst : ∀ (m : Nat) (n : Nat) (row q : Int) (G N : zHp), 0 ≤ row → row + m = r → gPo d w ≤ q → q + n = d → gI d w r t L G → mS d w r L N → oS d w r C O G N → vL d r G → oD d w r row q G → kO H G → kOm M N → (∀ F FT, zEnds 118 201 74 [(29, 35), (0, row), (0, q), (9, 0)] [] (t, L, N) F FT → zEnds 118 201 56 [(29, 35), (0, 0), (9, 0), (9, 0)] [] (t, L, M) F FT) →
      (∀ (G N : zHp), gI d w r t L G → mS d w r L N → oS d w r C O G N → vL d r G → oD d w r (row + 1) 0 G → kO H G → kOm M N → (∀ F FT, zEnds 118 201 56 [(29, 35), (0, row + 1), (9, 0), (9, 0)] [] (t, L, N) F FT → zEnds 118 201 56 [(29, 35), (0, 0), (9, 0), (9, 0)] [] (t, L, M) F FT) → zEnds 80 67 2 [(24, 16), (0, row + 1), (9, 0)] [] (t, L, G) Qr Qt) → row < r → zEnds 80 67 21 [(24, 16), (0, row), (0, q)] [] (t, L, G) Qr Qt := by
    intro m n
    induction n with
    | zero =>
      intro row q G N r0 r1 q0 q1 g mN o vG dG kH kM go up hr
      have n0 : G 1 0 = d := g.1.2.2.1.1.1
      have e1 : N 35 1 = d := mN.2.2.2.1.1
      refine v_67_21 ⟨fun _ => ?_, fun u => absurd (by show G 1 0 ≤ q; omega) u⟩
      rw [z32_id (x := row + 1) (by omega) (by omega)]
      refine up G N g mN o vG (fun a b a0 a1 b0 b1 c => dG a b a0 a1 b0 b1 (by omega)) kH kM (fun F FT hF => go F FT (v_201_74 ⟨fun _ => ?_, fun u => absurd (by show N 35 1 ≤ q; omega) u⟩))
      rw [z32_id (x := row + 1) (by omega) (by omega)]
      exact hF
    | succ n ih =>
      intro row q G N r0 r1 q0 q1 g mN o vG dG kH kM go up hr
      have n0 : G 1 0 = d := g.1.2.2.1.1.1
      have e1 : N 35 1 = d := mN.2.2.2.1.1
      have hq : gPo d w ≤ q ∧ q < d := by omega
      have hg := gDk_rg (row := row) (pos := q) hk
      have eq : z32 (q + 1) = q + 1 := z32_id (by omega) (by omega)
      have hK := o.2.1.1
      have pl := o.2.2.2.1
      have vm := hK.val hg (o := row) (by omega)
      have fr := r_free (q := q) hk hK pl ⟨r0, hr⟩ (by omega)
      have lvf : gVal G (gCe r (gDk d row q) row) → N 37 (gDk d row q) ≠ 0 ∧ N 38 (65 * gDk d row q + row) ≠ 0 := fun v => (hK.2.1 _ row hg.1 hg.2 r0 (by omega)).1.mp v.1
      have tge : gVal G (gCe r (gDk d row q) row) → G 7 (gCe r (gDk d row q) row) = N 39 (65 * gDk d row q + row) := fun v => (hK.2.1 _ row hg.1 hg.2 r0 (by omega)).2.1 (lvf v).1 (lvf v).2
      -- nothing to wipe
      have next : ¬ (gVal G (gCe r (gDk d row q) row) ∧ 0 < G 7 (gCe r (gDk d row q) row) ∧ gFree d w r G row q) → zEnds 80 67 21 [(24, 16), (0, row), (0, q + 1)] [] (t, L, G) Qr Qt := fun nt => by
        refine ih row (q + 1) G N r0 r1 (by omega) (by omega) g mN o vG (fun a b a0 a1 b0 b1 c v tg => ?_) kH kM (fun F FT hF => go F FT ?_) up hr
        · by_cases e : a = row ∧ b = q
          · obtain ⟨ea, eb⟩ := e
            subst ea eb
            obtain ⟨p, hp, ep, -⟩ := o.1.1.1.2.2.2 a b a0 a1 b0 b1 v tg
            have nf : ¬ gFree d w r G a b := fun z => nt ⟨v, by omega, z⟩
            apply Classical.byContradiction
            intro z
            refine nf ⟨by rw [hK.1 _ hg.1 hg.2]; exact (lvf v).1, fun u u0 u1 y => z ?_⟩
            have m2 : 0 ≤ a * gPo d w := Int.mul_nonneg a0 (by omega)
            have rg := gRow_of (row := a) (p := u - a * gPo d w) hk (by omega)
            have sr := gSpot_rg (row := a) (p := u - a * gPo d w) hk ⟨a0, a1⟩ (by omega)
            rw [show a * gPo d w + (u - a * gPo d w) = u by omega] at rg sr
            exact ⟨u, sr, rg.1, y⟩
          · exact dG a b a0 a1 b0 b1 (by omega) v tg
        · refine v_201_74 ⟨fun u => absurd u (by show ¬ N 35 1 ≤ q; omega), fun _ => m_diskOf mN (by omega) (by omega) (m_holder mN ⟨r0, hr⟩ ?_)⟩
          rw [eq]
          refine ⟨fun _ => hF, fun nh => m_isValid mN hg (by omega) (fun y => ⟨fun u => absurd u (by decide), fun _ => ?_⟩) (fun y => ⟨fun _ => hF, fun u => absurd rfl u⟩)⟩
          refine m_at (by omega) (by omega) ⟨by show 0 ≤ 65 * gDk d row q + row ∧ 65 * gDk d row q + row < L 39; omega, fun _ => hF, fun u => absurd ?_ u⟩
          have gv := vm.mpr y
          have gf : gFree d w r G row q := fr.mpr ⟨(lvf gv).1, by omega⟩
          show N 39 (65 * gDk d row q + row) ≤ 0
          rw [← tge gv]
          exact Int.not_lt.mp (fun z => nt ⟨gv, z, gf⟩)
      refine v_67_21 ⟨fun u => absurd u (by show ¬ G 1 0 ≤ q; omega), fun _ => ?_⟩
      rw [eq]
      refine v_68 (g_diskOf g.1 (by omega) (by omega) (g_isValid g.1 hg (by omega) (fun gv => ⟨fun u => absurd u (by decide), fun _ => g_cellTag g.1 hg (by omega) ⟨fun u => ⟨Or.inl rfl, fun _ => next (fun z => by have z2 := z.2.1; have u : G 7 (gCe r (gDk d row q) row) ≤ 0 := u; omega), fun z => absurd rfl z⟩, fun u => g_isFreeSpare g.1 ⟨r0, hr⟩ (by omega) (fun gf => ⟨fun z => absurd z (by decide), fun _ => ⟨Or.inr rfl, fun z => absurd z (by decide), fun _ => ?_⟩⟩) (fun gf => ⟨fun _ => ⟨Or.inl rfl, fun _ => next (fun z => gf z.2.2), fun z => absurd rfl z⟩, fun z => absurd rfl z⟩)⟩⟩) (fun gv => ⟨fun _ => ⟨Or.inl rfl, fun _ => next (fun z => gv z.1), fun z => absurd rfl z⟩, fun z => absurd rfl z⟩)))
      have u : ¬ G 7 (gCe r (gDk d row q) row) ≤ 0 := u
      have hl := rL.l o.2.1.2
      have free : ∀ u, 0 ≤ u → u < r * gPo d w → u / gPo d w = row → G 13 u ≠ gDk d row q := fun u u0 u1 e => by
        have g2 := gSp_rg hk (s := u) ⟨u0, u1⟩
        have := gSpot_of (s := u) hk
        rw [e] at this
        exact gf.2 u (by omega) (by omega)
      have stepR : ∀ {N1 : zHp} {v : Int} {F FT : Int → zS → Prop}, (∀ F FT : Int → zS → Prop, F v (t, L, N1) → zEnds 118 194 0 [(29, 35), (0, gDk d row q), (0, row), (0, 0), (9, 0)] [] (t, L, N) F FT) → ((v ≠ 0 → zEnds 118 201 74 [(29, 35), (0, row), (0, q + 1), (9, 0)] [] (t, L, N1) F FT) ∧ (¬ (v ≠ 0) → ((0 : Int) = 0 ∨ (0 : Int) = 1) ∧ F 0 (t, L, N1))) → zEnds 118 201 74 [(29, 35), (0, row), (0, q), (9, 0)] [] (t, L, N) F FT := fun {N1 v F FT} a hF => by
        refine v_201_74 ⟨fun u => absurd u (by show ¬ N 35 1 ≤ q; omega), fun _ => m_diskOf mN (by omega) (by omega) (m_holder mN ⟨r0, hr⟩ ?_)⟩
        rw [eq]
        refine ⟨fun z => absurd (fr.mp gf).2 (by omega), fun _ => m_isValid mN hg (by omega) (fun y => ⟨fun u => absurd u (by decide), fun _ => ?_⟩) (fun y => absurd (vm.mp gv) y)⟩
        refine m_at (by omega) (by omega) ⟨by show 0 ≤ 65 * gDk d row q + row ∧ 65 * gDk d row q + row < L 39; omega, fun z => absurd z ?_, fun _ => a _ _ hF⟩
        show ¬ N 39 (65 * gDk d row q + row) ≤ 0
        rw [← tge gv]
        exact u
      refine g_diskOf g.1 (by omega) (by omega) (g_wipe g hg (by omega) (fun y => ⟨fun z => absurd rfl z, fun _ => ⟨Or.inl rfl, ?_⟩⟩) (fun y => ⟨fun _ => ?_, fun z => absurd (by decide) z⟩))
      · have y0 : N 35 13 = 0 := (rL.z o.2.1.2).mp y
        exact hbad G (mOff N) g (kOm.off.s mN) o.off kH (kM.tr kOm.off) (fun F FT hF => go F FT (stepR (v := 0) (N1 := mOff N) (fun F FT h0 => m_putsC mN hg (by omega) hl (fun _ => h0) (fun z => absurd y0 z)) ⟨fun z => absurd rfl z, fun _ => ⟨Or.inl rfl, hF⟩⟩))
      · have y0 : N 35 13 ≠ 0 := fun z => y ((rL.z o.2.1.2).mpr z)
        obtain ⟨a1, a2⟩ := o.spare hk vG ⟨r0, hr⟩ hq free y (lvf gv).1
        have hw : (11 : Int) ≠ 3 ∧ (11 : Int) ≠ 8 := by decide
        obtain ⟨g0, g5, g6, g7, -⟩ := gPut_all (H := G) (c := gCe r (gDk d row q) row) (tag := 0) (wd := 11) (at' := 0) hw
        refine ih row (q + 1) _ (mPw N (gDk d row q) row 0) r0 r1 (by omega) (by omega) g.put (kOm.put.s mN) a1 a2 (fun a b a0 a1' b0 b1 c v tg => ?_) (kH.tr (kO.put hw)) (kM.tr kOm.put) (fun F FT hF => go F FT (stepR (v := 1) (fun F FT h1 => m_putsC mN hg (by omega) hl (fun z => absurd z y0) (fun _ => h1)) ⟨fun _ => hF, fun z => absurd (by decide) z⟩)) up hr
        have ne : gCe r (gDk d a b) a ≠ gCe r (gDk d row q) row := fun e => by
          rw [g7, if_pos e] at tg
          exact tg rfl
        have nab : ¬ (a = row ∧ b = q) := fun z => ne (by rw [z.1, z.2])
        unfold gVal at v
        rw [g5, g6, if_neg ne, if_neg ne] at v
        rw [g7, if_neg ne] at tg
        obtain ⟨u', h1, h2, h3⟩ := dG a b a0 a1' b0 b1 (by omega) v tg
        exact ⟨u', h1, h2, by rw [g0 13 u' (by decide) (by decide) (by decide) (by decide) (by decide) (by decide)]; exact h3⟩
  have key : ∀ (m : Nat) (row : Int) (G N : zHp), 0 ≤ row → row + m = r → gI d w r t L G → mS d w r L N → oS d w r C O G N → vL d r G → oD d w r row 0 G → kO H G → kOm M N → (∀ F FT, zEnds 118 201 56 [(29, 35), (0, row), (9, 0), (9, 0)] [] (t, L, N) F FT → zEnds 118 201 56 [(29, 35), (0, 0), (9, 0), (9, 0)] [] (t, L, M) F FT) → zEnds 80 67 2 [(24, 16), (0, row), (9, 0)] [] (t, L, G) Qr Qt := by
    intro m
    induction m with
    | zero =>
      intro row G N r0 r1 g mN o vG dG kH kM go
      have n2 : G 1 2 = r := g.1.2.2.1.1.2.2.1
      have e3 : N 35 3 = r := mN.2.2.2.1.2.2.1
      have er : row = r := by omega
      subst er
      refine v_67_2 ⟨fun _ => ⟨Or.inr rfl, hok G N g mN o vG (dG.sp hk o.1.1.1.2.1) kH kM (fun F FT hF => go F FT (v_201_56 ⟨fun _ => ⟨Or.inr rfl, hF⟩, fun u => absurd (by show N 35 3 ≤ row; omega) u⟩))⟩, fun u => absurd (by show G 1 2 ≤ row; omega) u⟩
    | succ m ihm =>
      intro row G N r0 r1 g mN o vG dG kH kM go
      have n2 : G 1 2 = r := g.1.2.2.1.1.2.2.1
      have n4 : G 1 4 = gPo d w := g.1.2.2.1.1.2.2.2.2.1
      have e3 : N 35 3 = r := mN.2.2.2.1.2.2.1
      have pm := mPo_z mN
      refine v_67_2 ⟨fun u => absurd u (by show ¬ G 1 2 ≤ row; omega), fun _ => ?_⟩
      show zEnds 80 67 21 [(24, 16), (0, row), (0, G 1 4)] [] _ _ _
      rw [n4]
      refine fst (m + 1) (d - gPo d w).toNat row (gPo d w) G N r0 r1 (Int.le_refl _) (by omega) g mN o vG (fun a b a0 a1 b0 b1 c => dG a b a0 a1 b0 b1 (by omega)) kH kM (fun F FT hF => go F FT (v_201_56 ⟨fun u => absurd u (by show ¬ N 35 3 ≤ row; omega), fun _ => ?_⟩)) (fun G' N' b1 b2 b3 b4 b5 b6 b7 b8 => ihm (row + 1) G' N' (by omega) (by omega) b1 b2 b3 b4 b5 b6 b7 b8) (by omega)
      show zEnds 118 201 74 [(29, 35), (0, row), (0, z32 (N 35 2 * N 35 4)), (9, 0)] [] _ _ _
      rw [pm]
      exact hF
  exact v_67 (key r.toNat 0 H M (by decide) (by omega) gi ms h vl (fun a b a0 a1 b0 b1 c => by omega) kO.rfl' kOm.rfl' (fun _ _ u => u))
end OPEN3
