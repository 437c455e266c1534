/-! make, write, cut, move and remove have one form. -/
section DOES2
variable {d w r : Int} {t : Nat} {L : Int → Int} {H M K N : zHp} {Qr Qt : Int → zS → Prop} {C : Int → Int → Int} {x : Int × aSt} {cm : Nat} {ca : List zV} {wh a b c e : Int}
/-- the class's operation -/
def oC (B : Int) (t : Nat) (L : Int → Int) (H : zHp) (A : aSt) (cm : Nat) (ca : List zV) (x : Int × aSt) : Prop := ∀ F : zHp, (∀ i, F 33 i = H 33 i) → fS F B 0 [] (zB8 F 19) L F → aE B A (zB8 F 19) → ∀ Qr Qt : Int → zS → Prop, tPost F B t L x Qr → zEnds 80 cm 0 ca [] (t, L, F) Qr Qt
/-- the reference's -/
def oM (d w r : Int) (t : Nat) (L : Int → Int) (M : zHp) (A : aSt) (wh a b c e : Int) (x : Int × aSt) : Prop := ∀ G N : zHp, (∀ i, G 42 i = M 42 i) → mA d w r G A L N → ∀ Qr Qt : Int → zS → Prop, mPost d w r G t L x Qr → zEnds 118 248 0 [(29, 35), (0, wh), (0, a), (0, b), (0, c), (0, e)] [] (t, L, N) Qr Qt
theorem oC.rg {B : Int} {A : aSt} {F : zHp} (h : oC B t L H A cm ca x) (hca : zlR ca) (h33 : ∀ i, F 33 i = H 33 i) (hF : fS F B 0 [] (zB8 F 19) L F) (hE : aE B A (zB8 F 19)) (hz : zhR (t, L, F)) : zEnds 80 cm 0 ca [] (t, L, F) (fun v S => v = x.1 ∧ ∃ n' X' β' K, S = (t, L, K) ∧ fS F B n' X' β' L K ∧ (0 ≤ x.1 → aE B x.2 β') ∧ zhR (t, L, K)) (fun _ _ => False) := by
  refine (zEnds_rg hca za_0 hz (h F h33 hF hE (fun v S => v = x.1 ∧ ∃ n' X' β' K, S = (t, L, K) ∧ fS F B n' X' β' L K ∧ (0 ≤ x.1 → aE B x.2 β')) (fun _ _ => False) (fun n' X' β' K a1 a2 => ⟨rfl, n', X', β', K, rfl, a1, a2⟩))).imp (fun v S u => ?_) (fun c S u => u.1)
  obtain ⟨⟨e, n', X', β', K, e2, a1, a2⟩, zz⟩ := u
  subst e2
  exact ⟨e, n', X', β', K, rfl, a1, a2, zz⟩
/-- the reference from its start, up to the answer of tries -/
theorem o_tries (hm : rCm d w r t L H M) (h : oM d w r t L M (mTr M) wh a b c e x)
    (h1 : 0 ≤ x.1 → ∀ G N, (∀ q i, ¬ (48 ≤ q ∧ q ≤ 50) → G q i = M q i) → mA d w r G x.2 L N → (∀ A', mA d w r G A' L N → ∀ (Qr' Qt' : Int → zS → Prop), (∀ M2, oP d w r L M M2 → Qr' 0 (t, L, M2)) → zEnds 118 223 0 [(29, 35)] [] (t, L, N) Qr' Qt') → zEnds 118 220 0 [(29, 35), (9, 0), (9, 0)] [] (t, L, N) (fun v3 S3 => (v3 ≤ 24 → zEnds 118 249 75 [(29, 35), (0, wh), (0, a), (0, b), (0, c), (0, e), (0, x.1)] [] S3 Qr Qt) ∧ (¬ (v3 ≤ 24) → zEnds 118 223 0 [(29, 35)] [] S3 (fun v4 S4 => zEnds 118 204 0 [(29, 35), (9, 0), (9, 0), (9, 0)] [] S4 (fun v5 S5 => ((0 : Int) ≤ v5 → zEnds 118 248 0 [(29, 35), (0, wh), (0, a), (0, b), (0, c), (0, e)] [] (S5.1, S5.2.1, zupd S5.2.2 35 29 (z32 (S5.2.2 35 29 + 1))) (fun v6 S6 => zEnds 118 249 75 [(29, 35), (0, wh), (0, a), (0, b), (0, c), (0, e), (0, v6)] [] S6 Qr Qt) Qt) ∧ (¬ ((0 : Int) ≤ v5) → Qr (-9) S5)) Qt) Qt)) Qt)
    (h0 : ¬ 0 ≤ x.1 → ∀ M2, oP d w r L M M2 → Qr x.1 (t, L, M2)) : zEnds 118 249 0 [(29, 35), (0, wh), (0, a), (0, b), (0, c), (0, e), (9, 0)] [] (t, L, M) Qr Qt := by
  refine j_249 (m_keepsAside hm.1.2.1.a (fun G' N g1 g48 g49 g50 hA1 => h G' N (fun i => g1 42 i (by omega) (by omega) (by omega)) hA1 _ _ (fun A' N' hA' hx => ?_)))
  have bb : ∀ A'', mA d w r G' A'' L N' → ∀ (Qr' Qt' : Int → zS → Prop), (∀ M2, oP d w r L M M2 → Qr' 0 (t, L, M2)) → zEnds 118 223 0 [(29, 35)] [] (t, L, N') Qr' Qt' := fun A'' hA'' Qr' Qt' hQ => m_bringsBack (A := mTr M) hA'' g48 g49 g50 (fun M2 hA2 => hQ M2 ⟨hA2.1, hA2.2.1, hA2.2.2.1, hA2.2.2.2.1, fun q i y => by rw [hA2.2.2.2.2 q i (by omega) (by omega) (by omega), g1 q i (by omega) (by omega) (by omega)]⟩)
  refine ⟨fun u => ?_, fun u => bb A' hA' _ _ (fun M2 hM2 => h0 u M2 hM2)⟩
  have e := hx u
  subst e
  exact h1 u G' N' (fun q i y => g1 q i (by omega) (by omega) (by omega)) hA' bb
/-- done -/
theorem o_done {n : Int} {X : List Int} {β' : Int → Int} {A' : aSt} {K2 G : zHp} (hm : rCm d w r t L H M) (hn : rOn d w r C H M) (hs : fS H (r * gGr d w * (w - 1)) n X β' L K) (hE : aE (r * gGr d w * (w - 1)) A' β') (gx : aGood (r * gGr d w * (w - 1)) A') (few : gCnt (mCh (r * gGr d w * (w - 1)) A' (M 43)) 25 (r * gGr d w * (w - 1) - 25).toNat ≤ 24)
    (k8 : K2 18 8 = 0) (k23 : ∀ b, 0 ≤ b → b < r * gGr d w * (w - 1) → K2 23 b = 0) (k23' : ∀ b, K2 23 b = 0 ∨ K2 23 b = 1) (fr : ∀ q i, q ≠ 23 → (q = 18 → i ≠ 8) → K2 q i = K q i) (hA : mA d w r G A' L N) (g1 : ∀ q i, ¬ (48 ≤ q ∧ q ≤ 50) → G q i = M q i) : rAll d w r t L (zupd K2 0 12 (z32 (K2 0 12 + 1))) (zupd N 35 28 (z32 (N 35 28 + 1))) := by
  have ef : ∀ q i, ¬ (q = 0 ∧ i = 12) → zupd K2 0 12 (z32 (K2 0 12 + 1)) q i = K2 q i := fun q i y => zupd_no y
  have eg : ∀ q i, ¬ (q = 35 ∧ i = 28) → zupd N 35 28 (z32 (N 35 28 + 1)) q i = N q i := fun q i y => zupd_no y
  have fk : ∀ q i, iFr q i → K q i = H q i := hs.2.1.1
  refine (o_end hm hn gx hE (fun j j0 j1 => ?_) (fun q i y => ?_) ?_ (fun b b0 b1 => ?_) (fun b => ⟨?_, ?_⟩) ?_ (fun j j0 j1 => ?_) (fun j j0 j1 => ?_) (fun j j0 j1 => ?_) (fun q i y1 y2 => ?_) (fun b b0 b1 u1 o j j0 j1 => ?_) few ?_).1
  · have z := hs.2.2 j j0
    unfold zB8 at z ⊢
    rw [ef 19 _ (by omega), fr 19 _ (by omega) (by omega)]
    exact z
  · rw [ef q i (by omega), fr q i (by omega) (by omega)]
    exact fk q i (by unfold iFr; omega)
  · rw [ef 18 8 (by omega)]; exact k8
  · rw [ef 23 b (by omega)]; exact k23 b b0 b1
  · rw [ef 22 b (by omega), fr 22 b (by omega) (by omega)]; exact (hs.2.1.2.2.2.2.2.2.1 b).1
  · rw [ef 23 b (by omega)]; exact k23' b
  · exact hA.1.upd (by omega)
  · rw [eg 45 j (by omega)]; exact hA.2.1 j j0 j1
  · rw [eg 46 j (by omega)]; exact hA.2.2.1 j j0 j1
  · rw [eg 47 j (by omega)]; exact hA.2.2.2.1 j j0 j1
  · rw [eg q i y2, hA.2.2.2.2 q i (by omega) (by omega) (by omega), g1 q i (by omega)]
  · rw [ef 22 b (by omega), fr 22 b (by omega) (by omega)] at u1
    rw [ef 19 _ (by omega), fr 19 _ (by omega) (by omega), ef 20 _ (by omega), fr 20 _ (by omega) (by omega)]
    exact o_um hn hm.1.1.1.1 hs hE b b0 b1 u1 o j j0 j1
  · rw [zupd_at, zupd_at, fr 0 12 (by omega) (by omega), fk 0 12 (by unfold iFr; omega), hA.2.2.2.2 35 28 (by omega) (by omega) (by omega), g1 35 28 (by omega), hn.2.2.1.2.2.2.2.2.1]
/-- does, there and here -/
theorem o_does (hca : zlR ca) (hz : zhR (t, L, H)) (hm : rCm d w r t L H M) (hn : rOn d w r C H M)
    (hop : oC (r * gGr d w * (w - 1)) t L H (mTr M) cm ca x) (hmo : oM d w r t L M (mTr M) wh a b c e x) (gd : 0 ≤ x.1 → aGood (r * gGr d w * (w - 1)) x.2)
    (hQ : ∀ v H1, fC H H1 → zEnds 118 249 0 [(29, 35), (0, wh), (0, a), (0, b), (0, c), (0, e), (9, 0)] [] (t, L, M) (fun b S2 => b = v ∧ ∃ M1, S2 = (t, L, M1) ∧ fM M M1 ∧ M1 35 0 = M 35 0 ∧ rAll d w r t L H1 M1) (fun _ _ => False) → Qr v (t, L, H1)) :
    zEnds 80 cm 0 ca [] (t, L, H) (fun v4 S4 => zEnds 80 175 0 [(20, 0), (0, v4)] [] S4 (fun v5 S5 => (v5 = 0 → zEnds 80 177 0 [(20, 0), (0, v4)] [] S5 (fun v6 S6 => Qr v6 S6) Qt) ∧ (¬ (v5 = 0) → zEnds 80 176 0 [(20, 0)] [] S5 (fun v7 S7 => (v7 = 0 → zEnds 80 177 0 [(20, 0), (0, (-9))] [] S7 (fun v8 S8 => Qr v8 S8) Qt) ∧ (¬ (v7 = 0) → zEnds 80 cm 0 ca [] S7 (fun v9 S9 => zEnds 80 177 0 [(20, 0), (0, v9)] [] S9 (fun v10 S10 => Qr v10 S10) Qt) Qt)) Qt)) Qt) Qt := by
  have hk : gOK d w r := hm.1.1.1.1
  have hB2 := gBl_ge hk
  refine (hop.rg hca (fun _ => rfl) hm.s hn.e hz).imp (fun v4 S4 u => ?_) (fun _ _ u => u.elim)
  obtain ⟨e4, n', X', β', K, eS, hs, hE, zK⟩ := u
  subst e4
  subst eS
  have ff : fC H K := fun q i hq => hs.2.1.1 q i (by unfold iFr; omega)
  have fm : ∀ N, oP d w r L M N → fM M N ∧ N 35 0 = M 35 0 := fun N hN => ⟨fun q i hq => hN.2.2.2.2 q i (by omega), hN.2.2.2.2 35 0 (by omega)⟩
  by_cases c0 : x.1 < 0
  · refine v_175 ⟨fun _ => ⟨Or.inl rfl, fun _ => v_177 ⟨fun u => by omega, fun _ => (o_undo (Qr := fun _ S2 => Qr x.1 S2) hm hn hs zK (fun K2 hA fc _ _ => hQ x.1 K2 fc ?_)).imp (fun _ _ u => u) (fun _ _ u => u.elim)⟩, fun u => absurd rfl u⟩, fun u => absurd c0 u⟩
    exact o_tries hm hmo (fun u => absurd u (by omega)) (fun _ M2 hM2 => ⟨rfl, M2, rfl, (fm M2 hM2).1, (fm M2 hM2).2, (hA M2 hM2).1⟩)
  · have x0 : 0 ≤ x.1 := by omega
    have hE := hE x0
    have gx := gd x0
    have cn := o_cnt hn hk hs hE gx zK
    refine v_175 ⟨fun u => absurd u c0, fun _ => i_countChanged hs ⟨fun u => ?_, fun u => ⟨Or.inl rfl, fun _ => v_177 ⟨fun _ => i_forget hs (fun K2 k8 k23 k23' fr => hQ x.1 _ ((ff.tr (fun q i hq => fr q i (by omega) (by omega))).upd (by decide)) ?_), fun y => absurd x0 y⟩, fun y => absurd rfl y⟩⟩⟩
    · -- too many
      refine (o_undo (Qr := fun _ S2 => zEnds 80 176 0 [(20, 0)] [] S2 (fun v7 S7 => (v7 = 0 → zEnds 80 177 0 [(20, 0), (0, (-9))] [] S7 (fun v8 S8 => Qr v8 S8) Qt) ∧ (¬ (v7 = 0) → zEnds 80 cm 0 ca [] S7 (fun v9 S9 => zEnds 80 177 0 [(20, 0), (0, v9)] [] S9 (fun v10 S10 => Qr v10 S10) Qt) Qt)) Qt) hm hn hs zK (fun K2 hA fc f33 zK2 => ?_)).imp (fun v S y => ⟨Or.inr rfl, fun z => absurd z (by decide), fun _ => y⟩) (fun _ _ y => y.elim)
      refine (o_first hm.1.2.1 hA zK2).imp (fun v7 S7 y => ?_) (fun _ _ y => y.elim)
      obtain ⟨hW, zS7⟩ := y
      obtain ⟨H1, M1, eS, f1, f2, f3, hc⟩ := hW M (oP.rfl' hm.1.2.1)
      subst eS
      have fc1 : fC H H1 := fc.tr f1
      have more : ∀ (Q1 Q2 : Int → zS → Prop), (∀ M2, oP d w r L M M2 → zEnds 118 204 0 [(29, 35), (9, 0), (9, 0), (9, 0)] [] (t, L, M2) (fun v5 S5 => ((0 : Int) ≤ v5 → zEnds 118 248 0 [(29, 35), (0, wh), (0, a), (0, b), (0, c), (0, e)] [] (S5.1, S5.2.1, zupd S5.2.2 35 29 (z32 (S5.2.2 35 29 + 1))) (fun v6 S6 => zEnds 118 249 75 [(29, 35), (0, wh), (0, a), (0, b), (0, c), (0, e), (0, v6)] [] S6 Q1 Q2) Q2) ∧ (¬ ((0 : Int) ≤ v5) → Q1 (-9) S5)) Q2) → zEnds 118 249 0 [(29, 35), (0, wh), (0, a), (0, b), (0, c), (0, e), (9, 0)] [] (t, L, M) Q1 Q2 := fun Q1 Q2 hq => by
        refine o_tries hm hmo (fun _ G N g1 hA2 bb => m_changes hA2 gx.1.1.1 hB2 ?_) (fun z => absurd x0 z)
        have e43 : G 43 = M 43 := funext (fun j => g1 43 j (by omega))
        rw [e43]
        exact ⟨fun z => absurd u (by omega), fun _ => bb x.2 hA2 _ _ (fun M2 hM2 => hq M2 hM2)⟩
      rcases hc with ⟨ev, g33, C1, v, v0, mk, on1, cm1, -⟩ | ⟨ev, ra, off, -⟩
      · subst ev
        refine ⟨fun z => absurd z (by decide), fun _ => ?_⟩
        have eT : mTr (zupd M1 35 29 (z32 (M1 35 29 + 1))) = mTr M := by
          have g : ∀ q, (q = 45 ∨ q = 46 ∨ q = 47) → zupd M1 35 29 (z32 (M1 35 29 + 1)) q = M q := fun q hq => funext (fun i => by rw [zupd_no (by omega)]; exact f2 q i (by omega))
          unfold mTr
          rw [g 45 (by omega), g 46 (by omega), g 47 (by omega)]
        have e1 := on1.e
        rw [eT] at e1
        refine (hop.rg hca (fun i => by rw [g33 i]; exact f33 i) cm1.s e1 zS7).imp (fun v9 S9 y => ?_) (fun _ _ y => y.elim)
        obtain ⟨e9, n3, X3, β3, K3, eS3, hs3, hE3, zK3⟩ := y
        subst e9
        subst eS3
        have hE3 := hE3 x0
        have ff3 : fC H K3 := fc1.tr (fun q i hq => hs3.2.1.1 q i (by unfold iFr; omega))
        refine v_177 ⟨fun _ => i_forget hs3 (fun K4 k8 k23 k23' fr => hQ x.1 _ ((ff3.tr (fun q i hq => fr q i (by omega) (by omega))).upd (by decide)) (more _ _ (fun M2 hM2 => ?_))), fun y => absurd x0 y⟩
        obtain ⟨H1', M1', eS', f1', f2', f3', hc'⟩ := hW M2 hM2
        have eH : H1 = H1' := congrArg (fun S : zS => S.2.2) eS'
        subst eH
        rcases hc' with ⟨-, -, C2, v2, v02, -, on2, cm2, mr⟩ | ⟨ev2, -⟩
        · refine mr _ _ ⟨fun _ => ?_, fun y => absurd v02 y⟩
          have fM2 : ∀ q i, (q < 35 ∨ 54 ≤ q) → zupd M1' 35 29 (z32 (M1' 35 29 + 1)) q i = M q i := fun q i hq => by rw [zupd_no (by omega), f2' q i (by omega)]; exact (fm M2 hM2).1 q i hq
          have hA0 : mA d w r (zupd M1' 35 29 (z32 (M1' 35 29 + 1))) (mTr M) L (zupd M1' 35 29 (z32 (M1' 35 29 + 1))) := ⟨cm2.1.2.1, fun j j0 j1 => by rw [zupd_no (by omega), f2' 45 j (by omega)]; exact hM2.2.1 j j0 j1, fun j j0 j1 => by rw [zupd_no (by omega), f2' 46 j (by omega)]; exact hM2.2.2.1 j j0 j1, fun j j0 j1 => by rw [zupd_no (by omega), f2' 47 j (by omega)]; exact hM2.2.2.2.1 j j0 j1, fun _ _ _ _ _ => rfl⟩
          refine hmo _ _ (fun i => by rw [zupd_no (by omega), f2' 42 i (by omega)]; exact hM2.2.2.2.2 42 i (by omega)) hA0 _ _ (fun A'' N'' hA'' hx'' => ?_)
          have ea := hx'' x0
          subst ea
          have few3 := hs3.few mk
          rw [o_cnt on2 hk hs3 hE3 gx zK3] at few3
          refine j_249_75 ⟨rfl, _, rfl, fun q i hq => ?_, ?_, o_done cm2 on2 hs3 hE3 gx few3 k8 k23 k23' fr hA'' (fun q i _ => rfl)⟩
          · show zupd N'' 35 28 _ q i = M q i
            rw [zupd_no (by omega), hA''.2.2.2.2 q i (by omega) (by omega) (by omega)]
            exact fM2 q i hq
          · show zupd N'' 35 28 _ 35 0 = M 35 0
            rw [zupd_no (by omega), hA''.2.2.2.2 35 0 (by omega) (by omega) (by omega), zupd_no (by omega), f3']
            exact (fm M2 hM2).2
        · exact absurd ev2 (by decide)
      · subst ev
        refine ⟨fun _ => v_177 ⟨fun z => absurd z (by decide), fun _ => i_undo ra.1.s (fun K3 k8 k23 k23' _ fr => hQ (-9) K3 (fc1.tr (fun q i hq => fr q i (by omega) (by omega) (by omega))) (more _ _ (fun M2 hM2 => ?_)))⟩, fun z => absurd rfl z⟩
        obtain ⟨H1', M1', eS', f1', f2', f3', hc'⟩ := hW M2 hM2
        have eH : H1 = H1' := congrArg (fun S : zS => S.2.2) eS'
        subst eH
        rcases hc' with ⟨ev2, -⟩ | ⟨-, ra2, off2, mr⟩
        · exact absurd ev2 (by decide)
        · refine mr _ _ ⟨fun z => absurd z (by decide), fun _ => ⟨rfl, M1', rfl, fun q i hq => ?_, ?_, o_off ra2 off2 k8 k23 k23' fr⟩⟩
          · show M1' q i = M q i
            rw [f2' q i (by omega)]; exact (fm M2 hM2).1 q i hq
          · show M1' 35 0 = M 35 0
            rw [f3']; exact (fm M2 hM2).2
    · -- as many as may be
      rw [cn] at u
      refine o_tries hm hmo (fun _ G N g1 hA bb => m_changes hA gx.1.1.1 hB2 ?_) (fun y => absurd x0 y)
      have e43 : G 43 = M 43 := funext (fun j => g1 43 j (by omega))
      rw [e43]
      refine ⟨fun _ => j_249_75 ⟨rfl, _, rfl, ?_, ?_, o_done hm hn hs hE gx (by omega) k8 k23 k23' fr hA g1⟩, fun y => absurd u (by omega)⟩
      · intro q i hq
        show zupd N 35 28 _ q i = M q i
        rw [zupd_no (by omega), hA.2.2.2.2 q i (by omega) (by omega) (by omega), g1 q i (by omega)]
      · show zupd N 35 28 _ 35 0 = M 35 0
        rw [zupd_no (by omega), hA.2.2.2.2 35 0 (by omega) (by omega) (by omega), g1 35 0 (by omega)]
end DOES2
