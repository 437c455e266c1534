/-- a loop that counts up to b; x is what else its variables hold -/
theorem zfor {σ : Type} {md m pc : Nat} {Qr Qt : Int → zS → Prop} (ls : Int → σ → List zV) (inv : Int → σ → zS → Prop) (b : Int)
    (hstep : ∀ i x S, i < b → inv i x S → (∀ y S', inv (i + 1) y S' → zEnds md m pc (ls (i + 1) y) [] S' Qr Qt) → zEnds md m pc (ls i x) [] S Qr Qt)
    (hend : ∀ x S, inv b x S → zEnds md m pc (ls b x) [] S Qr Qt) : ∀ (i : Int) (x : σ) (S : zS), i ≤ b → inv i x S → zEnds md m pc (ls i x) [] S Qr Qt := by
  have key : ∀ (n : Nat) (i : Int) (x : σ) (S : zS), i + n = b → inv i x S → zEnds md m pc (ls i x) [] S Qr Qt := by
    intro n
    induction n with
    | zero =>
      intro i x S e h
      have e : i = b := by omega
      rw [e] at h ⊢
      exact hend x S h
    | succ n ih =>
      intro i x S e h
      exact hstep i x S (by omega) h (fun y S' h' => ih (i + 1) y S' (by omega) h')
  intro i x S hi h
  exact key (b - i).toNat i x S (by omega) h
theorem zupd_ne {H : Int → Int → Int} {o i v q j : Int} (h : q ≠ o) : zupd H o i v q j = H q j := by
  unfold zupd
  rw [if_neg (fun z => h z.1)]
theorem zupd_at {H : Int → Int → Int} {o i v : Int} : zupd H o i v o i = v := by
  unfold zupd
  rw [if_pos ⟨rfl, rfl⟩]
theorem zupd_no {H : Int → Int → Int} {o i v q j : Int} (h : ¬ (q = o ∧ j = i)) : zupd H o i v q j = H q j := by
  unfold zupd
  rw [if_neg h]
theorem zcpy_ne {H : Int → Int → Int} {s sp o dp n q j : Int} (h : q ≠ o) : zcpy H s sp o dp n q j = H q j := by
  unfold zcpy
  rw [if_neg (fun z => h z.1)]
theorem zfil_ne {H : Int → Int → Int} {o f n q j : Int} (h : q ≠ o) : zfil H o f n q j = H q j := by
  unfold zfil
  rw [if_neg (fun z => h z.1)]
/-! Putting cells: as functions of the heap, with what they answer. -/
abbrev zHp : Type := Int → Int → Int
/-- Rack.put: the answer, the heap -/
noncomputable def fPr (H : zHp) (c tag wd at' : Int) : Int × zHp := if H 3 11 = 1 then (0, H) else (1, gPut H c tag wd at')
theorem gMend_ne {H : zHp} {c q i : Int} (h : q ≠ 6 ∧ q ≠ 9) : gMend H c q i = H q i := by
  unfold gMend
  by_cases z : H 6 c = 0
  · rw [if_pos z]
  · rw [if_neg z]
    unfold zfil zupd
    rw [if_neg (fun y => h.2 y.1), if_neg (fun y => h.1 y.1)]
theorem gPut_ne {H : zHp} {c tag wd at' q i : Int} (h : q ≠ 3 ∧ q ≠ 5 ∧ q ≠ 6 ∧ q ≠ 7 ∧ q ≠ 8 ∧ q ≠ 9) : gPut H c tag wd at' q i = H q i := by
  unfold gPut
  rw [gMend_ne ⟨h.2.2.1, h.2.2.2.2.2⟩, zupd_ne h.2.1, zupd_ne h.2.2.2.1, zcpy_ne h.2.2.2.2.1, zupd_ne h.1]
  by_cases z : H 3 11 ≤ 1
  · rw [if_pos z]
  · rw [if_neg z, zupd_ne h.1]
theorem gS.put {d w r c tag wd at' : Int} {t : Nat} {L : Int → Int} {H : zHp} (h : gS d w r (t, L, H)) : gS d w r (t, L, gPut H c tag wd at') := by
  unfold gPut
  refine gS.mend (gS.upd (gS.upd (gS.cpy (gS.upd ?_ (by omega) (by omega)) (by omega)) (by omega) (by omega)) (by omega) (fun _ => Or.inr rfl))
  by_cases z : H 3 11 ≤ 1
  · rw [if_pos z]; exact h
  · rw [if_neg z]
    exact h.upd (by omega) (by omega)
def gI (d w r : Int) (t : Nat) (L : Int → Int) (H : zHp) : Prop := gS d w r (t, L, H) ∧ gPl d w r H
theorem gPl.keep {d w r : Int} {H H' : zHp} (h : gPl d w r H) (he : ∀ i, H' 13 i = H 13 i) : gPl d w r H' := fun s s1 s2 => by rw [he]; exact h s s1 s2
theorem gI.put {d w r c tag wd at' : Int} {t : Nat} {L : Int → Int} {H : zHp} (h : gI d w r t L H) : gI d w r t L (gPut H c tag wd at') := ⟨h.1.put, h.2.keep (fun i => gPut_ne (by omega))⟩
theorem gI.pr {d w r c tag wd at' : Int} {t : Nat} {L : Int → Int} {H : zHp} (h : gI d w r t L H) : gI d w r t L (fPr H c tag wd at').2 := by
  unfold fPr
  by_cases z : H 3 11 = 1
  · rw [if_pos z]; exact h
  · rw [if_neg z]; exact h.put
theorem gI.of {d w r wd : Int} {t : Nat} {L : Int → Int} {H H' : zHp} (h : gI d w r t L H) (hw : gWd wd) (he : ∀ q i, q ≠ wd → H' q i = H q i) : gI d w r t L H' := ⟨h.1.of hw he, h.2.keep (fun i => he 13 i (fun z => hw.ne.2.2.1 z.symm))⟩
theorem f_put {d w r x o tag wd at' : Int} {t : Nat} {L : Int → Int} {H : zHp} {Qr Qt : Int → zS → Prop} (h : gI d w r t L H) (hx : 0 ≤ x ∧ x < d) (ho : 0 ≤ o ∧ o ≤ r) (hw : wd ≠ 8 ∧ wd ≠ 3 ∧ 0 ≤ at' ∧ at' + 8 ≤ L wd) (hQ : Qr (fPr H (gCe r x o) tag wd at').1 (t, L, (fPr H (gCe r x o) tag wd at').2)) : zEnds 80 28 0 [(22, 3), (0, x), (0, o), (0, tag), (11, wd), (0, at'), (9, 0)] [] (t, L, H) Qr Qt := by
  unfold fPr at hQ
  refine g_put h.1 hx ho hw (fun z => ?_) (fun z => ?_)
  · rw [if_pos z] at hQ; exact hQ
  · rw [if_neg z] at hQ; exact hQ
theorem fPr_01 (H : zHp) (c tag wd at' : Int) : (fPr H c tag wd at').1 = 0 ∨ (fPr H c tag wd at').1 = 1 := by
  unfold fPr
  by_cases z : H 3 11 = 1
  · rw [if_pos z]; exact Or.inl rfl
  · rw [if_neg z]; exact Or.inr rfl
/-- Rack.wipe -/
theorem f_wipe {d w r x o : Int} {t : Nat} {L : Int → Int} {H : zHp} {Qr Qt : Int → zS → Prop} (h : gI d w r t L H) (hx : 0 ≤ x ∧ x < d) (ho : 0 ≤ o ∧ o ≤ r) (hQ : Qr (fPr H (gCe r x o) 0 11 0).1 (t, L, (fPr H (gCe r x o) 0 11 0).2)) : zEnds 80 29 0 [(22, 3), (0, x), (0, o)] [] (t, L, H) Qr Qt := by
  have hl : L 11 = 8 := h.1.2.1.1.2.2.2.2.2.2.2.2
  exact v_29 (f_put h hx ho (by omega) ⟨fPr_01 _ _ _ _ _, hQ⟩)
/-- Volume.putAt -/
noncomputable def fPa (d w r : Int) (H : zHp) (s wd at' : Int) : Int × zHp := if H 13 s = -1 then (1, H) else fPr H (gAt d w r H s) (s % gPo d w + 1) wd at'
theorem f_putAt {d w r s wd at' : Int} {t : Nat} {L : Int → Int} {H : zHp} {Qr Qt : Int → zS → Prop} (h : gI d w r t L H) (hs : 0 ≤ s ∧ s < r * gPo d w) (hw : wd ≠ 8 ∧ wd ≠ 3 ∧ 0 ≤ at' ∧ at' + 8 ≤ L wd) (hQ : Qr (fPa d w r H s wd at').1 (t, L, (fPa d w r H s wd at').2)) : zEnds 80 58 0 [(23, 12), (0, s), (11, wd), (0, at')] [] (t, L, H) Qr Qt := by
  unfold fPa fPr at hQ
  refine g_putAt h.1 h.2 hs hw (fun z => ?_) (fun z y => ?_) (fun z y => ?_)
  · rw [if_pos z] at hQ; exact hQ
  · rw [if_neg z, if_pos y] at hQ; exact hQ
  · rw [if_neg z, if_neg y] at hQ; exact hQ
theorem fPa_01 (d w r : Int) (H : zHp) (s wd at' : Int) : (fPa d w r H s wd at').1 = 0 ∨ (fPa d w r H s wd at').1 = 1 := by
  unfold fPa
  by_cases z : H 13 s = -1
  · rw [if_pos z]; exact Or.inr rfl
  · rw [if_neg z]; exact fPr_01 _ _ _ _ _
theorem gI.pa {d w r s wd at' : Int} {t : Nat} {L : Int → Int} {H : zHp} (h : gI d w r t L H) : gI d w r t L (fPa d w r H s wd at').2 := by
  unfold fPa
  by_cases z : H 13 s = -1
  · rw [if_pos z]; exact h
  · rw [if_neg z]; exact h.pr
/-- first one, then, if it went, another -/
noncomputable def fAnd (x : Int × zHp) (f : zHp → Int × zHp) : Int × zHp := if x.1 = 0 then (0, x.2) else f x.2
/-- Volume.gatherOtherData, from the spot o on -/
noncomputable def fGa (d w r s : Int) : Int → Nat → zHp → zHp
  | _, 0, H => H
  | o, n + 1, H => fGa d w r s (o + 1) n (@ite _ (o = s) (Classical.propDecidable _) H (@ite _ (gSound d w r H o) (Classical.propDecidable _) (gAdd H 14 0 (gAt d w r H o)) (gAO d w r H 14 0 o (o - o % w) w.toNat)))
theorem fGa_ne {d w r s : Int} : ∀ (n : Nat) (o : Int) (H : zHp) (q i : Int), q ≠ 14 → fGa d w r s o n H q i = H q i := by
  intro n
  induction n with
  | zero => intro o H q i _; rfl
  | succ n ih =>
    intro o H q i hq
    show fGa d w r s (o + 1) n _ q i = H q i
    rw [ih _ _ _ _ hq]
    by_cases c : o = s
    · rw [if_pos c]
    · rw [if_neg c]
      by_cases e : gSound d w r H o
      · rw [if_pos e]; exact gAdd_ne hq
      · rw [if_neg e]; exact gAO_ne hq
theorem gW14 : gWd 14 := Or.inl rfl
theorem f_gather {d w r s : Int} {t : Nat} {L : Int → Int} {H : zHp} {Qr Qt : Int → zS → Prop} (h : gI d w r t L H) (hs : 0 ≤ s ∧ s < r * gPo d w) (hQ : Qr 0 (t, L, fGa d w r s (s - s % w) (w - 1).toNat (zfil H 14 0 8))) : zEnds 80 59 0 [(23, 12), (0, s), (0, s - s % w + w - 1), (9, 0), (9, 0)] [] (t, L, H) Qr Qt := by
  have hk := h.1.1
  obtain ⟨s1, s2, s3, s4⟩ := gStripe hk hs
  have hw8 := hk.2.2.2.1
  have h3 := hk.2.2.1
  have q := gSp_rg hk hs
  have hl14 : L 14 = 8 := h.1.2.1.2.1.2.1
  have hl13 : L 13 = r * gPo d w := h.1.2.1.2.1.1
  have hsp := gSpots hk
  have key : ∀ (n : Nat) (o : Int) (H : zHp), gI d w r t L H → s - s % w ≤ o → o + n = s - s % w + w - 1 → Qr 0 (t, L, fGa d w r s o n H) → zEnds 80 59 29 [(23, 12), (0, s), (0, s - s % w + w - 1), (0, s / gPo d w), (0, o)] [] (t, L, H) Qr Qt := by
    intro n
    induction n with
    | zero =>
      intro o H h o1 o2 hq
      exact v_59_29 ⟨fun _ => hq, fun z => by omega⟩
    | succ n ih =>
      intro o H h o1 o2 hq
      have eo : z32 (o + 1) = o + 1 := z32_id (by omega) (by omega)
      have hq : Qr 0 (t, L, fGa d w r s (o + 1) n (@ite _ (o = s) (Classical.propDecidable _) H (@ite _ (gSound d w r H o) (Classical.propDecidable _) (gAdd H 14 0 (gAt d w r H o)) (gAO d w r H 14 0 o (o - o % w) w.toNat)))) := hq
      have hso : 0 ≤ o ∧ o < r * gPo d w := by omega
      have hpo := h.2 o hso.1 hso.2
      have hrow : o / gPo d w = s / gPo d w := gRow_same hk hs o1 (by omega)
      refine v_59_29 ⟨fun z => by omega, fun _ => ⟨fun z => ⟨fun _ => ?_, fun y => absurd z y⟩, fun z => g_isSound h.1 h.2 hso (fun y => ⟨fun u => absurd u (by decide), fun _ => ⟨⟨hso.1, by show o < L 13; omega⟩, ?_⟩⟩) (fun y => ⟨fun _ => ⟨fun u => absurd u z, fun _ => ?_⟩, fun u => absurd rfl u⟩)⟩⟩
      · rw [if_pos z] at hq
        rw [eo]
        exact ih (o + 1) H h (by omega) (by omega) hq
      · have y : gSound d w r H o := y
        rw [if_neg z, if_pos y] at hq
        have y1 := y.1
        have hq2 := gSp_rg hk hso
        refine g_addTo h.1 (x := H 13 o) (by omega) (o := s / gPo d w) (by omega) (by omega) (by omega) ?_
        rw [eo]
        refine ih (o + 1) _ (h.of gW14 (fun q i hq => gAdd_ne hq)) (by omega) (by omega) ?_
        unfold gAt at hq
        rw [hrow] at hq
        exact hq
      · have y : ¬ gSound d w r H o := y
        rw [if_neg z, if_neg y] at hq
        refine g_addOthers h.1 h.2 hso gW14 (by omega) ?_
        rw [eo]
        exact ih (o + 1) _ (h.of gW14 (fun q i hq => gAO_ne hq)) (by omega) (by omega) hq
  refine v_59 (g_rowOf h.1 hs (s_clear (by decide) (by decide) (by omega) (by omega) (g_firstBeside (h.1.fil (by omega)) hs ?_)))
  exact key (w - 1).toNat (s - s % w) _ (h.of gW14 (fun q i hq => by unfold zfil; rw [if_neg (fun z => hq z.1)])) (by omega) (by omega) hQ
/-- what the loop of Volume.store leaves in 'whole' -/
def fWh (H : zHp) (wd at' j : Int) : zHp := fun q i => if q = 15 ∧ j ≤ i ∧ i < 8 then zlxor (H 14 i) (H wd (at' + i)) else H q i
noncomputable def fSt (d w r : Int) (H : zHp) (s wd at' : Int) : Int × zHp :=
  if H 13 (s - s % w + w - 1) = -1 then fPa d w r H s wd at'
  else if H 13 s = -1 then fPa d w r (fWh (fGa d w r s (s - s % w) (w - 1).toNat (zfil H 14 0 8)) wd at' 0) (s - s % w + w - 1) 15 0
  else fAnd (fPr (fWh (fGa d w r s (s - s % w) (w - 1).toNat (zfil H 14 0 8)) wd at' 0) (gCe r (H 13 (s - s % w + w - 1)) r) (1 + 8 * (s / w) + s % w) 14 0) (fun H3 =>
    fAnd (fPa d w r H3 s wd at') (fun H4 => fAnd (fPa d w r H4 (s - s % w + w - 1) 15 0) (fun H5 => fPr H5 (gCe r (H 13 (s - s % w + w - 1)) r) 0 11 0)))
theorem gW15 : gWd 15 := Or.inr (Or.inl rfl)
theorem fPr_ne {H : zHp} {c tag wd at' q i : Int} (h : q ≠ 3 ∧ q ≠ 5 ∧ q ≠ 6 ∧ q ≠ 7 ∧ q ≠ 8 ∧ q ≠ 9) : (fPr H c tag wd at').2 q i = H q i := by
  unfold fPr
  by_cases z : H 3 11 = 1
  · rw [if_pos z]
  · rw [if_neg z]; exact gPut_ne h
theorem fPa_ne {d w r : Int} {H : zHp} {s wd at' q i : Int} (h : q ≠ 3 ∧ q ≠ 5 ∧ q ≠ 6 ∧ q ≠ 7 ∧ q ≠ 8 ∧ q ≠ 9) : (fPa d w r H s wd at').2 q i = H q i := by
  unfold fPa
  by_cases z : H 13 s = -1
  · rw [if_pos z]
  · rw [if_neg z]; exact fPr_ne h
theorem f_store {d w r b wd at' : Int} {t : Nat} {L : Int → Int} {H : zHp} {Qr Qt : Int → zS → Prop} (h : gI d w r t L H) (hb : 0 ≤ b ∧ b < r * gGr d w * (w - 1)) (hw : wd = 19 ∨ wd = 31 ∨ wd = 32) (ha : 0 ≤ at' ∧ at' + 8 ≤ L wd ∧ L wd ≤ 1000000) (hQ : Qr (fSt d w r H (gSo w b) wd at').1 (t, L, (fSt d w r H (gSo w b) wd at').2)) : zEnds 80 60 0 [(23, 12), (0, b), (11, wd), (0, at'), (9, 0), (9, 0), (9, 0), (9, 0)] [] (t, L, H) Qr Qt := by
  have hk := h.1.1
  obtain ⟨hs, g1, g2, g3, g4⟩ := gSo_rg hk hb
  have hl13 : L 13 = r * gPo d w := h.1.2.1.2.1.1
  have hl14 : L 14 = 8 := h.1.2.1.2.1.2.1
  have hl15 : L 15 = 8 := h.1.2.1.2.1.2.2.1
  refine v_60 (g_spotOf h.1 hb (g_parBeside h.1 hs ?_))
  generalize gSo w b = s at hs g1 g2 g3 hQ
  obtain ⟨s1, s2, s3, s4⟩ := gStripe hk hs
  have hw3 := hk.2.2.1
  have hr48 := hk.2.2.2.2.2.1
  have hp : 0 ≤ s - s % w + w - 1 ∧ s - s % w + w - 1 < r * gPo d w := by omega
  have hpp := h.2 _ hp.1 hp.2
  have hps := h.2 _ hs.1 hs.2
  generalize hpe : s - s % w + w - 1 = p at hp hpp
  unfold fSt at hQ
  rw [hpe] at hQ
  refine ⟨⟨hp.1, by show p < L 13; omega⟩, fun z => ?_, fun z => ?_⟩
  · have z : H 13 p ≠ -1 := z
    rw [if_neg z] at hQ
    have hg : zEnds 80 59 0 [(23, 12), (0, s), (0, s - s % w + w - 1), (9, 0), (9, 0)] [] (t, L, H) (fun v3 S3 => zEnds 80 60 56 [(23, 12), (9, 0), (11, wd), (0, at'), (0, s), (0, p), (0, H 13 p), (0, 0)] [] S3 Qr Qt) Qt := by
      refine f_gather h hs ?_
      have eH : ∀ i, fGa d w r s (s - s % w) (w - 1).toNat (zfil H 14 0 8) 13 i = H 13 i := fun i => by rw [fGa_ne _ _ _ _ _ (by decide)]; unfold zfil; rw [if_neg (by omega)]
      have h0 : gI d w r t L (fGa d w r s (s - s % w) (w - 1).toNat (zfil H 14 0 8)) := h.of gW14 (fun q i hq => by rw [fGa_ne _ _ _ _ _ hq]; unfold zfil; rw [if_neg (fun z => hq z.1)])
      generalize fGa d w r s (s - s % w) (w - 1).toNat (zfil H 14 0 8) = G at hQ h0 eH
      have key : ∀ (n : Nat) (j : Int) (G : zHp), gI d w r t L G → (∀ i, G 13 i = H 13 i) → 0 ≤ j → j + n = 8 → (if H 13 s = -1 then Qr (fPa d w r (fWh G wd at' j) p 15 0).1 (t, L, (fPa d w r (fWh G wd at' j) p 15 0).2) else Qr (fAnd (fPr (fWh G wd at' j) (gCe r (H 13 p) r) (1 + 8 * (s / w) + s % w) 14 0) (fun H3 => fAnd (fPa d w r H3 s wd at') (fun H4 => fAnd (fPa d w r H4 p 15 0) (fun H5 => fPr H5 (gCe r (H 13 p) r) 0 11 0)))).1 (t, L, (fAnd (fPr (fWh G wd at' j) (gCe r (H 13 p) r) (1 + 8 * (s / w) + s % w) 14 0) (fun H3 => fAnd (fPa d w r H3 s wd at') (fun H4 => fAnd (fPa d w r H4 p 15 0) (fun H5 => fPr H5 (gCe r (H 13 p) r) 0 11 0)))).2)) → zEnds 80 60 56 [(23, 12), (9, 0), (11, wd), (0, at'), (0, s), (0, p), (0, H 13 p), (0, j)] [] (t, L, G) Qr Qt := by
        intro n
        induction n with
        | zero =>
          intro j G hG eG j1 j2 hq
          have e : fWh G wd at' j = G := by
            funext q i
            unfold fWh
            rw [if_neg (by omega)]
          rw [e] at hq
          have hR : G 1 2 = r := hG.1.2.2.1.1.2.2.1
          refine v_60_56 ⟨fun _ => ⟨⟨hs.1, by show s < L 13; omega⟩, fun y => ?_, fun y => ?_⟩, fun y => absurd (by omega) y⟩
          · have y : G 13 s ≠ -1 := y
            rw [eG] at y
            rw [if_neg y] at hq
            refine g_logTag hG.1 hs ?_
            show zEnds 80 28 0 [(22, 3), (0, H 13 p), (0, G 1 2), (0, 1 + 8 * (s / w) + s % w), (11, 14), (0, 0), (9, 0)] [] (t, L, G) _ Qt
            rw [hR]
            refine f_put hG (by omega) (by omega) (by omega) ?_
            have f1 := fPr_01 G (gCe r (H 13 p) r) (1 + 8 * (s / w) + s % w) 14 0
            have i1 : gI d w r t L (fPr G (gCe r (H 13 p) r) (1 + 8 * (s / w) + s % w) 14 0).2 := hG.pr
            generalize fPr G (gCe r (H 13 p) r) (1 + 8 * (s / w) + s % w) 14 0 = X1 at hq f1 i1
            unfold fAnd at hq
            refine ⟨fun u => ?_, fun u => ?_⟩
            · rw [if_pos u] at hq
              exact ⟨Or.inl rfl, hq⟩
            · rw [if_neg u] at hq
              try dsimp only at hq
              refine f_putAt i1 hs (by omega) ?_
              have f2 := fPa_01 d w r X1.2 s wd at'
              have i2 : gI d w r t L (fPa d w r X1.2 s wd at').2 := i1.pa
              generalize fPa d w r X1.2 s wd at' = X2 at hq f2 i2
              refine ⟨fun u => ?_, fun u => ?_⟩
              · rw [if_pos u] at hq
                exact ⟨Or.inl rfl, hq⟩
              · rw [if_neg u] at hq
                try dsimp only at hq
                refine f_putAt i2 hp (by omega) ?_
                have f3 := fPa_01 d w r X2.2 p 15 0
                have i3 : gI d w r t L (fPa d w r X2.2 p 15 0).2 := i2.pa
                generalize fPa d w r X2.2 p 15 0 = X3 at hq f3 i3
                refine ⟨fun u => ?_, fun u => ?_⟩
                · rw [if_pos u] at hq
                  exact ⟨Or.inl rfl, hq⟩
                · rw [if_neg u] at hq
                  try dsimp only at hq
                  have hR : X3.2 1 2 = r := i3.1.2.2.1.1.2.2.1
                  show zEnds 80 29 0 [(22, 3), (0, H 13 p), (0, X3.2 1 2)] [] (t, L, X3.2) _ Qt
                  rw [hR]
                  refine f_wipe i3 (by omega) (by omega) ?_
                  have f4 := fPr_01 X3.2 (gCe r (H 13 p) r) 0 11 0
                  generalize fPr X3.2 (gCe r (H 13 p) r) 0 11 0 = X4 at hq f4
                  refine ⟨fun u => ⟨Or.inl rfl, ?_⟩, fun u => ⟨Or.inr rfl, ?_⟩⟩
                  · rw [u] at hq; exact hq
                  · have u : X4.1 = 1 := f4.resolve_left u
                    rw [u] at hq; exact hq
          · have y : G 13 s = -1 := Classical.not_not.mp y
            rw [eG] at y
            rw [if_pos y] at hq
            exact f_putAt hG hp (by omega) ⟨fPa_01 _ _ _ _ _ _ _, hq⟩
        | succ n ih =>
          intro j G hG eG j1 j2 hq
          have e1 : z32 (at' + j) = at' + j := z32_id (by omega) (by omega)
          have e2 : z32 (j + 1) = j + 1 := z32_id (by omega) (by omega)
          refine v_60_56 ⟨fun y => by omega, fun _ => ⟨⟨j1, by show j < L 14; omega⟩, ?_, ⟨j1, by show j < L 15; omega⟩, ?_⟩⟩
          · rw [e1]
            exact ⟨by omega, by show at' + j < L wd; omega⟩
          · rw [e1, e2]
            refine ih (j + 1) _ (hG.of gW15 (fun q i hq => by unfold zupd; rw [if_neg (fun z => hq z.1)])) (fun i => by unfold zupd; rw [if_neg (by omega)]; exact eG i) (by omega) (by omega) ?_
            have e : fWh (zupd G 15 j (zlxor (G 14 j) (G wd (at' + j)))) wd at' (j + 1) = fWh G wd at' j := by
              funext q i
              unfold fWh zupd
              by_cases c1 : q = 15 ∧ j + 1 ≤ i ∧ i < 8
              · rw [if_pos c1, if_neg (by omega), if_neg (by omega), if_pos (by omega)]
              · rw [if_neg c1]
                by_cases c2 : q = 15 ∧ i = j
                · rw [if_pos c2, if_pos (by omega), c2.2]
                · rw [if_neg c2, if_neg (by omega)]
            rw [e]
            exact hq
      refine key 8 0 G h0 eH (by omega) (by omega) ?_
      by_cases y : H 13 s = -1
      · rw [if_pos y] at hQ ⊢; exact hQ
      · rw [if_neg y] at hQ ⊢; exact hQ
    rw [hpe] at hg
    exact hg
  · have z : H 13 p = -1 := Classical.not_not.mp z
    rw [if_pos z] at hQ
    exact f_putAt h hs (by omega) ⟨fPa_01 _ _ _ _ _ _ _, hQ⟩
theorem fAnd_01 {x : Int × zHp} {f : zHp → Int × zHp} (h : ∀ G, (f G).1 = 0 ∨ (f G).1 = 1) : (fAnd x f).1 = 0 ∨ (fAnd x f).1 = 1 := by
  unfold fAnd
  by_cases z : x.1 = 0
  · rw [if_pos z]; exact Or.inl rfl
  · rw [if_neg z]; exact h _
