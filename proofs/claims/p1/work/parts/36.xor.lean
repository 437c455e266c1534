/-! Xors of cells: what the volume reckons. -/
theorem zlxor_64 (x y : Int) : z64 (zlxor x y) = zlxor x y := z64_toInt _
theorem zlxor_comm (x y : Int) : zlxor x y = zlxor y x := by
  unfold zlxor
  rw [Int64.xor_comm]
theorem of64_zlxor (x y : Int) : Int64.ofInt (zlxor x y) = Int64.ofInt x ^^^ Int64.ofInt y := by
  unfold zlxor
  exact Int64.ofInt_toInt _
theorem zlxor_assoc (x y z : Int) : zlxor (zlxor x y) z = zlxor x (zlxor y z) := by
  show (Int64.ofInt (zlxor x y) ^^^ Int64.ofInt z).toInt = (Int64.ofInt x ^^^ Int64.ofInt (zlxor y z)).toInt
  rw [of64_zlxor, of64_zlxor, Int64.xor_assoc]
theorem zlxor_self (x : Int) : zlxor x x = 0 := by
  unfold zlxor
  rw [Int64.xor_self]
  rfl
theorem zlxor_zero {x : Int} (h : z64 x = x) : zlxor x 0 = x := by
  show (Int64.ofInt x ^^^ 0).toInt = x
  rw [Int64.xor_zero]
  exact toInt_of64 h
theorem zlxor_zero' {x : Int} (h : z64 x = x) : zlxor 0 x = x := by rw [zlxor_comm, zlxor_zero h]
/-- the xor of f over those of a, a + 1, .. (n of them) that P takes, upon v -/
noncomputable def gXs (P : Int → Prop) (f : Int → Int) : Int → Nat → Int → Int
  | _, 0, v => v
  | a, n + 1, v => gXs P f (a + 1) n (@ite _ (P a) (Classical.propDecidable (P a)) (zlxor v (f a)) v)
theorem gXs_yes {P : Int → Prop} {f : Int → Int} {a v : Int} {n : Nat} (h : P a) : gXs P f a (n + 1) v = gXs P f (a + 1) n (zlxor v (f a)) := by
  show gXs P f (a + 1) n (@ite _ (P a) (Classical.propDecidable (P a)) (zlxor v (f a)) v) = _
  rw [if_pos h]
theorem gXs_no {P : Int → Prop} {f : Int → Int} {a v : Int} {n : Nat} (h : ¬ P a) : gXs P f a (n + 1) v = gXs P f (a + 1) n v := by
  show gXs P f (a + 1) n (@ite _ (P a) (Classical.propDecidable (P a)) (zlxor v (f a)) v) = _
  rw [if_neg h]
theorem gXs_congr {P Q : Int → Prop} {f g : Int → Int} : ∀ (n : Nat) (a v : Int), (∀ i, a ≤ i → i < a + n → (P i ↔ Q i) ∧ (P i → f i = g i)) → gXs P f a n v = gXs Q g a n v := by
  intro n
  induction n with
  | zero => intro a v _; rfl
  | succ n ih =>
    intro a v h
    obtain ⟨h0, h1⟩ := h a (by omega) (by omega)
    by_cases e : P a
    · rw [gXs_yes e, gXs_yes (h0.mp e), h1 e]
      exact ih _ _ (fun i i1 i2 => h i (by omega) (by omega))
    · rw [gXs_no e, gXs_no (fun z => e (h0.mpr z))]
      exact ih _ _ (fun i i1 i2 => h i (by omega) (by omega))
theorem gXs_pull {P : Int → Prop} {f : Int → Int} (c : Int) : ∀ (n : Nat) (a v : Int), gXs P f a n (zlxor v c) = zlxor (gXs P f a n v) c := by
  intro n
  induction n with
  | zero => intro a v; rfl
  | succ n ih =>
    intro a v
    by_cases e : P a
    · rw [gXs_yes e, gXs_yes e, ← ih]
      congr 1
      rw [zlxor_assoc, zlxor_assoc, zlxor_comm c]
    · rw [gXs_no e, gXs_no e, ih]
/-- the words that the volume reckons in -/
def gWd (wd : Int) : Prop := wd = 14 ∨ wd = 15 ∨ wd = 17 ∨ wd = 20 ∨ wd = 21 ∨ wd = 31 ∨ wd = 32 ∨ wd = 34
theorem gWd.num {wd : Int} (h : gWd wd) : wd ≠ 1 ∧ wd ≠ 2 ∧ wd ≠ 3 ∧ wd ≠ 18 := by unfold gWd at h; omega
theorem gWd.ne {wd : Int} (h : gWd wd) : wd ≠ 8 ∧ wd ≠ 3 ∧ wd ≠ 13 ∧ wd ≠ 5 ∧ wd ≠ 6 ∧ wd ≠ 4 ∧ wd ≠ 7 ∧ wd ≠ 9 ∧ wd ≠ 22 ∧ wd ≠ 23 ∧ wd ≠ 0 := by unfold gWd at h; omega
/-- what Volume.addOthers leaves: from o on, n spots -/
noncomputable def gAO (d w r : Int) (H : Int → Int → Int) (wd at' s o : Int) (n : Nat) : Int → Int → Int := fun q i => if q = wd ∧ at' ≤ i ∧ i < at' + 8 then gXs (fun u => u ≠ s ∧ H 13 u ≠ -1) (fun u => H 8 (8 * gAt d w r H u + (i - at'))) o n (H q i) else H q i
theorem gS.of {d w r : Int} {t : Nat} {L : Int → Int} {H H' : Int → Int → Int} {wd : Int} (h : gS d w r (t, L, H)) (hw : gWd wd) (he : ∀ q i, q ≠ wd → H' q i = H q i) : gS d w r (t, L, H') := by
  have hne := hw.ne
  have hnu := hw.num
  refine ⟨h.1, h.2.1, h.2.2.1.keep (fun i => he 1 i (fun z => hnu.1 z.symm)) (fun i => he 2 i (fun z => hnu.2.1 z.symm)) (he 3 0 (fun z => hnu.2.2.1 z.symm)) (he 3 1 (fun z => hnu.2.2.1 z.symm)) (he 18 1 (fun z => hnu.2.2.2 z.symm)), fun q i hq => ?_⟩
  rw [show ((t, L, H') : zS).2.2 q i = H q i from he q i (by omega)]
  exact h.2.2.2 q i hq
theorem gAO_ne {d w r : Int} {H : Int → Int → Int} {wd at' s o q i : Int} {n : Nat} (h : q ≠ wd) : gAO d w r H wd at' s o n q i = H q i := by
  unfold gAO
  rw [if_neg (fun z => h z.1)]
theorem gAdd_ne {H : Int → Int → Int} {wd at' c q i : Int} (h : q ≠ wd) : gAdd H wd at' c q i = H q i := by
  unfold gAdd
  rw [if_neg (fun z => h z.1)]
/-- Volume.addOthers -/
theorem g_addOthers {d w r s wd at' : Int} {t : Nat} {L : Int → Int} {H : Int → Int → Int} {Qr Qt : Int → zS → Prop} (h : gS d w r (t, L, H)) (hp : gPl d w r H) (hs : 0 ≤ s ∧ s < r * gPo d w) (hw : gWd wd) (ha : 0 ≤ at' ∧ at' + 8 ≤ L wd ∧ L wd ≤ 1000000) (hQ : Qr 0 (t, L, gAO d w r H wd at' s (s - s % w) w.toNat)) : zEnds 80 54 0 [(23, 12), (0, s), (11, wd), (0, at'), (9, 0), (9, 0), (9, 0)] [] (t, L, H) Qr Qt := by
  have hk := h.1
  obtain ⟨s1, s2, s3, s4⟩ := gStripe hk hs
  have q := gSp_rg hk hs
  have hw8 := hk.2.2.2.1
  have h3 := hk.2.2.1
  have hne := hw.ne
  have hL13 : L 13 = r * gPo d w := h.2.1.2.1.1
  have key : ∀ (n : Nat) (o : Int) (H : Int → Int → Int), gS d w r (t, L, H) → gPl d w r H → s - s % w ≤ o → o + n = s - s % w + w → Qr 0 (t, L, gAO d w r H wd at' s o n) → zEnds 80 54 30 [(23, 12), (0, s), (11, wd), (0, at'), (0, s / gPo d w), (0, s - s % w + w - 1), (0, o)] [] (t, L, H) Qr Qt := by
    intro n
    induction n with
    | zero =>
      intro o H h hp h4 h5 hq
      refine v_54_30 ⟨fun _ => ?_, fun z => by omega⟩
      have e : gAO d w r H wd at' s o 0 = H := by
        funext q i
        unfold gAO
        by_cases c : q = wd ∧ at' ≤ i ∧ i < at' + 8
        · rw [if_pos c]; rfl
        · rw [if_neg c]
      rw [e] at hq
      exact hq
    | succ n ih =>
      intro o H h hp h4 h5 hq
      have eo : z32 (o + 1) = o + 1 := z32_id (by omega) (by omega)
      have skip : ¬ (o ≠ s ∧ H 13 o ≠ -1) → zEnds 80 54 30 [(23, 12), (0, s), (11, wd), (0, at'), (0, s / gPo d w), (0, s - s % w + w - 1), (0, o + 1)] [] (t, L, H) Qr Qt := by
        intro c
        refine ih (o + 1) H h hp (by omega) (by omega) ?_
        have e : gAO d w r H wd at' s (o + 1) n = gAO d w r H wd at' s o (n + 1) := by
          funext q i
          unfold gAO
          rw [gXs_no (P := fun u => u ≠ s ∧ H 13 u ≠ -1) c]
        rw [e]
        exact hq
      have hpo := hp o (by omega) (by omega)
      have hso := gSp_rg hk (s := o) (by omega)
      have hrow : o / gPo d w = s / gPo d w := gRow_same hk hs h4 (by omega)
      refine v_54_30 ⟨fun z => by omega, fun _ => ⟨fun z => ?_, fun z => ⟨⟨by omega, by show o < L 13; omega⟩, fun y => ?_, fun y => ⟨⟨by omega, by show o < L 13; omega⟩, ?_⟩⟩⟩⟩
      · rw [eo]; exact skip (fun c => c.1 z)
      · rw [eo]; exact skip (fun c => c.2 y)
      · have y : ¬ H 13 o = -1 := y
        refine g_addTo h (x := H 13 o) (by omega) (o := s / gPo d w) (by omega) ⟨hne.1, ha.1, ha.2.1⟩ ha.2.2 ?_
        rw [eo]
        have h' : gS d w r (t, L, gAdd H wd at' (gCe r (H 13 o) (s / gPo d w))) := h.of hw (fun q i hq => gAdd_ne hq)
        refine ih (o + 1) _ h' (fun u u1 u2 => by rw [gAdd_ne (fun z => hne.2.2.1 z.symm)]; exact hp u u1 u2) (by omega) (by omega) ?_
        have e : gAO d w r (gAdd H wd at' (gCe r (H 13 o) (s / gPo d w))) wd at' s (o + 1) n = gAO d w r H wd at' s o (n + 1) := by
          funext q i
          have e13 : ∀ u, gAdd H wd at' (gCe r (H 13 o) (s / gPo d w)) 13 u = H 13 u := fun u => gAdd_ne (fun z => hne.2.2.1 z.symm)
          have e8 : ∀ u, gAdd H wd at' (gCe r (H 13 o) (s / gPo d w)) 8 u = H 8 u := fun u => gAdd_ne (fun z => hne.1 z.symm)
          unfold gAO gAt
          simp only [e13, e8]
          by_cases c : q = wd ∧ at' ≤ i ∧ i < at' + 8
          · rw [if_pos c, if_pos c, gXs_yes (P := fun u => u ≠ s ∧ H 13 u ≠ -1) ⟨z, y⟩, hrow]
            congr 1
            unfold gAdd
            rw [if_pos c]
          · rw [if_neg c, if_neg c]
            unfold gAdd
            rw [if_neg c]
        rw [e]
        exact hq
  exact v_54 (g_rowOf h hs (g_parBeside h hs (g_firstBeside h hs (key w.toNat (s - s % w) H h hp (by omega) (by omega) hQ))))
