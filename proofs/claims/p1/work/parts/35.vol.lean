/-! Searches, counts, and the volume's questions. -/
noncomputable def gFirst (P : Int → Prop) : Int → Nat → Int
  | _, 0 => -1
  | a, n + 1 => @ite _ (P a) (Classical.propDecidable (P a)) a (gFirst P (a + 1) n)
noncomputable def gCnt (P : Int → Prop) : Int → Nat → Int
  | _, 0 => 0
  | a, n + 1 => @ite _ (P a) (Classical.propDecidable (P a)) 1 0 + gCnt P (a + 1) n
theorem gFirst_yes {P : Int → Prop} {a : Int} {n : Nat} (h : P a) : gFirst P a (n + 1) = a := by
  unfold gFirst
  rw [if_pos h]
theorem gFirst_no {P : Int → Prop} {a : Int} {n : Nat} (h : ¬ P a) : gFirst P a (n + 1) = gFirst P (a + 1) n := by
  show @ite _ (P a) (Classical.propDecidable (P a)) a (gFirst P (a + 1) n) = _
  rw [if_neg h]
theorem gCnt_yes {P : Int → Prop} {a : Int} {n : Nat} (h : P a) : gCnt P a (n + 1) = 1 + gCnt P (a + 1) n := by
  show @ite _ (P a) (Classical.propDecidable (P a)) 1 0 + gCnt P (a + 1) n = _
  rw [if_pos h]
theorem gCnt_no {P : Int → Prop} {a : Int} {n : Nat} (h : ¬ P a) : gCnt P a (n + 1) = gCnt P (a + 1) n := by
  show @ite _ (P a) (Classical.propDecidable (P a)) 1 0 + gCnt P (a + 1) n = _
  rw [if_neg h]
  omega
theorem gFirst_spec (P : Int → Prop) : ∀ (n : Nat) (a : Int), (gFirst P a n = -1 ∧ ∀ i, a ≤ i → i < a + n → ¬ P i) ∨ (a ≤ gFirst P a n ∧ gFirst P a n < a + n ∧ P (gFirst P a n) ∧ ∀ i, a ≤ i → i < gFirst P a n → ¬ P i) := by
  intro n
  induction n with
  | zero => intro a; exact Or.inl ⟨rfl, fun i h1 h2 => by omega⟩
  | succ n ih =>
    intro a
    by_cases h : P a
    · rw [gFirst_yes h]
      exact Or.inr ⟨by omega, by omega, h, fun i h1 h2 => by omega⟩
    · rw [gFirst_no h]
      rcases ih (a + 1) with ⟨h1, h2⟩ | ⟨h1, h2, h3, h4⟩
      · refine Or.inl ⟨h1, fun i h3 h4 => ?_⟩
        by_cases e : i = a
        · rw [e]; exact h
        · exact h2 i (by omega) (by omega)
      · refine Or.inr ⟨by omega, by omega, h3, fun i h5 h6 => ?_⟩
        by_cases e : i = a
        · rw [e]; exact h
        · exact h4 i (by omega) h6
theorem gCnt_rg (P : Int → Prop) : ∀ (n : Nat) (a : Int), 0 ≤ gCnt P a n ∧ gCnt P a n ≤ n := by
  intro n
  induction n with
  | zero => intro a; exact ⟨Int.le_refl _, Int.le_refl _⟩
  | succ n ih =>
    intro a
    have h1 := ih (a + 1)
    by_cases h : P a
    · rw [gCnt_yes h]; omega
    · rw [gCnt_no h]; omega
theorem gCnt_congr {P Q : Int → Prop} : ∀ (n : Nat) (a : Int), (∀ i, a ≤ i → i < a + n → (P i ↔ Q i)) → gCnt P a n = gCnt Q a n := by
  intro n
  induction n with
  | zero => intro a _; rfl
  | succ n ih =>
    intro a h
    have h0 := h a (by omega) (by omega)
    have h1 := ih (a + 1) (fun i h2 h3 => h i (by omega) (by omega))
    by_cases e : P a
    · rw [gCnt_yes e, gCnt_yes (h0.mp e), h1]
    · rw [gCnt_no e, gCnt_no (fun z => e (h0.mpr z)), h1]
theorem gCnt_add {P : Int → Prop} : ∀ (n k : Nat) (a : Int), gCnt P a (n + k) = gCnt P a n + gCnt P (a + n) k := by
  intro n
  induction n with
  | zero => intro k a; show gCnt P a (0 + k) = 0 + gCnt P (a + (0 : Nat)) k; rw [Nat.zero_add, show a + ((0 : Nat) : Int) = a by omega]; omega
  | succ n ih =>
    intro k a
    have e1 : n + 1 + k = (n + k) + 1 := by omega
    have e2 : a + ((n + 1 : Nat) : Int) = (a + 1) + n := by omega
    rw [e1, e2]
    by_cases e : P a
    · rw [gCnt_yes e, gCnt_yes e, ih]; omega
    · rw [gCnt_no e, gCnt_no e, ih]
/-- Rack.countLive -/
theorem g_countLive {d w r : Int} {S : zS} {Qr Qt : Int → zS → Prop} (h : gS d w r S) (hQ : Qr (gCnt (fun x => S.2.2 4 x ≠ 0) 0 d.toNat) S) : zEnds 80 19 0 [(22, 3), (9, 0), (9, 0)] [] S Qr Qt := by
  obtain ⟨hk, hl, hn, hb⟩ := h
  have h1 := hk.1
  have h2 := hk.2.1
  have key : ∀ (n : Nat) (c x : Int), 0 ≤ x → x + n = d → 0 ≤ c → c ≤ x → Qr (c + gCnt (fun x => S.2.2 4 x ≠ 0) x n) S → zEnds 80 19 4 [(22, 3), (0, c), (0, x)] [] S Qr Qt := by
    intro n
    induction n with
    | zero =>
      intro c x h3 h4 h5 h6 hq
      refine v_19_4 ⟨fun _ => ?_, fun z => absurd (by rw [hn.2.2.1]; omega) z⟩
      have e : c + gCnt (fun x => S.2.2 4 x ≠ 0) x 0 = c := by show c + 0 = c; omega
      rw [e] at hq
      exact hq
    | succ n ih =>
      intro c x h3 h4 h5 h6 hq
      refine v_19_4 ⟨fun z => absurd z (by rw [hn.2.2.1]; omega), fun _ => ⟨⟨h3, by rw [hl.1.2.1]; omega⟩, fun z => ?_, fun z => ?_⟩⟩
      · rw [z32_id (x := c + 0) (by omega) (by omega), z32_id (x := x + 1) (by omega) (by omega)]
        rw [gCnt_no (P := fun x => S.2.2 4 x ≠ 0) (fun y => y z)] at hq
        exact ih (c + 0) (x + 1) (by omega) (by omega) (by omega) (by omega) (by rw [show c + 0 = c by omega]; exact hq)
      · rw [z32_id (x := c + 1) (by omega) (by omega), z32_id (x := x + 1) (by omega) (by omega)]
        rw [gCnt_yes (P := fun x => S.2.2 4 x ≠ 0) z, ← Int.add_assoc] at hq
        exact ih (c + 1) (x + 1) (by omega) (by omega) (by omega) (by omega) hq
  refine v_19 (key d.toNat 0 0 (by omega) (by omega) (by omega) (by omega) ?_)
  rw [Int.zero_add]
  exact hQ
/-- where the spots' places are numbers of disks, or none -/
def gPl (d w r : Int) (H : Int → Int → Int) : Prop := ∀ s : Int, 0 ≤ s → s < r * gPo d w → -1 ≤ H 13 s ∧ H 13 s < d
/-- a spot's cell -/
def gAt (d w r : Int) (H : Int → Int → Int) (s : Int) : Int := gCe r (H 13 s) (s / gPo d w)
def gSound (d w r : Int) (H : Int → Int → Int) (s : Int) : Prop := H 13 s ≠ -1 ∧ gVal H (gAt d w r H s)
/-- Volume.spotOn -/
theorem g_spotOn {d w r row x : Int} {S : zS} {Qr Qt : Int → zS → Prop} (h : gS d w r S) (hr : 0 ≤ row ∧ row < r) (hQ : Qr (gFirst (fun s => S.2.2 13 s = x) (row * gPo d w) (gPo d w).toNat) S) : zEnds 80 44 0 [(23, 12), (0, row), (0, x), (9, 0), (9, 0)] [] S Qr Qt := by
  obtain ⟨hk, hl, hn, hb⟩ := h
  obtain ⟨p1, p2, p3, p4⟩ := gPo_rg hk
  have h2 := hk.2.1
  have h3 := hk.2.2.1
  have h7 := hk.2.2.2.2.2.2
  have a1 : 0 ≤ row * gPo d w := Int.mul_nonneg hr.1 (by omega)
  have a2 : (row + 1) * gPo d w = row * gPo d w + gPo d w := by rw [Int.add_mul]; omega
  have a3 : (row + 1) * gPo d w ≤ r * gPo d w := Int.mul_le_mul_of_nonneg_right (by omega) (by omega)
  have a4 : r * gPo d w ≤ 64 * gPo d w := Int.mul_le_mul_of_nonneg_right h7 (by omega)
  have key : ∀ (n : Nat) (s : Int), row * gPo d w ≤ s → s + n = (row + 1) * gPo d w → Qr (gFirst (fun s => S.2.2 13 s = x) s n) S → zEnds 80 44 23 [(23, 12), (9, 0), (0, x), (0, (row + 1) * gPo d w), (0, s)] [] S Qr Qt := by
    intro n
    induction n with
    | zero =>
      intro s h4 h5 hq
      exact v_44_23 ⟨fun _ => hq, fun z => by omega⟩
    | succ n ih =>
      intro s h4 h5 hq
      refine v_44_23 ⟨fun z => by omega, fun _ => ⟨⟨by omega, by rw [hl.2.1.1]; omega⟩, fun z => ?_, fun z => ?_⟩⟩
      · rw [z32_id (x := s + 1) (by omega) (by omega)]
        rw [gFirst_no (P := fun s => S.2.2 13 s = x) z] at hq
        exact ih (s + 1) (by omega) (by omega) hq
      · rw [gFirst_yes (P := fun s => S.2.2 13 s = x) (Classical.not_not.mp z)] at hq
        exact hq
  refine v_44 ?_
  rw [hn.1.2.2.2.2.1, z32_id (x := row + 1) (by omega) (by omega), z32_id (x := (row + 1) * gPo d w) (by omega) (by omega), z32_id (x := row * gPo d w) (by omega) (by omega)]
  exact key (gPo d w).toNat (row * gPo d w) (by omega) (by omega) hQ
/-- Volume.isFreeSpare -/
def gFree (d w r : Int) (H : Int → Int → Int) (row q : Int) : Prop := H 4 (gDk d row q) ≠ 0 ∧ ∀ s, row * gPo d w ≤ s → s < row * gPo d w + gPo d w → H 13 s ≠ gDk d row q
theorem g_isFreeSpare {d w r row q : Int} {S : zS} {Qr Qt : Int → zS → Prop} (h : gS d w r S) (hr : 0 ≤ row ∧ row < r) (hq : 0 ≤ q ∧ q < d) (h1 : gFree d w r S.2.2 row q → Qr 1 S) (h0 : ¬ gFree d w r S.2.2 row q → Qr 0 S) : zEnds 80 45 0 [(23, 12), (0, row), (0, q), (9, 0)] [] S Qr Qt := by
  have hk := h.1
  have p := gPo_rg hk
  have h7 := hk.2.2.2.2.2.2
  have hg := gDk_rg (row := row) (pos := q) hk
  refine v_45 (g_diskOf h (by omega) (by omega) (g_isLive h hg ⟨fun z => ⟨Or.inl rfl, h0 (fun y => y.1 z)⟩, fun z => g_spotOn h hr ⟨fun y => ⟨Or.inl rfl, h0 (fun u => ?_)⟩, fun y => ⟨Or.inr rfl, h1 ⟨z, ?_⟩⟩⟩⟩))
  · rcases gFirst_spec (fun s => S.2.2 13 s = gDk d row q) (gPo d w).toNat (row * gPo d w) with ⟨e1, -⟩ | ⟨e1, e2, e3, -⟩
    · exact y e1
    · exact u.2 _ e1 (by omega) e3
  · have y := Classical.not_not.mp y
    rcases gFirst_spec (fun s => S.2.2 13 s = gDk d row q) (gPo d w).toNat (row * gPo d w) with ⟨-, e2⟩ | ⟨e1, -⟩
    · intro s hs1 hs2
      exact e2 s hs1 (by omega)
    · have a1 : 0 ≤ row * gPo d w := Int.mul_nonneg hr.1 (by have := hk.2.2.1; omega)
      omega
/-- Volume.isSound, isSpoilt -/
theorem g_isSound {d w r s : Int} {S : zS} {Qr Qt : Int → zS → Prop} (h : gS d w r S) (hp : gPl d w r S.2.2) (hs : 0 ≤ s ∧ s < r * gPo d w) (h1 : gSound d w r S.2.2 s → Qr 1 S) (h0 : ¬ gSound d w r S.2.2 s → Qr 0 S) : zEnds 80 47 0 [(23, 12), (0, s)] [] S Qr Qt := by
  have hk := h.1
  have q := gSp_rg hk hs
  have e := hp s hs.1 hs.2
  have hl : S.2.1 13 = r * gPo d w := h.2.1.2.1.1
  refine v_47 ⟨⟨hs.1, by omega⟩, fun z => ⟨Or.inl rfl, h0 (fun y => y.1 z)⟩, fun z => ⟨⟨hs.1, by omega⟩, g_rowOf h hs (g_isValid h (by omega) (by omega) (fun y => ⟨fun u => absurd u (by decide), fun _ => ⟨Or.inr rfl, h1 ⟨z, y⟩⟩⟩) (fun y => ⟨fun _ => ⟨Or.inl rfl, h0 (fun u => y u.2)⟩, fun u => absurd rfl u⟩))⟩⟩
theorem g_isSpoilt {d w r s : Int} {S : zS} {Qr Qt : Int → zS → Prop} (h : gS d w r S) (hp : gPl d w r S.2.2) (hs : 0 ≤ s ∧ s < r * gPo d w) (h1 : S.2.2 13 s ≠ -1 → ¬ gSound d w r S.2.2 s → Qr 1 S) (h0 : (S.2.2 13 s = -1 ∨ gSound d w r S.2.2 s) → Qr 0 S) : zEnds 80 48 0 [(23, 12), (0, s)] [] S Qr Qt := by
  have hl : S.2.1 13 = r * gPo d w := h.2.1.2.1.1
  refine v_48 ⟨⟨hs.1, by omega⟩, fun z => ⟨Or.inl rfl, h0 (Or.inl z)⟩, fun z => g_isSound h hp hs (fun y => ⟨fun _ => ⟨Or.inl rfl, h0 (Or.inr y)⟩, fun u => absurd (by decide) u⟩) (fun y => ⟨fun u => absurd rfl u, fun _ => ⟨Or.inr rfl, h1 z y⟩⟩)⟩
/-- the stripe of a spot -/
theorem gStripe {d w r s : Int} (hk : gOK d w r) (hs : 0 ≤ s ∧ s < r * gPo d w) : 0 ≤ s - s % w ∧ s - s % w ≤ s ∧ s ≤ s - s % w + w - 1 ∧ s - s % w + w ≤ r * gPo d w := by
  have h3 := hk.2.2.1
  have m1 := Int.emod_nonneg s (b := w) (by omega)
  have m2 := Int.emod_lt_of_pos s (b := w) (by omega)
  have e1 : s - s % w = w * (s / w) := by have := Int.mul_ediv_add_emod s w; omega
  have e2 : 0 ≤ s / w := Int.ediv_nonneg hs.1 (by omega)
  have e3 : 0 ≤ w * (s / w) := Int.mul_nonneg (by omega) e2
  have e4 : r * gPo d w = w * (r * gGr d w) := by unfold gPo; rw [← Int.mul_assoc, Int.mul_comm r w, Int.mul_assoc]
  have e5 : s / w < r * gGr d w := by
    rw [Int.ediv_lt_iff_lt_mul (by omega), Int.mul_comm]
    omega
  have e6 : w * (s / w + 1) ≤ w * (r * gGr d w) := Int.mul_le_mul_of_nonneg_left (by omega) (by omega)
  have e7 : w * (s / w + 1) = w * (s / w) + w := by rw [Int.mul_add]; omega
  omega
/-- a stripe lies in one row -/
theorem gRow_same {d w r s o : Int} (hk : gOK d w r) (hs : 0 ≤ s ∧ s < r * gPo d w) (h1 : s - s % w ≤ o) (h2 : o < s - s % w + w) : o / gPo d w = s / gPo d w := by
  have h3 := hk.2.2.1
  obtain ⟨p1, p2, p3, p4⟩ := gPo_rg hk
  have e1 : s - s % w = w * (s / w) := by have := Int.mul_ediv_add_emod s w; omega
  have key : ∀ u : Int, w * (s / w) ≤ u → u < w * (s / w) + w → u / gPo d w = s / w / gGr d w := by
    intro u u1 u2
    have e2 : u / w = s / w := by
      have a1 : s / w ≤ u / w := by rw [Int.le_ediv_iff_mul_le (by omega), Int.mul_comm]; exact u1
      have a2 : u / w < s / w + 1 := by rw [Int.ediv_lt_iff_lt_mul (by omega), Int.add_mul, Int.mul_comm]; omega
      omega
    unfold gPo
    rw [← Int.ediv_ediv_of_nonneg (by omega), e2]
  have s1 := gStripe hk hs
  rw [key o (by omega) (by omega), key s (by omega) (by omega)]
/-- Volume.hasFaultBeside -/
def gFault (d w r : Int) (H : Int → Int → Int) (s : Int) : Prop := ∃ o, s - s % w ≤ o ∧ o ≤ s - s % w + w - 1 ∧ o ≠ s ∧ ¬ gSound d w r H o
theorem g_hasFault {d w r s : Int} {S : zS} {Qr Qt : Int → zS → Prop} (h : gS d w r S) (hp : gPl d w r S.2.2) (hs : 0 ≤ s ∧ s < r * gPo d w) (h1 : gFault d w r S.2.2 s → Qr 1 S) (h0 : ¬ gFault d w r S.2.2 s → Qr 0 S) : zEnds 80 49 0 [(23, 12), (0, s), (9, 0), (9, 0)] [] S Qr Qt := by
  have hk := h.1
  obtain ⟨s1, s2, s3, s4⟩ := gStripe hk hs
  have q := gSp_rg hk hs
  have hw := hk.2.2.2.1
  have h3 := hk.2.2.1
  have key : ∀ (n : Nat) (o : Int), s - s % w ≤ o → o + n = s - s % w + w → (∀ i, s - s % w ≤ i → i < o → i ≠ s → gSound d w r S.2.2 i) → zEnds 80 49 18 [(23, 12), (0, s), (0, s - s % w + w - 1), (0, o)] [] S Qr Qt := by
    intro n
    induction n with
    | zero =>
      intro o h4 h5 hall
      refine v_49_18 ⟨fun _ => ⟨Or.inl rfl, h0 (fun z => ?_)⟩, fun z => by omega⟩
      obtain ⟨i, i1, i2, i3, i4⟩ := z
      exact i4 (hall i i1 (by omega) i3)
    | succ n ih =>
      intro o h4 h5 hall
      refine v_49_18 ⟨fun z => by omega, fun _ => ⟨fun z => ?_, fun z => g_isSound h hp (by omega) (fun y => ⟨fun _ => ?_, fun u => absurd (by decide) u⟩) (fun y => ⟨fun u => absurd rfl u, fun _ => ⟨Or.inr rfl, h1 ⟨o, h4, by omega, z, y⟩⟩⟩)⟩⟩
      · rw [z32_id (x := o + 1) (by omega) (by omega)]
        exact ih (o + 1) (by omega) (by omega) (fun i i1 i2 i3 => hall i i1 (by omega) i3)
      · rw [z32_id (x := o + 1) (by omega) (by omega)]
        refine ih (o + 1) (by omega) (by omega) (fun i i1 i2 i3 => ?_)
        by_cases e : i = o
        · rw [e]; exact y
        · exact hall i i1 (by omega) i3
  exact v_49 (g_parBeside h hs (g_firstBeside h hs (key w.toNat (s - s % w) (by omega) (by omega) (fun i i1 i2 _ => by omega))))
