/-! The reference: needed disks, holders, spares, puts. -/
section MODEL2
variable {d w r : Int} {t : Nat} {L : Int → Int} {H : zHp} {Qr Qt : Int → zS → Prop}
theorem m_isNeeded {x : Int} (h : mS d w r L H) (ho : mOk d w r H) (h1 : (∃ row g, 0 ≤ row ∧ row < r ∧ 0 ≤ g ∧ g < gGr d w ∧ 1 < gCnt (mBd d w H row x) (g * w) w.toNat) → Qr 1 (t, L, H)) (h0 : (∀ row g, 0 ≤ row → row < r → 0 ≤ g → g < gGr d w → gCnt (mBd d w H row x) (g * w) w.toNat ≤ 1) → Qr 0 (t, L, H)) : zEnds 118 191 0 [(29, 35), (0, x), (9, 0), (9, 0)] [] (t, L, H) Qr Qt := by
  obtain ⟨p1, p2, p3, p4⟩ := gPo_rg h.1
  have h2 := h.1.2.1
  have h3 := h.1.2.2.1
  have h4 := h.1.2.2.2.1
  have h6 := h.1.2.2.2.2.2.1
  have h7 := h.1.2.2.2.2.2.2
  have n2 : H 35 2 = w := h.2.2.2.1.2.1
  have n3 : H 35 3 = r := h.2.2.2.1.2.2.1
  have ePo := mPo_z h
  have ePg : gPo d w = gGr d w * w := by unfold gPo; rw [Int.mul_comm]
  have inner : ∀ (n : Nat) (row g : Int), 0 ≤ row → row < r → 0 ≤ g → g + n = gGr d w → (∀ row' g', 0 ≤ row' → (row' < row ∨ (row' = row ∧ g' < g)) → 0 ≤ g' → g' < gGr d w → gCnt (mBd d w H row' x) (g' * w) w.toNat ≤ 1) → ((∀ row' g', 0 ≤ row' → row' < row + 1 → 0 ≤ g' → g' < gGr d w → gCnt (mBd d w H row' x) (g' * w) w.toNat ≤ 1) → zEnds 118 191 2 [(29, 35), (0, x), (0, row + 1), (9, 0)] [] (t, L, H) Qr Qt) → zEnds 118 191 12 [(29, 35), (0, x), (0, row), (0, g * w)] [] (t, L, H) Qr Qt := by
    intro n
    induction n with
    | zero =>
      intro row g r0 r1 g0 g1 hall hk
      have eg : g = gGr d w := by omega
      refine v_191_12 ⟨fun _ => ?_, fun z => absurd (by show z32 (H 35 2 * H 35 4) ≤ g * w; rw [ePo, eg, ePg]; exact Int.le_refl _) z⟩
      rw [z32_id (x := row + 1) (by omega) (by omega)]
      exact hk (fun row' g' a1 a2 a3 a4 => hall row' g' a1 (by omega) a3 a4)
    | succ n ih =>
      intro row g r0 r1 g0 g1 hall hk
      have b1 : (g + 1) * w ≤ gGr d w * w := Int.mul_le_mul_of_nonneg_right (by omega) (by omega)
      have b2 : 0 ≤ g * w := Int.mul_nonneg g0 (by omega)
      have b3 : (g + 1) * w = g * w + w := by rw [Int.add_mul, Int.one_mul]
      refine v_191_12 ⟨fun z => absurd z (by show ¬ z32 (H 35 2 * H 35 4) ≤ g * w; rw [ePo]; omega), fun _ => m_bad h ho ⟨r0, r1⟩ (by omega) ?_⟩
      rw [Int.mul_ediv_cancel g (by omega)]
      refine ⟨fun z => ?_, fun z => ⟨Or.inr rfl, h1 ⟨row, g, r0, r1, g0, by omega, by omega⟩⟩⟩
      show zEnds 118 191 12 [(29, 35), (0, x), (0, row), (0, z32 (g * w + H 35 2))] [] (t, L, H) Qr Qt
      rw [n2, z32_id (by omega) (by omega), ← b3]
      refine ih row (g + 1) r0 r1 (by omega) (by omega) (fun row' g' a1 a2 a3 a4 => ?_) hk
      by_cases c : row' = row ∧ g' = g
      · rw [c.1, c.2]; exact z
      · exact hall row' g' a1 (by omega) a3 a4
  have outer : ∀ (n : Nat) (row : Int), 0 ≤ row → row + n = r → (∀ row' g', 0 ≤ row' → row' < row → 0 ≤ g' → g' < gGr d w → gCnt (mBd d w H row' x) (g' * w) w.toNat ≤ 1) → zEnds 118 191 2 [(29, 35), (0, x), (0, row), (9, 0)] [] (t, L, H) Qr Qt := by
    intro n
    induction n with
    | zero =>
      intro row r0 r1 hall
      exact v_191_2 ⟨fun _ => ⟨Or.inl rfl, h0 (fun row' g' a1 a2 a3 a4 => hall row' g' a1 (by omega) a3 a4)⟩, fun z => absurd (by show H 35 3 ≤ row; omega) z⟩
    | succ n ih =>
      intro row r0 r1 hall
      refine v_191_2 ⟨fun z => absurd z (by show ¬ H 35 3 ≤ row; omega), fun _ => ?_⟩
      have := inner (gGr d w).toNat row 0 r0 (by omega) (by omega) (by omega) (fun row' g' a1 a2 a3 a4 => hall row' g' a1 (by omega) a3 a4) (fun g => ih (row + 1) (by omega) (by omega) g)
      rw [Int.zero_mul] at this
      exact this
  exact v_191 (outer r.toNat 0 (by omega) (by omega) (fun row' g' a1 a2 a3 a4 => by omega))
theorem m_holder {row x : Int} (h : mS d w r L H) (hr : 0 ≤ row ∧ row < r) (hQ : Qr (gFirst (fun p => mPl d w H row p = x) 0 (gPo d w).toNat) (t, L, H)) : zEnds 118 192 0 [(29, 35), (0, row), (0, x), (9, 0)] [] (t, L, H) Qr Qt := by
  obtain ⟨p1, p2, p3, p4⟩ := gPo_rg h.1
  have h2 := h.1.2.1
  have h3 := h.1.2.2.1
  have ePo := mPo_z h
  have key : ∀ (n : Nat) (p : Int), 0 ≤ p → p + n = gPo d w → Qr (gFirst (fun p => mPl d w H row p = x) p n) (t, L, H) → zEnds 118 192 2 [(29, 35), (0, row), (0, x), (0, p)] [] (t, L, H) Qr Qt := by
    intro n
    induction n with
    | zero =>
      intro p q0 q1 hq
      exact v_192_2 ⟨fun _ => hq, fun z => absurd (by show z32 (H 35 2 * H 35 4) ≤ p; rw [ePo]; omega) z⟩
    | succ n ih =>
      intro p q0 q1 hq
      refine v_192_2 ⟨fun z => absurd z (by show ¬ z32 (H 35 2 * H 35 4) ≤ p; rw [ePo]; omega), fun _ => m_placeOf h hr (by omega) ⟨fun z => ?_, fun z => ?_⟩⟩
      · rw [gFirst_no (P := fun p => mPl d w H row p = x) z] at hq
        rw [z32_id (x := p + 1) (by omega) (by omega)]
        exact ih (p + 1) (by omega) (by omega) hq
      · rw [gFirst_yes (P := fun p => mPl d w H row p = x) (Classical.not_not.mp z)] at hq
        exact hq
  exact v_192 (key (gPo d w).toNat 0 (by omega) (by omega) hQ)
def mFree (d w : Int) (H : zHp) (row q : Int) : Prop := H 37 (gDk d row q) ≠ 0 ∧ gFirst (fun p => mPl d w H row p = gDk d row q) 0 (gPo d w).toNat < 0
noncomputable def mSpare (d w : Int) (H : zHp) (row : Int) : Int := if gFirst (mFree d w H row) (gPo d w) (d - gPo d w).toNat = -1 then -1 else gDk d row (gFirst (mFree d w H row) (gPo d w) (d - gPo d w).toNat)
theorem m_freeSpare {row : Int} (h : mS d w r L H) (hr : 0 ≤ row ∧ row < r) (hQ : Qr (mSpare d w H row) (t, L, H)) : zEnds 118 193 0 [(29, 35), (0, row), (9, 0)] [] (t, L, H) Qr Qt := by
  obtain ⟨p1, p2, p3, p4⟩ := gPo_rg h.1
  have h2 := h.1.2.1
  have h3 := h.1.2.2.1
  have h7 := h.1.2.2.2.2.2.2
  have n1 : H 35 1 = d := h.2.2.2.1.1
  have l37 : L 37 = 16 := h.2.1.2.1
  have ePo := mPo_z h
  unfold mSpare at hQ
  have key : ∀ (n : Nat) (q : Int), gPo d w ≤ q → q + n = d → Qr (if gFirst (mFree d w H row) q n = -1 then -1 else gDk d row (gFirst (mFree d w H row) q n)) (t, L, H) → zEnds 118 193 10 [(29, 35), (0, row), (0, q)] [] (t, L, H) Qr Qt := by
    intro n
    induction n with
    | zero =>
      intro q q0 q1 hq
      exact v_193_10 ⟨fun _ => hq, fun z => absurd (by show H 35 1 ≤ q; omega) z⟩
    | succ n ih =>
      intro q q0 q1 hq
      have hg := gDk_rg (row := row) (pos := q) h.1
      have no : ¬ mFree d w H row q → zEnds 118 193 10 [(29, 35), (0, row), (0, z32 (q + 1))] [] (t, L, H) Qr Qt := by
        intro c
        rw [gFirst_no (P := mFree d w H row) c] at hq
        rw [z32_id (x := q + 1) (by omega) (by omega)]
        exact ih (q + 1) (by omega) (by omega) hq
      refine v_193_10 ⟨fun z => absurd z (by show ¬ H 35 1 ≤ q; omega), fun _ => m_diskOf h (by omega) (by omega) ⟨⟨hg.1, by show _ < L 37; omega⟩, fun z => no (fun c => c.1 z), fun z => m_diskOf h (by omega) (by omega) (m_holder h hr ⟨fun y => no (fun c => by have := c.2; omega), fun y => m_diskOf h (by omega) (by omega) ?_⟩)⟩⟩
      rw [gFirst_yes (P := mFree d w H row) ⟨z, by omega⟩, if_neg (by omega)] at hq
      exact hq
  refine v_193 ?_
  dsimp only
  rw [ePo]
  exact key (d - gPo d w).toNat (gPo d w) (by omega) (by omega) hQ
/-- DiskPoolModel.puts: the answer, the heap -/
noncomputable def mPw (H : zHp) (x o as : Int) : zHp := zfil (zupd (zupd (zupd (if H 35 13 ≤ 0 then H else zupd H 35 13 (H 35 13 - 1)) 35 14 (z32 (H 35 14 + 1))) 38 (65 * x + o) 1) 39 (65 * x + o) as) 40 (70 * (65 * x + o)) 70
noncomputable def mPt (H : zHp) (x o as : Int) : Int × zHp := if H 35 13 = 0 then (0, zupd (zupd H 35 12 0) 35 13 (-1)) else (1, mPw H x o as)
theorem m_puts {x o as : Int} (h : mS d w r L H) (hx : 0 ≤ x ∧ x < d) (ho : 0 ≤ o ∧ o ≤ r) (hl : -1 ≤ H 35 13 ∧ H 35 13 ≤ 2147483647) (hQ : Qr (mPt H x o as).1 (t, L, (mPt H x o as).2)) : zEnds 118 194 0 [(29, 35), (0, x), (0, o), (0, as), (9, 0)] [] (t, L, H) Qr Qt := by
  obtain ⟨hk, ⟨l36, l37, l38, l39, l40, l41, -⟩, -, -, -⟩ := h
  have h2 := hk.2.1
  have h7 := hk.2.2.2.2.2.2
  have loop : ∀ (n : Nat) (k : Int) (G : zHp), 0 ≤ k → k + n = 70 → Qr 1 (t, L, zfil G 40 (70 * (65 * x + o) + k) (70 - k)) → zEnds 118 194 78 [(29, 35), (0, x), (0, o), (9, 0), (0, 70 * (65 * x + o) + k)] [] (t, L, G) Qr Qt := by
    intro n
    induction n with
    | zero =>
      intro k G k0 k1 hq
      refine v_194_78 (m_at (by omega) (by omega) ⟨fun _ => ⟨Or.inr rfl, ?_⟩, fun z => absurd ?_ z⟩)
      · have e : zfil G 40 (70 * (65 * x + o) + k) (70 - k) = G := by
          funext q i
          unfold zfil
          rw [if_neg (by omega)]
        rw [e] at hq
        exact hq
      · rw [z32_id (x := 70 * (65 * x + o)) (by omega) (by omega), z32_id (by omega) (by omega)]
        omega
    | succ n ih =>
      intro k G k0 k1 hq
      refine v_194_78 (m_at (by omega) (by omega) ⟨fun z => ?_, fun _ => ⟨⟨by omega, by show _ < L 40; omega⟩, ?_⟩⟩)
      · rw [z32_id (x := 70 * (65 * x + o)) (by omega) (by omega), z32_id (by omega) (by omega)] at z
        omega
      · rw [z32_id (x := 70 * (65 * x + o) + k + 1) (by omega) (by omega), Int.add_assoc (70 * (65 * x + o)) k 1]
        refine ih (k + 1) _ (by omega) (by omega) ?_
        have e : zfil (zupd G 40 (70 * (65 * x + o) + k) (zi2b 0)) 40 (70 * (65 * x + o) + (k + 1)) (70 - (k + 1)) = zfil G 40 (70 * (65 * x + o) + k) (70 - k) := by
          funext q i
          unfold zfil zupd
          by_cases c : q = 40 ∧ 70 * (65 * x + o) + (k + 1) ≤ i ∧ i < 70 * (65 * x + o) + (k + 1) + (70 - (k + 1))
          · rw [if_pos c, if_pos (by omega)]
          · rw [if_neg c]
            by_cases c2 : q = 40 ∧ i = 70 * (65 * x + o) + k
            · rw [if_pos c2, if_pos (by omega)]; rfl
            · rw [if_neg c2, if_neg (by omega)]
        rw [e]
        exact hq
  have tail : ∀ G : zHp, H 35 13 ≠ 0 → mPw H x o as = zfil (zupd (zupd G 38 (65 * x + o) 1) 39 (65 * x + o) as) 40 (70 * (65 * x + o)) 70 → zEnds 118 183 0 [(0, x), (0, o)] [] (t, L, G) (fun v1 S1 => ((0 ≤ v1 ∧ v1 < S1.2.1 38) ∧ ((1 : Int) = 0 ∨ (1 : Int) = 1)) ∧ zEnds 118 183 0 [(0, x), (0, o)] [] (S1.1, S1.2.1, zupd S1.2.2 38 v1 1) (fun v2 S2 => (0 ≤ v2 ∧ v2 < S2.2.1 39) ∧ zEnds 118 183 0 [(0, x), (0, o)] [] (S2.1, S2.2.1, zupd S2.2.2 39 v2 as) (fun v3 S3 => zEnds 118 194 78 [(29, 35), (0, x), (0, o), (9, 0), (0, z32 (70 * v3))] [] S3 Qr Qt) Qt) Qt) Qt := by
    intro G hG e
    unfold mPt at hQ
    rw [if_neg hG] at hQ
    refine m_at (by omega) (by omega) ⟨⟨⟨by omega, by show _ < L 38; omega⟩, Or.inr rfl⟩, m_at (by omega) (by omega) ⟨⟨by omega, by show _ < L 39; omega⟩, m_at (by omega) (by omega) ?_⟩⟩
    rw [z32_id (x := 70 * (65 * x + o)) (by omega) (by omega)]
    have := loop 70 0 (zupd (zupd G 38 (65 * x + o) 1) 39 (65 * x + o) as) (by omega) (by omega) (by rw [Int.add_zero, Int.sub_zero, ← e]; exact hQ)
    rw [Int.add_zero] at this
    exact this
  refine v_194 ⟨fun z => ⟨fun y => tail _ z ?_, fun y => ?_⟩, fun z => ?_⟩
  · have y : H 35 13 ≤ 0 := y
    unfold mPw
    rw [if_pos y]
  · have y : ¬ H 35 13 ≤ 0 := y
    dsimp only
    rw [z32_id (x := H 35 13 - 1) (by omega) (by omega), zupd_no (H := H) (q := 35) (j := 14) (by omega)]
    refine tail _ z ?_
    unfold mPw
    rw [if_neg y]
  · have z : H 35 13 = 0 := Classical.not_not.mp z
    unfold mPt at hQ
    rw [if_pos z] at hQ
    exact ⟨Or.inl rfl, Or.inl rfl, hQ⟩
end MODEL2
