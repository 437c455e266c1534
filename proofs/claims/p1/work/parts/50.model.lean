/-! The reference: its numbers, cells and places. -/
def mS (d w r : Int) (L : Int → Int) (H : zHp) : Prop := gOK d w r ∧ (L 36 = 16 ∧ L 37 = 16 ∧ L 38 = 1040 ∧ L 39 = 1040 ∧ L 40 = 72800 ∧ L 41 = 1024 ∧ L 42 = 512 ∧ L 43 = 49152 ∧ L 44 = 64) ∧ (L 45 = 1280 ∧ L 46 = 768 ∧ L 47 = 49152 ∧ L 48 = 1280 ∧ L 49 = 768 ∧ L 50 = 49152 ∧ L 51 = 48 ∧ L 52 = 3072 ∧ L 53 = 64) ∧ (H 35 1 = d ∧ H 35 2 = w ∧ H 35 3 = r ∧ H 35 4 = gGr d w ∧ H 35 6 = gUc d) ∧ ∀ i, 0 ≤ i → i < gUc d → H 36 i = gUn d i
theorem mS.upd {d w r : Int} {L : Int → Int} {H : zHp} {o i v : Int} (h : mS d w r L H) (ho : o ≠ 36 ∧ (o = 35 → i ≠ 1 ∧ i ≠ 2 ∧ i ≠ 3 ∧ i ≠ 4 ∧ i ≠ 6)) : mS d w r L (zupd H o i v) := by
  obtain ⟨h1, h2, h3, ⟨h4, h5, h6, h7, h8⟩, h9⟩ := h
  refine ⟨h1, h2, h3, ⟨?_, ?_, ?_, ?_, ?_⟩, fun j j0 j1 => ?_⟩
  · rw [zupd_no (fun u => (ho.2 u.1.symm).1 u.2.symm)]; exact h4
  · rw [zupd_no (fun u => (ho.2 u.1.symm).2.1 u.2.symm)]; exact h5
  · rw [zupd_no (fun u => (ho.2 u.1.symm).2.2.1 u.2.symm)]; exact h6
  · rw [zupd_no (fun u => (ho.2 u.1.symm).2.2.2.1 u.2.symm)]; exact h7
  · rw [zupd_no (fun u => (ho.2 u.1.symm).2.2.2.2 u.2.symm)]; exact h8
  · rw [zupd_ne (fun u => ho.1 u.symm)]; exact h9 j j0 j1
theorem mS.of {d w r : Int} {L : Int → Int} {H H' : zHp} (h : mS d w r L H) (h35 : ∀ i, (i = 1 ∨ i = 2 ∨ i = 3 ∨ i = 4 ∨ i = 6) → H' 35 i = H 35 i) (h36 : ∀ i, H' 36 i = H 36 i) : mS d w r L H' := by
  obtain ⟨h1, h2, h3, ⟨h4, h5, h6, h7, h8⟩, h9⟩ := h
  exact ⟨h1, h2, h3, ⟨by rw [h35 1 (by omega)]; exact h4, by rw [h35 2 (by omega)]; exact h5, by rw [h35 3 (by omega)]; exact h6, by rw [h35 4 (by omega)]; exact h7, by rw [h35 6 (by omega)]; exact h8⟩, fun j j0 j1 => by rw [h36]; exact h9 j j0 j1⟩
theorem m_at {x o : Int} {S : zS} {Qr Qt : Int → zS → Prop} (hx : 0 ≤ x ∧ x ≤ 1000) (ho : 0 ≤ o ∧ o ≤ 1000) (hQ : Qr (65 * x + o) S) : zEnds 118 183 0 [(0, x), (0, o)] [] S Qr Qt := by
  refine v_183 ?_
  rw [z32_id (x := 65 * x) (by omega) (by omega), z32_id (by omega) (by omega)]
  exact hQ
section MODEL
variable {d w r : Int} {t : Nat} {L : Int → Int} {H : zHp} {Qr Qt : Int → zS → Prop}
theorem m_diskOf {row pos : Int} (h : mS d w r L H) (hr : 0 ≤ row ∧ row ≤ 1000) (hp : 0 ≤ pos ∧ pos ≤ d) (hQ : Qr (gDk d row pos) (t, L, H)) : zEnds 118 184 0 [(29, 35), (0, row), (0, pos)] [] (t, L, H) Qr Qt := by
  obtain ⟨hk, ⟨l36, -⟩, -, ⟨n1, n2, n3, n4, n6⟩, hu⟩ := h
  obtain ⟨⟨u1, u2⟩, u3⟩ := gUn_at hk
  have h1 := hk.1
  have h2 := hk.2.1
  have m1 := Int.emod_nonneg row (b := gUc d) (by omega)
  have m2 := Int.emod_lt_of_pos row (b := gUc d) (by omega)
  obtain ⟨u4, u5, -⟩ := u3 (row % gUc d) m1 m2
  refine v_184 ?_
  dsimp only
  rw [n6, n1, zrem_pos hr.1, hu _ m1 m2]
  have b1 : 0 ≤ pos * gUn d (row % gUc d) := Int.mul_nonneg hp.1 (by omega)
  have b2 : pos * gUn d (row % gUc d) ≤ 16 * gUn d (row % gUc d) := Int.mul_le_mul_of_nonneg_right (by omega) (by omega)
  rw [z32_id (x := pos * gUn d (row % gUc d)) (by omega) (by omega), z32_id (x := row + pos * gUn d (row % gUc d)) (by omega) (by omega), zrem_pos (by omega)]
  exact ⟨by omega, by omega, by omega, hQ⟩
theorem m_blocks (h : mS d w r L H) (hQ : Qr (r * gGr d w * (w - 1)) (t, L, H)) : zEnds 118 185 0 [(29, 35)] [] (t, L, H) Qr Qt := by
  obtain ⟨hk, -, -, ⟨n1, n2, n3, n4, n6⟩, hu⟩ := h
  obtain ⟨p1, p2, p3, p4⟩ := gPo_rg hk
  have hB := gBl_le hk
  have h3 := hk.2.2.1
  have h4 := hk.2.2.2.1
  have h6 := hk.2.2.2.2.2.1
  have h7 := hk.2.2.2.2.2.2
  refine v_185 ?_
  dsimp only
  have b1 : 0 ≤ r * gGr d w := Int.mul_nonneg (by omega) (by omega)
  have b2 : r * gGr d w ≤ 64 * gGr d w := Int.mul_le_mul_of_nonneg_right h7 (by omega)
  have b3 : 0 ≤ r * gGr d w * (w - 1) := Int.mul_nonneg b1 (by omega)
  rw [n3, n4, n2, z32_id (x := r * gGr d w) (by omega) (by omega), z32_id (x := w - 1) (by omega) (by omega), z32_id (by omega) (by omega)]
  exact hQ
theorem mPo_z (h : mS d w r L H) : z32 (H 35 2 * H 35 4) = gPo d w := by
  obtain ⟨hk, -, -, ⟨n1, n2, n3, n4, n6⟩, hu⟩ := h
  obtain ⟨p1, p2, p3, p4⟩ := gPo_rg hk
  have h2 := hk.2.1
  have h3 := hk.2.2.1
  rw [n2, n4]
  show z32 (gPo d w) = gPo d w
  exact z32_id (by omega) (by omega)
/-- a cell is valid -/
def mVal (H : zHp) (x o : Int) : Prop := H 37 x ≠ 0 ∧ H 38 (65 * x + o) ≠ 0 ∧ ∀ k, 0 ≤ k → k < 70 → H 40 (70 * (65 * x + o) + k) = 0
theorem m_isValid {x o : Int} (h : mS d w r L H) (hx : 0 ≤ x ∧ x < d) (ho : 0 ≤ o ∧ o ≤ r) (h1 : mVal H x o → Qr 1 (t, L, H)) (h0 : ¬ mVal H x o → Qr 0 (t, L, H)) : zEnds 118 186 0 [(29, 35), (0, x), (0, o), (9, 0), (9, 0)] [] (t, L, H) Qr Qt := by
  obtain ⟨hk, ⟨l36, l37, l38, l39, l40, l41, -⟩, -, -, -⟩ := h
  have h2 := hk.2.1
  have h7 := hk.2.2.2.2.2.2
  have key : ∀ (n : Nat) (v k : Int), 0 ≤ k → k + n = 70 → (v = 0 ∨ v = 1) → (v = 1 → ∀ j, 0 ≤ j → j < k → H 40 (70 * (65 * x + o) + j) = 0) → (v = 0 → ∃ j, 0 ≤ j ∧ j < 70 ∧ H 40 (70 * (65 * x + o) + j) ≠ 0) → H 37 x ≠ 0 → H 38 (65 * x + o) ≠ 0 → zEnds 118 186 36 [(29, 35), (0, x), (0, o), (0, v), (0, 70 * (65 * x + o) + k)] [] (t, L, H) Qr Qt := by
    intro n
    induction n with
    | zero =>
      intro v k k0 k1 hv g1 g0 q1 q2
      refine v_186_36 (m_at (by omega) (by omega) ⟨fun _ => ⟨hv, ?_⟩, fun z => absurd ?_ z⟩)
      · rcases hv with hv | hv
        · rw [hv]
          obtain ⟨j, j0, j1, j2⟩ := g0 hv
          exact h0 (fun u => j2 (u.2.2 j j0 j1))
        · rw [hv]
          exact h1 ⟨q1, q2, fun j j0 j1 => g1 hv j j0 (by omega)⟩
      · rw [z32_id (x := 70 * (65 * x + o)) (by omega) (by omega), z32_id (by omega) (by omega)]
        omega
    | succ n ih =>
      intro v k k0 k1 hv g1 g0 q1 q2
      refine v_186_36 (m_at (by omega) (by omega) ⟨fun z => ?_, fun _ => ?_⟩)
      · rw [z32_id (x := 70 * (65 * x + o)) (by omega) (by omega), z32_id (by omega) (by omega)] at z
        omega
      · rw [z32_id (x := 70 * (65 * x + o) + k + 1) (by omega) (by omega), Int.add_assoc (70 * (65 * x + o)) k 1]
        refine ⟨fun z => ih 0 (k + 1) (by omega) (by omega) (Or.inl rfl) (fun u => by omega) (fun _ => g0 z) q1 q2, fun z => ⟨⟨by omega, by show _ < L 40; omega⟩, fun y => ?_, fun y => ?_⟩⟩
        · exact ih 0 (k + 1) (by omega) (by omega) (Or.inl rfl) (fun u => by omega) (fun _ => ⟨k, k0, by omega, y⟩) q1 q2
        · refine ih 1 (k + 1) (by omega) (by omega) (Or.inr rfl) (fun _ j j0 j1 => ?_) (fun u => by omega) q1 q2
          by_cases c : j = k
          · rw [c]; exact Classical.not_not.mp y
          · exact g1 (hv.resolve_left z) j j0 (by omega)
  refine v_186 ⟨⟨hx.1, by show x < L 37; omega⟩, fun z => ⟨Or.inl rfl, h0 (fun u => u.1 z)⟩, fun z => m_at (by omega) (by omega) ⟨⟨by omega, by show 65 * x + o < L 38; omega⟩, fun y => m_at (by omega) (by omega) ?_, fun y => ⟨Or.inl rfl, h0 (fun u => y u.2.1)⟩⟩⟩
  rw [z32_id (x := 70 * (65 * x + o)) (by omega) (by omega)]
  have := key 70 1 0 (by omega) (by omega) (Or.inr rfl) (fun _ j j0 j1 => by omega) (fun u => by omega) z y
  rw [Int.add_zero] at this
  exact this
/-- the place that opening finds -/
def mTold (d : Int) (H : zHp) (row p q : Int) : Prop := mVal H (gDk d row q) row ∧ H 39 (65 * gDk d row q + row) = p + 1
noncomputable def mFs (d : Int) (H : zHp) (row p q : Int) (n : Nat) : Int := if gFirst (mTold d H row p) q n = -1 then -1 else gDk d row (gFirst (mTold d H row p) q n)
noncomputable def mFound (d w : Int) (H : zHp) (row p : Int) : Int := if H 37 (gDk d row p) ≠ 0 ∧ H 38 (65 * gDk d row p + row) ≠ 0 then gDk d row p else mFs d H row p (gPo d w) (d - gPo d w).toNat
theorem m_found {row p : Int} (h : mS d w r L H) (hr : 0 ≤ row ∧ row < r) (hp : 0 ≤ p ∧ p < gPo d w) (hQ : Qr (mFound d w H row p) (t, L, H)) : zEnds 118 187 0 [(29, 35), (0, row), (0, p), (9, 0), (9, 0), (9, 0)] [] (t, L, H) Qr Qt := by
  obtain ⟨p1, p2, p3, p4⟩ := gPo_rg h.1
  have h2 := h.1.2.1
  have h3 := h.1.2.2.1
  have h7 := h.1.2.2.2.2.2.2
  have hl := h.2.1
  have n1 : H 35 1 = d := h.2.2.2.1.1
  have ePo := mPo_z h
  have key : ∀ (n : Nat) (u : Int), gPo d w ≤ u → u + n = d → Qr (mFs d H row p u n) (t, L, H) → zEnds 118 187 42 [(29, 35), (0, row), (0, p), (9, 0), (0, u), (9, 0)] [] (t, L, H) Qr Qt := by
    intro n
    induction n with
    | zero =>
      intro u u1 u2 hq
      exact v_187_42 ⟨fun _ => hq, fun z => absurd (by show H 35 1 ≤ u; omega) z⟩
    | succ n ih =>
      intro u u1 u2 hq
      have hg := gDk_rg (row := row) (pos := u) h.1
      have no : ¬ mTold d H row p u → zEnds 118 187 42 [(29, 35), (0, row), (0, p), (9, 0), (0, z32 (u + 1)), (9, 0)] [] (t, L, H) Qr Qt := by
        intro c
        unfold mFs at hq
        rw [gFirst_no (P := mTold d H row p) c] at hq
        rw [z32_id (x := u + 1) (by omega) (by omega)]
        exact ih (u + 1) (by omega) (by omega) hq
      refine v_187_42 ⟨fun z => absurd z (by show ¬ H 35 1 ≤ u; omega), fun _ => m_diskOf h (by omega) (by omega) (m_isValid h hg (by omega) (fun y => ⟨fun z => absurd z (by decide), fun _ => m_at (by omega) (by omega) ⟨⟨by omega, by show _ < L 39; omega⟩, fun z => ?_, fun z => ?_⟩⟩) (fun y => ⟨fun _ => no (fun c => y c.1), fun z => absurd rfl z⟩))⟩
      · rw [z32_id (x := p + 1) (by omega) (by omega)] at z
        exact no (fun c => z c.2)
      · rw [z32_id (x := p + 1) (by omega) (by omega)] at z
        unfold mFs at hq
        rw [gFirst_yes (P := mTold d H row p) ⟨y, Classical.not_not.mp z⟩, if_neg (by omega)] at hq
        exact hq
  have hg := gDk_rg (row := row) (pos := p) h.1
  unfold mFound at hQ
  refine v_187 (m_diskOf h (by omega) (by omega) ⟨⟨hg.1, by show _ < L 37; omega⟩, fun z => ?_, fun z => m_at (by omega) (by omega) ⟨⟨by omega, by show _ < L 38; omega⟩, fun y => ?_, fun y => ?_⟩⟩)
  · dsimp only
    rw [ePo]
    rw [if_neg (fun u => u.1 z)] at hQ
    exact key (d - gPo d w).toNat (gPo d w) (by omega) (by omega) hQ
  · dsimp only
    rw [ePo]
    rw [if_neg (fun u => u.2 y)] at hQ
    exact key (d - gPo d w).toNat (gPo d w) (by omega) (by omega) hQ
  · rw [if_pos ⟨z, y⟩] at hQ
    exact hQ
noncomputable def mPl (d w : Int) (H : zHp) (row p : Int) : Int := if H 35 12 = 0 then mFound d w H row p else H 41 (16 * row + p)
theorem m_placeOf {row p : Int} (h : mS d w r L H) (hr : 0 ≤ row ∧ row < r) (hp : 0 ≤ p ∧ p < gPo d w) (hQ : Qr (mPl d w H row p) (t, L, H)) : zEnds 118 188 0 [(29, 35), (0, row), (0, p)] [] (t, L, H) Qr Qt := by
  obtain ⟨p1, p2, p3, p4⟩ := gPo_rg h.1
  have h2 := h.1.2.1
  have h7 := h.1.2.2.2.2.2.2
  have l41 : L 41 = 1024 := h.2.1.2.2.2.2.2.1
  unfold mPl at hQ
  refine v_188 ⟨fun z => ?_, fun z => ?_⟩
  · rw [if_pos z] at hQ
    exact m_found h hr hp hQ
  · rw [if_neg z] at hQ
    rw [z32_id (x := 16 * row) (by omega) (by omega), z32_id (x := 16 * row + p) (by omega) (by omega)]
    exact ⟨⟨by omega, by show _ < L 41; omega⟩, hQ⟩
/-- the places are disks, or none -/
def mOk (d w r : Int) (H : zHp) : Prop := ∀ row p, 0 ≤ row → row < r → 0 ≤ p → p < gPo d w → -1 ≤ mPl d w H row p ∧ mPl d w H row p < d
def mSpt (d w : Int) (H : zHp) (row p : Int) : Prop := ¬ mPl d w H row p < 0 ∧ ¬ mVal H (mPl d w H row p) row
theorem m_isSpoilt {row p : Int} (h : mS d w r L H) (ho : mOk d w r H) (hr : 0 ≤ row ∧ row < r) (hp : 0 ≤ p ∧ p < gPo d w) (h1 : mSpt d w H row p → Qr 1 (t, L, H)) (h0 : ¬ mSpt d w H row p → Qr 0 (t, L, H)) : zEnds 118 189 0 [(29, 35), (0, row), (0, p), (9, 0)] [] (t, L, H) Qr Qt := by
  have g := ho row p hr.1 hr.2 hp.1 hp.2
  refine v_189 (m_placeOf h hr hp ⟨fun z => ⟨Or.inl rfl, h0 (fun u => u.1 z)⟩, fun z => m_isValid h (by omega) (by omega) (fun y => ⟨fun _ => ⟨Or.inl rfl, h0 (fun u => u.2 y)⟩, fun u => absurd (by decide) u⟩) (fun y => ⟨fun u => absurd rfl u, fun _ => ⟨Or.inr rfl, h1 ⟨z, y⟩⟩⟩)⟩)
def mBd (d w : Int) (H : zHp) (row x p : Int) : Prop := mPl d w H row p < 0 ∨ mPl d w H row p = x ∨ mSpt d w H row p
theorem m_bad {row p x : Int} (h : mS d w r L H) (ho : mOk d w r H) (hr : 0 ≤ row ∧ row < r) (hp : 0 ≤ p ∧ p < gPo d w) (hQ : Qr (gCnt (mBd d w H row x) (p / w * w) w.toNat) (t, L, H)) : zEnds 118 190 0 [(29, 35), (0, row), (0, p), (0, x), (9, 0), (9, 0), (9, 0), (9, 0)] [] (t, L, H) Qr Qt := by
  obtain ⟨p1, p2, p3, p4⟩ := gPo_rg h.1
  have h2 := h.1.2.1
  have h3 := h.1.2.2.1
  have h4 := h.1.2.2.2.1
  have n2 : H 35 2 = w := h.2.2.2.1.2.1
  have a1 : p / w * w ≤ p := Int.ediv_mul_le p (by omega)
  have a2 : 0 ≤ p / w * w := Int.mul_nonneg (Int.ediv_nonneg hp.1 (by omega)) (by omega)
  have a3 : p / w * w + w ≤ gPo d w := by
    have b1 : p / w < gGr d w := by
      rw [Int.ediv_lt_iff_lt_mul (by omega)]
      have : gGr d w * w = gPo d w := by unfold gPo; rw [Int.mul_comm]
      omega
    have b2 : (p / w + 1) * w ≤ gGr d w * w := Int.mul_le_mul_of_nonneg_right (by omega) (by omega)
    rw [Int.add_mul, Int.one_mul] at b2
    have : gGr d w * w = gPo d w := by unfold gPo; rw [Int.mul_comm]
    omega
  generalize hf : p / w * w = f at hQ a1 a2 a3
  have key : ∀ (n : Nat) (c u : Int), f ≤ u → u + n = f + w → 0 ≤ c → c ≤ u - f → Qr (c + gCnt (mBd d w H row x) u n) (t, L, H) → zEnds 118 190 20 [(29, 35), (0, row), (9, 0), (0, x), (0, f), (0, c), (0, u), (9, 0)] [] (t, L, H) Qr Qt := by
    intro n
    induction n with
    | zero =>
      intro c u u1 u2 c1 c2 hq
      refine v_190_20 ⟨fun _ => ?_, fun z => absurd (by show z32 (f + H 35 2) ≤ u; rw [n2, z32_id (by omega) (by omega)]; omega) z⟩
      have e : c + gCnt (mBd d w H row x) u 0 = c := by show c + 0 = c; omega
      rw [e] at hq
      exact hq
    | succ n ih =>
      intro c u u1 u2 c1 c2 hq
      have yes : mBd d w H row x u → zEnds 118 190 20 [(29, 35), (0, row), (9, 0), (0, x), (0, f), (0, z32 (c + 1)), (0, z32 (u + 1)), (9, 0)] [] (t, L, H) Qr Qt := by
        intro y
        rw [gCnt_yes y, ← Int.add_assoc] at hq
        rw [z32_id (x := c + 1) (by omega) (by omega), z32_id (x := u + 1) (by omega) (by omega)]
        exact ih (c + 1) (u + 1) (by omega) (by omega) (by omega) (by omega) hq
      refine v_190_20 ⟨fun z => absurd z (by show ¬ z32 (f + H 35 2) ≤ u; rw [n2, z32_id (by omega) (by omega)]; omega), fun _ => m_placeOf h hr (by omega) ⟨fun z => yes (Or.inl z), fun z => ⟨fun y => yes (Or.inr (Or.inl y)), fun y => m_isSpoilt h ho hr (by omega) (fun v => ⟨fun q => absurd q (by decide), fun _ => yes (Or.inr (Or.inr v))⟩) (fun v => ⟨fun _ => ?_, fun q => absurd rfl q⟩)⟩⟩⟩
      rw [gCnt_no (fun q : mBd d w H row x u => q.elim z (fun q => q.elim y v))] at hq
      rw [z32_id (x := c + 0) (by omega) (by omega), z32_id (x := u + 1) (by omega) (by omega)]
      exact ih (c + 0) (u + 1) (by omega) (by omega) (by omega) (by omega) (by rw [show c + 0 = c by omega]; exact hq)
  refine v_190 ?_
  dsimp only
  rw [n2, zdiv_pos hp.1 (by omega) (by omega)]
  rw [hf, z32_id (x := f) (by omega) (by omega)]
  refine ⟨by omega, key w.toNat 0 f (by omega) (by omega) (by omega) (by omega) ?_⟩
  rw [Int.zero_add]
  exact hQ
end MODEL
