/-! Writing a block there and here. -/
/-- DiskPoolModel.becomes -/
def mBc (M : zHp) (b wd fr : Int) : zHp := fun q j => if q = 44 ∧ 0 ≤ j ∧ j < 64 then M 43 (64 * b + j) else if q = 43 ∧ 64 * b ≤ j ∧ j < 64 * b + 64 then M wd (fr + (j - 64 * b)) else M q j
/-- the spot's place, by the reference -/
noncomputable def mPs (d w : Int) (M : zHp) (s : Int) : Int := mPl d w M (s / gPo d w) (s % gPo d w)
/-- DiskPoolModel.writes: s is the block's spot, p its parity's -/
noncomputable def mWr (d w r : Int) (M : zHp) (b s p wd fr : Int) : Int × zHp :=
  if mPs d w M s < 0 ∨ mPs d w M p < 0 then fAnd (mPt M (if mPs d w M s < 0 then mPs d w M p else mPs d w M s) (s / gPo d w) (if mPs d w M s < 0 then p % gPo d w + 1 else s % gPo d w + 1)) (fun M1 => (1, mBc M1 b wd fr))
  else fAnd (mPt M (mPs d w M p) r (1 + 8 * (s / w) + s % w)) (fun M1 => fAnd (mPt M1 (mPs d w M s) (s / gPo d w) (s % gPo d w + 1)) (fun M2 => fAnd (mPt (zupd (zupd (mBc M2 b wd fr) 35 19 b) 35 20 1) (mPs d w M p) (s / gPo d w) (p % gPo d w + 1)) (fun M4 => mPt (zupd M4 35 20 0) (mPs d w M p) r 0)))
/-- power goes: the reference is off -/
def mOff (M : zHp) : zHp := zupd (zupd M 35 12 0) 35 13 (-1)
/-- one put, there and here -/
theorem st_put {d w r x o tag wd at' : Int} {H M : zHp} (hk : gOK d w r) (h : rK d r H M) (hL : rL H M) (hx : 0 ≤ x ∧ x < d) (ho : 0 ≤ o ∧ o ≤ r) (hl : M 37 x ≠ 0) (hw : wd ≠ 3 ∧ wd ≠ 8) :
    (fPr H (gCe r x o) tag wd at' = (0, H) ∧ mPt M x o tag = (0, mOff M)) ∨ (fPr H (gCe r x o) tag wd at' = (1, gPut H (gCe r x o) tag wd at') ∧ mPt M x o tag = (1, mPw M x o tag) ∧ rK d r (gPut H (gCe r x o) tag wd at') (mPw M x o tag) ∧ rL (gPut H (gCe r x o) tag wd at') (mPw M x o tag)) := by
  have a := hL.1
  unfold fPr mPt
  by_cases c : H 3 11 = 1
  · rw [if_pos c, if_pos (by omega)]
    exact Or.inl ⟨rfl, rfl⟩
  · rw [if_neg c, if_neg (by omega)]
    exact Or.inr ⟨rfl, rfl, h.put hk hx ho hl hw, hL.put hw c⟩
/-- the racks agree still, where other objects change -/
theorem rK.of {d r : Int} {H H' M M' : zHp} (h : rK d r H M) (e : ∀ q i, (q = 4 ∨ q = 5 ∨ q = 6 ∨ q = 7 ∨ q = 9) → H' q i = H q i) (e' : ∀ q i, (q = 37 ∨ q = 38 ∨ q = 39 ∨ q = 40) → M' q i = M q i) : rK d r H' M' := by
  obtain ⟨h1, h2, h3, h4⟩ := h
  refine ⟨fun x x0 x1 => by rw [e 4 x (by omega), e' 37 x (by omega)]; exact h1 x x0 x1, fun x o x0 x1 o0 o1 => ?_, fun j => by rw [e 9 j (by omega)]; exact h3 j, fun j => by rw [e' 40 j (by omega)]; exact h4 j⟩
  obtain ⟨a, b, c, f⟩ := h2 x o x0 x1 o0 o1
  rw [e 5 _ (by omega), e' 37 x (by omega), e' 38 _ (by omega), e 7 _ (by omega), e' 39 _ (by omega), e 6 _ (by omega)]
  refine ⟨a, b, fun k k0 k1 => ?_, ?_⟩
  · have q : zB8 H' 9 (72 * gCe r x o + k) = zB8 H 9 (72 * gCe r x o + k) := by
      unfold zB8
      rw [e 9 _ (by omega)]
    rw [q, c k k0 k1]
    by_cases k70 : M 37 x ≠ 0 ∧ k < 70
    · rw [if_pos k70, if_pos k70, e' 40 _ (by omega)]
    · rw [if_neg k70, if_neg k70]
  · rw [f]
    constructor
    · intro ⟨j, j0, j1, j2⟩; exact ⟨j, j0, j1, by rw [e 9 _ (by omega)]; exact j2⟩
    · intro ⟨j, j0, j1, j2⟩; exact ⟨j, j0, j1, by rw [e 9 _ (by omega)] at j2; exact j2⟩
theorem rL.of {H H' M M' : zHp} (h : rL H M) (e : ∀ i, (i = 10 ∨ i = 11) → H' 3 i = H 3 i) (e' : ∀ i, (i = 13 ∨ i = 14) → M' 35 i = M 35 i) : rL H' M' := by
  unfold rL
  rw [e 11 (by omega), e 10 (by omega), e' 13 (by omega), e' 14 (by omega)]
  exact h
