/-! What goes with a tree, whatever holds its numbers. -/
section TREE2
variable {d w r B : Int} {t : Nat} {L : Int → Int} {H M N K : zHp} {C : Int → Int → Int} {A A' : aSt} {β β' V : Int → Int}
theorem aE.of (hB : 96 ≤ B ∧ B ≤ 768) (g : aN B A.1) (h : aE B A β) (e : ∀ j, 0 ≤ j → j < 64 * B → β' j = β j) : aE B A β' := by
  refine ⟨fun i i0 i1 => ?_, fun b b0 b1 => ?_, fun b k b0 b1 o k0 k1 => ?_⟩
  · exact eI_congr (h.1 i i0 i1) (fun _ _ _ => rfl) (fun f f0 f1 => e _ (by omega) (by omega)) (g i i0 i1).2.2.1.2
  · unfold mT
    rw [e _ (by omega) (by omega)]
    exact h.2.1 b b0 b1
  · rw [e _ (by omega) (by omega)]
    exact h.2.2 b k b0 b1 o k0 k1
theorem aOw.nn {b : Int} (h : aOw B A) (hb : 0 ≤ b ∧ b < 768) : 0 ≤ A.2.1 b := by
  by_cases c : b < 59
  · rw [h.1 b hb.1 c]; decide
  · rcases h.2 b (by omega) hb.2 with u | ⟨-, i, u, v, -⟩
    · omega
    · omega
theorem aSame.mby' {b k : Int} (h : aSame B A A') (hB : B ≤ 768) (ho : aOw B A) (hb : 25 ≤ b ∧ b < B) (hk : 0 ≤ k ∧ k < 64) : mBy B A' V b k = mBy B A V b k := by
  by_cases o : A.2.1 b = 0
  · have o' : A'.2.1 b = 0 := by rw [h.2.1 b (by omega) (by omega)]; exact o
    unfold mBy
    rw [if_pos (Or.inr o), if_pos (Or.inr o')]
  · exact h.mby hB hb hk (by have := ho.nn (b := b) (by omega); omega)
theorem aSame.mch {b : Int} (h : aSame B A A') (hB : B ≤ 768) (ho : aOw B A) (hb : 25 ≤ b ∧ b < B) : mCh B A' V b ↔ mCh B A V b := by
  unfold mCh
  constructor
  · rintro ⟨k, k0, k1, u⟩
    exact ⟨k, k0, k1, by rw [← h.mby' hB ho hb ⟨k0, k1⟩]; exact u⟩
  · rintro ⟨k, k0, k1, u⟩
    exact ⟨k, k0, k1, by rw [h.mby' hB ho hb ⟨k0, k1⟩]; exact u⟩
/-- numbers in range that are the tree's -/
theorem aSame_of (g : aN B A.1) (hB : B ≤ 768) (n45 : ∀ j, 0 ≤ j → j < 1280 → N 45 j = A.1 j) (n46 : ∀ j, 0 ≤ j → j < 768 → N 46 j = A.2.1 j) (n47 : ∀ j, 0 ≤ j → j < 49152 → N 47 j = A.2.2 j) : aSame B A (N 45, N 46, N 47) := by
  refine ⟨fun i i0 i1 => ⟨⟨n45 _ (by omega) (by omega), n45 _ (by omega) (by omega), n45 _ (by omega) (by omega)⟩, fun e e0 e1 => ?_⟩, n46, fun b k b0 b1 _ k0 k1 => n47 _ (by omega) (by omega)⟩
  have c8 := (g i i0 i1).2.2.1.2
  exact ⟨n45 _ (by omega) (by omega), n45 _ (by omega) (by omega)⟩
/-- on, with the tree A -/
theorem rOn_tree (hk : gOK d w r) (vs : vS d w r C H N) (vv : vVal d w r C (N 43)) (J : Jr (r * gGr d w * (w - 1)) (N 43)) (on : H 0 11 = 1) (gd : aGood (r * gGr d w * (w - 1)) A) (e : aE (r * gGr d w * (w - 1)) A β) (eb : ∀ j, 0 ≤ j → j < 64 * (r * gGr d w * (w - 1)) → zB8 H 19 j = β j)
    (n45 : ∀ j, 0 ≤ j → j < 1280 → N 45 j = A.1 j) (n46 : ∀ j, 0 ≤ j → j < 768 → N 46 j = A.2.1 j) (n47 : ∀ j, 0 ≤ j → j < 49152 → N 47 j = A.2.2 j)
    (st : ∀ b j, 25 ≤ b → b < r * gGr d w * (w - 1) → 0 ≤ j → j < 8 → H 20 (8 * b + j) = C (gSo w b) j) (um : ∀ b, 25 ≤ b → b < r * gGr d w * (w - 1) → H 22 b = 0 → 0 < A.2.1 b → ∀ j, 0 ≤ j → j < 8 → H 19 (8 * b + j) = H 20 (8 * b + j))
    (few : gCnt (mCh (r * gGr d w * (w - 1)) A (N 43)) 25 (r * gGr d w * (w - 1) - 25).toNat ≤ 24) (h4 : N 43 4 = 0 ∧ H 29 6 = jSq (N 43)) (cn : H 0 12 = N 35 28 ∧ H 0 13 = N 35 29) : rOn d w r C H N := by
  have bl := gBl_le hk
  have hB2 := gBl_ge hk
  have sm := aSame_of gd.1.1.1 bl n45 n46 n47
  have gd' := sm.good bl gd
  have e1 : aE (r * gGr d w * (w - 1)) A (zB8 H 19) := e.of ⟨hB2, bl⟩ gd.1.1.1 eb
  refine ⟨vs, vv, ⟨⟨aE_of (V := N 43) gd' ⟨hB2, bl⟩ (fun b k b0 b1 k0 k1 o => ?_), gd'⟩, st, fun b b0 b1 u o j j0 j1 => um b b0 b1 u (by rw [← n46 b (by omega) (by omega)]; exact o) j j0 j1, ?_, h4, cn⟩, J, on⟩
  · have o' : 0 < A.2.1 b := by rw [← n46 b (by omega) (by omega)]; exact o
    rw [sm.mby bl ⟨b0, b1⟩ ⟨k0, k1⟩ o']
    exact aE_by e1 gd.1.1.1 (fun j _ => by unfold zB8; omega) ⟨b0, b1⟩ bl o' ⟨k0, k1⟩
  · rw [gCnt_congr _ _ (fun b b0 b1 => sm.mch bl gd.2.2.1 ⟨b0, by omega⟩)]
    exact few
/-- changed there and here -/
theorem ch_iff {b : Int} (hB : 96 ≤ B ∧ B ≤ 768) (g : aGood B A) (e : aE B A β) (eb : ∀ j, 0 ≤ j → zB8 K 19 j = β j) (z19 : ∀ j, z64 (K 19 j) = K 19 j) (z20 : ∀ j, z64 (K 20 j) = K 20 j) (st : ∀ k, 0 ≤ k → k < 64 → by8 (K 20 (8 * b + k / 8)) (k % 8) = V (64 * b + k)) (um : K 22 b = 0 → 0 < A.2.1 b → ∀ j, 0 ≤ j → j < 8 → K 19 (8 * b + j) = K 20 (8 * b + j)) (hb : 25 ≤ b ∧ b < B) : iCh β K b ↔ mCh B A V b := by
  have byt : 0 < A.2.1 b → ∀ k, 0 ≤ k → k < 64 → by8 (K 19 (8 * b + k / 8)) (k % 8) = mBy B A V b k := fun o k k0 k1 => by
    rw [← zB8_by ⟨k0, k1⟩, eb _ (by omega)]
    refine aE_by e g.1.1.1 (fun j j0 => ?_) hb hB.2 o ⟨k0, k1⟩
    rw [← eb j j0]
    unfold zB8
    omega
  constructor
  · rintro ⟨-, u2, j, j0, j1, u3⟩
    have o : 0 < A.2.1 b := ((e.2.1 b (by omega) (by omega)).mp u2).2
    apply Classical.byContradiction
    intro z
    refine u3 (by8_ext (z19 _) (z20 _) (fun k k0 k1 => ?_))
    have a := byt o (8 * j + k) (by omega) (by omega)
    have c := st (8 * j + k) (by omega) (by omega)
    rw [show (8 * j + k) / 8 = j by omega, show (8 * j + k) % 8 = k by omega] at a c
    rw [a, c]
    apply Classical.byContradiction
    intro y
    exact z ⟨8 * j + k, by omega, by omega, y⟩
  · rintro ⟨k, k0, k1, u⟩
    have o : 0 < A.2.1 b := by
      rcases Int.lt_or_eq_of_le (g.2.2.1.nn (b := b) (by omega)) with y | y
      · exact y
      · refine absurd ?_ u
        unfold mBy
        rw [if_pos (Or.inr y.symm)]
    have ne : ¬ ∀ j, 0 ≤ j → j < 8 → K 19 (8 * b + j) = K 20 (8 * b + j) := fun y => u (by
      rw [← byt o k k0 k1, ← st k k0 k1, y (k / 8) (by omega) (by omega)])
    refine ⟨fun y => ne (um y o), (e.2.1 b (by omega) (by omega)).mpr ⟨hb.2, o⟩, ?_⟩
    apply Classical.byContradiction
    intro y
    refine ne (fun j j0 j1 => ?_)
    apply Classical.byContradiction
    intro x
    exact y ⟨j, j0, j1, x⟩
end TREE2
