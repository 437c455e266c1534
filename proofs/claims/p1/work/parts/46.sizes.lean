/-! Inodes released; sizes. -/
theorem gSum_snoc {f : Int → Int} : ∀ (n : Nat) (a : Int), gSum f a (n + 1) = gSum f a n + f (a + n) := by
  intro n
  induction n with
  | zero =>
    intro a
    show f a + 0 = 0 + f (a + 0)
    rw [Int.add_zero, Int.add_zero, Int.zero_add]
  | succ n ih =>
    intro a
    show f a + gSum f (a + 1) (n + 1) = f a + gSum f (a + 1) n + f (a + ((n + 1 : Nat) : Int))
    rw [ih (a + 1), show a + 1 + (n : Int) = a + ((n + 1 : Nat) : Int) by omega, Int.add_assoc]
theorem aTot_last {N : Int → Int} {i : Int} (h : 0 < N (20 * i + 2)) : aTot N i = gSum (fun e => N (20 * i + 4 + 2 * e)) 0 (N (20 * i + 2) - 1).toNat + N (20 * i + 4 + 2 * (N (20 * i + 2) - 1)) := by
  unfold aTot
  have e : (N (20 * i + 2)).toNat = (N (20 * i + 2) - 1).toNat + 1 := by omega
  rw [e, gSum_snoc, show (0 : Int) + (((N (20 * i + 2) - 1).toNat : Nat) : Int) = N (20 * i + 2) - 1 by omega]
theorem aTot_pos {B : Int} {N : Int → Int} {i : Int} (ha : aI B N i) (h : 0 < aTot N i) : 0 < N (20 * i + 2) := by
  have hc := ha.2.2.1
  by_cases c : 0 < N (20 * i + 2)
  · exact c
  · unfold aTot at h
    rw [show (N (20 * i + 2)).toNat = 0 by omega] at h
    have h : (0 : Int) < 0 := h
    omega
/-- numbers of inodes other than i -/
def aOff (N N' : Int → Int) (i : Int) : Prop := ∀ j, ¬ (20 * i ≤ j ∧ j < 20 * i + 20) → N' j = N j
theorem aI_off {B : Int} {N N' : Int → Int} {i k : Int} (h : aI B N k) (hk : k ≠ i) (ho : aOff N N' i) (hc : N (20 * k + 2) ≤ 8) : aI B N' k := by
  have e : ∀ x, 0 ≤ x → x < 20 → N' (20 * k + x) = N (20 * k + x) := fun x x1 x2 => ho _ (by omega)
  have e0 := e 0 (by omega) (by omega)
  rw [Int.add_zero] at e0
  obtain ⟨h1, h2, h3, h4⟩ := h
  refine ⟨by rw [e0]; exact h1, by rw [e 1 (by omega) (by omega)]; exact h2, by rw [e 2 (by omega) (by omega)]; exact h3, fun x x1 x2 => ?_⟩
  rw [e 2 (by omega) (by omega)] at x2
  rw [Int.add_assoc (20 * k) 3, Int.add_assoc (20 * k) 4, e (3 + 2 * x) (by omega) (by omega), e (4 + 2 * x) (by omega) (by omega), ← Int.add_assoc, ← Int.add_assoc]
  exact h4 x x1 x2
theorem aN_off {B : Int} {N N' : Int → Int} {i : Int} (h : aN B N) (ho : aOff N N' i) (hi : aI B N' i) : aN B N' := by
  intro k k0 k1
  by_cases c : k = i
  · rw [c]; exact hi
  · exact aI_off (h k k0 k1) c ho (h k k0 k1).2.2.1.2
theorem aTake_N {B i : Int} {A A' : aSt} (ha : aN B A.1) (hi : 0 ≤ i ∧ i < 64) (h : aTake B A i = some A') : aN B A'.1 ∧ A'.1 (20 * i + 1) = A.1 (20 * i + 1) ∧ A'.1 (20 * i) = A.1 (20 * i) ∧ aTot A'.1 i = aTot A.1 i + 1 ∧ aOff A.1 A'.1 i := by
  obtain ⟨N, O, W⟩ := A
  have hA : aI B N i := ha i hi.1 hi.2
  have hc := hA.2.2.1
  unfold aTake at h
  by_cases g : aGrow B (N, O, W) i
  · rw [if_pos g] at h
    have h := (Option.some.inj h).symm
    rw [h]
    dsimp only
    obtain ⟨g1, g2, g3, -⟩ := g
    dsimp only at g1 g2 g3
    have hx := hA.2.2.2 (N (20 * i + 2) - 1) (by omega) (by omega)
    have ht := aTot_last g1
    have hN2 : ∀ v, bU N (20 * i + 4 + 2 * (N (20 * i + 2) - 1)) v (20 * i + 2) = N (20 * i + 2) := fun v => bU_ne (by omega)
    have ho : ∀ v, aOff N (bU N (20 * i + 4 + 2 * (N (20 * i + 2) - 1)) v) i := fun v j hj => bU_ne (by omega)
    refine ⟨aN_off ha (ho _) ?_, bU_ne (by omega), bU_ne (by omega), ?_, ho _⟩
    · refine ⟨by rw [bU_ne (by omega)]; exact hA.1, by rw [bU_ne (by omega)]; exact hA.2.1, by rw [hN2]; exact hc, fun x x1 x2 => ?_⟩
      rw [hN2] at x2
      by_cases cx : x = N (20 * i + 2) - 1
      · rw [cx, bU_at, bU_ne (by omega)]
        omega
      · rw [bU_ne (by omega), bU_ne (by omega)]
        exact hA.2.2.2 x x1 x2
    · rw [aTot_last (by rw [hN2]; exact g1), ht, hN2, bU_at]
      have e : gSum (fun e => bU N (20 * i + 4 + 2 * (N (20 * i + 2) - 1)) (N (20 * i + 4 + 2 * (N (20 * i + 2) - 1)) + 1) (20 * i + 4 + 2 * e)) 0 (N (20 * i + 2) - 1).toNat = gSum (fun e => N (20 * i + 4 + 2 * e)) 0 (N (20 * i + 2) - 1).toNat := gSum_congr _ _ (fun x x1 x2 => bU_ne (by omega))
      rw [e]
      omega
  · rw [if_neg g] at h
    by_cases c : aLeast B O = -1 ∨ 8 ≤ N (20 * i + 2)
    · rw [if_pos c] at h; cases h
    · rw [if_neg c] at h
      have h := (Option.some.inj h).symm
      rw [h]
      dsimp only
      have c1 := aLeast_rg (B := B) (O := O) (fun u => c (Or.inl u))
      have c2 : N (20 * i + 2) < 8 := by omega
      generalize aLeast B O = b at c1
      have hN2 : bU (bU (bU N (20 * i + 2) (N (20 * i + 2) + 1)) (20 * i + 3 + 2 * N (20 * i + 2)) b) (20 * i + 4 + 2 * N (20 * i + 2)) 1 (20 * i + 2) = N (20 * i + 2) + 1 := by rw [bU_ne (by omega), bU_ne (by omega), bU_at]
      have ho : aOff N (bU (bU (bU N (20 * i + 2) (N (20 * i + 2) + 1)) (20 * i + 3 + 2 * N (20 * i + 2)) b) (20 * i + 4 + 2 * N (20 * i + 2)) 1) i := fun j hj => by rw [bU_ne (by omega), bU_ne (by omega), bU_ne (by omega)]
      refine ⟨aN_off ha ho ?_, by rw [bU_ne (by omega), bU_ne (by omega), bU_ne (by omega)], by rw [bU_ne (by omega), bU_ne (by omega), bU_ne (by omega)], ?_, ho⟩
      · refine ⟨by rw [bU_ne (by omega), bU_ne (by omega), bU_ne (by omega)]; exact hA.1, by rw [bU_ne (by omega), bU_ne (by omega), bU_ne (by omega)]; exact hA.2.1, by rw [hN2]; omega, fun x x1 x2 => ?_⟩
        rw [hN2] at x2
        by_cases cx : x = N (20 * i + 2)
        · rw [cx, bU_at, bU_ne (by omega), bU_at]
          omega
        · have q : ∀ j, j ≠ 20 * i + 2 → j ≠ 20 * i + 3 + 2 * N (20 * i + 2) → j ≠ 20 * i + 4 + 2 * N (20 * i + 2) → bU (bU (bU N (20 * i + 2) (N (20 * i + 2) + 1)) (20 * i + 3 + 2 * N (20 * i + 2)) b) (20 * i + 4 + 2 * N (20 * i + 2)) 1 j = N j := fun j j1 j2 j3 => by rw [bU_ne j3, bU_ne j2, bU_ne j1]
          rw [q (20 * i + 3 + 2 * x) (by omega) (by omega) (by omega), q (20 * i + 4 + 2 * x) (by omega) (by omega) (by omega)]
          exact hA.2.2.2 x x1 (by omega)
      · rw [aTot_last (by rw [hN2]; omega), hN2, show N (20 * i + 2) + 1 - 1 = N (20 * i + 2) by omega, bU_at]
        have e : gSum (fun e => bU (bU (bU N (20 * i + 2) (N (20 * i + 2) + 1)) (20 * i + 3 + 2 * N (20 * i + 2)) b) (20 * i + 4 + 2 * N (20 * i + 2)) 1 (20 * i + 4 + 2 * e)) 0 (N (20 * i + 2)).toNat = aTot N i := gSum_congr _ _ (fun x x1 x2 => by rw [bU_ne (by omega), bU_ne (by omega), bU_ne (by omega)])
        rw [e]
theorem aGive_N {B i : Int} {A : aSt} (ha : aN B A.1) (hi : 0 ≤ i ∧ i < 64) (h : 0 < A.1 (20 * i + 2)) : aN B (aGive A i).1 ∧ (aGive A i).1 (20 * i + 1) = A.1 (20 * i + 1) ∧ (aGive A i).1 (20 * i) = A.1 (20 * i) ∧ aTot (aGive A i).1 i = aTot A.1 i - 1 ∧ aOff A.1 (aGive A i).1 i := by
  obtain ⟨N, O, W⟩ := A
  have hA : aI B N i := ha i hi.1 hi.2
  have hc := hA.2.2.1
  have g1 : 0 < N (20 * i + 2) := h
  have hx := hA.2.2.2 (N (20 * i + 2) - 1) (by omega) (by omega)
  have ht := aTot_last g1
  unfold aGive
  dsimp only
  by_cases c : 0 < N (20 * i + 4 + 2 * (N (20 * i + 2) - 1)) - 1
  · rw [if_pos c]
    have hN2 : ∀ v, bU N (20 * i + 4 + 2 * (N (20 * i + 2) - 1)) v (20 * i + 2) = N (20 * i + 2) := fun v => bU_ne (by omega)
    have ho : ∀ v, aOff N (bU N (20 * i + 4 + 2 * (N (20 * i + 2) - 1)) v) i := fun v j hj => bU_ne (by omega)
    refine ⟨aN_off ha (ho _) ?_, bU_ne (by omega), bU_ne (by omega), ?_, ho _⟩
    · refine ⟨by rw [bU_ne (by omega)]; exact hA.1, by rw [bU_ne (by omega)]; exact hA.2.1, by rw [hN2]; exact hc, fun x x1 x2 => ?_⟩
      rw [hN2] at x2
      by_cases cx : x = N (20 * i + 2) - 1
      · rw [cx, bU_at, bU_ne (by omega)]
        omega
      · rw [bU_ne (by omega), bU_ne (by omega)]
        exact hA.2.2.2 x x1 x2
    · rw [aTot_last (by rw [hN2]; exact g1), ht, hN2, bU_at]
      have e : gSum (fun e => bU N (20 * i + 4 + 2 * (N (20 * i + 2) - 1)) (N (20 * i + 4 + 2 * (N (20 * i + 2) - 1)) - 1) (20 * i + 4 + 2 * e)) 0 (N (20 * i + 2) - 1).toNat = gSum (fun e => N (20 * i + 4 + 2 * e)) 0 (N (20 * i + 2) - 1).toNat := gSum_congr _ _ (fun x x1 x2 => bU_ne (by omega))
      rw [e]
      omega
  · rw [if_neg c]
    have q : ∀ j, j ≠ 20 * i + 2 → j ≠ 20 * i + 3 + 2 * (N (20 * i + 2) - 1) → j ≠ 20 * i + 4 + 2 * (N (20 * i + 2) - 1) → bU (bU (bU N (20 * i + 4 + 2 * (N (20 * i + 2) - 1)) 0) (20 * i + 3 + 2 * (N (20 * i + 2) - 1)) 0) (20 * i + 2) (N (20 * i + 2) - 1) j = N j := fun j j1 j2 j3 => by rw [bU_ne j1, bU_ne j2, bU_ne j3]
    have hN2 : bU (bU (bU N (20 * i + 4 + 2 * (N (20 * i + 2) - 1)) 0) (20 * i + 3 + 2 * (N (20 * i + 2) - 1)) 0) (20 * i + 2) (N (20 * i + 2) - 1) (20 * i + 2) = N (20 * i + 2) - 1 := bU_at
    have ho : aOff N (bU (bU (bU N (20 * i + 4 + 2 * (N (20 * i + 2) - 1)) 0) (20 * i + 3 + 2 * (N (20 * i + 2) - 1)) 0) (20 * i + 2) (N (20 * i + 2) - 1)) i := fun j hj => q j (by omega) (by omega) (by omega)
    refine ⟨aN_off ha ho ?_, q _ (by omega) (by omega) (by omega), q _ (by omega) (by omega) (by omega), ?_, ho⟩
    · refine ⟨by rw [q _ (by omega) (by omega) (by omega)]; exact hA.1, by rw [q _ (by omega) (by omega) (by omega)]; exact hA.2.1, by rw [hN2]; omega, fun x x1 x2 => ?_⟩
      rw [hN2] at x2
      rw [q _ (by omega) (by omega) (by omega), q _ (by omega) (by omega) (by omega)]
      exact hA.2.2.2 x x1 (by omega)
    · rw [ht]
      unfold aTot
      rw [hN2]
      have e : gSum (fun e => bU (bU (bU N (20 * i + 4 + 2 * (N (20 * i + 2) - 1)) 0) (20 * i + 3 + 2 * (N (20 * i + 2) - 1)) 0) (20 * i + 2) (N (20 * i + 2) - 1) (20 * i + 4 + 2 * e)) 0 (N (20 * i + 2) - 1).toNat = gSum (fun e => N (20 * i + 4 + 2 * e)) 0 (N (20 * i + 2) - 1).toNat := gSum_congr _ _ (fun x x1 x2 => q _ (by omega) (by omega) (by omega))
      rw [e]
      omega
noncomputable def aTakeN (B i : Int) : Nat → aSt → Option aSt
  | 0, A => some A
  | m + 1, A => match aTake B A i with
    | none => none
    | some A' => aTakeN B i m A'
noncomputable def aGiveN (i : Int) : Nat → aSt → aSt
  | 0, A => A
  | m + 1, A => aGiveN i m (aGive A i)
/-- a size set -/
noncomputable def aFit (A : aSt) (i s : Int) : aSt := (bU A.1 (20 * i + 1) s, A.2.1, aClr A.1 A.2.2 i s)
noncomputable def aRes (B : Int) (A : aSt) (i s : Int) : Option aSt := match aTakeN B i ((s + 63) / 64 - (A.1 (20 * i + 1) + 63) / 64).toNat A with
  | none => none
  | some A1 => some (aFit (aGiveN i ((A.1 (20 * i + 1) + 63) / 64 - (s + 63) / 64).toNat A1) i s)
theorem n_blocksFor {s : Int} {S : zS} {Qr Qt : Int → zS → Prop} (hs : 0 ≤ s ∧ s ≤ 1000000) (hQ : Qr ((s + 63) / 64) S) : zEnds 80 114 0 [(0, s)] [] S Qr Qt := by
  refine v_114 ⟨by decide, ?_⟩
  rw [z32_id (x := s + 64) (by omega) (by omega), z32_id (x := s + 64 - 1) (by omega) (by omega), zdiv_pos (by omega) (by omega) (by decide), show s + 64 - 1 = s + 63 by omega]
  exact hQ
section SIZES
variable {F : zHp} {B : Int} {t : Nat} {L : Int → Int} {Qr Qt : Int → zS → Prop} {i s : Int}
theorem aE_size {N O W β : Int → Int} (hE : aE B (N, O, W) β) (ha : aN B N) (hi : 0 ≤ i ∧ i < 64) : aE B (bU N (20 * i + 1) s, O, W) (bU (bU β (1600 + 32 * i + 2) (s % 256)) (1600 + 32 * i + 3) (s / 256 % 256)) := by
  refine aE_node hE (eN_one (i := i) ha hE.1 (fun j hj => bU_ne (by omega)) (fun j j1 j2 => by rw [bU_ne (by omega), bU_ne (by omega)]) ?_) (fun j hj => by rw [bU_ne (by omega), bU_ne (by omega)])
  obtain ⟨i1, i2, i3, i4, i5, i6⟩ : eI N β i := hE.1 i hi.1 hi.2
  have q : ∀ x, x ≠ 2 → x ≠ 3 → bU (bU β (1600 + 32 * i + 2) (s % 256)) (1600 + 32 * i + 3) (s / 256 % 256) (1600 + 32 * i + x) = β (1600 + 32 * i + x) := fun x x2 x3 => by rw [bU_ne (by omega), bU_ne (by omega)]
  have q0 := q 0 (by omega) (by omega)
  rw [Int.add_zero] at q0
  refine ⟨?_, ?_, ?_, ?_, ?_, fun e e1 e2 => ?_⟩
  · rw [q0, bU_ne (by omega)]; exact i1
  · rw [q 1 (by omega) (by omega), bU_ne (by omega)]; exact i2
  · rw [bU_ne (by omega), bU_at, bU_at]
  · rw [bU_at, bU_at]
  · rw [q 31 (by omega) (by omega)]; exact i5
  · rw [q (4 + 3 * e) (by omega) (by omega), q (5 + 3 * e) (by omega) (by omega), q (6 + 3 * e) (by omega) (by omega), bU_ne (by omega), bU_ne (by omega), bU_ne (by omega)]
    exact i6 e e1 e2
theorem n_resize {n : Int} {X : List Int} {β : Int → Int} {H : zHp} {A : aSt} (h : fS F B n X β L H) (hE : aE B A β) (ha : aN B A.1) (hi : 0 ≤ i ∧ i < 64) (hX : 25 + i / 2 ∈ X ∧ 57 ∈ X ∧ 58 ∈ X) (hs : 0 ≤ s ∧ s ≤ 65535) (ht : aTot A.1 i = (A.1 (20 * i + 1) + 63) / 64) (hn : n + (((s + 63) / 64 - (A.1 (20 * i + 1) + 63) / 64).toNat : Int) + 1 ≤ 24)
    (hz : ∀ A1, A.1 (20 * i + 1) ≤ s → aTakeN B i ((s + 63) / 64 - (A.1 (20 * i + 1) + 63) / 64).toNat A = some A1 → aClr A1.1 A1.2.2 i s = A1.2.2)
    (h0 : aRes B A i s = none → ∀ n' X' β' H', fS F B n' X' β' L H' → Qr 0 (t, L, H'))
    (h1 : ∀ A' n' X' β' H', aRes B A i s = some A' → n' ≤ n + (((s + 63) / 64 - (A.1 (20 * i + 1) + 63) / 64).toNat : Int) + 1 → (∀ x, x ∈ X → x ∈ X') → fS F B n' X' β' L H' → aE B A' β' → Qr 1 (t, L, H')) : zEnds 80 115 0 [(26, 26), (0, i), (0, s), (9, 0), (9, 0), (9, 0)] [] (t, L, H) Qr Qt := by
  have hA0 := ha i hi.1 hi.2
  have hs0 := hA0.2.1
  generalize hsz : A.1 (20 * i + 1) = s0 at hs0 ht hn hz h1 h0
  have hres : ∀ A1, aTakeN B i ((s + 63) / 64 - (s0 + 63) / 64).toNat A = some A1 → aRes B A i s = some (aFit (aGiveN i ((s0 + 63) / 64 - (s + 63) / 64).toNat A1) i s) := fun A1 u => by
    unfold aRes
    rw [hsz, u]
  have hres0 : aTakeN B i ((s + 63) / 64 - (s0 + 63) / 64).toNat A = none → aRes B A i s = none := fun u => by
    unfold aRes
    rw [hsz, u]
  -- the end
  have fin : ∀ (A2 : aSt) (n2 : Int) (X2 : List Int) (β2 : Int → Int) (H2 : zHp), fS F B n2 X2 β2 L H2 → aE B A2 β2 → aN B A2.1 → aTot A2.1 i = (s + 63) / 64 → A2.1 (20 * i + 1) = s0 → (∀ x, x ∈ X → x ∈ X2) → n2 ≤ n + (((s + 63) / 64 - (s0 + 63) / 64).toNat : Int) → aRes B A i s = some (aFit A2 i s) → (s0 ≤ s → aClr A2.1 A2.2.2 i s = A2.2.2) →
      zEnds 80 104 0 [(26, 26), (0, i)] [] (t, L, H2) (fun v1 S1 => (v1 ≤ s → zEnds 80 109 0 [(26, 26), (0, i), (0, s)] [] S1 (fun v2 S2 => ((1 : Int) = 0 ∨ (1 : Int) = 1) ∧ Qr 1 S2) Qt) ∧ (¬ (v1 ≤ s) → zEnds 80 118 0 [(26, 26), (0, i), (0, s), (9, 0), (9, 0)] [] S1 (fun v3 S3 => zEnds 80 109 0 [(26, 26), (0, i), (0, s)] [] S3 (fun v4 S4 => ((1 : Int) = 0 ∨ (1 : Int) = 1) ∧ Qr 1 S4) Qt) Qt)) Qt := by
    intro A2 n2 X2 β2 H2 g gE ga gt gs gX gn gr gz
    have gA := ga i hi.1 hi.2
    have gI := gE.1 i hi.1 hi.2
    refine n_size g gI hi gA.2.1 ⟨fun z => ?_, fun z => ?_⟩
    · refine n_setSize g hi hs (gX _ hX.1) (fun H3 g3 => ⟨Or.inr rfl, h1 _ n2 X2 _ H3 gr (by omega) gX g3 ?_⟩)
      have gz := gz (by omega)
      unfold aFit
      rw [gz]
      exact aE_size gE ga hi
    · refine n_clearBehind g gE ga hi hs (fun y => aIn_rg gA (aBlk_in gA (by omega))) (by omega) (fun β3 H3 g3 gE3 => n_setSize g3 hi hs (List.mem_cons_of_mem _ (gX _ hX.1)) (fun H4 g4 => ⟨Or.inr rfl, h1 _ (n2 + 1) _ _ H4 gr (by omega) (fun x hx => List.mem_cons_of_mem _ (gX x hx)) g4 ?_⟩))
      unfold aFit
      exact aE_size gE3 ga hi
  -- giving back
  have give : ∀ (m : Nat) (A2 : aSt) (n2 : Int) (X2 : List Int) (β2 : Int → Int) (H2 : zHp) (k : Int), fS F B n2 X2 β2 L H2 → aE B A2 β2 → aN B A2.1 → aTot A2.1 i = (s + 63) / 64 + m → A2.1 (20 * i + 1) = s0 → (∀ x, x ∈ X → x ∈ X2) → n2 ≤ n + (((s + 63) / 64 - (s0 + 63) / 64).toNat : Int) → aRes B A i s = some (aFit (aGiveN i m A2) i s) → (s0 ≤ s → aClr (aGiveN i m A2).1 (aGiveN i m A2).2.2 i s = (aGiveN i m A2).2.2) → 0 ≤ k → (m = 0 → (s0 + 63) / 64 ≤ k) → (m ≠ 0 → k + m = (s0 + 63) / 64) →
      zEnds 80 115 45 [(26, 26), (0, i), (0, s), (0, (s0 + 63) / 64), (9, 0), (0, k)] [] (t, L, H2) Qr Qt := by
    intro m
    induction m with
    | zero =>
      intro A2 n2 X2 β2 H2 k g gE ga gt gs gX gn gr gz k0 k1 k2
      have k1 := k1 rfl
      exact v_115_45 ⟨fun _ => fin A2 n2 X2 β2 H2 g gE ga (by omega) gs gX gn gr gz, fun y => absurd k1 y⟩
    | succ m ih =>
      intro A2 n2 X2 β2 H2 k g gE ga gt gs gX gn gr gz k0 k1 k2
      have k2 := k2 (by omega)
      have gA := ga i hi.1 hi.2
      have gc := aTot_pos gA (by omega)
      obtain ⟨q1, q2, -, q3, -⟩ := aGive_N ga hi gc
      refine v_115_45 ⟨fun y => by omega, fun _ => n_giveLast g gE ga hi ⟨gX _ hX.1, gX _ hX.2.1, gX _ hX.2.2⟩ gc (fun β3 H3 g3 gE3 => ?_)⟩
      rw [z32_id (x := k + 1) (by omega) (by omega)]
      exact ih (aGive A2 i) n2 X2 β3 H3 (k + 1) g3 gE3 q1 (by omega) (by omega) gX gn gr gz (by omega) (fun u => by omega) (fun u => by omega)
  -- taking
  have take : ∀ (m : Nat) (A2 : aSt) (n2 : Int) (X2 : List Int) (β2 : Int → Int) (H2 : zHp) (k : Int), fS F B n2 X2 β2 L H2 → aE B A2 β2 → aN B A2.1 → A2.1 (20 * i + 1) = s0 → (∀ x, x ∈ X → x ∈ X2) → n2 + m ≤ n + (((s + 63) / 64 - (s0 + 63) / 64).toNat : Int) → aTakeN B i ((s + 63) / 64 - (s0 + 63) / 64).toNat A = aTakeN B i m A2 → aTot A2.1 i = k → (s0 + 63) / 64 ≤ k → (m = 0 → (s + 63) / 64 ≤ k ∧ (k = (s0 + 63) / 64 ∨ k = (s + 63) / 64)) → (m ≠ 0 → k + m = (s + 63) / 64) →
      zEnds 80 115 18 [(26, 26), (0, i), (0, s), (0, (s0 + 63) / 64), (0, (s + 63) / 64), (0, k)] [] (t, L, H2) Qr Qt := by
    intro m
    induction m with
    | zero =>
      intro A2 n2 X2 β2 H2 k g gE ga gs gX gn gr gt k0 k1 k2
      have k1 := k1 rfl
      have gr : aTakeN B i ((s + 63) / 64 - (s0 + 63) / 64).toNat A = some A2 := gr
      refine v_115_18 ⟨fun _ => give ((s0 + 63) / 64 - (s + 63) / 64).toNat A2 n2 X2 β2 H2 ((s + 63) / 64) g gE ga (by omega) gs gX (by omega) (hres A2 gr) (fun u => ?_) (by omega) (fun u => by omega) (fun u => by omega), fun y => absurd k1.1 y⟩
      rw [show ((s0 + 63) / 64 - (s + 63) / 64).toNat = 0 by omega]
      exact hz A2 u gr
    | succ m ih =>
      intro A2 n2 X2 β2 H2 k g gE ga gs gX gn gr gt k0 k1 k2
      have k2 := k2 (by omega)
      refine v_115_18 ⟨fun y => by omega, fun _ => n_takeBlock g gE ga hi ⟨gX _ hX.1, gX _ hX.2.1, gX _ hX.2.2⟩ (by omega) (fun y => ⟨fun u => absurd rfl u, fun _ => ⟨Or.inl rfl, ?_⟩⟩) (fun A3 β3 b H3 y g3 gE3 => ⟨fun _ => ?_, fun u => absurd (by decide) u⟩)⟩
      · refine h0 (hres0 ?_) n2 X2 β2 H2 g
        rw [gr]
        show (match aTake B A2 i with | none => none | some A' => aTakeN B i m A') = none
        rw [y]
      · obtain ⟨q1, q2, -, q3, -⟩ := aTake_N ga hi y
        rw [z32_id (x := k + 1) (by omega) (by omega)]
        refine ih A3 (n2 + 1) (b :: X2) β3 H3 (k + 1) g3 gE3 q1 (by omega) (fun x hx => List.mem_cons_of_mem _ (gX x hx)) (by omega) ?_ (by omega) (by omega) (fun u => by omega) (fun u => by omega)
        rw [gr]
        show (match aTake B A2 i with | none => none | some A' => aTakeN B i m A') = _
        rw [y]
  refine v_115 (n_size h (hE.1 i hi.1 hi.2) hi hA0.2.1 ?_)
  rw [hsz]
  refine n_blocksFor (by omega) (n_blocksFor (by omega) (take ((s + 63) / 64 - (s0 + 63) / 64).toNat A n X β H _ h hE ha hsz (fun _ u => u) (by omega) rfl ht (by omega) (fun u => by omega) (fun u => by omega)))
end SIZES
