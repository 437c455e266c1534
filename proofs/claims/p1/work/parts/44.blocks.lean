/-! Blocks taken and given back: the image's bytes follow the numbers of inodes, the owners, the bytes of files. -/
abbrev aSt : Type := (Int → Int) × (Int → Int) × (Int → Int)
def eO (B : Int) (O β : Int → Int) : Prop := ∀ b, 0 ≤ b → b < 1024 → (mT β b ↔ b < B ∧ 0 < O b)
def eW (B : Int) (O W β : Int → Int) : Prop := ∀ b k, 59 ≤ b → b < B → 0 < O b → 0 ≤ k → k < 64 → β (64 * b + k) = W (64 * b + k)
def aE (B : Int) (A : aSt) (β : Int → Int) : Prop := eN A.1 β ∧ eO B A.2.1 β ∧ eW B A.2.1 A.2.2 β
theorem bU_at {β : Int → Int} {i v : Int} : bU β i v i = v := by unfold bU; rw [if_pos rfl]
theorem bU_ne {β : Int → Int} {i v j : Int} (h : j ≠ i) : bU β i v j = β j := by unfold bU; rw [if_neg h]
theorem bZ_lo {β : Int → Int} {b j : Int} (h : j < 64 * b) : bZ β b j = β j := by unfold bZ; rw [if_neg (by omega)]
theorem mU_lo {β : Int → Int} {b v j : Int} (hb : 0 ≤ b) (h : j < 3648) : mU β b v j = β j := by unfold mU; exact bU_ne (by omega)
theorem eI_congr {N N' β β' : Int → Int} {i : Int} (h : eI N β i) (hN : ∀ j, 20 * i ≤ j → j < 20 * i + 20 → N' j = N j) (hβ : ∀ f, 0 ≤ f → f < 32 → β' (1600 + 32 * i + f) = β (1600 + 32 * i + f)) (hc : N (20 * i + 2) ≤ 8) : eI N' β' i := by
  have b0 := hβ 0 (by omega) (by omega)
  rw [Int.add_zero] at b0
  obtain ⟨h1, h2, h3, h4, h5, h6⟩ := h
  refine ⟨?_, ?_, ?_, ?_, ?_, fun e e1 e2 => ?_⟩
  · rw [b0, hN _ (by omega) (by omega)]; exact h1
  · rw [hβ 1 (by omega) (by omega), hN _ (by omega) (by omega)]; exact h2
  · rw [hβ 2 (by omega) (by omega), hN _ (by omega) (by omega)]; exact h3
  · rw [hβ 3 (by omega) (by omega), hN _ (by omega) (by omega)]; exact h4
  · rw [hβ 31 (by omega) (by omega)]; exact h5
  · rw [hβ (4 + 3 * e) (by omega) (by omega), hβ (5 + 3 * e) (by omega) (by omega), hβ (6 + 3 * e) (by omega) (by omega), hN (20 * i + 2) (by omega) (by omega)]
    refine ⟨fun e3 => ?_, (h6 e e1 e2).2⟩
    rw [hN (20 * i + 3 + 2 * e) (by omega) (by omega), hN (20 * i + 4 + 2 * e) (by omega) (by omega)]
    exact (h6 e e1 e2).1 e3
/-- only the inode i changes -/
theorem eN_one {B : Int} {N N' β β' : Int → Int} {i : Int} (ha : aN B N) (h : eN N β) (hN : ∀ j, ¬ (20 * i ≤ j ∧ j < 20 * i + 20) → N' j = N j) (hβ : ∀ j, j < 3648 → ¬ (1600 + 32 * i ≤ j ∧ j < 1632 + 32 * i) → β' j = β j) (hi : eI N' β' i) : eN N' β' := by
  intro k k0 k1
  by_cases c : k = i
  · rw [c]; exact hi
  · exact eI_congr (h k k0 k1) (fun j j1 j2 => hN j (by omega)) (fun f f1 f2 => hβ _ (by omega) (by omega)) (ha k k0 k1).2.2.1.2
theorem aE_take {B b v : Int} {N N' O W β β' : Int → Int} (h : aE B (N, O, W) β) (hβ : ∀ j, 0 ≤ j → 0 ≤ β j ∧ β j < 256) (hB : B ≤ 768) (hb : 59 ≤ b ∧ b < B) (hv : 0 < v) (hN : eN N' β') (he : ∀ j, 3648 ≤ j → β' j = bZ (mU β b 1) b j) : aE B (N', bU O b v, bZ W b) β' := by
  obtain ⟨-, h2, h3⟩ := h
  refine ⟨hN, fun x x0 x1 => ?_, fun x k x0 x1 x2 k0 k1 => ?_⟩
  · have e : mT β' x ↔ mT (mU β b 1) x := by
      unfold mT
      rw [he _ (by omega), bZ_lo (by omega)]
    rw [e, mT_mU (hβ _ (by omega)) (by omega) x0 (Or.inr rfl)]
    show _ ↔ x < B ∧ 0 < bU O b v x
    by_cases c : x = b
    · rw [if_pos c, c, bU_at]
      exact ⟨fun _ => ⟨hb.2, hv⟩, fun _ => rfl⟩
    · rw [if_neg c, bU_ne c]
      exact h2 x x0 x1
  · rw [he _ (by omega)]
    show bZ (mU β b 1) b (64 * x + k) = bZ W b (64 * x + k)
    by_cases c : x = b
    · rw [c]
      unfold bZ
      rw [if_pos (by omega), if_pos (by omega)]
    · have x2 : 0 < bU O b v x := x2
      rw [bU_ne c] at x2
      unfold bZ
      rw [if_neg (by omega), if_neg (by omega)]
      unfold mU
      rw [bU_ne (by omega)]
      exact h3 x k x0 x1 x2 k0 k1
theorem aE_give {B b : Int} {N N' O W β β' : Int → Int} (h : aE B (N, O, W) β) (hβ : ∀ j, 0 ≤ j → 0 ≤ β j ∧ β j < 256) (hB : B ≤ 768) (hb : 59 ≤ b ∧ b < B) (hN : eN N' β') (he : ∀ j, 3648 ≤ j → β' j = mU β b 0 j) : aE B (N', bU O b 0, W) β' := by
  obtain ⟨-, h2, h3⟩ := h
  refine ⟨hN, fun x x0 x1 => ?_, fun x k x0 x1 x2 k0 k1 => ?_⟩
  · have e : mT β' x ↔ mT (mU β b 0) x := by
      unfold mT
      rw [he _ (by omega)]
    rw [e, mT_mU (hβ _ (by omega)) (by omega) x0 (Or.inl rfl)]
    show _ ↔ x < B ∧ 0 < bU O b 0 x
    by_cases c : x = b
    · rw [if_pos c, c, bU_at]
      omega
    · rw [if_neg c, bU_ne c]
      exact h2 x x0 x1
  · rw [he _ (by omega)]
    have x2 : 0 < bU O b 0 x := x2
    have c : x ≠ b := fun c => by rw [c, bU_at] at x2; omega
    rw [bU_ne c] at x2
    unfold mU
    rw [bU_ne (by omega)]
    exact h3 x k x0 x1 x2 k0 k1
/-- only the inodes' numbers change -/
theorem aE_node {B : Int} {N N' O W β β' : Int → Int} (h : aE B (N, O, W) β) (hN : eN N' β') (he : ∀ j, 3648 ≤ j → β' j = β j) : aE B (N', O, W) β' := by
  obtain ⟨-, h2, h3⟩ := h
  refine ⟨hN, fun x x0 x1 => ?_, fun x k x0 x1 x2 k0 k1 => ?_⟩
  · have e : mT β' x ↔ mT β x := by
      unfold mT
      rw [he _ (by omega)]
    rw [e]
    exact h2 x x0 x1
  · rw [he _ (by omega)]
    exact h3 x k x0 x1 x2 k0 k1
/-- only a block's bytes change -/
theorem aE_data {B b : Int} {N O W W' β β' : Int → Int} (h : aE B (N, O, W) β) (ha : aN B N) (hb : 59 ≤ b) (hW : ∀ j, ¬ (64 * b ≤ j ∧ j < 64 * b + 64) → W' j = W j) (he : ∀ j, ¬ (64 * b ≤ j ∧ j < 64 * b + 64) → β' j = β j) (hn : 0 < O b → ∀ k, 0 ≤ k → k < 64 → β' (64 * b + k) = W' (64 * b + k)) : aE B (N, O, W') β' := by
  obtain ⟨h1, h2, h3⟩ := h
  refine ⟨fun i i0 i1 => eI_congr (h1 i i0 i1) (fun _ _ _ => rfl) (fun f f0 f1 => he _ (by omega)) (ha i i0 i1).2.2.1.2, fun x x0 x1 => ?_, fun x k x0 x1 x2 k0 k1 => ?_⟩
  · have e : mT β' x ↔ mT β x := by
      unfold mT
      rw [he _ (by omega)]
    rw [e]
    exact h2 x x0 x1
  · by_cases c : x = b
    · rw [c]; rw [c] at x2; exact hn x2 k k0 k1
    · show β' (64 * x + k) = W' (64 * x + k)
      rw [he _ (by omega), hW _ (by omega)]
      exact h3 x k x0 x1 x2 k0 k1
/-- a block more for an inode -/
def aGrow (B : Int) (A : aSt) (i : Int) : Prop := 0 < A.1 (20 * i + 2) ∧ A.1 (20 * i + 4 + 2 * (A.1 (20 * i + 2) - 1)) < 255 ∧ A.1 (20 * i + 3 + 2 * (A.1 (20 * i + 2) - 1)) + A.1 (20 * i + 4 + 2 * (A.1 (20 * i + 2) - 1)) < B ∧ ¬ 0 < A.2.1 (A.1 (20 * i + 3 + 2 * (A.1 (20 * i + 2) - 1)) + A.1 (20 * i + 4 + 2 * (A.1 (20 * i + 2) - 1)))
noncomputable def aLeast (B : Int) (O : Int → Int) : Int := gFirst (fun b => ¬ 0 < O b) 59 (B - 59).toNat
noncomputable def aTake (B : Int) (A : aSt) (i : Int) : Option aSt := @ite _ (aGrow B A i) (Classical.propDecidable _)
  (some (bU A.1 (20 * i + 4 + 2 * (A.1 (20 * i + 2) - 1)) (A.1 (20 * i + 4 + 2 * (A.1 (20 * i + 2) - 1)) + 1), bU A.2.1 (A.1 (20 * i + 3 + 2 * (A.1 (20 * i + 2) - 1)) + A.1 (20 * i + 4 + 2 * (A.1 (20 * i + 2) - 1))) (i + 1), bZ A.2.2 (A.1 (20 * i + 3 + 2 * (A.1 (20 * i + 2) - 1)) + A.1 (20 * i + 4 + 2 * (A.1 (20 * i + 2) - 1)))))
  (if aLeast B A.2.1 = -1 ∨ 8 ≤ A.1 (20 * i + 2) then none else some (bU (bU (bU A.1 (20 * i + 2) (A.1 (20 * i + 2) + 1)) (20 * i + 3 + 2 * A.1 (20 * i + 2)) (aLeast B A.2.1)) (20 * i + 4 + 2 * A.1 (20 * i + 2)) 1, bU A.2.1 (aLeast B A.2.1) (i + 1), bZ A.2.2 (aLeast B A.2.1)))
theorem gFirst_congr {P Q : Int → Prop} : ∀ (n : Nat) (a : Int), (∀ i, a ≤ i → i < a + n → (P i ↔ Q i)) → gFirst P a n = gFirst Q a n := by
  intro n
  induction n with
  | zero => intro a _; rfl
  | succ n ih =>
    intro a h
    have h0 := h a (by omega) (by omega)
    by_cases c : P a
    · rw [gFirst_yes c, gFirst_yes (h0.mp c)]
    · rw [gFirst_no c, gFirst_no (fun u => c (h0.mpr u))]
      exact ih (a + 1) (fun i i1 i2 => h i (by omega) (by omega))
theorem aLeast_rg {B : Int} {O : Int → Int} (h : aLeast B O ≠ -1) : 59 ≤ aLeast B O ∧ aLeast B O < B ∧ ¬ 0 < O (aLeast B O) := by
  unfold aLeast at h ⊢
  rcases gFirst_spec (fun b => ¬ 0 < O b) (B - 59).toNat 59 with ⟨g, -⟩ | ⟨g1, g2, g3, -⟩
  · exact absurd g h
  · exact ⟨g1, by omega, g3⟩
section TAKE
variable {F : zHp} {B n : Int} {X : List Int} {β : Int → Int} {t : Nat} {L : Int → Int} {H : zHp} {Qr Qt : Int → zS → Prop} {i : Int} {A : aSt}
theorem n_least (h : fS F B n X β L H) (hE : aE B A β) (hQ : Qr (aLeast B A.2.1) (t, L, H)) : zEnds 80 88 0 [(25, 18), (9, 0)] [] (t, L, H) Qr Qt := by
  have hl := h.1.1
  refine i_leastFree h ?_
  have e : gFirst (fun b => ¬ mT β b) 59 (B - 59).toNat = aLeast B A.2.1 := by
    unfold aLeast
    refine gFirst_congr _ _ (fun b b1 b2 => ?_)
    have := hE.2.1 b (by omega) (by omega)
    rw [this]
    exact ⟨fun u v => u ⟨by omega, v⟩, fun u v => u v.2⟩
  rw [e]
  exact hQ
theorem n_takeBlock (h : fS F B n X β L H) (hE : aE B A β) (ha : aN B A.1) (hi : 0 ≤ i ∧ i < 64) (hX : 25 + i / 2 ∈ X ∧ 57 ∈ X ∧ 58 ∈ X) (hn : n < 24)
    (h0 : aTake B A i = none → Qr 0 (t, L, H)) (h1 : ∀ A' β' b H', aTake B A i = some A' → fS F B (n + 1) (b :: X) β' L H' → aE B A' β' → Qr 1 (t, L, H')) : zEnds 80 116 0 [(26, 26), (0, i), (9, 0), (9, 0), (9, 0)] [] (t, L, H) Qr Qt := by
  obtain ⟨N, O, W⟩ := A
  have hl := h.1.1
  have hI : eI N β i := hE.1 i hi.1 hi.2
  have hA : aI B N i := ha i hi.1 hi.2
  have hc := hA.2.2.1
  have hX5 : ∀ b, 0 ≤ b → b < B → 57 + b / 512 ∈ X := fun b b1 b2 => by
    have : 57 + b / 512 = 57 ∨ 57 + b / 512 = 58 := by omega
    rcases this with u | u
    · rw [u]; exact hX.2.1
    · rw [u]; exact hX.2.2
  have hβ := fun j (hj : 0 ≤ j) => h.rg j hj
  unfold aTake at h0 h1
  have fresh : ¬ aGrow B (N, O, W) i → zEnds 80 88 0 [(25, 18), (9, 0)] [] (t, L, H) (fun v2 S2 => (v2 = (-1) → ((0 : Int) = 0 ∨ (0 : Int) = 1) ∧ Qr 0 S2) ∧ (¬ (v2 = (-1)) → (N (20 * i + 2) < 8 → zEnds 80 108 0 [(26, 26), (0, i), (0, N (20 * i + 2)), (0, v2), (0, 1)] [] S2 (fun v3 S3 => zEnds 80 107 0 [(26, 26), (0, i), (0, z32 (N (20 * i + 2) + 1))] [] S3 (fun v4 S4 => zEnds 80 85 0 [(25, 18), (0, v2)] [] S4 (fun v5 S5 => ((1 : Int) = 0 ∨ (1 : Int) = 1) ∧ Qr 1 S5) Qt) Qt) Qt) ∧ (¬ (N (20 * i + 2) < 8) → ((0 : Int) = 0 ∨ (0 : Int) = 1) ∧ Qr 0 S2))) Qt := by
    intro hg
    rw [if_neg hg] at h0 h1
    refine n_least h hE ⟨fun z => ⟨Or.inl rfl, h0 (if_pos (Or.inl z))⟩, fun z => ⟨fun y => ?_, fun y => ⟨Or.inl rfl, h0 (if_pos (Or.inr (by show 8 ≤ N (20 * i + 2); omega)))⟩⟩⟩
    have g := aLeast_rg z
    rw [if_neg (fun u => u.elim z (fun u => by have u : 8 ≤ N (20 * i + 2) := u; omega))] at h1
    dsimp only at h1 g z ⊢
    generalize aLeast B O = b at h1 g z
    generalize hcc : N (20 * i + 2) = c at hc y h1
    refine n_setExtent (h.more (b := b) hn) hi (by omega) (by omega) (List.mem_cons_of_mem _ hX.1) (fun H1 g1 => ?_)
    rw [z32_id (x := c + 1) (by omega) (by omega)]
    refine n_setExtents g1 hi (List.mem_cons_of_mem _ hX.1) (fun H2 g2 => i_take g2 (by omega) (List.mem_cons_of_mem _ (hX5 b (by omega) (by omega))) List.mem_cons_self (fun H3 g3 => ⟨Or.inr rfl, h1 _ _ b H3 rfl g3 (aE_take hE hβ (by omega) (by omega) (by omega) (eN_one (i := i) ha hE.1 (fun j hj => ?_) (fun j j1 j2 => ?_) ?_) (fun j hj => ?_))⟩))
    · rw [bU_ne (by omega), bU_ne (by omega), bU_ne (by omega)]
    · rw [bZ_lo (by omega), mU_lo (by omega) j1, bU_ne (by omega), bU_ne (by omega), bU_ne (by omega), bU_ne (by omega)]
    · have hN2 : bU (bU (bU N (20 * i + 2) (c + 1)) (20 * i + 3 + 2 * c) b) (20 * i + 4 + 2 * c) 1 (20 * i + 2) = c + 1 := by rw [bU_ne (by omega), bU_ne (by omega), bU_at]
      obtain ⟨i1, i2, i3, i4, i5, i6⟩ := hI
      refine ⟨?_, ?_, ?_, ?_, ?_, fun e e1 e2 => ?_⟩
      · rw [bZ_lo (by omega), mU_lo (by omega) (by omega), bU_ne (by omega), bU_ne (by omega), bU_ne (by omega), bU_ne (by omega), bU_ne (by omega), bU_ne (by omega), bU_ne (by omega)]; exact i1
      · rw [hN2, bZ_lo (by omega), mU_lo (by omega) (by omega), bU_at]; omega
      · rw [bZ_lo (by omega), mU_lo (by omega) (by omega), bU_ne (by omega), bU_ne (by omega), bU_ne (by omega), bU_ne (by omega), bU_ne (by omega), bU_ne (by omega), bU_ne (by omega)]; exact i3
      · rw [bZ_lo (by omega), mU_lo (by omega) (by omega), bU_ne (by omega), bU_ne (by omega), bU_ne (by omega), bU_ne (by omega), bU_ne (by omega), bU_ne (by omega), bU_ne (by omega)]; exact i4
      · rw [bZ_lo (by omega), mU_lo (by omega) (by omega), bU_ne (by omega), bU_ne (by omega), bU_ne (by omega), bU_ne (by omega)]; exact i5
      · rw [hN2]
        by_cases ce : e = c
        · rw [ce]
          refine ⟨fun _ => ⟨?_, ?_, ?_⟩, fun u => by omega⟩
          · rw [bZ_lo (by omega), mU_lo (by omega) (by omega), bU_ne (by omega), bU_ne (by omega), bU_ne (by omega), bU_at, bU_ne (by omega), bU_at]
          · rw [bZ_lo (by omega), mU_lo (by omega) (by omega), bU_ne (by omega), bU_ne (by omega), bU_at, bU_ne (by omega), bU_at]
          · rw [bZ_lo (by omega), mU_lo (by omega) (by omega), bU_ne (by omega), bU_at, bU_at]; rfl
        · have q : ∀ f, f ≠ 1 → f ≠ 4 + 3 * c → f ≠ 5 + 3 * c → f ≠ 6 + 3 * c → f < 32 → bZ (mU (bU (bU (bU (bU β (1600 + 32 * i + (4 + 3 * c)) (b % 256)) (1600 + 32 * i + (5 + 3 * c)) (b / 256 % 256)) (1600 + 32 * i + (6 + 3 * c)) (1 % 256)) (1600 + 32 * i + 1) ((c + 1) % 256)) b 1) b (1600 + 32 * i + f) = β (1600 + 32 * i + f) := fun f f1 f2 f3 f4 f5 => by
            rw [bZ_lo (by omega), mU_lo (by omega) (by omega), bU_ne (by omega), bU_ne (by omega), bU_ne (by omega), bU_ne (by omega)]
          rw [q (4 + 3 * e) (by omega) (by omega) (by omega) (by omega) (by omega), q (5 + 3 * e) (by omega) (by omega) (by omega) (by omega) (by omega), q (6 + 3 * e) (by omega) (by omega) (by omega) (by omega) (by omega)]
          refine ⟨fun u => ?_, fun u => (i6 e e1 e2).2 (by omega)⟩
          rw [bU_ne (by omega), bU_ne (by omega), bU_ne (by omega), bU_ne (by omega), bU_ne (by omega), bU_ne (by omega)]
          exact (i6 e e1 e2).1 (by omega)
    · unfold bZ
      by_cases cz : 64 * b ≤ j ∧ j < 64 * b + 64
      · rw [if_pos cz, if_pos cz]
      · rw [if_neg cz, if_neg cz]
        unfold mU
        have e : ∀ j, 3648 ≤ j → bU (bU (bU (bU β (1600 + 32 * i + (4 + 3 * c)) (b % 256)) (1600 + 32 * i + (5 + 3 * c)) (b / 256 % 256)) (1600 + 32 * i + (6 + 3 * c)) (1 % 256)) (1600 + 32 * i + 1) ((c + 1) % 256) j = β j := fun j hj => by
          rw [bU_ne (by omega), bU_ne (by omega), bU_ne (by omega), bU_ne (by omega)]
        rw [e _ (by omega)]
        by_cases cj : j = 3648 + b / 8
        · rw [cj, bU_at, bU_at]
        · rw [bU_ne cj, bU_ne cj, e _ hj]
  refine v_116 (n_count h hI hi ⟨fun z => fresh (fun u => by have u := u.1; dsimp only at u; omega), fun z => ?_⟩)
  have hx := hA.2.2.2 (N (20 * i + 2) - 1) (by omega) (by omega)
  rw [z32_id (x := N (20 * i + 2) - 1) (by omega) (by omega)]
  refine n_first h hI hi (by omega) (by omega) (n_len h hI hi (by omega) ⟨fun y => fresh (fun u => by have u := u.2.1; dsimp only at u; omega), fun y => ?_⟩)
  rw [z32_id (x := N (20 * i + 3 + 2 * (N (20 * i + 2) - 1)) + N (20 * i + 4 + 2 * (N (20 * i + 2) - 1))) (by omega) (by omega)]
  refine i_isFree h (by omega) (fun u1 u2 => ⟨fun u => absurd u (by decide), fun _ => ?_⟩) (fun u => ⟨fun _ => fresh (fun v => u ⟨v.2.2.1, fun w => v.2.2.2 ((hE.2.1 _ (by omega) (by have := v.2.2.1; dsimp only at this; omega)).mp w).2⟩), fun w => absurd rfl w⟩)
  have hg : aGrow B (N, O, W) i := ⟨by show 0 < N (20 * i + 2); omega, by show N (20 * i + 4 + 2 * (N (20 * i + 2) - 1)) < 255; omega, u1, fun w => u2 ((hE.2.1 _ (by omega) (by omega)).mpr ⟨u1, w⟩)⟩
  rw [if_pos hg] at h1
  dsimp only at h1
  generalize hcc : N (20 * i + 2) = c at hc z hx h1 u1 u2 y
  generalize hff : N (20 * i + 3 + 2 * (c - 1)) = f at hx h1 u1 u2 y
  generalize hll : N (20 * i + 4 + 2 * (c - 1)) = l at hx h1 u1 u2 y
  rw [z32_id (x := l + 1) (by omega) (by omega)]
  refine n_setExtent (h.more (b := f + l) hn) hi (by omega) (by omega) (List.mem_cons_of_mem _ hX.1) (fun H1 g1 => i_take g1 (by omega) (List.mem_cons_of_mem _ (hX5 _ (by omega) (by omega))) List.mem_cons_self (fun H3 g3 => ⟨Or.inr rfl, h1 _ _ (f + l) H3 rfl g3 (aE_take hE hβ (by omega) (by omega) (by omega) (eN_one (i := i) ha hE.1 (fun j hj => ?_) (fun j j1 j2 => ?_) ?_) (fun j hj => ?_))⟩))
  · rw [bU_ne (by omega)]
  · rw [bZ_lo (by omega), mU_lo (by omega) j1, bU_ne (by omega), bU_ne (by omega), bU_ne (by omega)]
  · have hN2 : bU N (20 * i + 4 + 2 * (c - 1)) (l + 1) (20 * i + 2) = c := by rw [bU_ne (by omega), hcc]
    obtain ⟨i1, i2, i3, i4, i5, i6⟩ := hI
    refine ⟨?_, ?_, ?_, ?_, ?_, fun e e1 e2 => ?_⟩
    · rw [bZ_lo (by omega), mU_lo (by omega) (by omega), bU_ne (by omega), bU_ne (by omega), bU_ne (by omega), bU_ne (by omega)]; exact i1
    · rw [hN2, bZ_lo (by omega), mU_lo (by omega) (by omega), bU_ne (by omega), bU_ne (by omega), bU_ne (by omega), i2, hcc]
    · rw [bZ_lo (by omega), mU_lo (by omega) (by omega), bU_ne (by omega), bU_ne (by omega), bU_ne (by omega), bU_ne (by omega)]; exact i3
    · rw [bZ_lo (by omega), mU_lo (by omega) (by omega), bU_ne (by omega), bU_ne (by omega), bU_ne (by omega), bU_ne (by omega)]; exact i4
    · rw [bZ_lo (by omega), mU_lo (by omega) (by omega), bU_ne (by omega), bU_ne (by omega), bU_ne (by omega)]; exact i5
    · rw [hN2]
      by_cases ce : e = c - 1
      · rw [ce]
        refine ⟨fun _ => ⟨?_, ?_, ?_⟩, fun u => by omega⟩
        · rw [bZ_lo (by omega), mU_lo (by omega) (by omega), bU_ne (by omega), bU_ne (by omega), bU_at, bU_ne (by omega), hff]
        · rw [bZ_lo (by omega), mU_lo (by omega) (by omega), bU_ne (by omega), bU_at, bU_ne (by omega), hff]
        · rw [bZ_lo (by omega), mU_lo (by omega) (by omega), bU_at, bU_at]; omega
      · have q : ∀ x, x ≠ 4 + 3 * (c - 1) → x ≠ 5 + 3 * (c - 1) → x ≠ 6 + 3 * (c - 1) → x < 32 → bZ (mU (bU (bU (bU β (1600 + 32 * i + (4 + 3 * (c - 1))) (f % 256)) (1600 + 32 * i + (5 + 3 * (c - 1))) (f / 256 % 256)) (1600 + 32 * i + (6 + 3 * (c - 1))) ((l + 1) % 256)) (f + l) 1) (f + l) (1600 + 32 * i + x) = β (1600 + 32 * i + x) := fun x f2 f3 f4 f5 => by
          rw [bZ_lo (by omega), mU_lo (by omega) (by omega), bU_ne (by omega), bU_ne (by omega), bU_ne (by omega)]
        rw [q (4 + 3 * e) (by omega) (by omega) (by omega) (by omega), q (5 + 3 * e) (by omega) (by omega) (by omega) (by omega), q (6 + 3 * e) (by omega) (by omega) (by omega) (by omega)]
        refine ⟨fun u => ?_, fun u => (i6 e e1 e2).2 (by omega)⟩
        rw [bU_ne (by omega), bU_ne (by omega)]
        exact (i6 e e1 e2).1 (by omega)
  · unfold bZ
    by_cases cz : 64 * (f + l) ≤ j ∧ j < 64 * (f + l) + 64
    · rw [if_pos cz, if_pos cz]
    · rw [if_neg cz, if_neg cz]
      unfold mU
      have e : ∀ j, 3648 ≤ j → bU (bU (bU β (1600 + 32 * i + (4 + 3 * (c - 1))) (f % 256)) (1600 + 32 * i + (5 + 3 * (c - 1))) (f / 256 % 256)) (1600 + 32 * i + (6 + 3 * (c - 1))) ((l + 1) % 256) j = β j := fun j hj => by
        rw [bU_ne (by omega), bU_ne (by omega), bU_ne (by omega)]
      rw [e _ (by omega)]
      by_cases cj : j = 3648 + (f + l) / 8
      · rw [cj, bU_at, bU_at]
      · rw [bU_ne cj, bU_ne cj, e _ hj]
end TAKE
