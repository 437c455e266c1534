/-! DiskPoolModel.loads, Image.fillFrom. -/
section LOADS
variable {d w r : Int} {t : Nat} {L : Int → Int} {H M X : zHp} {Qr Qt : Int → zS → Prop} {C : Int → Int → Int}
/-- how far the owners are known -/
def ldO (A : aSt) (i e : Int) (N : zHp) : Prop := (∀ b, 0 ≤ b → b < 59 → N 46 b = 100) ∧ (∀ b, 59 ≤ b → b < 768 → N 46 b = A.2.1 b ∨ N 46 b = 0) ∧ ∀ b, 59 ≤ b → b < 768 → ((∃ j, (0 ≤ j ∧ j < i) ∧ aIn A.1 j b) ∨ ∃ x, (0 ≤ x ∧ x < e) ∧ x < A.1 (20 * i + 2) ∧ A.1 (20 * i + 3 + 2 * x) ≤ b ∧ b < A.1 (20 * i + 3 + 2 * x) + A.1 (20 * i + 4 + 2 * x)) → N 46 b = A.2.1 b
/-- how far the nodes are known -/
def ldN (A : aSt) (i : Int) (N : zHp) : Prop := ∀ j, 0 ≤ j → j < i → (N 45 (20 * j) = A.1 (20 * j) ∧ N 45 (20 * j + 1) = A.1 (20 * j + 1) ∧ N 45 (20 * j + 2) = A.1 (20 * j + 2)) ∧ ∀ e, 0 ≤ e → e < A.1 (20 * j + 2) → N 45 (20 * j + 3 + 2 * e) = A.1 (20 * j + 3 + 2 * e) ∧ N 45 (20 * j + 4 + 2 * e) = A.1 (20 * j + 4 + 2 * e)
theorem m_loads {A : aSt} {B : Int} (ms : mS d w r L M) (hB : 96 ≤ B ∧ B ≤ 768) (g : aGood B A) (hV : ∀ b k, 25 ≤ b → b < B → 0 ≤ k → k < 64 → 0 < A.2.1 b → mBy B A (M 43) b k = M 43 (64 * b + k))
    (hQ : ∀ N, (∀ q i, q ≠ 45 → q ≠ 46 → q ≠ 47 → N q i = M q i) → aRel A.1 (N 45) → (∀ b, 0 ≤ b → b < 768 → N 46 b = A.2.1 b) → (∀ k, 0 ≤ k → k < 49152 → N 47 k = M 43 k) → Qr 0 (t, L, N)) : zEnds 118 206 0 [(29, 35), (9, 0), (9, 0), (9, 0), (9, 0), (9, 0), (9, 0)] [] (t, L, M) Qr Qt := by
  have l43 : L 43 = 49152 := ms.2.1.2.2.2.2.2.2.2.1
  have l45 : L 45 = 1280 := ms.2.2.1.1
  have l46 : L 46 = 768 := ms.2.2.1.2.1
  have l47 : L 47 = 49152 := ms.2.2.1.2.2.1
  have o59 : ∀ b, 25 ≤ b → b < 59 → A.2.1 b = 100 := fun b b0 b1 => g.2.2.1.1 b (by omega) b1
  have nb : ∀ i f, 0 ≤ i → i < 64 → 0 ≤ f → f < 32 → M 43 (1600 + 32 * i + f) = nBy A.1 i f := fun i f i0 i1 f0 f1 => by
    have q := hV (25 + i / 2) (32 * (i % 2) + f) (by omega) (by omega) (by omega) (by omega) (by rw [o59 _ (by omega) (by omega)]; decide)
    rw [show 64 * (25 + i / 2) + (32 * (i % 2) + f) = 1600 + 32 * i + f by omega] at q
    rw [← q]
    unfold mBy
    rw [if_neg (by have := o59 (25 + i / 2) (by omega) (by omega); omega), if_pos (by omega), show 2 * (25 + i / 2 - 25) + (32 * (i % 2) + f) / 32 = i by omega, show (32 * (i % 2) + f) % 32 = f by omega]
  have f0 : ∀ i, 0 ≤ i → i < 64 → M 43 (1600 + 32 * i) = A.1 (20 * i) := fun i i0 i1 => by
    have := nb i 0 i0 i1 (by decide) (by decide)
    rw [Int.add_zero] at this
    rw [this]
    rfl
  have f1 : ∀ i, 0 ≤ i → i < 64 → M 43 (1600 + 32 * i + 1) = A.1 (20 * i + 2) := fun i i0 i1 => by rw [nb i 1 i0 i1 (by decide) (by decide)]; rfl
  have f2 : ∀ i, 0 ≤ i → i < 64 → M 43 (1600 + 32 * i + 2) = A.1 (20 * i + 1) % 256 := fun i i0 i1 => by
    rw [nb i 2 i0 i1 (by decide) (by decide)]
    show A.1 (20 * i + 1) / 1 % 256 = _
    rw [Int.ediv_one]
  have f3 : ∀ i, 0 ≤ i → i < 64 → M 43 (1600 + 32 * i + 3) = A.1 (20 * i + 1) / 256 % 256 := fun i i0 i1 => by rw [nb i 3 i0 i1 (by decide) (by decide)]; rfl
  have f4 : ∀ i e, 0 ≤ i → i < 64 → 0 ≤ e → e < 8 → M 43 (1600 + 32 * i + (4 + 3 * e)) = (if A.1 (20 * i + 2) ≤ e then 0 else A.1 (20 * i + 3 + 2 * e) % 256) ∧ M 43 (1600 + 32 * i + (5 + 3 * e)) = (if A.1 (20 * i + 2) ≤ e then 0 else A.1 (20 * i + 3 + 2 * e) / 256 % 256) ∧ M 43 (1600 + 32 * i + (6 + 3 * e)) = (if A.1 (20 * i + 2) ≤ e then 0 else A.1 (20 * i + 4 + 2 * e)) := fun i e i0 i1 e0 e1 => by
    rw [nb i _ i0 i1 (by omega) (by omega), nb i _ i0 i1 (by omega) (by omega), nb i _ i0 i1 (by omega) (by omega)]
    unfold nBy
    rw [if_neg (show ¬ 4 + 3 * e = 0 by omega), if_neg (show ¬ 4 + 3 * e = 1 by omega), if_neg (show ¬ 4 + 3 * e < 4 by omega), if_neg (show ¬ 5 + 3 * e = 0 by omega), if_neg (show ¬ 5 + 3 * e = 1 by omega), if_neg (show ¬ 5 + 3 * e < 4 by omega), if_neg (show ¬ 6 + 3 * e = 0 by omega), if_neg (show ¬ 6 + 3 * e = 1 by omega), if_neg (show ¬ 6 + 3 * e < 4 by omega), show (4 + 3 * e - 4) / 3 = e by omega, show (5 + 3 * e - 4) / 3 = e by omega, show (6 + 3 * e - 4) / 3 = e by omega, if_neg (show ¬ (4 + 3 * e - 4) % 3 = 2 by omega), if_neg (show ¬ (5 + 3 * e - 4) % 3 = 2 by omega), if_pos (show (6 + 3 * e - 4) % 3 = 2 by omega), show (4 + 3 * e - 4) % 3 = 0 by omega, show (5 + 3 * e - 4) % 3 = 1 by omega]
    refine ⟨?_, rfl, rfl⟩
    by_cases c : A.1 (20 * i + 2) ≤ e
    · rw [if_pos c, if_pos c]
    · rw [if_neg c, if_neg c]
      show A.1 (20 * i + 3 + 2 * e) / 1 % 256 = _
      rw [Int.ediv_one]
  -- inodes
  have key : ∀ (n : Nat) (i : Int) (K : zHp), 0 ≤ i → i + n = 64 → (∀ q i, q ≠ 45 → q ≠ 46 → q ≠ 47 → K q i = M q i) → (∀ k, 0 ≤ k → k < 49152 → K 47 k = M 43 k) → ldN A i K → ldO A i 0 K → zEnds 118 206 61 [(29, 35), (0, i), (9, 0), (9, 0), (9, 0), (9, 0), (9, 0)] [] (t, L, K) Qr Qt := by
    intro n
    induction n with
    | zero =>
      intro i K i0 i1 e1 e2 e3 e4
      have e : i = 64 := by omega
      subst e
      refine v_206_61 ⟨fun _ => hQ K e1 e3 (fun b b0 b1 => ?_) e2, fun u => absurd (by decide) u⟩
      by_cases c : b < 59
      · rw [e4.1 b b0 c]
        exact (g.2.2.1.1 b b0 c).symm
      · rcases g.2.2.1.2 b (by omega) b1 with u | ⟨-, j, j0, u1, u2⟩
        · rcases e4.2.1 b (by omega) b1 with v | v
          · exact v
          · rw [v, u]
        · exact e4.2.2 b (by omega) b1 (Or.inl ⟨j, j0, u2⟩)
    | succ n ih =>
      intro i K i0 i1 e1 e2 e3 e4
      obtain ⟨a1, a2, a3, a4⟩ := g.1.1.1 i i0 (by omega)
      -- extents
      have ext : ∀ (m : Nat) (e : Int) (J : zHp), 0 ≤ e → e + m = 8 → (∀ q i, q ≠ 45 → q ≠ 46 → q ≠ 47 → J q i = M q i) → (∀ k, 0 ≤ k → k < 49152 → J 47 k = M 43 k) → ldN A i J → ldO A i e J → (J 45 (20 * i) = A.1 (20 * i) ∧ J 45 (20 * i + 1) = A.1 (20 * i + 1) ∧ J 45 (20 * i + 2) = A.1 (20 * i + 2)) → (∀ x, 0 ≤ x → x < e → x < A.1 (20 * i + 2) → J 45 (20 * i + 3 + 2 * x) = A.1 (20 * i + 3 + 2 * x) ∧ J 45 (20 * i + 4 + 2 * x) = A.1 (20 * i + 4 + 2 * x)) → zEnds 118 206 151 [(29, 35), (0, i), (0, 1600 + 32 * i), (0, e), (9, 0), (9, 0), (9, 0)] [] (t, L, J) Qr Qt := by
        intro m
        induction m with
        | zero =>
          intro e J e0 e8 j1 j2 j3 j4 j5 j6
          have ee : e = 8 := by omega
          subst ee
          refine v_206_151 ⟨fun _ => ?_, fun u => absurd (by decide) u⟩
          rw [z32_id (x := i + 1) (by omega) (by omega)]
          refine ih (i + 1) J (by omega) (by omega) j1 j2 (fun j b0 b1 => ?_) ⟨j4.1, j4.2.1, fun b b0 b1 u => ?_⟩
          · by_cases c : j = i
            · rw [c]
              exact ⟨j5, fun x x0 x1 => j6 x x0 (by omega) x1⟩
            · exact j3 j b0 (by omega)
          · refine j4.2.2 b b0 b1 ?_
            rcases u with ⟨j, jr, u⟩ | ⟨x, xr, -⟩
            · by_cases c : j = i
              · subst c
                obtain ⟨x, x0, x1, x2, x3⟩ := u
                exact Or.inr ⟨x, ⟨x0, by omega⟩, x1, x2, x3⟩
              · exact Or.inl ⟨j, by omega, u⟩
            · omega
        | succ m ihm =>
          intro e J e0 e8 j1 j2 j3 j4 j5 j6
          obtain ⟨x4, x5, x6⟩ := f4 i e i0 (by omega) e0 (by omega)
          have z4 : z32 (z32 (1600 + 32 * i + 4) + z32 (3 * e)) = 1600 + 32 * i + (4 + 3 * e) := by rw [z32_id (x := 1600 + 32 * i + 4) (by omega) (by omega), z32_id (x := 3 * e) (by omega) (by omega), z32_id (by omega) (by omega)]; omega
          have z5 : z32 (z32 (1600 + 32 * i + 5) + z32 (3 * e)) = 1600 + 32 * i + (5 + 3 * e) := by rw [z32_id (x := 1600 + 32 * i + 5) (by omega) (by omega), z32_id (x := 3 * e) (by omega) (by omega), z32_id (by omega) (by omega)]; omega
          have z6 : z32 (z32 (1600 + 32 * i + 6) + z32 (3 * e)) = 1600 + 32 * i + (6 + 3 * e) := by rw [z32_id (x := 1600 + 32 * i + 6) (by omega) (by omega), z32_id (x := 3 * e) (by omega) (by omega), z32_id (by omega) (by omega)]; omega
          have z7 : z32 (z32 (z32 (20 * i) + 3) + z32 (2 * e)) = 20 * i + 3 + 2 * e := by rw [z32_id (x := 20 * i) (by omega) (by omega), z32_id (x := 20 * i + 3) (by omega) (by omega), z32_id (x := 2 * e) (by omega) (by omega), z32_id (by omega) (by omega)]
          have z8 : z32 (z32 (z32 (20 * i) + 4) + z32 (2 * e)) = 20 * i + 4 + 2 * e := by rw [z32_id (x := 20 * i) (by omega) (by omega), z32_id (x := 20 * i + 4) (by omega) (by omega), z32_id (x := 2 * e) (by omega) (by omega), z32_id (by omega) (by omega)]
          have j43 : ∀ k, J 43 k = M 43 k := fun k => j1 43 k (by decide) (by decide) (by decide)
          -- the extent's numbers
          obtain ⟨fi, le, hfi, hle, hx⟩ : ∃ fi le : Int, zor (J 43 (1600 + 32 * i + (4 + 3 * e))) (zshl (J 43 (1600 + 32 * i + (5 + 3 * e))) 8) = fi ∧ J 43 (1600 + 32 * i + (6 + 3 * e)) = le ∧ ((A.1 (20 * i + 2) ≤ e ∧ fi = 0 ∧ le = 0) ∨ (e < A.1 (20 * i + 2) ∧ fi = A.1 (20 * i + 3 + 2 * e) ∧ le = A.1 (20 * i + 4 + 2 * e))) := by
            rw [j43, j43, j43, x4, x5, x6]
            by_cases c : A.1 (20 * i + 2) ≤ e
            · rw [if_pos c, if_pos c, if_pos c]
              exact ⟨0, 0, zor_two (by decide) (by decide), rfl, Or.inl ⟨c, rfl, rfl⟩⟩
            · rw [if_neg c, if_neg c, if_neg c]
              have a5 := a4 e e0 (by omega)
              refine ⟨_, _, rfl, rfl, Or.inr ⟨by omega, ?_, rfl⟩⟩
              rw [zor_two (by omega) (by omega)]
              omega
          refine v_206_151 ⟨fun u => by omega, fun _ => ⟨by rw [z4]; show 0 ≤ 1600 + 32 * i + (4 + 3 * e) ∧ 1600 + 32 * i + (4 + 3 * e) < L 43; omega, by rw [z5]; show 0 ≤ 1600 + 32 * i + (5 + 3 * e) ∧ 1600 + 32 * i + (5 + 3 * e) < L 43; omega, by rw [z6]; show 0 ≤ 1600 + 32 * i + (6 + 3 * e) ∧ 1600 + 32 * i + (6 + 3 * e) < L 43; omega, by rw [z7]; show 0 ≤ 20 * i + 3 + 2 * e ∧ 20 * i + 3 + 2 * e < L 45; omega, by rw [z8]; show 0 ≤ 20 * i + 4 + 2 * e ∧ 20 * i + 4 + 2 * e < L 45; omega, ?_⟩⟩
          dsimp only
          rw [z4, z5, z6, z7, z8, hfi, hle]
          -- owners of the extent
          have own : ∀ (p : Nat) (b : Int) (Y : zHp), fi ≤ b → b + p = fi + le → (∀ q i, q ≠ 45 → q ≠ 46 → q ≠ 47 → Y q i = M q i) → (∀ k, 0 ≤ k → k < 49152 → Y 47 k = M 43 k) → ldN A i Y → ldO A i e Y → (Y 45 (20 * i) = A.1 (20 * i) ∧ Y 45 (20 * i + 1) = A.1 (20 * i + 1) ∧ Y 45 (20 * i + 2) = A.1 (20 * i + 2)) → (∀ x, 0 ≤ x → x < e + 1 → x < A.1 (20 * i + 2) → Y 45 (20 * i + 3 + 2 * x) = A.1 (20 * i + 3 + 2 * x) ∧ Y 45 (20 * i + 4 + 2 * x) = A.1 (20 * i + 4 + 2 * x)) → (∀ c, fi ≤ c → c < b → Y 46 c = A.2.1 c) → zEnds 118 206 240 [(29, 35), (0, i), (0, 1600 + 32 * i), (0, e), (0, fi), (0, le), (0, b)] [] (t, L, Y) Qr Qt := by
            intro p
            induction p with
            | zero =>
              intro b Y b0 b1 y1 y2 y3 y4 y5 y6 y7
              have rg : 0 ≤ fi + le ∧ fi + le ≤ 768 := by
                rcases hx with ⟨-, h2, h3⟩ | ⟨h1, h2, h3⟩
                · omega
                · have := a4 e e0 h1
                  omega
              refine v_206_240 ⟨fun _ => ?_, fun u => absurd (by rw [z32_id (by omega) (by omega)]; omega) u⟩
              rw [z32_id (x := e + 1) (by omega) (by omega)]
              refine ihm (e + 1) Y (by omega) (by omega) y1 y2 y3 ⟨y4.1, y4.2.1, fun c c0 c1 u => ?_⟩ y5 y6
              rcases u with u | ⟨x, xr, x1, x2, x3⟩
              · exact y4.2.2 c c0 c1 (Or.inl u)
              · by_cases ce : x = e
                · subst ce
                  rcases hx with ⟨h1, -, -⟩ | ⟨h1, h2, h3⟩
                  · omega
                  · exact y7 c (by omega) (by omega)
                · exact y4.2.2 c c0 c1 (Or.inr ⟨x, by omega, x1, x2, x3⟩)
            | succ p ihp =>
              intro b Y b0 b1 y1 y2 y3 y4 y5 y6 y7
              rcases hx with ⟨h1, h2, h3⟩ | ⟨h1, h2, h3⟩
              · omega
              · have a5 := a4 e e0 h1
                have ow : A.2.1 b = i + 1 := g.1.1.2.1 i b i0 (by omega) ⟨e, e0, h1, by omega, by omega⟩
                refine v_206_240 ⟨fun u => by rw [z32_id (by omega) (by omega)] at u; omega, fun _ => ⟨by show 0 ≤ b ∧ b < L 46; omega, ?_⟩⟩
                rw [z32_id (x := b + 1) (by omega) (by omega), z32_id (x := i + 1) (by omega) (by omega)]
                have s46 : ∀ c, zupd Y 46 b (i + 1) 46 c = if c = b then i + 1 else Y 46 c := fun c => by
                  by_cases cb : c = b
                  · rw [if_pos cb, cb, zupd_at]
                  · rw [if_neg cb, zupd_no (fun z => cb z.2)]
                have s45 : ∀ c, zupd Y 46 b (i + 1) 45 c = Y 45 c := fun c => zupd_ne (by decide)
                refine ihp (b + 1) _ (by omega) (by omega) (fun q c q1 q2 q3 => by show zupd Y 46 b (i + 1) q c = _; rw [zupd_ne q2]; exact y1 q c q1 q2 q3) (fun k k0 k1 => by show zupd Y 46 b (i + 1) 47 k = _; rw [zupd_ne (by decide)]; exact y2 k k0 k1) (fun j b0 b1 => ?_) ⟨fun c c0 c1 => ?_, fun c c0 c1 => ?_, fun c c0 c1 u => ?_⟩ ?_ (fun x x0 x1 x2 => ?_) (fun c c0 c1 => ?_)
                · show (zupd Y 46 b (i + 1) 45 _ = _ ∧ zupd Y 46 b (i + 1) 45 _ = _ ∧ zupd Y 46 b (i + 1) 45 _ = _) ∧ ∀ e, 0 ≤ e → e < A.1 (20 * j + 2) → zupd Y 46 b (i + 1) 45 _ = _ ∧ zupd Y 46 b (i + 1) 45 _ = _
                  simp only [s45]
                  exact y3 j b0 b1
                · show zupd Y 46 b (i + 1) 46 c = _
                  rw [s46, if_neg (by omega)]
                  exact y4.1 c c0 c1
                · show zupd Y 46 b (i + 1) 46 c = _ ∨ zupd Y 46 b (i + 1) 46 c = _
                  rw [s46]
                  by_cases cb : c = b
                  · rw [if_pos cb, cb]
                    exact Or.inl ow.symm
                  · rw [if_neg cb]
                    exact y4.2.1 c c0 c1
                · show zupd Y 46 b (i + 1) 46 c = _
                  rw [s46]
                  by_cases cb : c = b
                  · rw [if_pos cb, cb]
                    exact ow.symm
                  · rw [if_neg cb]
                    exact y4.2.2 c c0 c1 u
                · show zupd Y 46 b (i + 1) 45 _ = _ ∧ zupd Y 46 b (i + 1) 45 _ = _ ∧ zupd Y 46 b (i + 1) 45 _ = _
                  simp only [s45]
                  exact y5
                · show zupd Y 46 b (i + 1) 45 _ = _ ∧ zupd Y 46 b (i + 1) 45 _ = _
                  simp only [s45]
                  exact y6 x x0 x1 x2
                · show zupd Y 46 b (i + 1) 46 c = _
                  rw [s46]
                  by_cases cb : c = b
                  · rw [if_pos cb, cb]
                    exact ow.symm
                  · rw [if_neg cb]
                    exact y7 c c0 (by omega)
          have le0 : 0 ≤ le := by
            rcases hx with ⟨h1, h2, h3⟩ | ⟨h1, h2, h3⟩
            · omega
            · have := a4 e e0 h1
              omega
          have far : ∀ j c, j ≠ 20 * i + 3 + 2 * e → j ≠ 20 * i + 4 + 2 * e → c = zupd (zupd J 45 (20 * i + 3 + 2 * e) fi) 45 (20 * i + 4 + 2 * e) le 45 j → c = J 45 j := fun j c n1 n2 h => by
            rw [h, zupd_no (fun z => n2 z.2), zupd_no (fun z => n1 z.2)]
          have far2 : ∀ j, j ≠ 20 * i + 3 + 2 * e → j ≠ 20 * i + 4 + 2 * e → zupd (zupd J 45 (20 * i + 3 + 2 * e) fi) 45 (20 * i + 4 + 2 * e) le 45 j = J 45 j := fun j n1 n2 => far j _ n1 n2 rfl
          have oth : ∀ q j, q ≠ 45 → zupd (zupd J 45 (20 * i + 3 + 2 * e) fi) 45 (20 * i + 4 + 2 * e) le q j = J q j := fun q j hq => by rw [zupd_ne hq, zupd_ne hq]
          refine own le.toNat fi _ (Int.le_refl _) (by omega) (fun q j q1 q2 q3 => by rw [oth q j q1]; exact j1 q j q1 q2 q3) (fun k k0 k1 => by rw [oth 47 k (by decide)]; exact j2 k k0 k1) (fun j b0 b1 => ?_) ⟨fun c c0 c1 => by rw [oth 46 c (by decide)]; exact j4.1 c c0 c1, fun c c0 c1 => by rw [oth 46 c (by decide)]; exact j4.2.1 c c0 c1, fun c c0 c1 u => by rw [oth 46 c (by decide)]; exact j4.2.2 c c0 c1 u⟩ ?_ (fun x x0 x1 x2 => ?_) (fun c c0 c1 => by omega)
          · refine ⟨?_, fun x x0 x1 => ?_⟩
            · rw [far2 _ (by omega) (by omega), far2 _ (by omega) (by omega), far2 _ (by omega) (by omega)]
              exact (j3 j b0 b1).1
            · have c8 := (g.1.1.1 j b0 (by omega)).2.2.1.2
              rw [far2 _ (by omega) (by omega), far2 _ (by omega) (by omega)]
              exact (j3 j b0 b1).2 x x0 x1
          · rw [far2 _ (by omega) (by omega), far2 _ (by omega) (by omega), far2 _ (by omega) (by omega)]
            exact j5
          · by_cases cx : x = e
            · subst cx
              rcases hx with ⟨h1, -, -⟩ | ⟨h1, h2, h3⟩
              · omega
              · rw [zupd_no (by omega), zupd_at, zupd_at]
                exact ⟨h2, h3⟩
            · rw [far2 _ (by omega) (by omega), far2 _ (by omega) (by omega)]
              exact j6 x x0 (by omega) x2
      have ef : z32 (z32 (64 * z32 (25 + zdiv i 2)) + z32 (32 * zrem i 2)) = 1600 + 32 * i := by
        rw [zdiv_pos i0 (by omega) (by decide), zrem_pos i0, z32_id (x := 25 + i / 2) (by omega) (by omega), z32_id (x := 64 * (25 + i / 2)) (by omega) (by omega), z32_id (x := 32 * (i % 2)) (by omega) (by omega), z32_id (by omega) (by omega)]
        omega
      have y1 : z32 (1600 + 32 * i + 1) = 1600 + 32 * i + 1 := z32_id (by omega) (by omega)
      have y2 : z32 (1600 + 32 * i + 2) = 1600 + 32 * i + 2 := z32_id (by omega) (by omega)
      have y3 : z32 (1600 + 32 * i + 3) = 1600 + 32 * i + 3 := z32_id (by omega) (by omega)
      have y20 : z32 (20 * i) = 20 * i := z32_id (by omega) (by omega)
      have y21 : z32 (20 * i + 1) = 20 * i + 1 := z32_id (by omega) (by omega)
      have y22 : z32 (20 * i + 2) = 20 * i + 2 := z32_id (by omega) (by omega)
      have k43 : ∀ k, K 43 k = M 43 k := fun k => e1 43 k (by decide) (by decide) (by decide)
      refine v_206_61 ⟨fun u => by omega, fun _ => ?_⟩
      rw [ef, y1, y2, y3, y20, y21, y22]
      refine ⟨by decide, by decide, by show 0 ≤ 1600 + 32 * i ∧ 1600 + 32 * i < L 43; omega, by show 0 ≤ 20 * i ∧ 20 * i < L 45; omega, by show 0 ≤ 1600 + 32 * i + 2 ∧ 1600 + 32 * i + 2 < L 43; omega, by show 0 ≤ 1600 + 32 * i + 3 ∧ 1600 + 32 * i + 3 < L 43; omega, by show 0 ≤ 20 * i + 1 ∧ 20 * i + 1 < L 45; omega, by show 0 ≤ 1600 + 32 * i + 1 ∧ 1600 + 32 * i + 1 < L 43; omega, by show 0 ≤ 20 * i + 2 ∧ 20 * i + 2 < L 45; omega, ?_⟩
      have sz := a2
      have ez : zor (M 43 (1600 + 32 * i + 2)) (zshl (M 43 (1600 + 32 * i + 3)) 8) = A.1 (20 * i + 1) := by
        rw [f2 i i0 (by omega), f3 i i0 (by omega), zor_two (by omega) (by omega)]
        omega
      dsimp only
      rw [zupd_ne (show (43 : Int) ≠ 45 by decide), zupd_ne (show (43 : Int) ≠ 45 by decide), zupd_ne (show (43 : Int) ≠ 45 by decide), zupd_ne (show (43 : Int) ≠ 45 by decide), k43, k43, k43, k43, ez, f0 i i0 (by omega), f1 i i0 (by omega)]
      have oth : ∀ q j, q ≠ 45 → zupd (zupd (zupd K 45 (20 * i) (A.1 (20 * i))) 45 (20 * i + 1) (A.1 (20 * i + 1))) 45 (20 * i + 2) (A.1 (20 * i + 2)) q j = K q j := fun q j hq => by rw [zupd_ne hq, zupd_ne hq, zupd_ne hq]
      have far : ∀ j, j ≠ 20 * i → j ≠ 20 * i + 1 → j ≠ 20 * i + 2 → zupd (zupd (zupd K 45 (20 * i) (A.1 (20 * i))) 45 (20 * i + 1) (A.1 (20 * i + 1))) 45 (20 * i + 2) (A.1 (20 * i + 2)) 45 j = K 45 j := fun j n1 n2 n3 => by rw [zupd_no (fun z => n3 z.2), zupd_no (fun z => n2 z.2), zupd_no (fun z => n1 z.2)]
      refine ext 8 0 _ (by decide) (by decide) (fun q j q1 q2 q3 => by rw [oth q j q1]; exact e1 q j q1 q2 q3) (fun k k0 k1 => by rw [oth 47 k (by decide)]; exact e2 k k0 k1) (fun j b0 b1 => ?_) ⟨fun c c0 c1 => by rw [oth 46 c (by decide)]; exact e4.1 c c0 c1, fun c c0 c1 => by rw [oth 46 c (by decide)]; exact e4.2.1 c c0 c1, fun c c0 c1 u => by rw [oth 46 c (by decide)]; exact e4.2.2 c c0 c1 u⟩ ⟨?_, ?_, ?_⟩ (fun x x0 x1 => by omega)
      · have c8 := (g.1.1.1 j b0 (by omega)).2.2.1.2
        refine ⟨?_, fun x x0 x1 => ?_⟩
        · rw [far _ (by omega) (by omega) (by omega), far _ (by omega) (by omega) (by omega), far _ (by omega) (by omega) (by omega)]
          exact (e3 j b0 b1).1
        · rw [far _ (by omega) (by omega) (by omega), far _ (by omega) (by omega) (by omega)]
          exact (e3 j b0 b1).2 x x0 x1
      · rw [zupd_no (by omega), zupd_no (by omega), zupd_at]
      · rw [zupd_no (by omega), zupd_at]
      · rw [zupd_at]
  -- owners
  have key2 : ∀ (n : Nat) (b : Int) (K : zHp), 0 ≤ b → b + n = 768 → (∀ q i, q ≠ 45 → q ≠ 46 → q ≠ 47 → K q i = M q i) → (∀ k, 0 ≤ k → k < 49152 → K 47 k = M 43 k) → (∀ c, 0 ≤ c → c < b → K 46 c = if c < 59 then 100 else 0) → zEnds 118 206 28 [(29, 35), (0, b), (9, 0), (9, 0), (9, 0), (9, 0), (9, 0)] [] (t, L, K) Qr Qt := by
    intro n
    induction n with
    | zero =>
      intro b K b0 b1 e1 e2 e3
      refine v_206_28 ⟨fun _ => key 64 0 K (by decide) (by decide) e1 e2 (fun j j0 j1 => by omega) ⟨fun c c0 c1 => by rw [e3 c c0 (by omega), if_pos c1], fun c c0 c1 => Or.inr (by rw [e3 c (by omega) (by omega), if_neg (by omega)]), fun c c0 c1 u => ?_⟩, fun u => by omega⟩
      rcases u with ⟨j, jr, -⟩ | ⟨x, xr, -⟩
      · omega
      · omega
    | succ n ih =>
      intro b K b0 b1 e1 e2 e3
      have st : ∀ v, (v = if b < 59 then 100 else 0) → zEnds 118 206 28 [(29, 35), (0, b + 1), (9, 0), (9, 0), (9, 0), (9, 0), (9, 0)] [] (t, L, zupd K 46 b v) Qr Qt := fun v hv => by
        refine ih (b + 1) _ (by omega) (by omega) (fun q j q1 q2 q3 => by rw [zupd_ne q2]; exact e1 q j q1 q2 q3) (fun k k0 k1 => by rw [zupd_ne (by decide)]; exact e2 k k0 k1) (fun c c0 c1 => ?_)
        by_cases cb : c = b
        · rw [cb, zupd_at, hv]
        · rw [zupd_no (fun z => cb z.2)]
          exact e3 c c0 (by omega)
      refine v_206_28 ⟨fun u => by omega, fun _ => ⟨fun u => ⟨by show 0 ≤ b ∧ b < L 46; omega, ?_⟩, fun u => ⟨by show 0 ≤ b ∧ b < L 46; omega, ?_⟩⟩⟩
      · rw [z32_id (x := b + 1) (by omega) (by omega)]
        exact st 0 (by rw [if_neg (by omega)])
      · rw [z32_id (x := b + 1) (by omega) (by omega)]
        exact st 100 (by rw [if_pos (by omega)])
  have key1 : ∀ (n : Nat) (b : Int) (K : zHp), 0 ≤ b → b + n = 49152 → (∀ q i, q ≠ 45 → q ≠ 46 → q ≠ 47 → K q i = M q i) → (∀ k, 0 ≤ k → k < b → K 47 k = M 43 k) → zEnds 118 206 2 [(29, 35), (0, b), (9, 0), (9, 0), (9, 0), (9, 0), (9, 0)] [] (t, L, K) Qr Qt := by
    intro n
    induction n with
    | zero =>
      intro b K b0 b1 e1 e2
      exact v_206_2 ⟨fun _ => key2 768 0 K (by decide) (by decide) e1 (fun k k0 k1 => e2 k k0 (by omega)) (fun c c0 c1 => by omega), fun u => by omega⟩
    | succ n ih =>
      intro b K b0 b1 e1 e2
      refine v_206_2 ⟨fun u => by omega, fun _ => ⟨by show 0 ≤ b ∧ b < L 43; omega, by show 0 ≤ b ∧ b < L 47; omega, ?_⟩⟩
      rw [z32_id (x := b + 1) (by omega) (by omega)]
      refine ih (b + 1) _ (by omega) (by omega) (fun q j q1 q2 q3 => by show zupd K 47 b _ q j = _; rw [zupd_ne q3]; exact e1 q j q1 q2 q3) (fun k k0 k1 => ?_)
      show zupd K 47 b (K 43 b) 47 k = _
      by_cases cb : k = b
      · rw [cb, zupd_at]
        exact e1 43 b (by decide) (by decide) (by decide)
      · rw [zupd_no (fun z => cb z.2)]
        exact e2 k k0 (by omega)
  exact v_206 (key1 49152 0 M (by decide) (by decide) (fun _ _ _ _ _ => rfl) (fun k k0 k1 => by omega))
end LOADS
