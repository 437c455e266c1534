/-! One inode changes: the tree stays good. -/
section GOOD
variable {B : Int} {A A' : aSt} {d e i j k b s v : Int}
/-- all of a good tree but its names -/
def aGo (B : Int) (A : aSt) : Prop := aG B A ∧ aBy B A ∧ aOw B A ∧ aT0 A.1 ∧ aTl A
theorem aGood.go (g : aGood B A) : aGo B A := ⟨g.1, g.2.1, g.2.2.1, g.2.2.2.1, g.2.2.2.2.1⟩
theorem aGo.good (g : aGo B A) (h : aTr A) : aGood B A := ⟨g.1, g.2.1, g.2.2.1, g.2.2.2.1, g.2.2.2.2, h⟩
theorem aOne (g : aGo B A) (hi : 0 ≤ i ∧ i < 64) (u : aU B A') (off : aOff A.1 A'.1 i) (z : aTot A'.1 i = (A'.1 (20 * i + 1) + 63) / 64 ∧ (A'.1 (20 * i) = 2 → A'.1 (20 * i + 1) % 64 = 0))
    (ow : ∀ b, 0 ≤ b → b < 768 → A'.2.1 b = A.2.1 b ∨ (59 ≤ b ∧ A'.2.1 b = 0) ∨ (59 ≤ b ∧ b < B ∧ A'.2.1 b = i + 1 ∧ aIn A'.1 i b)) (kp : ∀ b, aIn A.1 i b → A'.2.1 b ≠ 0 → aIn A'.1 i b)
    (by' : ∀ b x, 59 ≤ b → b < B → 0 < A'.2.1 b → 0 ≤ x → x < 64 → (A'.2.2 (64 * b + x) = A.2.2 (64 * b + x) ∧ 0 < A.2.1 b) ∨ (0 ≤ A'.2.2 (64 * b + x) ∧ A'.2.2 (64 * b + x) < 256))
    (sm : ∀ b, 59 ≤ b → b < B → 0 < A.2.1 b → A.2.1 b ≠ i + 1 → ∀ x, 0 ≤ x → x < 64 → A'.2.2 (64 * b + x) = A.2.2 (64 * b + x))
    (t0 : A'.1 (20 * i) = 0 → A'.1 (20 * i + 1) = 0 ∧ 1 ≤ i) (tl : ∀ k, A'.1 (20 * i + 1) ≤ k → k < 64 * aTot A'.1 i → aGet A' i k = 0) : aGo B A' ∧ ∀ d, 0 ≤ d → d < 64 → d ≠ i → aSm A A' d := by
  have c8 : ∀ j, 0 ≤ j → j < 64 → A.1 (20 * j + 2) ≤ 8 := fun j j0 j1 => (g.1.1.1 j j0 j1).2.2.1.2
  have eq : ∀ d, d ≠ i → ∀ j, 20 * d ≤ j → j < 20 * d + 20 → A'.1 j = A.1 j := fun d hd j j0 j1 => off j (by omega)
  have sm' : ∀ d, 0 ≤ d → d < 64 → d ≠ i → aSm A A' d := fun d d0 d1 hd => ⟨eq d hd, fun b hb x x0 x1 => by
    have rg := aIn_rg (g.1.1.1 d d0 d1) hb
    have o := g.1.1.2.1 d b d0 d1 hb
    exact sm b rg.1 rg.2 (by omega) (by omega) x x0 x1⟩
  refine ⟨⟨⟨u, fun k k0 k1 => ?_⟩, fun b x b0 b1 o x0 x1 => ?_, ⟨fun b b0 b1 => ?_, fun b b0 b1 => ?_⟩, fun k k0 k1 hk => ?_, fun k x k0 k1 x0 x1 => ?_⟩, sm'⟩
  · by_cases c : k = i
    · rw [c]; exact z
    · rw [aTot_eq (eq k c) (c8 k k0 k1), eq k c (20 * k) (by omega) (by omega), eq k c (20 * k + 1) (by omega) (by omega)]
      exact g.1.2 k k0 k1
  · rcases by' b x b0 b1 o x0 x1 with ⟨y, o'⟩ | y
    · rw [y]; exact g.2.1 b x b0 b1 o' x0 x1
    · exact y
  · rcases ow b b0 (by omega) with y | y | y
    · rw [y]; exact g.2.2.1.1 b b0 b1
    · omega
    · omega
  · rcases ow b (by omega) b1 with y | ⟨-, y⟩ | ⟨-, y1, y2, y3⟩
    · by_cases c : A'.2.1 b = 0
      · exact Or.inl c
      · rcases g.2.2.1.2 b b0 b1 with v | ⟨v0, j, v1, v2, v3⟩
        · exact absurd (y.trans v) c
        · refine Or.inr ⟨v0, j, v1, by rw [y, v2], ?_⟩
          by_cases cj : j = i
          · subst cj
            exact kp b v3 c
          · exact (aIn_eq (eq j cj) (c8 j v1.1 v1.2)).mpr v3
    · exact Or.inl y
    · exact Or.inr ⟨y1, i, hi, y2, y3⟩
  · by_cases c : k = i
    · rw [c] at hk ⊢
      exact t0 hk
    · rw [eq k c (20 * k) (by omega) (by omega)] at hk
      rw [eq k c (20 * k + 1) (by omega) (by omega)]
      exact g.2.2.2.1 k k0 k1 hk
  · by_cases c : k = i
    · subst c
      exact tl x x0 x1
    · rw [eq k c (20 * k + 1) (by omega) (by omega)] at x0
      rw [aTot_eq (eq k c) (c8 k k0 k1)] at x1
      have s0 := (g.1.1.1 k k0 k1).2.1.1
      rw [(sm' k k0 k1 c).get g.1.1.1 ⟨k0, k1⟩ ⟨by omega, x1⟩]
      exact g.2.2.2.2 k x k0 k1 x0 x1
theorem aIn_size {N : Int → Int} (hc : N (20 * k + 2) ≤ 8) : aIn (bU N (20 * i + 1) s) k b ↔ aIn N k b := by
  unfold aIn
  rw [bU_ne (by omega)]
  constructor
  · rintro ⟨e, e0, e1, e2, e3⟩
    rw [bU_ne (by omega)] at e2 e3
    rw [bU_ne (by omega)] at e3
    exact ⟨e, e0, e1, e2, e3⟩
  · rintro ⟨e, e0, e1, e2, e3⟩
    refine ⟨e, e0, e1, ?_, ?_⟩
    · rw [bU_ne (by omega)]; exact e2
    · rw [bU_ne (by omega), bU_ne (by omega)]; exact e3
theorem aTot_nn (g : aN B A.1) (hi : 0 ≤ i ∧ i < 64) : 0 ≤ aTot A.1 i := by
  refine gSum_nn _ _ (fun x x0 x1 => ?_)
  have c := (g i hi.1 hi.2).2.2.1
  have := (g i hi.1 hi.2).2.2.2 x x0 (by omega)
  omega
/-- a size changed -/
theorem aRes_go (g : aGo B A) (hi : 0 ≤ i ∧ i < 64) (hs : 0 ≤ s ∧ s ≤ 65535) (hk : A.1 (20 * i) ≠ 0) (h6 : A.1 (20 * i) = 2 → s % 64 = 0) (h : aRes B A i s = some A') : (aGo B A' ∧ ∀ d, 0 ≤ d → d < 64 → d ≠ i → aSm A A' d) ∧ (A'.1 (20 * i + 1) = s ∧ A'.1 (20 * i) = A.1 (20 * i)) ∧ (∀ j, ¬ (20 * i ≤ j ∧ j < 20 * i + 20) → A'.1 j = A.1 j) := by
  unfold aRes at h
  have tot := (g.1.2 i hi.1 hi.2).1
  have sz := (g.1.1.1 i hi.1 hi.2).2.1
  cases ht : aTakeN B i ((s + 63) / 64 - (A.1 (20 * i + 1) + 63) / 64).toNat A with
  | none => rw [ht] at h; cases h
  | some A1 =>
    rw [ht] at h
    have h := (Option.some.inj h).symm
    obtain ⟨t1, t2, ⟨t3, t3'⟩, t4, t5, t6, t7, t8, t9⟩ := aTakeN_spec hi _ A A1 g.1.1 ht
    obtain ⟨q1, q2, ⟨q3, q3'⟩, q4, q5, q6, q7, q8, q9⟩ := aGiveN_spec (B := B) hi ((A.1 (20 * i + 1) + 63) / 64 - (s + 63) / 64).toNat A1 t1 (by omega)
    generalize aGiveN i ((A.1 (20 * i + 1) + 63) / 64 - (s + 63) / 64).toNat A1 = A2 at h q1 q2 q3 q3' q4 q5 q6 q7 q8 q9
    subst h
    have c8 : ∀ j, 0 ≤ j → j < 64 → A2.1 (20 * j + 2) ≤ 8 := fun j j0 j1 => (q1.1 j j0 j1).2.2.1.2
    have tot2 : aTot A2.1 i = (s + 63) / 64 := by omega
    have ow2 : ∀ b, A2.2.1 b = A.2.1 b ∨ (aIn A1.1 i b ∧ A2.2.1 b = 0) ∨ (A2.2.1 b = i + 1 ∧ aIn A2.1 i b) := fun b => by
      by_cases c1 : aIn A1.1 i b
      · by_cases c2 : aIn A2.1 i b
        · exact Or.inr (Or.inr ⟨q1.2.1 i b hi.1 hi.2 c2, c2⟩)
        · exact Or.inr (Or.inl ⟨c1, q9 b c1 c2⟩)
      · rw [q8 b c1]
        rcases t7 b with y | y
        · exact Or.inl y
        · exact absurd y.2.2.1 c1
    have lb : s % 64 ≠ 0 → aIn A2.1 i (aBlk A2.1 i (s / 64)) := fun c => aBlk_in (q1.1 i hi.1 hi.2) (by omega)
    have clr : ∀ y, aClr A2.1 A2.2.2 i s y = A2.2.2 y ∨ (aClr A2.1 A2.2.2 i s y = 0 ∧ s % 64 ≠ 0 ∧ 64 * aBlk A2.1 i (s / 64) ≤ y ∧ y < 64 * aBlk A2.1 i (s / 64) + 64) := fun y => by
      unfold aClr
      by_cases c : s % 64 = 0
      · rw [if_pos c]; exact Or.inl rfl
      · rw [if_neg c]
        unfold bR
        by_cases c2 : 64 * aBlk A2.1 i (s / 64) + s % 64 ≤ y ∧ y < 64 * aBlk A2.1 i (s / 64) + 64
        · rw [if_pos c2]; exact Or.inr ⟨rfl, c, by omega, by omega⟩
        · rw [if_neg c2]; exact Or.inl rfl
    refine ⟨aOne g hi ?_ ?_ ?_ ?_ ?_ ?_ ?_ ?_ ?_, ⟨bU_at, by show bU A2.1 (20 * i + 1) s (20 * i) = _; rw [bU_ne (by omega), q3, t3]⟩, fun j hj => by show bU A2.1 (20 * i + 1) s j = _; rw [bU_ne (by omega), q4 j hj, t4 j hj]⟩
    · exact aU_size q1 hi hs
    · intro j hj
      show bU A2.1 (20 * i + 1) s j = A.1 j
      rw [bU_ne (by omega), q4 j hj, t4 j hj]
    · show aTot (bU A2.1 (20 * i + 1) s) i = (bU A2.1 (20 * i + 1) s (20 * i + 1) + 63) / 64 ∧ (bU A2.1 (20 * i + 1) s (20 * i) = 2 → bU A2.1 (20 * i + 1) s (20 * i + 1) % 64 = 0)
      rw [aTot_size (c8 i hi.1 hi.2), bU_at, bU_ne (by omega), q3, t3]
      exact ⟨tot2, h6⟩
    · intro b b0 b1
      show A2.2.1 b = A.2.1 b ∨ (59 ≤ b ∧ A2.2.1 b = 0) ∨ (59 ≤ b ∧ b < B ∧ A2.2.1 b = i + 1 ∧ aIn (bU A2.1 (20 * i + 1) s) i b)
      rcases ow2 b with y | ⟨y1, y2⟩ | ⟨y1, y2⟩
      · exact Or.inl y
      · exact Or.inr (Or.inl ⟨(aIn_rg (t1.1 i hi.1 hi.2) y1).1, y2⟩)
      · have rg := aIn_rg (q1.1 i hi.1 hi.2) y2
        exact Or.inr (Or.inr ⟨rg.1, rg.2, y1, (aIn_size (c8 i hi.1 hi.2)).mpr y2⟩)
    · intro b u nz
      show aIn (bU A2.1 (20 * i + 1) s) i b
      have nz : A2.2.1 b ≠ 0 := nz
      rw [aIn_size (c8 i hi.1 hi.2)]
      apply Classical.byContradiction
      intro c
      exact nz (q9 b (t8 b u) c)
    · intro b x b0 b1 o x0 x1
      show (aClr A2.1 A2.2.2 i s (64 * b + x) = A.2.2 (64 * b + x) ∧ 0 < A.2.1 b) ∨ (0 ≤ aClr A2.1 A2.2.2 i s (64 * b + x) ∧ aClr A2.1 A2.2.2 i s (64 * b + x) < 256)
      have o : 0 < A2.2.1 b := o
      rcases clr (64 * b + x) with y | ⟨y, -⟩
      · rw [y, q6]
        rcases t7 b with v | ⟨-, -, -, v⟩
        · by_cases c : 0 < A.2.1 b
          · exact Or.inl ⟨(t6 b c).2 x x0 x1, c⟩
          · exfalso
            rcases ow2 b with w | ⟨-, w⟩ | ⟨w1, w2⟩
            · omega
            · omega
            · have := (q7 b w2).2
              omega
        · rw [v x x0 x1]; exact Or.inr ⟨by decide, by decide⟩
      · rw [y]; exact Or.inr ⟨by decide, by decide⟩
    · intro b b0 b1 o ne x x0 x1
      show aClr A2.1 A2.2.2 i s (64 * b + x) = A.2.2 (64 * b + x)
      rcases clr (64 * b + x) with y | ⟨-, y1, y2, y3⟩
      · rw [y, q6]; exact (t6 b o).2 x x0 x1
      · exfalso
        have eb : aBlk A2.1 i (s / 64) = b := by omega
        have y := lb y1
        rw [eb] at y
        have w := (q7 b y).2
        have w2 := q1.2.1 i b hi.1 hi.2 y
        have w3 := (t6 b o).1
        omega
    · intro u
      have u : bU A2.1 (20 * i + 1) s (20 * i) = 0 := u
      rw [bU_ne (by omega), q3, t3] at u
      exact absurd u hk
    · intro k k0 k1
      have k0 : bU A2.1 (20 * i + 1) s (20 * i + 1) ≤ k := k0
      have k1 : k < 64 * aTot (bU A2.1 (20 * i + 1) s) i := k1
      rw [bU_at] at k0
      rw [aTot_size (c8 i hi.1 hi.2), tot2] at k1
      show aClr A2.1 A2.2.2 i s (64 * aBlk (bU A2.1 (20 * i + 1) s) i (k / 64) + k % 64) = 0
      rw [aBlk_size (c8 i hi.1 hi.2)]
      have c : s % 64 ≠ 0 := by omega
      unfold aClr
      rw [if_neg c]
      unfold bR
      rw [show k / 64 = s / 64 by omega, if_pos (by omega)]
/-- files that change leave the names alone -/
theorem aTr_file (g : aGood B A) (g' : aG B A') (hk : A.1 (20 * i) = 1 ∧ A'.1 (20 * i) = 1) (sm : ∀ d, 0 ≤ d → d < 64 → d ≠ i → aSm A A' d) (off : ∀ j, ¬ (20 * i ≤ j ∧ j < 20 * i + 20) → A'.1 j = A.1 j) : aTr A' := by
  have nd : ∀ d e, aNd A' d e → aNd A d e ∧ aNo A' d e = aNo A d e := fun d e u => by
    by_cases c : d = i
    · subst c
      have := u.2.1
      omega
    · have s := sm d u.1.1 u.1.2 c
      have v := (s.nd g.1).1.mp u
      exact ⟨v, (s.nd g.1).2 v⟩
  refine aTr_sub g.2.2.2.2.2 nd (fun d e u => ?_)
  have v := g.2.2.2.2.2.1 d e (nd d e u).1
  by_cases c : aNo A d e = i
  · rw [c, hk.2]; decide
  · rw [off _ (by omega)]; exact v.2
theorem aRes_good (g : aGood B A) (hi : 0 ≤ i ∧ i < 64) (hs : 0 ≤ s ∧ s ≤ 65535) (hk : A.1 (20 * i) = 1) (h : aRes B A i s = some A') : aGood B A' ∧ A'.1 (20 * i + 1) = s ∧ A'.1 (20 * i) = 1 := by
  obtain ⟨⟨g1, g2⟩, ⟨g3, g4⟩, g5⟩ := aRes_go g.go hi hs (by omega) (by omega) h
  exact ⟨g1.good (aTr_file g g1.1 ⟨hk, by omega⟩ g2 g5), g3, by omega⟩
end GOOD
